set_option maxRecDepth 100000 in
set_option maxHeartbeats 4000000 in
theorem c_X5_isKind (w : Wx) (O : Mem) (l : Launch) (a0 : Int32) (M : Mem)  (z : Int32) (hz : f_X5_isKind a0 = some z) : Ct w 0 36 O l 0 muX5_isKind [.int a0] M (some (.int z), M) := by
  refine ct_of (X := f_X5_isKind a0) (K := fun v => some (some (.int v), M)) [some (.int a0)] rfl rfl (Nat.le_of_ble_eq_true rfl) (by rw [hz]; rfl) ?_
  intro p e s m args below meth c G
  unfold f_X5_isKind
  refine s_iload_n G dX5_isKind_0 rfl ?_
  refine s_join 15 (fun y1 : Int32 => [none]) (fun y1 => [.int y1]) (fun y1 => M) (fun y1 => ?_) (fun K1 hB1 => ?_)
  · refine s_test (fun h15 => ?_)
    exact s_zret G rfl (zb_nar h15) rfl dX5_isKind_15
  · refine s_if_lt (tgt := 14) G dX5_isKind_1 (by decide) ?_ ?_
    · refine s_iconst (v := 0) G dX5_isKind_14 (by decide) ?_
      refine s_keep [false] (lv2 := [none]) rfl ?_
      exact fun hx => hB1 0 hx
    · refine s_iload_n G dX5_isKind_4 rfl ?_
      refine s_bipush (v := 6) G dX5_isKind_5 (by decide) ?_
      refine s_icmp_ge (tgt := 14) G dX5_isKind_7 (by decide) ?_ ?_
      · refine s_iconst (v := 0) G dX5_isKind_14 (by decide) ?_
        refine s_keep [false] (lv2 := [none]) rfl ?_
        exact fun hx => hB1 0 hx
      · refine s_iconst (v := 1) G dX5_isKind_10 (by decide) ?_
        refine s_goto (tgt := 15) G dX5_isKind_11 (by decide) ?_
        refine s_keep [false] (lv2 := [none]) rfl ?_
        exact fun hx => hB1 1 hx

set_option maxRecDepth 100000 in
set_option maxHeartbeats 4000000 in
theorem c_X5_told (w : Wx) (O : Mem) (l : Launch) (a1 : Int32) (M : Mem)  (z : Int32 × Mem) (hz : f_X5_told a1 M = some z) : Ct w 0 36 O l 0 muX5_told [.ref (w.1 0), .int a1] M (some (.int z.1), z.2) := by
  refine ct_of (X := f_X5_told a1 M) (K := fun v => some (some (.int v.1), v.2)) [some (.ref (w.1 0)), some (.int a1), none] rfl rfl (Nat.le_of_ble_eq_true rfl) (by rw [hz]; rfl) ?_
  intro p e s m args below meth c G
  unfold f_X5_told
  refine s_ldc (v := (-1000000001)) G dX5_told_0 qw249 ?_
  refine s_iload_n G dX5_told_2 rfl ?_
  refine s_isub G dX5_told_3 ?_
  refine s_name (f := Value.int) (fun v4 => ?_)
  refine s_istore_n (lv2 := [some (.ref (w.1 0)), some (.int a1), some (.int v4)]) G dX5_told_4 (by decide) rfl rfl ?_
  refine s_iload_n G dX5_told_5 rfl ?_
  refine s_join 25 (fun y6 : Mem => [none, some (.int a1), none]) (fun y6 => []) (fun y6 => y6) (fun y6 => ?_) (fun K6 hB6 => ?_)
  · refine s_iload_n G dX5_told_25 rfl ?_
    exact s_iret G rfl rfl dX5_told_26
  · refine s_if_lt (tgt := 25) G dX5_told_6 (by decide) ?_ ?_
    · refine s_keep [false, true, false] (lv2 := [none, some (.int a1), none]) rfl ?_
      exact fun hx => hB6 M hx
    · refine s_iload_n G dX5_told_9 rfl ?_
      refine s_bipush (v := 7) G dX5_told_10 (by decide) ?_
      refine s_icmp_ge (tgt := 25) G dX5_told_12 (by decide) ?_ ?_
      · refine s_keep [false, true, false] (lv2 := [none, some (.int a1), none]) rfl ?_
        exact fun hx => hB6 M hx
      · refine s_aload_n G dX5_told_15 rfl ?_
        refine s_get (k := 0) (j := 7) G (.ref (w.1 35)) ⟨by decide, by decide⟩ (ce0 w) rfl clX5 (by decide) qw221 rfl dX5_told_16 ?_
        refine s_iload_n G dX5_told_19 rfl ?_
        refine s_dup2 G dX5_told_20 rfl rfl ?_
        refine s_iald (k := 35) (n := 7) G ⟨by decide, by decide⟩ (ce35 w) dX5_told_21 ?_
        refine s_iconst (v := 1) G dX5_told_22 (by decide) ?_
        refine s_iadd G dX5_told_23 ?_
        refine s_iast (k := 35) (n := 7) G ⟨by decide, by decide⟩ (ce35 w) dX5_told_24 (fun m24 => ?_)
        refine s_keep [false, true, false] (lv2 := [none, some (.int a1), none]) rfl ?_
        exact fun hx => hB6 m24 hx

set_option maxRecDepth 100000 in
set_option maxHeartbeats 4000000 in
theorem c_X0_addHanger (w : Wx) (O : Mem) (l : Launch) (a1 : Int32) (M : Mem)  (z : Int32 × Mem) (hz : f_X0_addHanger a1 M = some z) : Ct w 0 36 O l 0 muX0_addHanger [.ref (w.1 1), .int a1] M (some (.int z.1), z.2) := by
  refine ct_of (X := f_X0_addHanger a1 M) (K := fun v => some (some (.int v.1), v.2)) [some (.ref (w.1 1)), some (.int a1), none] rfl rfl (Nat.le_of_ble_eq_true rfl) (by rw [hz]; rfl) ?_
  intro p e s m args below meth c G
  unfold f_X0_addHanger
  refine s_aload_n G dX0_addHanger_0 rfl ?_
  refine s_get (k := 1) (j := 0) G (.int (gI M 1 0)) ⟨by decide, by decide⟩ (ce1 w) rfl clX0 (by decide) qw91 rfl dX0_addHanger_1 ?_
  refine s_name (f := Value.int) (fun v4 => ?_)
  refine s_istore_n (lv2 := [some (.ref (w.1 1)), some (.int a1), some (.int v4)]) G dX0_addHanger_4 (by decide) rfl rfl ?_
  refine s_aload_n G dX0_addHanger_5 rfl ?_
  refine s_get (k := 1) (j := 4) G (.ref (w.1 2)) ⟨by decide, by decide⟩ (ce1 w) rfl clX0 (by decide) qw103 rfl dX0_addHanger_6 ?_
  refine s_iload_n G dX0_addHanger_9 rfl ?_
  refine s_iload_n G dX0_addHanger_10 rfl ?_
  refine s_iast (k := 2) (n := 12) G ⟨by decide, by decide⟩ (ce2 w) dX0_addHanger_11 (fun m11 => ?_)
  refine s_aload_n G dX0_addHanger_12 rfl ?_
  refine s_dup G dX0_addHanger_13 rfl ?_
  refine s_get (k := 1) (j := 0) G (.int (gI m11 1 0)) ⟨by decide, by decide⟩ (ce1 w) rfl clX0 (by decide) qw91 rfl dX0_addHanger_14 ?_
  refine s_iconst (v := 1) G dX0_addHanger_17 (by decide) ?_
  refine s_iadd G dX0_addHanger_18 ?_
  refine s_put (k := 1) (j := 0) G ⟨by decide, by decide⟩ (ce1 w) (fun _ => rfl) clX0 (by decide) (fun _ => (by decide : 0 < 9)) qw91 rfl rfl rfl rfl dX0_addHanger_19 (fun m19 => ?_)
  refine s_iload_n G dX0_addHanger_22 rfl ?_
  exact s_iret G rfl rfl dX0_addHanger_23

set_option maxRecDepth 100000 in
set_option maxHeartbeats 4000000 in
theorem c_X5_hanger (w : Wx) (O : Mem) (l : Launch) (a1 : Int32) (M : Mem)  (z : Int32 × Mem) (hz : f_X5_hanger a1 M = some z) : Ct w 0 36 O l 1 muX5_hanger [.ref (w.1 0), .int a1] M (some (.int z.1), z.2) := by
  refine ct_of (X := f_X5_hanger a1 M) (K := fun v => some (some (.int v.1), v.2)) [some (.ref (w.1 0)), some (.int a1)] rfl rfl (Nat.le_of_ble_eq_true rfl) (by rw [hz]; rfl) ?_
  intro p e s m args below meth c G
  unfold f_X5_hanger
  refine s_iload_n G dX5_hanger_0 rfl ?_
  refine s_callSi (as := [.int a1]) (st := []) G aw_self mdX5_isKind (fun _ h => c_X5_isKind w O l a1 M _ h) qw246 rfl rfl (Nat.le_of_ble_eq_true rfl) (by decide) dX5_hanger_1 (fun r1 => ?_)
  refine s_if_ne (tgt := 14) G dX5_hanger_4 (by decide) ?_ ?_
  · refine s_aload_n G dX5_hanger_7 rfl ?_
    refine s_ldc (v := (-1000000001)) G dX5_hanger_8 qw249 ?_
    refine s_callVI (as := [.int (-1000000001)]) (st := []) (k := 0) G aw_self mdX5_told (fun _ h => c_X5_told w O l (-1000000001) M _ h) ⟨by decide, by decide⟩ (ce0 w) clX5 rfl qw250 rfl rfl (Nat.le_of_ble_eq_true rfl) (by decide) dX5_hanger_10 (fun r10 => ?_)
    exact s_iret G rfl rfl dX5_hanger_13
  · refine s_aload_n G dX5_hanger_14 rfl ?_
    refine s_get (k := 0) (j := 0) G (.ref (w.1 1)) ⟨by decide, by decide⟩ (ce0 w) rfl clX5 (by decide) qw214 rfl dX5_hanger_15 ?_
    refine s_get (k := 1) (j := 0) G (.int (gI M 1 0)) ⟨by decide, by decide⟩ (ce1 w) rfl clX0 (by decide) qw92 rfl dX5_hanger_18 ?_
    refine s_bipush (v := 12) G dX5_hanger_21 (by decide) ?_
    refine s_icmp_lt (tgt := 33) G dX5_hanger_23 (by decide) ?_ ?_
    · refine s_aload_n G dX5_hanger_33 rfl ?_
      refine s_get (k := 0) (j := 0) G (.ref (w.1 1)) ⟨by decide, by decide⟩ (ce0 w) rfl clX5 (by decide) qw214 rfl dX5_hanger_34 ?_
      refine s_iload_n G dX5_hanger_37 rfl ?_
      refine s_callVI (as := [.int a1]) (st := []) (k := 1) G aw_self mdX0_addHanger (fun _ h => c_X0_addHanger w O l a1 M _ h) ⟨by decide, by decide⟩ (ce1 w) clX0 rfl qw255 rfl rfl (Nat.le_of_ble_eq_true rfl) (by decide) dX5_hanger_38 (fun r38 => ?_)
      exact s_iret G rfl rfl dX5_hanger_41
    · refine s_aload_n G dX5_hanger_26 rfl ?_
      refine s_ldc (v := (-1000000002)) G dX5_hanger_27 qw254 ?_
      refine s_callVI (as := [.int (-1000000002)]) (st := []) (k := 0) G aw_self mdX5_told (fun _ h => c_X5_told w O l (-1000000002) M _ h) ⟨by decide, by decide⟩ (ce0 w) clX5 rfl qw250 rfl rfl (Nat.le_of_ble_eq_true rfl) (by decide) dX5_hanger_29 (fun r29 => ?_)
      exact s_iret G rfl rfl dX5_hanger_32

set_option maxRecDepth 100000 in
set_option maxHeartbeats 4000000 in
theorem c_X0_has (w : Wx) (O : Mem) (l : Launch) (a1 : Int32) (M : Mem)  (z : Int32) (hz : f_X0_has a1 M = some z) : Ct w 0 36 O l 0 muX0_has [.ref (w.1 1), .int a1] M (some (.int z), M) := by
  refine ct_of (X := f_X0_has a1 M) (K := fun v => some (some (.int v), M)) [some (.ref (w.1 1)), some (.int a1)] rfl rfl (Nat.le_of_ble_eq_true rfl) (by rw [hz]; rfl) ?_
  intro p e s m args below meth c G
  unfold f_X0_has
  refine s_iload_n G dX0_has_0 rfl ?_
  refine s_join 17 (fun y1 : Int32 => [none, none]) (fun y1 => [.int y1]) (fun y1 => M) (fun y1 => ?_) (fun K1 hB1 => ?_)
  · refine s_test (fun h17 => ?_)
    exact s_zret G rfl (zb_nar h17) rfl dX0_has_17
  · refine s_if_lt (tgt := 16) G dX0_has_1 (by decide) ?_ ?_
    · refine s_iconst (v := 0) G dX0_has_16 (by decide) ?_
      refine s_keep [false, false] (lv2 := [none, none]) rfl ?_
      exact fun hx => hB1 0 hx
    · refine s_iload_n G dX0_has_4 rfl ?_
      refine s_aload_n G dX0_has_5 rfl ?_
      refine s_get (k := 1) (j := 0) G (.int (gI M 1 0)) ⟨by decide, by decide⟩ (ce1 w) rfl clX0 (by decide) qw91 rfl dX0_has_6 ?_
      refine s_icmp_ge (tgt := 16) G dX0_has_9 (by decide) ?_ ?_
      · refine s_iconst (v := 0) G dX0_has_16 (by decide) ?_
        refine s_keep [false, false] (lv2 := [none, none]) rfl ?_
        exact fun hx => hB1 0 hx
      · refine s_iconst (v := 1) G dX0_has_12 (by decide) ?_
        refine s_goto (tgt := 17) G dX0_has_13 (by decide) ?_
        refine s_keep [false, false] (lv2 := [none, none]) rfl ?_
        exact fun hx => hB1 1 hx

set_option maxRecDepth 100000 in
set_option maxHeartbeats 4000000 in
theorem c_X0_facingOf (w : Wx) (O : Mem) (l : Launch) (a1 : Int32) (M : Mem)  (z : Int32) (hz : f_X0_facingOf a1 M = some z) : Ct w 0 36 O l 0 muX0_facingOf [.ref (w.1 1), .int a1] M (some (.int z), M) := by
  refine ct_of (X := f_X0_facingOf a1 M) (K := fun v => some (some (.int v), M)) [some (.ref (w.1 1)), some (.int a1)] rfl rfl (Nat.le_of_ble_eq_true rfl) (by rw [hz]; rfl) ?_
  intro p e s m args below meth c G
  unfold f_X0_facingOf
  refine s_aload_n G dX0_facingOf_0 rfl ?_
  refine s_get (k := 1) (j := 3) G (.int (gI M 1 3)) ⟨by decide, by decide⟩ (ce1 w) rfl clX0 (by decide) qw99 rfl dX0_facingOf_1 ?_
  refine s_iload_n G dX0_facingOf_4 rfl ?_
  refine s_ishr G dX0_facingOf_5 ?_
  refine s_iconst (v := 1) G dX0_facingOf_6 (by decide) ?_
  refine s_iand G dX0_facingOf_7 ?_
  exact s_iret G rfl rfl dX0_facingOf_8

set_option maxRecDepth 100000 in
set_option maxHeartbeats 4000000 in
theorem c_X5_holds (w : Wx) (O : Mem) (l : Launch) (a0 : Int32) (M : Mem)  (z : Int32) (hz : f_X5_holds a0 = some z) : Ct w 0 36 O l 0 muX5_holds [.int a0] M (some (.int z), M) := by
  refine ct_of (X := f_X5_holds a0) (K := fun v => some (some (.int v), M)) [some (.int a0), none, none, none] rfl rfl (Nat.le_of_ble_eq_true rfl) (by rw [hz]; rfl) ?_
  intro p e s m args below meth c G
  unfold f_X5_holds
  refine s_iconst (v := 5) G dX5_holds_0 (by decide) ?_
  refine s_istore_n (lv2 := [some (.int a0), some (.int 5), none, none]) G dX5_holds_1 (by decide) rfl rfl ?_
  refine s_iload_n G dX5_holds_2 rfl ?_
  refine s_iconst (v := 2) G dX5_holds_3 (by decide) ?_
  refine s_isub G dX5_holds_4 ?_
  refine s_name (f := Value.int) (fun v5 => ?_)
  refine s_istore_n (lv2 := [some (.int a0), some (.int 5), some (.int v5), none]) G dX5_holds_5 (by decide) rfl rfl ?_
  refine s_iload_n G dX5_holds_6 rfl ?_
  refine s_iconst (v := 3) G dX5_holds_7 (by decide) ?_
  refine s_iadd G dX5_holds_8 ?_
  refine s_name (f := Value.int) (fun v9 => ?_)
  refine s_istore_n (lv2 := [some (.int a0), some (.int 5), some (.int v5), some (.int v9)]) G dX5_holds_9 (by decide) rfl rfl ?_
  refine s_iload_n G dX5_holds_10 rfl ?_
  refine s_tabIn (v := 1) (off := 33) (tgt := 44) G dX5_holds_11 (by decide) (by decide) (by decide) (by decide) ?_ (fun h11_0 => ?_)
  · refine s_iload_n G dX5_holds_44 rfl ?_
    exact s_iret G rfl rfl dX5_holds_45
  · refine s_tabIn (v := 2) (off := 35) (tgt := 46) G dX5_holds_11 (by decide) (by decide) (by decide) (by decide) ?_ (fun h11_1 => ?_)
    · refine s_iload_n G dX5_holds_46 rfl ?_
      exact s_iret G rfl rfl dX5_holds_47
    · refine s_tabIn (v := 3) (off := 37) (tgt := 48) G dX5_holds_11 (by decide) (by decide) (by decide) (by decide) ?_ (fun h11_2 => ?_)
      · refine s_iload_n G dX5_holds_48 rfl ?_
        refine s_iconst (v := 1) G dX5_holds_49 (by decide) ?_
        refine s_isub G dX5_holds_50 ?_
        exact s_iret G rfl rfl dX5_holds_51
      · refine s_tabIn (v := 4) (off := 41) (tgt := 52) G dX5_holds_11 (by decide) (by decide) (by decide) (by decide) ?_ (fun h11_3 => ?_)
        · refine s_iload_n G dX5_holds_52 rfl ?_
          refine s_iconst (v := 4) G dX5_holds_53 (by decide) ?_
          refine s_iadd G dX5_holds_54 ?_
          exact s_iret G rfl rfl dX5_holds_55
        · refine s_tabIn (v := 5) (off := 45) (tgt := 56) G dX5_holds_11 (by decide) (by decide) (by decide) (by decide) ?_ (fun h11_4 => ?_)
          · refine s_iload_n G dX5_holds_56 rfl ?_
            refine s_iconst (v := 1) G dX5_holds_57 (by decide) ?_
            refine s_iadd G dX5_holds_58 ?_
            exact s_iret G rfl rfl dX5_holds_59
          · refine s_tabOut (tgt := 60) G dX5_holds_11 (by have e0 := lv_neT (a := 1) h11_0 (by decide); have e1 := lv_neT (a := 2) h11_1 (by decide); have e2 := lv_neT (a := 3) h11_2 (by decide); have e3 := lv_neT (a := 4) h11_3 (by decide); have e4 := lv_neT (a := 5) h11_4 (by decide); omega) (by decide) ?_
            refine s_iload_n G dX5_holds_60 rfl ?_
            exact s_iret G rfl rfl dX5_holds_61

set_option maxRecDepth 100000 in
set_option maxHeartbeats 4000000 in
theorem c_X5_need (w : Wx) (O : Mem) (l : Launch) (a0 : Int32) (M : Mem)  (z : Int32) (hz : f_X5_need a0 = some z) : Ct w 0 36 O l 0 muX5_need [.int a0] M (some (.int z), M) := by
  refine ct_of (X := f_X5_need a0) (K := fun v => some (some (.int v), M)) [some (.int a0), none] rfl rfl (Nat.le_of_ble_eq_true rfl) (by rw [hz]; rfl) ?_
  intro p e s m args below meth c G
  unfold f_X5_need
  refine s_iconst (v := 1) G dX5_need_0 (by decide) ?_
  refine s_istore_n (lv2 := [some (.int a0), some (.int 1)]) G dX5_need_1 (by decide) rfl rfl ?_
  refine s_iload_n G dX5_need_2 rfl ?_
  refine s_tabIn (v := 2) (off := 29) (tgt := 32) G dX5_need_3 (by decide) (by decide) (by decide) (by decide) ?_ (fun h3_0 => ?_)
  · refine s_iconst (v := 2) G dX5_need_32 (by decide) ?_
    refine s_iload_n G dX5_need_33 rfl ?_
    refine s_imul G dX5_need_34 ?_
    exact s_iret G rfl rfl dX5_need_35
  · refine s_tabIn (v := 3) (off := 33) (tgt := 36) G dX5_need_3 (by decide) (by decide) (by decide) (by decide) ?_ (fun h3_1 => ?_)
    · refine s_iload_n G dX5_need_36 rfl ?_
      refine s_iconst (v := 1) G dX5_need_37 (by decide) ?_
      refine s_iadd G dX5_need_38 ?_
      exact s_iret G rfl rfl dX5_need_39
    · refine s_tabIn (v := 4) (off := 37) (tgt := 40) G dX5_need_3 (by decide) (by decide) (by decide) (by decide) ?_ (fun h3_2 => ?_)
      · refine s_iload_n G dX5_need_40 rfl ?_
        exact s_iret G rfl rfl dX5_need_41
      · refine s_tabIn (v := 5) (off := 29) (tgt := 32) G dX5_need_3 (by decide) (by decide) (by decide) (by decide) ?_ (fun h3_3 => ?_)
        · refine s_iconst (v := 2) G dX5_need_32 (by decide) ?_
          refine s_iload_n G dX5_need_33 rfl ?_
          refine s_imul G dX5_need_34 ?_
          exact s_iret G rfl rfl dX5_need_35
        · refine s_tabOut (tgt := 40) G dX5_need_3 (by have e0 := lv_neT (a := 2) h3_0 (by decide); have e1 := lv_neT (a := 3) h3_1 (by decide); have e2 := lv_neT (a := 4) h3_2 (by decide); have e3 := lv_neT (a := 5) h3_3 (by decide); omega) (by decide) ?_
          refine s_iload_n G dX5_need_40 rfl ?_
          exact s_iret G rfl rfl dX5_need_41

set_option maxRecDepth 100000 in
set_option maxHeartbeats 4000000 in
theorem c_X5_of (w : Wx) (O : Mem) (l : Launch) (a1 : Int32) (a2 : Int32) (M : Mem)  (z : Int32 × Mem) (hz : f_X5_of a1 a2 M = some z) : Ct w 0 36 O l 1 muX5_of [.ref (w.1 0), .int a1, .int a2] M (some (.int z.1), z.2) := by
  refine ct_of (X := f_X5_of a1 a2 M) (K := fun v => some (some (.int v.1), v.2)) [some (.ref (w.1 0)), some (.int a1), some (.int a2)] rfl rfl (Nat.le_of_ble_eq_true rfl) (by rw [hz]; rfl) ?_
  intro p e s m args below meth c G
  unfold f_X5_of
  refine s_aload_n G dX5_of_0 rfl ?_
  refine s_get (k := 0) (j := 0) G (.ref (w.1 1)) ⟨by decide, by decide⟩ (ce0 w) rfl clX5 (by decide) qw214 rfl dX5_of_1 ?_
  refine s_iload_n G dX5_of_4 rfl ?_
  refine s_callVi (as := [.int a1]) (st := []) (k := 1) G aw_self mdX0_has (fun _ h => c_X0_has w O l a1 M _ h) ⟨by decide, by decide⟩ (ce1 w) clX0 rfl qw263 rfl rfl (Nat.le_of_ble_eq_true rfl) (by decide) dX5_of_5 (fun r5 => ?_)
  refine s_if_ne (tgt := 18) G dX5_of_8 (by decide) ?_ ?_
  · refine s_aload_n G dX5_of_11 rfl ?_
    refine s_ldc (v := (-1000000001)) G dX5_of_12 qw249 ?_
    refine s_callVI (as := [.int (-1000000001)]) (st := []) (k := 0) G aw_self mdX5_told (fun _ h => c_X5_told w O l (-1000000001) M _ h) ⟨by decide, by decide⟩ (ce0 w) clX5 rfl qw250 rfl rfl (Nat.le_of_ble_eq_true rfl) (by decide) dX5_of_14 (fun r14 => ?_)
    exact s_iret G rfl rfl dX5_of_17
  · refine s_iload_n G dX5_of_18 rfl ?_
    refine s_tabIn (v := 0) (off := 41) (tgt := 60) G dX5_of_19 (by decide) (by decide) (by decide) (by decide) ?_ (fun h19_0 => ?_)
    · refine s_aload_n G dX5_of_60 rfl ?_
      refine s_get (k := 0) (j := 0) G (.ref (w.1 1)) ⟨by decide, by decide⟩ (ce0 w) rfl clX5 (by decide) qw214 rfl dX5_of_61 ?_
      refine s_get (k := 1) (j := 4) G (.ref (w.1 2)) ⟨by decide, by decide⟩ (ce1 w) rfl clX0 (by decide) qw105 rfl dX5_of_64 ?_
      refine s_iload_n G dX5_of_67 rfl ?_
      refine s_iald (k := 2) (n := 12) G ⟨by decide, by decide⟩ (ce2 w) dX5_of_68 ?_
      exact s_iret G rfl rfl dX5_of_69
    · refine s_tabIn (v := 1) (off := 51) (tgt := 70) G dX5_of_19 (by decide) (by decide) (by decide) (by decide) ?_ (fun h19_1 => ?_)
      · refine s_aload_n G dX5_of_70 rfl ?_
        refine s_get (k := 0) (j := 0) G (.ref (w.1 1)) ⟨by decide, by decide⟩ (ce0 w) rfl clX5 (by decide) qw214 rfl dX5_of_71 ?_
        refine s_get (k := 1) (j := 5) G (.ref (w.1 3)) ⟨by decide, by decide⟩ (ce1 w) rfl clX0 (by decide) qw108 rfl dX5_of_74 ?_
        refine s_iload_n G dX5_of_77 rfl ?_
        refine s_iald (k := 3) (n := 12) G ⟨by decide, by decide⟩ (ce3 w) dX5_of_78 ?_
        exact s_iret G rfl rfl dX5_of_79
      · refine s_tabIn (v := 2) (off := 61) (tgt := 80) G dX5_of_19 (by decide) (by decide) (by decide) (by decide) ?_ (fun h19_2 => ?_)
        · refine s_aload_n G dX5_of_80 rfl ?_
          refine s_get (k := 0) (j := 0) G (.ref (w.1 1)) ⟨by decide, by decide⟩ (ce0 w) rfl clX5 (by decide) qw214 rfl dX5_of_81 ?_
          refine s_iload_n G dX5_of_84 rfl ?_
          refine s_callVi (as := [.int a1]) (st := []) (k := 1) G aw_self mdX0_facingOf (fun _ h => c_X0_facingOf w O l a1 M _ h) ⟨by decide, by decide⟩ (ce1 w) clX0 rfl qw267 rfl rfl (Nat.le_of_ble_eq_true rfl) (by decide) dX5_of_85 (fun r85 => ?_)
          exact s_iret G rfl rfl dX5_of_88
        · refine s_tabIn (v := 3) (off := 70) (tgt := 89) G dX5_of_19 (by decide) (by decide) (by decide) (by decide) ?_ (fun h19_3 => ?_)
          · refine s_aload_n G dX5_of_89 rfl ?_
            refine s_get (k := 0) (j := 0) G (.ref (w.1 1)) ⟨by decide, by decide⟩ (ce0 w) rfl clX5 (by decide) qw214 rfl dX5_of_90 ?_
            refine s_get (k := 1) (j := 6) G (.ref (w.1 4)) ⟨by decide, by decide⟩ (ce1 w) rfl clX0 (by decide) qw110 rfl dX5_of_93 ?_
            refine s_iload_n G dX5_of_96 rfl ?_
            refine s_iald (k := 4) (n := 12) G ⟨by decide, by decide⟩ (ce4 w) dX5_of_97 ?_
            exact s_iret G rfl rfl dX5_of_98
          · refine s_tabIn (v := 4) (off := 80) (tgt := 99) G dX5_of_19 (by decide) (by decide) (by decide) (by decide) ?_ (fun h19_4 => ?_)
            · refine s_aload_n G dX5_of_99 rfl ?_
              refine s_get (k := 0) (j := 0) G (.ref (w.1 1)) ⟨by decide, by decide⟩ (ce0 w) rfl clX5 (by decide) qw214 rfl dX5_of_100 ?_
              refine s_get (k := 1) (j := 7) G (.ref (w.1 5)) ⟨by decide, by decide⟩ (ce1 w) rfl clX0 (by decide) qw113 rfl dX5_of_103 ?_
              refine s_iload_n G dX5_of_106 rfl ?_
              refine s_iald (k := 5) (n := 12) G ⟨by decide, by decide⟩ (ce5 w) dX5_of_107 ?_
              exact s_iret G rfl rfl dX5_of_108
            · refine s_tabIn (v := 5) (off := 90) (tgt := 109) G dX5_of_19 (by decide) (by decide) (by decide) (by decide) ?_ (fun h19_5 => ?_)
              · refine s_aload_n G dX5_of_109 rfl ?_
                refine s_get (k := 0) (j := 0) G (.ref (w.1 1)) ⟨by decide, by decide⟩ (ce0 w) rfl clX5 (by decide) qw214 rfl dX5_of_110 ?_
                refine s_get (k := 1) (j := 4) G (.ref (w.1 2)) ⟨by decide, by decide⟩ (ce1 w) rfl clX0 (by decide) qw105 rfl dX5_of_113 ?_
                refine s_iload_n G dX5_of_116 rfl ?_
                refine s_iald (k := 2) (n := 12) G ⟨by decide, by decide⟩ (ce2 w) dX5_of_117 ?_
                refine s_callSi (as := [.int (gI M 2 a1.toNatClampNeg)]) (st := []) G aw_self mdX5_holds (fun _ h => c_X5_holds w O l (gI M 2 a1.toNatClampNeg) M _ h) qw271 rfl rfl (Nat.le_of_ble_eq_true rfl) (by decide) dX5_of_118 (fun r118 => ?_)
                exact s_iret G rfl rfl dX5_of_121
              · refine s_tabIn (v := 6) (off := 103) (tgt := 122) G dX5_of_19 (by decide) (by decide) (by decide) (by decide) ?_ (fun h19_6 => ?_)
                · refine s_aload_n G dX5_of_122 rfl ?_
                  refine s_get (k := 0) (j := 0) G (.ref (w.1 1)) ⟨by decide, by decide⟩ (ce0 w) rfl clX5 (by decide) qw214 rfl dX5_of_123 ?_
                  refine s_get (k := 1) (j := 4) G (.ref (w.1 2)) ⟨by decide, by decide⟩ (ce1 w) rfl clX0 (by decide) qw105 rfl dX5_of_126 ?_
                  refine s_iload_n G dX5_of_129 rfl ?_
                  refine s_iald (k := 2) (n := 12) G ⟨by decide, by decide⟩ (ce2 w) dX5_of_130 ?_
                  refine s_callSi (as := [.int (gI M 2 a1.toNatClampNeg)]) (st := []) G aw_self mdX5_need (fun _ h => c_X5_need w O l (gI M 2 a1.toNatClampNeg) M _ h) qw274 rfl rfl (Nat.le_of_ble_eq_true rfl) (by decide) dX5_of_131 (fun r131 => ?_)
                  exact s_iret G rfl rfl dX5_of_134
                · refine s_tabOut (tgt := 135) G dX5_of_19 (by have e0 := lv_neT (a := 0) h19_0 (by decide); have e1 := lv_neT (a := 1) h19_1 (by decide); have e2 := lv_neT (a := 2) h19_2 (by decide); have e3 := lv_neT (a := 3) h19_3 (by decide); have e4 := lv_neT (a := 4) h19_4 (by decide); have e5 := lv_neT (a := 5) h19_5 (by decide); have e6 := lv_neT (a := 6) h19_6 (by decide); omega) (by decide) ?_
                  refine s_aload_n G dX5_of_135 rfl ?_
                  refine s_ldc (v := (-1000000001)) G dX5_of_136 qw249 ?_
                  refine s_callVI (as := [.int (-1000000001)]) (st := []) (k := 0) G aw_self mdX5_told (fun _ h => c_X5_told w O l (-1000000001) M _ h) ⟨by decide, by decide⟩ (ce0 w) clX5 rfl qw250 rfl rfl (Nat.le_of_ble_eq_true rfl) (by decide) dX5_of_138 (fun r138 => ?_)
                  exact s_iret G rfl rfl dX5_of_141

set_option maxRecDepth 100000 in
set_option maxHeartbeats 4000000 in
theorem c_X5_set (w : Wx) (O : Mem) (l : Launch) (a1 : Int32) (a2 : Int32) (a3 : Int32) (M : Mem)  (z : Int32 × Mem) (hz : f_X5_set a1 a2 a3 M = some z) : Ct w 0 36 O l 1 muX5_set [.ref (w.1 0), .int a1, .int a2, .int a3] M (some (.int z.1), z.2) := by
  refine ct_of (X := f_X5_set a1 a2 a3 M) (K := fun v => some (some (.int v.1), v.2)) [some (.ref (w.1 0)), some (.int a1), some (.int a2), some (.int a3), none] rfl rfl (Nat.le_of_ble_eq_true rfl) (by rw [hz]; rfl) ?_
  intro p e s m args below meth c G
  unfold f_X5_set
  refine s_aload_n G dX5_set_0 rfl ?_
  refine s_get (k := 0) (j := 0) G (.ref (w.1 1)) ⟨by decide, by decide⟩ (ce0 w) rfl clX5 (by decide) qw214 rfl dX5_set_1 ?_
  refine s_iload_n G dX5_set_4 rfl ?_
  refine s_callVi (as := [.int a1]) (st := []) (k := 1) G aw_self mdX0_has (fun _ h => c_X0_has w O l a1 M _ h) ⟨by decide, by decide⟩ (ce1 w) clX0 rfl qw263 rfl rfl (Nat.le_of_ble_eq_true rfl) (by decide) dX5_set_5 (fun r5 => ?_)
  refine s_if_eq (tgt := 15) G dX5_set_8 (by decide) ?_ ?_
  · refine s_aload_n G dX5_set_15 rfl ?_
    refine s_ldc (v := (-1000000001)) G dX5_set_16 qw249 ?_
    refine s_callVI (as := [.int (-1000000001)]) (st := []) (k := 0) G aw_self mdX5_told (fun _ h => c_X5_told w O l (-1000000001) M _ h) ⟨by decide, by decide⟩ (ce0 w) clX5 rfl qw250 rfl rfl (Nat.le_of_ble_eq_true rfl) (by decide) dX5_set_18 (fun r18 => ?_)
    exact s_iret G rfl rfl dX5_set_21
  · refine s_iload_n G dX5_set_11 rfl ?_
    refine s_if_ge (tgt := 22) G dX5_set_12 (by decide) ?_ ?_
    · refine s_iload_n G dX5_set_22 rfl ?_
      refine s_iconst (v := 3) G dX5_set_23 (by decide) ?_
      refine s_icmp_ne (tgt := 57) G dX5_set_24 (by decide) ?_ ?_
      · refine s_iload_n G dX5_set_27 rfl ?_
        refine s_bipush (v := 9) G dX5_set_28 (by decide) ?_
        refine s_icmp_gt (tgt := 57) G dX5_set_30 (by decide) ?_ ?_
        · refine s_iload_n G dX5_set_57 rfl ?_
          refine s_iconst (v := 4) G dX5_set_58 (by decide) ?_
          refine s_icmp_ne (tgt := 92) G dX5_set_59 (by decide) ?_ ?_
          · refine s_iload_n G dX5_set_62 rfl ?_
            refine s_bipush (v := 15) G dX5_set_63 (by decide) ?_
            refine s_icmp_gt (tgt := 92) G dX5_set_65 (by decide) ?_ ?_
            · refine s_aload_n G dX5_set_92 rfl ?_
              refine s_ldc (v := (-1000000001)) G dX5_set_93 qw249 ?_
              refine s_callVI (as := [.int (-1000000001)]) (st := []) (k := 0) G aw_self mdX5_told (fun _ h => c_X5_told w O l (-1000000001) M _ h) ⟨by decide, by decide⟩ (ce0 w) clX5 rfl qw250 rfl rfl (Nat.le_of_ble_eq_true rfl) (by decide) dX5_set_95 (fun r95 => ?_)
              exact s_iret G rfl rfl dX5_set_98
            · refine s_aload_n G dX5_set_68 rfl ?_
              refine s_get (k := 0) (j := 0) G (.ref (w.1 1)) ⟨by decide, by decide⟩ (ce0 w) rfl clX5 (by decide) qw214 rfl dX5_set_69 ?_
              refine s_get (k := 1) (j := 7) G (.ref (w.1 5)) ⟨by decide, by decide⟩ (ce1 w) rfl clX0 (by decide) qw113 rfl dX5_set_72 ?_
              refine s_iload_n G dX5_set_75 rfl ?_
              refine s_iald (k := 5) (n := 12) G ⟨by decide, by decide⟩ (ce5 w) dX5_set_76 ?_
              refine s_name (f := Value.int) (fun v77 => ?_)
              refine s_istore (lv2 := [some (.ref (w.1 0)), some (.int a1), some (.int a2), some (.int a3), some (.int v77)]) G dX5_set_77 (by decide) rfl rfl ?_
              refine s_aload_n G dX5_set_79 rfl ?_
              refine s_get (k := 0) (j := 0) G (.ref (w.1 1)) ⟨by decide, by decide⟩ (ce0 w) rfl clX5 (by decide) qw214 rfl dX5_set_80 ?_
              refine s_get (k := 1) (j := 7) G (.ref (w.1 5)) ⟨by decide, by decide⟩ (ce1 w) rfl clX0 (by decide) qw113 rfl dX5_set_83 ?_
              refine s_iload_n G dX5_set_86 rfl ?_
              refine s_iload_n G dX5_set_87 rfl ?_
              refine s_iast (k := 5) (n := 12) G ⟨by decide, by decide⟩ (ce5 w) dX5_set_88 (fun m88 => ?_)
              refine s_iload G dX5_set_89 rfl ?_
              exact s_iret G rfl rfl dX5_set_91
          · refine s_aload_n G dX5_set_92 rfl ?_
            refine s_ldc (v := (-1000000001)) G dX5_set_93 qw249 ?_
            refine s_callVI (as := [.int (-1000000001)]) (st := []) (k := 0) G aw_self mdX5_told (fun _ h => c_X5_told w O l (-1000000001) M _ h) ⟨by decide, by decide⟩ (ce0 w) clX5 rfl qw250 rfl rfl (Nat.le_of_ble_eq_true rfl) (by decide) dX5_set_95 (fun r95 => ?_)
            exact s_iret G rfl rfl dX5_set_98
        · refine s_aload_n G dX5_set_33 rfl ?_
          refine s_get (k := 0) (j := 0) G (.ref (w.1 1)) ⟨by decide, by decide⟩ (ce0 w) rfl clX5 (by decide) qw214 rfl dX5_set_34 ?_
          refine s_get (k := 1) (j := 6) G (.ref (w.1 4)) ⟨by decide, by decide⟩ (ce1 w) rfl clX0 (by decide) qw110 rfl dX5_set_37 ?_
          refine s_iload_n G dX5_set_40 rfl ?_
          refine s_iald (k := 4) (n := 12) G ⟨by decide, by decide⟩ (ce4 w) dX5_set_41 ?_
          refine s_name (f := Value.int) (fun v42 => ?_)
          refine s_istore (lv2 := [some (.ref (w.1 0)), some (.int a1), some (.int a2), some (.int a3), some (.int v42)]) G dX5_set_42 (by decide) rfl rfl ?_
          refine s_aload_n G dX5_set_44 rfl ?_
          refine s_get (k := 0) (j := 0) G (.ref (w.1 1)) ⟨by decide, by decide⟩ (ce0 w) rfl clX5 (by decide) qw214 rfl dX5_set_45 ?_
          refine s_get (k := 1) (j := 6) G (.ref (w.1 4)) ⟨by decide, by decide⟩ (ce1 w) rfl clX0 (by decide) qw110 rfl dX5_set_48 ?_
          refine s_iload_n G dX5_set_51 rfl ?_
          refine s_iload_n G dX5_set_52 rfl ?_
          refine s_iast (k := 4) (n := 12) G ⟨by decide, by decide⟩ (ce4 w) dX5_set_53 (fun m53 => ?_)
          refine s_iload G dX5_set_54 rfl ?_
          exact s_iret G rfl rfl dX5_set_56
      · refine s_iload_n G dX5_set_57 rfl ?_
        refine s_iconst (v := 4) G dX5_set_58 (by decide) ?_
        refine s_icmp_ne (tgt := 92) G dX5_set_59 (by decide) ?_ ?_
        · refine s_iload_n G dX5_set_62 rfl ?_
          refine s_bipush (v := 15) G dX5_set_63 (by decide) ?_
          refine s_icmp_gt (tgt := 92) G dX5_set_65 (by decide) ?_ ?_
          · refine s_aload_n G dX5_set_92 rfl ?_
            refine s_ldc (v := (-1000000001)) G dX5_set_93 qw249 ?_
            refine s_callVI (as := [.int (-1000000001)]) (st := []) (k := 0) G aw_self mdX5_told (fun _ h => c_X5_told w O l (-1000000001) M _ h) ⟨by decide, by decide⟩ (ce0 w) clX5 rfl qw250 rfl rfl (Nat.le_of_ble_eq_true rfl) (by decide) dX5_set_95 (fun r95 => ?_)
            exact s_iret G rfl rfl dX5_set_98
          · refine s_aload_n G dX5_set_68 rfl ?_
            refine s_get (k := 0) (j := 0) G (.ref (w.1 1)) ⟨by decide, by decide⟩ (ce0 w) rfl clX5 (by decide) qw214 rfl dX5_set_69 ?_
            refine s_get (k := 1) (j := 7) G (.ref (w.1 5)) ⟨by decide, by decide⟩ (ce1 w) rfl clX0 (by decide) qw113 rfl dX5_set_72 ?_
            refine s_iload_n G dX5_set_75 rfl ?_
            refine s_iald (k := 5) (n := 12) G ⟨by decide, by decide⟩ (ce5 w) dX5_set_76 ?_
            refine s_name (f := Value.int) (fun v77 => ?_)
            refine s_istore (lv2 := [some (.ref (w.1 0)), some (.int a1), some (.int a2), some (.int a3), some (.int v77)]) G dX5_set_77 (by decide) rfl rfl ?_
            refine s_aload_n G dX5_set_79 rfl ?_
            refine s_get (k := 0) (j := 0) G (.ref (w.1 1)) ⟨by decide, by decide⟩ (ce0 w) rfl clX5 (by decide) qw214 rfl dX5_set_80 ?_
            refine s_get (k := 1) (j := 7) G (.ref (w.1 5)) ⟨by decide, by decide⟩ (ce1 w) rfl clX0 (by decide) qw113 rfl dX5_set_83 ?_
            refine s_iload_n G dX5_set_86 rfl ?_
            refine s_iload_n G dX5_set_87 rfl ?_
            refine s_iast (k := 5) (n := 12) G ⟨by decide, by decide⟩ (ce5 w) dX5_set_88 (fun m88 => ?_)
            refine s_iload G dX5_set_89 rfl ?_
            exact s_iret G rfl rfl dX5_set_91
        · refine s_aload_n G dX5_set_92 rfl ?_
          refine s_ldc (v := (-1000000001)) G dX5_set_93 qw249 ?_
          refine s_callVI (as := [.int (-1000000001)]) (st := []) (k := 0) G aw_self mdX5_told (fun _ h => c_X5_told w O l (-1000000001) M _ h) ⟨by decide, by decide⟩ (ce0 w) clX5 rfl qw250 rfl rfl (Nat.le_of_ble_eq_true rfl) (by decide) dX5_set_95 (fun r95 => ?_)
          exact s_iret G rfl rfl dX5_set_98
    · refine s_aload_n G dX5_set_15 rfl ?_
      refine s_ldc (v := (-1000000001)) G dX5_set_16 qw249 ?_
      refine s_callVI (as := [.int (-1000000001)]) (st := []) (k := 0) G aw_self mdX5_told (fun _ h => c_X5_told w O l (-1000000001) M _ h) ⟨by decide, by decide⟩ (ce0 w) clX5 rfl qw250 rfl rfl (Nat.le_of_ble_eq_true rfl) (by decide) dX5_set_18 (fun r18 => ?_)
      exact s_iret G rfl rfl dX5_set_21

set_option maxRecDepth 100000 in
set_option maxHeartbeats 4000000 in
theorem c_X5_turn (w : Wx) (O : Mem) (l : Launch) (a1 : Int32) (a2 : Int32) (M : Mem)  (z : Int32 × Mem) (hz : f_X5_turn a1 a2 M = some z) : Ct w 0 36 O l 1 muX5_turn [.ref (w.1 0), .int a1, .int a2] M (some (.int z.1), z.2) := by
  refine ct_of (X := f_X5_turn a1 a2 M) (K := fun v => some (some (.int v.1), v.2)) [some (.ref (w.1 0)), some (.int a1), some (.int a2), none] rfl rfl (Nat.le_of_ble_eq_true rfl) (by rw [hz]; rfl) ?_
  intro p e s m args below meth c G
  unfold f_X5_turn
  refine s_aload_n G dX5_turn_0 rfl ?_
  refine s_get (k := 0) (j := 0) G (.ref (w.1 1)) ⟨by decide, by decide⟩ (ce0 w) rfl clX5 (by decide) qw214 rfl dX5_turn_1 ?_
  refine s_iload_n G dX5_turn_4 rfl ?_
  refine s_callVi (as := [.int a1]) (st := []) (k := 1) G aw_self mdX0_has (fun _ h => c_X0_has w O l a1 M _ h) ⟨by decide, by decide⟩ (ce1 w) clX0 rfl qw263 rfl rfl (Nat.le_of_ble_eq_true rfl) (by decide) dX5_turn_5 (fun r5 => ?_)
  refine s_if_eq (tgt := 18) G dX5_turn_8 (by decide) ?_ ?_
  · refine s_aload_n G dX5_turn_18 rfl ?_
    refine s_ldc (v := (-1000000001)) G dX5_turn_19 qw249 ?_
    refine s_callVI (as := [.int (-1000000001)]) (st := []) (k := 0) G aw_self mdX5_told (fun _ h => c_X5_told w O l (-1000000001) M _ h) ⟨by decide, by decide⟩ (ce0 w) clX5 rfl qw250 rfl rfl (Nat.le_of_ble_eq_true rfl) (by decide) dX5_turn_21 (fun r21 => ?_)
    exact s_iret G rfl rfl dX5_turn_24
  · refine s_iload_n G dX5_turn_11 rfl ?_
    refine s_callSi (as := [.int a2]) (st := []) G aw_self mdX5_isKind (fun _ h => c_X5_isKind w O l a2 M _ h) qw246 rfl rfl (Nat.le_of_ble_eq_true rfl) (by decide) dX5_turn_12 (fun r12 => ?_)
    refine s_if_ne (tgt := 25) G dX5_turn_15 (by decide) ?_ ?_
    · refine s_aload_n G dX5_turn_18 rfl ?_
      refine s_ldc (v := (-1000000001)) G dX5_turn_19 qw249 ?_
      refine s_callVI (as := [.int (-1000000001)]) (st := []) (k := 0) G aw_self mdX5_told (fun _ h => c_X5_told w O l (-1000000001) M _ h) ⟨by decide, by decide⟩ (ce0 w) clX5 rfl qw250 rfl rfl (Nat.le_of_ble_eq_true rfl) (by decide) dX5_turn_21 (fun r21 => ?_)
      exact s_iret G rfl rfl dX5_turn_24
    · refine s_aload_n G dX5_turn_25 rfl ?_
      refine s_get (k := 0) (j := 0) G (.ref (w.1 1)) ⟨by decide, by decide⟩ (ce0 w) rfl clX5 (by decide) qw214 rfl dX5_turn_26 ?_
      refine s_get (k := 1) (j := 4) G (.ref (w.1 2)) ⟨by decide, by decide⟩ (ce1 w) rfl clX0 (by decide) qw105 rfl dX5_turn_29 ?_
      refine s_iload_n G dX5_turn_32 rfl ?_
      refine s_iald (k := 2) (n := 12) G ⟨by decide, by decide⟩ (ce2 w) dX5_turn_33 ?_
      refine s_name (f := Value.int) (fun v34 => ?_)
      refine s_istore_n (lv2 := [some (.ref (w.1 0)), some (.int a1), some (.int a2), some (.int v34)]) G dX5_turn_34 (by decide) rfl rfl ?_
      refine s_aload_n G dX5_turn_35 rfl ?_
      refine s_get (k := 0) (j := 0) G (.ref (w.1 1)) ⟨by decide, by decide⟩ (ce0 w) rfl clX5 (by decide) qw214 rfl dX5_turn_36 ?_
      refine s_get (k := 1) (j := 4) G (.ref (w.1 2)) ⟨by decide, by decide⟩ (ce1 w) rfl clX0 (by decide) qw105 rfl dX5_turn_39 ?_
      refine s_iload_n G dX5_turn_42 rfl ?_
      refine s_iload_n G dX5_turn_43 rfl ?_
      refine s_iast (k := 2) (n := 12) G ⟨by decide, by decide⟩ (ce2 w) dX5_turn_44 (fun m44 => ?_)
      refine s_iload_n G dX5_turn_45 rfl ?_
      exact s_iret G rfl rfl dX5_turn_46

set_option maxRecDepth 100000 in
set_option maxHeartbeats 4000000 in
theorem c_X5_above (w : Wx) (O : Mem) (l : Launch) (a0 : Int32) (M : Mem)  (z : Int32) (hz : f_X5_above a0 = some z) : Ct w 0 36 O l 0 muX5_above [.int a0] M (some (.int z), M) := by
  refine ct_of (X := f_X5_above a0) (K := fun v => some (some (.int v), M)) [some (.int a0)] rfl rfl (Nat.le_of_ble_eq_true rfl) (by rw [hz]; rfl) ?_
  intro p e s m args below meth c G
  unfold f_X5_above
  refine s_iload_n G dX5_above_0 rfl ?_
  refine s_tabIn (v := 1) (off := 35) (tgt := 36) G dX5_above_1 (by decide) (by decide) (by decide) (by decide) ?_ (fun h1_0 => ?_)
  · refine s_iconst (v := 0) G dX5_above_36 (by decide) ?_
    exact s_iret G rfl rfl dX5_above_37
  · refine s_tabIn (v := 2) (off := 35) (tgt := 36) G dX5_above_1 (by decide) (by decide) (by decide) (by decide) ?_ (fun h1_1 => ?_)
    · refine s_iconst (v := 0) G dX5_above_36 (by decide) ?_
      exact s_iret G rfl rfl dX5_above_37
    · refine s_tabIn (v := 3) (off := 37) (tgt := 38) G dX5_above_1 (by decide) (by decide) (by decide) (by decide) ?_ (fun h1_2 => ?_)
      · refine s_iconst (v := 1) G dX5_above_38 (by decide) ?_
        exact s_iret G rfl rfl dX5_above_39
      · refine s_tabIn (v := 4) (off := 37) (tgt := 38) G dX5_above_1 (by decide) (by decide) (by decide) (by decide) ?_ (fun h1_3 => ?_)
        · refine s_iconst (v := 1) G dX5_above_38 (by decide) ?_
          exact s_iret G rfl rfl dX5_above_39
        · refine s_tabIn (v := 5) (off := 39) (tgt := 40) G dX5_above_1 (by decide) (by decide) (by decide) (by decide) ?_ (fun h1_4 => ?_)
          · refine s_iconst (v := 2) G dX5_above_40 (by decide) ?_
            exact s_iret G rfl rfl dX5_above_41
          · refine s_tabOut (tgt := 42) G dX5_above_1 (by have e0 := lv_neT (a := 1) h1_0 (by decide); have e1 := lv_neT (a := 2) h1_1 (by decide); have e2 := lv_neT (a := 3) h1_2 (by decide); have e3 := lv_neT (a := 4) h1_3 (by decide); have e4 := lv_neT (a := 5) h1_4 (by decide); omega) (by decide) ?_
            refine s_iconst (v := (-1)) G dX5_above_42 (by decide) ?_
            exact s_iret G rfl rfl dX5_above_43

set_option maxRecDepth 100000 in
set_option maxHeartbeats 4000000 in
theorem c_X5_isUnder (w : Wx) (O : Mem) (l : Launch) (a0 : Int32) (a1 : Int32) (M : Mem)  (z : Int32) (hz : f_X5_isUnder a0 a1 = some z) : Ct w 0 36 O l 1 muX5_isUnder [.int a0, .int a1] M (some (.int z), M) := by
  refine ct_of (X := f_X5_isUnder a0 a1) (K := fun v => some (some (.int v), M)) [some (.int a0), some (.int a1), none, none] rfl rfl (Nat.le_of_ble_eq_true rfl) (by rw [hz]; rfl) ?_
  intro p e s m args below meth c G
  unfold f_X5_isUnder
  refine s_iload_n G dX5_isUnder_0 rfl ?_
  refine s_istore_n (lv2 := [some (.int a0), some (.int a1), some (.int a0), none]) G dX5_isUnder_1 (by decide) rfl rfl ?_
  refine s_iconst (v := 0) G dX5_isUnder_2 (by decide) ?_
  refine s_istore_n (lv2 := [some (.int a0), some (.int a1), some (.int a0), some (.int 0)]) G dX5_isUnder_3 (by decide) rfl rfl ?_
  refine s_keep [false, true, true, true] (lv2 := [none, some (.int a1), some (.int a0), some (.int 0)]) rfl ?_
  refine s_loopG (lvf := fun z4 : Int32 × Int32 => [none, some (.int a1), some (.int z4.1), some (.int z4.2)]) (Mf := fun z4 : Int32 × Int32 => M) (ex := (el (fun x4_20 : Unit => (20, [none, none, none, none], M)) (fun x4_33 : Unit => (33, [none, none, none, none], M)))) (el_all 20 (fun x4_20 : Unit => [none, none, none, none]) (fun x4_20 : Unit => M) (fun x4_20 => ?_) (el_one 33 (fun x4_33 : Unit => [none, none, none, none]) (fun x4_33 : Unit => M) (fun x4_33 => ?_))) (fun z4 K4 hB4 hE4 => ?_)
  · refine s_iconst (v := 1) G dX5_isUnder_20 (by decide) ?_
    exact s_zret G rfl rfl rfl dX5_isUnder_21
  · refine s_iconst (v := 0) G dX5_isUnder_33 (by decide) ?_
    exact s_zret G rfl rfl rfl dX5_isUnder_34
  · unfold f_X5_isUnder_L4
    refine s_iload_n G dX5_isUnder_4 rfl ?_
    refine s_bipush (v := 6) G dX5_isUnder_5 (by decide) ?_
    refine s_icmp_ge (tgt := 33) G dX5_isUnder_7 (by decide) ?_ ?_
    · refine s_keep [false, false, false, false] (lv2 := [none, none, none, none]) rfl ?_
      exact fun hx => hE4 (.inr ()) hx
    · refine s_iload_n G dX5_isUnder_10 rfl ?_
      refine s_iconst (v := (-1)) G dX5_isUnder_11 (by decide) ?_
      refine s_icmp_eq (tgt := 33) G dX5_isUnder_12 (by decide) ?_ ?_
      · refine s_keep [false, false, false, false] (lv2 := [none, none, none, none]) rfl ?_
        exact fun hx => hE4 (.inr ()) hx
      · refine s_iload_n G dX5_isUnder_15 rfl ?_
        refine s_iload_n G dX5_isUnder_16 rfl ?_
        refine s_icmp_ne (tgt := 22) G dX5_isUnder_17 (by decide) ?_ ?_
        · refine s_keep [false, false, false, false] (lv2 := [none, none, none, none]) rfl ?_
          exact fun hx => hE4 (.inl ()) hx
        · refine s_iload_n G dX5_isUnder_22 rfl ?_
          refine s_callSi (as := [.int z4.1]) (st := []) G aw_self mdX5_above (fun _ h => c_X5_above w O l z4.1 M _ h) qw292 rfl rfl (Nat.le_of_ble_eq_true rfl) (by decide) dX5_isUnder_23 (fun r23 => ?_)
          refine s_istore_n (lv2 := [none, some (.int a1), some (.int r23), some (.int z4.2)]) G dX5_isUnder_26 (by decide) rfl rfl ?_
          refine s_iinc (v := (z4.2 + 1)) (lv2 := [none, some (.int a1), some (.int r23), some (.int (z4.2 + 1))]) G dX5_isUnder_27 rfl rfl (by decide) rfl rfl ?_
          refine s_goto (tgt := 4) G dX5_isUnder_30 (by decide) ?_
          exact fun hx => hB4 (r23, (z4.2 + 1)) hx

set_option maxRecDepth 100000 in
set_option maxHeartbeats 4000000 in
theorem c_X5_as (w : Wx) (O : Mem) (l : Launch) (a1 : Int32) (a2 : Int32) (M : Mem)  (z : Int32 × Mem) (hz : f_X5_as a1 a2 M = some z) : Ct w 0 36 O l 2 muX5_as [.ref (w.1 0), .int a1, .int a2] M (some (.int z.1), z.2) := by
  refine ct_of (X := f_X5_as a1 a2 M) (K := fun v => some (some (.int v.1), v.2)) [some (.ref (w.1 0)), some (.int a1), some (.int a2)] rfl rfl (Nat.le_of_ble_eq_true rfl) (by rw [hz]; rfl) ?_
  intro p e s m args below meth c G
  unfold f_X5_as
  refine s_aload_n G dX5_as_0 rfl ?_
  refine s_get (k := 0) (j := 0) G (.ref (w.1 1)) ⟨by decide, by decide⟩ (ce0 w) rfl clX5 (by decide) qw214 rfl dX5_as_1 ?_
  refine s_iload_n G dX5_as_4 rfl ?_
  refine s_callVi (as := [.int a1]) (st := []) (k := 1) G aw_self mdX0_has (fun _ h => c_X0_has w O l a1 M _ h) ⟨by decide, by decide⟩ (ce1 w) clX0 rfl qw263 rfl rfl (Nat.le_of_ble_eq_true rfl) (by decide) dX5_as_5 (fun r5 => ?_)
  refine s_if_eq (tgt := 18) G dX5_as_8 (by decide) ?_ ?_
  · refine s_aload_n G dX5_as_18 rfl ?_
    refine s_ldc (v := (-1000000001)) G dX5_as_19 qw249 ?_
    refine s_callVI (as := [.int (-1000000001)]) (st := []) (k := 0) G aw_self mdX5_told (fun _ h => c_X5_told w O l (-1000000001) M _ h) ⟨by decide, by decide⟩ (ce0 w) clX5 rfl qw250 rfl rfl (Nat.le_of_ble_eq_true rfl) (by decide) dX5_as_21 (fun r21 => ?_)
    exact s_iret G rfl rfl dX5_as_24
  · refine s_iload_n G dX5_as_11 rfl ?_
    refine s_callSi (as := [.int a2]) (st := []) G aw_self mdX5_isKind (fun _ h => c_X5_isKind w O l a2 M _ h) qw246 rfl rfl (Nat.le_of_ble_eq_true rfl) (by decide) dX5_as_12 (fun r12 => ?_)
    refine s_if_ne (tgt := 25) G dX5_as_15 (by decide) ?_ ?_
    · refine s_aload_n G dX5_as_18 rfl ?_
      refine s_ldc (v := (-1000000001)) G dX5_as_19 qw249 ?_
      refine s_callVI (as := [.int (-1000000001)]) (st := []) (k := 0) G aw_self mdX5_told (fun _ h => c_X5_told w O l (-1000000001) M _ h) ⟨by decide, by decide⟩ (ce0 w) clX5 rfl qw250 rfl rfl (Nat.le_of_ble_eq_true rfl) (by decide) dX5_as_21 (fun r21 => ?_)
      exact s_iret G rfl rfl dX5_as_24
    · refine s_aload_n G dX5_as_25 rfl ?_
      refine s_get (k := 0) (j := 0) G (.ref (w.1 1)) ⟨by decide, by decide⟩ (ce0 w) rfl clX5 (by decide) qw214 rfl dX5_as_26 ?_
      refine s_get (k := 1) (j := 4) G (.ref (w.1 2)) ⟨by decide, by decide⟩ (ce1 w) rfl clX0 (by decide) qw105 rfl dX5_as_29 ?_
      refine s_iload_n G dX5_as_32 rfl ?_
      refine s_iald (k := 2) (n := 12) G ⟨by decide, by decide⟩ (ce2 w) dX5_as_33 ?_
      refine s_iload_n G dX5_as_34 rfl ?_
      refine s_callSi (as := [.int (gI M 2 a1.toNatClampNeg), .int a2]) (st := []) G aw_self mdX5_isUnder (fun _ h => c_X5_isUnder w O l (gI M 2 a1.toNatClampNeg) a2 M _ h) qw289 rfl rfl (Nat.le_of_ble_eq_true rfl) (by decide) dX5_as_35 (fun r35 => ?_)
      refine s_if_ne (tgt := 48) G dX5_as_38 (by decide) ?_ ?_
      · refine s_aload_n G dX5_as_41 rfl ?_
        refine s_ldc (v := (-1000000003)) G dX5_as_42 qw295 ?_
        refine s_callVI (as := [.int (-1000000003)]) (st := []) (k := 0) G aw_self mdX5_told (fun _ h => c_X5_told w O l (-1000000003) M _ h) ⟨by decide, by decide⟩ (ce0 w) clX5 rfl qw250 rfl rfl (Nat.le_of_ble_eq_true rfl) (by decide) dX5_as_44 (fun r44 => ?_)
        exact s_iret G rfl rfl dX5_as_47
      · refine s_aload_n G dX5_as_48 rfl ?_
        refine s_get (k := 0) (j := 0) G (.ref (w.1 1)) ⟨by decide, by decide⟩ (ce0 w) rfl clX5 (by decide) qw214 rfl dX5_as_49 ?_
        refine s_get (k := 1) (j := 6) G (.ref (w.1 4)) ⟨by decide, by decide⟩ (ce1 w) rfl clX0 (by decide) qw110 rfl dX5_as_52 ?_
        refine s_iload_n G dX5_as_55 rfl ?_
        refine s_iald (k := 4) (n := 12) G ⟨by decide, by decide⟩ (ce4 w) dX5_as_56 ?_
        exact s_iret G rfl rfl dX5_as_57

set_option maxRecDepth 100000 in
set_option maxHeartbeats 4000000 in
theorem c_X5_price (w : Wx) (O : Mem) (l : Launch) (a1 : Int32) (M : Mem)  (z : Int32 × Mem) (hz : f_X5_price a1 M = some z) : Ct w 0 36 O l 1 muX5_price [.ref (w.1 0), .int a1] M (some (.int z.1), z.2) := by
  refine ct_of (X := f_X5_price a1 M) (K := fun v => some (some (.int v.1), v.2)) [some (.ref (w.1 0)), some (.int a1), none] rfl rfl (Nat.le_of_ble_eq_true rfl) (by rw [hz]; rfl) ?_
  intro p e s m args below meth c G
  unfold f_X5_price
  refine s_iload_n G dX5_price_0 rfl ?_
  refine s_if_lt (tgt := 10) G dX5_price_1 (by decide) ?_ ?_
  · refine s_aload_n G dX5_price_10 rfl ?_
    refine s_ldc (v := (-1000000001)) G dX5_price_11 qw249 ?_
    refine s_callVI (as := [.int (-1000000001)]) (st := []) (k := 0) G aw_self mdX5_told (fun _ h => c_X5_told w O l (-1000000001) M _ h) ⟨by decide, by decide⟩ (ce0 w) clX5 rfl qw250 rfl rfl (Nat.le_of_ble_eq_true rfl) (by decide) dX5_price_13 (fun r13 => ?_)
    exact s_iret G rfl rfl dX5_price_16
  · refine s_iload_n G dX5_price_4 rfl ?_
    refine s_bipush (v := 99) G dX5_price_5 (by decide) ?_
    refine s_icmp_le (tgt := 17) G dX5_price_7 (by decide) ?_ ?_
    · refine s_aload_n G dX5_price_17 rfl ?_
      refine s_get (k := 0) (j := 0) G (.ref (w.1 1)) ⟨by decide, by decide⟩ (ce0 w) rfl clX5 (by decide) qw214 rfl dX5_price_18 ?_
      refine s_get (k := 1) (j := 2) G (.int (gI M 1 2)) ⟨by decide, by decide⟩ (ce1 w) rfl clX0 (by decide) qw98 rfl dX5_price_21 ?_
      refine s_name (f := Value.int) (fun v24 => ?_)
      refine s_istore_n (lv2 := [some (.ref (w.1 0)), some (.int a1), some (.int v24)]) G dX5_price_24 (by decide) rfl rfl ?_
      refine s_aload_n G dX5_price_25 rfl ?_
      refine s_get (k := 0) (j := 0) G (.ref (w.1 1)) ⟨by decide, by decide⟩ (ce0 w) rfl clX5 (by decide) qw214 rfl dX5_price_26 ?_
      refine s_iload_n G dX5_price_29 rfl ?_
      refine s_put (k := 1) (j := 2) G ⟨by decide, by decide⟩ (ce1 w) (fun _ => rfl) clX0 (by decide) (fun _ => (by decide : 2 < 9)) qw98 rfl rfl rfl rfl dX5_price_30 (fun m30 => ?_)
      refine s_iload_n G dX5_price_33 rfl ?_
      exact s_iret G rfl rfl dX5_price_34
    · refine s_aload_n G dX5_price_10 rfl ?_
      refine s_ldc (v := (-1000000001)) G dX5_price_11 qw249 ?_
      refine s_callVI (as := [.int (-1000000001)]) (st := []) (k := 0) G aw_self mdX5_told (fun _ h => c_X5_told w O l (-1000000001) M _ h) ⟨by decide, by decide⟩ (ce0 w) clX5 rfl qw250 rfl rfl (Nat.le_of_ble_eq_true rfl) (by decide) dX5_price_13 (fun r13 => ?_)
      exact s_iret G rfl rfl dX5_price_16

set_option maxRecDepth 100000 in
set_option maxHeartbeats 4000000 in
theorem c_X5_isPlace (w : Wx) (O : Mem) (l : Launch) (a0 : Int32) (M : Mem)  (z : Int32) (hz : f_X5_isPlace a0 = some z) : Ct w 0 36 O l 0 muX5_isPlace [.int a0] M (some (.int z), M) := by
  refine ct_of (X := f_X5_isPlace a0) (K := fun v => some (some (.int v), M)) [some (.int a0)] rfl rfl (Nat.le_of_ble_eq_true rfl) (by rw [hz]; rfl) ?_
  intro p e s m args below meth c G
  unfold f_X5_isPlace
  refine s_iload_n G dX5_isPlace_0 rfl ?_
  refine s_join 15 (fun y1 : Int32 => [none]) (fun y1 => [.int y1]) (fun y1 => M) (fun y1 => ?_) (fun K1 hB1 => ?_)
  · refine s_test (fun h15 => ?_)
    exact s_zret G rfl (zb_nar h15) rfl dX5_isPlace_15
  · refine s_if_lt (tgt := 14) G dX5_isPlace_1 (by decide) ?_ ?_
    · refine s_iconst (v := 0) G dX5_isPlace_14 (by decide) ?_
      refine s_keep [false] (lv2 := [none]) rfl ?_
      exact fun hx => hB1 0 hx
    · refine s_iload_n G dX5_isPlace_4 rfl ?_
      refine s_bipush (v := 24) G dX5_isPlace_5 (by decide) ?_
      refine s_icmp_ge (tgt := 14) G dX5_isPlace_7 (by decide) ?_ ?_
      · refine s_iconst (v := 0) G dX5_isPlace_14 (by decide) ?_
        refine s_keep [false] (lv2 := [none]) rfl ?_
        exact fun hx => hB1 0 hx
      · refine s_iconst (v := 1) G dX5_isPlace_10 (by decide) ?_
        refine s_goto (tgt := 15) G dX5_isPlace_11 (by decide) ?_
        refine s_keep [false] (lv2 := [none]) rfl ?_
        exact fun hx => hB1 1 hx

set_option maxRecDepth 100000 in
set_option maxHeartbeats 4000000 in
theorem c_X0_isFree (w : Wx) (O : Mem) (l : Launch) (a1 : Int32) (M : Mem)  (z : Int32) (hz : f_X0_isFree a1 M = some z) : Ct w 0 36 O l 0 muX0_isFree [.ref (w.1 1), .int a1] M (some (.int z), M) := by
  refine ct_of (X := f_X0_isFree a1 M) (K := fun v => some (some (.int v), M)) [some (.ref (w.1 1)), some (.int a1)] rfl rfl (Nat.le_of_ble_eq_true rfl) (by rw [hz]; rfl) ?_
  intro p e s m args below meth c G
  unfold f_X0_isFree
  refine s_aload_n G dX0_isFree_0 rfl ?_
  refine s_get (k := 1) (j := 8) G (.ref (w.1 6)) ⟨by decide, by decide⟩ (ce1 w) rfl clX0 (by decide) qw115 rfl dX0_isFree_1 ?_
  refine s_iload_n G dX0_isFree_4 rfl ?_
  refine s_iald (k := 6) (n := 24) G ⟨by decide, by decide⟩ (ce6 w) dX0_isFree_5 ?_
  refine s_iconst (v := (-1)) G dX0_isFree_6 (by decide) ?_
  refine s_join 15 (fun y7 : Int32 => [none, none]) (fun y7 => [.int y7]) (fun y7 => M) (fun y7 => ?_) (fun K7 hB7 => ?_)
  · refine s_test (fun h15 => ?_)
    exact s_zret G rfl (zb_nar h15) rfl dX0_isFree_15
  · refine s_icmp_ne (tgt := 14) G dX0_isFree_7 (by decide) ?_ ?_
    · refine s_iconst (v := 1) G dX0_isFree_10 (by decide) ?_
      refine s_goto (tgt := 15) G dX0_isFree_11 (by decide) ?_
      refine s_keep [false, false] (lv2 := [none, none]) rfl ?_
      exact fun hx => hB7 1 hx
    · refine s_iconst (v := 0) G dX0_isFree_14 (by decide) ?_
      refine s_keep [false, false] (lv2 := [none, none]) rfl ?_
      exact fun hx => hB7 0 hx

set_option maxRecDepth 100000 in
set_option maxHeartbeats 4000000 in
theorem c_X5_at (w : Wx) (O : Mem) (l : Launch) (a1 : Int32) (M : Mem)  (z : Int32 × Mem) (hz : f_X5_at a1 M = some z) : Ct w 0 36 O l 1 muX5_at [.ref (w.1 0), .int a1] M (some (.int z.1), z.2) := by
  refine ct_of (X := f_X5_at a1 M) (K := fun v => some (some (.int v.1), v.2)) [some (.ref (w.1 0)), some (.int a1)] rfl rfl (Nat.le_of_ble_eq_true rfl) (by rw [hz]; rfl) ?_
  intro p e s m args below meth c G
  unfold f_X5_at
  refine s_iload_n G dX5_at_0 rfl ?_
  refine s_callSi (as := [.int a1]) (st := []) G aw_self mdX5_isPlace (fun _ h => c_X5_isPlace w O l a1 M _ h) qw304 rfl rfl (Nat.le_of_ble_eq_true rfl) (by decide) dX5_at_1 (fun r1 => ?_)
  refine s_if_ne (tgt := 14) G dX5_at_4 (by decide) ?_ ?_
  · refine s_aload_n G dX5_at_7 rfl ?_
    refine s_ldc (v := (-1000000001)) G dX5_at_8 qw249 ?_
    refine s_callVI (as := [.int (-1000000001)]) (st := []) (k := 0) G aw_self mdX5_told (fun _ h => c_X5_told w O l (-1000000001) M _ h) ⟨by decide, by decide⟩ (ce0 w) clX5 rfl qw250 rfl rfl (Nat.le_of_ble_eq_true rfl) (by decide) dX5_at_10 (fun r10 => ?_)
    exact s_iret G rfl rfl dX5_at_13
  · refine s_aload_n G dX5_at_14 rfl ?_
    refine s_get (k := 0) (j := 0) G (.ref (w.1 1)) ⟨by decide, by decide⟩ (ce0 w) rfl clX5 (by decide) qw214 rfl dX5_at_15 ?_
    refine s_iload_n G dX5_at_18 rfl ?_
    refine s_callVi (as := [.int a1]) (st := []) (k := 1) G aw_self mdX0_isFree (fun _ h => c_X0_isFree w O l a1 M _ h) ⟨by decide, by decide⟩ (ce1 w) clX0 rfl qw307 rfl rfl (Nat.le_of_ble_eq_true rfl) (by decide) dX5_at_19 (fun r19 => ?_)
    refine s_join 43 (fun y22 : Int32 × Mem => [none, none]) (fun y22 => [.int y22.1]) (fun y22 => y22.2) (fun y22 => ?_) (fun K22 hB22 => ?_)
    · exact s_iret G rfl rfl dX5_at_43
    · refine s_if_eq (tgt := 34) G dX5_at_22 (by decide) ?_ ?_
      · refine s_aload_n G dX5_at_34 rfl ?_
        refine s_get (k := 0) (j := 0) G (.ref (w.1 1)) ⟨by decide, by decide⟩ (ce0 w) rfl clX5 (by decide) qw214 rfl dX5_at_35 ?_
        refine s_get (k := 1) (j := 8) G (.ref (w.1 6)) ⟨by decide, by decide⟩ (ce1 w) rfl clX0 (by decide) qw116 rfl dX5_at_38 ?_
        refine s_iload_n G dX5_at_41 rfl ?_
        refine s_iald (k := 6) (n := 24) G ⟨by decide, by decide⟩ (ce6 w) dX5_at_42 ?_
        refine s_keep [false, false] (lv2 := [none, none]) rfl ?_
        exact fun hx => hB22 ((gI M 6 a1.toNatClampNeg), M) hx
      · refine s_aload_n G dX5_at_25 rfl ?_
        refine s_ldc (v := (-1000000004)) G dX5_at_26 qw311 ?_
        refine s_callVI (as := [.int (-1000000004)]) (st := []) (k := 0) G aw_self mdX5_told (fun _ h => c_X5_told w O l (-1000000004) M _ h) ⟨by decide, by decide⟩ (ce0 w) clX5 rfl qw250 rfl rfl (Nat.le_of_ble_eq_true rfl) (by decide) dX5_at_28 (fun r28 => ?_)
        refine s_goto (tgt := 43) G dX5_at_31 (by decide) ?_
        refine s_keep [false, false] (lv2 := [none, none]) rfl ?_
        exact fun hx => hB22 (r28.1, r28.2) hx

set_option maxRecDepth 100000 in
set_option maxHeartbeats 4000000 in
theorem c_X0_isUp (w : Wx) (O : Mem) (l : Launch) (a1 : Int32) (M : Mem)  (z : Int32) (hz : f_X0_isUp a1 M = some z) : Ct w 0 36 O l 0 muX0_isUp [.ref (w.1 1), .int a1] M (some (.int z), M) := by
  refine ct_of (X := f_X0_isUp a1 M) (K := fun v => some (some (.int v), M)) [some (.ref (w.1 1)), some (.int a1)] rfl rfl (Nat.le_of_ble_eq_true rfl) (by rw [hz]; rfl) ?_
  intro p e s m args below meth c G
  unfold f_X0_isUp
  refine s_aload_n G dX0_isUp_0 rfl ?_
  refine s_get (k := 1) (j := 5) G (.ref (w.1 3)) ⟨by decide, by decide⟩ (ce1 w) rfl clX0 (by decide) qw106 rfl dX0_isUp_1 ?_
  refine s_iload_n G dX0_isUp_4 rfl ?_
  refine s_iald (k := 3) (n := 12) G ⟨by decide, by decide⟩ (ce3 w) dX0_isUp_5 ?_
  refine s_iconst (v := (-1)) G dX0_isUp_6 (by decide) ?_
  refine s_join 15 (fun y7 : Int32 => [none, none]) (fun y7 => [.int y7]) (fun y7 => M) (fun y7 => ?_) (fun K7 hB7 => ?_)
  · refine s_test (fun h15 => ?_)
    exact s_zret G rfl (zb_nar h15) rfl dX0_isUp_15
  · refine s_icmp_eq (tgt := 14) G dX0_isUp_7 (by decide) ?_ ?_
    · refine s_iconst (v := 0) G dX0_isUp_14 (by decide) ?_
      refine s_keep [false, false] (lv2 := [none, none]) rfl ?_
      exact fun hx => hB7 0 hx
    · refine s_iconst (v := 1) G dX0_isUp_10 (by decide) ?_
      refine s_goto (tgt := 15) G dX0_isUp_11 (by decide) ?_
      refine s_keep [false, false] (lv2 := [none, none]) rfl ?_
      exact fun hx => hB7 1 hx

set_option maxRecDepth 100000 in
set_option maxHeartbeats 4000000 in
theorem c_X0_put (w : Wx) (O : Mem) (l : Launch) (a1 : Int32) (a2 : Int32) (M : Mem)  (z : Mem) (hz : f_X0_put a1 a2 M = some z) : Ct w 0 36 O l 0 muX0_put [.ref (w.1 1), .int a1, .int a2] M (none, z) := by
  refine ct_of (X := f_X0_put a1 a2 M) (K := fun v => some (none, v)) [some (.ref (w.1 1)), some (.int a1), some (.int a2)] rfl rfl (Nat.le_of_ble_eq_true rfl) (by rw [hz]; rfl) ?_
  intro p e s m args below meth c G
  unfold f_X0_put
  refine s_aload_n G dX0_put_0 rfl ?_
  refine s_get (k := 1) (j := 5) G (.ref (w.1 3)) ⟨by decide, by decide⟩ (ce1 w) rfl clX0 (by decide) qw106 rfl dX0_put_1 ?_
  refine s_iload_n G dX0_put_4 rfl ?_
  refine s_iload_n G dX0_put_5 rfl ?_
  refine s_iast (k := 3) (n := 12) G ⟨by decide, by decide⟩ (ce3 w) dX0_put_6 (fun m6 => ?_)
  refine s_aload_n G dX0_put_7 rfl ?_
  refine s_get (k := 1) (j := 8) G (.ref (w.1 6)) ⟨by decide, by decide⟩ (ce1 w) rfl clX0 (by decide) qw115 rfl dX0_put_8 ?_
  refine s_iload_n G dX0_put_11 rfl ?_
  refine s_iload_n G dX0_put_12 rfl ?_
  refine s_iast (k := 6) (n := 24) G ⟨by decide, by decide⟩ (ce6 w) dX0_put_13 (fun m13 => ?_)
  exact s_vret G rfl rfl dX0_put_14

set_option maxRecDepth 100000 in
set_option maxHeartbeats 4000000 in
theorem c_X0_addMove (w : Wx) (O : Mem) (l : Launch)  (M : Mem)  (z : Mem) (hz : f_X0_addMove  M = some z) : Ct w 0 36 O l 1 muX0_addMove [.ref (w.1 1)] M (none, z) := by
  refine ct_of (X := f_X0_addMove  M) (K := fun v => some (none, v)) [some (.ref (w.1 1))] rfl rfl (Nat.le_of_ble_eq_true rfl) (by rw [hz]; rfl) ?_
  intro p e s m args below meth c G
  unfold f_X0_addMove
  refine s_aload_n G dX0_addMove_0 rfl ?_
  refine s_aload_n G dX0_addMove_1 rfl ?_
  refine s_get (k := 1) (j := 1) G (.int (gI M 1 1)) ⟨by decide, by decide⟩ (ce1 w) rfl clX0 (by decide) qw94 rfl dX0_addMove_2 ?_
  refine s_iconst (v := 1) G dX0_addMove_5 (by decide) ?_
  refine s_iadd G dX0_addMove_6 ?_
  refine s_sipush (v := 9999) G dX0_addMove_7 (by decide) ?_
  refine s_mmin (st := [.ref (w.1 1)]) G qw329 qw330 qw70 qMath_min (by decide) (Nat.le_of_ble_eq_true rfl) dX0_addMove_10 ?_
  refine s_put (k := 1) (j := 1) G ⟨by decide, by decide⟩ (ce1 w) (fun _ => rfl) clX0 (by decide) (fun _ => (by decide : 1 < 9)) qw94 rfl rfl rfl rfl dX0_addMove_13 (fun m13 => ?_)
  exact s_vret G rfl rfl dX0_addMove_16

set_option maxRecDepth 100000 in
set_option maxHeartbeats 4000000 in
theorem c_X0_up (w : Wx) (O : Mem) (l : Launch)  (M : Mem)  (z : Int32) (hz : f_X0_up  M = some z) : Ct w 0 36 O l 1 muX0_up [.ref (w.1 1)] M (some (.int z), M) := by
  refine ct_of (X := f_X0_up  M) (K := fun v => some (some (.int v), M)) [some (.ref (w.1 1)), none, none] rfl rfl (Nat.le_of_ble_eq_true rfl) (by rw [hz]; rfl) ?_
  intro p e s m args below meth c G
  unfold f_X0_up
  refine s_iconst (v := 0) G dX0_up_0 (by decide) ?_
  refine s_istore_n (lv2 := [some (.ref (w.1 1)), some (.int 0), none]) G dX0_up_1 (by decide) rfl rfl ?_
  refine s_iconst (v := 0) G dX0_up_2 (by decide) ?_
  refine s_istore_n (lv2 := [some (.ref (w.1 1)), some (.int 0), some (.int 0)]) G dX0_up_3 (by decide) rfl rfl ?_
  refine s_loopG (lvf := fun z4 : Int32 × Int32 => [some (.ref (w.1 1)), some (.int z4.1), some (.int z4.2)]) (Mf := fun z4 : Int32 × Int32 => M) (ex := (fun x4_32 : Int32 => (32, [none, some (.int x4_32), none], M))) (el_one 32 (fun x4_32 : Int32 => [none, some (.int x4_32), none]) (fun x4_32 : Int32 => M) (fun x4_32 => ?_)) (fun z4 K4 hB4 hE4 => ?_)
  · refine s_iload_n G dX0_up_32 rfl ?_
    exact s_iret G rfl rfl dX0_up_33
  · unfold f_X0_up_L4
    refine s_iload_n G dX0_up_4 rfl ?_
    refine s_aload_n G dX0_up_5 rfl ?_
    refine s_get (k := 1) (j := 0) G (.int (gI M 1 0)) ⟨by decide, by decide⟩ (ce1 w) rfl clX0 (by decide) qw91 rfl dX0_up_6 ?_
    refine s_icmp_ge (tgt := 32) G dX0_up_9 (by decide) ?_ ?_
    · refine s_keep [false, true, false] (lv2 := [none, some (.int z4.1), none]) rfl ?_
      exact fun hx => hE4 z4.1 hx
    · refine s_aload_n G dX0_up_12 rfl ?_
      refine s_iload_n G dX0_up_13 rfl ?_
      refine s_callVi (as := [.int z4.2]) (st := []) (k := 1) G aw_self mdX0_isUp (fun _ h => c_X0_isUp w O l z4.2 M _ h) ⟨by decide, by decide⟩ (ce1 w) clX0 rfl qw336 rfl rfl (Nat.le_of_ble_eq_true rfl) (by decide) dX0_up_14 (fun r14 => ?_)
      refine s_join 26 (fun y17 : Int32 => [some (.ref (w.1 1)), some (.int y17), some (.int z4.2)]) (fun y17 => []) (fun y17 => M) (fun y17 => ?_) (fun K17 hB17 => ?_)
      · refine s_iinc (v := (z4.2 + 1)) (lv2 := [some (.ref (w.1 1)), some (.int y17), some (.int (z4.2 + 1))]) G dX0_up_26 rfl rfl (by decide) rfl rfl ?_
        refine s_goto (tgt := 4) G dX0_up_29 (by decide) ?_
        exact fun hx => hB4 (y17, (z4.2 + 1)) hx
      · refine s_if_eq (tgt := 26) G dX0_up_17 (by decide) ?_ ?_
        · exact fun hx => hB17 z4.1 hx
        · refine s_iload_n G dX0_up_20 rfl ?_
          refine s_iconst (v := 1) G dX0_up_21 (by decide) ?_
          refine s_iload_n G dX0_up_22 rfl ?_
          refine s_ishl G dX0_up_23 ?_
          refine s_ior G dX0_up_24 ?_
          refine s_name (f := Value.int) (fun v25 => ?_)
          refine s_istore_n (lv2 := [some (.ref (w.1 1)), some (.int v25), some (.int z4.2)]) G dX0_up_25 (by decide) rfl rfl ?_
          exact fun hx => hB17 v25 hx

set_option maxRecDepth 100000 in
set_option maxHeartbeats 4000000 in
theorem c_J6_bitCount_0f7a4 (w : Wx) (O : Mem) (l : Launch) (a0 : Int32) (M : Mem)  (z : Int32) (hz : f_J6_bitCount_0f7a4 a0 = some z) : Ct w 0 36 O l 0 muJ6_bitCount_0f7a4 [.int a0] M (some (.int z), M) := by
  refine ct_of (X := f_J6_bitCount_0f7a4 a0) (K := fun v => some (some (.int v), M)) [some (.int a0)] rfl rfl (Nat.le_of_ble_eq_true rfl) (by rw [hz]; rfl) ?_
  intro p e s m args below meth c G
  unfold f_J6_bitCount_0f7a4
  refine s_iload_n G dJ6_bitCount_0f7a4_0 rfl ?_
  refine s_iload_n G dJ6_bitCount_0f7a4_1 rfl ?_
  refine s_iconst (v := 1) G dJ6_bitCount_0f7a4_2 (by decide) ?_
  refine s_iushr G dJ6_bitCount_0f7a4_3 ?_
  refine s_ldcw (v := 1431655765) G dJ6_bitCount_0f7a4_4 qw340 ?_
  refine s_iand G dJ6_bitCount_0f7a4_7 ?_
  refine s_isub G dJ6_bitCount_0f7a4_8 ?_
  refine s_name (f := Value.int) (fun v9 => ?_)
  refine s_istore_n (lv2 := [some (.int v9)]) G dJ6_bitCount_0f7a4_9 (by decide) rfl rfl ?_
  refine s_iload_n G dJ6_bitCount_0f7a4_10 rfl ?_
  refine s_ldcw (v := 858993459) G dJ6_bitCount_0f7a4_11 qw341 ?_
  refine s_iand G dJ6_bitCount_0f7a4_14 ?_
  refine s_iload_n G dJ6_bitCount_0f7a4_15 rfl ?_
  refine s_iconst (v := 2) G dJ6_bitCount_0f7a4_16 (by decide) ?_
  refine s_iushr G dJ6_bitCount_0f7a4_17 ?_
  refine s_ldcw (v := 858993459) G dJ6_bitCount_0f7a4_18 qw341 ?_
  refine s_iand G dJ6_bitCount_0f7a4_21 ?_
  refine s_iadd G dJ6_bitCount_0f7a4_22 ?_
  refine s_name (f := Value.int) (fun v23 => ?_)
  refine s_istore_n (lv2 := [some (.int v23)]) G dJ6_bitCount_0f7a4_23 (by decide) rfl rfl ?_
  refine s_iload_n G dJ6_bitCount_0f7a4_24 rfl ?_
  refine s_iload_n G dJ6_bitCount_0f7a4_25 rfl ?_
  refine s_iconst (v := 4) G dJ6_bitCount_0f7a4_26 (by decide) ?_
  refine s_iushr G dJ6_bitCount_0f7a4_27 ?_
  refine s_iadd G dJ6_bitCount_0f7a4_28 ?_
  refine s_ldcw (v := 252645135) G dJ6_bitCount_0f7a4_29 qw342 ?_
  refine s_iand G dJ6_bitCount_0f7a4_32 ?_
  refine s_name (f := Value.int) (fun v33 => ?_)
  refine s_istore_n (lv2 := [some (.int v33)]) G dJ6_bitCount_0f7a4_33 (by decide) rfl rfl ?_
  refine s_iload_n G dJ6_bitCount_0f7a4_34 rfl ?_
  refine s_iload_n G dJ6_bitCount_0f7a4_35 rfl ?_
  refine s_bipush (v := 8) G dJ6_bitCount_0f7a4_36 (by decide) ?_
  refine s_iushr G dJ6_bitCount_0f7a4_38 ?_
  refine s_iadd G dJ6_bitCount_0f7a4_39 ?_
  refine s_name (f := Value.int) (fun v40 => ?_)
  refine s_istore_n (lv2 := [some (.int v40)]) G dJ6_bitCount_0f7a4_40 (by decide) rfl rfl ?_
  refine s_iload_n G dJ6_bitCount_0f7a4_41 rfl ?_
  refine s_iload_n G dJ6_bitCount_0f7a4_42 rfl ?_
  refine s_bipush (v := 16) G dJ6_bitCount_0f7a4_43 (by decide) ?_
  refine s_iushr G dJ6_bitCount_0f7a4_45 ?_
  refine s_iadd G dJ6_bitCount_0f7a4_46 ?_
  refine s_name (f := Value.int) (fun v47 => ?_)
  refine s_istore_n (lv2 := [some (.int v47)]) G dJ6_bitCount_0f7a4_47 (by decide) rfl rfl ?_
  refine s_iload_n G dJ6_bitCount_0f7a4_48 rfl ?_
  refine s_bipush (v := 63) G dJ6_bitCount_0f7a4_49 (by decide) ?_
  refine s_iand G dJ6_bitCount_0f7a4_51 ?_
  exact s_iret G rfl rfl dJ6_bitCount_0f7a4_52

set_option maxRecDepth 100000 in
set_option maxHeartbeats 4000000 in
theorem c_X5_hang (w : Wx) (O : Mem) (l : Launch) (a1 : Int32) (a2 : Int32) (M : Mem)  (z : Int32 × Mem) (hz : f_X5_hang a1 a2 M = some z) : Ct w 0 36 O l 2 muX5_hang [.ref (w.1 0), .int a1, .int a2] M (some (.int z.1), z.2) := by
  refine ct_of (X := f_X5_hang a1 a2 M) (K := fun v => some (some (.int v.1), v.2)) [some (.ref (w.1 0)), some (.int a1), some (.int a2)] rfl rfl (Nat.le_of_ble_eq_true rfl) (by rw [hz]; rfl) ?_
  intro p e s m args below meth c G
  unfold f_X5_hang
  refine s_aload_n G dX5_hang_0 rfl ?_
  refine s_get (k := 0) (j := 0) G (.ref (w.1 1)) ⟨by decide, by decide⟩ (ce0 w) rfl clX5 (by decide) qw214 rfl dX5_hang_1 ?_
  refine s_iload_n G dX5_hang_4 rfl ?_
  refine s_callVi (as := [.int a1]) (st := []) (k := 1) G aw_self mdX0_has (fun _ h => c_X0_has w O l a1 M _ h) ⟨by decide, by decide⟩ (ce1 w) clX0 rfl qw263 rfl rfl (Nat.le_of_ble_eq_true rfl) (by decide) dX5_hang_5 (fun r5 => ?_)
  refine s_if_eq (tgt := 18) G dX5_hang_8 (by decide) ?_ ?_
  · refine s_aload_n G dX5_hang_18 rfl ?_
    refine s_ldc (v := (-1000000001)) G dX5_hang_19 qw249 ?_
    refine s_callVI (as := [.int (-1000000001)]) (st := []) (k := 0) G aw_self mdX5_told (fun _ h => c_X5_told w O l (-1000000001) M _ h) ⟨by decide, by decide⟩ (ce0 w) clX5 rfl qw250 rfl rfl (Nat.le_of_ble_eq_true rfl) (by decide) dX5_hang_21 (fun r21 => ?_)
    exact s_iret G rfl rfl dX5_hang_24
  · refine s_iload_n G dX5_hang_11 rfl ?_
    refine s_callSi (as := [.int a2]) (st := []) G aw_self mdX5_isPlace (fun _ h => c_X5_isPlace w O l a2 M _ h) qw304 rfl rfl (Nat.le_of_ble_eq_true rfl) (by decide) dX5_hang_12 (fun r12 => ?_)
    refine s_if_ne (tgt := 25) G dX5_hang_15 (by decide) ?_ ?_
    · refine s_aload_n G dX5_hang_18 rfl ?_
      refine s_ldc (v := (-1000000001)) G dX5_hang_19 qw249 ?_
      refine s_callVI (as := [.int (-1000000001)]) (st := []) (k := 0) G aw_self mdX5_told (fun _ h => c_X5_told w O l (-1000000001) M _ h) ⟨by decide, by decide⟩ (ce0 w) clX5 rfl qw250 rfl rfl (Nat.le_of_ble_eq_true rfl) (by decide) dX5_hang_21 (fun r21 => ?_)
      exact s_iret G rfl rfl dX5_hang_24
    · refine s_aload_n G dX5_hang_25 rfl ?_
      refine s_get (k := 0) (j := 0) G (.ref (w.1 1)) ⟨by decide, by decide⟩ (ce0 w) rfl clX5 (by decide) qw214 rfl dX5_hang_26 ?_
      refine s_iload_n G dX5_hang_29 rfl ?_
      refine s_callVi (as := [.int a1]) (st := []) (k := 1) G aw_self mdX0_isUp (fun _ h => c_X0_isUp w O l a1 M _ h) ⟨by decide, by decide⟩ (ce1 w) clX0 rfl qw316 rfl rfl (Nat.le_of_ble_eq_true rfl) (by decide) dX5_hang_30 (fun r30 => ?_)
      refine s_if_ne (tgt := 47) G dX5_hang_33 (by decide) ?_ ?_
      · refine s_aload_n G dX5_hang_36 rfl ?_
        refine s_get (k := 0) (j := 0) G (.ref (w.1 1)) ⟨by decide, by decide⟩ (ce0 w) rfl clX5 (by decide) qw214 rfl dX5_hang_37 ?_
        refine s_iload_n G dX5_hang_40 rfl ?_
        refine s_callVi (as := [.int a2]) (st := []) (k := 1) G aw_self mdX0_isFree (fun _ h => c_X0_isFree w O l a2 M _ h) ⟨by decide, by decide⟩ (ce1 w) clX0 rfl qw307 rfl rfl (Nat.le_of_ble_eq_true rfl) (by decide) dX5_hang_41 (fun r41 => ?_)
        refine s_if_ne (tgt := 54) G dX5_hang_44 (by decide) ?_ ?_
        · refine s_aload_n G dX5_hang_47 rfl ?_
          refine s_ldc (v := (-1000000005)) G dX5_hang_48 qw320 ?_
          refine s_callVI (as := [.int (-1000000005)]) (st := []) (k := 0) G aw_self mdX5_told (fun _ h => c_X5_told w O l (-1000000005) M _ h) ⟨by decide, by decide⟩ (ce0 w) clX5 rfl qw250 rfl rfl (Nat.le_of_ble_eq_true rfl) (by decide) dX5_hang_50 (fun r50 => ?_)
          exact s_iret G rfl rfl dX5_hang_53
        · refine s_aload_n G dX5_hang_54 rfl ?_
          refine s_get (k := 0) (j := 0) G (.ref (w.1 1)) ⟨by decide, by decide⟩ (ce0 w) rfl clX5 (by decide) qw214 rfl dX5_hang_55 ?_
          refine s_iload_n G dX5_hang_58 rfl ?_
          refine s_iload_n G dX5_hang_59 rfl ?_
          refine s_callVv (as := [.int a1, .int a2]) (st := []) (k := 1) G aw_self mdX0_put (fun _ h => c_X0_put w O l a1 a2 M _ h) ⟨by decide, by decide⟩ (ce1 w) clX0 rfl qw321 rfl rfl (Nat.le_of_ble_eq_true rfl) (by decide) dX5_hang_60 (fun r60 => ?_)
          refine s_aload_n G dX5_hang_63 rfl ?_
          refine s_get (k := 0) (j := 0) G (.ref (w.1 1)) ⟨by decide, by decide⟩ (ce0 w) rfl clX5 (by decide) qw214 rfl dX5_hang_64 ?_
          refine s_callVv (as := []) (st := []) (k := 1) G aw_self mdX0_addMove (fun _ h => c_X0_addMove w O l r60 _ h) ⟨by decide, by decide⟩ (ce1 w) clX0 rfl qw325 rfl rfl (Nat.le_of_ble_eq_true rfl) (by decide) dX5_hang_67 (fun r67 => ?_)
          refine s_aload_n G dX5_hang_70 rfl ?_
          refine s_get (k := 0) (j := 0) G (.ref (w.1 1)) ⟨by decide, by decide⟩ (ce0 w) rfl clX5 (by decide) qw214 rfl dX5_hang_71 ?_
          refine s_callVi (as := []) (st := []) (k := 1) G aw_self mdX0_up (fun _ h => c_X0_up w O l r67 _ h) ⟨by decide, by decide⟩ (ce1 w) clX0 rfl qw332 rfl rfl (Nat.le_of_ble_eq_true rfl) (by decide) dX5_hang_74 (fun r74 => ?_)
          refine s_callSi (as := [.int r74]) (st := []) G aw_self mdJ6_bitCount_0f7a4 (fun _ h => c_J6_bitCount_0f7a4 w O l r74 r67 _ h) qw337 rfl rfl (Nat.le_of_ble_eq_true rfl) (by decide) dX5_hang_77 (fun r77 => ?_)
          exact s_iret G rfl rfl dX5_hang_80
      · refine s_aload_n G dX5_hang_47 rfl ?_
        refine s_ldc (v := (-1000000005)) G dX5_hang_48 qw320 ?_
        refine s_callVI (as := [.int (-1000000005)]) (st := []) (k := 0) G aw_self mdX5_told (fun _ h => c_X5_told w O l (-1000000005) M _ h) ⟨by decide, by decide⟩ (ce0 w) clX5 rfl qw250 rfl rfl (Nat.le_of_ble_eq_true rfl) (by decide) dX5_hang_50 (fun r50 => ?_)
        exact s_iret G rfl rfl dX5_hang_53

set_option maxRecDepth 100000 in
set_option maxHeartbeats 4000000 in
theorem c_X5_face (w : Wx) (O : Mem) (l : Launch) (a1 : Int32) (M : Mem)  (z : Int32 × Mem) (hz : f_X5_face a1 M = some z) : Ct w 0 36 O l 2 muX5_face [.ref (w.1 0), .int a1] M (some (.int z.1), z.2) := by
  refine ct_of (X := f_X5_face a1 M) (K := fun v => some (some (.int v.1), v.2)) [some (.ref (w.1 0)), some (.int a1)] rfl rfl (Nat.le_of_ble_eq_true rfl) (by rw [hz]; rfl) ?_
  intro p e s m args below meth c G
  unfold f_X5_face
  refine s_aload_n G dX5_face_0 rfl ?_
  refine s_get (k := 0) (j := 0) G (.ref (w.1 1)) ⟨by decide, by decide⟩ (ce0 w) rfl clX5 (by decide) qw214 rfl dX5_face_1 ?_
  refine s_iload_n G dX5_face_4 rfl ?_
  refine s_callVi (as := [.int a1]) (st := []) (k := 1) G aw_self mdX0_has (fun _ h => c_X0_has w O l a1 M _ h) ⟨by decide, by decide⟩ (ce1 w) clX0 rfl qw263 rfl rfl (Nat.le_of_ble_eq_true rfl) (by decide) dX5_face_5 (fun r5 => ?_)
  refine s_if_ne (tgt := 18) G dX5_face_8 (by decide) ?_ ?_
  · refine s_aload_n G dX5_face_11 rfl ?_
    refine s_ldc (v := (-1000000001)) G dX5_face_12 qw249 ?_
    refine s_callVI (as := [.int (-1000000001)]) (st := []) (k := 0) G aw_self mdX5_told (fun _ h => c_X5_told w O l (-1000000001) M _ h) ⟨by decide, by decide⟩ (ce0 w) clX5 rfl qw250 rfl rfl (Nat.le_of_ble_eq_true rfl) (by decide) dX5_face_14 (fun r14 => ?_)
    exact s_iret G rfl rfl dX5_face_17
  · refine s_aload_n G dX5_face_18 rfl ?_
    refine s_get (k := 0) (j := 0) G (.ref (w.1 1)) ⟨by decide, by decide⟩ (ce0 w) rfl clX5 (by decide) qw214 rfl dX5_face_19 ?_
    refine s_dup G dX5_face_22 rfl ?_
    refine s_get (k := 1) (j := 3) G (.int (gI M 1 3)) ⟨by decide, by decide⟩ (ce1 w) rfl clX0 (by decide) qw102 rfl dX5_face_23 ?_
    refine s_iconst (v := 1) G dX5_face_26 (by decide) ?_
    refine s_iload_n G dX5_face_27 rfl ?_
    refine s_ishl G dX5_face_28 ?_
    refine s_ixor G dX5_face_29 ?_
    refine s_put (k := 1) (j := 3) G ⟨by decide, by decide⟩ (ce1 w) (fun _ => rfl) clX0 (by decide) (fun _ => (by decide : 3 < 9)) qw102 rfl rfl rfl rfl dX5_face_30 (fun m30 => ?_)
    refine s_aload_n G dX5_face_33 rfl ?_
    refine s_get (k := 0) (j := 0) G (.ref (w.1 1)) ⟨by decide, by decide⟩ (ce0 w) rfl clX5 (by decide) qw214 rfl dX5_face_34 ?_
    refine s_callVv (as := []) (st := []) (k := 1) G aw_self mdX0_addMove (fun _ h => c_X0_addMove w O l m30 _ h) ⟨by decide, by decide⟩ (ce1 w) clX0 rfl qw325 rfl rfl (Nat.le_of_ble_eq_true rfl) (by decide) dX5_face_37 (fun r37 => ?_)
    refine s_aload_n G dX5_face_40 rfl ?_
    refine s_get (k := 0) (j := 0) G (.ref (w.1 1)) ⟨by decide, by decide⟩ (ce0 w) rfl clX5 (by decide) qw214 rfl dX5_face_41 ?_
    refine s_iload_n G dX5_face_44 rfl ?_
    refine s_callVi (as := [.int a1]) (st := []) (k := 1) G aw_self mdX0_facingOf (fun _ h => c_X0_facingOf w O l a1 r37 _ h) ⟨by decide, by decide⟩ (ce1 w) clX0 rfl qw267 rfl rfl (Nat.le_of_ble_eq_true rfl) (by decide) dX5_face_45 (fun r45 => ?_)
    exact s_iret G rfl rfl dX5_face_48

set_option maxRecDepth 100000 in
set_option maxHeartbeats 4000000 in
theorem c_X0_putOut (w : Wx) (O : Mem) (l : Launch) (a1 : Int32) (M : Mem)  (z : Mem) (hz : f_X0_putOut a1 M = some z) : Ct w 0 36 O l 1 muX0_putOut [.ref (w.1 1), .int a1] M (none, z) := by
  refine ct_of (X := f_X0_putOut a1 M) (K := fun v => some (none, v)) [some (.ref (w.1 1)), some (.int a1), none] rfl rfl (Nat.le_of_ble_eq_true rfl) (by rw [hz]; rfl) ?_
  intro p e s m args below meth c G
  unfold f_X0_putOut
  refine s_aload_n G dX0_putOut_0 rfl ?_
  refine s_get (k := 1) (j := 5) G (.ref (w.1 3)) ⟨by decide, by decide⟩ (ce1 w) rfl clX0 (by decide) qw106 rfl dX0_putOut_1 ?_
  refine s_iload_n G dX0_putOut_4 rfl ?_
  refine s_iald (k := 3) (n := 12) G ⟨by decide, by decide⟩ (ce3 w) dX0_putOut_5 ?_
  refine s_name (f := Value.int) (fun v6 => ?_)
  refine s_istore_n (lv2 := [some (.ref (w.1 1)), some (.int a1), some (.int v6)]) G dX0_putOut_6 (by decide) rfl rfl ?_
  refine s_iload_n G dX0_putOut_7 rfl ?_
  refine s_callSNi (as := [.int v6]) (st := []) G aw_self mdX5_isPlace (fun _ h => c_X5_isPlace w O l v6 M _ h) (by decide) rfl rfl (Nat.le_of_ble_eq_true rfl) (by decide) dX0_putOut_8 (fun r8 => ?_)
  refine s_join 21 (fun y11 : Mem => [some (.ref (w.1 1)), some (.int a1), none]) (fun y11 => []) (fun y11 => y11) (fun y11 => ?_) (fun K11 hB11 => ?_)
  · refine s_aload_n G dX0_putOut_21 rfl ?_
    refine s_get (k := 1) (j := 5) G (.ref (w.1 3)) ⟨by decide, by decide⟩ (ce1 w) rfl clX0 (by decide) qw106 rfl dX0_putOut_22 ?_
    refine s_iload_n G dX0_putOut_25 rfl ?_
    refine s_iconst (v := (-1)) G dX0_putOut_26 (by decide) ?_
    refine s_iast (k := 3) (n := 12) G ⟨by decide, by decide⟩ (ce3 w) dX0_putOut_27 (fun m27 => ?_)
    exact s_vret G rfl rfl dX0_putOut_28
  · refine s_if_eq (tgt := 21) G dX0_putOut_11 (by decide) ?_ ?_
    · refine s_keep [true, true, false] (lv2 := [some (.ref (w.1 1)), some (.int a1), none]) rfl ?_
      exact fun hx => hB11 M hx
    · refine s_aload_n G dX0_putOut_14 rfl ?_
      refine s_get (k := 1) (j := 8) G (.ref (w.1 6)) ⟨by decide, by decide⟩ (ce1 w) rfl clX0 (by decide) qw115 rfl dX0_putOut_15 ?_
      refine s_iload_n G dX0_putOut_18 rfl ?_
      refine s_iconst (v := (-1)) G dX0_putOut_19 (by decide) ?_
      refine s_iast (k := 6) (n := 24) G ⟨by decide, by decide⟩ (ce6 w) dX0_putOut_20 (fun m20 => ?_)
      refine s_keep [true, true, false] (lv2 := [some (.ref (w.1 1)), some (.int a1), none]) rfl ?_
      exact fun hx => hB11 m20 hx

set_option maxRecDepth 100000 in
set_option maxHeartbeats 4000000 in
theorem c_X5_shift (w : Wx) (O : Mem) (l : Launch) (a1 : Int32) (a2 : Int32) (M : Mem)  (z : Int32 × Mem) (hz : f_X5_shift a1 a2 M = some z) : Ct w 0 36 O l 2 muX5_shift [.ref (w.1 0), .int a1, .int a2] M (some (.int z.1), z.2) := by
  refine ct_of (X := f_X5_shift a1 a2 M) (K := fun v => some (some (.int v.1), v.2)) [some (.ref (w.1 0)), some (.int a1), some (.int a2), none] rfl rfl (Nat.le_of_ble_eq_true rfl) (by rw [hz]; rfl) ?_
  intro p e s m args below meth c G
  unfold f_X5_shift
  refine s_aload_n G dX5_shift_0 rfl ?_
  refine s_get (k := 0) (j := 0) G (.ref (w.1 1)) ⟨by decide, by decide⟩ (ce0 w) rfl clX5 (by decide) qw214 rfl dX5_shift_1 ?_
  refine s_iload_n G dX5_shift_4 rfl ?_
  refine s_callVi (as := [.int a1]) (st := []) (k := 1) G aw_self mdX0_has (fun _ h => c_X0_has w O l a1 M _ h) ⟨by decide, by decide⟩ (ce1 w) clX0 rfl qw263 rfl rfl (Nat.le_of_ble_eq_true rfl) (by decide) dX5_shift_5 (fun r5 => ?_)
  refine s_if_ne (tgt := 18) G dX5_shift_8 (by decide) ?_ ?_
  · refine s_aload_n G dX5_shift_11 rfl ?_
    refine s_ldc (v := (-1000000001)) G dX5_shift_12 qw249 ?_
    refine s_callVI (as := [.int (-1000000001)]) (st := []) (k := 0) G aw_self mdX5_told (fun _ h => c_X5_told w O l (-1000000001) M _ h) ⟨by decide, by decide⟩ (ce0 w) clX5 rfl qw250 rfl rfl (Nat.le_of_ble_eq_true rfl) (by decide) dX5_shift_14 (fun r14 => ?_)
    exact s_iret G rfl rfl dX5_shift_17
  · refine s_aload_n G dX5_shift_18 rfl ?_
    refine s_get (k := 0) (j := 0) G (.ref (w.1 1)) ⟨by decide, by decide⟩ (ce0 w) rfl clX5 (by decide) qw214 rfl dX5_shift_19 ?_
    refine s_iload_n G dX5_shift_22 rfl ?_
    refine s_callVi (as := [.int a1]) (st := []) (k := 1) G aw_self mdX0_isUp (fun _ h => c_X0_isUp w O l a1 M _ h) ⟨by decide, by decide⟩ (ce1 w) clX0 rfl qw316 rfl rfl (Nat.le_of_ble_eq_true rfl) (by decide) dX5_shift_23 (fun r23 => ?_)
    refine s_if_eq (tgt := 41) G dX5_shift_26 (by decide) ?_ ?_
    · refine s_aload_n G dX5_shift_41 rfl ?_
      refine s_ldc (v := (-1000000005)) G dX5_shift_42 qw320 ?_
      refine s_callVI (as := [.int (-1000000005)]) (st := []) (k := 0) G aw_self mdX5_told (fun _ h => c_X5_told w O l (-1000000005) M _ h) ⟨by decide, by decide⟩ (ce0 w) clX5 rfl qw250 rfl rfl (Nat.le_of_ble_eq_true rfl) (by decide) dX5_shift_44 (fun r44 => ?_)
      exact s_iret G rfl rfl dX5_shift_47
    · refine s_iload_n G dX5_shift_29 rfl ?_
      refine s_bipush (v := (-24)) G dX5_shift_30 (by decide) ?_
      refine s_icmp_le (tgt := 41) G dX5_shift_32 (by decide) ?_ ?_
      · refine s_aload_n G dX5_shift_41 rfl ?_
        refine s_ldc (v := (-1000000005)) G dX5_shift_42 qw320 ?_
        refine s_callVI (as := [.int (-1000000005)]) (st := []) (k := 0) G aw_self mdX5_told (fun _ h => c_X5_told w O l (-1000000005) M _ h) ⟨by decide, by decide⟩ (ce0 w) clX5 rfl qw250 rfl rfl (Nat.le_of_ble_eq_true rfl) (by decide) dX5_shift_44 (fun r44 => ?_)
        exact s_iret G rfl rfl dX5_shift_47
      · refine s_iload_n G dX5_shift_35 rfl ?_
        refine s_bipush (v := 24) G dX5_shift_36 (by decide) ?_
        refine s_icmp_lt (tgt := 48) G dX5_shift_38 (by decide) ?_ ?_
        · refine s_aload_n G dX5_shift_48 rfl ?_
          refine s_get (k := 0) (j := 0) G (.ref (w.1 1)) ⟨by decide, by decide⟩ (ce0 w) rfl clX5 (by decide) qw214 rfl dX5_shift_49 ?_
          refine s_get (k := 1) (j := 5) G (.ref (w.1 3)) ⟨by decide, by decide⟩ (ce1 w) rfl clX0 (by decide) qw108 rfl dX5_shift_52 ?_
          refine s_iload_n G dX5_shift_55 rfl ?_
          refine s_iald (k := 3) (n := 12) G ⟨by decide, by decide⟩ (ce3 w) dX5_shift_56 ?_
          refine s_iload_n G dX5_shift_57 rfl ?_
          refine s_iadd G dX5_shift_58 ?_
          refine s_name (f := Value.int) (fun v59 => ?_)
          refine s_istore_n (lv2 := [some (.ref (w.1 0)), some (.int a1), some (.int a2), some (.int v59)]) G dX5_shift_59 (by decide) rfl rfl ?_
          refine s_iload_n G dX5_shift_60 rfl ?_
          refine s_callSi (as := [.int v59]) (st := []) G aw_self mdX5_isPlace (fun _ h => c_X5_isPlace w O l v59 M _ h) qw304 rfl rfl (Nat.le_of_ble_eq_true rfl) (by decide) dX5_shift_61 (fun r61 => ?_)
          refine s_if_eq (tgt := 78) G dX5_shift_64 (by decide) ?_ ?_
          · refine s_aload_n G dX5_shift_78 rfl ?_
            refine s_ldc (v := (-1000000005)) G dX5_shift_79 qw320 ?_
            refine s_callVI (as := [.int (-1000000005)]) (st := []) (k := 0) G aw_self mdX5_told (fun _ h => c_X5_told w O l (-1000000005) M _ h) ⟨by decide, by decide⟩ (ce0 w) clX5 rfl qw250 rfl rfl (Nat.le_of_ble_eq_true rfl) (by decide) dX5_shift_81 (fun r81 => ?_)
            exact s_iret G rfl rfl dX5_shift_84
          · refine s_aload_n G dX5_shift_67 rfl ?_
            refine s_get (k := 0) (j := 0) G (.ref (w.1 1)) ⟨by decide, by decide⟩ (ce0 w) rfl clX5 (by decide) qw214 rfl dX5_shift_68 ?_
            refine s_iload_n G dX5_shift_71 rfl ?_
            refine s_callVi (as := [.int v59]) (st := []) (k := 1) G aw_self mdX0_isFree (fun _ h => c_X0_isFree w O l v59 M _ h) ⟨by decide, by decide⟩ (ce1 w) clX0 rfl qw307 rfl rfl (Nat.le_of_ble_eq_true rfl) (by decide) dX5_shift_72 (fun r72 => ?_)
            refine s_if_ne (tgt := 85) G dX5_shift_75 (by decide) ?_ ?_
            · refine s_aload_n G dX5_shift_78 rfl ?_
              refine s_ldc (v := (-1000000005)) G dX5_shift_79 qw320 ?_
              refine s_callVI (as := [.int (-1000000005)]) (st := []) (k := 0) G aw_self mdX5_told (fun _ h => c_X5_told w O l (-1000000005) M _ h) ⟨by decide, by decide⟩ (ce0 w) clX5 rfl qw250 rfl rfl (Nat.le_of_ble_eq_true rfl) (by decide) dX5_shift_81 (fun r81 => ?_)
              exact s_iret G rfl rfl dX5_shift_84
            · refine s_aload_n G dX5_shift_85 rfl ?_
              refine s_get (k := 0) (j := 0) G (.ref (w.1 1)) ⟨by decide, by decide⟩ (ce0 w) rfl clX5 (by decide) qw214 rfl dX5_shift_86 ?_
              refine s_iload_n G dX5_shift_89 rfl ?_
              refine s_callVv (as := [.int a1]) (st := []) (k := 1) G aw_self mdX0_putOut (fun _ h => c_X0_putOut w O l a1 M _ h) ⟨by decide, by decide⟩ (ce1 w) clX0 rfl qw351 rfl rfl (Nat.le_of_ble_eq_true rfl) (by decide) dX5_shift_90 (fun r90 => ?_)
              refine s_aload_n G dX5_shift_93 rfl ?_
              refine s_get (k := 0) (j := 0) G (.ref (w.1 1)) ⟨by decide, by decide⟩ (ce0 w) rfl clX5 (by decide) qw214 rfl dX5_shift_94 ?_
              refine s_iload_n G dX5_shift_97 rfl ?_
              refine s_iload_n G dX5_shift_98 rfl ?_
              refine s_callVv (as := [.int a1, .int v59]) (st := []) (k := 1) G aw_self mdX0_put (fun _ h => c_X0_put w O l a1 v59 r90 _ h) ⟨by decide, by decide⟩ (ce1 w) clX0 rfl qw321 rfl rfl (Nat.le_of_ble_eq_true rfl) (by decide) dX5_shift_99 (fun r99 => ?_)
              refine s_aload_n G dX5_shift_102 rfl ?_
              refine s_get (k := 0) (j := 0) G (.ref (w.1 1)) ⟨by decide, by decide⟩ (ce0 w) rfl clX5 (by decide) qw214 rfl dX5_shift_103 ?_
              refine s_callVv (as := []) (st := []) (k := 1) G aw_self mdX0_addMove (fun _ h => c_X0_addMove w O l r99 _ h) ⟨by decide, by decide⟩ (ce1 w) clX0 rfl qw325 rfl rfl (Nat.le_of_ble_eq_true rfl) (by decide) dX5_shift_106 (fun r106 => ?_)
              refine s_iload_n G dX5_shift_109 rfl ?_
              exact s_iret G rfl rfl dX5_shift_110
        · refine s_aload_n G dX5_shift_41 rfl ?_
          refine s_ldc (v := (-1000000005)) G dX5_shift_42 qw320 ?_
          refine s_callVI (as := [.int (-1000000005)]) (st := []) (k := 0) G aw_self mdX5_told (fun _ h => c_X5_told w O l (-1000000005) M _ h) ⟨by decide, by decide⟩ (ce0 w) clX5 rfl qw250 rfl rfl (Nat.le_of_ble_eq_true rfl) (by decide) dX5_shift_44 (fun r44 => ?_)
          exact s_iret G rfl rfl dX5_shift_47

set_option maxRecDepth 100000 in
set_option maxHeartbeats 4000000 in
theorem c_X0_hasRoom (w : Wx) (O : Mem) (l : Launch) (a1 : Int32) (M : Mem)  (z : Int32) (hz : f_X0_hasRoom a1 M = some z) : Ct w 0 36 O l 1 muX0_hasRoom [.ref (w.1 1), .int a1] M (some (.int z), M) := by
  refine ct_of (X := f_X0_hasRoom a1 M) (K := fun v => some (some (.int v), M)) [some (.ref (w.1 1)), some (.int a1), none, none, none] rfl rfl (Nat.le_of_ble_eq_true rfl) (by rw [hz]; rfl) ?_
  intro p e s m args below meth c G
  unfold f_X0_hasRoom
  refine s_iconst (v := 0) G dX0_hasRoom_0 (by decide) ?_
  refine s_istore_n (lv2 := [some (.ref (w.1 1)), some (.int a1), some (.int 0), none, none]) G dX0_hasRoom_1 (by decide) rfl rfl ?_
  refine s_aload_n G dX0_hasRoom_2 rfl ?_
  refine s_get (k := 1) (j := 5) G (.ref (w.1 3)) ⟨by decide, by decide⟩ (ce1 w) rfl clX0 (by decide) qw106 rfl dX0_hasRoom_3 ?_
  refine s_iload_n G dX0_hasRoom_6 rfl ?_
  refine s_iald (k := 3) (n := 12) G ⟨by decide, by decide⟩ (ce3 w) dX0_hasRoom_7 ?_
  refine s_iconst (v := 1) G dX0_hasRoom_8 (by decide) ?_
  refine s_isub G dX0_hasRoom_9 ?_
  refine s_name (f := Value.int) (fun v10 => ?_)
  refine s_istore_n (lv2 := [some (.ref (w.1 1)), some (.int a1), some (.int 0), some (.int v10), none]) G dX0_hasRoom_10 (by decide) rfl rfl ?_
  refine s_aload_n G dX0_hasRoom_11 rfl ?_
  refine s_get (k := 1) (j := 5) G (.ref (w.1 3)) ⟨by decide, by decide⟩ (ce1 w) rfl clX0 (by decide) qw106 rfl dX0_hasRoom_12 ?_
  refine s_iload_n G dX0_hasRoom_15 rfl ?_
  refine s_iald (k := 3) (n := 12) G ⟨by decide, by decide⟩ (ce3 w) dX0_hasRoom_16 ?_
  refine s_iconst (v := 1) G dX0_hasRoom_17 (by decide) ?_
  refine s_iadd G dX0_hasRoom_18 ?_
  refine s_name (f := Value.int) (fun v19 => ?_)
  refine s_istore (lv2 := [some (.ref (w.1 1)), some (.int a1), some (.int 0), some (.int v10), some (.int v19)]) G dX0_hasRoom_19 (by decide) rfl rfl ?_
  refine s_iload_n G dX0_hasRoom_21 rfl ?_
  refine s_callSNi (as := [.int v10]) (st := []) G aw_self mdX5_isPlace (fun _ h => c_X5_isPlace w O l v10 M _ h) (by decide) rfl rfl (Nat.le_of_ble_eq_true rfl) (by decide) dX0_hasRoom_22 (fun r22 => ?_)
  refine s_join 39 (fun y25 : Int32 => [some (.ref (w.1 1)), some (.int a1), some (.int y25), none, some (.int v19)]) (fun y25 => []) (fun y25 => M) (fun y25 => ?_) (fun K25 hB25 => ?_)
  · refine s_iload G dX0_hasRoom_39 rfl ?_
    refine s_callSNi (as := [.int v19]) (st := []) G aw_self mdX5_isPlace (fun _ h => c_X5_isPlace w O l v19 M _ h) (by decide) rfl rfl (Nat.le_of_ble_eq_true rfl) (by decide) dX0_hasRoom_41 (fun r41 => ?_)
    refine s_join 59 (fun y44 : Int32 => [some (.ref (w.1 1)), some (.int a1), some (.int y44), none, none]) (fun y44 => []) (fun y44 => M) (fun y44 => ?_) (fun K44 hB44 => ?_)
    · refine s_iload_n G dX0_hasRoom_59 rfl ?_
      refine s_aload_n G dX0_hasRoom_60 rfl ?_
      refine s_get (k := 1) (j := 4) G (.ref (w.1 2)) ⟨by decide, by decide⟩ (ce1 w) rfl clX0 (by decide) qw103 rfl dX0_hasRoom_61 ?_
      refine s_iload_n G dX0_hasRoom_64 rfl ?_
      refine s_iald (k := 2) (n := 12) G ⟨by decide, by decide⟩ (ce2 w) dX0_hasRoom_65 ?_
      refine s_callSNi (as := [.int (gI M 2 a1.toNatClampNeg)]) (st := [.int y44]) G aw_self mdX5_need (fun _ h => c_X5_need w O l (gI M 2 a1.toNatClampNeg) M _ h) (by decide) rfl rfl (Nat.le_of_ble_eq_true rfl) (by decide) dX0_hasRoom_66 (fun r66 => ?_)
      refine s_join 77 (fun y69 : Int32 => [none, none, none, none, none]) (fun y69 => [.int y69]) (fun y69 => M) (fun y69 => ?_) (fun K69 hB69 => ?_)
      · refine s_test (fun h77 => ?_)
        exact s_zret G rfl (zb_nar h77) rfl dX0_hasRoom_77
      · refine s_icmp_lt (tgt := 76) G dX0_hasRoom_69 (by decide) ?_ ?_
        · refine s_iconst (v := 0) G dX0_hasRoom_76 (by decide) ?_
          refine s_keep [false, false, false, false, false] (lv2 := [none, none, none, none, none]) rfl ?_
          exact fun hx => hB69 0 hx
        · refine s_iconst (v := 1) G dX0_hasRoom_72 (by decide) ?_
          refine s_goto (tgt := 77) G dX0_hasRoom_73 (by decide) ?_
          refine s_keep [false, false, false, false, false] (lv2 := [none, none, none, none, none]) rfl ?_
          exact fun hx => hB69 1 hx
    · refine s_if_eq (tgt := 59) G dX0_hasRoom_44 (by decide) ?_ ?_
      · refine s_keep [true, true, true, false, false] (lv2 := [some (.ref (w.1 1)), some (.int a1), some (.int y25), none, none]) rfl ?_
        exact fun hx => hB44 y25 hx
      · refine s_aload_n G dX0_hasRoom_47 rfl ?_
        refine s_iload G dX0_hasRoom_48 rfl ?_
        refine s_callVi (as := [.int v19]) (st := []) (k := 1) G aw_self mdX0_isFree (fun _ h => c_X0_isFree w O l v19 M _ h) ⟨by decide, by decide⟩ (ce1 w) clX0 rfl qw368 rfl rfl (Nat.le_of_ble_eq_true rfl) (by decide) dX0_hasRoom_50 (fun r50 => ?_)
        refine s_if_eq (tgt := 59) G dX0_hasRoom_53 (by decide) ?_ ?_
        · refine s_keep [true, true, true, false, false] (lv2 := [some (.ref (w.1 1)), some (.int a1), some (.int y25), none, none]) rfl ?_
          exact fun hx => hB44 y25 hx
        · refine s_iinc (v := (y25 + 1)) (lv2 := [some (.ref (w.1 1)), some (.int a1), some (.int (y25 + 1)), none, some (.int v19)]) G dX0_hasRoom_56 rfl rfl (by decide) rfl rfl ?_
          refine s_keep [true, true, true, false, false] (lv2 := [some (.ref (w.1 1)), some (.int a1), some (.int (y25 + 1)), none, none]) rfl ?_
          exact fun hx => hB44 (y25 + 1) hx
  · refine s_if_eq (tgt := 39) G dX0_hasRoom_25 (by decide) ?_ ?_
    · refine s_keep [true, true, true, false, true] (lv2 := [some (.ref (w.1 1)), some (.int a1), some (.int 0), none, some (.int v19)]) rfl ?_
      exact fun hx => hB25 0 hx
    · refine s_aload_n G dX0_hasRoom_28 rfl ?_
      refine s_iload_n G dX0_hasRoom_29 rfl ?_
      refine s_callVi (as := [.int v10]) (st := []) (k := 1) G aw_self mdX0_isFree (fun _ h => c_X0_isFree w O l v10 M _ h) ⟨by decide, by decide⟩ (ce1 w) clX0 rfl qw368 rfl rfl (Nat.le_of_ble_eq_true rfl) (by decide) dX0_hasRoom_30 (fun r30 => ?_)
      refine s_if_eq (tgt := 39) G dX0_hasRoom_33 (by decide) ?_ ?_
      · refine s_keep [true, true, true, false, true] (lv2 := [some (.ref (w.1 1)), some (.int a1), some (.int 0), none, some (.int v19)]) rfl ?_
        exact fun hx => hB25 0 hx
      · refine s_iinc (v := (0 + 1)) (lv2 := [some (.ref (w.1 1)), some (.int a1), some (.int (0 + 1)), some (.int v10), some (.int v19)]) G dX0_hasRoom_36 rfl rfl (by decide) rfl rfl ?_
        refine s_keep [true, true, true, false, true] (lv2 := [some (.ref (w.1 1)), some (.int a1), some (.int (0 + 1)), none, some (.int v19)]) rfl ?_
        exact fun hx => hB25 (0 + 1) hx

set_option maxRecDepth 100000 in
set_option maxHeartbeats 4000000 in
theorem c_X5_findingAgainstTaking (w : Wx) (O : Mem) (l : Launch) (a1 : Int32) (a2 : Int32) (M : Mem)  (z : Int32) (hz : f_X5_findingAgainstTaking a1 a2 M = some z) : Ct w 0 36 O l 2 muX5_findingAgainstTaking [.ref (w.1 0), .int a1, .int a2] M (some (.int z), M) := by
  refine ct_of (X := f_X5_findingAgainstTaking a1 a2 M) (K := fun v => some (some (.int v), M)) [some (.ref (w.1 0)), some (.int a1), some (.int a2)] rfl rfl (Nat.le_of_ble_eq_true rfl) (by rw [hz]; rfl) ?_
  intro p e s m args below meth c G
  unfold f_X5_findingAgainstTaking
  refine s_aload_n G dX5_findingAgainstTaking_0 rfl ?_
  refine s_get (k := 0) (j := 0) G (.ref (w.1 1)) ⟨by decide, by decide⟩ (ce0 w) rfl clX5 (by decide) qw214 rfl dX5_findingAgainstTaking_1 ?_
  refine s_iload_n G dX5_findingAgainstTaking_4 rfl ?_
  refine s_callVi (as := [.int a1]) (st := []) (k := 1) G aw_self mdX0_has (fun _ h => c_X0_has w O l a1 M _ h) ⟨by decide, by decide⟩ (ce1 w) clX0 rfl qw263 rfl rfl (Nat.le_of_ble_eq_true rfl) (by decide) dX5_findingAgainstTaking_5 (fun r5 => ?_)
  refine s_if_eq (tgt := 20) G dX5_findingAgainstTaking_8 (by decide) ?_ ?_
  · refine s_ldc (v := (-1000000001)) G dX5_findingAgainstTaking_20 qw249 ?_
    exact s_iret G rfl rfl dX5_findingAgainstTaking_22
  · refine s_iload_n G dX5_findingAgainstTaking_11 rfl ?_
    refine s_if_lt (tgt := 20) G dX5_findingAgainstTaking_12 (by decide) ?_ ?_
    · refine s_ldc (v := (-1000000001)) G dX5_findingAgainstTaking_20 qw249 ?_
      exact s_iret G rfl rfl dX5_findingAgainstTaking_22
    · refine s_iload_n G dX5_findingAgainstTaking_15 rfl ?_
      refine s_iconst (v := 2) G dX5_findingAgainstTaking_16 (by decide) ?_
      refine s_icmp_le (tgt := 23) G dX5_findingAgainstTaking_17 (by decide) ?_ ?_
      · refine s_aload_n G dX5_findingAgainstTaking_23 rfl ?_
        refine s_get (k := 0) (j := 0) G (.ref (w.1 1)) ⟨by decide, by decide⟩ (ce0 w) rfl clX5 (by decide) qw214 rfl dX5_findingAgainstTaking_24 ?_
        refine s_iload_n G dX5_findingAgainstTaking_27 rfl ?_
        refine s_callVi (as := [.int a1]) (st := []) (k := 1) G aw_self mdX0_isUp (fun _ h => c_X0_isUp w O l a1 M _ h) ⟨by decide, by decide⟩ (ce1 w) clX0 rfl qw316 rfl rfl (Nat.le_of_ble_eq_true rfl) (by decide) dX5_findingAgainstTaking_28 (fun r28 => ?_)
        refine s_if_eq (tgt := 50) G dX5_findingAgainstTaking_31 (by decide) ?_ ?_
        · refine s_ldc (v := (-1000000005)) G dX5_findingAgainstTaking_50 qw320 ?_
          exact s_iret G rfl rfl dX5_findingAgainstTaking_52
        · refine s_iload_n G dX5_findingAgainstTaking_34 rfl ?_
          refine s_iconst (v := 2) G dX5_findingAgainstTaking_35 (by decide) ?_
          refine s_icmp_ne (tgt := 53) G dX5_findingAgainstTaking_36 (by decide) ?_ ?_
          · refine s_aload_n G dX5_findingAgainstTaking_39 rfl ?_
            refine s_get (k := 0) (j := 0) G (.ref (w.1 1)) ⟨by decide, by decide⟩ (ce0 w) rfl clX5 (by decide) qw214 rfl dX5_findingAgainstTaking_40 ?_
            refine s_iload_n G dX5_findingAgainstTaking_43 rfl ?_
            refine s_callVi (as := [.int a1]) (st := []) (k := 1) G aw_self mdX0_hasRoom (fun _ h => c_X0_hasRoom w O l a1 M _ h) ⟨by decide, by decide⟩ (ce1 w) clX0 rfl qw364 rfl rfl (Nat.le_of_ble_eq_true rfl) (by decide) dX5_findingAgainstTaking_44 (fun r44 => ?_)
            refine s_if_ne (tgt := 53) G dX5_findingAgainstTaking_47 (by decide) ?_ ?_
            · refine s_ldc (v := (-1000000005)) G dX5_findingAgainstTaking_50 qw320 ?_
              exact s_iret G rfl rfl dX5_findingAgainstTaking_52
            · refine s_iconst (v := 0) G dX5_findingAgainstTaking_53 (by decide) ?_
              exact s_iret G rfl rfl dX5_findingAgainstTaking_54
          · refine s_iconst (v := 0) G dX5_findingAgainstTaking_53 (by decide) ?_
            exact s_iret G rfl rfl dX5_findingAgainstTaking_54
      · refine s_ldc (v := (-1000000001)) G dX5_findingAgainstTaking_20 qw249 ?_
        exact s_iret G rfl rfl dX5_findingAgainstTaking_22

set_option maxRecDepth 100000 in
set_option maxHeartbeats 4000000 in
theorem c_X5_isCatch (w : Wx) (O : Mem) (l : Launch) (a0 : Int32) (a1 : Int32) (a2 : Int32) (a3 : Int32) (M : Mem)  (z : Int32) (hz : f_X5_isCatch a0 a1 a2 a3 = some z) : Ct w 0 36 O l 0 muX5_isCatch [.int a0, .int a1, .int a2, .int a3] M (some (.int z), M) := by
  refine ct_of (X := f_X5_isCatch a0 a1 a2 a3) (K := fun v => some (some (.int v), M)) [some (.int a0), some (.int a1), some (.int a2), some (.int a3), none, none] rfl rfl (Nat.le_of_ble_eq_true rfl) (by rw [hz]; rfl) ?_
  intro p e s m args below meth c G
  unfold f_X5_isCatch
  refine s_iload_n G dX5_isCatch_0 rfl ?_
  refine s_iconst (v := 1) G dX5_isCatch_1 (by decide) ?_
  refine s_join 14 (fun y2 : Int32 => [some (.int a0), some (.int a1), some (.int a2), some (.int a3), none, none]) (fun y2 => [.int y2]) (fun y2 => M) (fun y2 => ?_) (fun K2 hB2 => ?_)
  · refine s_istore (lv2 := [some (.int a0), some (.int a1), some (.int a2), some (.int a3), some (.int y2), none]) G dX5_isCatch_14 (by decide) rfl rfl ?_
    refine s_iload G dX5_isCatch_16 rfl ?_
    refine s_join 35 (fun y18 : Int32 => [some (.int a0), some (.int a1), some (.int a2), some (.int a3), some (.int y2), none]) (fun y18 => [.int y18]) (fun y18 => M) (fun y18 => ?_) (fun K18 hB18 => ?_)
    · refine s_istore (lv2 := [some (.int a0), some (.int a1), some (.int a2), some (.int a3), some (.int y2), some (.int y18)]) G dX5_isCatch_35 (by decide) rfl rfl ?_
      refine s_iload_n G dX5_isCatch_37 rfl ?_
      refine s_tabIn (v := 0) (off := 38) (tgt := 76) G dX5_isCatch_38 (by decide) (by decide) (by decide) (by decide) ?_ (fun h38_0 => ?_)
      · refine s_iload G dX5_isCatch_76 rfl ?_
        refine s_test (fun h78 => ?_)
        exact s_zret G rfl (zb_nar h78) rfl dX5_isCatch_78
      · refine s_tabIn (v := 1) (off := 41) (tgt := 79) G dX5_isCatch_38 (by decide) (by decide) (by decide) (by decide) ?_ (fun h38_1 => ?_)
        · refine s_iload G dX5_isCatch_79 rfl ?_
          refine s_test (fun h81 => ?_)
          exact s_zret G rfl (zb_nar h81) rfl dX5_isCatch_81
        · refine s_tabIn (v := 2) (off := 90) (tgt := 128) G dX5_isCatch_38 (by decide) (by decide) (by decide) (by decide) ?_ (fun h38_2 => ?_)
          · refine s_iconst (v := 0) G dX5_isCatch_128 (by decide) ?_
            exact s_zret G rfl rfl rfl dX5_isCatch_129
          · refine s_tabIn (v := 3) (off := 44) (tgt := 82) G dX5_isCatch_38 (by decide) (by decide) (by decide) (by decide) ?_ (fun h38_3 => ?_)
            · refine s_iload G dX5_isCatch_82 rfl ?_
              refine s_join 97 (fun y84 : Int32 => [none, none, none, none, none, none]) (fun y84 => [.int y84]) (fun y84 => M) (fun y84 => ?_) (fun K84 hB84 => ?_)
              · refine s_test (fun h97 => ?_)
                exact s_zret G rfl (zb_nar h97) rfl dX5_isCatch_97
              · refine s_if_ne (tgt := 92) G dX5_isCatch_84 (by decide) ?_ ?_
                · refine s_iload_n G dX5_isCatch_87 rfl ?_
                  refine s_iconst (v := 1) G dX5_isCatch_88 (by decide) ?_
                  refine s_icmp_ne (tgt := 96) G dX5_isCatch_89 (by decide) ?_ ?_
                  · refine s_iconst (v := 1) G dX5_isCatch_92 (by decide) ?_
                    refine s_goto (tgt := 97) G dX5_isCatch_93 (by decide) ?_
                    refine s_keep [false, false, false, false, false, false] (lv2 := [none, none, none, none, none, none]) rfl ?_
                    exact fun hx => hB84 1 hx
                  · refine s_iconst (v := 0) G dX5_isCatch_96 (by decide) ?_
                    refine s_keep [false, false, false, false, false, false] (lv2 := [none, none, none, none, none, none]) rfl ?_
                    exact fun hx => hB84 0 hx
                · refine s_iconst (v := 1) G dX5_isCatch_92 (by decide) ?_
                  refine s_goto (tgt := 97) G dX5_isCatch_93 (by decide) ?_
                  refine s_keep [false, false, false, false, false, false] (lv2 := [none, none, none, none, none, none]) rfl ?_
                  exact fun hx => hB84 1 hx
            · refine s_tabIn (v := 4) (off := 60) (tgt := 98) G dX5_isCatch_38 (by decide) (by decide) (by decide) (by decide) ?_ (fun h38_4 => ?_)
              · refine s_iload G dX5_isCatch_98 rfl ?_
                refine s_join 112 (fun y100 : Int32 => [none, none, none, none, none, none]) (fun y100 => [.int y100]) (fun y100 => M) (fun y100 => ?_) (fun K100 hB100 => ?_)
                · refine s_test (fun h112 => ?_)
                  exact s_zret G rfl (zb_nar h112) rfl dX5_isCatch_112
                · refine s_if_eq (tgt := 111) G dX5_isCatch_100 (by decide) ?_ ?_
                  · refine s_iconst (v := 0) G dX5_isCatch_111 (by decide) ?_
                    refine s_keep [false, false, false, false, false, false] (lv2 := [none, none, none, none, none, none]) rfl ?_
                    exact fun hx => hB100 0 hx
                  · refine s_iload_n G dX5_isCatch_103 rfl ?_
                    refine s_if_eq (tgt := 111) G dX5_isCatch_104 (by decide) ?_ ?_
                    · refine s_iconst (v := 0) G dX5_isCatch_111 (by decide) ?_
                      refine s_keep [false, false, false, false, false, false] (lv2 := [none, none, none, none, none, none]) rfl ?_
                      exact fun hx => hB100 0 hx
                    · refine s_iconst (v := 1) G dX5_isCatch_107 (by decide) ?_
                      refine s_goto (tgt := 112) G dX5_isCatch_108 (by decide) ?_
                      refine s_keep [false, false, false, false, false, false] (lv2 := [none, none, none, none, none, none]) rfl ?_
                      exact fun hx => hB100 1 hx
              · refine s_tabIn (v := 5) (off := 75) (tgt := 113) G dX5_isCatch_38 (by decide) (by decide) (by decide) (by decide) ?_ (fun h38_5 => ?_)
                · refine s_iload_n G dX5_isCatch_113 rfl ?_
                  refine s_iconst (v := 1) G dX5_isCatch_114 (by decide) ?_
                  refine s_join 127 (fun y115 : Int32 => [none, none, none, none, none, none]) (fun y115 => [.int y115]) (fun y115 => M) (fun y115 => ?_) (fun K115 hB115 => ?_)
                  · refine s_test (fun h127 => ?_)
                    exact s_zret G rfl (zb_nar h127) rfl dX5_isCatch_127
                  · refine s_icmp_ne (tgt := 126) G dX5_isCatch_115 (by decide) ?_ ?_
                    · refine s_iload_n G dX5_isCatch_118 rfl ?_
                      refine s_if_ne (tgt := 126) G dX5_isCatch_119 (by decide) ?_ ?_
                      · refine s_iconst (v := 1) G dX5_isCatch_122 (by decide) ?_
                        refine s_goto (tgt := 127) G dX5_isCatch_123 (by decide) ?_
                        refine s_keep [false, false, false, false, false, false] (lv2 := [none, none, none, none, none, none]) rfl ?_
                        exact fun hx => hB115 1 hx
                      · refine s_iconst (v := 0) G dX5_isCatch_126 (by decide) ?_
                        refine s_keep [false, false, false, false, false, false] (lv2 := [none, none, none, none, none, none]) rfl ?_
                        exact fun hx => hB115 0 hx
                    · refine s_iconst (v := 0) G dX5_isCatch_126 (by decide) ?_
                      refine s_keep [false, false, false, false, false, false] (lv2 := [none, none, none, none, none, none]) rfl ?_
                      exact fun hx => hB115 0 hx
                · refine s_tabOut (tgt := 128) G dX5_isCatch_38 (by have e0 := lv_neT (a := 0) h38_0 (by decide); have e1 := lv_neT (a := 1) h38_1 (by decide); have e2 := lv_neT (a := 2) h38_2 (by decide); have e3 := lv_neT (a := 3) h38_3 (by decide); have e4 := lv_neT (a := 4) h38_4 (by decide); have e5 := lv_neT (a := 5) h38_5 (by decide); omega) (by decide) ?_
                  refine s_iconst (v := 0) G dX5_isCatch_128 (by decide) ?_
                  exact s_zret G rfl rfl rfl dX5_isCatch_129
    · refine s_if_ne (tgt := 30) G dX5_isCatch_18 (by decide) ?_ ?_
      · refine s_iload_n G dX5_isCatch_21 rfl ?_
        refine s_iconst (v := 2) G dX5_isCatch_22 (by decide) ?_
        refine s_icmp_ne (tgt := 34) G dX5_isCatch_23 (by decide) ?_ ?_
        · refine s_iload_n G dX5_isCatch_26 rfl ?_
          refine s_if_eq (tgt := 34) G dX5_isCatch_27 (by decide) ?_ ?_
          · refine s_iconst (v := 0) G dX5_isCatch_34 (by decide) ?_
            exact fun hx => hB18 0 hx
          · refine s_iconst (v := 1) G dX5_isCatch_30 (by decide) ?_
            refine s_goto (tgt := 35) G dX5_isCatch_31 (by decide) ?_
            exact fun hx => hB18 1 hx
        · refine s_iconst (v := 0) G dX5_isCatch_34 (by decide) ?_
          exact fun hx => hB18 0 hx
      · refine s_iconst (v := 1) G dX5_isCatch_30 (by decide) ?_
        refine s_goto (tgt := 35) G dX5_isCatch_31 (by decide) ?_
        exact fun hx => hB18 1 hx
  · refine s_icmp_ne (tgt := 13) G dX5_isCatch_2 (by decide) ?_ ?_
    · refine s_iload_n G dX5_isCatch_5 rfl ?_
      refine s_if_eq (tgt := 13) G dX5_isCatch_6 (by decide) ?_ ?_
      · refine s_iconst (v := 0) G dX5_isCatch_13 (by decide) ?_
        exact fun hx => hB2 0 hx
      · refine s_iconst (v := 1) G dX5_isCatch_9 (by decide) ?_
        refine s_goto (tgt := 14) G dX5_isCatch_10 (by decide) ?_
        exact fun hx => hB2 1 hx
    · refine s_iconst (v := 0) G dX5_isCatch_13 (by decide) ?_
      exact fun hx => hB2 0 hx

set_option maxRecDepth 100000 in
set_option maxHeartbeats 4000000 in
theorem c_X0_tangledIf (w : Wx) (O : Mem) (l : Launch) (a1 : Int32) (a2 : Int32) (a3 : Int32) (a4 : Int32) (M : Mem)  (z : Int32) (hz : f_X0_tangledIf a1 a2 a3 a4 M = some z) : Ct w 0 36 O l 1 muX0_tangledIf [.ref (w.1 1), .int a1, .int a2, .int a3, .int a4] M (some (.int z), M) := by
  refine ct_of (X := f_X0_tangledIf a1 a2 a3 a4 M) (K := fun v => some (some (.int v), M)) [some (.ref (w.1 1)), some (.int a1), some (.int a2), some (.int a3), some (.int a4), none, none, none, none, none, none] rfl rfl (Nat.le_of_ble_eq_true rfl) (by rw [hz]; rfl) ?_
  intro p e s m args below meth c G
  unfold f_X0_tangledIf
  refine s_iconst (v := 0) G dX0_tangledIf_0 (by decide) ?_
  refine s_istore (lv2 := [some (.ref (w.1 1)), some (.int a1), some (.int a2), some (.int a3), some (.int a4), some (.int 0), none, none, none, none, none]) G dX0_tangledIf_1 (by decide) rfl rfl ?_
  refine s_bipush (v := 23) G dX0_tangledIf_3 (by decide) ?_
  refine s_iload_n G dX0_tangledIf_5 rfl ?_
  refine s_iconst (v := 2) G dX0_tangledIf_6 (by decide) ?_
  refine s_iadd G dX0_tangledIf_7 ?_
  refine s_mmin (st := []) G qw329 qw330 qw70 qMath_min (by decide) (Nat.le_of_ble_eq_true rfl) dX0_tangledIf_8 ?_
  refine s_name (f := Value.int) (fun v11 => ?_)
  refine s_istore (lv2 := [some (.ref (w.1 1)), some (.int a1), some (.int a2), some (.int a3), some (.int a4), some (.int 0), some (.int v11), none, none, none, none]) G dX0_tangledIf_11 (by decide) rfl rfl ?_
  refine s_iconst (v := 0) G dX0_tangledIf_13 (by decide) ?_
  refine s_iload_n G dX0_tangledIf_14 rfl ?_
  refine s_iconst (v := 2) G dX0_tangledIf_15 (by decide) ?_
  refine s_isub G dX0_tangledIf_16 ?_
  refine s_mmax (st := []) G qw379 qw380 qw70 qMath_max (by decide) (Nat.le_of_ble_eq_true rfl) dX0_tangledIf_17 ?_
  refine s_name (f := Value.int) (fun v20 => ?_)
  refine s_istore (lv2 := [some (.ref (w.1 1)), some (.int a1), some (.int a2), some (.int a3), some (.int a4), some (.int 0), some (.int v11), some (.int v20), none, none, none]) G dX0_tangledIf_20 (by decide) rfl rfl ?_
  refine s_loopG (lvf := fun z22 : Int32 × Int32 => [some (.ref (w.1 1)), some (.int a1), some (.int a2), some (.int a3), some (.int a4), some (.int z22.1), some (.int v11), some (.int z22.2), none, none, none]) (Mf := fun z22 : Int32 × Int32 => M) (ex := (fun x22_147 : Int32 => (147, [none, none, none, none, none, some (.int x22_147), none, none, none, none, none], M))) (el_one 147 (fun x22_147 : Int32 => [none, none, none, none, none, some (.int x22_147), none, none, none, none, none]) (fun x22_147 : Int32 => M) (fun x22_147 => ?_)) (fun z22 K22 hB22 hE22 => ?_)
  · refine s_iload G dX0_tangledIf_147 rfl ?_
    exact s_iret G rfl rfl dX0_tangledIf_149
  · unfold f_X0_tangledIf_L22
    refine s_iload G dX0_tangledIf_22 rfl ?_
    refine s_iload G dX0_tangledIf_24 rfl ?_
    refine s_icmp_gt (tgt := 147) G dX0_tangledIf_26 (by decide) ?_ ?_
    · refine s_keep [false, false, false, false, false, true, false, false, false, false, false] (lv2 := [none, none, none, none, none, some (.int z22.1), none, none, none, none, none]) rfl ?_
      exact fun hx => hE22 z22.1 hx
    · refine s_aload_n G dX0_tangledIf_29 rfl ?_
      refine s_get (k := 1) (j := 8) G (.ref (w.1 6)) ⟨by decide, by decide⟩ (ce1 w) rfl clX0 (by decide) qw115 rfl dX0_tangledIf_30 ?_
      refine s_iload G dX0_tangledIf_33 rfl ?_
      refine s_iald (k := 6) (n := 24) G ⟨by decide, by decide⟩ (ce6 w) dX0_tangledIf_35 ?_
      refine s_name (f := Value.int) (fun v36 => ?_)
      refine s_istore (lv2 := [some (.ref (w.1 1)), some (.int a1), some (.int a2), some (.int a3), some (.int a4), some (.int z22.1), some (.int v11), some (.int z22.2), some (.int v36), none, none]) G dX0_tangledIf_36 (by decide) rfl rfl ?_
      refine s_iload G dX0_tangledIf_38 rfl ?_
      refine s_iconst (v := (-1)) G dX0_tangledIf_40 (by decide) ?_
      refine s_join 141 (fun y41 : Int32 => [some (.ref (w.1 1)), some (.int a1), some (.int a2), some (.int a3), some (.int a4), some (.int y41), some (.int v11), some (.int z22.2), none, none, none]) (fun y41 => []) (fun y41 => M) (fun y41 => ?_) (fun K41 hB41 => ?_)
      · refine s_iinc (v := (z22.2 + 1)) (lv2 := [some (.ref (w.1 1)), some (.int a1), some (.int a2), some (.int a3), some (.int a4), some (.int y41), some (.int v11), some (.int (z22.2 + 1)), none, none, none]) G dX0_tangledIf_141 rfl rfl (by decide) rfl rfl ?_
        refine s_goto (tgt := 22) G dX0_tangledIf_144 (by decide) ?_
        exact fun hx => hB22 (y41, (z22.2 + 1)) hx
      · refine s_icmp_eq (tgt := 141) G dX0_tangledIf_41 (by decide) ?_ ?_
        · refine s_keep [true, true, true, true, true, true, true, true, false, false, false] (lv2 := [some (.ref (w.1 1)), some (.int a1), some (.int a2), some (.int a3), some (.int a4), some (.int z22.1), some (.int v11), some (.int z22.2), none, none, none]) rfl ?_
          exact fun hx => hB41 z22.1 hx
        · refine s_iload G dX0_tangledIf_44 rfl ?_
          refine s_iload_n G dX0_tangledIf_46 rfl ?_
          refine s_icmp_eq (tgt := 141) G dX0_tangledIf_47 (by decide) ?_ ?_
          · refine s_keep [true, true, true, true, true, true, true, true, false, false, false] (lv2 := [some (.ref (w.1 1)), some (.int a1), some (.int a2), some (.int a3), some (.int a4), some (.int z22.1), some (.int v11), some (.int z22.2), none, none, none]) rfl ?_
            exact fun hx => hB41 z22.1 hx
          · refine s_iload G dX0_tangledIf_50 rfl ?_
            refine s_iload_n G dX0_tangledIf_52 rfl ?_
            refine s_isub G dX0_tangledIf_53 ?_
            refine s_mabs (st := []) G qw382 qw383 qw70 qMath_abs (by decide) (Nat.le_of_ble_eq_true rfl) dX0_tangledIf_54 ?_
            refine s_name (f := Value.int) (fun v57 => ?_)
            refine s_istore (lv2 := [some (.ref (w.1 1)), some (.int a1), some (.int a2), some (.int a3), some (.int a4), some (.int z22.1), some (.int v11), some (.int z22.2), some (.int v36), some (.int v57), none]) G dX0_tangledIf_57 (by decide) rfl rfl ?_
            refine s_iload_n G dX0_tangledIf_59 rfl ?_
            refine s_iload G dX0_tangledIf_60 rfl ?_
            refine s_iload G dX0_tangledIf_62 rfl ?_
            refine s_aload_n G dX0_tangledIf_64 rfl ?_
            refine s_get (k := 1) (j := 6) G (.ref (w.1 4)) ⟨by decide, by decide⟩ (ce1 w) rfl clX0 (by decide) qw109 rfl dX0_tangledIf_65 ?_
            refine s_iload_n G dX0_tangledIf_68 rfl ?_
            refine s_iald (k := 4) (n := 12) G ⟨by decide, by decide⟩ (ce4 w) dX0_tangledIf_69 ?_
            refine s_join 78 (fun y70 : Int32 => [some (.ref (w.1 1)), some (.int a1), some (.int a2), some (.int a3), some (.int a4), some (.int z22.1), some (.int v11), some (.int z22.2), some (.int v36), some (.int v57), none]) (fun y70 => [.int y70, .int a4, .int v57, .int a2]) (fun y70 => M) (fun y70 => ?_) (fun K70 hB70 => ?_)
            · refine s_callSNi (as := [.int a2, .int v57, .int a4, .int y70]) (st := []) G aw_self mdX5_isCatch (fun _ h => c_X5_isCatch w O l a2 v57 a4 y70 M _ h) (by decide) rfl rfl (Nat.le_of_ble_eq_true rfl) (by decide) dX0_tangledIf_78 (fun r78 => ?_)
              refine s_join 121 (fun y81 : Int32 => [some (.ref (w.1 1)), some (.int a1), some (.int a2), some (.int a3), some (.int a4), some (.int z22.1), some (.int v11), some (.int z22.2), some (.int v36), none, none]) (fun y81 => [.int y81]) (fun y81 => M) (fun y81 => ?_) (fun K81 hB81 => ?_)
              · refine s_istore (lv2 := [some (.ref (w.1 1)), some (.int a1), some (.int a2), some (.int a3), some (.int a4), some (.int z22.1), some (.int v11), some (.int z22.2), some (.int v36), none, some (.int y81)]) G dX0_tangledIf_121 (by decide) rfl rfl ?_
                refine s_iload G dX0_tangledIf_123 rfl ?_
                refine s_iload G dX0_tangledIf_125 rfl ?_
                refine s_join 138 (fun y127 : Int32 => [some (.ref (w.1 1)), some (.int a1), some (.int a2), some (.int a3), some (.int a4), none, some (.int v11), some (.int z22.2), none, none, none]) (fun y127 => [.int y127, .int z22.1]) (fun y127 => M) (fun y127 => ?_) (fun K127 hB127 => ?_)
                · refine s_ior G dX0_tangledIf_138 ?_
                  refine s_name (f := Value.int) (fun v139 => ?_)
                  refine s_istore (lv2 := [some (.ref (w.1 1)), some (.int a1), some (.int a2), some (.int a3), some (.int a4), some (.int v139), some (.int v11), some (.int z22.2), none, none, none]) G dX0_tangledIf_139 (by decide) rfl rfl ?_
                  exact fun hx => hB41 v139 hx
                · refine s_if_eq (tgt := 137) G dX0_tangledIf_127 (by decide) ?_ ?_
                  · refine s_iconst (v := 0) G dX0_tangledIf_137 (by decide) ?_
                    refine s_keep [true, true, true, true, true, false, true, true, false, false, false] (lv2 := [some (.ref (w.1 1)), some (.int a1), some (.int a2), some (.int a3), some (.int a4), none, some (.int v11), some (.int z22.2), none, none, none]) rfl ?_
                    exact fun hx => hB127 0 hx
                  · refine s_iconst (v := 1) G dX0_tangledIf_130 (by decide) ?_
                    refine s_iload G dX0_tangledIf_131 rfl ?_
                    refine s_ishl G dX0_tangledIf_133 ?_
                    refine s_goto (tgt := 138) G dX0_tangledIf_134 (by decide) ?_
                    refine s_keep [true, true, true, true, true, false, true, true, false, false, false] (lv2 := [some (.ref (w.1 1)), some (.int a1), some (.int a2), some (.int a3), some (.int a4), none, some (.int v11), some (.int z22.2), none, none, none]) rfl ?_
                    exact fun hx => hB127 ((1 : Int32) <<< (v36 &&& 31)) hx
              · refine s_if_ne (tgt := 116) G dX0_tangledIf_81 (by decide) ?_ ?_
                · refine s_aload_n G dX0_tangledIf_84 rfl ?_
                  refine s_get (k := 1) (j := 4) G (.ref (w.1 2)) ⟨by decide, by decide⟩ (ce1 w) rfl clX0 (by decide) qw103 rfl dX0_tangledIf_85 ?_
                  refine s_iload G dX0_tangledIf_88 rfl ?_
                  refine s_iald (k := 2) (n := 12) G ⟨by decide, by decide⟩ (ce2 w) dX0_tangledIf_90 ?_
                  refine s_iload G dX0_tangledIf_91 rfl ?_
                  refine s_iload G dX0_tangledIf_93 rfl ?_
                  refine s_aload_n G dX0_tangledIf_95 rfl ?_
                  refine s_get (k := 1) (j := 6) G (.ref (w.1 4)) ⟨by decide, by decide⟩ (ce1 w) rfl clX0 (by decide) qw109 rfl dX0_tangledIf_96 ?_
                  refine s_iload G dX0_tangledIf_99 rfl ?_
                  refine s_iald (k := 4) (n := 12) G ⟨by decide, by decide⟩ (ce4 w) dX0_tangledIf_101 ?_
                  refine s_join 110 (fun y102 : Int32 => [some (.ref (w.1 1)), some (.int a1), some (.int a2), some (.int a3), some (.int a4), some (.int z22.1), some (.int v11), some (.int z22.2), some (.int v36), none, none]) (fun y102 => [.int y102, .int a4, .int v57, .int (gI M 2 v36.toNatClampNeg)]) (fun y102 => M) (fun y102 => ?_) (fun K102 hB102 => ?_)
                  · refine s_callSNi (as := [.int (gI M 2 v36.toNatClampNeg), .int v57, .int a4, .int y102]) (st := []) G aw_self mdX5_isCatch (fun _ h => c_X5_isCatch w O l (gI M 2 v36.toNatClampNeg) v57 a4 y102 M _ h) (by decide) rfl rfl (Nat.le_of_ble_eq_true rfl) (by decide) dX0_tangledIf_110 (fun r110 => ?_)
                    refine s_if_eq (tgt := 120) G dX0_tangledIf_113 (by decide) ?_ ?_
                    · refine s_iconst (v := 0) G dX0_tangledIf_120 (by decide) ?_
                      exact fun hx => hB81 0 hx
                    · refine s_iconst (v := 1) G dX0_tangledIf_116 (by decide) ?_
                      refine s_goto (tgt := 121) G dX0_tangledIf_117 (by decide) ?_
                      exact fun hx => hB81 1 hx
                  · refine s_if_le (tgt := 109) G dX0_tangledIf_102 (by decide) ?_ ?_
                    · refine s_iconst (v := 0) G dX0_tangledIf_109 (by decide) ?_
                      refine s_keep [true, true, true, true, true, true, true, true, true, false, false] (lv2 := [some (.ref (w.1 1)), some (.int a1), some (.int a2), some (.int a3), some (.int a4), some (.int z22.1), some (.int v11), some (.int z22.2), some (.int v36), none, none]) rfl ?_
                      exact fun hx => hB102 0 hx
                    · refine s_iconst (v := 1) G dX0_tangledIf_105 (by decide) ?_
                      refine s_goto (tgt := 110) G dX0_tangledIf_106 (by decide) ?_
                      refine s_keep [true, true, true, true, true, true, true, true, true, false, false] (lv2 := [some (.ref (w.1 1)), some (.int a1), some (.int a2), some (.int a3), some (.int a4), some (.int z22.1), some (.int v11), some (.int z22.2), some (.int v36), none, none]) rfl ?_
                      exact fun hx => hB102 1 hx
                · refine s_iconst (v := 1) G dX0_tangledIf_116 (by decide) ?_
                  refine s_goto (tgt := 121) G dX0_tangledIf_117 (by decide) ?_
                  refine s_keep [true, true, true, true, true, true, true, true, true, false, false] (lv2 := [some (.ref (w.1 1)), some (.int a1), some (.int a2), some (.int a3), some (.int a4), some (.int z22.1), some (.int v11), some (.int z22.2), some (.int v36), none, none]) rfl ?_
                  exact fun hx => hB81 1 hx
            · refine s_if_le (tgt := 77) G dX0_tangledIf_70 (by decide) ?_ ?_
              · refine s_iconst (v := 0) G dX0_tangledIf_77 (by decide) ?_
                exact fun hx => hB70 0 hx
              · refine s_iconst (v := 1) G dX0_tangledIf_73 (by decide) ?_
                refine s_goto (tgt := 78) G dX0_tangledIf_74 (by decide) ?_
                exact fun hx => hB70 1 hx

set_option maxRecDepth 100000 in
set_option maxHeartbeats 4000000 in
theorem c_X5_contains (w : Wx) (O : Mem) (l : Launch) (a0 : Int32) (a1 : Int32) (M : Mem)  (z : Int32) (hz : f_X5_contains a0 a1 = some z) : Ct w 0 36 O l 0 muX5_contains [.int a0, .int a1] M (some (.int z), M) := by
  refine ct_of (X := f_X5_contains a0 a1) (K := fun v => some (some (.int v), M)) [some (.int a0), some (.int a1)] rfl rfl (Nat.le_of_ble_eq_true rfl) (by rw [hz]; rfl) ?_
  intro p e s m args below meth c G
  unfold f_X5_contains
  refine s_iload_n G dX5_contains_0 rfl ?_
  refine s_iload_n G dX5_contains_1 rfl ?_
  refine s_ishr G dX5_contains_2 ?_
  refine s_iconst (v := 1) G dX5_contains_3 (by decide) ?_
  refine s_iand G dX5_contains_4 ?_
  refine s_iconst (v := 1) G dX5_contains_5 (by decide) ?_
  refine s_join 14 (fun y6 : Int32 => [none, none]) (fun y6 => [.int y6]) (fun y6 => M) (fun y6 => ?_) (fun K6 hB6 => ?_)
  · refine s_test (fun h14 => ?_)
    exact s_zret G rfl (zb_nar h14) rfl dX5_contains_14
  · refine s_icmp_ne (tgt := 13) G dX5_contains_6 (by decide) ?_ ?_
    · refine s_iconst (v := 1) G dX5_contains_9 (by decide) ?_
      refine s_goto (tgt := 14) G dX5_contains_10 (by decide) ?_
      refine s_keep [false, false] (lv2 := [none, none]) rfl ?_
      exact fun hx => hB6 1 hx
    · refine s_iconst (v := 0) G dX5_contains_13 (by decide) ?_
      refine s_keep [false, false] (lv2 := [none, none]) rfl ?_
      exact fun hx => hB6 0 hx

set_option maxRecDepth 100000 in
set_option maxHeartbeats 4000000 in
theorem c_X0_alike (w : Wx) (O : Mem) (l : Launch) (a0 : Int32) (a1 : Int32) (M : Mem)  (z : Int32) (hz : f_X0_alike a0 a1 = some z) : Ct w 0 36 O l 1 muX0_alike [.int a0, .int a1] M (some (.int z), M) := by
  refine ct_of (X := f_X0_alike a0 a1) (K := fun v => some (some (.int v), M)) [some (.int a0), some (.int a1)] rfl rfl (Nat.le_of_ble_eq_true rfl) (by rw [hz]; rfl) ?_
  intro p e s m args below meth c G
  unfold f_X0_alike
  refine s_iload_n G dX0_alike_0 rfl ?_
  refine s_iload_n G dX0_alike_1 rfl ?_
  refine s_callSNi (as := [.int a1, .int a0]) (st := []) G aw_self mdX5_contains (fun _ h => c_X5_contains w O l a1 a0 M _ h) (by decide) rfl rfl (Nat.le_of_ble_eq_true rfl) (by decide) dX0_alike_2 (fun r2 => ?_)
  refine s_join 15 (fun y5 : Int32 => [none, none]) (fun y5 => [.int y5]) (fun y5 => M) (fun y5 => ?_) (fun K5 hB5 => ?_)
  · exact s_iret G rfl rfl dX0_alike_15
  · refine s_if_eq (tgt := 12) G dX0_alike_5 (by decide) ?_ ?_
    · refine s_iload_n G dX0_alike_12 rfl ?_
      refine s_iconst (v := (-1)) G dX0_alike_13 (by decide) ?_
      refine s_ixor G dX0_alike_14 ?_
      refine s_keep [false, false] (lv2 := [none, none]) rfl ?_
      exact fun hx => hB5 (a1 ^^^ (-1)) hx
    · refine s_iload_n G dX0_alike_8 rfl ?_
      refine s_goto (tgt := 15) G dX0_alike_9 (by decide) ?_
      refine s_keep [false, false] (lv2 := [none, none]) rfl ?_
      exact fun hx => hB5 a1 hx

set_option maxRecDepth 100000 in
set_option maxHeartbeats 4000000 in
theorem c_X3_nearFacing (w : Wx) (O : Mem) (l : Launch) (a1 : Int32) (a2 : Int32) (M : Mem)  (z : Int32) (hz : f_X3_nearFacing a1 a2 M = some z) : Ct w 0 36 O l 2 muX3_nearFacing [.ref (w.1 19), .int a1, .int a2] M (some (.int z), M) := by
  refine ct_of (X := f_X3_nearFacing a1 a2 M) (K := fun v => some (some (.int v), M)) [some (.ref (w.1 19)), some (.int a1), some (.int a2), none] rfl rfl (Nat.le_of_ble_eq_true rfl) (by rw [hz]; rfl) ?_
  intro p e s m args below meth c G
  unfold f_X3_nearFacing
  refine s_iload_n G dX3_nearFacing_0 rfl ?_
  refine s_iload_n G dX3_nearFacing_1 rfl ?_
  refine s_callSi (as := [.int a1, .int a2]) (st := []) G aw_self mdX0_alike (fun _ h => c_X0_alike w O l a1 a2 M _ h) qw392 rfl rfl (Nat.le_of_ble_eq_true rfl) (by decide) dX3_nearFacing_2 (fun r2 => ?_)
  refine s_istore_n (lv2 := [some (.ref (w.1 19)), some (.int a1), some (.int a2), some (.int r2)]) G dX3_nearFacing_5 (by decide) rfl rfl ?_
  refine s_aload_n G dX3_nearFacing_6 rfl ?_
  refine s_get (k := 19) (j := 0) G (.ref (w.1 20)) ⟨by decide, by decide⟩ (ce19 w) rfl clX3 (by decide) qw143 rfl dX3_nearFacing_7 ?_
  refine s_iload_n G dX3_nearFacing_10 rfl ?_
  refine s_iald (k := 20) (n := 12) G ⟨by decide, by decide⟩ (ce20 w) dX3_nearFacing_11 ?_
  refine s_iload_n G dX3_nearFacing_12 rfl ?_
  refine s_iand G dX3_nearFacing_13 ?_
  refine s_aload_n G dX3_nearFacing_14 rfl ?_
  refine s_get (k := 19) (j := 1) G (.ref (w.1 21)) ⟨by decide, by decide⟩ (ce19 w) rfl clX3 (by decide) qw144 rfl dX3_nearFacing_15 ?_
  refine s_iload_n G dX3_nearFacing_18 rfl ?_
  refine s_iald (k := 21) (n := 12) G ⟨by decide, by decide⟩ (ce21 w) dX3_nearFacing_19 ?_
  refine s_iload_n G dX3_nearFacing_20 rfl ?_
  refine s_iconst (v := (-1)) G dX3_nearFacing_21 (by decide) ?_
  refine s_ixor G dX3_nearFacing_22 ?_
  refine s_iand G dX3_nearFacing_23 ?_
  refine s_ior G dX3_nearFacing_24 ?_
  exact s_iret G rfl rfl dX3_nearFacing_25

set_option maxRecDepth 100000 in
set_option maxHeartbeats 4000000 in
theorem c_X3_look_1 (w : Wx) (O : Mem) (l : Launch)  (M : Mem)  (z : Mem) (hz : f_X3_look_1  M = some z) : Ct w 0 36 O l 3 muX3_look [.ref (w.1 19), .ref (w.1 1)] M (none, z) := by
  refine ct_of (X := f_X3_look_1  M) (K := fun v => some (none, v)) [some (.ref (w.1 19)), some (.ref (w.1 1)), none, none, none, none] rfl rfl (Nat.le_of_ble_eq_true rfl) (by rw [hz]; rfl) ?_
  intro p e s m args below meth c G
  unfold f_X3_look_1
  refine s_iconst (v := 0) G dX3_look_0 (by decide) ?_
  refine s_istore_n (lv2 := [some (.ref (w.1 19)), some (.ref (w.1 1)), some (.int 0), none, none, none]) G dX3_look_1 (by decide) rfl rfl ?_
  refine s_loopG (lvf := fun z2 : Int32 × Mem => [some (.ref (w.1 19)), some (.ref (w.1 1)), some (.int z2.1), none, none, none]) (Mf := fun z2 : Int32 × Mem => z2.2) (ex := (fun x2_99 : Mem => (99, [none, none, none, none, none, none], x2_99))) (el_one 99 (fun x2_99 : Mem => [none, none, none, none, none, none]) (fun x2_99 : Mem => x2_99) (fun x2_99 => ?_)) (fun z2 K2 hB2 hE2 => ?_)
  · exact s_vret G rfl rfl dX3_look_99
  · unfold f_X3_look_1_L2
    refine s_iload_n G dX3_look_2 rfl ?_
    refine s_bipush (v := 12) G dX3_look_3 (by decide) ?_
    refine s_icmp_ge (tgt := 99) G dX3_look_5 (by decide) ?_ ?_
    · refine s_keep [false, false, false, false, false, false] (lv2 := [none, none, none, none, none, none]) rfl ?_
      exact fun hx => hE2 z2.2 hx
    · refine s_aload_n G dX3_look_8 rfl ?_
      refine s_iload_n G dX3_look_9 rfl ?_
      refine s_callVi (as := [.int z2.1]) (st := []) (k := 1) G aw_self mdX0_isUp (fun _ h => c_X0_isUp w O l z2.1 z2.2 _ h) ⟨by decide, by decide⟩ (ce1 w) clX0 rfl qw374 rfl rfl (Nat.le_of_ble_eq_true rfl) (by decide) dX3_look_10 (fun r10 => ?_)
      refine s_istore_n (lv2 := [some (.ref (w.1 19)), some (.ref (w.1 1)), some (.int z2.1), some (.int r10), none, none]) G dX3_look_13 (by decide) rfl rfl ?_
      refine s_aload_n G dX3_look_14 rfl ?_
      refine s_get (k := 1) (j := 4) G (.ref (w.1 2)) ⟨by decide, by decide⟩ (ce1 w) rfl clX0 (by decide) qw104 rfl dX3_look_15 ?_
      refine s_iload_n G dX3_look_18 rfl ?_
      refine s_iald (k := 2) (n := 12) G ⟨by decide, by decide⟩ (ce2 w) dX3_look_19 ?_
      refine s_name (f := Value.int) (fun v20 => ?_)
      refine s_istore (lv2 := [some (.ref (w.1 19)), some (.ref (w.1 1)), some (.int z2.1), some (.int r10), some (.int v20), none]) G dX3_look_20 (by decide) rfl rfl ?_
      refine s_aload_n G dX3_look_22 rfl ?_
      refine s_get (k := 1) (j := 5) G (.ref (w.1 3)) ⟨by decide, by decide⟩ (ce1 w) rfl clX0 (by decide) qw107 rfl dX3_look_23 ?_
      refine s_iload_n G dX3_look_26 rfl ?_
      refine s_iald (k := 3) (n := 12) G ⟨by decide, by decide⟩ (ce3 w) dX3_look_27 ?_
      refine s_name (f := Value.int) (fun v28 => ?_)
      refine s_istore (lv2 := [some (.ref (w.1 19)), some (.ref (w.1 1)), some (.int z2.1), some (.int r10), some (.int v20), some (.int v28)]) G dX3_look_28 (by decide) rfl rfl ?_
      refine s_aload_n G dX3_look_30 rfl ?_
      refine s_get (k := 19) (j := 0) G (.ref (w.1 20)) ⟨by decide, by decide⟩ (ce19 w) rfl clX3 (by decide) qw143 rfl dX3_look_31 ?_
      refine s_iload_n G dX3_look_34 rfl ?_
      refine s_iload_n G dX3_look_35 rfl ?_
      refine s_join 53 (fun y36 : Int32 => [some (.ref (w.1 19)), some (.ref (w.1 1)), some (.int z2.1), some (.int r10), some (.int v20), some (.int v28)]) (fun y36 => [.int y36, .int z2.1, .ref (w.1 20)]) (fun y36 => z2.2) (fun y36 => ?_) (fun K36 hB36 => ?_)
      · refine s_iast (k := 20) (n := 12) G ⟨by decide, by decide⟩ (ce20 w) dX3_look_53 (fun m53 => ?_)
        refine s_aload_n G dX3_look_54 rfl ?_
        refine s_get (k := 19) (j := 1) G (.ref (w.1 21)) ⟨by decide, by decide⟩ (ce19 w) rfl clX3 (by decide) qw144 rfl dX3_look_55 ?_
        refine s_iload_n G dX3_look_58 rfl ?_
        refine s_iload_n G dX3_look_59 rfl ?_
        refine s_join 77 (fun y60 : Int32 => [some (.ref (w.1 19)), some (.ref (w.1 1)), some (.int z2.1), none, none, none]) (fun y60 => [.int y60, .int z2.1, .ref (w.1 21)]) (fun y60 => m53) (fun y60 => ?_) (fun K60 hB60 => ?_)
        · refine s_iast (k := 21) (n := 12) G ⟨by decide, by decide⟩ (ce21 w) dX3_look_77 (fun m77 => ?_)
          refine s_aload_n G dX3_look_78 rfl ?_
          refine s_get (k := 19) (j := 2) G (.ref (w.1 22)) ⟨by decide, by decide⟩ (ce19 w) rfl clX3 (by decide) qw145 rfl dX3_look_79 ?_
          refine s_iload_n G dX3_look_82 rfl ?_
          refine s_aload_n G dX3_look_83 rfl ?_
          refine s_iload_n G dX3_look_84 rfl ?_
          refine s_aload_n G dX3_look_85 rfl ?_
          refine s_get (k := 1) (j := 3) G (.int (gI m77 1 3)) ⟨by decide, by decide⟩ (ce1 w) rfl clX0 (by decide) qw100 rfl dX3_look_86 ?_
          refine s_callVi (as := [.int z2.1, .int (gI m77 1 3)]) (st := [.int z2.1, .ref (w.1 22)]) (k := 19) G aw_self mdX3_nearFacing (fun _ h => c_X3_nearFacing w O l z2.1 (gI m77 1 3) m77 _ h) ⟨by decide, by decide⟩ (ce19 w) clX3 rfl qw388 rfl rfl (Nat.le_of_ble_eq_true rfl) (by decide) dX3_look_89 (fun r89 => ?_)
          refine s_iast (k := 22) (n := 12) G ⟨by decide, by decide⟩ (ce22 w) dX3_look_92 (fun m92 => ?_)
          refine s_iinc (v := (z2.1 + 1)) (lv2 := [some (.ref (w.1 19)), some (.ref (w.1 1)), some (.int (z2.1 + 1)), none, none, none]) G dX3_look_93 rfl rfl (by decide) rfl rfl ?_
          refine s_goto (tgt := 2) G dX3_look_96 (by decide) ?_
          exact fun hx => hB2 ((z2.1 + 1), m92) hx
        · refine s_if_eq (tgt := 76) G dX3_look_60 (by decide) ?_ ?_
          · refine s_iconst (v := 0) G dX3_look_76 (by decide) ?_
            refine s_keep [true, true, true, false, false, false] (lv2 := [some (.ref (w.1 19)), some (.ref (w.1 1)), some (.int z2.1), none, none, none]) rfl ?_
            exact fun hx => hB60 0 hx
          · refine s_aload_n G dX3_look_63 rfl ?_
            refine s_iload_n G dX3_look_64 rfl ?_
            refine s_iload G dX3_look_65 rfl ?_
            refine s_iload G dX3_look_67 rfl ?_
            refine s_iconst (v := 0) G dX3_look_69 (by decide) ?_
            refine s_callVi (as := [.int z2.1, .int v20, .int v28, .int 0]) (st := [.int z2.1, .ref (w.1 21)]) (k := 1) G aw_self mdX0_tangledIf (fun _ h => c_X0_tangledIf w O l z2.1 v20 v28 0 m53 _ h) ⟨by decide, by decide⟩ (ce1 w) clX0 rfl qw375 rfl rfl (Nat.le_of_ble_eq_true rfl) (by decide) dX3_look_70 (fun r70 => ?_)
            refine s_goto (tgt := 77) G dX3_look_73 (by decide) ?_
            refine s_keep [true, true, true, false, false, false] (lv2 := [some (.ref (w.1 19)), some (.ref (w.1 1)), some (.int z2.1), none, none, none]) rfl ?_
            exact fun hx => hB60 r70 hx
      · refine s_if_eq (tgt := 52) G dX3_look_36 (by decide) ?_ ?_
        · refine s_iconst (v := 0) G dX3_look_52 (by decide) ?_
          exact fun hx => hB36 0 hx
        · refine s_aload_n G dX3_look_39 rfl ?_
          refine s_iload_n G dX3_look_40 rfl ?_
          refine s_iload G dX3_look_41 rfl ?_
          refine s_iload G dX3_look_43 rfl ?_
          refine s_iconst (v := 1) G dX3_look_45 (by decide) ?_
          refine s_callVi (as := [.int z2.1, .int v20, .int v28, .int 1]) (st := [.int z2.1, .ref (w.1 20)]) (k := 1) G aw_self mdX0_tangledIf (fun _ h => c_X0_tangledIf w O l z2.1 v20 v28 1 z2.2 _ h) ⟨by decide, by decide⟩ (ce1 w) clX0 rfl qw375 rfl rfl (Nat.le_of_ble_eq_true rfl) (by decide) dX3_look_46 (fun r46 => ?_)
          refine s_goto (tgt := 53) G dX3_look_49 (by decide) ?_
          exact fun hx => hB36 r46 hx

set_option maxRecDepth 100000 in
set_option maxHeartbeats 4000000 in
theorem c_X3_heapOf (w : Wx) (O : Mem) (l : Launch) (a1 : Int32) (M : Mem)  (z : Int32) (hz : f_X3_heapOf a1 M = some z) : Ct w 0 36 O l 1 muX3_heapOf [.ref (w.1 19), .int a1] M (some (.int z), M) := by
  refine ct_of (X := f_X3_heapOf a1 M) (K := fun v => some (some (.int v), M)) [some (.ref (w.1 19)), some (.int a1), none, none, none, none] rfl rfl (Nat.le_of_ble_eq_true rfl) (by rw [hz]; rfl) ?_
  intro p e s m args below meth c G
  unfold f_X3_heapOf
  refine s_iconst (v := 1) G dX3_heapOf_0 (by decide) ?_
  refine s_iload_n G dX3_heapOf_1 rfl ?_
  refine s_ishl G dX3_heapOf_2 ?_
  refine s_name (f := Value.int) (fun v3 => ?_)
  refine s_istore_n (lv2 := [some (.ref (w.1 19)), some (.int a1), some (.int v3), none, none, none]) G dX3_heapOf_3 (by decide) rfl rfl ?_
  refine s_iconst (v := 0) G dX3_heapOf_4 (by decide) ?_
  refine s_istore_n (lv2 := [some (.ref (w.1 19)), some (.int a1), some (.int v3), some (.int 0), none, none]) G dX3_heapOf_5 (by decide) rfl rfl ?_
  refine s_keep [true, false, true, true, false, false] (lv2 := [some (.ref (w.1 19)), none, some (.int v3), some (.int 0), none, none]) rfl ?_
  refine s_loopG (lvf := fun z6 : Int32 × Int32 => [some (.ref (w.1 19)), none, some (.int z6.1), some (.int z6.2), none, none]) (Mf := fun z6 : Int32 × Int32 => M) (ex := (el (fun x6_62 : Int32 => (62, [none, none, some (.int x6_62), none, none, none], M)) (fun x6_73 : Int32 => (73, [none, none, some (.int x6_73), none, none, none], M)))) (el_all 62 (fun x6_62 : Int32 => [none, none, some (.int x6_62), none, none, none]) (fun x6_62 : Int32 => M) (fun x6_62 => ?_) (el_one 73 (fun x6_73 : Int32 => [none, none, some (.int x6_73), none, none, none]) (fun x6_73 : Int32 => M) (fun x6_73 => ?_))) (fun z6 K6 hB6 hE6 => ?_)
  · refine s_iload_n G dX3_heapOf_62 rfl ?_
    exact s_iret G rfl rfl dX3_heapOf_63
  · refine s_iload_n G dX3_heapOf_73 rfl ?_
    exact s_iret G rfl rfl dX3_heapOf_74
  · unfold f_X3_heapOf_L6
    refine s_iload_n G dX3_heapOf_6 rfl ?_
    refine s_bipush (v := 12) G dX3_heapOf_7 (by decide) ?_
    refine s_icmp_ge (tgt := 73) G dX3_heapOf_9 (by decide) ?_ ?_
    · refine s_keep [false, false, true, false, false, false] (lv2 := [none, none, some (.int z6.1), none, none, none]) rfl ?_
      exact fun hx => hE6 (.inr z6.1) hx
    · refine s_iload_n G dX3_heapOf_12 rfl ?_
      refine s_istore (lv2 := [some (.ref (w.1 19)), none, some (.int z6.1), some (.int z6.2), some (.int z6.1), none]) G dX3_heapOf_13 (by decide) rfl rfl ?_
      refine s_iconst (v := 0) G dX3_heapOf_15 (by decide) ?_
      refine s_istore (lv2 := [some (.ref (w.1 19)), none, some (.int z6.1), some (.int z6.2), some (.int z6.1), some (.int 0)]) G dX3_heapOf_16 (by decide) rfl rfl ?_
      refine s_loopG (lvf := fun z18 : Int32 × Int32 => [some (.ref (w.1 19)), none, some (.int z6.1), some (.int z6.2), some (.int z18.1), some (.int z18.2)]) (Mf := fun z18 : Int32 × Int32 => M) (ex := (fun x18_56 : Int32 => (56, [some (.ref (w.1 19)), none, some (.int z6.1), some (.int z6.2), some (.int x18_56), none], M))) (el_one 56 (fun x18_56 : Int32 => [some (.ref (w.1 19)), none, some (.int z6.1), some (.int z6.2), some (.int x18_56), none]) (fun x18_56 : Int32 => M) (fun x18_56 => ?_)) (fun z18 K18 hB18 hE18 => ?_)
      · refine s_iload G dX3_heapOf_56 rfl ?_
        refine s_iload_n G dX3_heapOf_58 rfl ?_
        refine s_icmp_ne (tgt := 64) G dX3_heapOf_59 (by decide) ?_ ?_
        · refine s_keep [false, false, true, false, false, false] (lv2 := [none, none, some (.int z6.1), none, none, none]) rfl ?_
          exact fun hx => hE6 (.inl z6.1) hx
        · refine s_iload G dX3_heapOf_64 rfl ?_
          refine s_istore_n (lv2 := [some (.ref (w.1 19)), none, some (.int x18_56), some (.int z6.2), some (.int x18_56), none]) G dX3_heapOf_66 (by decide) rfl rfl ?_
          refine s_iinc (v := (z6.2 + 1)) (lv2 := [some (.ref (w.1 19)), none, some (.int x18_56), some (.int (z6.2 + 1)), some (.int x18_56), none]) G dX3_heapOf_67 rfl rfl (by decide) rfl rfl ?_
          refine s_goto (tgt := 6) G dX3_heapOf_70 (by decide) ?_
          refine s_keep [true, false, true, true, false, false] (lv2 := [some (.ref (w.1 19)), none, some (.int x18_56), some (.int (z6.2 + 1)), none, none]) rfl ?_
          exact fun hx => hB6 (x18_56, (z6.2 + 1)) hx
      · unfold f_X3_heapOf_L18
        refine s_iload G dX3_heapOf_18 rfl ?_
        refine s_bipush (v := 12) G dX3_heapOf_20 (by decide) ?_
        refine s_icmp_ge (tgt := 56) G dX3_heapOf_22 (by decide) ?_ ?_
        · refine s_keep [true, false, true, true, true, false] (lv2 := [some (.ref (w.1 19)), none, some (.int z6.1), some (.int z6.2), some (.int z18.1), none]) rfl ?_
          exact fun hx => hE18 z18.1 hx
        · refine s_iload G dX3_heapOf_25 rfl ?_
          refine s_iload_n G dX3_heapOf_27 rfl ?_
          refine s_iload G dX3_heapOf_28 rfl ?_
          refine s_callSNi (as := [.int z6.1, .int z18.2]) (st := [.int z18.1]) G aw_self mdX5_contains (fun _ h => c_X5_contains w O l z6.1 z18.2 M _ h) (by decide) rfl rfl (Nat.le_of_ble_eq_true rfl) (by decide) dX3_heapOf_30 (fun r30 => ?_)
          refine s_join 47 (fun y33 : Int32 => [some (.ref (w.1 19)), none, some (.int z6.1), some (.int z6.2), none, some (.int z18.2)]) (fun y33 => [.int y33, .int z18.1]) (fun y33 => M) (fun y33 => ?_) (fun K33 hB33 => ?_)
          · refine s_ior G dX3_heapOf_47 ?_
            refine s_name (f := Value.int) (fun v48 => ?_)
            refine s_istore (lv2 := [some (.ref (w.1 19)), none, some (.int z6.1), some (.int z6.2), some (.int v48), some (.int z18.2)]) G dX3_heapOf_48 (by decide) rfl rfl ?_
            refine s_iinc (v := (z18.2 + 1)) (lv2 := [some (.ref (w.1 19)), none, some (.int z6.1), some (.int z6.2), some (.int v48), some (.int (z18.2 + 1))]) G dX3_heapOf_50 rfl rfl (by decide) rfl rfl ?_
            refine s_goto (tgt := 18) G dX3_heapOf_53 (by decide) ?_
            exact fun hx => hB18 (v48, (z18.2 + 1)) hx
          · refine s_if_eq (tgt := 46) G dX3_heapOf_33 (by decide) ?_ ?_
            · refine s_iconst (v := 0) G dX3_heapOf_46 (by decide) ?_
              refine s_keep [true, false, true, true, false, true] (lv2 := [some (.ref (w.1 19)), none, some (.int z6.1), some (.int z6.2), none, some (.int z18.2)]) rfl ?_
              exact fun hx => hB33 0 hx
            · refine s_aload_n G dX3_heapOf_36 rfl ?_
              refine s_get (k := 19) (j := 2) G (.ref (w.1 22)) ⟨by decide, by decide⟩ (ce19 w) rfl clX3 (by decide) qw145 rfl dX3_heapOf_37 ?_
              refine s_iload G dX3_heapOf_40 rfl ?_
              refine s_iald (k := 22) (n := 12) G ⟨by decide, by decide⟩ (ce22 w) dX3_heapOf_42 ?_
              refine s_goto (tgt := 47) G dX3_heapOf_43 (by decide) ?_
              refine s_keep [true, false, true, true, false, true] (lv2 := [some (.ref (w.1 19)), none, some (.int z6.1), some (.int z6.2), none, some (.int z18.2)]) rfl ?_
              exact fun hx => hB33 (gI M 22 z18.2.toNatClampNeg) hx

set_option maxRecDepth 100000 in
set_option maxHeartbeats 4000000 in
theorem c_X3_coming (w : Wx) (O : Mem) (l : Launch) (a1 : Int32) (a2 : Int32) (M : Mem)  (z : Int32) (hz : f_X3_coming a1 a2 M = some z) : Ct w 0 36 O l 2 muX3_coming [.ref (w.1 19), .int a1, .int a2] M (some (.int z), M) := by
  refine ct_of (X := f_X3_coming a1 a2 M) (K := fun v => some (some (.int v), M)) [some (.ref (w.1 19)), some (.int a1), some (.int a2)] rfl rfl (Nat.le_of_ble_eq_true rfl) (by rw [hz]; rfl) ?_
  intro p e s m args below meth c G
  unfold f_X3_coming
  refine s_iload_n G dX3_coming_0 rfl ?_
  refine s_if_ne (tgt := 10) G dX3_coming_1 (by decide) ?_ ?_
  · refine s_aload_n G dX3_coming_4 rfl ?_
    refine s_iload_n G dX3_coming_5 rfl ?_
    refine s_callVi (as := [.int a1]) (st := []) (k := 19) G aw_self mdX3_heapOf (fun _ h => c_X3_heapOf w O l a1 M _ h) ⟨by decide, by decide⟩ (ce19 w) clX3 rfl qw402 rfl rfl (Nat.le_of_ble_eq_true rfl) (by decide) dX3_coming_6 (fun r6 => ?_)
    exact s_iret G rfl rfl dX3_coming_9
  · refine s_iload_n G dX3_coming_10 rfl ?_
    refine s_iconst (v := 1) G dX3_coming_11 (by decide) ?_
    refine s_join 31 (fun y12 : Int32 => [none, none, none]) (fun y12 => [.int y12]) (fun y12 => M) (fun y12 => ?_) (fun K12 hB12 => ?_)
    · exact s_iret G rfl rfl dX3_coming_31
    · refine s_icmp_ne (tgt := 28) G dX3_coming_12 (by decide) ?_ ?_
      · refine s_aload_n G dX3_coming_15 rfl ?_
        refine s_get (k := 19) (j := 2) G (.ref (w.1 22)) ⟨by decide, by decide⟩ (ce19 w) rfl clX3 (by decide) qw145 rfl dX3_coming_16 ?_
        refine s_iload_n G dX3_coming_19 rfl ?_
        refine s_iald (k := 22) (n := 12) G ⟨by decide, by decide⟩ (ce22 w) dX3_coming_20 ?_
        refine s_iconst (v := 1) G dX3_coming_21 (by decide) ?_
        refine s_iload_n G dX3_coming_22 rfl ?_
        refine s_ishl G dX3_coming_23 ?_
        refine s_ior G dX3_coming_24 ?_
        refine s_goto (tgt := 31) G dX3_coming_25 (by decide) ?_
        refine s_keep [false, false, false] (lv2 := [none, none, none]) rfl ?_
        exact fun hx => hB12 ((gI M 22 a1.toNatClampNeg) ||| ((1 : Int32) <<< (a1 &&& 31))) hx
      · refine s_iconst (v := 1) G dX3_coming_28 (by decide) ?_
        refine s_iload_n G dX3_coming_29 rfl ?_
        refine s_ishl G dX3_coming_30 ?_
        refine s_keep [false, false, false] (lv2 := [none, none, none]) rfl ?_
        exact fun hx => hB12 ((1 : Int32) <<< (a1 &&& 31)) hx

set_option maxRecDepth 100000 in
set_option maxHeartbeats 4000000 in
theorem c_X0_falling (w : Wx) (O : Mem) (l : Launch) (a1 : Int32) (a2 : Int32) (a3 : Int32) (M : Mem)  (z : Int32) (hz : f_X0_falling a1 a2 a3 M = some z) : Ct w 0 36 O l 1 muX0_falling [.ref (w.1 1), .int a1, .int a2, .int a3] M (some (.int z), M) := by
  refine ct_of (X := f_X0_falling a1 a2 a3 M) (K := fun v => some (some (.int v), M)) [some (.ref (w.1 1)), some (.int a1), some (.int a2), some (.int a3), none, none, none] rfl rfl (Nat.le_of_ble_eq_true rfl) (by rw [hz]; rfl) ?_
  intro p e s m args below meth c G
  unfold f_X0_falling
  refine s_iconst (v := 0) G dX0_falling_0 (by decide) ?_
  refine s_istore (lv2 := [some (.ref (w.1 1)), some (.int a1), some (.int a2), some (.int a3), some (.int 0), none, none]) G dX0_falling_1 (by decide) rfl rfl ?_
  refine s_iconst (v := 0) G dX0_falling_3 (by decide) ?_
  refine s_istore (lv2 := [some (.ref (w.1 1)), some (.int a1), some (.int a2), some (.int a3), some (.int 0), some (.int 0), none]) G dX0_falling_4 (by decide) rfl rfl ?_
  refine s_loopG (lvf := fun z6 : Int32 × Int32 => [some (.ref (w.1 1)), some (.int a1), some (.int a2), some (.int a3), some (.int z6.1), some (.int z6.2), none]) (Mf := fun z6 : Int32 × Int32 => M) (ex := (fun x6_82 : Int32 => (82, [none, none, none, none, some (.int x6_82), none, none], M))) (el_one 82 (fun x6_82 : Int32 => [none, none, none, none, some (.int x6_82), none, none]) (fun x6_82 : Int32 => M) (fun x6_82 => ?_)) (fun z6 K6 hB6 hE6 => ?_)
  · refine s_iload G dX0_falling_82 rfl ?_
    exact s_iret G rfl rfl dX0_falling_84
  · unfold f_X0_falling_L6
    refine s_iload G dX0_falling_6 rfl ?_
    refine s_aload_n G dX0_falling_8 rfl ?_
    refine s_get (k := 1) (j := 0) G (.int (gI M 1 0)) ⟨by decide, by decide⟩ (ce1 w) rfl clX0 (by decide) qw91 rfl dX0_falling_9 ?_
    refine s_icmp_ge (tgt := 82) G dX0_falling_12 (by decide) ?_ ?_
    · refine s_keep [false, false, false, false, true, false, false] (lv2 := [none, none, none, none, some (.int z6.1), none, none]) rfl ?_
      exact fun hx => hE6 z6.1 hx
    · refine s_iload_n G dX0_falling_15 rfl ?_
      refine s_iload G dX0_falling_16 rfl ?_
      refine s_callSNi (as := [.int a1, .int z6.2]) (st := []) G aw_self mdX5_contains (fun _ h => c_X5_contains w O l a1 z6.2 M _ h) (by decide) rfl rfl (Nat.le_of_ble_eq_true rfl) (by decide) dX0_falling_18 (fun r18 => ?_)
      refine s_join 40 (fun y21 : Int32 => [some (.ref (w.1 1)), some (.int a1), some (.int a2), some (.int a3), some (.int z6.1), some (.int z6.2), none]) (fun y21 => [.int y21]) (fun y21 => M) (fun y21 => ?_) (fun K21 hB21 => ?_)
      · refine s_istore (lv2 := [some (.ref (w.1 1)), some (.int a1), some (.int a2), some (.int a3), some (.int z6.1), some (.int z6.2), some (.int y21)]) G dX0_falling_40 (by decide) rfl rfl ?_
        refine s_iload G dX0_falling_42 rfl ?_
        refine s_join 76 (fun y44 : Int32 => [some (.ref (w.1 1)), some (.int a1), some (.int a2), some (.int a3), some (.int y44), some (.int z6.2), none]) (fun y44 => []) (fun y44 => M) (fun y44 => ?_) (fun K44 hB44 => ?_)
        · refine s_iinc (v := (z6.2 + 1)) (lv2 := [some (.ref (w.1 1)), some (.int a1), some (.int a2), some (.int a3), some (.int y44), some (.int (z6.2 + 1)), none]) G dX0_falling_76 rfl rfl (by decide) rfl rfl ?_
          refine s_goto (tgt := 6) G dX0_falling_79 (by decide) ?_
          exact fun hx => hB6 (y44, (z6.2 + 1)) hx
        · refine s_if_eq (tgt := 76) G dX0_falling_44 (by decide) ?_ ?_
          · refine s_keep [true, true, true, true, true, true, false] (lv2 := [some (.ref (w.1 1)), some (.int a1), some (.int a2), some (.int a3), some (.int z6.1), some (.int z6.2), none]) rfl ?_
            exact fun hx => hB44 z6.1 hx
          · refine s_aload_n G dX0_falling_47 rfl ?_
            refine s_get (k := 1) (j := 6) G (.ref (w.1 4)) ⟨by decide, by decide⟩ (ce1 w) rfl clX0 (by decide) qw109 rfl dX0_falling_48 ?_
            refine s_iload G dX0_falling_51 rfl ?_
            refine s_iald (k := 4) (n := 12) G ⟨by decide, by decide⟩ (ce4 w) dX0_falling_53 ?_
            refine s_aload_n G dX0_falling_54 rfl ?_
            refine s_get (k := 1) (j := 4) G (.ref (w.1 2)) ⟨by decide, by decide⟩ (ce1 w) rfl clX0 (by decide) qw103 rfl dX0_falling_55 ?_
            refine s_iload G dX0_falling_58 rfl ?_
            refine s_iald (k := 2) (n := 12) G ⟨by decide, by decide⟩ (ce2 w) dX0_falling_60 ?_
            refine s_callSNi (as := [.int (gI M 2 z6.2.toNatClampNeg)]) (st := [.int (gI M 4 z6.2.toNatClampNeg)]) G aw_self mdX5_holds (fun _ h => c_X5_holds w O l (gI M 2 z6.2.toNatClampNeg) M _ h) (by decide) rfl rfl (Nat.le_of_ble_eq_true rfl) (by decide) dX0_falling_61 (fun r61 => ?_)
            refine s_icmp_le (tgt := 76) G dX0_falling_64 (by decide) ?_ ?_
            · refine s_keep [true, true, true, true, true, true, false] (lv2 := [some (.ref (w.1 1)), some (.int a1), some (.int a2), some (.int a3), some (.int z6.1), some (.int z6.2), none]) rfl ?_
              exact fun hx => hB44 z6.1 hx
            · refine s_iload G dX0_falling_67 rfl ?_
              refine s_iconst (v := 1) G dX0_falling_69 (by decide) ?_
              refine s_iload G dX0_falling_70 rfl ?_
              refine s_ishl G dX0_falling_72 ?_
              refine s_ior G dX0_falling_73 ?_
              refine s_name (f := Value.int) (fun v74 => ?_)
              refine s_istore (lv2 := [some (.ref (w.1 1)), some (.int a1), some (.int a2), some (.int a3), some (.int v74), some (.int z6.2), some (.int y21)]) G dX0_falling_74 (by decide) rfl rfl ?_
              refine s_keep [true, true, true, true, true, true, false] (lv2 := [some (.ref (w.1 1)), some (.int a1), some (.int a2), some (.int a3), some (.int v74), some (.int z6.2), none]) rfl ?_
              exact fun hx => hB44 v74 hx
      · refine s_if_eq (tgt := 39) G dX0_falling_21 (by decide) ?_ ?_
        · refine s_iconst (v := 0) G dX0_falling_39 (by decide) ?_
          exact fun hx => hB21 0 hx
        · refine s_iload G dX0_falling_24 rfl ?_
          refine s_iload_n G dX0_falling_26 rfl ?_
          refine s_icmp_ne (tgt := 35) G dX0_falling_27 (by decide) ?_ ?_
          · refine s_iload_n G dX0_falling_30 rfl ?_
            refine s_iconst (v := 1) G dX0_falling_31 (by decide) ?_
            refine s_icmp_ne (tgt := 39) G dX0_falling_32 (by decide) ?_ ?_
            · refine s_iconst (v := 1) G dX0_falling_35 (by decide) ?_
              refine s_goto (tgt := 40) G dX0_falling_36 (by decide) ?_
              exact fun hx => hB21 1 hx
            · refine s_iconst (v := 0) G dX0_falling_39 (by decide) ?_
              exact fun hx => hB21 0 hx
          · refine s_iconst (v := 1) G dX0_falling_35 (by decide) ?_
            refine s_goto (tgt := 40) G dX0_falling_36 (by decide) ?_
            exact fun hx => hB21 1 hx

set_option maxRecDepth 100000 in
set_option maxHeartbeats 4000000 in
theorem c_X0_strip (w : Wx) (O : Mem) (l : Launch) (a1 : Int32) (M : Mem)  (z : Mem) (hz : f_X0_strip a1 M = some z) : Ct w 0 36 O l 1 muX0_strip [.ref (w.1 1), .int a1] M (none, z) := by
  refine ct_of (X := f_X0_strip a1 M) (K := fun v => some (none, v)) [some (.ref (w.1 1)), some (.int a1), none] rfl rfl (Nat.le_of_ble_eq_true rfl) (by rw [hz]; rfl) ?_
  intro p e s m args below meth c G
  unfold f_X0_strip
  refine s_iconst (v := 0) G dX0_strip_0 (by decide) ?_
  refine s_istore_n (lv2 := [some (.ref (w.1 1)), some (.int a1), some (.int 0)]) G dX0_strip_1 (by decide) rfl rfl ?_
  refine s_loopG (lvf := fun z2 : Int32 × Mem => [some (.ref (w.1 1)), some (.int a1), some (.int z2.1)]) (Mf := fun z2 : Int32 × Mem => z2.2) (ex := (fun x2_31 : Mem => (31, [none, none, none], x2_31))) (el_one 31 (fun x2_31 : Mem => [none, none, none]) (fun x2_31 : Mem => x2_31) (fun x2_31 => ?_)) (fun z2 K2 hB2 hE2 => ?_)
  · exact s_vret G rfl rfl dX0_strip_31
  · unfold f_X0_strip_L2
    refine s_iload_n G dX0_strip_2 rfl ?_
    refine s_aload_n G dX0_strip_3 rfl ?_
    refine s_get (k := 1) (j := 0) G (.int (gI z2.2 1 0)) ⟨by decide, by decide⟩ (ce1 w) rfl clX0 (by decide) qw91 rfl dX0_strip_4 ?_
    refine s_icmp_ge (tgt := 31) G dX0_strip_7 (by decide) ?_ ?_
    · refine s_keep [false, false, false] (lv2 := [none, none, none]) rfl ?_
      exact fun hx => hE2 z2.2 hx
    · refine s_iload_n G dX0_strip_10 rfl ?_
      refine s_iload_n G dX0_strip_11 rfl ?_
      refine s_callSNi (as := [.int a1, .int z2.1]) (st := []) G aw_self mdX5_contains (fun _ h => c_X5_contains w O l a1 z2.1 z2.2 _ h) (by decide) rfl rfl (Nat.le_of_ble_eq_true rfl) (by decide) dX0_strip_12 (fun r12 => ?_)
      refine s_join 25 (fun y15 : Mem => [some (.ref (w.1 1)), some (.int a1), some (.int z2.1)]) (fun y15 => []) (fun y15 => y15) (fun y15 => ?_) (fun K15 hB15 => ?_)
      · refine s_iinc (v := (z2.1 + 1)) (lv2 := [some (.ref (w.1 1)), some (.int a1), some (.int (z2.1 + 1))]) G dX0_strip_25 rfl rfl (by decide) rfl rfl ?_
        refine s_goto (tgt := 2) G dX0_strip_28 (by decide) ?_
        exact fun hx => hB2 ((z2.1 + 1), y15) hx
      · refine s_if_eq (tgt := 25) G dX0_strip_15 (by decide) ?_ ?_
        · exact fun hx => hB15 z2.2 hx
        · refine s_aload_n G dX0_strip_18 rfl ?_
          refine s_get (k := 1) (j := 6) G (.ref (w.1 4)) ⟨by decide, by decide⟩ (ce1 w) rfl clX0 (by decide) qw109 rfl dX0_strip_19 ?_
          refine s_iload_n G dX0_strip_22 rfl ?_
          refine s_iconst (v := 0) G dX0_strip_23 (by decide) ?_
          refine s_iast (k := 4) (n := 12) G ⟨by decide, by decide⟩ (ce4 w) dX0_strip_24 (fun m24 => ?_)
          exact fun hx => hB15 m24 hx

set_option maxRecDepth 100000 in
set_option maxHeartbeats 4000000 in
theorem c_X5_take (w : Wx) (O : Mem) (l : Launch) (a1 : Int32) (a2 : Int32) (M : Mem)  (z : Int32 × Mem) (hz : f_X5_take a1 a2 M = some z) : Ct w 0 36 O l 4 muX5_take [.ref (w.1 0), .int a1, .int a2] M (some (.int z.1), z.2) := by
  refine ct_of (X := f_X5_take a1 a2 M) (K := fun v => some (some (.int v.1), v.2)) [some (.ref (w.1 0)), some (.int a1), some (.int a2), none, none, none] rfl rfl (Nat.le_of_ble_eq_true rfl) (by rw [hz]; rfl) ?_
  intro p e s m args below meth c G
  unfold f_X5_take
  refine s_aload_n G dX5_take_0 rfl ?_
  refine s_iload_n G dX5_take_1 rfl ?_
  refine s_iload_n G dX5_take_2 rfl ?_
  refine s_callVi (as := [.int a1, .int a2]) (st := []) (k := 0) G aw_self mdX5_findingAgainstTaking (fun _ h => c_X5_findingAgainstTaking w O l a1 a2 M _ h) ⟨by decide, by decide⟩ (ce0 w) clX5 rfl qw360 rfl rfl (Nat.le_of_ble_eq_true rfl) (by decide) dX5_take_3 (fun r3 => ?_)
  refine s_istore_n (lv2 := [some (.ref (w.1 0)), some (.int a1), some (.int a2), some (.int r3), none, none]) G dX5_take_6 (by decide) rfl rfl ?_
  refine s_iload_n G dX5_take_7 rfl ?_
  refine s_if_eq (tgt := 17) G dX5_take_8 (by decide) ?_ ?_
  · refine s_aload_n G dX5_take_17 rfl ?_
    refine s_get (k := 0) (j := 3) G (.ref (w.1 19)) ⟨by decide, by decide⟩ (ce0 w) rfl clX5 (by decide) qw217 rfl dX5_take_18 ?_
    refine s_aload_n G dX5_take_21 rfl ?_
    refine s_get (k := 0) (j := 0) G (.ref (w.1 1)) ⟨by decide, by decide⟩ (ce0 w) rfl clX5 (by decide) qw214 rfl dX5_take_22 ?_
    refine s_callVv (as := [.ref (w.1 1)]) (st := []) (k := 19) G aw_self mdX3_look (fun _ h => c_X3_look_1 w O l M _ h) ⟨by decide, by decide⟩ (ce19 w) clX3 rfl qw370 rfl rfl (Nat.le_of_ble_eq_true rfl) (by decide) dX5_take_25 (fun r25 => ?_)
    refine s_aload_n G dX5_take_28 rfl ?_
    refine s_get (k := 0) (j := 3) G (.ref (w.1 19)) ⟨by decide, by decide⟩ (ce0 w) rfl clX5 (by decide) qw217 rfl dX5_take_29 ?_
    refine s_iload_n G dX5_take_32 rfl ?_
    refine s_iload_n G dX5_take_33 rfl ?_
    refine s_callVi (as := [.int a1, .int a2]) (st := []) (k := 19) G aw_self mdX3_coming (fun _ h => c_X3_coming w O l a1 a2 r25 _ h) ⟨by decide, by decide⟩ (ce19 w) clX3 rfl qw398 rfl rfl (Nat.le_of_ble_eq_true rfl) (by decide) dX5_take_34 (fun r34 => ?_)
    refine s_istore (lv2 := [some (.ref (w.1 0)), some (.int a1), some (.int a2), some (.int r3), some (.int r34), none]) G dX5_take_37 (by decide) rfl rfl ?_
    refine s_aload_n G dX5_take_39 rfl ?_
    refine s_get (k := 0) (j := 0) G (.ref (w.1 1)) ⟨by decide, by decide⟩ (ce0 w) rfl clX5 (by decide) qw214 rfl dX5_take_40 ?_
    refine s_aload_n G dX5_take_43 rfl ?_
    refine s_get (k := 0) (j := 0) G (.ref (w.1 1)) ⟨by decide, by decide⟩ (ce0 w) rfl clX5 (by decide) qw214 rfl dX5_take_44 ?_
    refine s_iload G dX5_take_47 rfl ?_
    refine s_iload_n G dX5_take_49 rfl ?_
    refine s_iload_n G dX5_take_50 rfl ?_
    refine s_callVi (as := [.int r34, .int a1, .int a2]) (st := [.ref (w.1 1)]) (k := 1) G aw_self mdX0_falling (fun _ h => c_X0_falling w O l r34 a1 a2 r25 _ h) ⟨by decide, by decide⟩ (ce1 w) clX0 rfl qw407 rfl rfl (Nat.le_of_ble_eq_true rfl) (by decide) dX5_take_51 (fun r51 => ?_)
    refine s_callVv (as := [.int r51]) (st := []) (k := 1) G aw_self mdX0_strip (fun _ h => c_X0_strip w O l r51 r25 _ h) ⟨by decide, by decide⟩ (ce1 w) clX0 rfl qw412 rfl rfl (Nat.le_of_ble_eq_true rfl) (by decide) dX5_take_54 (fun r54 => ?_)
    refine s_iconst (v := 0) G dX5_take_57 (by decide) ?_
    refine s_istore (lv2 := [some (.ref (w.1 0)), some (.int a1), some (.int a2), some (.int r3), some (.int r34), some (.int 0)]) G dX5_take_58 (by decide) rfl rfl ?_
    refine s_keep [true, false, false, false, true, true] (lv2 := [some (.ref (w.1 0)), none, none, none, some (.int r34), some (.int 0)]) rfl ?_
    refine s_loopG (lvf := fun z60 : Int32 × Mem => [some (.ref (w.1 0)), none, none, none, some (.int r34), some (.int z60.1)]) (Mf := fun z60 : Int32 × Mem => z60.2) (ex := (fun x60_97 : Mem => (97, [some (.ref (w.1 0)), none, none, none, some (.int r34), none], x60_97))) (el_one 97 (fun x60_97 : Mem => [some (.ref (w.1 0)), none, none, none, some (.int r34), none]) (fun x60_97 : Mem => x60_97) (fun x60_97 => ?_)) (fun z60 K60 hB60 hE60 => ?_)
    · refine s_aload_n G dX5_take_97 rfl ?_
      refine s_get (k := 0) (j := 0) G (.ref (w.1 1)) ⟨by decide, by decide⟩ (ce0 w) rfl clX5 (by decide) qw214 rfl dX5_take_98 ?_
      refine s_callVv (as := []) (st := []) (k := 1) G aw_self mdX0_addMove (fun _ h => c_X0_addMove w O l x60_97 _ h) ⟨by decide, by decide⟩ (ce1 w) clX0 rfl qw325 rfl rfl (Nat.le_of_ble_eq_true rfl) (by decide) dX5_take_101 (fun r101 => ?_)
      refine s_iload G dX5_take_104 rfl ?_
      exact s_iret G rfl rfl dX5_take_106
    · unfold f_X5_take_L60
      refine s_iload G dX5_take_60 rfl ?_
      refine s_aload_n G dX5_take_62 rfl ?_
      refine s_get (k := 0) (j := 0) G (.ref (w.1 1)) ⟨by decide, by decide⟩ (ce0 w) rfl clX5 (by decide) qw214 rfl dX5_take_63 ?_
      refine s_get (k := 1) (j := 0) G (.int (gI z60.2 1 0)) ⟨by decide, by decide⟩ (ce1 w) rfl clX0 (by decide) qw92 rfl dX5_take_66 ?_
      refine s_icmp_ge (tgt := 97) G dX5_take_69 (by decide) ?_ ?_
      · refine s_keep [true, false, false, false, true, false] (lv2 := [some (.ref (w.1 0)), none, none, none, some (.int r34), none]) rfl ?_
        exact fun hx => hE60 z60.2 hx
      · refine s_iload G dX5_take_72 rfl ?_
        refine s_iload G dX5_take_74 rfl ?_
        refine s_callSi (as := [.int r34, .int z60.1]) (st := []) G aw_self mdX5_contains (fun _ h => c_X5_contains w O l r34 z60.1 z60.2 _ h) qw416 rfl rfl (Nat.le_of_ble_eq_true rfl) (by decide) dX5_take_76 (fun r76 => ?_)
        refine s_join 91 (fun y79 : Mem => [some (.ref (w.1 0)), none, none, none, some (.int r34), some (.int z60.1)]) (fun y79 => []) (fun y79 => y79) (fun y79 => ?_) (fun K79 hB79 => ?_)
        · refine s_iinc (v := (z60.1 + 1)) (lv2 := [some (.ref (w.1 0)), none, none, none, some (.int r34), some (.int (z60.1 + 1))]) G dX5_take_91 rfl rfl (by decide) rfl rfl ?_
          refine s_goto (tgt := 60) G dX5_take_94 (by decide) ?_
          exact fun hx => hB60 ((z60.1 + 1), y79) hx
        · refine s_if_eq (tgt := 91) G dX5_take_79 (by decide) ?_ ?_
          · exact fun hx => hB79 z60.2 hx
          · refine s_aload_n G dX5_take_82 rfl ?_
            refine s_get (k := 0) (j := 0) G (.ref (w.1 1)) ⟨by decide, by decide⟩ (ce0 w) rfl clX5 (by decide) qw214 rfl dX5_take_83 ?_
            refine s_iload G dX5_take_86 rfl ?_
            refine s_callVv (as := [.int z60.1]) (st := []) (k := 1) G aw_self mdX0_putOut (fun _ h => c_X0_putOut w O l z60.1 z60.2 _ h) ⟨by decide, by decide⟩ (ce1 w) clX0 rfl qw351 rfl rfl (Nat.le_of_ble_eq_true rfl) (by decide) dX5_take_88 (fun r88 => ?_)
            exact fun hx => hB79 r88 hx
  · refine s_aload_n G dX5_take_11 rfl ?_
    refine s_iload_n G dX5_take_12 rfl ?_
    refine s_callVI (as := [.int r3]) (st := []) (k := 0) G aw_self mdX5_told (fun _ h => c_X5_told w O l r3 M _ h) ⟨by decide, by decide⟩ (ce0 w) clX5 rfl qw250 rfl rfl (Nat.le_of_ble_eq_true rfl) (by decide) dX5_take_13 (fun r13 => ?_)
    exact s_iret G rfl rfl dX5_take_16

set_option maxRecDepth 100000 in
set_option maxHeartbeats 4000000 in
theorem c_X3_pairs (w : Wx) (O : Mem) (l : Launch) (a1 : Int32) (M : Mem)  (z : Int32) (hz : f_X3_pairs a1 M = some z) : Ct w 0 36 O l 3 muX3_pairs [.ref (w.1 19), .int a1] M (some (.int z), M) := by
  refine ct_of (X := f_X3_pairs a1 M) (K := fun v => some (some (.int v), M)) [some (.ref (w.1 19)), some (.int a1), none, none] rfl rfl (Nat.le_of_ble_eq_true rfl) (by rw [hz]; rfl) ?_
  intro p e s m args below meth c G
  unfold f_X3_pairs
  refine s_iconst (v := 0) G dX3_pairs_0 (by decide) ?_
  refine s_istore_n (lv2 := [some (.ref (w.1 19)), some (.int a1), some (.int 0), none]) G dX3_pairs_1 (by decide) rfl rfl ?_
  refine s_iconst (v := 0) G dX3_pairs_2 (by decide) ?_
  refine s_istore_n (lv2 := [some (.ref (w.1 19)), some (.int a1), some (.int 0), some (.int 0)]) G dX3_pairs_3 (by decide) rfl rfl ?_
  refine s_loopG (lvf := fun z4 : Int32 × Int32 => [some (.ref (w.1 19)), some (.int a1), some (.int z4.1), some (.int z4.2)]) (Mf := fun z4 : Int32 × Int32 => M) (ex := (fun x4_28 : Int32 => (28, [none, none, some (.int x4_28), none], M))) (el_one 28 (fun x4_28 : Int32 => [none, none, some (.int x4_28), none]) (fun x4_28 : Int32 => M) (fun x4_28 => ?_)) (fun z4 K4 hB4 hE4 => ?_)
  · refine s_iload_n G dX3_pairs_28 rfl ?_
    refine s_iconst (v := 2) G dX3_pairs_29 (by decide) ?_
    refine s_idiv G dX3_pairs_30 (by decide) ?_
    exact s_iret G rfl rfl dX3_pairs_31
  · unfold f_X3_pairs_L4
    refine s_iload_n G dX3_pairs_4 rfl ?_
    refine s_bipush (v := 12) G dX3_pairs_5 (by decide) ?_
    refine s_icmp_ge (tgt := 28) G dX3_pairs_7 (by decide) ?_ ?_
    · refine s_keep [false, false, true, false] (lv2 := [none, none, some (.int z4.1), none]) rfl ?_
      exact fun hx => hE4 z4.1 hx
    · refine s_iload_n G dX3_pairs_10 rfl ?_
      refine s_aload_n G dX3_pairs_11 rfl ?_
      refine s_iload_n G dX3_pairs_12 rfl ?_
      refine s_iload_n G dX3_pairs_13 rfl ?_
      refine s_callVi (as := [.int z4.2, .int a1]) (st := [.int z4.1]) (k := 19) G aw_self mdX3_nearFacing (fun _ h => c_X3_nearFacing w O l z4.2 a1 M _ h) ⟨by decide, by decide⟩ (ce19 w) clX3 rfl qw388 rfl rfl (Nat.le_of_ble_eq_true rfl) (by decide) dX3_pairs_14 (fun r14 => ?_)
      refine s_callSi (as := [.int r14]) (st := [.int z4.1]) G aw_self mdJ6_bitCount_0f7a4 (fun _ h => c_J6_bitCount_0f7a4 w O l r14 M _ h) qw425 rfl rfl (Nat.le_of_ble_eq_true rfl) (by decide) dX3_pairs_17 (fun r17 => ?_)
      refine s_iadd G dX3_pairs_20 ?_
      refine s_name (f := Value.int) (fun v21 => ?_)
      refine s_istore_n (lv2 := [some (.ref (w.1 19)), some (.int a1), some (.int v21), some (.int z4.2)]) G dX3_pairs_21 (by decide) rfl rfl ?_
      refine s_iinc (v := (z4.2 + 1)) (lv2 := [some (.ref (w.1 19)), some (.int a1), some (.int v21), some (.int (z4.2 + 1))]) G dX3_pairs_22 rfl rfl (by decide) rfl rfl ?_
      refine s_goto (tgt := 4) G dX3_pairs_25 (by decide) ?_
      exact fun hx => hB4 (v21, (z4.2 + 1)) hx

set_option maxRecDepth 100000 in
set_option maxHeartbeats 4000000 in
theorem c_X0_shirts (w : Wx) (O : Mem) (l : Launch)  (M : Mem)  (z : Int32) (hz : f_X0_shirts  M = some z) : Ct w 0 36 O l 0 muX0_shirts [.ref (w.1 1)] M (some (.int z), M) := by
  refine ct_of (X := f_X0_shirts  M) (K := fun v => some (some (.int v), M)) [some (.ref (w.1 1)), none, none] rfl rfl (Nat.le_of_ble_eq_true rfl) (by rw [hz]; rfl) ?_
  intro p e s m args below meth c G
  unfold f_X0_shirts
  refine s_iconst (v := 0) G dX0_shirts_0 (by decide) ?_
  refine s_istore_n (lv2 := [some (.ref (w.1 1)), some (.int 0), none]) G dX0_shirts_1 (by decide) rfl rfl ?_
  refine s_iconst (v := 0) G dX0_shirts_2 (by decide) ?_
  refine s_istore_n (lv2 := [some (.ref (w.1 1)), some (.int 0), some (.int 0)]) G dX0_shirts_3 (by decide) rfl rfl ?_
  refine s_loopG (lvf := fun z4 : Int32 × Int32 => [some (.ref (w.1 1)), some (.int z4.1), some (.int z4.2)]) (Mf := fun z4 : Int32 × Int32 => M) (ex := (fun x4_30 : Int32 => (30, [none, some (.int x4_30), none], M))) (el_one 30 (fun x4_30 : Int32 => [none, some (.int x4_30), none]) (fun x4_30 : Int32 => M) (fun x4_30 => ?_)) (fun z4 K4 hB4 hE4 => ?_)
  · refine s_iload_n G dX0_shirts_30 rfl ?_
    exact s_iret G rfl rfl dX0_shirts_31
  · unfold f_X0_shirts_L4
    refine s_iload_n G dX0_shirts_4 rfl ?_
    refine s_aload_n G dX0_shirts_5 rfl ?_
    refine s_get (k := 1) (j := 0) G (.int (gI M 1 0)) ⟨by decide, by decide⟩ (ce1 w) rfl clX0 (by decide) qw91 rfl dX0_shirts_6 ?_
    refine s_icmp_ge (tgt := 30) G dX0_shirts_9 (by decide) ?_ ?_
    · refine s_keep [false, true, false] (lv2 := [none, some (.int z4.1), none]) rfl ?_
      exact fun hx => hE4 z4.1 hx
    · refine s_aload_n G dX0_shirts_12 rfl ?_
      refine s_get (k := 1) (j := 6) G (.ref (w.1 4)) ⟨by decide, by decide⟩ (ce1 w) rfl clX0 (by decide) qw109 rfl dX0_shirts_13 ?_
      refine s_iload_n G dX0_shirts_16 rfl ?_
      refine s_iald (k := 4) (n := 12) G ⟨by decide, by decide⟩ (ce4 w) dX0_shirts_17 ?_
      refine s_join 24 (fun y18 : Int32 => [some (.ref (w.1 1)), some (.int y18), some (.int z4.2)]) (fun y18 => []) (fun y18 => M) (fun y18 => ?_) (fun K18 hB18 => ?_)
      · refine s_iinc (v := (z4.2 + 1)) (lv2 := [some (.ref (w.1 1)), some (.int y18), some (.int (z4.2 + 1))]) G dX0_shirts_24 rfl rfl (by decide) rfl rfl ?_
        refine s_goto (tgt := 4) G dX0_shirts_27 (by decide) ?_
        exact fun hx => hB4 (y18, (z4.2 + 1)) hx
      · refine s_if_le (tgt := 24) G dX0_shirts_18 (by decide) ?_ ?_
        · exact fun hx => hB18 z4.1 hx
        · refine s_iinc (v := (z4.1 + 1)) (lv2 := [some (.ref (w.1 1)), some (.int (z4.1 + 1)), some (.int z4.2)]) G dX0_shirts_21 rfl rfl (by decide) rfl rfl ?_
          exact fun hx => hB18 (z4.1 + 1) hx

set_option maxRecDepth 100000 in
set_option maxHeartbeats 4000000 in
theorem c_X0_slips (w : Wx) (O : Mem) (l : Launch)  (M : Mem)  (z : Int32) (hz : f_X0_slips  M = some z) : Ct w 0 36 O l 0 muX0_slips [.ref (w.1 1)] M (some (.int z), M) := by
  refine ct_of (X := f_X0_slips  M) (K := fun v => some (some (.int v), M)) [some (.ref (w.1 1)), none, none] rfl rfl (Nat.le_of_ble_eq_true rfl) (by rw [hz]; rfl) ?_
  intro p e s m args below meth c G
  unfold f_X0_slips
  refine s_iconst (v := 0) G dX0_slips_0 (by decide) ?_
  refine s_istore_n (lv2 := [some (.ref (w.1 1)), some (.int 0), none]) G dX0_slips_1 (by decide) rfl rfl ?_
  refine s_iconst (v := 0) G dX0_slips_2 (by decide) ?_
  refine s_istore_n (lv2 := [some (.ref (w.1 1)), some (.int 0), some (.int 0)]) G dX0_slips_3 (by decide) rfl rfl ?_
  refine s_loopG (lvf := fun z4 : Int32 × Int32 => [some (.ref (w.1 1)), some (.int z4.1), some (.int z4.2)]) (Mf := fun z4 : Int32 × Int32 => M) (ex := (fun x4_27 : Int32 => (27, [none, some (.int x4_27), none], M))) (el_one 27 (fun x4_27 : Int32 => [none, some (.int x4_27), none]) (fun x4_27 : Int32 => M) (fun x4_27 => ?_)) (fun z4 K4 hB4 hE4 => ?_)
  · refine s_iload_n G dX0_slips_27 rfl ?_
    exact s_iret G rfl rfl dX0_slips_28
  · unfold f_X0_slips_L4
    refine s_iload_n G dX0_slips_4 rfl ?_
    refine s_aload_n G dX0_slips_5 rfl ?_
    refine s_get (k := 1) (j := 0) G (.int (gI M 1 0)) ⟨by decide, by decide⟩ (ce1 w) rfl clX0 (by decide) qw91 rfl dX0_slips_6 ?_
    refine s_icmp_ge (tgt := 27) G dX0_slips_9 (by decide) ?_ ?_
    · refine s_keep [false, true, false] (lv2 := [none, some (.int z4.1), none]) rfl ?_
      exact fun hx => hE4 z4.1 hx
    · refine s_iload_n G dX0_slips_12 rfl ?_
      refine s_aload_n G dX0_slips_13 rfl ?_
      refine s_get (k := 1) (j := 6) G (.ref (w.1 4)) ⟨by decide, by decide⟩ (ce1 w) rfl clX0 (by decide) qw109 rfl dX0_slips_14 ?_
      refine s_iload_n G dX0_slips_17 rfl ?_
      refine s_iald (k := 4) (n := 12) G ⟨by decide, by decide⟩ (ce4 w) dX0_slips_18 ?_
      refine s_iadd G dX0_slips_19 ?_
      refine s_name (f := Value.int) (fun v20 => ?_)
      refine s_istore_n (lv2 := [some (.ref (w.1 1)), some (.int v20), some (.int z4.2)]) G dX0_slips_20 (by decide) rfl rfl ?_
      refine s_iinc (v := (z4.2 + 1)) (lv2 := [some (.ref (w.1 1)), some (.int v20), some (.int (z4.2 + 1))]) G dX0_slips_21 rfl rfl (by decide) rfl rfl ?_
      refine s_goto (tgt := 4) G dX0_slips_24 (by decide) ?_
      exact fun hx => hB4 (v20, (z4.2 + 1)) hx

set_option maxRecDepth 100000 in
set_option maxHeartbeats 4000000 in
theorem c_X5_now (w : Wx) (O : Mem) (l : Launch) (a1 : Int32) (M : Mem)  (z : Int32 × Mem) (hz : f_X5_now a1 M = some z) : Ct w 0 36 O l 4 muX5_now [.ref (w.1 0), .int a1] M (some (.int z.1), z.2) := by
  refine ct_of (X := f_X5_now a1 M) (K := fun v => some (some (.int v.1), v.2)) [some (.ref (w.1 0)), some (.int a1)] rfl rfl (Nat.le_of_ble_eq_true rfl) (by rw [hz]; rfl) ?_
  intro p e s m args below meth c G
  unfold f_X5_now
  refine s_iload_n G dX5_now_0 rfl ?_
  refine s_tabIn (v := 0) (off := 43) (tgt := 44) G dX5_now_1 (by decide) (by decide) (by decide) (by decide) ?_ (fun h1_0 => ?_)
  · refine s_aload_n G dX5_now_44 rfl ?_
    refine s_get (k := 0) (j := 0) G (.ref (w.1 1)) ⟨by decide, by decide⟩ (ce0 w) rfl clX5 (by decide) qw214 rfl dX5_now_45 ?_
    refine s_get (k := 1) (j := 1) G (.int (gI M 1 1)) ⟨by decide, by decide⟩ (ce1 w) rfl clX0 (by decide) qw95 rfl dX5_now_48 ?_
    exact s_iret G rfl rfl dX5_now_51
  · refine s_tabIn (v := 1) (off := 51) (tgt := 52) G dX5_now_1 (by decide) (by decide) (by decide) (by decide) ?_ (fun h1_1 => ?_)
    · refine s_aload_n G dX5_now_52 rfl ?_
      refine s_get (k := 0) (j := 0) G (.ref (w.1 1)) ⟨by decide, by decide⟩ (ce0 w) rfl clX5 (by decide) qw214 rfl dX5_now_53 ?_
      refine s_callVi (as := []) (st := []) (k := 1) G aw_self mdX0_up (fun _ h => c_X0_up w O l M _ h) ⟨by decide, by decide⟩ (ce1 w) clX0 rfl qw332 rfl rfl (Nat.le_of_ble_eq_true rfl) (by decide) dX5_now_56 (fun r56 => ?_)
      exact s_iret G rfl rfl dX5_now_59
    · refine s_tabIn (v := 2) (off := 59) (tgt := 60) G dX5_now_1 (by decide) (by decide) (by decide) (by decide) ?_ (fun h1_2 => ?_)
      · refine s_aload_n G dX5_now_60 rfl ?_
        refine s_get (k := 0) (j := 3) G (.ref (w.1 19)) ⟨by decide, by decide⟩ (ce0 w) rfl clX5 (by decide) qw217 rfl dX5_now_61 ?_
        refine s_aload_n G dX5_now_64 rfl ?_
        refine s_get (k := 0) (j := 0) G (.ref (w.1 1)) ⟨by decide, by decide⟩ (ce0 w) rfl clX5 (by decide) qw214 rfl dX5_now_65 ?_
        refine s_callVv (as := [.ref (w.1 1)]) (st := []) (k := 19) G aw_self mdX3_look (fun _ h => c_X3_look_1 w O l M _ h) ⟨by decide, by decide⟩ (ce19 w) clX3 rfl qw370 rfl rfl (Nat.le_of_ble_eq_true rfl) (by decide) dX5_now_68 (fun r68 => ?_)
        refine s_aload_n G dX5_now_71 rfl ?_
        refine s_get (k := 0) (j := 3) G (.ref (w.1 19)) ⟨by decide, by decide⟩ (ce0 w) rfl clX5 (by decide) qw217 rfl dX5_now_72 ?_
        refine s_aload_n G dX5_now_75 rfl ?_
        refine s_get (k := 0) (j := 0) G (.ref (w.1 1)) ⟨by decide, by decide⟩ (ce0 w) rfl clX5 (by decide) qw214 rfl dX5_now_76 ?_
        refine s_get (k := 1) (j := 3) G (.int (gI r68 1 3)) ⟨by decide, by decide⟩ (ce1 w) rfl clX0 (by decide) qw102 rfl dX5_now_79 ?_
        refine s_callVi (as := [.int (gI r68 1 3)]) (st := []) (k := 19) G aw_self mdX3_pairs (fun _ h => c_X3_pairs w O l (gI r68 1 3) r68 _ h) ⟨by decide, by decide⟩ (ce19 w) clX3 rfl qw421 rfl rfl (Nat.le_of_ble_eq_true rfl) (by decide) dX5_now_82 (fun r82 => ?_)
        exact s_iret G rfl rfl dX5_now_85
      · refine s_tabIn (v := 3) (off := 85) (tgt := 86) G dX5_now_1 (by decide) (by decide) (by decide) (by decide) ?_ (fun h1_3 => ?_)
        · refine s_aload_n G dX5_now_86 rfl ?_
          refine s_get (k := 0) (j := 0) G (.ref (w.1 1)) ⟨by decide, by decide⟩ (ce0 w) rfl clX5 (by decide) qw214 rfl dX5_now_87 ?_
          refine s_callVi (as := []) (st := []) (k := 1) G aw_self mdX0_shirts (fun _ h => c_X0_shirts w O l M _ h) ⟨by decide, by decide⟩ (ce1 w) clX0 rfl qw426 rfl rfl (Nat.le_of_ble_eq_true rfl) (by decide) dX5_now_90 (fun r90 => ?_)
          exact s_iret G rfl rfl dX5_now_93
        · refine s_tabIn (v := 4) (off := 93) (tgt := 94) G dX5_now_1 (by decide) (by decide) (by decide) (by decide) ?_ (fun h1_4 => ?_)
          · refine s_aload_n G dX5_now_94 rfl ?_
            refine s_get (k := 0) (j := 0) G (.ref (w.1 1)) ⟨by decide, by decide⟩ (ce0 w) rfl clX5 (by decide) qw214 rfl dX5_now_95 ?_
            refine s_callVi (as := []) (st := []) (k := 1) G aw_self mdX0_slips (fun _ h => c_X0_slips w O l M _ h) ⟨by decide, by decide⟩ (ce1 w) clX0 rfl qw430 rfl rfl (Nat.le_of_ble_eq_true rfl) (by decide) dX5_now_98 (fun r98 => ?_)
            exact s_iret G rfl rfl dX5_now_101
          · refine s_tabIn (v := 5) (off := 101) (tgt := 102) G dX5_now_1 (by decide) (by decide) (by decide) (by decide) ?_ (fun h1_5 => ?_)
            · refine s_aload_n G dX5_now_102 rfl ?_
              refine s_get (k := 0) (j := 0) G (.ref (w.1 1)) ⟨by decide, by decide⟩ (ce0 w) rfl clX5 (by decide) qw214 rfl dX5_now_103 ?_
              refine s_get (k := 1) (j := 2) G (.int (gI M 1 2)) ⟨by decide, by decide⟩ (ce1 w) rfl clX0 (by decide) qw98 rfl dX5_now_106 ?_
              exact s_iret G rfl rfl dX5_now_109
            · refine s_tabIn (v := 6) (off := 109) (tgt := 110) G dX5_now_1 (by decide) (by decide) (by decide) (by decide) ?_ (fun h1_6 => ?_)
              · refine s_bipush (v := 24) G dX5_now_110 (by decide) ?_
                refine s_aload_n G dX5_now_112 rfl ?_
                refine s_get (k := 0) (j := 0) G (.ref (w.1 1)) ⟨by decide, by decide⟩ (ce0 w) rfl clX5 (by decide) qw214 rfl dX5_now_113 ?_
                refine s_callVi (as := []) (st := [.int 24]) (k := 1) G aw_self mdX0_up (fun _ h => c_X0_up w O l M _ h) ⟨by decide, by decide⟩ (ce1 w) clX0 rfl qw332 rfl rfl (Nat.le_of_ble_eq_true rfl) (by decide) dX5_now_116 (fun r116 => ?_)
                refine s_callSi (as := [.int r116]) (st := [.int 24]) G aw_self mdJ6_bitCount_0f7a4 (fun _ h => c_J6_bitCount_0f7a4 w O l r116 M _ h) qw337 rfl rfl (Nat.le_of_ble_eq_true rfl) (by decide) dX5_now_119 (fun r119 => ?_)
                refine s_isub G dX5_now_122 ?_
                exact s_iret G rfl rfl dX5_now_123
              · refine s_tabOut (tgt := 124) G dX5_now_1 (by have e0 := lv_neT (a := 0) h1_0 (by decide); have e1 := lv_neT (a := 1) h1_1 (by decide); have e2 := lv_neT (a := 2) h1_2 (by decide); have e3 := lv_neT (a := 3) h1_3 (by decide); have e4 := lv_neT (a := 4) h1_4 (by decide); have e5 := lv_neT (a := 5) h1_5 (by decide); have e6 := lv_neT (a := 6) h1_6 (by decide); omega) (by decide) ?_
                refine s_aload_n G dX5_now_124 rfl ?_
                refine s_ldc (v := (-1000000001)) G dX5_now_125 qw249 ?_
                refine s_callVI (as := [.int (-1000000001)]) (st := []) (k := 0) G aw_self mdX5_told (fun _ h => c_X5_told w O l (-1000000001) M _ h) ⟨by decide, by decide⟩ (ce0 w) clX5 rfl qw250 rfl rfl (Nat.le_of_ble_eq_true rfl) (by decide) dX5_now_127 (fun r127 => ?_)
                exact s_iret G rfl rfl dX5_now_130

set_option maxRecDepth 100000 in
set_option maxHeartbeats 4000000 in
theorem c_X0_tangledWith (w : Wx) (O : Mem) (l : Launch) (a1 : Int32) (a2 : Int32) (a3 : Int32) (M : Mem)  (z : Int32) (hz : f_X0_tangledWith a1 a2 a3 M = some z) : Ct w 0 36 O l 2 muX0_tangledWith [.ref (w.1 1), .int a1, .int a2, .int a3] M (some (.int z), M) := by
  refine ct_of (X := f_X0_tangledWith a1 a2 a3 M) (K := fun v => some (some (.int v), M)) [some (.ref (w.1 1)), some (.int a1), some (.int a2), some (.int a3), none, none, none] rfl rfl (Nat.le_of_ble_eq_true rfl) (by rw [hz]; rfl) ?_
  intro p e s m args below meth c G
  unfold f_X0_tangledWith
  refine s_iload_n G dX0_tangledWith_0 rfl ?_
  refine s_aload_n G dX0_tangledWith_1 rfl ?_
  refine s_get (k := 1) (j := 3) G (.int (gI M 1 3)) ⟨by decide, by decide⟩ (ce1 w) rfl clX0 (by decide) qw99 rfl dX0_tangledWith_2 ?_
  refine s_callSi (as := [.int a1, .int (gI M 1 3)]) (st := []) G aw_self mdX0_alike (fun _ h => c_X0_alike w O l a1 (gI M 1 3) M _ h) qw442 rfl rfl (Nat.le_of_ble_eq_true rfl) (by decide) dX0_tangledWith_5 (fun r5 => ?_)
  refine s_istore (lv2 := [some (.ref (w.1 1)), some (.int a1), some (.int a2), some (.int a3), some (.int r5), none, none]) G dX0_tangledWith_8 (by decide) rfl rfl ?_
  refine s_aload_n G dX0_tangledWith_10 rfl ?_
  refine s_iload_n G dX0_tangledWith_11 rfl ?_
  refine s_iload_n G dX0_tangledWith_12 rfl ?_
  refine s_iload_n G dX0_tangledWith_13 rfl ?_
  refine s_iconst (v := 1) G dX0_tangledWith_14 (by decide) ?_
  refine s_callVi (as := [.int a1, .int a2, .int a3, .int 1]) (st := []) (k := 1) G aw_self mdX0_tangledIf (fun _ h => c_X0_tangledIf w O l a1 a2 a3 1 M _ h) ⟨by decide, by decide⟩ (ce1 w) clX0 rfl qw443 rfl rfl (Nat.le_of_ble_eq_true rfl) (by decide) dX0_tangledWith_15 (fun r15 => ?_)
  refine s_iload G dX0_tangledWith_18 rfl ?_
  refine s_iand G dX0_tangledWith_20 ?_
  refine s_name (f := Value.int) (fun v21 => ?_)
  refine s_istore (lv2 := [some (.ref (w.1 1)), some (.int a1), some (.int a2), some (.int a3), some (.int r5), some (.int v21), none]) G dX0_tangledWith_21 (by decide) rfl rfl ?_
  refine s_aload_n G dX0_tangledWith_23 rfl ?_
  refine s_iload_n G dX0_tangledWith_24 rfl ?_
  refine s_iload_n G dX0_tangledWith_25 rfl ?_
  refine s_iload_n G dX0_tangledWith_26 rfl ?_
  refine s_iconst (v := 0) G dX0_tangledWith_27 (by decide) ?_
  refine s_callVi (as := [.int a1, .int a2, .int a3, .int 0]) (st := []) (k := 1) G aw_self mdX0_tangledIf (fun _ h => c_X0_tangledIf w O l a1 a2 a3 0 M _ h) ⟨by decide, by decide⟩ (ce1 w) clX0 rfl qw443 rfl rfl (Nat.le_of_ble_eq_true rfl) (by decide) dX0_tangledWith_28 (fun r28 => ?_)
  refine s_iload G dX0_tangledWith_31 rfl ?_
  refine s_iconst (v := (-1)) G dX0_tangledWith_33 (by decide) ?_
  refine s_ixor G dX0_tangledWith_34 ?_
  refine s_iand G dX0_tangledWith_35 ?_
  refine s_name (f := Value.int) (fun v36 => ?_)
  refine s_istore (lv2 := [some (.ref (w.1 1)), some (.int a1), some (.int a2), some (.int a3), some (.int r5), some (.int v21), some (.int v36)]) G dX0_tangledWith_36 (by decide) rfl rfl ?_
  refine s_iload G dX0_tangledWith_38 rfl ?_
  refine s_iload G dX0_tangledWith_40 rfl ?_
  refine s_ior G dX0_tangledWith_42 ?_
  exact s_iret G rfl rfl dX0_tangledWith_43

set_option maxRecDepth 100000 in
set_option maxHeartbeats 4000000 in
theorem c_X5_tangled (w : Wx) (O : Mem) (l : Launch) (a1 : Int32) (M : Mem)  (z : Int32 × Mem) (hz : f_X5_tangled a1 M = some z) : Ct w 0 36 O l 3 muX5_tangled [.ref (w.1 0), .int a1] M (some (.int z.1), z.2) := by
  refine ct_of (X := f_X5_tangled a1 M) (K := fun v => some (some (.int v.1), v.2)) [some (.ref (w.1 0)), some (.int a1)] rfl rfl (Nat.le_of_ble_eq_true rfl) (by rw [hz]; rfl) ?_
  intro p e s m args below meth c G
  unfold f_X5_tangled
  refine s_aload_n G dX5_tangled_0 rfl ?_
  refine s_get (k := 0) (j := 0) G (.ref (w.1 1)) ⟨by decide, by decide⟩ (ce0 w) rfl clX5 (by decide) qw214 rfl dX5_tangled_1 ?_
  refine s_iload_n G dX5_tangled_4 rfl ?_
  refine s_callVi (as := [.int a1]) (st := []) (k := 1) G aw_self mdX0_has (fun _ h => c_X0_has w O l a1 M _ h) ⟨by decide, by decide⟩ (ce1 w) clX0 rfl qw263 rfl rfl (Nat.le_of_ble_eq_true rfl) (by decide) dX5_tangled_5 (fun r5 => ?_)
  refine s_if_ne (tgt := 18) G dX5_tangled_8 (by decide) ?_ ?_
  · refine s_aload_n G dX5_tangled_11 rfl ?_
    refine s_ldc (v := (-1000000001)) G dX5_tangled_12 qw249 ?_
    refine s_callVI (as := [.int (-1000000001)]) (st := []) (k := 0) G aw_self mdX5_told (fun _ h => c_X5_told w O l (-1000000001) M _ h) ⟨by decide, by decide⟩ (ce0 w) clX5 rfl qw250 rfl rfl (Nat.le_of_ble_eq_true rfl) (by decide) dX5_tangled_14 (fun r14 => ?_)
    exact s_iret G rfl rfl dX5_tangled_17
  · refine s_aload_n G dX5_tangled_18 rfl ?_
    refine s_get (k := 0) (j := 0) G (.ref (w.1 1)) ⟨by decide, by decide⟩ (ce0 w) rfl clX5 (by decide) qw214 rfl dX5_tangled_19 ?_
    refine s_iload_n G dX5_tangled_22 rfl ?_
    refine s_callVi (as := [.int a1]) (st := []) (k := 1) G aw_self mdX0_isUp (fun _ h => c_X0_isUp w O l a1 M _ h) ⟨by decide, by decide⟩ (ce1 w) clX0 rfl qw316 rfl rfl (Nat.le_of_ble_eq_true rfl) (by decide) dX5_tangled_23 (fun r23 => ?_)
    refine s_if_ne (tgt := 31) G dX5_tangled_26 (by decide) ?_ ?_
    · refine s_iconst (v := 0) G dX5_tangled_29 (by decide) ?_
      exact s_iret G rfl rfl dX5_tangled_30
    · refine s_aload_n G dX5_tangled_31 rfl ?_
      refine s_get (k := 0) (j := 0) G (.ref (w.1 1)) ⟨by decide, by decide⟩ (ce0 w) rfl clX5 (by decide) qw214 rfl dX5_tangled_32 ?_
      refine s_iload_n G dX5_tangled_35 rfl ?_
      refine s_aload_n G dX5_tangled_36 rfl ?_
      refine s_get (k := 0) (j := 0) G (.ref (w.1 1)) ⟨by decide, by decide⟩ (ce0 w) rfl clX5 (by decide) qw214 rfl dX5_tangled_37 ?_
      refine s_get (k := 1) (j := 4) G (.ref (w.1 2)) ⟨by decide, by decide⟩ (ce1 w) rfl clX0 (by decide) qw105 rfl dX5_tangled_40 ?_
      refine s_iload_n G dX5_tangled_43 rfl ?_
      refine s_iald (k := 2) (n := 12) G ⟨by decide, by decide⟩ (ce2 w) dX5_tangled_44 ?_
      refine s_aload_n G dX5_tangled_45 rfl ?_
      refine s_get (k := 0) (j := 0) G (.ref (w.1 1)) ⟨by decide, by decide⟩ (ce0 w) rfl clX5 (by decide) qw214 rfl dX5_tangled_46 ?_
      refine s_get (k := 1) (j := 5) G (.ref (w.1 3)) ⟨by decide, by decide⟩ (ce1 w) rfl clX0 (by decide) qw108 rfl dX5_tangled_49 ?_
      refine s_iload_n G dX5_tangled_52 rfl ?_
      refine s_iald (k := 3) (n := 12) G ⟨by decide, by decide⟩ (ce3 w) dX5_tangled_53 ?_
      refine s_callVi (as := [.int a1, .int (gI M 2 a1.toNatClampNeg), .int (gI M 3 a1.toNatClampNeg)]) (st := []) (k := 1) G aw_self mdX0_tangledWith (fun _ h => c_X0_tangledWith w O l a1 (gI M 2 a1.toNatClampNeg) (gI M 3 a1.toNatClampNeg) M _ h) ⟨by decide, by decide⟩ (ce1 w) clX0 rfl qw438 rfl rfl (Nat.le_of_ble_eq_true rfl) (by decide) dX5_tangled_54 (fun r54 => ?_)
      exact s_iret G rfl rfl dX5_tangled_57

set_option maxRecDepth 100000 in
set_option maxHeartbeats 4000000 in
theorem c_X5_catches (w : Wx) (O : Mem) (l : Launch) (a1 : Int32) (a2 : Int32) (M : Mem)  (z : Int32 × Mem) (hz : f_X5_catches a1 a2 M = some z) : Ct w 0 36 O l 1 muX5_catches [.ref (w.1 0), .int a1, .int a2] M (some (.int z.1), z.2) := by
  refine ct_of (X := f_X5_catches a1 a2 M) (K := fun v => some (some (.int v.1), v.2)) [some (.ref (w.1 0)), some (.int a1), some (.int a2), none, none, none] rfl rfl (Nat.le_of_ble_eq_true rfl) (by rw [hz]; rfl) ?_
  intro p e s m args below meth c G
  unfold f_X5_catches
  refine s_aload_n G dX5_catches_0 rfl ?_
  refine s_get (k := 0) (j := 0) G (.ref (w.1 1)) ⟨by decide, by decide⟩ (ce0 w) rfl clX5 (by decide) qw214 rfl dX5_catches_1 ?_
  refine s_iload_n G dX5_catches_4 rfl ?_
  refine s_callVi (as := [.int a1]) (st := []) (k := 1) G aw_self mdX0_has (fun _ h => c_X0_has w O l a1 M _ h) ⟨by decide, by decide⟩ (ce1 w) clX0 rfl qw263 rfl rfl (Nat.le_of_ble_eq_true rfl) (by decide) dX5_catches_5 (fun r5 => ?_)
  refine s_if_eq (tgt := 27) G dX5_catches_8 (by decide) ?_ ?_
  · refine s_aload_n G dX5_catches_27 rfl ?_
    refine s_ldc (v := (-1000000001)) G dX5_catches_28 qw249 ?_
    refine s_callVI (as := [.int (-1000000001)]) (st := []) (k := 0) G aw_self mdX5_told (fun _ h => c_X5_told w O l (-1000000001) M _ h) ⟨by decide, by decide⟩ (ce0 w) clX5 rfl qw250 rfl rfl (Nat.le_of_ble_eq_true rfl) (by decide) dX5_catches_30 (fun r30 => ?_)
    exact s_iret G rfl rfl dX5_catches_33
  · refine s_aload_n G dX5_catches_11 rfl ?_
    refine s_get (k := 0) (j := 0) G (.ref (w.1 1)) ⟨by decide, by decide⟩ (ce0 w) rfl clX5 (by decide) qw214 rfl dX5_catches_12 ?_
    refine s_iload_n G dX5_catches_15 rfl ?_
    refine s_callVi (as := [.int a2]) (st := []) (k := 1) G aw_self mdX0_has (fun _ h => c_X0_has w O l a2 M _ h) ⟨by decide, by decide⟩ (ce1 w) clX0 rfl qw263 rfl rfl (Nat.le_of_ble_eq_true rfl) (by decide) dX5_catches_16 (fun r16 => ?_)
    refine s_if_eq (tgt := 27) G dX5_catches_19 (by decide) ?_ ?_
    · refine s_aload_n G dX5_catches_27 rfl ?_
      refine s_ldc (v := (-1000000001)) G dX5_catches_28 qw249 ?_
      refine s_callVI (as := [.int (-1000000001)]) (st := []) (k := 0) G aw_self mdX5_told (fun _ h => c_X5_told w O l (-1000000001) M _ h) ⟨by decide, by decide⟩ (ce0 w) clX5 rfl qw250 rfl rfl (Nat.le_of_ble_eq_true rfl) (by decide) dX5_catches_30 (fun r30 => ?_)
      exact s_iret G rfl rfl dX5_catches_33
    · refine s_iload_n G dX5_catches_22 rfl ?_
      refine s_iload_n G dX5_catches_23 rfl ?_
      refine s_icmp_ne (tgt := 34) G dX5_catches_24 (by decide) ?_ ?_
      · refine s_aload_n G dX5_catches_27 rfl ?_
        refine s_ldc (v := (-1000000001)) G dX5_catches_28 qw249 ?_
        refine s_callVI (as := [.int (-1000000001)]) (st := []) (k := 0) G aw_self mdX5_told (fun _ h => c_X5_told w O l (-1000000001) M _ h) ⟨by decide, by decide⟩ (ce0 w) clX5 rfl qw250 rfl rfl (Nat.le_of_ble_eq_true rfl) (by decide) dX5_catches_30 (fun r30 => ?_)
        exact s_iret G rfl rfl dX5_catches_33
      · refine s_aload_n G dX5_catches_34 rfl ?_
        refine s_get (k := 0) (j := 0) G (.ref (w.1 1)) ⟨by decide, by decide⟩ (ce0 w) rfl clX5 (by decide) qw214 rfl dX5_catches_35 ?_
        refine s_iload_n G dX5_catches_38 rfl ?_
        refine s_callVi (as := [.int a1]) (st := []) (k := 1) G aw_self mdX0_isUp (fun _ h => c_X0_isUp w O l a1 M _ h) ⟨by decide, by decide⟩ (ce1 w) clX0 rfl qw316 rfl rfl (Nat.le_of_ble_eq_true rfl) (by decide) dX5_catches_39 (fun r39 => ?_)
        refine s_if_eq (tgt := 56) G dX5_catches_42 (by decide) ?_ ?_
        · refine s_iconst (v := 0) G dX5_catches_56 (by decide) ?_
          exact s_iret G rfl rfl dX5_catches_57
        · refine s_aload_n G dX5_catches_45 rfl ?_
          refine s_get (k := 0) (j := 0) G (.ref (w.1 1)) ⟨by decide, by decide⟩ (ce0 w) rfl clX5 (by decide) qw214 rfl dX5_catches_46 ?_
          refine s_iload_n G dX5_catches_49 rfl ?_
          refine s_callVi (as := [.int a2]) (st := []) (k := 1) G aw_self mdX0_isUp (fun _ h => c_X0_isUp w O l a2 M _ h) ⟨by decide, by decide⟩ (ce1 w) clX0 rfl qw316 rfl rfl (Nat.le_of_ble_eq_true rfl) (by decide) dX5_catches_50 (fun r50 => ?_)
          refine s_if_ne (tgt := 58) G dX5_catches_53 (by decide) ?_ ?_
          · refine s_iconst (v := 0) G dX5_catches_56 (by decide) ?_
            exact s_iret G rfl rfl dX5_catches_57
          · refine s_aload_n G dX5_catches_58 rfl ?_
            refine s_get (k := 0) (j := 0) G (.ref (w.1 1)) ⟨by decide, by decide⟩ (ce0 w) rfl clX5 (by decide) qw214 rfl dX5_catches_59 ?_
            refine s_get (k := 1) (j := 5) G (.ref (w.1 3)) ⟨by decide, by decide⟩ (ce1 w) rfl clX0 (by decide) qw108 rfl dX5_catches_62 ?_
            refine s_iload_n G dX5_catches_65 rfl ?_
            refine s_iald (k := 3) (n := 12) G ⟨by decide, by decide⟩ (ce3 w) dX5_catches_66 ?_
            refine s_aload_n G dX5_catches_67 rfl ?_
            refine s_get (k := 0) (j := 0) G (.ref (w.1 1)) ⟨by decide, by decide⟩ (ce0 w) rfl clX5 (by decide) qw214 rfl dX5_catches_68 ?_
            refine s_get (k := 1) (j := 5) G (.ref (w.1 3)) ⟨by decide, by decide⟩ (ce1 w) rfl clX0 (by decide) qw108 rfl dX5_catches_71 ?_
            refine s_iload_n G dX5_catches_74 rfl ?_
            refine s_iald (k := 3) (n := 12) G ⟨by decide, by decide⟩ (ce3 w) dX5_catches_75 ?_
            refine s_isub G dX5_catches_76 ?_
            refine s_mabs (st := []) G qw448 qw383 qw70 qMath_abs (by decide) (Nat.le_of_ble_eq_true rfl) dX5_catches_77 ?_
            refine s_name (f := Value.int) (fun v80 => ?_)
            refine s_istore_n (lv2 := [some (.ref (w.1 0)), some (.int a1), some (.int a2), some (.int v80), none, none]) G dX5_catches_80 (by decide) rfl rfl ?_
            refine s_aload_n G dX5_catches_81 rfl ?_
            refine s_get (k := 0) (j := 0) G (.ref (w.1 1)) ⟨by decide, by decide⟩ (ce0 w) rfl clX5 (by decide) qw214 rfl dX5_catches_82 ?_
            refine s_iload_n G dX5_catches_85 rfl ?_
            refine s_callVi (as := [.int a1]) (st := []) (k := 1) G aw_self mdX0_facingOf (fun _ h => c_X0_facingOf w O l a1 M _ h) ⟨by decide, by decide⟩ (ce1 w) clX0 rfl qw267 rfl rfl (Nat.le_of_ble_eq_true rfl) (by decide) dX5_catches_86 (fun r86 => ?_)
            refine s_aload_n G dX5_catches_89 rfl ?_
            refine s_get (k := 0) (j := 0) G (.ref (w.1 1)) ⟨by decide, by decide⟩ (ce0 w) rfl clX5 (by decide) qw214 rfl dX5_catches_90 ?_
            refine s_iload_n G dX5_catches_93 rfl ?_
            refine s_callVi (as := [.int a2]) (st := [.int r86]) (k := 1) G aw_self mdX0_facingOf (fun _ h => c_X0_facingOf w O l a2 M _ h) ⟨by decide, by decide⟩ (ce1 w) clX0 rfl qw267 rfl rfl (Nat.le_of_ble_eq_true rfl) (by decide) dX5_catches_94 (fun r94 => ?_)
            refine s_join 105 (fun y97 : Int32 => [some (.ref (w.1 0)), some (.int a1), none, some (.int v80), none, none]) (fun y97 => [.int y97]) (fun y97 => M) (fun y97 => ?_) (fun K97 hB97 => ?_)
            · refine s_istore (lv2 := [some (.ref (w.1 0)), some (.int a1), none, some (.int v80), some (.int y97), none]) G dX5_catches_105 (by decide) rfl rfl ?_
              refine s_aload_n G dX5_catches_107 rfl ?_
              refine s_get (k := 0) (j := 0) G (.ref (w.1 1)) ⟨by decide, by decide⟩ (ce0 w) rfl clX5 (by decide) qw214 rfl dX5_catches_108 ?_
              refine s_get (k := 1) (j := 6) G (.ref (w.1 4)) ⟨by decide, by decide⟩ (ce1 w) rfl clX0 (by decide) qw110 rfl dX5_catches_111 ?_
              refine s_iload_n G dX5_catches_114 rfl ?_
              refine s_iald (k := 4) (n := 12) G ⟨by decide, by decide⟩ (ce4 w) dX5_catches_115 ?_
              refine s_join 124 (fun y116 : Int32 => [some (.ref (w.1 0)), some (.int a1), none, some (.int v80), some (.int y97), none]) (fun y116 => [.int y116]) (fun y116 => M) (fun y116 => ?_) (fun K116 hB116 => ?_)
              · refine s_istore (lv2 := [some (.ref (w.1 0)), some (.int a1), none, some (.int v80), some (.int y97), some (.int y116)]) G dX5_catches_124 (by decide) rfl rfl ?_
                refine s_aload_n G dX5_catches_126 rfl ?_
                refine s_get (k := 0) (j := 0) G (.ref (w.1 1)) ⟨by decide, by decide⟩ (ce0 w) rfl clX5 (by decide) qw214 rfl dX5_catches_127 ?_
                refine s_get (k := 1) (j := 4) G (.ref (w.1 2)) ⟨by decide, by decide⟩ (ce1 w) rfl clX0 (by decide) qw105 rfl dX5_catches_130 ?_
                refine s_iload_n G dX5_catches_133 rfl ?_
                refine s_iald (k := 2) (n := 12) G ⟨by decide, by decide⟩ (ce2 w) dX5_catches_134 ?_
                refine s_iload_n G dX5_catches_135 rfl ?_
                refine s_iload G dX5_catches_136 rfl ?_
                refine s_iload G dX5_catches_138 rfl ?_
                refine s_callSi (as := [.int (gI M 2 a1.toNatClampNeg), .int v80, .int y97, .int y116]) (st := []) G aw_self mdX5_isCatch (fun _ h => c_X5_isCatch w O l (gI M 2 a1.toNatClampNeg) v80 y97 y116 M _ h) qw449 rfl rfl (Nat.le_of_ble_eq_true rfl) (by decide) dX5_catches_140 (fun r140 => ?_)
                refine s_join 151 (fun y143 : Int32 => [none, none, none, none, none, none]) (fun y143 => [.int y143]) (fun y143 => M) (fun y143 => ?_) (fun K143 hB143 => ?_)
                · exact s_iret G rfl rfl dX5_catches_151
                · refine s_if_eq (tgt := 150) G dX5_catches_143 (by decide) ?_ ?_
                  · refine s_iconst (v := 0) G dX5_catches_150 (by decide) ?_
                    refine s_keep [false, false, false, false, false, false] (lv2 := [none, none, none, none, none, none]) rfl ?_
                    exact fun hx => hB143 0 hx
                  · refine s_iconst (v := 1) G dX5_catches_146 (by decide) ?_
                    refine s_goto (tgt := 151) G dX5_catches_147 (by decide) ?_
                    refine s_keep [false, false, false, false, false, false] (lv2 := [none, none, none, none, none, none]) rfl ?_
                    exact fun hx => hB143 1 hx
              · refine s_if_le (tgt := 123) G dX5_catches_116 (by decide) ?_ ?_
                · refine s_iconst (v := 0) G dX5_catches_123 (by decide) ?_
                  exact fun hx => hB116 0 hx
                · refine s_iconst (v := 1) G dX5_catches_119 (by decide) ?_
                  refine s_goto (tgt := 124) G dX5_catches_120 (by decide) ?_
                  exact fun hx => hB116 1 hx
            · refine s_icmp_ne (tgt := 104) G dX5_catches_97 (by decide) ?_ ?_
              · refine s_iconst (v := 1) G dX5_catches_100 (by decide) ?_
                refine s_goto (tgt := 105) G dX5_catches_101 (by decide) ?_
                refine s_keep [true, true, false, true, false, false] (lv2 := [some (.ref (w.1 0)), some (.int a1), none, some (.int v80), none, none]) rfl ?_
                exact fun hx => hB97 1 hx
              · refine s_iconst (v := 0) G dX5_catches_104 (by decide) ?_
                refine s_keep [true, true, false, true, false, false] (lv2 := [some (.ref (w.1 0)), some (.int a1), none, some (.int v80), none, none]) rfl ?_
                exact fun hx => hB97 0 hx

set_option maxRecDepth 100000 in
set_option maxHeartbeats 4000000 in
theorem c_X5_comes (w : Wx) (O : Mem) (l : Launch) (a1 : Int32) (a2 : Int32) (M : Mem)  (z : Int32 × Mem) (hz : f_X5_comes a1 a2 M = some z) : Ct w 0 36 O l 4 muX5_comes [.ref (w.1 0), .int a1, .int a2] M (some (.int z.1), z.2) := by
  refine ct_of (X := f_X5_comes a1 a2 M) (K := fun v => some (some (.int v.1), v.2)) [some (.ref (w.1 0)), some (.int a1), some (.int a2), none] rfl rfl (Nat.le_of_ble_eq_true rfl) (by rw [hz]; rfl) ?_
  intro p e s m args below meth c G
  unfold f_X5_comes
  refine s_aload_n G dX5_comes_0 rfl ?_
  refine s_iload_n G dX5_comes_1 rfl ?_
  refine s_iload_n G dX5_comes_2 rfl ?_
  refine s_callVi (as := [.int a1, .int a2]) (st := []) (k := 0) G aw_self mdX5_findingAgainstTaking (fun _ h => c_X5_findingAgainstTaking w O l a1 a2 M _ h) ⟨by decide, by decide⟩ (ce0 w) clX5 rfl qw360 rfl rfl (Nat.le_of_ble_eq_true rfl) (by decide) dX5_comes_3 (fun r3 => ?_)
  refine s_istore_n (lv2 := [some (.ref (w.1 0)), some (.int a1), some (.int a2), some (.int r3)]) G dX5_comes_6 (by decide) rfl rfl ?_
  refine s_iload_n G dX5_comes_7 rfl ?_
  refine s_if_eq (tgt := 17) G dX5_comes_8 (by decide) ?_ ?_
  · refine s_aload_n G dX5_comes_17 rfl ?_
    refine s_get (k := 0) (j := 3) G (.ref (w.1 19)) ⟨by decide, by decide⟩ (ce0 w) rfl clX5 (by decide) qw217 rfl dX5_comes_18 ?_
    refine s_aload_n G dX5_comes_21 rfl ?_
    refine s_get (k := 0) (j := 0) G (.ref (w.1 1)) ⟨by decide, by decide⟩ (ce0 w) rfl clX5 (by decide) qw214 rfl dX5_comes_22 ?_
    refine s_callVv (as := [.ref (w.1 1)]) (st := []) (k := 19) G aw_self mdX3_look (fun _ h => c_X3_look_1 w O l M _ h) ⟨by decide, by decide⟩ (ce19 w) clX3 rfl qw370 rfl rfl (Nat.le_of_ble_eq_true rfl) (by decide) dX5_comes_25 (fun r25 => ?_)
    refine s_aload_n G dX5_comes_28 rfl ?_
    refine s_get (k := 0) (j := 3) G (.ref (w.1 19)) ⟨by decide, by decide⟩ (ce0 w) rfl clX5 (by decide) qw217 rfl dX5_comes_29 ?_
    refine s_iload_n G dX5_comes_32 rfl ?_
    refine s_iload_n G dX5_comes_33 rfl ?_
    refine s_callVi (as := [.int a1, .int a2]) (st := []) (k := 19) G aw_self mdX3_coming (fun _ h => c_X3_coming w O l a1 a2 r25 _ h) ⟨by decide, by decide⟩ (ce19 w) clX3 rfl qw398 rfl rfl (Nat.le_of_ble_eq_true rfl) (by decide) dX5_comes_34 (fun r34 => ?_)
    exact s_iret G rfl rfl dX5_comes_37
  · refine s_aload_n G dX5_comes_11 rfl ?_
    refine s_iload_n G dX5_comes_12 rfl ?_
    refine s_callVI (as := [.int r3]) (st := []) (k := 0) G aw_self mdX5_told (fun _ h => c_X5_told w O l r3 M _ h) ⟨by decide, by decide⟩ (ce0 w) clX5 rfl qw250 rfl rfl (Nat.le_of_ble_eq_true rfl) (by decide) dX5_comes_13 (fun r13 => ?_)
    exact s_iret G rfl rfl dX5_comes_16

set_option maxRecDepth 100000 in
set_option maxHeartbeats 4000000 in
theorem c_X5_howManyFall (w : Wx) (O : Mem) (l : Launch) (a1 : Int32) (a2 : Int32) (M : Mem)  (z : Int32) (hz : f_X5_howManyFall a1 a2 M = some z) : Ct w 0 36 O l 3 muX5_howManyFall [.ref (w.1 0), .int a1, .int a2] M (some (.int z), M) := by
  refine ct_of (X := f_X5_howManyFall a1 a2 M) (K := fun v => some (some (.int v), M)) [some (.ref (w.1 0)), some (.int a1), some (.int a2), none] rfl rfl (Nat.le_of_ble_eq_true rfl) (by rw [hz]; rfl) ?_
  intro p e s m args below meth c G
  unfold f_X5_howManyFall
  refine s_aload_n G dX5_howManyFall_0 rfl ?_
  refine s_get (k := 0) (j := 3) G (.ref (w.1 19)) ⟨by decide, by decide⟩ (ce0 w) rfl clX5 (by decide) qw217 rfl dX5_howManyFall_1 ?_
  refine s_iload_n G dX5_howManyFall_4 rfl ?_
  refine s_iload_n G dX5_howManyFall_5 rfl ?_
  refine s_callVi (as := [.int a1, .int a2]) (st := []) (k := 19) G aw_self mdX3_coming (fun _ h => c_X3_coming w O l a1 a2 M _ h) ⟨by decide, by decide⟩ (ce19 w) clX3 rfl qw398 rfl rfl (Nat.le_of_ble_eq_true rfl) (by decide) dX5_howManyFall_6 (fun r6 => ?_)
  refine s_istore_n (lv2 := [some (.ref (w.1 0)), some (.int a1), some (.int a2), some (.int r6)]) G dX5_howManyFall_9 (by decide) rfl rfl ?_
  refine s_aload_n G dX5_howManyFall_10 rfl ?_
  refine s_get (k := 0) (j := 0) G (.ref (w.1 1)) ⟨by decide, by decide⟩ (ce0 w) rfl clX5 (by decide) qw214 rfl dX5_howManyFall_11 ?_
  refine s_iload_n G dX5_howManyFall_14 rfl ?_
  refine s_iload_n G dX5_howManyFall_15 rfl ?_
  refine s_iload_n G dX5_howManyFall_16 rfl ?_
  refine s_callVi (as := [.int r6, .int a1, .int a2]) (st := []) (k := 1) G aw_self mdX0_falling (fun _ h => c_X0_falling w O l r6 a1 a2 M _ h) ⟨by decide, by decide⟩ (ce1 w) clX0 rfl qw407 rfl rfl (Nat.le_of_ble_eq_true rfl) (by decide) dX5_howManyFall_17 (fun r17 => ?_)
  refine s_callSi (as := [.int r17]) (st := []) G aw_self mdJ6_bitCount_0f7a4 (fun _ h => c_J6_bitCount_0f7a4 w O l r17 M _ h) qw337 rfl rfl (Nat.le_of_ble_eq_true rfl) (by decide) dX5_howManyFall_20 (fun r20 => ?_)
  exact s_iret G rfl rfl dX5_howManyFall_23

set_option maxRecDepth 100000 in
set_option maxHeartbeats 4000000 in
theorem c_X5_falls (w : Wx) (O : Mem) (l : Launch) (a1 : Int32) (a2 : Int32) (M : Mem)  (z : Int32 × Mem) (hz : f_X5_falls a1 a2 M = some z) : Ct w 0 36 O l 4 muX5_falls [.ref (w.1 0), .int a1, .int a2] M (some (.int z.1), z.2) := by
  refine ct_of (X := f_X5_falls a1 a2 M) (K := fun v => some (some (.int v.1), v.2)) [some (.ref (w.1 0)), some (.int a1), some (.int a2), none] rfl rfl (Nat.le_of_ble_eq_true rfl) (by rw [hz]; rfl) ?_
  intro p e s m args below meth c G
  unfold f_X5_falls
  refine s_aload_n G dX5_falls_0 rfl ?_
  refine s_iload_n G dX5_falls_1 rfl ?_
  refine s_iload_n G dX5_falls_2 rfl ?_
  refine s_callVi (as := [.int a1, .int a2]) (st := []) (k := 0) G aw_self mdX5_findingAgainstTaking (fun _ h => c_X5_findingAgainstTaking w O l a1 a2 M _ h) ⟨by decide, by decide⟩ (ce0 w) clX5 rfl qw360 rfl rfl (Nat.le_of_ble_eq_true rfl) (by decide) dX5_falls_3 (fun r3 => ?_)
  refine s_istore_n (lv2 := [some (.ref (w.1 0)), some (.int a1), some (.int a2), some (.int r3)]) G dX5_falls_6 (by decide) rfl rfl ?_
  refine s_iload_n G dX5_falls_7 rfl ?_
  refine s_if_eq (tgt := 17) G dX5_falls_8 (by decide) ?_ ?_
  · refine s_aload_n G dX5_falls_17 rfl ?_
    refine s_get (k := 0) (j := 3) G (.ref (w.1 19)) ⟨by decide, by decide⟩ (ce0 w) rfl clX5 (by decide) qw217 rfl dX5_falls_18 ?_
    refine s_aload_n G dX5_falls_21 rfl ?_
    refine s_get (k := 0) (j := 0) G (.ref (w.1 1)) ⟨by decide, by decide⟩ (ce0 w) rfl clX5 (by decide) qw214 rfl dX5_falls_22 ?_
    refine s_callVv (as := [.ref (w.1 1)]) (st := []) (k := 19) G aw_self mdX3_look (fun _ h => c_X3_look_1 w O l M _ h) ⟨by decide, by decide⟩ (ce19 w) clX3 rfl qw370 rfl rfl (Nat.le_of_ble_eq_true rfl) (by decide) dX5_falls_25 (fun r25 => ?_)
    refine s_aload_n G dX5_falls_28 rfl ?_
    refine s_iload_n G dX5_falls_29 rfl ?_
    refine s_iload_n G dX5_falls_30 rfl ?_
    refine s_callVi (as := [.int a1, .int a2]) (st := []) (k := 0) G aw_self mdX5_howManyFall (fun _ h => c_X5_howManyFall w O l a1 a2 r25 _ h) ⟨by decide, by decide⟩ (ce0 w) clX5 rfl qw458 rfl rfl (Nat.le_of_ble_eq_true rfl) (by decide) dX5_falls_31 (fun r31 => ?_)
    exact s_iret G rfl rfl dX5_falls_34
  · refine s_aload_n G dX5_falls_11 rfl ?_
    refine s_iload_n G dX5_falls_12 rfl ?_
    refine s_callVI (as := [.int r3]) (st := []) (k := 0) G aw_self mdX5_told (fun _ h => c_X5_told w O l r3 M _ h) ⟨by decide, by decide⟩ (ce0 w) clX5 rfl qw250 rfl rfl (Nat.le_of_ble_eq_true rfl) (by decide) dX5_falls_13 (fun r13 => ?_)
    exact s_iret G rfl rfl dX5_falls_16

set_option maxRecDepth 100000 in
set_option maxHeartbeats 4000000 in
theorem c_X5_heaps (w : Wx) (O : Mem) (l : Launch)  (M : Mem)  (z : Int32 × Mem) (hz : f_X5_heaps  M = some z) : Ct w 0 36 O l 4 muX5_heaps [.ref (w.1 0)] M (some (.int z.1), z.2) := by
  refine ct_of (X := f_X5_heaps  M) (K := fun v => some (some (.int v.1), v.2)) [some (.ref (w.1 0)), none, none, none] rfl rfl (Nat.le_of_ble_eq_true rfl) (by rw [hz]; rfl) ?_
  intro p e s m args below meth c G
  unfold f_X5_heaps
  refine s_aload_n G dX5_heaps_0 rfl ?_
  refine s_get (k := 0) (j := 3) G (.ref (w.1 19)) ⟨by decide, by decide⟩ (ce0 w) rfl clX5 (by decide) qw217 rfl dX5_heaps_1 ?_
  refine s_aload_n G dX5_heaps_4 rfl ?_
  refine s_get (k := 0) (j := 0) G (.ref (w.1 1)) ⟨by decide, by decide⟩ (ce0 w) rfl clX5 (by decide) qw214 rfl dX5_heaps_5 ?_
  refine s_callVv (as := [.ref (w.1 1)]) (st := []) (k := 19) G aw_self mdX3_look (fun _ h => c_X3_look_1 w O l M _ h) ⟨by decide, by decide⟩ (ce19 w) clX3 rfl qw370 rfl rfl (Nat.le_of_ble_eq_true rfl) (by decide) dX5_heaps_8 (fun r8 => ?_)
  refine s_aload_n G dX5_heaps_11 rfl ?_
  refine s_get (k := 0) (j := 0) G (.ref (w.1 1)) ⟨by decide, by decide⟩ (ce0 w) rfl clX5 (by decide) qw214 rfl dX5_heaps_12 ?_
  refine s_callVi (as := []) (st := []) (k := 1) G aw_self mdX0_up (fun _ h => c_X0_up w O l r8 _ h) ⟨by decide, by decide⟩ (ce1 w) clX0 rfl qw332 rfl rfl (Nat.le_of_ble_eq_true rfl) (by decide) dX5_heaps_15 (fun r15 => ?_)
  refine s_istore_n (lv2 := [some (.ref (w.1 0)), some (.int r15), none, none]) G dX5_heaps_18 (by decide) rfl rfl ?_
  refine s_iconst (v := 0) G dX5_heaps_19 (by decide) ?_
  refine s_istore_n (lv2 := [some (.ref (w.1 0)), some (.int r15), some (.int 0), none]) G dX5_heaps_20 (by decide) rfl rfl ?_
  refine s_iconst (v := 0) G dX5_heaps_21 (by decide) ?_
  refine s_istore_n (lv2 := [some (.ref (w.1 0)), some (.int r15), some (.int 0), some (.int 0)]) G dX5_heaps_22 (by decide) rfl rfl ?_
  refine s_loopG (lvf := fun z23 : Int32 × Int32 × Int32 => [some (.ref (w.1 0)), some (.int z23.1), some (.int z23.2.1), some (.int z23.2.2)]) (Mf := fun z23 : Int32 × Int32 × Int32 => r8) (ex := (fun x23_59 : Int32 => (59, [none, none, some (.int x23_59), none], r8))) (el_one 59 (fun x23_59 : Int32 => [none, none, some (.int x23_59), none]) (fun x23_59 : Int32 => r8) (fun x23_59 => ?_)) (fun z23 K23 hB23 hE23 => ?_)
  · refine s_iload_n G dX5_heaps_59 rfl ?_
    exact s_iret G rfl rfl dX5_heaps_60
  · unfold f_X5_heaps_L23
    refine s_iload_n G dX5_heaps_23 rfl ?_
    refine s_bipush (v := 12) G dX5_heaps_24 (by decide) ?_
    refine s_icmp_ge (tgt := 59) G dX5_heaps_26 (by decide) ?_ ?_
    · refine s_keep [false, false, true, false] (lv2 := [none, none, some (.int z23.2.1), none]) rfl ?_
      exact fun hx => hE23 z23.2.1 hx
    · refine s_iload_n G dX5_heaps_29 rfl ?_
      refine s_iload_n G dX5_heaps_30 rfl ?_
      refine s_callSi (as := [.int z23.1, .int z23.2.2]) (st := []) G aw_self mdX5_contains (fun _ h => c_X5_contains w O l z23.1 z23.2.2 r8 _ h) qw416 rfl rfl (Nat.le_of_ble_eq_true rfl) (by decide) dX5_heaps_31 (fun r31 => ?_)
      refine s_join 53 (fun y34 : Int32 × Int32 => [some (.ref (w.1 0)), some (.int y34.1), some (.int y34.2), some (.int z23.2.2)]) (fun y34 => []) (fun y34 => r8) (fun y34 => ?_) (fun K34 hB34 => ?_)
      · refine s_iinc (v := (z23.2.2 + 1)) (lv2 := [some (.ref (w.1 0)), some (.int y34.1), some (.int y34.2), some (.int (z23.2.2 + 1))]) G dX5_heaps_53 rfl rfl (by decide) rfl rfl ?_
        refine s_goto (tgt := 23) G dX5_heaps_56 (by decide) ?_
        exact fun hx => hB23 (y34.1, y34.2, (z23.2.2 + 1)) hx
      · refine s_if_eq (tgt := 53) G dX5_heaps_34 (by decide) ?_ ?_
        · exact fun hx => hB34 (z23.1, z23.2.1) hx
        · refine s_iload_n G dX5_heaps_37 rfl ?_
          refine s_aload_n G dX5_heaps_38 rfl ?_
          refine s_get (k := 0) (j := 3) G (.ref (w.1 19)) ⟨by decide, by decide⟩ (ce0 w) rfl clX5 (by decide) qw217 rfl dX5_heaps_39 ?_
          refine s_iload_n G dX5_heaps_42 rfl ?_
          refine s_callVi (as := [.int z23.2.2]) (st := [.int z23.1]) (k := 19) G aw_self mdX3_heapOf (fun _ h => c_X3_heapOf w O l z23.2.2 r8 _ h) ⟨by decide, by decide⟩ (ce19 w) clX3 rfl qw466 rfl rfl (Nat.le_of_ble_eq_true rfl) (by decide) dX5_heaps_43 (fun r43 => ?_)
          refine s_iconst (v := (-1)) G dX5_heaps_46 (by decide) ?_
          refine s_ixor G dX5_heaps_47 ?_
          refine s_iand G dX5_heaps_48 ?_
          refine s_name (f := Value.int) (fun v49 => ?_)
          refine s_istore_n (lv2 := [some (.ref (w.1 0)), some (.int v49), some (.int z23.2.1), some (.int z23.2.2)]) G dX5_heaps_49 (by decide) rfl rfl ?_
          refine s_iinc (v := (z23.2.1 + 1)) (lv2 := [some (.ref (w.1 0)), some (.int v49), some (.int (z23.2.1 + 1)), some (.int z23.2.2)]) G dX5_heaps_50 rfl rfl (by decide) rfl rfl ?_
          exact fun hx => hB34 (v49, (z23.2.1 + 1)) hx

set_option maxRecDepth 100000 in
set_option maxHeartbeats 4000000 in
theorem c_X5_greatest (w : Wx) (O : Mem) (l : Launch)  (M : Mem)  (z : Int32 × Mem) (hz : f_X5_greatest  M = some z) : Ct w 0 36 O l 4 muX5_greatest [.ref (w.1 0)] M (some (.int z.1), z.2) := by
  refine ct_of (X := f_X5_greatest  M) (K := fun v => some (some (.int v.1), v.2)) [some (.ref (w.1 0)), none, none, none] rfl rfl (Nat.le_of_ble_eq_true rfl) (by rw [hz]; rfl) ?_
  intro p e s m args below meth c G
  unfold f_X5_greatest
  refine s_aload_n G dX5_greatest_0 rfl ?_
  refine s_get (k := 0) (j := 0) G (.ref (w.1 1)) ⟨by decide, by decide⟩ (ce0 w) rfl clX5 (by decide) qw214 rfl dX5_greatest_1 ?_
  refine s_callVi (as := []) (st := []) (k := 1) G aw_self mdX0_up (fun _ h => c_X0_up w O l M _ h) ⟨by decide, by decide⟩ (ce1 w) clX0 rfl qw332 rfl rfl (Nat.le_of_ble_eq_true rfl) (by decide) dX5_greatest_4 (fun r4 => ?_)
  refine s_istore_n (lv2 := [some (.ref (w.1 0)), some (.int r4), none, none]) G dX5_greatest_7 (by decide) rfl rfl ?_
  refine s_iload_n G dX5_greatest_8 rfl ?_
  refine s_if_ne (tgt := 19) G dX5_greatest_9 (by decide) ?_ ?_
  · refine s_aload_n G dX5_greatest_12 rfl ?_
    refine s_ldc (v := (-1000000004)) G dX5_greatest_13 qw311 ?_
    refine s_callVI (as := [.int (-1000000004)]) (st := []) (k := 0) G aw_self mdX5_told (fun _ h => c_X5_told w O l (-1000000004) M _ h) ⟨by decide, by decide⟩ (ce0 w) clX5 rfl qw250 rfl rfl (Nat.le_of_ble_eq_true rfl) (by decide) dX5_greatest_15 (fun r15 => ?_)
    exact s_iret G rfl rfl dX5_greatest_18
  · refine s_aload_n G dX5_greatest_19 rfl ?_
    refine s_get (k := 0) (j := 3) G (.ref (w.1 19)) ⟨by decide, by decide⟩ (ce0 w) rfl clX5 (by decide) qw217 rfl dX5_greatest_20 ?_
    refine s_aload_n G dX5_greatest_23 rfl ?_
    refine s_get (k := 0) (j := 0) G (.ref (w.1 1)) ⟨by decide, by decide⟩ (ce0 w) rfl clX5 (by decide) qw214 rfl dX5_greatest_24 ?_
    refine s_callVv (as := [.ref (w.1 1)]) (st := []) (k := 19) G aw_self mdX3_look (fun _ h => c_X3_look_1 w O l M _ h) ⟨by decide, by decide⟩ (ce19 w) clX3 rfl qw370 rfl rfl (Nat.le_of_ble_eq_true rfl) (by decide) dX5_greatest_27 (fun r27 => ?_)
    refine s_iconst (v := 0) G dX5_greatest_30 (by decide) ?_
    refine s_istore_n (lv2 := [some (.ref (w.1 0)), some (.int r4), some (.int 0), none]) G dX5_greatest_31 (by decide) rfl rfl ?_
    refine s_iconst (v := 0) G dX5_greatest_32 (by decide) ?_
    refine s_istore_n (lv2 := [some (.ref (w.1 0)), some (.int r4), some (.int 0), some (.int 0)]) G dX5_greatest_33 (by decide) rfl rfl ?_
    refine s_loopG (lvf := fun z34 : Int32 × Int32 => [some (.ref (w.1 0)), some (.int r4), some (.int z34.1), some (.int z34.2)]) (Mf := fun z34 : Int32 × Int32 => r27) (ex := (fun x34_70 : Int32 => (70, [none, none, some (.int x34_70), none], r27))) (el_one 70 (fun x34_70 : Int32 => [none, none, some (.int x34_70), none]) (fun x34_70 : Int32 => r27) (fun x34_70 => ?_)) (fun z34 K34 hB34 hE34 => ?_)
    · refine s_iload_n G dX5_greatest_70 rfl ?_
      exact s_iret G rfl rfl dX5_greatest_71
    · unfold f_X5_greatest_L34
      refine s_iload_n G dX5_greatest_34 rfl ?_
      refine s_bipush (v := 12) G dX5_greatest_35 (by decide) ?_
      refine s_icmp_ge (tgt := 70) G dX5_greatest_37 (by decide) ?_ ?_
      · refine s_keep [false, false, true, false] (lv2 := [none, none, some (.int z34.1), none]) rfl ?_
        exact fun hx => hE34 z34.1 hx
      · refine s_iload_n G dX5_greatest_40 rfl ?_
        refine s_iload_n G dX5_greatest_41 rfl ?_
        refine s_callSi (as := [.int r4, .int z34.2]) (st := []) G aw_self mdX5_contains (fun _ h => c_X5_contains w O l r4 z34.2 r27 _ h) qw416 rfl rfl (Nat.le_of_ble_eq_true rfl) (by decide) dX5_greatest_42 (fun r42 => ?_)
        refine s_join 64 (fun y45 : Int32 => [some (.ref (w.1 0)), some (.int r4), some (.int y45), some (.int z34.2)]) (fun y45 => []) (fun y45 => r27) (fun y45 => ?_) (fun K45 hB45 => ?_)
        · refine s_iinc (v := (z34.2 + 1)) (lv2 := [some (.ref (w.1 0)), some (.int r4), some (.int y45), some (.int (z34.2 + 1))]) G dX5_greatest_64 rfl rfl (by decide) rfl rfl ?_
          refine s_goto (tgt := 34) G dX5_greatest_67 (by decide) ?_
          exact fun hx => hB34 (y45, (z34.2 + 1)) hx
        · refine s_if_eq (tgt := 64) G dX5_greatest_45 (by decide) ?_ ?_
          · exact fun hx => hB45 z34.1 hx
          · refine s_iload_n G dX5_greatest_48 rfl ?_
            refine s_aload_n G dX5_greatest_49 rfl ?_
            refine s_get (k := 0) (j := 3) G (.ref (w.1 19)) ⟨by decide, by decide⟩ (ce0 w) rfl clX5 (by decide) qw217 rfl dX5_greatest_50 ?_
            refine s_iload_n G dX5_greatest_53 rfl ?_
            refine s_callVi (as := [.int z34.2]) (st := [.int z34.1]) (k := 19) G aw_self mdX3_heapOf (fun _ h => c_X3_heapOf w O l z34.2 r27 _ h) ⟨by decide, by decide⟩ (ce19 w) clX3 rfl qw466 rfl rfl (Nat.le_of_ble_eq_true rfl) (by decide) dX5_greatest_54 (fun r54 => ?_)
            refine s_callSi (as := [.int r54]) (st := [.int z34.1]) G aw_self mdJ6_bitCount_0f7a4 (fun _ h => c_J6_bitCount_0f7a4 w O l r54 r27 _ h) qw337 rfl rfl (Nat.le_of_ble_eq_true rfl) (by decide) dX5_greatest_57 (fun r57 => ?_)
            refine s_mmax (st := []) G qw471 qw380 qw70 qMath_max (by decide) (Nat.le_of_ble_eq_true rfl) dX5_greatest_60 ?_
            refine s_name (f := Value.int) (fun v63 => ?_)
            refine s_istore_n (lv2 := [some (.ref (w.1 0)), some (.int r4), some (.int v63), some (.int z34.2)]) G dX5_greatest_63 (by decide) rfl rfl ?_
            exact fun hx => hB45 v63 hx

set_option maxRecDepth 100000 in
set_option maxHeartbeats 4000000 in
theorem c_X5_harm (w : Wx) (O : Mem) (l : Launch) (a1 : Int32) (a2 : Int32) (M : Mem)  (z : Int32) (hz : f_X5_harm a1 a2 M = some z) : Ct w 0 36 O l 4 muX5_harm [.ref (w.1 0), .int a1, .int a2] M (some (.int z), M) := by
  refine ct_of (X := f_X5_harm a1 a2 M) (K := fun v => some (some (.int v), M)) [some (.ref (w.1 0)), some (.int a1), some (.int a2), none] rfl rfl (Nat.le_of_ble_eq_true rfl) (by rw [hz]; rfl) ?_
  intro p e s m args below meth c G
  unfold f_X5_harm
  refine s_aload_n G dX5_harm_0 rfl ?_
  refine s_get (k := 0) (j := 3) G (.ref (w.1 19)) ⟨by decide, by decide⟩ (ce0 w) rfl clX5 (by decide) qw217 rfl dX5_harm_1 ?_
  refine s_iload_n G dX5_harm_4 rfl ?_
  refine s_iload_n G dX5_harm_5 rfl ?_
  refine s_callVi (as := [.int a1, .int a2]) (st := []) (k := 19) G aw_self mdX3_coming (fun _ h => c_X3_coming w O l a1 a2 M _ h) ⟨by decide, by decide⟩ (ce19 w) clX3 rfl qw398 rfl rfl (Nat.le_of_ble_eq_true rfl) (by decide) dX5_harm_6 (fun r6 => ?_)
  refine s_istore_n (lv2 := [some (.ref (w.1 0)), some (.int a1), some (.int a2), some (.int r6)]) G dX5_harm_9 (by decide) rfl rfl ?_
  refine s_aload_n G dX5_harm_10 rfl ?_
  refine s_iload_n G dX5_harm_11 rfl ?_
  refine s_iload_n G dX5_harm_12 rfl ?_
  refine s_callVi (as := [.int a1, .int a2]) (st := []) (k := 0) G aw_self mdX5_howManyFall (fun _ h => c_X5_howManyFall w O l a1 a2 M _ h) ⟨by decide, by decide⟩ (ce0 w) clX5 rfl qw458 rfl rfl (Nat.le_of_ble_eq_true rfl) (by decide) dX5_harm_13 (fun r13 => ?_)
  refine s_bipush (v := 13) G dX5_harm_16 (by decide) ?_
  refine s_imul G dX5_harm_18 ?_
  refine s_iload_n G dX5_harm_19 rfl ?_
  refine s_callSi (as := [.int r6]) (st := [.int (r13 * 13)]) G aw_self mdJ6_bitCount_0f7a4 (fun _ h => c_J6_bitCount_0f7a4 w O l r6 M _ h) qw337 rfl rfl (Nat.le_of_ble_eq_true rfl) (by decide) dX5_harm_20 (fun r20 => ?_)
  refine s_iadd G dX5_harm_23 ?_
  exact s_iret G rfl rfl dX5_harm_24

set_option maxRecDepth 100000 in
set_option maxHeartbeats 4000000 in
theorem c_X5_manner (w : Wx) (O : Mem) (l : Launch) (a1 : Int32) (M : Mem)  (z : Int32 × Mem) (hz : f_X5_manner a1 M = some z) : Ct w 0 36 O l 5 muX5_manner [.ref (w.1 0), .int a1] M (some (.int z.1), z.2) := by
  refine ct_of (X := f_X5_manner a1 M) (K := fun v => some (some (.int v.1), v.2)) [some (.ref (w.1 0)), some (.int a1), none, none, none, none, none] rfl rfl (Nat.le_of_ble_eq_true rfl) (by rw [hz]; rfl) ?_
  intro p e s m args below meth c G
  unfold f_X5_manner
  refine s_aload_n G dX5_manner_0 rfl ?_
  refine s_get (k := 0) (j := 0) G (.ref (w.1 1)) ⟨by decide, by decide⟩ (ce0 w) rfl clX5 (by decide) qw214 rfl dX5_manner_1 ?_
  refine s_iload_n G dX5_manner_4 rfl ?_
  refine s_callVi (as := [.int a1]) (st := []) (k := 1) G aw_self mdX0_has (fun _ h => c_X0_has w O l a1 M _ h) ⟨by decide, by decide⟩ (ce1 w) clX0 rfl qw263 rfl rfl (Nat.le_of_ble_eq_true rfl) (by decide) dX5_manner_5 (fun r5 => ?_)
  refine s_if_ne (tgt := 18) G dX5_manner_8 (by decide) ?_ ?_
  · refine s_aload_n G dX5_manner_11 rfl ?_
    refine s_ldc (v := (-1000000001)) G dX5_manner_12 qw249 ?_
    refine s_callVI (as := [.int (-1000000001)]) (st := []) (k := 0) G aw_self mdX5_told (fun _ h => c_X5_told w O l (-1000000001) M _ h) ⟨by decide, by decide⟩ (ce0 w) clX5 rfl qw250 rfl rfl (Nat.le_of_ble_eq_true rfl) (by decide) dX5_manner_14 (fun r14 => ?_)
    exact s_iret G rfl rfl dX5_manner_17
  · refine s_aload_n G dX5_manner_18 rfl ?_
    refine s_get (k := 0) (j := 0) G (.ref (w.1 1)) ⟨by decide, by decide⟩ (ce0 w) rfl clX5 (by decide) qw214 rfl dX5_manner_19 ?_
    refine s_iload_n G dX5_manner_22 rfl ?_
    refine s_callVi (as := [.int a1]) (st := []) (k := 1) G aw_self mdX0_isUp (fun _ h => c_X0_isUp w O l a1 M _ h) ⟨by decide, by decide⟩ (ce1 w) clX0 rfl qw316 rfl rfl (Nat.le_of_ble_eq_true rfl) (by decide) dX5_manner_23 (fun r23 => ?_)
    refine s_if_ne (tgt := 36) G dX5_manner_26 (by decide) ?_ ?_
    · refine s_aload_n G dX5_manner_29 rfl ?_
      refine s_ldc (v := (-1000000005)) G dX5_manner_30 qw320 ?_
      refine s_callVI (as := [.int (-1000000005)]) (st := []) (k := 0) G aw_self mdX5_told (fun _ h => c_X5_told w O l (-1000000005) M _ h) ⟨by decide, by decide⟩ (ce0 w) clX5 rfl qw250 rfl rfl (Nat.le_of_ble_eq_true rfl) (by decide) dX5_manner_32 (fun r32 => ?_)
      exact s_iret G rfl rfl dX5_manner_35
    · refine s_aload_n G dX5_manner_36 rfl ?_
      refine s_get (k := 0) (j := 3) G (.ref (w.1 19)) ⟨by decide, by decide⟩ (ce0 w) rfl clX5 (by decide) qw217 rfl dX5_manner_37 ?_
      refine s_aload_n G dX5_manner_40 rfl ?_
      refine s_get (k := 0) (j := 0) G (.ref (w.1 1)) ⟨by decide, by decide⟩ (ce0 w) rfl clX5 (by decide) qw214 rfl dX5_manner_41 ?_
      refine s_callVv (as := [.ref (w.1 1)]) (st := []) (k := 19) G aw_self mdX3_look (fun _ h => c_X3_look_1 w O l M _ h) ⟨by decide, by decide⟩ (ce19 w) clX3 rfl qw370 rfl rfl (Nat.le_of_ble_eq_true rfl) (by decide) dX5_manner_44 (fun r44 => ?_)
      refine s_iconst (v := 0) G dX5_manner_47 (by decide) ?_
      refine s_istore_n (lv2 := [some (.ref (w.1 0)), some (.int a1), some (.int 0), none, none, none, none]) G dX5_manner_48 (by decide) rfl rfl ?_
      refine s_aload_n G dX5_manner_49 rfl ?_
      refine s_iload_n G dX5_manner_50 rfl ?_
      refine s_iconst (v := 0) G dX5_manner_51 (by decide) ?_
      refine s_callVi (as := [.int a1, .int 0]) (st := []) (k := 0) G aw_self mdX5_harm (fun _ h => c_X5_harm w O l a1 0 r44 _ h) ⟨by decide, by decide⟩ (ce0 w) clX5 rfl qw476 rfl rfl (Nat.le_of_ble_eq_true rfl) (by decide) dX5_manner_52 (fun r52 => ?_)
      refine s_istore_n (lv2 := [some (.ref (w.1 0)), some (.int a1), some (.int 0), some (.int r52), none, none, none]) G dX5_manner_55 (by decide) rfl rfl ?_
      refine s_iconst (v := 1) G dX5_manner_56 (by decide) ?_
      refine s_istore (lv2 := [some (.ref (w.1 0)), some (.int a1), some (.int 0), some (.int r52), some (.int 1), none, none]) G dX5_manner_57 (by decide) rfl rfl ?_
      refine s_loopG (lvf := fun z59 : Int32 × Int32 × Int32 => [some (.ref (w.1 0)), some (.int a1), some (.int z59.1), some (.int z59.2.1), some (.int z59.2.2), none, none]) (Mf := fun z59 : Int32 × Int32 × Int32 => r44) (ex := (fun x59_121 : Int32 => (121, [none, none, some (.int x59_121), none, none, none, none], r44))) (el_one 121 (fun x59_121 : Int32 => [none, none, some (.int x59_121), none, none, none, none]) (fun x59_121 : Int32 => r44) (fun x59_121 => ?_)) (fun z59 K59 hB59 hE59 => ?_)
      · refine s_iload_n G dX5_manner_121 rfl ?_
        exact s_iret G rfl rfl dX5_manner_122
      · unfold f_X5_manner_L59
        refine s_iload G dX5_manner_59 rfl ?_
        refine s_iconst (v := 2) G dX5_manner_61 (by decide) ?_
        refine s_icmp_gt (tgt := 121) G dX5_manner_62 (by decide) ?_ ?_
        · refine s_keep [false, false, true, false, false, false, false] (lv2 := [none, none, some (.int z59.1), none, none, none, none]) rfl ?_
          exact fun hx => hE59 z59.1 hx
        · refine s_iload G dX5_manner_65 rfl ?_
          refine s_iconst (v := 2) G dX5_manner_67 (by decide) ?_
          refine s_join 87 (fun y68 : Int32 => [some (.ref (w.1 0)), some (.int a1), some (.int z59.1), some (.int z59.2.1), some (.int z59.2.2), none, none]) (fun y68 => [.int y68]) (fun y68 => r44) (fun y68 => ?_) (fun K68 hB68 => ?_)
          · refine s_istore (lv2 := [some (.ref (w.1 0)), some (.int a1), some (.int z59.1), some (.int z59.2.1), some (.int z59.2.2), some (.int y68), none]) G dX5_manner_87 (by decide) rfl rfl ?_
            refine s_aload_n G dX5_manner_89 rfl ?_
            refine s_iload_n G dX5_manner_90 rfl ?_
            refine s_iload G dX5_manner_91 rfl ?_
            refine s_callVi (as := [.int a1, .int z59.2.2]) (st := []) (k := 0) G aw_self mdX5_harm (fun _ h => c_X5_harm w O l a1 z59.2.2 r44 _ h) ⟨by decide, by decide⟩ (ce0 w) clX5 rfl qw476 rfl rfl (Nat.le_of_ble_eq_true rfl) (by decide) dX5_manner_93 (fun r93 => ?_)
            refine s_istore (lv2 := [some (.ref (w.1 0)), some (.int a1), some (.int z59.1), some (.int z59.2.1), some (.int z59.2.2), some (.int y68), some (.int r93)]) G dX5_manner_96 (by decide) rfl rfl ?_
            refine s_iload G dX5_manner_98 rfl ?_
            refine s_join 115 (fun y100 : Int32 × Int32 => [some (.ref (w.1 0)), some (.int a1), some (.int y100.1), some (.int y100.2), some (.int z59.2.2), none, none]) (fun y100 => []) (fun y100 => r44) (fun y100 => ?_) (fun K100 hB100 => ?_)
            · refine s_iinc (v := (z59.2.2 + 1)) (lv2 := [some (.ref (w.1 0)), some (.int a1), some (.int y100.1), some (.int y100.2), some (.int (z59.2.2 + 1)), none, none]) G dX5_manner_115 rfl rfl (by decide) rfl rfl ?_
              refine s_goto (tgt := 59) G dX5_manner_118 (by decide) ?_
              exact fun hx => hB59 (y100.1, y100.2, (z59.2.2 + 1)) hx
            · refine s_if_eq (tgt := 115) G dX5_manner_100 (by decide) ?_ ?_
              · refine s_keep [true, true, true, true, true, false, false] (lv2 := [some (.ref (w.1 0)), some (.int a1), some (.int z59.1), some (.int z59.2.1), some (.int z59.2.2), none, none]) rfl ?_
                exact fun hx => hB100 (z59.1, z59.2.1) hx
              · refine s_iload G dX5_manner_103 rfl ?_
                refine s_iload_n G dX5_manner_105 rfl ?_
                refine s_icmp_ge (tgt := 115) G dX5_manner_106 (by decide) ?_ ?_
                · refine s_keep [true, true, true, true, true, false, false] (lv2 := [some (.ref (w.1 0)), some (.int a1), some (.int z59.1), some (.int z59.2.1), some (.int z59.2.2), none, none]) rfl ?_
                  exact fun hx => hB100 (z59.1, z59.2.1) hx
                · refine s_iload G dX5_manner_109 rfl ?_
                  refine s_istore_n (lv2 := [some (.ref (w.1 0)), some (.int a1), some (.int z59.2.2), some (.int z59.2.1), some (.int z59.2.2), some (.int y68), some (.int r93)]) G dX5_manner_111 (by decide) rfl rfl ?_
                  refine s_iload G dX5_manner_112 rfl ?_
                  refine s_istore_n (lv2 := [some (.ref (w.1 0)), some (.int a1), some (.int z59.2.2), some (.int r93), some (.int z59.2.2), some (.int y68), some (.int r93)]) G dX5_manner_114 (by decide) rfl rfl ?_
                  refine s_keep [true, true, true, true, true, false, false] (lv2 := [some (.ref (w.1 0)), some (.int a1), some (.int z59.2.2), some (.int r93), some (.int z59.2.2), none, none]) rfl ?_
                  exact fun hx => hB100 (z59.2.2, r93) hx
          · refine s_icmp_ne (tgt := 82) G dX5_manner_68 (by decide) ?_ ?_
            · refine s_aload_n G dX5_manner_71 rfl ?_
              refine s_get (k := 0) (j := 0) G (.ref (w.1 1)) ⟨by decide, by decide⟩ (ce0 w) rfl clX5 (by decide) qw214 rfl dX5_manner_72 ?_
              refine s_iload_n G dX5_manner_75 rfl ?_
              refine s_callVi (as := [.int a1]) (st := []) (k := 1) G aw_self mdX0_hasRoom (fun _ h => c_X0_hasRoom w O l a1 r44 _ h) ⟨by decide, by decide⟩ (ce1 w) clX0 rfl qw364 rfl rfl (Nat.le_of_ble_eq_true rfl) (by decide) dX5_manner_76 (fun r76 => ?_)
              refine s_if_eq (tgt := 86) G dX5_manner_79 (by decide) ?_ ?_
              · refine s_iconst (v := 0) G dX5_manner_86 (by decide) ?_
                exact fun hx => hB68 0 hx
              · refine s_iconst (v := 1) G dX5_manner_82 (by decide) ?_
                refine s_goto (tgt := 87) G dX5_manner_83 (by decide) ?_
                exact fun hx => hB68 1 hx
            · refine s_iconst (v := 1) G dX5_manner_82 (by decide) ?_
              refine s_goto (tgt := 87) G dX5_manner_83 (by decide) ?_
              exact fun hx => hB68 1 hx

set_option maxRecDepth 100000 in
set_option maxHeartbeats 4000000 in
theorem c_X5_first (w : Wx) (O : Mem) (l : Launch)  (M : Mem)  (z : Int32 × Mem) (hz : f_X5_first  M = some z) : Ct w 0 36 O l 4 muX5_first [.ref (w.1 0)] M (some (.int z.1), z.2) := by
  refine ct_of (X := f_X5_first  M) (K := fun v => some (some (.int v.1), v.2)) [some (.ref (w.1 0)), none, none, none, none, none] rfl rfl (Nat.le_of_ble_eq_true rfl) (by rw [hz]; rfl) ?_
  intro p e s m args below meth c G
  unfold f_X5_first
  refine s_aload_n G dX5_first_0 rfl ?_
  refine s_get (k := 0) (j := 0) G (.ref (w.1 1)) ⟨by decide, by decide⟩ (ce0 w) rfl clX5 (by decide) qw214 rfl dX5_first_1 ?_
  refine s_callVi (as := []) (st := []) (k := 1) G aw_self mdX0_up (fun _ h => c_X0_up w O l M _ h) ⟨by decide, by decide⟩ (ce1 w) clX0 rfl qw332 rfl rfl (Nat.le_of_ble_eq_true rfl) (by decide) dX5_first_4 (fun r4 => ?_)
  refine s_istore_n (lv2 := [some (.ref (w.1 0)), some (.int r4), none, none, none, none]) G dX5_first_7 (by decide) rfl rfl ?_
  refine s_iload_n G dX5_first_8 rfl ?_
  refine s_if_ne (tgt := 19) G dX5_first_9 (by decide) ?_ ?_
  · refine s_aload_n G dX5_first_12 rfl ?_
    refine s_ldc (v := (-1000000004)) G dX5_first_13 qw311 ?_
    refine s_callVI (as := [.int (-1000000004)]) (st := []) (k := 0) G aw_self mdX5_told (fun _ h => c_X5_told w O l (-1000000004) M _ h) ⟨by decide, by decide⟩ (ce0 w) clX5 rfl qw250 rfl rfl (Nat.le_of_ble_eq_true rfl) (by decide) dX5_first_15 (fun r15 => ?_)
    exact s_iret G rfl rfl dX5_first_18
  · refine s_aload_n G dX5_first_19 rfl ?_
    refine s_get (k := 0) (j := 3) G (.ref (w.1 19)) ⟨by decide, by decide⟩ (ce0 w) rfl clX5 (by decide) qw217 rfl dX5_first_20 ?_
    refine s_aload_n G dX5_first_23 rfl ?_
    refine s_get (k := 0) (j := 0) G (.ref (w.1 1)) ⟨by decide, by decide⟩ (ce0 w) rfl clX5 (by decide) qw214 rfl dX5_first_24 ?_
    refine s_callVv (as := [.ref (w.1 1)]) (st := []) (k := 19) G aw_self mdX3_look (fun _ h => c_X3_look_1 w O l M _ h) ⟨by decide, by decide⟩ (ce19 w) clX3 rfl qw370 rfl rfl (Nat.le_of_ble_eq_true rfl) (by decide) dX5_first_27 (fun r27 => ?_)
    refine s_iconst (v := 0) G dX5_first_30 (by decide) ?_
    refine s_istore_n (lv2 := [some (.ref (w.1 0)), some (.int r4), some (.int 0), none, none, none]) G dX5_first_31 (by decide) rfl rfl ?_
    refine s_bipush (v := 13) G dX5_first_32 (by decide) ?_
    refine s_istore_n (lv2 := [some (.ref (w.1 0)), some (.int r4), some (.int 0), some (.int 13), none, none]) G dX5_first_34 (by decide) rfl rfl ?_
    refine s_iconst (v := 0) G dX5_first_35 (by decide) ?_
    refine s_istore (lv2 := [some (.ref (w.1 0)), some (.int r4), some (.int 0), some (.int 13), some (.int 0), none]) G dX5_first_36 (by decide) rfl rfl ?_
    refine s_loopG (lvf := fun z38 : Int32 × Int32 × Int32 => [some (.ref (w.1 0)), some (.int r4), some (.int z38.1), some (.int z38.2.1), some (.int z38.2.2), none]) (Mf := fun z38 : Int32 × Int32 × Int32 => r27) (ex := (fun x38_81 : Int32 => (81, [none, none, some (.int x38_81), none, none, none], r27))) (el_one 81 (fun x38_81 : Int32 => [none, none, some (.int x38_81), none, none, none]) (fun x38_81 : Int32 => r27) (fun x38_81 => ?_)) (fun z38 K38 hB38 hE38 => ?_)
    · refine s_iload_n G dX5_first_81 rfl ?_
      exact s_iret G rfl rfl dX5_first_82
    · unfold f_X5_first_L38
      refine s_iload G dX5_first_38 rfl ?_
      refine s_bipush (v := 12) G dX5_first_40 (by decide) ?_
      refine s_icmp_ge (tgt := 81) G dX5_first_42 (by decide) ?_ ?_
      · refine s_keep [false, false, true, false, false, false] (lv2 := [none, none, some (.int z38.1), none, none, none]) rfl ?_
        exact fun hx => hE38 z38.1 hx
      · refine s_aload_n G dX5_first_45 rfl ?_
        refine s_iload G dX5_first_46 rfl ?_
        refine s_iconst (v := 0) G dX5_first_48 (by decide) ?_
        refine s_callVi (as := [.int z38.2.2, .int 0]) (st := []) (k := 0) G aw_self mdX5_howManyFall (fun _ h => c_X5_howManyFall w O l z38.2.2 0 r27 _ h) ⟨by decide, by decide⟩ (ce0 w) clX5 rfl qw458 rfl rfl (Nat.le_of_ble_eq_true rfl) (by decide) dX5_first_49 (fun r49 => ?_)
        refine s_istore (lv2 := [some (.ref (w.1 0)), some (.int r4), some (.int z38.1), some (.int z38.2.1), some (.int z38.2.2), some (.int r49)]) G dX5_first_52 (by decide) rfl rfl ?_
        refine s_iload_n G dX5_first_54 rfl ?_
        refine s_iload G dX5_first_55 rfl ?_
        refine s_callSi (as := [.int r4, .int z38.2.2]) (st := []) G aw_self mdX5_contains (fun _ h => c_X5_contains w O l r4 z38.2.2 r27 _ h) qw416 rfl rfl (Nat.le_of_ble_eq_true rfl) (by decide) dX5_first_57 (fun r57 => ?_)
        refine s_join 75 (fun y60 : Int32 × Int32 => [some (.ref (w.1 0)), some (.int r4), some (.int y60.1), some (.int y60.2), some (.int z38.2.2), none]) (fun y60 => []) (fun y60 => r27) (fun y60 => ?_) (fun K60 hB60 => ?_)
        · refine s_iinc (v := (z38.2.2 + 1)) (lv2 := [some (.ref (w.1 0)), some (.int r4), some (.int y60.1), some (.int y60.2), some (.int (z38.2.2 + 1)), none]) G dX5_first_75 rfl rfl (by decide) rfl rfl ?_
          refine s_goto (tgt := 38) G dX5_first_78 (by decide) ?_
          exact fun hx => hB38 (y60.1, y60.2, (z38.2.2 + 1)) hx
        · refine s_if_eq (tgt := 75) G dX5_first_60 (by decide) ?_ ?_
          · refine s_keep [true, true, true, true, true, false] (lv2 := [some (.ref (w.1 0)), some (.int r4), some (.int z38.1), some (.int z38.2.1), some (.int z38.2.2), none]) rfl ?_
            exact fun hx => hB60 (z38.1, z38.2.1) hx
          · refine s_iload G dX5_first_63 rfl ?_
            refine s_iload_n G dX5_first_65 rfl ?_
            refine s_icmp_ge (tgt := 75) G dX5_first_66 (by decide) ?_ ?_
            · refine s_keep [true, true, true, true, true, false] (lv2 := [some (.ref (w.1 0)), some (.int r4), some (.int z38.1), some (.int z38.2.1), some (.int z38.2.2), none]) rfl ?_
              exact fun hx => hB60 (z38.1, z38.2.1) hx
            · refine s_iload G dX5_first_69 rfl ?_
              refine s_istore_n (lv2 := [some (.ref (w.1 0)), some (.int r4), some (.int z38.2.2), some (.int z38.2.1), some (.int z38.2.2), some (.int r49)]) G dX5_first_71 (by decide) rfl rfl ?_
              refine s_iload G dX5_first_72 rfl ?_
              refine s_istore_n (lv2 := [some (.ref (w.1 0)), some (.int r4), some (.int z38.2.2), some (.int r49), some (.int z38.2.2), some (.int r49)]) G dX5_first_74 (by decide) rfl rfl ?_
              refine s_keep [true, true, true, true, true, false] (lv2 := [some (.ref (w.1 0)), some (.int r4), some (.int z38.2.2), some (.int r49), some (.int z38.2.2), none]) rfl ?_
              exact fun hx => hB60 (z38.2.2, r49) hx

set_option maxRecDepth 100000 in
set_option maxHeartbeats 4000000 in
theorem c_X0_isAloneAt (w : Wx) (O : Mem) (l : Launch) (a1 : Int32) (a2 : Int32) (M : Mem)  (z : Int32) (hz : f_X0_isAloneAt a1 a2 M = some z) : Ct w 0 36 O l 3 muX0_isAloneAt [.ref (w.1 1), .int a1, .int a2] M (some (.int z), M) := by
  refine ct_of (X := f_X0_isAloneAt a1 a2 M) (K := fun v => some (some (.int v), M)) [some (.ref (w.1 1)), some (.int a1), some (.int a2)] rfl rfl (Nat.le_of_ble_eq_true rfl) (by rw [hz]; rfl) ?_
  intro p e s m args below meth c G
  unfold f_X0_isAloneAt
  refine s_iload_n G dX0_isAloneAt_0 rfl ?_
  refine s_callSNi (as := [.int a2]) (st := []) G aw_self mdX5_isPlace (fun _ h => c_X5_isPlace w O l a2 M _ h) (by decide) rfl rfl (Nat.le_of_ble_eq_true rfl) (by decide) dX0_isAloneAt_1 (fun r1 => ?_)
  refine s_if_eq (tgt := 25) G dX0_isAloneAt_4 (by decide) ?_ ?_
  · refine s_iconst (v := 0) G dX0_isAloneAt_25 (by decide) ?_
    exact s_zret G rfl rfl rfl dX0_isAloneAt_26
  · refine s_aload_n G dX0_isAloneAt_7 rfl ?_
    refine s_iload_n G dX0_isAloneAt_8 rfl ?_
    refine s_callVi (as := [.int a2]) (st := []) (k := 1) G aw_self mdX0_isFree (fun _ h => c_X0_isFree w O l a2 M _ h) ⟨by decide, by decide⟩ (ce1 w) clX0 rfl qw368 rfl rfl (Nat.le_of_ble_eq_true rfl) (by decide) dX0_isAloneAt_9 (fun r9 => ?_)
    refine s_if_ne (tgt := 27) G dX0_isAloneAt_12 (by decide) ?_ ?_
    · refine s_aload_n G dX0_isAloneAt_15 rfl ?_
      refine s_get (k := 1) (j := 8) G (.ref (w.1 6)) ⟨by decide, by decide⟩ (ce1 w) rfl clX0 (by decide) qw115 rfl dX0_isAloneAt_16 ?_
      refine s_iload_n G dX0_isAloneAt_19 rfl ?_
      refine s_iald (k := 6) (n := 24) G ⟨by decide, by decide⟩ (ce6 w) dX0_isAloneAt_20 ?_
      refine s_iload_n G dX0_isAloneAt_21 rfl ?_
      refine s_icmp_eq (tgt := 27) G dX0_isAloneAt_22 (by decide) ?_ ?_
      · refine s_aload_n G dX0_isAloneAt_27 rfl ?_
        refine s_iload_n G dX0_isAloneAt_28 rfl ?_
        refine s_aload_n G dX0_isAloneAt_29 rfl ?_
        refine s_get (k := 1) (j := 4) G (.ref (w.1 2)) ⟨by decide, by decide⟩ (ce1 w) rfl clX0 (by decide) qw103 rfl dX0_isAloneAt_30 ?_
        refine s_iload_n G dX0_isAloneAt_33 rfl ?_
        refine s_iald (k := 2) (n := 12) G ⟨by decide, by decide⟩ (ce2 w) dX0_isAloneAt_34 ?_
        refine s_iload_n G dX0_isAloneAt_35 rfl ?_
        refine s_callVi (as := [.int a1, .int (gI M 2 a1.toNatClampNeg), .int a2]) (st := []) (k := 1) G aw_self mdX0_tangledWith (fun _ h => c_X0_tangledWith w O l a1 (gI M 2 a1.toNatClampNeg) a2 M _ h) ⟨by decide, by decide⟩ (ce1 w) clX0 rfl qw492 rfl rfl (Nat.le_of_ble_eq_true rfl) (by decide) dX0_isAloneAt_36 (fun r36 => ?_)
        refine s_join 47 (fun y39 : Int32 => [none, none, none]) (fun y39 => [.int y39]) (fun y39 => M) (fun y39 => ?_) (fun K39 hB39 => ?_)
        · refine s_test (fun h47 => ?_)
          exact s_zret G rfl (zb_nar h47) rfl dX0_isAloneAt_47
        · refine s_if_ne (tgt := 46) G dX0_isAloneAt_39 (by decide) ?_ ?_
          · refine s_iconst (v := 1) G dX0_isAloneAt_42 (by decide) ?_
            refine s_goto (tgt := 47) G dX0_isAloneAt_43 (by decide) ?_
            refine s_keep [false, false, false] (lv2 := [none, none, none]) rfl ?_
            exact fun hx => hB39 1 hx
          · refine s_iconst (v := 0) G dX0_isAloneAt_46 (by decide) ?_
            refine s_keep [false, false, false] (lv2 := [none, none, none]) rfl ?_
            exact fun hx => hB39 0 hx
      · refine s_iconst (v := 0) G dX0_isAloneAt_25 (by decide) ?_
        exact s_zret G rfl rfl rfl dX0_isAloneAt_26
    · refine s_aload_n G dX0_isAloneAt_27 rfl ?_
      refine s_iload_n G dX0_isAloneAt_28 rfl ?_
      refine s_aload_n G dX0_isAloneAt_29 rfl ?_
      refine s_get (k := 1) (j := 4) G (.ref (w.1 2)) ⟨by decide, by decide⟩ (ce1 w) rfl clX0 (by decide) qw103 rfl dX0_isAloneAt_30 ?_
      refine s_iload_n G dX0_isAloneAt_33 rfl ?_
      refine s_iald (k := 2) (n := 12) G ⟨by decide, by decide⟩ (ce2 w) dX0_isAloneAt_34 ?_
      refine s_iload_n G dX0_isAloneAt_35 rfl ?_
      refine s_callVi (as := [.int a1, .int (gI M 2 a1.toNatClampNeg), .int a2]) (st := []) (k := 1) G aw_self mdX0_tangledWith (fun _ h => c_X0_tangledWith w O l a1 (gI M 2 a1.toNatClampNeg) a2 M _ h) ⟨by decide, by decide⟩ (ce1 w) clX0 rfl qw492 rfl rfl (Nat.le_of_ble_eq_true rfl) (by decide) dX0_isAloneAt_36 (fun r36 => ?_)
      refine s_join 47 (fun y39 : Int32 => [none, none, none]) (fun y39 => [.int y39]) (fun y39 => M) (fun y39 => ?_) (fun K39 hB39 => ?_)
      · refine s_test (fun h47 => ?_)
        exact s_zret G rfl (zb_nar h47) rfl dX0_isAloneAt_47
      · refine s_if_ne (tgt := 46) G dX0_isAloneAt_39 (by decide) ?_ ?_
        · refine s_iconst (v := 1) G dX0_isAloneAt_42 (by decide) ?_
          refine s_goto (tgt := 47) G dX0_isAloneAt_43 (by decide) ?_
          refine s_keep [false, false, false] (lv2 := [none, none, none]) rfl ?_
          exact fun hx => hB39 1 hx
        · refine s_iconst (v := 0) G dX0_isAloneAt_46 (by decide) ?_
          refine s_keep [false, false, false] (lv2 := [none, none, none]) rfl ?_
          exact fun hx => hB39 0 hx

set_option maxRecDepth 100000 in
set_option maxHeartbeats 4000000 in
theorem c_X5_spot (w : Wx) (O : Mem) (l : Launch) (a1 : Int32) (M : Mem)  (z : Int32 × Mem) (hz : f_X5_spot a1 M = some z) : Ct w 0 36 O l 4 muX5_spot [.ref (w.1 0), .int a1] M (some (.int z.1), z.2) := by
  refine ct_of (X := f_X5_spot a1 M) (K := fun v => some (some (.int v.1), v.2)) [some (.ref (w.1 0)), some (.int a1), none, none] rfl rfl (Nat.le_of_ble_eq_true rfl) (by rw [hz]; rfl) ?_
  intro p e s m args below meth c G
  unfold f_X5_spot
  refine s_aload_n G dX5_spot_0 rfl ?_
  refine s_get (k := 0) (j := 0) G (.ref (w.1 1)) ⟨by decide, by decide⟩ (ce0 w) rfl clX5 (by decide) qw214 rfl dX5_spot_1 ?_
  refine s_iload_n G dX5_spot_4 rfl ?_
  refine s_callVi (as := [.int a1]) (st := []) (k := 1) G aw_self mdX0_has (fun _ h => c_X0_has w O l a1 M _ h) ⟨by decide, by decide⟩ (ce1 w) clX0 rfl qw263 rfl rfl (Nat.le_of_ble_eq_true rfl) (by decide) dX5_spot_5 (fun r5 => ?_)
  refine s_if_ne (tgt := 18) G dX5_spot_8 (by decide) ?_ ?_
  · refine s_aload_n G dX5_spot_11 rfl ?_
    refine s_ldc (v := (-1000000001)) G dX5_spot_12 qw249 ?_
    refine s_callVI (as := [.int (-1000000001)]) (st := []) (k := 0) G aw_self mdX5_told (fun _ h => c_X5_told w O l (-1000000001) M _ h) ⟨by decide, by decide⟩ (ce0 w) clX5 rfl qw250 rfl rfl (Nat.le_of_ble_eq_true rfl) (by decide) dX5_spot_14 (fun r14 => ?_)
    exact s_iret G rfl rfl dX5_spot_17
  · refine s_aload_n G dX5_spot_18 rfl ?_
    refine s_get (k := 0) (j := 0) G (.ref (w.1 1)) ⟨by decide, by decide⟩ (ce0 w) rfl clX5 (by decide) qw214 rfl dX5_spot_19 ?_
    refine s_iload_n G dX5_spot_22 rfl ?_
    refine s_callVi (as := [.int a1]) (st := []) (k := 1) G aw_self mdX0_isUp (fun _ h => c_X0_isUp w O l a1 M _ h) ⟨by decide, by decide⟩ (ce1 w) clX0 rfl qw316 rfl rfl (Nat.le_of_ble_eq_true rfl) (by decide) dX5_spot_23 (fun r23 => ?_)
    refine s_if_ne (tgt := 36) G dX5_spot_26 (by decide) ?_ ?_
    · refine s_aload_n G dX5_spot_29 rfl ?_
      refine s_ldc (v := (-1000000005)) G dX5_spot_30 qw320 ?_
      refine s_callVI (as := [.int (-1000000005)]) (st := []) (k := 0) G aw_self mdX5_told (fun _ h => c_X5_told w O l (-1000000005) M _ h) ⟨by decide, by decide⟩ (ce0 w) clX5 rfl qw250 rfl rfl (Nat.le_of_ble_eq_true rfl) (by decide) dX5_spot_32 (fun r32 => ?_)
      exact s_iret G rfl rfl dX5_spot_35
    · refine s_aload_n G dX5_spot_36 rfl ?_
      refine s_get (k := 0) (j := 0) G (.ref (w.1 1)) ⟨by decide, by decide⟩ (ce0 w) rfl clX5 (by decide) qw214 rfl dX5_spot_37 ?_
      refine s_get (k := 1) (j := 5) G (.ref (w.1 3)) ⟨by decide, by decide⟩ (ce1 w) rfl clX0 (by decide) qw108 rfl dX5_spot_40 ?_
      refine s_iload_n G dX5_spot_43 rfl ?_
      refine s_iald (k := 3) (n := 12) G ⟨by decide, by decide⟩ (ce3 w) dX5_spot_44 ?_
      refine s_name (f := Value.int) (fun v45 => ?_)
      refine s_istore_n (lv2 := [some (.ref (w.1 0)), some (.int a1), some (.int v45), none]) G dX5_spot_45 (by decide) rfl rfl ?_
      refine s_iconst (v := 0) G dX5_spot_46 (by decide) ?_
      refine s_istore_n (lv2 := [some (.ref (w.1 0)), some (.int a1), some (.int v45), some (.int 0)]) G dX5_spot_47 (by decide) rfl rfl ?_
      refine s_loopG (lvf := fun z48 : Int32 => [some (.ref (w.1 0)), some (.int a1), some (.int v45), some (.int z48)]) (Mf := fun z48 : Int32 => M) (ex := (el (fun x48_68 : Int32 => (68, [none, none, some (.int v45), some (.int x48_68)], M)) (el (fun x48_86 : Int32 => (86, [none, none, some (.int v45), some (.int x48_86)], M)) (fun x48_96 : Unit => (96, [some (.ref (w.1 0)), none, none, none], M))))) (el_all 68 (fun x48_68 : Int32 => [none, none, some (.int v45), some (.int x48_68)]) (fun x48_68 : Int32 => M) (fun x48_68 => ?_) (el_all 86 (fun x48_86 : Int32 => [none, none, some (.int v45), some (.int x48_86)]) (fun x48_86 : Int32 => M) (fun x48_86 => ?_) (el_one 96 (fun x48_96 : Unit => [some (.ref (w.1 0)), none, none, none]) (fun x48_96 : Unit => M) (fun x48_96 => ?_)))) (fun z48 K48 hB48 hE48 => ?_)
      · refine s_iload_n G dX5_spot_68 rfl ?_
        refine s_iload_n G dX5_spot_69 rfl ?_
        refine s_isub G dX5_spot_70 ?_
        exact s_iret G rfl rfl dX5_spot_71
      · refine s_iload_n G dX5_spot_86 rfl ?_
        refine s_iload_n G dX5_spot_87 rfl ?_
        refine s_iadd G dX5_spot_88 ?_
        exact s_iret G rfl rfl dX5_spot_89
      · refine s_aload_n G dX5_spot_96 rfl ?_
        refine s_ldc (v := (-1000000004)) G dX5_spot_97 qw311 ?_
        refine s_callVI (as := [.int (-1000000004)]) (st := []) (k := 0) G aw_self mdX5_told (fun _ h => c_X5_told w O l (-1000000004) M _ h) ⟨by decide, by decide⟩ (ce0 w) clX5 rfl qw250 rfl rfl (Nat.le_of_ble_eq_true rfl) (by decide) dX5_spot_99 (fun r99 => ?_)
        exact s_iret G rfl rfl dX5_spot_102
      · unfold f_X5_spot_L48
        refine s_iload_n G dX5_spot_48 rfl ?_
        refine s_bipush (v := 24) G dX5_spot_49 (by decide) ?_
        refine s_icmp_ge (tgt := 96) G dX5_spot_51 (by decide) ?_ ?_
        · refine s_keep [true, false, false, false] (lv2 := [some (.ref (w.1 0)), none, none, none]) rfl ?_
          exact fun hx => hE48 (.inr (.inr ())) hx
        · refine s_aload_n G dX5_spot_54 rfl ?_
          refine s_get (k := 0) (j := 0) G (.ref (w.1 1)) ⟨by decide, by decide⟩ (ce0 w) rfl clX5 (by decide) qw214 rfl dX5_spot_55 ?_
          refine s_iload_n G dX5_spot_58 rfl ?_
          refine s_iload_n G dX5_spot_59 rfl ?_
          refine s_iload_n G dX5_spot_60 rfl ?_
          refine s_isub G dX5_spot_61 ?_
          refine s_callVi (as := [.int a1, .int (v45 - z48)]) (st := []) (k := 1) G aw_self mdX0_isAloneAt (fun _ h => c_X0_isAloneAt w O l a1 (v45 - z48) M _ h) ⟨by decide, by decide⟩ (ce1 w) clX0 rfl qw488 rfl rfl (Nat.le_of_ble_eq_true rfl) (by decide) dX5_spot_62 (fun r62 => ?_)
          refine s_if_eq (tgt := 72) G dX5_spot_65 (by decide) ?_ ?_
          · refine s_aload_n G dX5_spot_72 rfl ?_
            refine s_get (k := 0) (j := 0) G (.ref (w.1 1)) ⟨by decide, by decide⟩ (ce0 w) rfl clX5 (by decide) qw214 rfl dX5_spot_73 ?_
            refine s_iload_n G dX5_spot_76 rfl ?_
            refine s_iload_n G dX5_spot_77 rfl ?_
            refine s_iload_n G dX5_spot_78 rfl ?_
            refine s_iadd G dX5_spot_79 ?_
            refine s_callVi (as := [.int a1, .int (v45 + z48)]) (st := []) (k := 1) G aw_self mdX0_isAloneAt (fun _ h => c_X0_isAloneAt w O l a1 (v45 + z48) M _ h) ⟨by decide, by decide⟩ (ce1 w) clX0 rfl qw488 rfl rfl (Nat.le_of_ble_eq_true rfl) (by decide) dX5_spot_80 (fun r80 => ?_)
            refine s_if_eq (tgt := 90) G dX5_spot_83 (by decide) ?_ ?_
            · refine s_iinc (v := (z48 + 1)) (lv2 := [some (.ref (w.1 0)), some (.int a1), some (.int v45), some (.int (z48 + 1))]) G dX5_spot_90 rfl rfl (by decide) rfl rfl ?_
              refine s_goto (tgt := 48) G dX5_spot_93 (by decide) ?_
              exact fun hx => hB48 (z48 + 1) hx
            · refine s_keep [false, false, true, true] (lv2 := [none, none, some (.int v45), some (.int z48)]) rfl ?_
              exact fun hx => hE48 (.inr (.inl z48)) hx
          · refine s_keep [false, false, true, true] (lv2 := [none, none, some (.int v45), some (.int z48)]) rfl ?_
            exact fun hx => hE48 (.inl z48) hx

set_option maxRecDepth 100000 in
set_option maxHeartbeats 4000000 in
theorem c_X5_betterFacing (w : Wx) (O : Mem) (l : Launch) (a1 : Int32) (a2 : Int32) (M : Mem)  (z : Int32) (hz : f_X5_betterFacing a1 a2 M = some z) : Ct w 0 36 O l 4 muX5_betterFacing [.ref (w.1 0), .int a1, .int a2] M (some (.int z), M) := by
  refine ct_of (X := f_X5_betterFacing a1 a2 M) (K := fun v => some (some (.int v), M)) [some (.ref (w.1 0)), some (.int a1), some (.int a2)] rfl rfl (Nat.le_of_ble_eq_true rfl) (by rw [hz]; rfl) ?_
  intro p e s m args below meth c G
  unfold f_X5_betterFacing
  refine s_aload_n G dX5_betterFacing_0 rfl ?_
  refine s_get (k := 0) (j := 3) G (.ref (w.1 19)) ⟨by decide, by decide⟩ (ce0 w) rfl clX5 (by decide) qw217 rfl dX5_betterFacing_1 ?_
  refine s_aload_n G dX5_betterFacing_4 rfl ?_
  refine s_get (k := 0) (j := 0) G (.ref (w.1 1)) ⟨by decide, by decide⟩ (ce0 w) rfl clX5 (by decide) qw214 rfl dX5_betterFacing_5 ?_
  refine s_get (k := 1) (j := 3) G (.int (gI M 1 3)) ⟨by decide, by decide⟩ (ce1 w) rfl clX0 (by decide) qw102 rfl dX5_betterFacing_8 ?_
  refine s_iload_n G dX5_betterFacing_11 rfl ?_
  refine s_ixor G dX5_betterFacing_12 ?_
  refine s_callVi (as := [.int ((gI M 1 3) ^^^ a2)]) (st := []) (k := 19) G aw_self mdX3_pairs (fun _ h => c_X3_pairs w O l ((gI M 1 3) ^^^ a2) M _ h) ⟨by decide, by decide⟩ (ce19 w) clX3 rfl qw421 rfl rfl (Nat.le_of_ble_eq_true rfl) (by decide) dX5_betterFacing_13 (fun r13 => ?_)
  refine s_aload_n G dX5_betterFacing_16 rfl ?_
  refine s_get (k := 0) (j := 3) G (.ref (w.1 19)) ⟨by decide, by decide⟩ (ce0 w) rfl clX5 (by decide) qw217 rfl dX5_betterFacing_17 ?_
  refine s_aload_n G dX5_betterFacing_20 rfl ?_
  refine s_get (k := 0) (j := 0) G (.ref (w.1 1)) ⟨by decide, by decide⟩ (ce0 w) rfl clX5 (by decide) qw214 rfl dX5_betterFacing_21 ?_
  refine s_get (k := 1) (j := 3) G (.int (gI M 1 3)) ⟨by decide, by decide⟩ (ce1 w) rfl clX0 (by decide) qw102 rfl dX5_betterFacing_24 ?_
  refine s_iload_n G dX5_betterFacing_27 rfl ?_
  refine s_ixor G dX5_betterFacing_28 ?_
  refine s_callVi (as := [.int ((gI M 1 3) ^^^ a1)]) (st := [.int r13]) (k := 19) G aw_self mdX3_pairs (fun _ h => c_X3_pairs w O l ((gI M 1 3) ^^^ a1) M _ h) ⟨by decide, by decide⟩ (ce19 w) clX3 rfl qw421 rfl rfl (Nat.le_of_ble_eq_true rfl) (by decide) dX5_betterFacing_29 (fun r29 => ?_)
  refine s_join 40 (fun y32 : Int32 => [none, none, none]) (fun y32 => [.int y32]) (fun y32 => M) (fun y32 => ?_) (fun K32 hB32 => ?_)
  · exact s_iret G rfl rfl dX5_betterFacing_40
  · refine s_icmp_ge (tgt := 39) G dX5_betterFacing_32 (by decide) ?_ ?_
    · refine s_iload_n G dX5_betterFacing_39 rfl ?_
      refine s_keep [false, false, false] (lv2 := [none, none, none]) rfl ?_
      exact fun hx => hB32 a1 hx
    · refine s_iload_n G dX5_betterFacing_35 rfl ?_
      refine s_goto (tgt := 40) G dX5_betterFacing_36 (by decide) ?_
      refine s_keep [false, false, false] (lv2 := [none, none, none]) rfl ?_
      exact fun hx => hB32 a2 hx

set_option maxRecDepth 100000 in
set_option maxHeartbeats 4000000 in
theorem c_X5_facing (w : Wx) (O : Mem) (l : Launch)  (M : Mem)  (z : Int32 × Mem) (hz : f_X5_facing  M = some z) : Ct w 0 36 O l 5 muX5_facing [.ref (w.1 0)] M (some (.int z.1), z.2) := by
  refine ct_of (X := f_X5_facing  M) (K := fun v => some (some (.int v.1), v.2)) [some (.ref (w.1 0)), none, none, none] rfl rfl (Nat.le_of_ble_eq_true rfl) (by rw [hz]; rfl) ?_
  intro p e s m args below meth c G
  unfold f_X5_facing
  refine s_aload_n G dX5_facing_0 rfl ?_
  refine s_get (k := 0) (j := 3) G (.ref (w.1 19)) ⟨by decide, by decide⟩ (ce0 w) rfl clX5 (by decide) qw217 rfl dX5_facing_1 ?_
  refine s_aload_n G dX5_facing_4 rfl ?_
  refine s_get (k := 0) (j := 0) G (.ref (w.1 1)) ⟨by decide, by decide⟩ (ce0 w) rfl clX5 (by decide) qw214 rfl dX5_facing_5 ?_
  refine s_callVv (as := [.ref (w.1 1)]) (st := []) (k := 19) G aw_self mdX3_look (fun _ h => c_X3_look_1 w O l M _ h) ⟨by decide, by decide⟩ (ce19 w) clX3 rfl qw370 rfl rfl (Nat.le_of_ble_eq_true rfl) (by decide) dX5_facing_8 (fun r8 => ?_)
  refine s_iconst (v := 0) G dX5_facing_11 (by decide) ?_
  refine s_istore_n (lv2 := [some (.ref (w.1 0)), some (.int 0), none, none]) G dX5_facing_12 (by decide) rfl rfl ?_
  refine s_iconst (v := 0) G dX5_facing_13 (by decide) ?_
  refine s_istore_n (lv2 := [some (.ref (w.1 0)), some (.int 0), some (.int 0), none]) G dX5_facing_14 (by decide) rfl rfl ?_
  refine s_loopG (lvf := fun z15 : Int32 × Int32 => [some (.ref (w.1 0)), some (.int z15.1), some (.int z15.2), none]) (Mf := fun z15 : Int32 × Int32 => r8) (ex := (fun x15_41 : Int32 => (41, [some (.ref (w.1 0)), some (.int x15_41), none, none], r8))) (el_one 41 (fun x15_41 : Int32 => [some (.ref (w.1 0)), some (.int x15_41), none, none]) (fun x15_41 : Int32 => r8) (fun x15_41 => ?_)) (fun z15 K15 hB15 hE15 => ?_)
  · refine s_iconst (v := 1) G dX5_facing_41 (by decide) ?_
    refine s_istore_n (lv2 := [some (.ref (w.1 0)), some (.int x15_41), some (.int 1), none]) G dX5_facing_42 (by decide) rfl rfl ?_
    refine s_loopG (lvf := fun z43 : Int32 × Int32 => [some (.ref (w.1 0)), some (.int z43.1), some (.int z43.2), none]) (Mf := fun z43 : Int32 × Int32 => r8) (ex := (fun x43_86 : Int32 => (86, [none, some (.int x43_86), none, none], r8))) (el_one 86 (fun x43_86 : Int32 => [none, some (.int x43_86), none, none]) (fun x43_86 : Int32 => r8) (fun x43_86 => ?_)) (fun z43 K43 hB43 hE43 => ?_)
    · refine s_iload_n G dX5_facing_86 rfl ?_
      exact s_iret G rfl rfl dX5_facing_87
    · unfold f_X5_facing_L43
      refine s_iload_n G dX5_facing_43 rfl ?_
      refine s_aload_n G dX5_facing_44 rfl ?_
      refine s_get (k := 0) (j := 0) G (.ref (w.1 1)) ⟨by decide, by decide⟩ (ce0 w) rfl clX5 (by decide) qw214 rfl dX5_facing_45 ?_
      refine s_get (k := 1) (j := 0) G (.int (gI r8 1 0)) ⟨by decide, by decide⟩ (ce1 w) rfl clX0 (by decide) qw92 rfl dX5_facing_48 ?_
      refine s_icmp_ge (tgt := 86) G dX5_facing_51 (by decide) ?_ ?_
      · refine s_keep [false, true, false, false] (lv2 := [none, some (.int z43.1), none, none]) rfl ?_
        exact fun hx => hE43 z43.1 hx
      · refine s_iconst (v := 0) G dX5_facing_54 (by decide) ?_
        refine s_istore_n (lv2 := [some (.ref (w.1 0)), some (.int z43.1), some (.int z43.2), some (.int 0)]) G dX5_facing_55 (by decide) rfl rfl ?_
        refine s_loopG (lvf := fun z56 : Int32 × Int32 => [some (.ref (w.1 0)), some (.int z56.1), some (.int z43.2), some (.int z56.2)]) (Mf := fun z56 : Int32 × Int32 => r8) (ex := (fun x56_80 : Int32 => (80, [some (.ref (w.1 0)), some (.int x56_80), some (.int z43.2), none], r8))) (el_one 80 (fun x56_80 : Int32 => [some (.ref (w.1 0)), some (.int x56_80), some (.int z43.2), none]) (fun x56_80 : Int32 => r8) (fun x56_80 => ?_)) (fun z56 K56 hB56 hE56 => ?_)
        · refine s_iinc (v := (z43.2 + 1)) (lv2 := [some (.ref (w.1 0)), some (.int x56_80), some (.int (z43.2 + 1)), none]) G dX5_facing_80 rfl rfl (by decide) rfl rfl ?_
          refine s_goto (tgt := 43) G dX5_facing_83 (by decide) ?_
          exact fun hx => hB43 (x56_80, (z43.2 + 1)) hx
        · unfold f_X5_facing_L56
          refine s_iload_n G dX5_facing_56 rfl ?_
          refine s_iload_n G dX5_facing_57 rfl ?_
          refine s_icmp_ge (tgt := 80) G dX5_facing_58 (by decide) ?_ ?_
          · refine s_keep [true, true, true, false] (lv2 := [some (.ref (w.1 0)), some (.int z56.1), some (.int z43.2), none]) rfl ?_
            exact fun hx => hE56 z56.1 hx
          · refine s_aload_n G dX5_facing_61 rfl ?_
            refine s_iload_n G dX5_facing_62 rfl ?_
            refine s_iconst (v := 1) G dX5_facing_63 (by decide) ?_
            refine s_iload_n G dX5_facing_64 rfl ?_
            refine s_ishl G dX5_facing_65 ?_
            refine s_iconst (v := 1) G dX5_facing_66 (by decide) ?_
            refine s_iload_n G dX5_facing_67 rfl ?_
            refine s_ishl G dX5_facing_68 ?_
            refine s_ior G dX5_facing_69 ?_
            refine s_callVi (as := [.int z56.1, .int (((1 : Int32) <<< (z43.2 &&& 31)) ||| ((1 : Int32) <<< (z56.2 &&& 31)))]) (st := []) (k := 0) G aw_self mdX5_betterFacing (fun _ h => c_X5_betterFacing w O l z56.1 (((1 : Int32) <<< (z43.2 &&& 31)) ||| ((1 : Int32) <<< (z56.2 &&& 31))) r8 _ h) ⟨by decide, by decide⟩ (ce0 w) clX5 rfl qw497 rfl rfl (Nat.le_of_ble_eq_true rfl) (by decide) dX5_facing_70 (fun r70 => ?_)
            refine s_istore_n (lv2 := [some (.ref (w.1 0)), some (.int r70), some (.int z43.2), some (.int z56.2)]) G dX5_facing_73 (by decide) rfl rfl ?_
            refine s_iinc (v := (z56.2 + 1)) (lv2 := [some (.ref (w.1 0)), some (.int r70), some (.int z43.2), some (.int (z56.2 + 1))]) G dX5_facing_74 rfl rfl (by decide) rfl rfl ?_
            refine s_goto (tgt := 56) G dX5_facing_77 (by decide) ?_
            exact fun hx => hB56 (r70, (z56.2 + 1)) hx
  · unfold f_X5_facing_L15
    refine s_iload_n G dX5_facing_15 rfl ?_
    refine s_aload_n G dX5_facing_16 rfl ?_
    refine s_get (k := 0) (j := 0) G (.ref (w.1 1)) ⟨by decide, by decide⟩ (ce0 w) rfl clX5 (by decide) qw214 rfl dX5_facing_17 ?_
    refine s_get (k := 1) (j := 0) G (.int (gI r8 1 0)) ⟨by decide, by decide⟩ (ce1 w) rfl clX0 (by decide) qw92 rfl dX5_facing_20 ?_
    refine s_icmp_ge (tgt := 41) G dX5_facing_23 (by decide) ?_ ?_
    · refine s_keep [true, true, false, false] (lv2 := [some (.ref (w.1 0)), some (.int z15.1), none, none]) rfl ?_
      exact fun hx => hE15 z15.1 hx
    · refine s_aload_n G dX5_facing_26 rfl ?_
      refine s_iload_n G dX5_facing_27 rfl ?_
      refine s_iconst (v := 1) G dX5_facing_28 (by decide) ?_
      refine s_iload_n G dX5_facing_29 rfl ?_
      refine s_ishl G dX5_facing_30 ?_
      refine s_callVi (as := [.int z15.1, .int ((1 : Int32) <<< (z15.2 &&& 31))]) (st := []) (k := 0) G aw_self mdX5_betterFacing (fun _ h => c_X5_betterFacing w O l z15.1 ((1 : Int32) <<< (z15.2 &&& 31)) r8 _ h) ⟨by decide, by decide⟩ (ce0 w) clX5 rfl qw497 rfl rfl (Nat.le_of_ble_eq_true rfl) (by decide) dX5_facing_31 (fun r31 => ?_)
      refine s_istore_n (lv2 := [some (.ref (w.1 0)), some (.int r31), some (.int z15.2), none]) G dX5_facing_34 (by decide) rfl rfl ?_
      refine s_iinc (v := (z15.2 + 1)) (lv2 := [some (.ref (w.1 0)), some (.int r31), some (.int (z15.2 + 1)), none]) G dX5_facing_35 rfl rfl (by decide) rfl rfl ?_
      refine s_goto (tgt := 15) G dX5_facing_38 (by decide) ?_
      exact fun hx => hB15 (r31, (z15.2 + 1)) hx

set_option maxRecDepth 100000 in
set_option maxHeartbeats 4000000 in
theorem c_X5_clears (w : Wx) (O : Mem) (l : Launch) (a1 : Int32) (M : Mem)  (z : Int32 × Mem) (hz : f_X5_clears a1 M = some z) : Ct w 0 36 O l 4 muX5_clears [.ref (w.1 0), .int a1] M (some (.int z.1), z.2) := by
  refine ct_of (X := f_X5_clears a1 M) (K := fun v => some (some (.int v.1), v.2)) [some (.ref (w.1 0)), some (.int a1), none, none, none, none] rfl rfl (Nat.le_of_ble_eq_true rfl) (by rw [hz]; rfl) ?_
  intro p e s m args below meth c G
  unfold f_X5_clears
  refine s_iload_n G dX5_clears_0 rfl ?_
  refine s_if_eq (tgt := 16) G dX5_clears_1 (by decide) ?_ ?_
  · refine s_aload_n G dX5_clears_16 rfl ?_
    refine s_get (k := 0) (j := 3) G (.ref (w.1 19)) ⟨by decide, by decide⟩ (ce0 w) rfl clX5 (by decide) qw217 rfl dX5_clears_17 ?_
    refine s_aload_n G dX5_clears_20 rfl ?_
    refine s_get (k := 0) (j := 0) G (.ref (w.1 1)) ⟨by decide, by decide⟩ (ce0 w) rfl clX5 (by decide) qw214 rfl dX5_clears_21 ?_
    refine s_callVv (as := [.ref (w.1 1)]) (st := []) (k := 19) G aw_self mdX3_look (fun _ h => c_X3_look_1 w O l M _ h) ⟨by decide, by decide⟩ (ce19 w) clX3 rfl qw370 rfl rfl (Nat.le_of_ble_eq_true rfl) (by decide) dX5_clears_24 (fun r24 => ?_)
    refine s_aload_n G dX5_clears_27 rfl ?_
    refine s_get (k := 0) (j := 0) G (.ref (w.1 1)) ⟨by decide, by decide⟩ (ce0 w) rfl clX5 (by decide) qw214 rfl dX5_clears_28 ?_
    refine s_callVi (as := []) (st := []) (k := 1) G aw_self mdX0_up (fun _ h => c_X0_up w O l r24 _ h) ⟨by decide, by decide⟩ (ce1 w) clX0 rfl qw332 rfl rfl (Nat.le_of_ble_eq_true rfl) (by decide) dX5_clears_31 (fun r31 => ?_)
    refine s_istore_n (lv2 := [some (.ref (w.1 0)), some (.int a1), some (.int r31), none, none, none]) G dX5_clears_34 (by decide) rfl rfl ?_
    refine s_iconst (v := 0) G dX5_clears_35 (by decide) ?_
    refine s_istore_n (lv2 := [some (.ref (w.1 0)), some (.int a1), some (.int r31), some (.int 0), none, none]) G dX5_clears_36 (by decide) rfl rfl ?_
    refine s_iconst (v := 0) G dX5_clears_37 (by decide) ?_
    refine s_istore (lv2 := [some (.ref (w.1 0)), some (.int a1), some (.int r31), some (.int 0), some (.int 0), none]) G dX5_clears_38 (by decide) rfl rfl ?_
    refine s_loopG (lvf := fun z40 : Int32 × Int32 × Int32 => [some (.ref (w.1 0)), some (.int a1), some (.int z40.1), some (.int z40.2.1), some (.int z40.2.2), none]) (Mf := fun z40 : Int32 × Int32 × Int32 => r24) (ex := (fun x40_101 : Int32 => (101, [none, none, none, some (.int x40_101), none, none], r24))) (el_one 101 (fun x40_101 : Int32 => [none, none, none, some (.int x40_101), none, none]) (fun x40_101 : Int32 => r24) (fun x40_101 => ?_)) (fun z40 K40 hB40 hE40 => ?_)
    · refine s_iload_n G dX5_clears_101 rfl ?_
      exact s_iret G rfl rfl dX5_clears_102
    · unfold f_X5_clears_L40
      refine s_iload G dX5_clears_40 rfl ?_
      refine s_bipush (v := 12) G dX5_clears_42 (by decide) ?_
      refine s_icmp_ge (tgt := 101) G dX5_clears_44 (by decide) ?_ ?_
      · refine s_keep [false, false, false, true, false, false] (lv2 := [none, none, none, some (.int z40.2.1), none, none]) rfl ?_
        exact fun hx => hE40 z40.2.1 hx
      · refine s_iload_n G dX5_clears_47 rfl ?_
        refine s_iload G dX5_clears_48 rfl ?_
        refine s_callSi (as := [.int z40.1, .int z40.2.2]) (st := []) G aw_self mdX5_contains (fun _ h => c_X5_contains w O l z40.1 z40.2.2 r24 _ h) qw416 rfl rfl (Nat.le_of_ble_eq_true rfl) (by decide) dX5_clears_50 (fun r50 => ?_)
        refine s_join 95 (fun y53 : Int32 × Int32 => [some (.ref (w.1 0)), some (.int a1), some (.int y53.1), some (.int y53.2), some (.int z40.2.2), none]) (fun y53 => []) (fun y53 => r24) (fun y53 => ?_) (fun K53 hB53 => ?_)
        · refine s_iinc (v := (z40.2.2 + 1)) (lv2 := [some (.ref (w.1 0)), some (.int a1), some (.int y53.1), some (.int y53.2), some (.int (z40.2.2 + 1)), none]) G dX5_clears_95 rfl rfl (by decide) rfl rfl ?_
          refine s_goto (tgt := 40) G dX5_clears_98 (by decide) ?_
          exact fun hx => hB40 (y53.1, y53.2, (z40.2.2 + 1)) hx
        · refine s_if_eq (tgt := 95) G dX5_clears_53 (by decide) ?_ ?_
          · exact fun hx => hB53 (z40.1, z40.2.1) hx
          · refine s_aload_n G dX5_clears_56 rfl ?_
            refine s_get (k := 0) (j := 3) G (.ref (w.1 19)) ⟨by decide, by decide⟩ (ce0 w) rfl clX5 (by decide) qw217 rfl dX5_clears_57 ?_
            refine s_iload G dX5_clears_60 rfl ?_
            refine s_iload_n G dX5_clears_62 rfl ?_
            refine s_callVi (as := [.int z40.2.2, .int a1]) (st := []) (k := 19) G aw_self mdX3_coming (fun _ h => c_X3_coming w O l z40.2.2 a1 r24 _ h) ⟨by decide, by decide⟩ (ce19 w) clX3 rfl qw398 rfl rfl (Nat.le_of_ble_eq_true rfl) (by decide) dX5_clears_63 (fun r63 => ?_)
            refine s_iload_n G dX5_clears_66 rfl ?_
            refine s_iand G dX5_clears_67 ?_
            refine s_name (f := Value.int) (fun v68 => ?_)
            refine s_istore (lv2 := [some (.ref (w.1 0)), some (.int a1), some (.int z40.1), some (.int z40.2.1), some (.int z40.2.2), some (.int v68)]) G dX5_clears_68 (by decide) rfl rfl ?_
            refine s_iload_n G dX5_clears_70 rfl ?_
            refine s_aload_n G dX5_clears_71 rfl ?_
            refine s_get (k := 0) (j := 0) G (.ref (w.1 1)) ⟨by decide, by decide⟩ (ce0 w) rfl clX5 (by decide) qw214 rfl dX5_clears_72 ?_
            refine s_iload G dX5_clears_75 rfl ?_
            refine s_iload G dX5_clears_77 rfl ?_
            refine s_iload_n G dX5_clears_79 rfl ?_
            refine s_callVi (as := [.int v68, .int z40.2.2, .int a1]) (st := [.int z40.2.1]) (k := 1) G aw_self mdX0_falling (fun _ h => c_X0_falling w O l v68 z40.2.2 a1 r24 _ h) ⟨by decide, by decide⟩ (ce1 w) clX0 rfl qw407 rfl rfl (Nat.le_of_ble_eq_true rfl) (by decide) dX5_clears_80 (fun r80 => ?_)
            refine s_callSi (as := [.int r80]) (st := [.int z40.2.1]) G aw_self mdJ6_bitCount_0f7a4 (fun _ h => c_J6_bitCount_0f7a4 w O l r80 r24 _ h) qw337 rfl rfl (Nat.le_of_ble_eq_true rfl) (by decide) dX5_clears_83 (fun r83 => ?_)
            refine s_iadd G dX5_clears_86 ?_
            refine s_name (f := Value.int) (fun v87 => ?_)
            refine s_istore_n (lv2 := [some (.ref (w.1 0)), some (.int a1), some (.int z40.1), some (.int v87), some (.int z40.2.2), some (.int v68)]) G dX5_clears_87 (by decide) rfl rfl ?_
            refine s_iload_n G dX5_clears_88 rfl ?_
            refine s_iload G dX5_clears_89 rfl ?_
            refine s_iconst (v := (-1)) G dX5_clears_91 (by decide) ?_
            refine s_ixor G dX5_clears_92 ?_
            refine s_iand G dX5_clears_93 ?_
            refine s_name (f := Value.int) (fun v94 => ?_)
            refine s_istore_n (lv2 := [some (.ref (w.1 0)), some (.int a1), some (.int v94), some (.int v87), some (.int z40.2.2), some (.int v68)]) G dX5_clears_94 (by decide) rfl rfl ?_
            refine s_keep [true, true, true, true, true, false] (lv2 := [some (.ref (w.1 0)), some (.int a1), some (.int v94), some (.int v87), some (.int z40.2.2), none]) rfl ?_
            exact fun hx => hB53 (v94, v87) hx
  · refine s_iload_n G dX5_clears_4 rfl ?_
    refine s_iconst (v := 1) G dX5_clears_5 (by decide) ?_
    refine s_icmp_eq (tgt := 16) G dX5_clears_6 (by decide) ?_ ?_
    · refine s_aload_n G dX5_clears_16 rfl ?_
      refine s_get (k := 0) (j := 3) G (.ref (w.1 19)) ⟨by decide, by decide⟩ (ce0 w) rfl clX5 (by decide) qw217 rfl dX5_clears_17 ?_
      refine s_aload_n G dX5_clears_20 rfl ?_
      refine s_get (k := 0) (j := 0) G (.ref (w.1 1)) ⟨by decide, by decide⟩ (ce0 w) rfl clX5 (by decide) qw214 rfl dX5_clears_21 ?_
      refine s_callVv (as := [.ref (w.1 1)]) (st := []) (k := 19) G aw_self mdX3_look (fun _ h => c_X3_look_1 w O l M _ h) ⟨by decide, by decide⟩ (ce19 w) clX3 rfl qw370 rfl rfl (Nat.le_of_ble_eq_true rfl) (by decide) dX5_clears_24 (fun r24 => ?_)
      refine s_aload_n G dX5_clears_27 rfl ?_
      refine s_get (k := 0) (j := 0) G (.ref (w.1 1)) ⟨by decide, by decide⟩ (ce0 w) rfl clX5 (by decide) qw214 rfl dX5_clears_28 ?_
      refine s_callVi (as := []) (st := []) (k := 1) G aw_self mdX0_up (fun _ h => c_X0_up w O l r24 _ h) ⟨by decide, by decide⟩ (ce1 w) clX0 rfl qw332 rfl rfl (Nat.le_of_ble_eq_true rfl) (by decide) dX5_clears_31 (fun r31 => ?_)
      refine s_istore_n (lv2 := [some (.ref (w.1 0)), some (.int a1), some (.int r31), none, none, none]) G dX5_clears_34 (by decide) rfl rfl ?_
      refine s_iconst (v := 0) G dX5_clears_35 (by decide) ?_
      refine s_istore_n (lv2 := [some (.ref (w.1 0)), some (.int a1), some (.int r31), some (.int 0), none, none]) G dX5_clears_36 (by decide) rfl rfl ?_
      refine s_iconst (v := 0) G dX5_clears_37 (by decide) ?_
      refine s_istore (lv2 := [some (.ref (w.1 0)), some (.int a1), some (.int r31), some (.int 0), some (.int 0), none]) G dX5_clears_38 (by decide) rfl rfl ?_
      refine s_loopG (lvf := fun z40 : Int32 × Int32 × Int32 => [some (.ref (w.1 0)), some (.int a1), some (.int z40.1), some (.int z40.2.1), some (.int z40.2.2), none]) (Mf := fun z40 : Int32 × Int32 × Int32 => r24) (ex := (fun x40_101 : Int32 => (101, [none, none, none, some (.int x40_101), none, none], r24))) (el_one 101 (fun x40_101 : Int32 => [none, none, none, some (.int x40_101), none, none]) (fun x40_101 : Int32 => r24) (fun x40_101 => ?_)) (fun z40 K40 hB40 hE40 => ?_)
      · refine s_iload_n G dX5_clears_101 rfl ?_
        exact s_iret G rfl rfl dX5_clears_102
      · unfold f_X5_clears_L40
        refine s_iload G dX5_clears_40 rfl ?_
        refine s_bipush (v := 12) G dX5_clears_42 (by decide) ?_
        refine s_icmp_ge (tgt := 101) G dX5_clears_44 (by decide) ?_ ?_
        · refine s_keep [false, false, false, true, false, false] (lv2 := [none, none, none, some (.int z40.2.1), none, none]) rfl ?_
          exact fun hx => hE40 z40.2.1 hx
        · refine s_iload_n G dX5_clears_47 rfl ?_
          refine s_iload G dX5_clears_48 rfl ?_
          refine s_callSi (as := [.int z40.1, .int z40.2.2]) (st := []) G aw_self mdX5_contains (fun _ h => c_X5_contains w O l z40.1 z40.2.2 r24 _ h) qw416 rfl rfl (Nat.le_of_ble_eq_true rfl) (by decide) dX5_clears_50 (fun r50 => ?_)
          refine s_join 95 (fun y53 : Int32 × Int32 => [some (.ref (w.1 0)), some (.int a1), some (.int y53.1), some (.int y53.2), some (.int z40.2.2), none]) (fun y53 => []) (fun y53 => r24) (fun y53 => ?_) (fun K53 hB53 => ?_)
          · refine s_iinc (v := (z40.2.2 + 1)) (lv2 := [some (.ref (w.1 0)), some (.int a1), some (.int y53.1), some (.int y53.2), some (.int (z40.2.2 + 1)), none]) G dX5_clears_95 rfl rfl (by decide) rfl rfl ?_
            refine s_goto (tgt := 40) G dX5_clears_98 (by decide) ?_
            exact fun hx => hB40 (y53.1, y53.2, (z40.2.2 + 1)) hx
          · refine s_if_eq (tgt := 95) G dX5_clears_53 (by decide) ?_ ?_
            · exact fun hx => hB53 (z40.1, z40.2.1) hx
            · refine s_aload_n G dX5_clears_56 rfl ?_
              refine s_get (k := 0) (j := 3) G (.ref (w.1 19)) ⟨by decide, by decide⟩ (ce0 w) rfl clX5 (by decide) qw217 rfl dX5_clears_57 ?_
              refine s_iload G dX5_clears_60 rfl ?_
              refine s_iload_n G dX5_clears_62 rfl ?_
              refine s_callVi (as := [.int z40.2.2, .int a1]) (st := []) (k := 19) G aw_self mdX3_coming (fun _ h => c_X3_coming w O l z40.2.2 a1 r24 _ h) ⟨by decide, by decide⟩ (ce19 w) clX3 rfl qw398 rfl rfl (Nat.le_of_ble_eq_true rfl) (by decide) dX5_clears_63 (fun r63 => ?_)
              refine s_iload_n G dX5_clears_66 rfl ?_
              refine s_iand G dX5_clears_67 ?_
              refine s_name (f := Value.int) (fun v68 => ?_)
              refine s_istore (lv2 := [some (.ref (w.1 0)), some (.int a1), some (.int z40.1), some (.int z40.2.1), some (.int z40.2.2), some (.int v68)]) G dX5_clears_68 (by decide) rfl rfl ?_
              refine s_iload_n G dX5_clears_70 rfl ?_
              refine s_aload_n G dX5_clears_71 rfl ?_
              refine s_get (k := 0) (j := 0) G (.ref (w.1 1)) ⟨by decide, by decide⟩ (ce0 w) rfl clX5 (by decide) qw214 rfl dX5_clears_72 ?_
              refine s_iload G dX5_clears_75 rfl ?_
              refine s_iload G dX5_clears_77 rfl ?_
              refine s_iload_n G dX5_clears_79 rfl ?_
              refine s_callVi (as := [.int v68, .int z40.2.2, .int a1]) (st := [.int z40.2.1]) (k := 1) G aw_self mdX0_falling (fun _ h => c_X0_falling w O l v68 z40.2.2 a1 r24 _ h) ⟨by decide, by decide⟩ (ce1 w) clX0 rfl qw407 rfl rfl (Nat.le_of_ble_eq_true rfl) (by decide) dX5_clears_80 (fun r80 => ?_)
              refine s_callSi (as := [.int r80]) (st := [.int z40.2.1]) G aw_self mdJ6_bitCount_0f7a4 (fun _ h => c_J6_bitCount_0f7a4 w O l r80 r24 _ h) qw337 rfl rfl (Nat.le_of_ble_eq_true rfl) (by decide) dX5_clears_83 (fun r83 => ?_)
              refine s_iadd G dX5_clears_86 ?_
              refine s_name (f := Value.int) (fun v87 => ?_)
              refine s_istore_n (lv2 := [some (.ref (w.1 0)), some (.int a1), some (.int z40.1), some (.int v87), some (.int z40.2.2), some (.int v68)]) G dX5_clears_87 (by decide) rfl rfl ?_
              refine s_iload_n G dX5_clears_88 rfl ?_
              refine s_iload G dX5_clears_89 rfl ?_
              refine s_iconst (v := (-1)) G dX5_clears_91 (by decide) ?_
              refine s_ixor G dX5_clears_92 ?_
              refine s_iand G dX5_clears_93 ?_
              refine s_name (f := Value.int) (fun v94 => ?_)
              refine s_istore_n (lv2 := [some (.ref (w.1 0)), some (.int a1), some (.int v94), some (.int v87), some (.int z40.2.2), some (.int v68)]) G dX5_clears_94 (by decide) rfl rfl ?_
              refine s_keep [true, true, true, true, true, false] (lv2 := [some (.ref (w.1 0)), some (.int a1), some (.int v94), some (.int v87), some (.int z40.2.2), none]) rfl ?_
              exact fun hx => hB53 (v94, v87) hx
    · refine s_aload_n G dX5_clears_9 rfl ?_
      refine s_ldc (v := (-1000000001)) G dX5_clears_10 qw249 ?_
      refine s_callVI (as := [.int (-1000000001)]) (st := []) (k := 0) G aw_self mdX5_told (fun _ h => c_X5_told w O l (-1000000001) M _ h) ⟨by decide, by decide⟩ (ce0 w) clX5 rfl qw250 rfl rfl (Nat.le_of_ble_eq_true rfl) (by decide) dX5_clears_12 (fun r12 => ?_)
      exact s_iret G rfl rfl dX5_clears_15
