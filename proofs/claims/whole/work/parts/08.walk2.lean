set_option maxRecDepth 100000 in
set_option maxHeartbeats 4000000 in
theorem c_X6_spotOf (w : Wx) (O : Mem) (l : Launch) (a0 : Int32) (a1 : Int32) (M : Mem)  (z : Int32) (hz : f_X6_spotOf a0 a1 = some z) : Ct w 36 48 O l 0 muX6_spotOf [.int a0, .int a1] M (some (.int z), M) := by
  refine ct_of (X := f_X6_spotOf a0 a1) (K := fun v => some (some (.int v), M)) [some (.int a0), some (.int a1)] rfl rfl (Nat.le_of_ble_eq_true rfl) (by rw [hz]; rfl) ?_
  intro p e s m args below meth c G
  unfold f_X6_spotOf
  refine s_iconst (v := 3) G dX6_spotOf_0 (by decide) ?_
  refine s_iconst (v := 5) G dX6_spotOf_1 (by decide) ?_
  refine s_iload_n G dX6_spotOf_2 rfl ?_
  refine s_imul G dX6_spotOf_3 ?_
  refine s_iadd G dX6_spotOf_4 ?_
  refine s_iload_n G dX6_spotOf_5 rfl ?_
  refine s_iadd G dX6_spotOf_6 ?_
  exact s_iret G rfl rfl dX6_spotOf_7

set_option maxRecDepth 100000 in
set_option maxHeartbeats 4000000 in
theorem c_X6_its (w : Wx) (O : Mem) (l : Launch) (a1 : Int32) (a2 : Int32) (M : Mem)  (z : Int32) (hz : f_X6_its a1 a2 M = some z) : Ct w 36 48 O l 1 muX6_its [.ref (w.1 36), .int a1, .int a2] M (some (.int z), M) := by
  refine ct_of (X := f_X6_its a1 a2 M) (K := fun v => some (some (.int v), M)) [some (.ref (w.1 36)), some (.int a1), some (.int a2)] rfl rfl (Nat.le_of_ble_eq_true rfl) (by rw [hz]; rfl) ?_
  intro p e s m args below meth c G
  unfold f_X6_its
  refine s_aload_n G dX6_its_0 rfl ?_
  refine s_get (k := 36) (j := 0) G (.ref (w.1 37)) ⟨by decide, by decide⟩ (ce36 w) rfl clX6 (by decide) qw755 rfl dX6_its_1 ?_
  refine s_iload_n G dX6_its_4 rfl ?_
  refine s_iload_n G dX6_its_5 rfl ?_
  refine s_callSi (as := [.int a1, .int a2]) (st := [.ref (w.1 37)]) G aw_self mdX6_spotOf (fun _ h => c_X6_spotOf w O l a1 a2 M _ h) qw834 rfl rfl (Nat.le_of_ble_eq_true rfl) (by decide) dX6_its_6 (fun r6 => ?_)
  refine s_iald (k := 37) (n := 63) G ⟨by decide, by decide⟩ (ce37 w) dX6_its_9 ?_
  exact s_iret G rfl rfl dX6_its_10

set_option maxRecDepth 100000 in
set_option maxHeartbeats 4000000 in
theorem c_X6_isOn (w : Wx) (O : Mem) (l : Launch) (a1 : Int32) (M : Mem)  (z : Int32) (hz : f_X6_isOn a1 M = some z) : Ct w 36 48 O l 2 muX6_isOn [.ref (w.1 36), .int a1] M (some (.int z), M) := by
  refine ct_of (X := f_X6_isOn a1 M) (K := fun v => some (some (.int v), M)) [some (.ref (w.1 36)), some (.int a1)] rfl rfl (Nat.le_of_ble_eq_true rfl) (by rw [hz]; rfl) ?_
  intro p e s m args below meth c G
  unfold f_X6_isOn
  refine s_aload_n G dX6_isOn_0 rfl ?_
  refine s_iload_n G dX6_isOn_1 rfl ?_
  refine s_iconst (v := 1) G dX6_isOn_2 (by decide) ?_
  refine s_callVi (as := [.int a1, .int 1]) (st := []) (k := 36) G aw_self mdX6_its (fun _ h => c_X6_its w O l a1 1 M _ h) ⟨by decide, by decide⟩ (ce36 w) clX6 rfl qw846 rfl rfl (Nat.le_of_ble_eq_true rfl) (by decide) dX6_isOn_3 (fun r3 => ?_)
  refine s_join 14 (fun y6 : Int32 => [none, none]) (fun y6 => [.int y6]) (fun y6 => M) (fun y6 => ?_) (fun K6 hB6 => ?_)
  · refine s_test (fun h14 => ?_)
    exact s_zret G rfl (zb_nar h14) rfl dX6_isOn_14
  · refine s_if_lt (tgt := 13) G dX6_isOn_6 (by decide) ?_ ?_
    · refine s_iconst (v := 0) G dX6_isOn_13 (by decide) ?_
      refine s_keep [false, false] (lv2 := [none, none]) rfl ?_
      exact fun hx => hB6 0 hx
    · refine s_iconst (v := 1) G dX6_isOn_9 (by decide) ?_
      refine s_goto (tgt := 14) G dX6_isOn_10 (by decide) ?_
      refine s_keep [false, false] (lv2 := [none, none]) rfl ?_
      exact fun hx => hB6 1 hx

set_option maxRecDepth 100000 in
set_option maxHeartbeats 4000000 in
theorem c_X6_adds (w : Wx) (O : Mem) (l : Launch) (a1 : Int32) (M : Mem)  (z : Int32 × Mem) (hz : f_X6_adds a1 M = some z) : Ct w 36 48 O l 1 muX6_adds [.ref (w.1 36), .int a1] M (some (.int z.1), z.2) := by
  refine ct_of (X := f_X6_adds a1 M) (K := fun v => some (some (.int v.1), v.2)) [some (.ref (w.1 36)), some (.int a1), none, none] rfl rfl (Nat.le_of_ble_eq_true rfl) (by rw [hz]; rfl) ?_
  intro p e s m args below meth c G
  unfold f_X6_adds
  refine s_aload_n G dX6_adds_0 rfl ?_
  refine s_get (k := 36) (j := 0) G (.ref (w.1 37)) ⟨by decide, by decide⟩ (ce36 w) rfl clX6 (by decide) qw755 rfl dX6_adds_1 ?_
  refine s_iconst (v := 0) G dX6_adds_4 (by decide) ?_
  refine s_ialdC (k := 37) (n := 63) (j := 0) G ⟨by decide, by decide⟩ (ce37 w) (by decide) (by decide) dX6_adds_5 ?_
  refine s_name (f := Value.int) (fun v6 => ?_)
  refine s_istore_n (lv2 := [some (.ref (w.1 36)), some (.int a1), some (.int v6), none]) G dX6_adds_6 (by decide) rfl rfl ?_
  refine s_iconst (v := 0) G dX6_adds_7 (by decide) ?_
  refine s_istore_n (lv2 := [some (.ref (w.1 36)), some (.int a1), some (.int v6), some (.int 0)]) G dX6_adds_8 (by decide) rfl rfl ?_
  refine s_loopG (lvf := fun z9 : Int32 × Mem => [some (.ref (w.1 36)), some (.int a1), some (.int v6), some (.int z9.1)]) (Mf := fun z9 : Int32 × Mem => z9.2) (ex := (fun x9_31 : Mem => (31, [some (.ref (w.1 36)), some (.int a1), some (.int v6), none], x9_31))) (el_one 31 (fun x9_31 : Mem => [some (.ref (w.1 36)), some (.int a1), some (.int v6), none]) (fun x9_31 : Mem => x9_31) (fun x9_31 => ?_)) (fun z9 K9 hB9 hE9 => ?_)
  · refine s_aload_n G dX6_adds_31 rfl ?_
    refine s_get (k := 36) (j := 0) G (.ref (w.1 37)) ⟨by decide, by decide⟩ (ce36 w) rfl clX6 (by decide) qw755 rfl dX6_adds_32 ?_
    refine s_iload_n G dX6_adds_35 rfl ?_
    refine s_iconst (v := 0) G dX6_adds_36 (by decide) ?_
    refine s_callSi (as := [.int v6, .int 0]) (st := [.ref (w.1 37)]) G aw_self mdX6_spotOf (fun _ h => c_X6_spotOf w O l v6 0 x9_31 _ h) qw834 rfl rfl (Nat.le_of_ble_eq_true rfl) (by decide) dX6_adds_37 (fun r37 => ?_)
    refine s_iload_n G dX6_adds_40 rfl ?_
    refine s_iast (k := 37) (n := 63) G ⟨by decide, by decide⟩ (ce37 w) dX6_adds_41 (fun m41 => ?_)
    refine s_aload_n G dX6_adds_42 rfl ?_
    refine s_get (k := 36) (j := 0) G (.ref (w.1 37)) ⟨by decide, by decide⟩ (ce36 w) rfl clX6 (by decide) qw755 rfl dX6_adds_43 ?_
    refine s_iload_n G dX6_adds_46 rfl ?_
    refine s_iconst (v := 1) G dX6_adds_47 (by decide) ?_
    refine s_callSi (as := [.int v6, .int 1]) (st := [.ref (w.1 37)]) G aw_self mdX6_spotOf (fun _ h => c_X6_spotOf w O l v6 1 m41 _ h) qw834 rfl rfl (Nat.le_of_ble_eq_true rfl) (by decide) dX6_adds_48 (fun r48 => ?_)
    refine s_iconst (v := (-1)) G dX6_adds_51 (by decide) ?_
    refine s_iast (k := 37) (n := 63) G ⟨by decide, by decide⟩ (ce37 w) dX6_adds_52 (fun m52 => ?_)
    refine s_aload_n G dX6_adds_53 rfl ?_
    refine s_get (k := 36) (j := 0) G (.ref (w.1 37)) ⟨by decide, by decide⟩ (ce36 w) rfl clX6 (by decide) qw755 rfl dX6_adds_54 ?_
    refine s_iconst (v := 0) G dX6_adds_57 (by decide) ?_
    refine s_dup2 G dX6_adds_58 rfl rfl ?_
    refine s_ialdC (k := 37) (n := 63) (j := 0) G ⟨by decide, by decide⟩ (ce37 w) (by decide) (by decide) dX6_adds_59 ?_
    refine s_iconst (v := 1) G dX6_adds_60 (by decide) ?_
    refine s_iadd G dX6_adds_61 ?_
    refine s_iastC (k := 37) (n := 63) (j := 0) G ⟨by decide, by decide⟩ (ce37 w) (by decide) (by decide) dX6_adds_62 (fun m62 => ?_)
    refine s_iload_n G dX6_adds_63 rfl ?_
    exact s_iret G rfl rfl dX6_adds_64
  · unfold f_X6_adds_L9
    refine s_iload_n G dX6_adds_9 rfl ?_
    refine s_iconst (v := 5) G dX6_adds_10 (by decide) ?_
    refine s_icmp_ge (tgt := 31) G dX6_adds_11 (by decide) ?_ ?_
    · refine s_keep [true, true, true, false] (lv2 := [some (.ref (w.1 36)), some (.int a1), some (.int v6), none]) rfl ?_
      exact fun hx => hE9 z9.2 hx
    · refine s_aload_n G dX6_adds_14 rfl ?_
      refine s_get (k := 36) (j := 0) G (.ref (w.1 37)) ⟨by decide, by decide⟩ (ce36 w) rfl clX6 (by decide) qw755 rfl dX6_adds_15 ?_
      refine s_iload_n G dX6_adds_18 rfl ?_
      refine s_iload_n G dX6_adds_19 rfl ?_
      refine s_callSi (as := [.int v6, .int z9.1]) (st := [.ref (w.1 37)]) G aw_self mdX6_spotOf (fun _ h => c_X6_spotOf w O l v6 z9.1 z9.2 _ h) qw834 rfl rfl (Nat.le_of_ble_eq_true rfl) (by decide) dX6_adds_20 (fun r20 => ?_)
      refine s_iconst (v := 0) G dX6_adds_23 (by decide) ?_
      refine s_iast (k := 37) (n := 63) G ⟨by decide, by decide⟩ (ce37 w) dX6_adds_24 (fun m24 => ?_)
      refine s_iinc (v := (z9.1 + 1)) (lv2 := [some (.ref (w.1 36)), some (.int a1), some (.int v6), some (.int (z9.1 + 1))]) G dX6_adds_25 rfl rfl (by decide) rfl rfl ?_
      refine s_goto (tgt := 9) G dX6_adds_28 (by decide) ?_
      exact fun hx => hB9 ((z9.1 + 1), m24) hx

set_option maxRecDepth 100000 in
set_option maxHeartbeats 4000000 in
theorem c_X6_hanger (w : Wx) (O : Mem) (l : Launch) (a1 : Int32) (M : Mem)  (z : Int32 × Mem) (hz : f_X6_hanger a1 M = some z) : Ct w 36 48 O l 2 muX6_hanger [.ref (w.1 36), .int a1] M (some (.int z.1), z.2) := by
  refine ct_of (X := f_X6_hanger a1 M) (K := fun v => some (some (.int v.1), v.2)) [some (.ref (w.1 36)), some (.int a1)] rfl rfl (Nat.le_of_ble_eq_true rfl) (by rw [hz]; rfl) ?_
  intro p e s m args below meth c G
  unfold f_X6_hanger
  refine s_iload_n G dX6_hanger_0 rfl ?_
  refine s_callSi (as := [.int a1]) (st := []) G aw_self mdX6_isKind (fun _ h => c_X6_isKind w O l a1 M _ h) qw817 rfl rfl (Nat.le_of_ble_eq_true rfl) (by decide) dX6_hanger_1 (fun r1 => ?_)
  refine s_if_ne (tgt := 14) G dX6_hanger_4 (by decide) ?_ ?_
  · refine s_aload_n G dX6_hanger_7 rfl ?_
    refine s_ldc (v := (-1000000001)) G dX6_hanger_8 qw824 ?_
    refine s_callVI (as := [.int (-1000000001)]) (st := []) (k := 36) G aw_self mdX6_finds (fun _ h => c_X6_finds w O l (-1000000001) M _ h) ⟨by decide, by decide⟩ (ce36 w) clX6 rfl qw825 rfl rfl (Nat.le_of_ble_eq_true rfl) (by decide) dX6_hanger_10 (fun r10 => ?_)
    exact s_iret G rfl rfl dX6_hanger_13
  · refine s_aload_n G dX6_hanger_14 rfl ?_
    refine s_get (k := 36) (j := 0) G (.ref (w.1 37)) ⟨by decide, by decide⟩ (ce36 w) rfl clX6 (by decide) qw755 rfl dX6_hanger_15 ?_
    refine s_iconst (v := 0) G dX6_hanger_18 (by decide) ?_
    refine s_ialdC (k := 37) (n := 63) (j := 0) G ⟨by decide, by decide⟩ (ce37 w) (by decide) (by decide) dX6_hanger_19 ?_
    refine s_bipush (v := 12) G dX6_hanger_20 (by decide) ?_
    refine s_join 39 (fun y22 : Int32 × Mem => [none, none]) (fun y22 => [.int y22.1]) (fun y22 => y22.2) (fun y22 => ?_) (fun K22 hB22 => ?_)
    · exact s_iret G rfl rfl dX6_hanger_39
    · refine s_icmp_ne (tgt := 34) G dX6_hanger_22 (by decide) ?_ ?_
      · refine s_aload_n G dX6_hanger_25 rfl ?_
        refine s_ldc (v := (-1000000002)) G dX6_hanger_26 qw829 ?_
        refine s_callVI (as := [.int (-1000000002)]) (st := []) (k := 36) G aw_self mdX6_finds (fun _ h => c_X6_finds w O l (-1000000002) M _ h) ⟨by decide, by decide⟩ (ce36 w) clX6 rfl qw825 rfl rfl (Nat.le_of_ble_eq_true rfl) (by decide) dX6_hanger_28 (fun r28 => ?_)
        refine s_goto (tgt := 39) G dX6_hanger_31 (by decide) ?_
        refine s_keep [false, false] (lv2 := [none, none]) rfl ?_
        exact fun hx => hB22 (r28.1, r28.2) hx
      · refine s_aload_n G dX6_hanger_34 rfl ?_
        refine s_iload_n G dX6_hanger_35 rfl ?_
        refine s_callVI (as := [.int a1]) (st := []) (k := 36) G aw_self mdX6_adds (fun _ h => c_X6_adds w O l a1 M _ h) ⟨by decide, by decide⟩ (ce36 w) clX6 rfl qw830 rfl rfl (Nat.le_of_ble_eq_true rfl) (by decide) dX6_hanger_36 (fun r36 => ?_)
        refine s_keep [false, false] (lv2 := [none, none]) rfl ?_
        exact fun hx => hB22 (r36.1, r36.2) hx

set_option maxRecDepth 100000 in
set_option maxHeartbeats 4000000 in
theorem c_X6_holds (w : Wx) (O : Mem) (l : Launch) (a1 : Int32) (M : Mem)  (z : Int32) (hz : f_X6_holds a1 M = some z) : Ct w 36 48 O l 2 muX6_holds [.ref (w.1 36), .int a1] M (some (.int z), M) := by
  refine ct_of (X := f_X6_holds a1 M) (K := fun v => some (some (.int v), M)) [some (.ref (w.1 36)), some (.int a1)] rfl rfl (Nat.le_of_ble_eq_true rfl) (by rw [hz]; rfl) ?_
  intro p e s m args below meth c G
  unfold f_X6_holds
  refine s_aload_n G dX6_holds_0 rfl ?_
  refine s_iload_n G dX6_holds_1 rfl ?_
  refine s_iconst (v := 0) G dX6_holds_2 (by decide) ?_
  refine s_callVi (as := [.int a1, .int 0]) (st := []) (k := 36) G aw_self mdX6_its (fun _ h => c_X6_its w O l a1 0 M _ h) ⟨by decide, by decide⟩ (ce36 w) clX6 rfl qw846 rfl rfl (Nat.le_of_ble_eq_true rfl) (by decide) dX6_holds_3 (fun r3 => ?_)
  refine s_tabIn (v := 1) (off := 34) (tgt := 40) G dX6_holds_6 (by decide) (by decide) (by decide) (by decide) ?_ (fun h6_0 => ?_)
  · refine s_iconst (v := 3) G dX6_holds_40 (by decide) ?_
    exact s_iret G rfl rfl dX6_holds_41
  · refine s_tabIn (v := 2) (off := 36) (tgt := 42) G dX6_holds_6 (by decide) (by decide) (by decide) (by decide) ?_ (fun h6_1 => ?_)
    · refine s_bipush (v := 8) G dX6_holds_42 (by decide) ?_
      exact s_iret G rfl rfl dX6_holds_44
    · refine s_tabIn (v := 3) (off := 39) (tgt := 45) G dX6_holds_6 (by decide) (by decide) (by decide) (by decide) ?_ (fun h6_2 => ?_)
      · refine s_iconst (v := 2) G dX6_holds_45 (by decide) ?_
        exact s_iret G rfl rfl dX6_holds_46
      · refine s_tabIn (v := 4) (off := 41) (tgt := 47) G dX6_holds_6 (by decide) (by decide) (by decide) (by decide) ?_ (fun h6_3 => ?_)
        · refine s_bipush (v := 7) G dX6_holds_47 (by decide) ?_
          exact s_iret G rfl rfl dX6_holds_49
        · refine s_tabIn (v := 5) (off := 44) (tgt := 50) G dX6_holds_6 (by decide) (by decide) (by decide) (by decide) ?_ (fun h6_4 => ?_)
          · refine s_bipush (v := 9) G dX6_holds_50 (by decide) ?_
            exact s_iret G rfl rfl dX6_holds_52
          · refine s_tabOut (tgt := 53) G dX6_holds_6 (by have e0 := lv_neT (a := 1) h6_0 (by decide); have e1 := lv_neT (a := 2) h6_1 (by decide); have e2 := lv_neT (a := 3) h6_2 (by decide); have e3 := lv_neT (a := 4) h6_3 (by decide); have e4 := lv_neT (a := 5) h6_4 (by decide); omega) (by decide) ?_
            refine s_iconst (v := 5) G dX6_holds_53 (by decide) ?_
            exact s_iret G rfl rfl dX6_holds_54

set_option maxRecDepth 100000 in
set_option maxHeartbeats 4000000 in
theorem c_X6_needs (w : Wx) (O : Mem) (l : Launch) (a1 : Int32) (M : Mem)  (z : Int32) (hz : f_X6_needs a1 M = some z) : Ct w 36 48 O l 2 muX6_needs [.ref (w.1 36), .int a1] M (some (.int z), M) := by
  refine ct_of (X := f_X6_needs a1 M) (K := fun v => some (some (.int v), M)) [some (.ref (w.1 36)), some (.int a1), none] rfl rfl (Nat.le_of_ble_eq_true rfl) (by rw [hz]; rfl) ?_
  intro p e s m args below meth c G
  unfold f_X6_needs
  refine s_aload_n G dX6_needs_0 rfl ?_
  refine s_iload_n G dX6_needs_1 rfl ?_
  refine s_iconst (v := 0) G dX6_needs_2 (by decide) ?_
  refine s_callVi (as := [.int a1, .int 0]) (st := []) (k := 36) G aw_self mdX6_its (fun _ h => c_X6_its w O l a1 0 M _ h) ⟨by decide, by decide⟩ (ce36 w) clX6 rfl qw846 rfl rfl (Nat.le_of_ble_eq_true rfl) (by decide) dX6_needs_3 (fun r3 => ?_)
  refine s_istore_n (lv2 := [some (.ref (w.1 36)), some (.int a1), some (.int r3)]) G dX6_needs_6 (by decide) rfl rfl ?_
  refine s_iload_n G dX6_needs_7 rfl ?_
  refine s_iconst (v := 2) G dX6_needs_8 (by decide) ?_
  refine s_join 27 (fun y9 : Int32 => [none, none, none]) (fun y9 => [.int y9]) (fun y9 => M) (fun y9 => ?_) (fun K9 hB9 => ?_)
  · exact s_iret G rfl rfl dX6_needs_27
  · refine s_icmp_eq (tgt := 22) G dX6_needs_9 (by decide) ?_ ?_
    · refine s_iconst (v := 2) G dX6_needs_22 (by decide) ?_
      refine s_goto (tgt := 27) G dX6_needs_23 (by decide) ?_
      refine s_keep [false, false, false] (lv2 := [none, none, none]) rfl ?_
      exact fun hx => hB9 2 hx
    · refine s_iload_n G dX6_needs_12 rfl ?_
      refine s_iconst (v := 3) G dX6_needs_13 (by decide) ?_
      refine s_icmp_eq (tgt := 22) G dX6_needs_14 (by decide) ?_ ?_
      · refine s_iconst (v := 2) G dX6_needs_22 (by decide) ?_
        refine s_goto (tgt := 27) G dX6_needs_23 (by decide) ?_
        refine s_keep [false, false, false] (lv2 := [none, none, none]) rfl ?_
        exact fun hx => hB9 2 hx
      · refine s_iload_n G dX6_needs_17 rfl ?_
        refine s_iconst (v := 5) G dX6_needs_18 (by decide) ?_
        refine s_icmp_ne (tgt := 26) G dX6_needs_19 (by decide) ?_ ?_
        · refine s_iconst (v := 2) G dX6_needs_22 (by decide) ?_
          refine s_goto (tgt := 27) G dX6_needs_23 (by decide) ?_
          refine s_keep [false, false, false] (lv2 := [none, none, none]) rfl ?_
          exact fun hx => hB9 2 hx
        · refine s_iconst (v := 1) G dX6_needs_26 (by decide) ?_
          refine s_keep [false, false, false] (lv2 := [none, none, none]) rfl ?_
          exact fun hx => hB9 1 hx

set_option maxRecDepth 100000 in
set_option maxHeartbeats 4000000 in
theorem c_X6_of (w : Wx) (O : Mem) (l : Launch) (a1 : Int32) (a2 : Int32) (M : Mem)  (z : Int32 × Mem) (hz : f_X6_of a1 a2 M = some z) : Ct w 36 48 O l 3 muX6_of [.ref (w.1 36), .int a1, .int a2] M (some (.int z.1), z.2) := by
  refine ct_of (X := f_X6_of a1 a2 M) (K := fun v => some (some (.int v.1), v.2)) [some (.ref (w.1 36)), some (.int a1), some (.int a2)] rfl rfl (Nat.le_of_ble_eq_true rfl) (by rw [hz]; rfl) ?_
  intro p e s m args below meth c G
  unfold f_X6_of
  refine s_aload_n G dX6_of_0 rfl ?_
  refine s_iload_n G dX6_of_1 rfl ?_
  refine s_callVi (as := [.int a1]) (st := []) (k := 36) G aw_self mdX6_isHanger (fun _ h => c_X6_isHanger w O l a1 M _ h) ⟨by decide, by decide⟩ (ce36 w) clX6 rfl qw841 rfl rfl (Nat.le_of_ble_eq_true rfl) (by decide) dX6_of_2 (fun r2 => ?_)
  refine s_if_eq (tgt := 20) G dX6_of_5 (by decide) ?_ ?_
  · refine s_aload_n G dX6_of_20 rfl ?_
    refine s_ldc (v := (-1000000001)) G dX6_of_21 qw824 ?_
    refine s_callVI (as := [.int (-1000000001)]) (st := []) (k := 36) G aw_self mdX6_finds (fun _ h => c_X6_finds w O l (-1000000001) M _ h) ⟨by decide, by decide⟩ (ce36 w) clX6 rfl qw825 rfl rfl (Nat.le_of_ble_eq_true rfl) (by decide) dX6_of_23 (fun r23 => ?_)
    exact s_iret G rfl rfl dX6_of_26
  · refine s_iload_n G dX6_of_8 rfl ?_
    refine s_i2l G dX6_of_9 ?_
    refine s_lconst (v := 0) G dX6_of_10 (by decide) ?_
    refine s_ldc2 (v := 6) G dX6_of_11 qw845 ?_
    refine s_callSi (as := [.long a2.toInt64, .long 0, .long 6]) (st := []) G aw_self mdX6_in (fun _ h => c_X6_in w O l a2.toInt64 0 6 M _ h) qw821 rfl rfl (Nat.le_of_ble_eq_true rfl) (by decide) dX6_of_14 (fun r14 => ?_)
    refine s_if_ne (tgt := 27) G dX6_of_17 (by decide) ?_ ?_
    · refine s_aload_n G dX6_of_20 rfl ?_
      refine s_ldc (v := (-1000000001)) G dX6_of_21 qw824 ?_
      refine s_callVI (as := [.int (-1000000001)]) (st := []) (k := 36) G aw_self mdX6_finds (fun _ h => c_X6_finds w O l (-1000000001) M _ h) ⟨by decide, by decide⟩ (ce36 w) clX6 rfl qw825 rfl rfl (Nat.le_of_ble_eq_true rfl) (by decide) dX6_of_23 (fun r23 => ?_)
      exact s_iret G rfl rfl dX6_of_26
    · refine s_iload_n G dX6_of_27 rfl ?_
      refine s_iconst (v := 5) G dX6_of_28 (by decide) ?_
      refine s_join 59 (fun y29 : Int32 => [none, none, none]) (fun y29 => [.int y29]) (fun y29 => M) (fun y29 => ?_) (fun K29 hB29 => ?_)
      · exact s_iret G rfl rfl dX6_of_59
      · refine s_icmp_ge (tgt := 41) G dX6_of_29 (by decide) ?_ ?_
        · refine s_iload_n G dX6_of_41 rfl ?_
          refine s_iconst (v := 5) G dX6_of_42 (by decide) ?_
          refine s_icmp_ne (tgt := 54) G dX6_of_43 (by decide) ?_ ?_
          · refine s_aload_n G dX6_of_46 rfl ?_
            refine s_iload_n G dX6_of_47 rfl ?_
            refine s_callVi (as := [.int a1]) (st := []) (k := 36) G aw_self mdX6_holds (fun _ h => c_X6_holds w O l a1 M _ h) ⟨by decide, by decide⟩ (ce36 w) clX6 rfl qw850 rfl rfl (Nat.le_of_ble_eq_true rfl) (by decide) dX6_of_48 (fun r48 => ?_)
            refine s_goto (tgt := 59) G dX6_of_51 (by decide) ?_
            refine s_keep [false, false, false] (lv2 := [none, none, none]) rfl ?_
            exact fun hx => hB29 r48 hx
          · refine s_aload_n G dX6_of_54 rfl ?_
            refine s_iload_n G dX6_of_55 rfl ?_
            refine s_callVi (as := [.int a1]) (st := []) (k := 36) G aw_self mdX6_needs (fun _ h => c_X6_needs w O l a1 M _ h) ⟨by decide, by decide⟩ (ce36 w) clX6 rfl qw854 rfl rfl (Nat.le_of_ble_eq_true rfl) (by decide) dX6_of_56 (fun r56 => ?_)
            refine s_keep [false, false, false] (lv2 := [none, none, none]) rfl ?_
            exact fun hx => hB29 r56 hx
        · refine s_aload_n G dX6_of_32 rfl ?_
          refine s_iload_n G dX6_of_33 rfl ?_
          refine s_iload_n G dX6_of_34 rfl ?_
          refine s_callVi (as := [.int a1, .int a2]) (st := []) (k := 36) G aw_self mdX6_its (fun _ h => c_X6_its w O l a1 a2 M _ h) ⟨by decide, by decide⟩ (ce36 w) clX6 rfl qw846 rfl rfl (Nat.le_of_ble_eq_true rfl) (by decide) dX6_of_35 (fun r35 => ?_)
          refine s_goto (tgt := 59) G dX6_of_38 (by decide) ?_
          refine s_keep [false, false, false] (lv2 := [none, none, none]) rfl ?_
          exact fun hx => hB29 r35 hx

set_option maxRecDepth 100000 in
set_option maxHeartbeats 4000000 in
theorem c_X6_set (w : Wx) (O : Mem) (l : Launch) (a1 : Int32) (a2 : Int32) (a3 : Int32) (M : Mem)  (z : Int32 × Mem) (hz : f_X6_set a1 a2 a3 M = some z) : Ct w 36 48 O l 2 muX6_set [.ref (w.1 36), .int a1, .int a2, .int a3] M (some (.int z.1), z.2) := by
  refine ct_of (X := f_X6_set a1 a2 a3 M) (K := fun v => some (some (.int v.1), v.2)) [some (.ref (w.1 36)), some (.int a1), some (.int a2), some (.int a3), none] rfl rfl (Nat.le_of_ble_eq_true rfl) (by rw [hz]; rfl) ?_
  intro p e s m args below meth c G
  unfold f_X6_set
  refine s_iload_n G dX6_set_0 rfl ?_
  refine s_iconst (v := 3) G dX6_set_1 (by decide) ?_
  refine s_join 39 (fun y2 : Int32 => [some (.ref (w.1 36)), some (.int a1), some (.int a2), some (.int a3), none]) (fun y2 => [.int y2]) (fun y2 => M) (fun y2 => ?_) (fun K2 hB2 => ?_)
  · refine s_istore (lv2 := [some (.ref (w.1 36)), some (.int a1), some (.int a2), some (.int a3), some (.int y2)]) G dX6_set_39 (by decide) rfl rfl ?_
    refine s_aload_n G dX6_set_41 rfl ?_
    refine s_iload_n G dX6_set_42 rfl ?_
    refine s_callVi (as := [.int a1]) (st := []) (k := 36) G aw_self mdX6_isHanger (fun _ h => c_X6_isHanger w O l a1 M _ h) ⟨by decide, by decide⟩ (ce36 w) clX6 rfl qw841 rfl rfl (Nat.le_of_ble_eq_true rfl) (by decide) dX6_set_43 (fun r43 => ?_)
    refine s_join 73 (fun y46 : Int32 × Mem => [none, none, none, none, none]) (fun y46 => [.int y46.1]) (fun y46 => y46.2) (fun y46 => ?_) (fun K46 hB46 => ?_)
    · exact s_iret G rfl rfl dX6_set_73
    · refine s_if_eq (tgt := 67) G dX6_set_46 (by decide) ?_ ?_
      · refine s_aload_n G dX6_set_67 rfl ?_
        refine s_ldc (v := (-1000000001)) G dX6_set_68 qw824 ?_
        refine s_callVI (as := [.int (-1000000001)]) (st := []) (k := 36) G aw_self mdX6_finds (fun _ h => c_X6_finds w O l (-1000000001) M _ h) ⟨by decide, by decide⟩ (ce36 w) clX6 rfl qw825 rfl rfl (Nat.le_of_ble_eq_true rfl) (by decide) dX6_set_70 (fun r70 => ?_)
        refine s_keep [false, false, false, false, false] (lv2 := [none, none, none, none, none]) rfl ?_
        exact fun hx => hB46 (r70.1, r70.2) hx
      · refine s_iload G dX6_set_49 rfl ?_
        refine s_if_eq (tgt := 67) G dX6_set_51 (by decide) ?_ ?_
        · refine s_aload_n G dX6_set_67 rfl ?_
          refine s_ldc (v := (-1000000001)) G dX6_set_68 qw824 ?_
          refine s_callVI (as := [.int (-1000000001)]) (st := []) (k := 36) G aw_self mdX6_finds (fun _ h => c_X6_finds w O l (-1000000001) M _ h) ⟨by decide, by decide⟩ (ce36 w) clX6 rfl qw825 rfl rfl (Nat.le_of_ble_eq_true rfl) (by decide) dX6_set_70 (fun r70 => ?_)
          refine s_keep [false, false, false, false, false] (lv2 := [none, none, none, none, none]) rfl ?_
          exact fun hx => hB46 (r70.1, r70.2) hx
        · refine s_aload_n G dX6_set_54 rfl ?_
          refine s_iload_n G dX6_set_55 rfl ?_
          refine s_iload_n G dX6_set_56 rfl ?_
          refine s_callSi (as := [.int a1, .int a2]) (st := [.ref (w.1 36)]) G aw_self mdX6_spotOf (fun _ h => c_X6_spotOf w O l a1 a2 M _ h) qw834 rfl rfl (Nat.le_of_ble_eq_true rfl) (by decide) dX6_set_57 (fun r57 => ?_)
          refine s_iload_n G dX6_set_60 rfl ?_
          refine s_callVI (as := [.int r57, .int a3]) (st := []) (k := 36) G aw_self mdX6_becomes (fun _ h => c_X6_becomes w O l r57 a3 M _ h) ⟨by decide, by decide⟩ (ce36 w) clX6 rfl qw864 rfl rfl (Nat.le_of_ble_eq_true rfl) (by decide) dX6_set_61 (fun r61 => ?_)
          refine s_goto (tgt := 73) G dX6_set_64 (by decide) ?_
          refine s_keep [false, false, false, false, false] (lv2 := [none, none, none, none, none]) rfl ?_
          exact fun hx => hB46 (r61.1, r61.2) hx
  · refine s_icmp_ne (tgt := 17) G dX6_set_2 (by decide) ?_ ?_
    · refine s_iload_n G dX6_set_5 rfl ?_
      refine s_i2l G dX6_set_6 ?_
      refine s_lconst (v := 0) G dX6_set_7 (by decide) ?_
      refine s_ldc2 (v := 9) G dX6_set_8 qw862 ?_
      refine s_callSi (as := [.long a3.toInt64, .long 0, .long 9]) (st := []) G aw_self mdX6_in (fun _ h => c_X6_in w O l a3.toInt64 0 9 M _ h) qw821 rfl rfl (Nat.le_of_ble_eq_true rfl) (by decide) dX6_set_11 (fun r11 => ?_)
      refine s_goto (tgt := 39) G dX6_set_14 (by decide) ?_
      exact fun hx => hB2 r11 hx
    · refine s_iload_n G dX6_set_17 rfl ?_
      refine s_iconst (v := 4) G dX6_set_18 (by decide) ?_
      refine s_icmp_ne (tgt := 38) G dX6_set_19 (by decide) ?_ ?_
      · refine s_iload_n G dX6_set_22 rfl ?_
        refine s_i2l G dX6_set_23 ?_
        refine s_lconst (v := 0) G dX6_set_24 (by decide) ?_
        refine s_ldc2 (v := 15) G dX6_set_25 qw863 ?_
        refine s_callSi (as := [.long a3.toInt64, .long 0, .long 15]) (st := []) G aw_self mdX6_in (fun _ h => c_X6_in w O l a3.toInt64 0 15 M _ h) qw821 rfl rfl (Nat.le_of_ble_eq_true rfl) (by decide) dX6_set_28 (fun r28 => ?_)
        refine s_if_eq (tgt := 38) G dX6_set_31 (by decide) ?_ ?_
        · refine s_iconst (v := 0) G dX6_set_38 (by decide) ?_
          exact fun hx => hB2 0 hx
        · refine s_iconst (v := 1) G dX6_set_34 (by decide) ?_
          refine s_goto (tgt := 39) G dX6_set_35 (by decide) ?_
          exact fun hx => hB2 1 hx
      · refine s_iconst (v := 0) G dX6_set_38 (by decide) ?_
        exact fun hx => hB2 0 hx

set_option maxRecDepth 100000 in
set_option maxHeartbeats 4000000 in
theorem c_X6_turn (w : Wx) (O : Mem) (l : Launch) (a1 : Int32) (a2 : Int32) (M : Mem)  (z : Int32 × Mem) (hz : f_X6_turn a1 a2 M = some z) : Ct w 36 48 O l 2 muX6_turn [.ref (w.1 36), .int a1, .int a2] M (some (.int z.1), z.2) := by
  refine ct_of (X := f_X6_turn a1 a2 M) (K := fun v => some (some (.int v.1), v.2)) [some (.ref (w.1 36)), some (.int a1), some (.int a2)] rfl rfl (Nat.le_of_ble_eq_true rfl) (by rw [hz]; rfl) ?_
  intro p e s m args below meth c G
  unfold f_X6_turn
  refine s_aload_n G dX6_turn_0 rfl ?_
  refine s_iload_n G dX6_turn_1 rfl ?_
  refine s_callVi (as := [.int a1]) (st := []) (k := 36) G aw_self mdX6_isHanger (fun _ h => c_X6_isHanger w O l a1 M _ h) ⟨by decide, by decide⟩ (ce36 w) clX6 rfl qw841 rfl rfl (Nat.le_of_ble_eq_true rfl) (by decide) dX6_turn_2 (fun r2 => ?_)
  refine s_join 34 (fun y5 : Int32 × Mem => [none, none, none]) (fun y5 => [.int y5.1]) (fun y5 => y5.2) (fun y5 => ?_) (fun K5 hB5 => ?_)
  · exact s_iret G rfl rfl dX6_turn_34
  · refine s_if_eq (tgt := 28) G dX6_turn_5 (by decide) ?_ ?_
    · refine s_aload_n G dX6_turn_28 rfl ?_
      refine s_ldc (v := (-1000000001)) G dX6_turn_29 qw824 ?_
      refine s_callVI (as := [.int (-1000000001)]) (st := []) (k := 36) G aw_self mdX6_finds (fun _ h => c_X6_finds w O l (-1000000001) M _ h) ⟨by decide, by decide⟩ (ce36 w) clX6 rfl qw825 rfl rfl (Nat.le_of_ble_eq_true rfl) (by decide) dX6_turn_31 (fun r31 => ?_)
      refine s_keep [false, false, false] (lv2 := [none, none, none]) rfl ?_
      exact fun hx => hB5 (r31.1, r31.2) hx
    · refine s_iload_n G dX6_turn_8 rfl ?_
      refine s_callSi (as := [.int a2]) (st := []) G aw_self mdX6_isKind (fun _ h => c_X6_isKind w O l a2 M _ h) qw817 rfl rfl (Nat.le_of_ble_eq_true rfl) (by decide) dX6_turn_9 (fun r9 => ?_)
      refine s_if_eq (tgt := 28) G dX6_turn_12 (by decide) ?_ ?_
      · refine s_aload_n G dX6_turn_28 rfl ?_
        refine s_ldc (v := (-1000000001)) G dX6_turn_29 qw824 ?_
        refine s_callVI (as := [.int (-1000000001)]) (st := []) (k := 36) G aw_self mdX6_finds (fun _ h => c_X6_finds w O l (-1000000001) M _ h) ⟨by decide, by decide⟩ (ce36 w) clX6 rfl qw825 rfl rfl (Nat.le_of_ble_eq_true rfl) (by decide) dX6_turn_31 (fun r31 => ?_)
        refine s_keep [false, false, false] (lv2 := [none, none, none]) rfl ?_
        exact fun hx => hB5 (r31.1, r31.2) hx
      · refine s_aload_n G dX6_turn_15 rfl ?_
        refine s_iload_n G dX6_turn_16 rfl ?_
        refine s_iconst (v := 0) G dX6_turn_17 (by decide) ?_
        refine s_callSi (as := [.int a1, .int 0]) (st := [.ref (w.1 36)]) G aw_self mdX6_spotOf (fun _ h => c_X6_spotOf w O l a1 0 M _ h) qw834 rfl rfl (Nat.le_of_ble_eq_true rfl) (by decide) dX6_turn_18 (fun r18 => ?_)
        refine s_iload_n G dX6_turn_21 rfl ?_
        refine s_callVI (as := [.int r18, .int a2]) (st := []) (k := 36) G aw_self mdX6_becomes (fun _ h => c_X6_becomes w O l r18 a2 M _ h) ⟨by decide, by decide⟩ (ce36 w) clX6 rfl qw864 rfl rfl (Nat.le_of_ble_eq_true rfl) (by decide) dX6_turn_22 (fun r22 => ?_)
        refine s_goto (tgt := 34) G dX6_turn_25 (by decide) ?_
        refine s_keep [false, false, false] (lv2 := [none, none, none]) rfl ?_
        exact fun hx => hB5 (r22.1, r22.2) hx

set_option maxRecDepth 100000 in
set_option maxHeartbeats 4000000 in
theorem c_X6_isUnder (w : Wx) (O : Mem) (l : Launch) (a0 : Int32) (a1 : Int32) (M : Mem)  (z : Int32) (hz : f_X6_isUnder a0 a1 = some z) : Ct w 36 48 O l 0 muX6_isUnder [.int a0, .int a1] M (some (.int z), M) := by
  refine ct_of (X := f_X6_isUnder a0 a1) (K := fun v => some (some (.int v), M)) [some (.int a0), some (.int a1)] rfl rfl (Nat.le_of_ble_eq_true rfl) (by rw [hz]; rfl) ?_
  intro p e s m args below meth c G
  unfold f_X6_isUnder
  refine s_iload_n G dX6_isUnder_0 rfl ?_
  refine s_join 39 (fun y1 : Int32 => [none, none]) (fun y1 => [.int y1]) (fun y1 => M) (fun y1 => ?_) (fun K1 hB1 => ?_)
  · refine s_test (fun h39 => ?_)
    exact s_zret G rfl (zb_nar h39) rfl dX6_isUnder_39
  · refine s_if_eq (tgt := 34) G dX6_isUnder_1 (by decide) ?_ ?_
    · refine s_iconst (v := 1) G dX6_isUnder_34 (by decide) ?_
      refine s_goto (tgt := 39) G dX6_isUnder_35 (by decide) ?_
      refine s_keep [false, false] (lv2 := [none, none]) rfl ?_
      exact fun hx => hB1 1 hx
    · refine s_iload_n G dX6_isUnder_4 rfl ?_
      refine s_iload_n G dX6_isUnder_5 rfl ?_
      refine s_icmp_eq (tgt := 34) G dX6_isUnder_6 (by decide) ?_ ?_
      · refine s_iconst (v := 1) G dX6_isUnder_34 (by decide) ?_
        refine s_goto (tgt := 39) G dX6_isUnder_35 (by decide) ?_
        refine s_keep [false, false] (lv2 := [none, none]) rfl ?_
        exact fun hx => hB1 1 hx
      · refine s_iload_n G dX6_isUnder_9 rfl ?_
        refine s_iconst (v := 3) G dX6_isUnder_10 (by decide) ?_
        refine s_icmp_eq (tgt := 19) G dX6_isUnder_11 (by decide) ?_ ?_
        · refine s_iload_n G dX6_isUnder_19 rfl ?_
          refine s_iconst (v := 1) G dX6_isUnder_20 (by decide) ?_
          refine s_icmp_eq (tgt := 34) G dX6_isUnder_21 (by decide) ?_ ?_
          · refine s_iconst (v := 1) G dX6_isUnder_34 (by decide) ?_
            refine s_goto (tgt := 39) G dX6_isUnder_35 (by decide) ?_
            refine s_keep [false, false] (lv2 := [none, none]) rfl ?_
            exact fun hx => hB1 1 hx
          · refine s_iload_n G dX6_isUnder_24 rfl ?_
            refine s_iconst (v := 5) G dX6_isUnder_25 (by decide) ?_
            refine s_icmp_ne (tgt := 38) G dX6_isUnder_26 (by decide) ?_ ?_
            · refine s_iload_n G dX6_isUnder_29 rfl ?_
              refine s_iconst (v := 2) G dX6_isUnder_30 (by decide) ?_
              refine s_icmp_ne (tgt := 38) G dX6_isUnder_31 (by decide) ?_ ?_
              · refine s_iconst (v := 1) G dX6_isUnder_34 (by decide) ?_
                refine s_goto (tgt := 39) G dX6_isUnder_35 (by decide) ?_
                refine s_keep [false, false] (lv2 := [none, none]) rfl ?_
                exact fun hx => hB1 1 hx
              · refine s_iconst (v := 0) G dX6_isUnder_38 (by decide) ?_
                refine s_keep [false, false] (lv2 := [none, none]) rfl ?_
                exact fun hx => hB1 0 hx
            · refine s_iconst (v := 0) G dX6_isUnder_38 (by decide) ?_
              refine s_keep [false, false] (lv2 := [none, none]) rfl ?_
              exact fun hx => hB1 0 hx
        · refine s_iload_n G dX6_isUnder_14 rfl ?_
          refine s_iconst (v := 4) G dX6_isUnder_15 (by decide) ?_
          refine s_icmp_ne (tgt := 24) G dX6_isUnder_16 (by decide) ?_ ?_
          · refine s_iload_n G dX6_isUnder_19 rfl ?_
            refine s_iconst (v := 1) G dX6_isUnder_20 (by decide) ?_
            refine s_icmp_eq (tgt := 34) G dX6_isUnder_21 (by decide) ?_ ?_
            · refine s_iconst (v := 1) G dX6_isUnder_34 (by decide) ?_
              refine s_goto (tgt := 39) G dX6_isUnder_35 (by decide) ?_
              refine s_keep [false, false] (lv2 := [none, none]) rfl ?_
              exact fun hx => hB1 1 hx
            · refine s_iload_n G dX6_isUnder_24 rfl ?_
              refine s_iconst (v := 5) G dX6_isUnder_25 (by decide) ?_
              refine s_icmp_ne (tgt := 38) G dX6_isUnder_26 (by decide) ?_ ?_
              · refine s_iload_n G dX6_isUnder_29 rfl ?_
                refine s_iconst (v := 2) G dX6_isUnder_30 (by decide) ?_
                refine s_icmp_ne (tgt := 38) G dX6_isUnder_31 (by decide) ?_ ?_
                · refine s_iconst (v := 1) G dX6_isUnder_34 (by decide) ?_
                  refine s_goto (tgt := 39) G dX6_isUnder_35 (by decide) ?_
                  refine s_keep [false, false] (lv2 := [none, none]) rfl ?_
                  exact fun hx => hB1 1 hx
                · refine s_iconst (v := 0) G dX6_isUnder_38 (by decide) ?_
                  refine s_keep [false, false] (lv2 := [none, none]) rfl ?_
                  exact fun hx => hB1 0 hx
              · refine s_iconst (v := 0) G dX6_isUnder_38 (by decide) ?_
                refine s_keep [false, false] (lv2 := [none, none]) rfl ?_
                exact fun hx => hB1 0 hx
          · refine s_iload_n G dX6_isUnder_24 rfl ?_
            refine s_iconst (v := 5) G dX6_isUnder_25 (by decide) ?_
            refine s_icmp_ne (tgt := 38) G dX6_isUnder_26 (by decide) ?_ ?_
            · refine s_iload_n G dX6_isUnder_29 rfl ?_
              refine s_iconst (v := 2) G dX6_isUnder_30 (by decide) ?_
              refine s_icmp_ne (tgt := 38) G dX6_isUnder_31 (by decide) ?_ ?_
              · refine s_iconst (v := 1) G dX6_isUnder_34 (by decide) ?_
                refine s_goto (tgt := 39) G dX6_isUnder_35 (by decide) ?_
                refine s_keep [false, false] (lv2 := [none, none]) rfl ?_
                exact fun hx => hB1 1 hx
              · refine s_iconst (v := 0) G dX6_isUnder_38 (by decide) ?_
                refine s_keep [false, false] (lv2 := [none, none]) rfl ?_
                exact fun hx => hB1 0 hx
            · refine s_iconst (v := 0) G dX6_isUnder_38 (by decide) ?_
              refine s_keep [false, false] (lv2 := [none, none]) rfl ?_
              exact fun hx => hB1 0 hx

set_option maxRecDepth 100000 in
set_option maxHeartbeats 4000000 in
theorem c_X6_as (w : Wx) (O : Mem) (l : Launch) (a1 : Int32) (a2 : Int32) (M : Mem)  (z : Int32 × Mem) (hz : f_X6_as a1 a2 M = some z) : Ct w 36 48 O l 2 muX6_as [.ref (w.1 36), .int a1, .int a2] M (some (.int z.1), z.2) := by
  refine ct_of (X := f_X6_as a1 a2 M) (K := fun v => some (some (.int v.1), v.2)) [some (.ref (w.1 36)), some (.int a1), some (.int a2)] rfl rfl (Nat.le_of_ble_eq_true rfl) (by rw [hz]; rfl) ?_
  intro p e s m args below meth c G
  unfold f_X6_as
  refine s_aload_n G dX6_as_0 rfl ?_
  refine s_iload_n G dX6_as_1 rfl ?_
  refine s_callVi (as := [.int a1]) (st := []) (k := 36) G aw_self mdX6_isHanger (fun _ h => c_X6_isHanger w O l a1 M _ h) ⟨by decide, by decide⟩ (ce36 w) clX6 rfl qw841 rfl rfl (Nat.le_of_ble_eq_true rfl) (by decide) dX6_as_2 (fun r2 => ?_)
  refine s_if_eq (tgt := 15) G dX6_as_5 (by decide) ?_ ?_
  · refine s_aload_n G dX6_as_15 rfl ?_
    refine s_ldc (v := (-1000000001)) G dX6_as_16 qw824 ?_
    refine s_callVI (as := [.int (-1000000001)]) (st := []) (k := 36) G aw_self mdX6_finds (fun _ h => c_X6_finds w O l (-1000000001) M _ h) ⟨by decide, by decide⟩ (ce36 w) clX6 rfl qw825 rfl rfl (Nat.le_of_ble_eq_true rfl) (by decide) dX6_as_18 (fun r18 => ?_)
    exact s_iret G rfl rfl dX6_as_21
  · refine s_iload_n G dX6_as_8 rfl ?_
    refine s_callSi (as := [.int a2]) (st := []) G aw_self mdX6_isKind (fun _ h => c_X6_isKind w O l a2 M _ h) qw817 rfl rfl (Nat.le_of_ble_eq_true rfl) (by decide) dX6_as_9 (fun r9 => ?_)
    refine s_if_ne (tgt := 22) G dX6_as_12 (by decide) ?_ ?_
    · refine s_aload_n G dX6_as_15 rfl ?_
      refine s_ldc (v := (-1000000001)) G dX6_as_16 qw824 ?_
      refine s_callVI (as := [.int (-1000000001)]) (st := []) (k := 36) G aw_self mdX6_finds (fun _ h => c_X6_finds w O l (-1000000001) M _ h) ⟨by decide, by decide⟩ (ce36 w) clX6 rfl qw825 rfl rfl (Nat.le_of_ble_eq_true rfl) (by decide) dX6_as_18 (fun r18 => ?_)
      exact s_iret G rfl rfl dX6_as_21
    · refine s_aload_n G dX6_as_22 rfl ?_
      refine s_iload_n G dX6_as_23 rfl ?_
      refine s_iconst (v := 0) G dX6_as_24 (by decide) ?_
      refine s_callVi (as := [.int a1, .int 0]) (st := []) (k := 36) G aw_self mdX6_its (fun _ h => c_X6_its w O l a1 0 M _ h) ⟨by decide, by decide⟩ (ce36 w) clX6 rfl qw846 rfl rfl (Nat.le_of_ble_eq_true rfl) (by decide) dX6_as_25 (fun r25 => ?_)
      refine s_iload_n G dX6_as_28 rfl ?_
      refine s_callSi (as := [.int r25, .int a2]) (st := []) G aw_self mdX6_isUnder (fun _ h => c_X6_isUnder w O l r25 a2 M _ h) qw876 rfl rfl (Nat.le_of_ble_eq_true rfl) (by decide) dX6_as_29 (fun r29 => ?_)
      refine s_join 50 (fun y32 : Int32 × Mem => [none, none, none]) (fun y32 => [.int y32.1]) (fun y32 => y32.2) (fun y32 => ?_) (fun K32 hB32 => ?_)
      · exact s_iret G rfl rfl dX6_as_50
      · refine s_if_eq (tgt := 44) G dX6_as_32 (by decide) ?_ ?_
        · refine s_aload_n G dX6_as_44 rfl ?_
          refine s_ldc (v := (-1000000003)) G dX6_as_45 qw879 ?_
          refine s_callVI (as := [.int (-1000000003)]) (st := []) (k := 36) G aw_self mdX6_finds (fun _ h => c_X6_finds w O l (-1000000003) M _ h) ⟨by decide, by decide⟩ (ce36 w) clX6 rfl qw825 rfl rfl (Nat.le_of_ble_eq_true rfl) (by decide) dX6_as_47 (fun r47 => ?_)
          refine s_keep [false, false, false] (lv2 := [none, none, none]) rfl ?_
          exact fun hx => hB32 (r47.1, r47.2) hx
        · refine s_aload_n G dX6_as_35 rfl ?_
          refine s_iload_n G dX6_as_36 rfl ?_
          refine s_iconst (v := 3) G dX6_as_37 (by decide) ?_
          refine s_callVi (as := [.int a1, .int 3]) (st := []) (k := 36) G aw_self mdX6_its (fun _ h => c_X6_its w O l a1 3 M _ h) ⟨by decide, by decide⟩ (ce36 w) clX6 rfl qw846 rfl rfl (Nat.le_of_ble_eq_true rfl) (by decide) dX6_as_38 (fun r38 => ?_)
          refine s_goto (tgt := 50) G dX6_as_41 (by decide) ?_
          refine s_keep [false, false, false] (lv2 := [none, none, none]) rfl ?_
          exact fun hx => hB32 (r38, M) hx

set_option maxRecDepth 100000 in
set_option maxHeartbeats 4000000 in
theorem c_X6_price (w : Wx) (O : Mem) (l : Launch) (a1 : Int32) (M : Mem)  (z : Int32 × Mem) (hz : f_X6_price a1 M = some z) : Ct w 36 48 O l 1 muX6_price [.ref (w.1 36), .int a1] M (some (.int z.1), z.2) := by
  refine ct_of (X := f_X6_price a1 M) (K := fun v => some (some (.int v.1), v.2)) [some (.ref (w.1 36)), some (.int a1)] rfl rfl (Nat.le_of_ble_eq_true rfl) (by rw [hz]; rfl) ?_
  intro p e s m args below meth c G
  unfold f_X6_price
  refine s_iload_n G dX6_price_0 rfl ?_
  refine s_i2l G dX6_price_1 ?_
  refine s_lconst (v := 0) G dX6_price_2 (by decide) ?_
  refine s_ldc2 (v := 99) G dX6_price_3 qw884 ?_
  refine s_callSi (as := [.long a1.toInt64, .long 0, .long 99]) (st := []) G aw_self mdX6_in (fun _ h => c_X6_in w O l a1.toInt64 0 99 M _ h) qw821 rfl rfl (Nat.le_of_ble_eq_true rfl) (by decide) dX6_price_6 (fun r6 => ?_)
  refine s_join 27 (fun y9 : Int32 × Mem => [none, none]) (fun y9 => [.int y9.1]) (fun y9 => y9.2) (fun y9 => ?_) (fun K9 hB9 => ?_)
  · exact s_iret G rfl rfl dX6_price_27
  · refine s_if_eq (tgt := 21) G dX6_price_9 (by decide) ?_ ?_
    · refine s_aload_n G dX6_price_21 rfl ?_
      refine s_ldc (v := (-1000000001)) G dX6_price_22 qw824 ?_
      refine s_callVI (as := [.int (-1000000001)]) (st := []) (k := 36) G aw_self mdX6_finds (fun _ h => c_X6_finds w O l (-1000000001) M _ h) ⟨by decide, by decide⟩ (ce36 w) clX6 rfl qw825 rfl rfl (Nat.le_of_ble_eq_true rfl) (by decide) dX6_price_24 (fun r24 => ?_)
      refine s_keep [false, false] (lv2 := [none, none]) rfl ?_
      exact fun hx => hB9 (r24.1, r24.2) hx
    · refine s_aload_n G dX6_price_12 rfl ?_
      refine s_iconst (v := 2) G dX6_price_13 (by decide) ?_
      refine s_iload_n G dX6_price_14 rfl ?_
      refine s_callVI (as := [.int 2, .int a1]) (st := []) (k := 36) G aw_self mdX6_becomes (fun _ h => c_X6_becomes w O l 2 a1 M _ h) ⟨by decide, by decide⟩ (ce36 w) clX6 rfl qw864 rfl rfl (Nat.le_of_ble_eq_true rfl) (by decide) dX6_price_15 (fun r15 => ?_)
      refine s_goto (tgt := 27) G dX6_price_18 (by decide) ?_
      refine s_keep [false, false] (lv2 := [none, none]) rfl ?_
      exact fun hx => hB9 (r15.1, r15.2) hx

set_option maxRecDepth 100000 in
set_option maxHeartbeats 4000000 in
theorem c_X6_who (w : Wx) (O : Mem) (l : Launch) (a1 : Int32) (M : Mem)  (z : Int32) (hz : f_X6_who a1 M = some z) : Ct w 36 48 O l 2 muX6_who [.ref (w.1 36), .int a1] M (some (.int z), M) := by
  refine ct_of (X := f_X6_who a1 M) (K := fun v => some (some (.int v), M)) [some (.ref (w.1 36)), some (.int a1), none, none] rfl rfl (Nat.le_of_ble_eq_true rfl) (by rw [hz]; rfl) ?_
  intro p e s m args below meth c G
  unfold f_X6_who
  refine s_iconst (v := (-1)) G dX6_who_0 (by decide) ?_
  refine s_istore_n (lv2 := [some (.ref (w.1 36)), some (.int a1), some (.int (-1)), none]) G dX6_who_1 (by decide) rfl rfl ?_
  refine s_iconst (v := 0) G dX6_who_2 (by decide) ?_
  refine s_istore_n (lv2 := [some (.ref (w.1 36)), some (.int a1), some (.int (-1)), some (.int 0)]) G dX6_who_3 (by decide) rfl rfl ?_
  refine s_loopG (lvf := fun z4 : Int32 × Int32 => [some (.ref (w.1 36)), some (.int a1), some (.int z4.1), some (.int z4.2)]) (Mf := fun z4 : Int32 × Int32 => M) (ex := (fun x4_36 : Int32 => (36, [none, none, some (.int x4_36), none], M))) (el_one 36 (fun x4_36 : Int32 => [none, none, some (.int x4_36), none]) (fun x4_36 : Int32 => M) (fun x4_36 => ?_)) (fun z4 K4 hB4 hE4 => ?_)
  · refine s_iload_n G dX6_who_36 rfl ?_
    exact s_iret G rfl rfl dX6_who_37
  · unfold f_X6_who_L4
    refine s_iload_n G dX6_who_4 rfl ?_
    refine s_aload_n G dX6_who_5 rfl ?_
    refine s_get (k := 36) (j := 0) G (.ref (w.1 37)) ⟨by decide, by decide⟩ (ce36 w) rfl clX6 (by decide) qw755 rfl dX6_who_6 ?_
    refine s_iconst (v := 0) G dX6_who_9 (by decide) ?_
    refine s_ialdC (k := 37) (n := 63) (j := 0) G ⟨by decide, by decide⟩ (ce37 w) (by decide) (by decide) dX6_who_10 ?_
    refine s_icmp_ge (tgt := 36) G dX6_who_11 (by decide) ?_ ?_
    · refine s_keep [false, false, true, false] (lv2 := [none, none, some (.int z4.1), none]) rfl ?_
      exact fun hx => hE4 z4.1 hx
    · refine s_aload_n G dX6_who_14 rfl ?_
      refine s_iload_n G dX6_who_15 rfl ?_
      refine s_iconst (v := 1) G dX6_who_16 (by decide) ?_
      refine s_callVi (as := [.int z4.2, .int 1]) (st := []) (k := 36) G aw_self mdX6_its (fun _ h => c_X6_its w O l z4.2 1 M _ h) ⟨by decide, by decide⟩ (ce36 w) clX6 rfl qw846 rfl rfl (Nat.le_of_ble_eq_true rfl) (by decide) dX6_who_17 (fun r17 => ?_)
      refine s_iload_n G dX6_who_20 rfl ?_
      refine s_join 29 (fun y21 : Int32 => [some (.ref (w.1 36)), some (.int a1), none, some (.int z4.2)]) (fun y21 => [.int y21]) (fun y21 => M) (fun y21 => ?_) (fun K21 hB21 => ?_)
      · refine s_istore_n (lv2 := [some (.ref (w.1 36)), some (.int a1), some (.int y21), some (.int z4.2)]) G dX6_who_29 (by decide) rfl rfl ?_
        refine s_iinc (v := (z4.2 + 1)) (lv2 := [some (.ref (w.1 36)), some (.int a1), some (.int y21), some (.int (z4.2 + 1))]) G dX6_who_30 rfl rfl (by decide) rfl rfl ?_
        refine s_goto (tgt := 4) G dX6_who_33 (by decide) ?_
        exact fun hx => hB4 (y21, (z4.2 + 1)) hx
      · refine s_icmp_ne (tgt := 28) G dX6_who_21 (by decide) ?_ ?_
        · refine s_iload_n G dX6_who_24 rfl ?_
          refine s_goto (tgt := 29) G dX6_who_25 (by decide) ?_
          refine s_keep [true, true, false, true] (lv2 := [some (.ref (w.1 36)), some (.int a1), none, some (.int z4.2)]) rfl ?_
          exact fun hx => hB21 z4.2 hx
        · refine s_iload_n G dX6_who_28 rfl ?_
          refine s_keep [true, true, false, true] (lv2 := [some (.ref (w.1 36)), some (.int a1), none, some (.int z4.2)]) rfl ?_
          exact fun hx => hB21 z4.1 hx

set_option maxRecDepth 100000 in
set_option maxHeartbeats 4000000 in
theorem c_X6_isFree (w : Wx) (O : Mem) (l : Launch) (a1 : Int32) (M : Mem)  (z : Int32) (hz : f_X6_isFree a1 M = some z) : Ct w 36 48 O l 3 muX6_isFree [.ref (w.1 36), .int a1] M (some (.int z), M) := by
  refine ct_of (X := f_X6_isFree a1 M) (K := fun v => some (some (.int v), M)) [some (.ref (w.1 36)), some (.int a1)] rfl rfl (Nat.le_of_ble_eq_true rfl) (by rw [hz]; rfl) ?_
  intro p e s m args below meth c G
  unfold f_X6_isFree
  refine s_iload_n G dX6_isFree_0 rfl ?_
  refine s_callSi (as := [.int a1]) (st := []) G aw_self mdX6_isPlace (fun _ h => c_X6_isPlace w O l a1 M _ h) qw889 rfl rfl (Nat.le_of_ble_eq_true rfl) (by decide) dX6_isFree_1 (fun r1 => ?_)
  refine s_join 20 (fun y4 : Int32 => [none, none]) (fun y4 => [.int y4]) (fun y4 => M) (fun y4 => ?_) (fun K4 hB4 => ?_)
  · refine s_test (fun h20 => ?_)
    exact s_zret G rfl (zb_nar h20) rfl dX6_isFree_20
  · refine s_if_eq (tgt := 19) G dX6_isFree_4 (by decide) ?_ ?_
    · refine s_iconst (v := 0) G dX6_isFree_19 (by decide) ?_
      refine s_keep [false, false] (lv2 := [none, none]) rfl ?_
      exact fun hx => hB4 0 hx
    · refine s_aload_n G dX6_isFree_7 rfl ?_
      refine s_iload_n G dX6_isFree_8 rfl ?_
      refine s_callVi (as := [.int a1]) (st := []) (k := 36) G aw_self mdX6_who (fun _ h => c_X6_who w O l a1 M _ h) ⟨by decide, by decide⟩ (ce36 w) clX6 rfl qw893 rfl rfl (Nat.le_of_ble_eq_true rfl) (by decide) dX6_isFree_9 (fun r9 => ?_)
      refine s_if_ge (tgt := 19) G dX6_isFree_12 (by decide) ?_ ?_
      · refine s_iconst (v := 0) G dX6_isFree_19 (by decide) ?_
        refine s_keep [false, false] (lv2 := [none, none]) rfl ?_
        exact fun hx => hB4 0 hx
      · refine s_iconst (v := 1) G dX6_isFree_15 (by decide) ?_
        refine s_goto (tgt := 20) G dX6_isFree_16 (by decide) ?_
        refine s_keep [false, false] (lv2 := [none, none]) rfl ?_
        exact fun hx => hB4 1 hx

set_option maxRecDepth 100000 in
set_option maxHeartbeats 4000000 in
theorem c_X6_at (w : Wx) (O : Mem) (l : Launch) (a1 : Int32) (M : Mem)  (z : Int32 × Mem) (hz : f_X6_at a1 M = some z) : Ct w 36 48 O l 3 muX6_at [.ref (w.1 36), .int a1] M (some (.int z.1), z.2) := by
  refine ct_of (X := f_X6_at a1 M) (K := fun v => some (some (.int v.1), v.2)) [some (.ref (w.1 36)), some (.int a1), none] rfl rfl (Nat.le_of_ble_eq_true rfl) (by rw [hz]; rfl) ?_
  intro p e s m args below meth c G
  unfold f_X6_at
  refine s_iload_n G dX6_at_0 rfl ?_
  refine s_callSi (as := [.int a1]) (st := []) G aw_self mdX6_isPlace (fun _ h => c_X6_isPlace w O l a1 M _ h) qw889 rfl rfl (Nat.le_of_ble_eq_true rfl) (by decide) dX6_at_1 (fun r1 => ?_)
  refine s_if_ne (tgt := 14) G dX6_at_4 (by decide) ?_ ?_
  · refine s_aload_n G dX6_at_7 rfl ?_
    refine s_ldc (v := (-1000000001)) G dX6_at_8 qw824 ?_
    refine s_callVI (as := [.int (-1000000001)]) (st := []) (k := 36) G aw_self mdX6_finds (fun _ h => c_X6_finds w O l (-1000000001) M _ h) ⟨by decide, by decide⟩ (ce36 w) clX6 rfl qw825 rfl rfl (Nat.le_of_ble_eq_true rfl) (by decide) dX6_at_10 (fun r10 => ?_)
    exact s_iret G rfl rfl dX6_at_13
  · refine s_aload_n G dX6_at_14 rfl ?_
    refine s_iload_n G dX6_at_15 rfl ?_
    refine s_callVi (as := [.int a1]) (st := []) (k := 36) G aw_self mdX6_who (fun _ h => c_X6_who w O l a1 M _ h) ⟨by decide, by decide⟩ (ce36 w) clX6 rfl qw893 rfl rfl (Nat.le_of_ble_eq_true rfl) (by decide) dX6_at_16 (fun r16 => ?_)
    refine s_istore_n (lv2 := [some (.ref (w.1 36)), some (.int a1), some (.int r16)]) G dX6_at_19 (by decide) rfl rfl ?_
    refine s_iload_n G dX6_at_20 rfl ?_
    refine s_join 34 (fun y21 : Int32 × Mem => [none, none, none]) (fun y21 => [.int y21.1]) (fun y21 => y21.2) (fun y21 => ?_) (fun K21 hB21 => ?_)
    · exact s_iret G rfl rfl dX6_at_34
    · refine s_if_ge (tgt := 33) G dX6_at_21 (by decide) ?_ ?_
      · refine s_iload_n G dX6_at_33 rfl ?_
        refine s_keep [false, false, false] (lv2 := [none, none, none]) rfl ?_
        exact fun hx => hB21 (r16, M) hx
      · refine s_aload_n G dX6_at_24 rfl ?_
        refine s_ldc (v := (-1000000004)) G dX6_at_25 qw897 ?_
        refine s_callVI (as := [.int (-1000000004)]) (st := []) (k := 36) G aw_self mdX6_finds (fun _ h => c_X6_finds w O l (-1000000004) M _ h) ⟨by decide, by decide⟩ (ce36 w) clX6 rfl qw825 rfl rfl (Nat.le_of_ble_eq_true rfl) (by decide) dX6_at_27 (fun r27 => ?_)
        refine s_goto (tgt := 34) G dX6_at_30 (by decide) ?_
        refine s_keep [false, false, false] (lv2 := [none, none, none]) rfl ?_
        exact fun hx => hB21 (r27.1, r27.2) hx

set_option maxRecDepth 100000 in
set_option maxHeartbeats 4000000 in
theorem c_X6_moved (w : Wx) (O : Mem) (l : Launch)  (M : Mem)  (z : Mem) (hz : f_X6_moved  M = some z) : Ct w 36 48 O l 0 muX6_moved [.ref (w.1 36)] M (none, z) := by
  refine ct_of (X := f_X6_moved  M) (K := fun v => some (none, v)) [some (.ref (w.1 36))] rfl rfl (Nat.le_of_ble_eq_true rfl) (by rw [hz]; rfl) ?_
  intro p e s m args below meth c G
  unfold f_X6_moved
  refine s_aload_n G dX6_moved_0 rfl ?_
  refine s_get (k := 36) (j := 0) G (.ref (w.1 37)) ⟨by decide, by decide⟩ (ce36 w) rfl clX6 (by decide) qw755 rfl dX6_moved_1 ?_
  refine s_iconst (v := 1) G dX6_moved_4 (by decide) ?_
  refine s_dup2 G dX6_moved_5 rfl rfl ?_
  refine s_ialdC (k := 37) (n := 63) (j := 1) G ⟨by decide, by decide⟩ (ce37 w) (by decide) (by decide) dX6_moved_6 ?_
  refine s_aload_n G dX6_moved_7 rfl ?_
  refine s_get (k := 36) (j := 0) G (.ref (w.1 37)) ⟨by decide, by decide⟩ (ce36 w) rfl clX6 (by decide) qw755 rfl dX6_moved_8 ?_
  refine s_iconst (v := 1) G dX6_moved_11 (by decide) ?_
  refine s_ialdC (k := 37) (n := 63) (j := 1) G ⟨by decide, by decide⟩ (ce37 w) (by decide) (by decide) dX6_moved_12 ?_
  refine s_sipush (v := 9999) G dX6_moved_13 (by decide) ?_
  refine s_join 24 (fun y16 : Int32 => [none]) (fun y16 => [.int y16, .int (gI M 37 1), .int 1, .ref (w.1 37)]) (fun y16 => M) (fun y16 => ?_) (fun K16 hB16 => ?_)
  · refine s_iadd G dX6_moved_24 ?_
    refine s_iastC (k := 37) (n := 63) (j := 1) G ⟨by decide, by decide⟩ (ce37 w) (by decide) (by decide) dX6_moved_25 (fun m25 => ?_)
    exact s_vret G rfl rfl dX6_moved_26
  · refine s_icmp_ge (tgt := 23) G dX6_moved_16 (by decide) ?_ ?_
    · refine s_iconst (v := 0) G dX6_moved_23 (by decide) ?_
      refine s_keep [false] (lv2 := [none]) rfl ?_
      exact fun hx => hB16 0 hx
    · refine s_iconst (v := 1) G dX6_moved_19 (by decide) ?_
      refine s_goto (tgt := 24) G dX6_moved_20 (by decide) ?_
      refine s_keep [false] (lv2 := [none]) rfl ?_
      exact fun hx => hB16 1 hx

set_option maxRecDepth 100000 in
set_option maxHeartbeats 4000000 in
theorem c_X6_ones (w : Wx) (O : Mem) (l : Launch) (a0 : Int32) (M : Mem)  (z : Int32) (hz : f_X6_ones a0 = some z) : Ct w 36 48 O l 0 muX6_ones [.int a0] M (some (.int z), M) := by
  refine ct_of (X := f_X6_ones a0) (K := fun v => some (some (.int v), M)) [some (.int a0), none, none] rfl rfl (Nat.le_of_ble_eq_true rfl) (by rw [hz]; rfl) ?_
  intro p e s m args below meth c G
  unfold f_X6_ones
  refine s_iconst (v := 0) G dX6_ones_0 (by decide) ?_
  refine s_istore_n (lv2 := [some (.int a0), some (.int 0), none]) G dX6_ones_1 (by decide) rfl rfl ?_
  refine s_iload_n G dX6_ones_2 rfl ?_
  refine s_istore_n (lv2 := [some (.int a0), some (.int 0), some (.int a0)]) G dX6_ones_3 (by decide) rfl rfl ?_
  refine s_keep [false, true, true] (lv2 := [none, some (.int 0), some (.int a0)]) rfl ?_
  refine s_loopG (lvf := fun z4 : Int32 × Int32 => [none, some (.int z4.1), some (.int z4.2)]) (Mf := fun z4 : Int32 × Int32 => M) (ex := (fun x4_20 : Int32 => (20, [none, some (.int x4_20), none], M))) (el_one 20 (fun x4_20 : Int32 => [none, some (.int x4_20), none]) (fun x4_20 : Int32 => M) (fun x4_20 => ?_)) (fun z4 K4 hB4 hE4 => ?_)
  · refine s_iload_n G dX6_ones_20 rfl ?_
    exact s_iret G rfl rfl dX6_ones_21
  · unfold f_X6_ones_L4
    refine s_iload_n G dX6_ones_4 rfl ?_
    refine s_if_eq (tgt := 20) G dX6_ones_5 (by decide) ?_ ?_
    · refine s_keep [false, true, false] (lv2 := [none, some (.int z4.1), none]) rfl ?_
      exact fun hx => hE4 z4.1 hx
    · refine s_iinc (v := (z4.1 + 1)) (lv2 := [none, some (.int (z4.1 + 1)), some (.int z4.2)]) G dX6_ones_8 rfl rfl (by decide) rfl rfl ?_
      refine s_iload_n G dX6_ones_11 rfl ?_
      refine s_iload_n G dX6_ones_12 rfl ?_
      refine s_iconst (v := 1) G dX6_ones_13 (by decide) ?_
      refine s_isub G dX6_ones_14 ?_
      refine s_iand G dX6_ones_15 ?_
      refine s_name (f := Value.int) (fun v16 => ?_)
      refine s_istore_n (lv2 := [none, some (.int (z4.1 + 1)), some (.int v16)]) G dX6_ones_16 (by decide) rfl rfl ?_
      refine s_goto (tgt := 4) G dX6_ones_17 (by decide) ?_
      exact fun hx => hB4 ((z4.1 + 1), v16) hx

set_option maxRecDepth 100000 in
set_option maxHeartbeats 4000000 in
theorem c_X6_onRail (w : Wx) (O : Mem) (l : Launch)  (M : Mem)  (z : Int32) (hz : f_X6_onRail  M = some z) : Ct w 36 48 O l 3 muX6_onRail [.ref (w.1 36)] M (some (.int z), M) := by
  refine ct_of (X := f_X6_onRail  M) (K := fun v => some (some (.int v), M)) [some (.ref (w.1 36)), none, none] rfl rfl (Nat.le_of_ble_eq_true rfl) (by rw [hz]; rfl) ?_
  intro p e s m args below meth c G
  unfold f_X6_onRail
  refine s_iconst (v := 0) G dX6_onRail_0 (by decide) ?_
  refine s_istore_n (lv2 := [some (.ref (w.1 36)), some (.int 0), none]) G dX6_onRail_1 (by decide) rfl rfl ?_
  refine s_iconst (v := 0) G dX6_onRail_2 (by decide) ?_
  refine s_istore_n (lv2 := [some (.ref (w.1 36)), some (.int 0), some (.int 0)]) G dX6_onRail_3 (by decide) rfl rfl ?_
  refine s_loopG (lvf := fun z4 : Int32 × Int32 => [some (.ref (w.1 36)), some (.int z4.1), some (.int z4.2)]) (Mf := fun z4 : Int32 × Int32 => M) (ex := (fun x4_38 : Int32 => (38, [none, some (.int x4_38), none], M))) (el_one 38 (fun x4_38 : Int32 => [none, some (.int x4_38), none]) (fun x4_38 : Int32 => M) (fun x4_38 => ?_)) (fun z4 K4 hB4 hE4 => ?_)
  · refine s_iload_n G dX6_onRail_38 rfl ?_
    exact s_iret G rfl rfl dX6_onRail_39
  · unfold f_X6_onRail_L4
    refine s_iload_n G dX6_onRail_4 rfl ?_
    refine s_aload_n G dX6_onRail_5 rfl ?_
    refine s_get (k := 36) (j := 0) G (.ref (w.1 37)) ⟨by decide, by decide⟩ (ce36 w) rfl clX6 (by decide) qw755 rfl dX6_onRail_6 ?_
    refine s_iconst (v := 0) G dX6_onRail_9 (by decide) ?_
    refine s_ialdC (k := 37) (n := 63) (j := 0) G ⟨by decide, by decide⟩ (ce37 w) (by decide) (by decide) dX6_onRail_10 ?_
    refine s_icmp_ge (tgt := 38) G dX6_onRail_11 (by decide) ?_ ?_
    · refine s_keep [false, true, false] (lv2 := [none, some (.int z4.1), none]) rfl ?_
      exact fun hx => hE4 z4.1 hx
    · refine s_iload_n G dX6_onRail_14 rfl ?_
      refine s_aload_n G dX6_onRail_15 rfl ?_
      refine s_iload_n G dX6_onRail_16 rfl ?_
      refine s_callVi (as := [.int z4.2]) (st := [.int z4.1]) (k := 36) G aw_self mdX6_isOn (fun _ h => c_X6_isOn w O l z4.2 M _ h) ⟨by decide, by decide⟩ (ce36 w) clX6 rfl qw902 rfl rfl (Nat.le_of_ble_eq_true rfl) (by decide) dX6_onRail_17 (fun r17 => ?_)
      refine s_join 30 (fun y20 : Int32 => [some (.ref (w.1 36)), none, some (.int z4.2)]) (fun y20 => [.int y20, .int z4.1]) (fun y20 => M) (fun y20 => ?_) (fun K20 hB20 => ?_)
      · refine s_ior G dX6_onRail_30 ?_
        refine s_name (f := Value.int) (fun v31 => ?_)
        refine s_istore_n (lv2 := [some (.ref (w.1 36)), some (.int v31), some (.int z4.2)]) G dX6_onRail_31 (by decide) rfl rfl ?_
        refine s_iinc (v := (z4.2 + 1)) (lv2 := [some (.ref (w.1 36)), some (.int v31), some (.int (z4.2 + 1))]) G dX6_onRail_32 rfl rfl (by decide) rfl rfl ?_
        refine s_goto (tgt := 4) G dX6_onRail_35 (by decide) ?_
        exact fun hx => hB4 (v31, (z4.2 + 1)) hx
      · refine s_if_eq (tgt := 29) G dX6_onRail_20 (by decide) ?_ ?_
        · refine s_iconst (v := 0) G dX6_onRail_29 (by decide) ?_
          refine s_keep [true, false, true] (lv2 := [some (.ref (w.1 36)), none, some (.int z4.2)]) rfl ?_
          exact fun hx => hB20 0 hx
        · refine s_iconst (v := 1) G dX6_onRail_23 (by decide) ?_
          refine s_iload_n G dX6_onRail_24 rfl ?_
          refine s_ishl G dX6_onRail_25 ?_
          refine s_goto (tgt := 30) G dX6_onRail_26 (by decide) ?_
          refine s_keep [true, false, true] (lv2 := [some (.ref (w.1 36)), none, some (.int z4.2)]) rfl ?_
          exact fun hx => hB20 ((1 : Int32) <<< (z4.2 &&& 31)) hx

set_option maxRecDepth 100000 in
set_option maxHeartbeats 4000000 in
theorem c_X6_hangs (w : Wx) (O : Mem) (l : Launch) (a1 : Int32) (a2 : Int32) (M : Mem)  (z : Mem) (hz : f_X6_hangs a1 a2 M = some z) : Ct w 36 48 O l 1 muX6_hangs [.ref (w.1 36), .int a1, .int a2] M (none, z) := by
  refine ct_of (X := f_X6_hangs a1 a2 M) (K := fun v => some (none, v)) [some (.ref (w.1 36)), some (.int a1), some (.int a2)] rfl rfl (Nat.le_of_ble_eq_true rfl) (by rw [hz]; rfl) ?_
  intro p e s m args below meth c G
  unfold f_X6_hangs
  refine s_aload_n G dX6_hangs_0 rfl ?_
  refine s_get (k := 36) (j := 0) G (.ref (w.1 37)) ⟨by decide, by decide⟩ (ce36 w) rfl clX6 (by decide) qw755 rfl dX6_hangs_1 ?_
  refine s_iload_n G dX6_hangs_4 rfl ?_
  refine s_iconst (v := 1) G dX6_hangs_5 (by decide) ?_
  refine s_callSi (as := [.int a1, .int 1]) (st := [.ref (w.1 37)]) G aw_self mdX6_spotOf (fun _ h => c_X6_spotOf w O l a1 1 M _ h) qw834 rfl rfl (Nat.le_of_ble_eq_true rfl) (by decide) dX6_hangs_6 (fun r6 => ?_)
  refine s_iload_n G dX6_hangs_9 rfl ?_
  refine s_iast (k := 37) (n := 63) G ⟨by decide, by decide⟩ (ce37 w) dX6_hangs_10 (fun m10 => ?_)
  refine s_aload_n G dX6_hangs_11 rfl ?_
  refine s_callVv (as := []) (st := []) (k := 36) G aw_self mdX6_moved (fun _ h => c_X6_moved w O l m10 _ h) ⟨by decide, by decide⟩ (ce36 w) clX6 rfl qw915 rfl rfl (Nat.le_of_ble_eq_true rfl) (by decide) dX6_hangs_12 (fun r12 => ?_)
  exact s_vret G rfl rfl dX6_hangs_15

set_option maxRecDepth 100000 in
set_option maxHeartbeats 4000000 in
theorem c_X6_hang (w : Wx) (O : Mem) (l : Launch) (a1 : Int32) (a2 : Int32) (M : Mem)  (z : Int32 × Mem) (hz : f_X6_hang a1 a2 M = some z) : Ct w 36 48 O l 4 muX6_hang [.ref (w.1 36), .int a1, .int a2] M (some (.int z.1), z.2) := by
  refine ct_of (X := f_X6_hang a1 a2 M) (K := fun v => some (some (.int v.1), v.2)) [some (.ref (w.1 36)), some (.int a1), some (.int a2)] rfl rfl (Nat.le_of_ble_eq_true rfl) (by rw [hz]; rfl) ?_
  intro p e s m args below meth c G
  unfold f_X6_hang
  refine s_aload_n G dX6_hang_0 rfl ?_
  refine s_iload_n G dX6_hang_1 rfl ?_
  refine s_callVi (as := [.int a1]) (st := []) (k := 36) G aw_self mdX6_isHanger (fun _ h => c_X6_isHanger w O l a1 M _ h) ⟨by decide, by decide⟩ (ce36 w) clX6 rfl qw841 rfl rfl (Nat.le_of_ble_eq_true rfl) (by decide) dX6_hang_2 (fun r2 => ?_)
  refine s_if_eq (tgt := 15) G dX6_hang_5 (by decide) ?_ ?_
  · refine s_aload_n G dX6_hang_15 rfl ?_
    refine s_ldc (v := (-1000000001)) G dX6_hang_16 qw824 ?_
    refine s_callVI (as := [.int (-1000000001)]) (st := []) (k := 36) G aw_self mdX6_finds (fun _ h => c_X6_finds w O l (-1000000001) M _ h) ⟨by decide, by decide⟩ (ce36 w) clX6 rfl qw825 rfl rfl (Nat.le_of_ble_eq_true rfl) (by decide) dX6_hang_18 (fun r18 => ?_)
    exact s_iret G rfl rfl dX6_hang_21
  · refine s_iload_n G dX6_hang_8 rfl ?_
    refine s_callSi (as := [.int a2]) (st := []) G aw_self mdX6_isPlace (fun _ h => c_X6_isPlace w O l a2 M _ h) qw889 rfl rfl (Nat.le_of_ble_eq_true rfl) (by decide) dX6_hang_9 (fun r9 => ?_)
    refine s_if_ne (tgt := 22) G dX6_hang_12 (by decide) ?_ ?_
    · refine s_aload_n G dX6_hang_15 rfl ?_
      refine s_ldc (v := (-1000000001)) G dX6_hang_16 qw824 ?_
      refine s_callVI (as := [.int (-1000000001)]) (st := []) (k := 36) G aw_self mdX6_finds (fun _ h => c_X6_finds w O l (-1000000001) M _ h) ⟨by decide, by decide⟩ (ce36 w) clX6 rfl qw825 rfl rfl (Nat.le_of_ble_eq_true rfl) (by decide) dX6_hang_18 (fun r18 => ?_)
      exact s_iret G rfl rfl dX6_hang_21
    · refine s_aload_n G dX6_hang_22 rfl ?_
      refine s_iload_n G dX6_hang_23 rfl ?_
      refine s_callVi (as := [.int a1]) (st := []) (k := 36) G aw_self mdX6_isOn (fun _ h => c_X6_isOn w O l a1 M _ h) ⟨by decide, by decide⟩ (ce36 w) clX6 rfl qw902 rfl rfl (Nat.le_of_ble_eq_true rfl) (by decide) dX6_hang_24 (fun r24 => ?_)
      refine s_if_ne (tgt := 38) G dX6_hang_27 (by decide) ?_ ?_
      · refine s_aload_n G dX6_hang_30 rfl ?_
        refine s_iload_n G dX6_hang_31 rfl ?_
        refine s_callVi (as := [.int a2]) (st := []) (k := 36) G aw_self mdX6_isFree (fun _ h => c_X6_isFree w O l a2 M _ h) ⟨by decide, by decide⟩ (ce36 w) clX6 rfl qw906 rfl rfl (Nat.le_of_ble_eq_true rfl) (by decide) dX6_hang_32 (fun r32 => ?_)
        refine s_if_ne (tgt := 45) G dX6_hang_35 (by decide) ?_ ?_
        · refine s_aload_n G dX6_hang_38 rfl ?_
          refine s_ldc (v := (-1000000005)) G dX6_hang_39 qw910 ?_
          refine s_callVI (as := [.int (-1000000005)]) (st := []) (k := 36) G aw_self mdX6_finds (fun _ h => c_X6_finds w O l (-1000000005) M _ h) ⟨by decide, by decide⟩ (ce36 w) clX6 rfl qw825 rfl rfl (Nat.le_of_ble_eq_true rfl) (by decide) dX6_hang_41 (fun r41 => ?_)
          exact s_iret G rfl rfl dX6_hang_44
        · refine s_aload_n G dX6_hang_45 rfl ?_
          refine s_iload_n G dX6_hang_46 rfl ?_
          refine s_iload_n G dX6_hang_47 rfl ?_
          refine s_callVv (as := [.int a1, .int a2]) (st := []) (k := 36) G aw_self mdX6_hangs (fun _ h => c_X6_hangs w O l a1 a2 M _ h) ⟨by decide, by decide⟩ (ce36 w) clX6 rfl qw911 rfl rfl (Nat.le_of_ble_eq_true rfl) (by decide) dX6_hang_48 (fun r48 => ?_)
          refine s_aload_n G dX6_hang_51 rfl ?_
          refine s_callVi (as := []) (st := []) (k := 36) G aw_self mdX6_onRail (fun _ h => c_X6_onRail w O l r48 _ h) ⟨by decide, by decide⟩ (ce36 w) clX6 rfl qw919 rfl rfl (Nat.le_of_ble_eq_true rfl) (by decide) dX6_hang_52 (fun r52 => ?_)
          refine s_callSi (as := [.int r52]) (st := []) G aw_self mdX6_ones (fun _ h => c_X6_ones w O l r52 r48 _ h) qw923 rfl rfl (Nat.le_of_ble_eq_true rfl) (by decide) dX6_hang_55 (fun r55 => ?_)
          exact s_iret G rfl rfl dX6_hang_58
      · refine s_aload_n G dX6_hang_38 rfl ?_
        refine s_ldc (v := (-1000000005)) G dX6_hang_39 qw910 ?_
        refine s_callVI (as := [.int (-1000000005)]) (st := []) (k := 36) G aw_self mdX6_finds (fun _ h => c_X6_finds w O l (-1000000005) M _ h) ⟨by decide, by decide⟩ (ce36 w) clX6 rfl qw825 rfl rfl (Nat.le_of_ble_eq_true rfl) (by decide) dX6_hang_41 (fun r41 => ?_)
        exact s_iret G rfl rfl dX6_hang_44

set_option maxRecDepth 100000 in
set_option maxHeartbeats 4000000 in
theorem c_X6_face (w : Wx) (O : Mem) (l : Launch) (a1 : Int32) (M : Mem)  (z : Int32 × Mem) (hz : f_X6_face a1 M = some z) : Ct w 36 48 O l 2 muX6_face [.ref (w.1 36), .int a1] M (some (.int z.1), z.2) := by
  refine ct_of (X := f_X6_face a1 M) (K := fun v => some (some (.int v.1), v.2)) [some (.ref (w.1 36)), some (.int a1)] rfl rfl (Nat.le_of_ble_eq_true rfl) (by rw [hz]; rfl) ?_
  intro p e s m args below meth c G
  unfold f_X6_face
  refine s_aload_n G dX6_face_0 rfl ?_
  refine s_iload_n G dX6_face_1 rfl ?_
  refine s_callVi (as := [.int a1]) (st := []) (k := 36) G aw_self mdX6_isHanger (fun _ h => c_X6_isHanger w O l a1 M _ h) ⟨by decide, by decide⟩ (ce36 w) clX6 rfl qw841 rfl rfl (Nat.le_of_ble_eq_true rfl) (by decide) dX6_face_2 (fun r2 => ?_)
  refine s_if_ne (tgt := 15) G dX6_face_5 (by decide) ?_ ?_
  · refine s_aload_n G dX6_face_8 rfl ?_
    refine s_ldc (v := (-1000000001)) G dX6_face_9 qw824 ?_
    refine s_callVI (as := [.int (-1000000001)]) (st := []) (k := 36) G aw_self mdX6_finds (fun _ h => c_X6_finds w O l (-1000000001) M _ h) ⟨by decide, by decide⟩ (ce36 w) clX6 rfl qw825 rfl rfl (Nat.le_of_ble_eq_true rfl) (by decide) dX6_face_11 (fun r11 => ?_)
    exact s_iret G rfl rfl dX6_face_14
  · refine s_aload_n G dX6_face_15 rfl ?_
    refine s_get (k := 36) (j := 0) G (.ref (w.1 37)) ⟨by decide, by decide⟩ (ce36 w) rfl clX6 (by decide) qw755 rfl dX6_face_16 ?_
    refine s_iload_n G dX6_face_19 rfl ?_
    refine s_iconst (v := 2) G dX6_face_20 (by decide) ?_
    refine s_callSi (as := [.int a1, .int 2]) (st := [.ref (w.1 37)]) G aw_self mdX6_spotOf (fun _ h => c_X6_spotOf w O l a1 2 M _ h) qw834 rfl rfl (Nat.le_of_ble_eq_true rfl) (by decide) dX6_face_21 (fun r21 => ?_)
    refine s_iconst (v := 1) G dX6_face_24 (by decide) ?_
    refine s_aload_n G dX6_face_25 rfl ?_
    refine s_iload_n G dX6_face_26 rfl ?_
    refine s_iconst (v := 2) G dX6_face_27 (by decide) ?_
    refine s_callVi (as := [.int a1, .int 2]) (st := [.int 1, .int r21, .ref (w.1 37)]) (k := 36) G aw_self mdX6_its (fun _ h => c_X6_its w O l a1 2 M _ h) ⟨by decide, by decide⟩ (ce36 w) clX6 rfl qw846 rfl rfl (Nat.le_of_ble_eq_true rfl) (by decide) dX6_face_28 (fun r28 => ?_)
    refine s_isub G dX6_face_31 ?_
    refine s_iast (k := 37) (n := 63) G ⟨by decide, by decide⟩ (ce37 w) dX6_face_32 (fun m32 => ?_)
    refine s_aload_n G dX6_face_33 rfl ?_
    refine s_callVv (as := []) (st := []) (k := 36) G aw_self mdX6_moved (fun _ h => c_X6_moved w O l m32 _ h) ⟨by decide, by decide⟩ (ce36 w) clX6 rfl qw915 rfl rfl (Nat.le_of_ble_eq_true rfl) (by decide) dX6_face_34 (fun r34 => ?_)
    refine s_aload_n G dX6_face_37 rfl ?_
    refine s_iload_n G dX6_face_38 rfl ?_
    refine s_iconst (v := 2) G dX6_face_39 (by decide) ?_
    refine s_callVi (as := [.int a1, .int 2]) (st := []) (k := 36) G aw_self mdX6_its (fun _ h => c_X6_its w O l a1 2 r34 _ h) ⟨by decide, by decide⟩ (ce36 w) clX6 rfl qw846 rfl rfl (Nat.le_of_ble_eq_true rfl) (by decide) dX6_face_40 (fun r40 => ?_)
    exact s_iret G rfl rfl dX6_face_43

set_option maxRecDepth 100000 in
set_option maxHeartbeats 4000000 in
theorem c_X6_shift (w : Wx) (O : Mem) (l : Launch) (a1 : Int32) (a2 : Int32) (M : Mem)  (z : Int32 × Mem) (hz : f_X6_shift a1 a2 M = some z) : Ct w 36 48 O l 4 muX6_shift [.ref (w.1 36), .int a1, .int a2] M (some (.int z.1), z.2) := by
  refine ct_of (X := f_X6_shift a1 a2 M) (K := fun v => some (some (.int v.1), v.2)) [some (.ref (w.1 36)), some (.int a1), some (.int a2), none] rfl rfl (Nat.le_of_ble_eq_true rfl) (by rw [hz]; rfl) ?_
  intro p e s m args below meth c G
  unfold f_X6_shift
  refine s_aload_n G dX6_shift_0 rfl ?_
  refine s_iload_n G dX6_shift_1 rfl ?_
  refine s_callVi (as := [.int a1]) (st := []) (k := 36) G aw_self mdX6_isHanger (fun _ h => c_X6_isHanger w O l a1 M _ h) ⟨by decide, by decide⟩ (ce36 w) clX6 rfl qw841 rfl rfl (Nat.le_of_ble_eq_true rfl) (by decide) dX6_shift_2 (fun r2 => ?_)
  refine s_if_ne (tgt := 15) G dX6_shift_5 (by decide) ?_ ?_
  · refine s_aload_n G dX6_shift_8 rfl ?_
    refine s_ldc (v := (-1000000001)) G dX6_shift_9 qw824 ?_
    refine s_callVI (as := [.int (-1000000001)]) (st := []) (k := 36) G aw_self mdX6_finds (fun _ h => c_X6_finds w O l (-1000000001) M _ h) ⟨by decide, by decide⟩ (ce36 w) clX6 rfl qw825 rfl rfl (Nat.le_of_ble_eq_true rfl) (by decide) dX6_shift_11 (fun r11 => ?_)
    exact s_iret G rfl rfl dX6_shift_14
  · refine s_aload_n G dX6_shift_15 rfl ?_
    refine s_iload_n G dX6_shift_16 rfl ?_
    refine s_callVi (as := [.int a1]) (st := []) (k := 36) G aw_self mdX6_isOn (fun _ h => c_X6_isOn w O l a1 M _ h) ⟨by decide, by decide⟩ (ce36 w) clX6 rfl qw902 rfl rfl (Nat.le_of_ble_eq_true rfl) (by decide) dX6_shift_17 (fun r17 => ?_)
    refine s_join 57 (fun y20 : Int32 => [some (.ref (w.1 36)), some (.int a1), some (.int a2), none]) (fun y20 => [.int y20]) (fun y20 => M) (fun y20 => ?_) (fun K20 hB20 => ?_)
    · refine s_istore_n (lv2 := [some (.ref (w.1 36)), some (.int a1), some (.int a2), some (.int y20)]) G dX6_shift_57 (by decide) rfl rfl ?_
      refine s_iload_n G dX6_shift_58 rfl ?_
      refine s_if_ne (tgt := 69) G dX6_shift_59 (by decide) ?_ ?_
      · refine s_aload_n G dX6_shift_62 rfl ?_
        refine s_ldc (v := (-1000000005)) G dX6_shift_63 qw910 ?_
        refine s_callVI (as := [.int (-1000000005)]) (st := []) (k := 36) G aw_self mdX6_finds (fun _ h => c_X6_finds w O l (-1000000005) M _ h) ⟨by decide, by decide⟩ (ce36 w) clX6 rfl qw825 rfl rfl (Nat.le_of_ble_eq_true rfl) (by decide) dX6_shift_65 (fun r65 => ?_)
        exact s_iret G rfl rfl dX6_shift_68
      · refine s_aload_n G dX6_shift_69 rfl ?_
        refine s_iload_n G dX6_shift_70 rfl ?_
        refine s_aload_n G dX6_shift_71 rfl ?_
        refine s_iload_n G dX6_shift_72 rfl ?_
        refine s_iconst (v := 1) G dX6_shift_73 (by decide) ?_
        refine s_callVi (as := [.int a1, .int 1]) (st := [.int a1, .ref (w.1 36)]) (k := 36) G aw_self mdX6_its (fun _ h => c_X6_its w O l a1 1 M _ h) ⟨by decide, by decide⟩ (ce36 w) clX6 rfl qw846 rfl rfl (Nat.le_of_ble_eq_true rfl) (by decide) dX6_shift_74 (fun r74 => ?_)
        refine s_iload_n G dX6_shift_77 rfl ?_
        refine s_iadd G dX6_shift_78 ?_
        refine s_callVv (as := [.int a1, .int (r74 + a2)]) (st := []) (k := 36) G aw_self mdX6_hangs (fun _ h => c_X6_hangs w O l a1 (r74 + a2) M _ h) ⟨by decide, by decide⟩ (ce36 w) clX6 rfl qw911 rfl rfl (Nat.le_of_ble_eq_true rfl) (by decide) dX6_shift_79 (fun r79 => ?_)
        refine s_aload_n G dX6_shift_82 rfl ?_
        refine s_iload_n G dX6_shift_83 rfl ?_
        refine s_iconst (v := 1) G dX6_shift_84 (by decide) ?_
        refine s_callVi (as := [.int a1, .int 1]) (st := []) (k := 36) G aw_self mdX6_its (fun _ h => c_X6_its w O l a1 1 r79 _ h) ⟨by decide, by decide⟩ (ce36 w) clX6 rfl qw846 rfl rfl (Nat.le_of_ble_eq_true rfl) (by decide) dX6_shift_85 (fun r85 => ?_)
        exact s_iret G rfl rfl dX6_shift_88
    · refine s_if_eq (tgt := 56) G dX6_shift_20 (by decide) ?_ ?_
      · refine s_iconst (v := 0) G dX6_shift_56 (by decide) ?_
        exact fun hx => hB20 0 hx
      · refine s_iload_n G dX6_shift_23 rfl ?_
        refine s_i2l G dX6_shift_24 ?_
        refine s_ldc2 (v := (-24)) G dX6_shift_25 qw934 ?_
        refine s_ldc2 (v := 24) G dX6_shift_28 qw935 ?_
        refine s_callSi (as := [.long a2.toInt64, .long (-24), .long 24]) (st := []) G aw_self mdX6_in (fun _ h => c_X6_in w O l a2.toInt64 (-24) 24 M _ h) qw821 rfl rfl (Nat.le_of_ble_eq_true rfl) (by decide) dX6_shift_31 (fun r31 => ?_)
        refine s_if_eq (tgt := 56) G dX6_shift_34 (by decide) ?_ ?_
        · refine s_iconst (v := 0) G dX6_shift_56 (by decide) ?_
          exact fun hx => hB20 0 hx
        · refine s_aload_n G dX6_shift_37 rfl ?_
          refine s_aload_n G dX6_shift_38 rfl ?_
          refine s_iload_n G dX6_shift_39 rfl ?_
          refine s_iconst (v := 1) G dX6_shift_40 (by decide) ?_
          refine s_callVi (as := [.int a1, .int 1]) (st := [.ref (w.1 36)]) (k := 36) G aw_self mdX6_its (fun _ h => c_X6_its w O l a1 1 M _ h) ⟨by decide, by decide⟩ (ce36 w) clX6 rfl qw846 rfl rfl (Nat.le_of_ble_eq_true rfl) (by decide) dX6_shift_41 (fun r41 => ?_)
          refine s_iload_n G dX6_shift_44 rfl ?_
          refine s_iadd G dX6_shift_45 ?_
          refine s_callVi (as := [.int (r41 + a2)]) (st := []) (k := 36) G aw_self mdX6_isFree (fun _ h => c_X6_isFree w O l (r41 + a2) M _ h) ⟨by decide, by decide⟩ (ce36 w) clX6 rfl qw906 rfl rfl (Nat.le_of_ble_eq_true rfl) (by decide) dX6_shift_46 (fun r46 => ?_)
          refine s_if_eq (tgt := 56) G dX6_shift_49 (by decide) ?_ ?_
          · refine s_iconst (v := 0) G dX6_shift_56 (by decide) ?_
            exact fun hx => hB20 0 hx
          · refine s_iconst (v := 1) G dX6_shift_52 (by decide) ?_
            refine s_goto (tgt := 57) G dX6_shift_53 (by decide) ?_
            exact fun hx => hB20 1 hx

set_option maxRecDepth 100000 in
set_option maxHeartbeats 4000000 in
theorem c_X6_isCaught (w : Wx) (O : Mem) (l : Launch) (a1 : Int32) (a2 : Int32) (M : Mem)  (z : Int32) (hz : f_X6_isCaught a1 a2 M = some z) : Ct w 36 48 O l 2 muX6_isCaught [.ref (w.1 36), .int a1, .int a2] M (some (.int z), M) := by
  refine ct_of (X := f_X6_isCaught a1 a2 M) (K := fun v => some (some (.int v), M)) [some (.ref (w.1 36)), some (.int a1), some (.int a2), none, none, none] rfl rfl (Nat.le_of_ble_eq_true rfl) (by rw [hz]; rfl) ?_
  intro p e s m args below meth c G
  unfold f_X6_isCaught
  refine s_aload_n G dX6_isCaught_0 rfl ?_
  refine s_iload_n G dX6_isCaught_1 rfl ?_
  refine s_iconst (v := 1) G dX6_isCaught_2 (by decide) ?_
  refine s_callVi (as := [.int a1, .int 1]) (st := []) (k := 36) G aw_self mdX6_its (fun _ h => c_X6_its w O l a1 1 M _ h) ⟨by decide, by decide⟩ (ce36 w) clX6 rfl qw846 rfl rfl (Nat.le_of_ble_eq_true rfl) (by decide) dX6_isCaught_3 (fun r3 => ?_)
  refine s_aload_n G dX6_isCaught_6 rfl ?_
  refine s_iload_n G dX6_isCaught_7 rfl ?_
  refine s_iconst (v := 1) G dX6_isCaught_8 (by decide) ?_
  refine s_callVi (as := [.int a2, .int 1]) (st := [.int r3]) (k := 36) G aw_self mdX6_its (fun _ h => c_X6_its w O l a2 1 M _ h) ⟨by decide, by decide⟩ (ce36 w) clX6 rfl qw846 rfl rfl (Nat.le_of_ble_eq_true rfl) (by decide) dX6_isCaught_9 (fun r9 => ?_)
  refine s_isub G dX6_isCaught_12 ?_
  refine s_name (f := Value.int) (fun v13 => ?_)
  refine s_istore_n (lv2 := [some (.ref (w.1 36)), some (.int a1), some (.int a2), some (.int v13), none, none]) G dX6_isCaught_13 (by decide) rfl rfl ?_
  refine s_iload_n G dX6_isCaught_14 rfl ?_
  refine s_join 24 (fun y15 : Int32 => [some (.ref (w.1 36)), some (.int a1), some (.int a2), none, none, none]) (fun y15 => [.int y15]) (fun y15 => M) (fun y15 => ?_) (fun K15 hB15 => ?_)
  · refine s_istore (lv2 := [some (.ref (w.1 36)), some (.int a1), some (.int a2), none, some (.int y15), none]) G dX6_isCaught_24 (by decide) rfl rfl ?_
    refine s_aload_n G dX6_isCaught_26 rfl ?_
    refine s_iload_n G dX6_isCaught_27 rfl ?_
    refine s_iconst (v := 2) G dX6_isCaught_28 (by decide) ?_
    refine s_callVi (as := [.int a1, .int 2]) (st := []) (k := 36) G aw_self mdX6_its (fun _ h => c_X6_its w O l a1 2 M _ h) ⟨by decide, by decide⟩ (ce36 w) clX6 rfl qw846 rfl rfl (Nat.le_of_ble_eq_true rfl) (by decide) dX6_isCaught_29 (fun r29 => ?_)
    refine s_aload_n G dX6_isCaught_32 rfl ?_
    refine s_iload_n G dX6_isCaught_33 rfl ?_
    refine s_iconst (v := 2) G dX6_isCaught_34 (by decide) ?_
    refine s_callVi (as := [.int a2, .int 2]) (st := [.int r29]) (k := 36) G aw_self mdX6_its (fun _ h => c_X6_its w O l a2 2 M _ h) ⟨by decide, by decide⟩ (ce36 w) clX6 rfl qw846 rfl rfl (Nat.le_of_ble_eq_true rfl) (by decide) dX6_isCaught_35 (fun r35 => ?_)
    refine s_join 46 (fun y38 : Int32 => [some (.ref (w.1 36)), some (.int a1), none, none, some (.int y15), none]) (fun y38 => [.int y38]) (fun y38 => M) (fun y38 => ?_) (fun K38 hB38 => ?_)
    · refine s_istore (lv2 := [some (.ref (w.1 36)), some (.int a1), none, none, some (.int y15), some (.int y38)]) G dX6_isCaught_46 (by decide) rfl rfl ?_
      refine s_aload_n G dX6_isCaught_48 rfl ?_
      refine s_iload_n G dX6_isCaught_49 rfl ?_
      refine s_iconst (v := 0) G dX6_isCaught_50 (by decide) ?_
      refine s_callVi (as := [.int a1, .int 0]) (st := []) (k := 36) G aw_self mdX6_its (fun _ h => c_X6_its w O l a1 0 M _ h) ⟨by decide, by decide⟩ (ce36 w) clX6 rfl qw846 rfl rfl (Nat.le_of_ble_eq_true rfl) (by decide) dX6_isCaught_51 (fun r51 => ?_)
      refine s_tabIn (v := 1) (off := 34) (tgt := 88) G dX6_isCaught_54 (by decide) (by decide) (by decide) (by decide) ?_ (fun h54_0 => ?_)
      · refine s_iload G dX6_isCaught_88 rfl ?_
        refine s_iconst (v := 2) G dX6_isCaught_90 (by decide) ?_
        refine s_join 104 (fun y91 : Int32 => [none, none, none, none, none, none]) (fun y91 => [.int y91]) (fun y91 => M) (fun y91 => ?_) (fun K91 hB91 => ?_)
        · refine s_test (fun h104 => ?_)
          exact s_zret G rfl (zb_nar h104) rfl dX6_isCaught_104
        · refine s_icmp_gt (tgt := 103) G dX6_isCaught_91 (by decide) ?_ ?_
          · refine s_iconst (v := 0) G dX6_isCaught_103 (by decide) ?_
            refine s_keep [false, false, false, false, false, false] (lv2 := [none, none, none, none, none, none]) rfl ?_
            exact fun hx => hB91 0 hx
          · refine s_iload G dX6_isCaught_94 rfl ?_
            refine s_if_eq (tgt := 103) G dX6_isCaught_96 (by decide) ?_ ?_
            · refine s_iconst (v := 0) G dX6_isCaught_103 (by decide) ?_
              refine s_keep [false, false, false, false, false, false] (lv2 := [none, none, none, none, none, none]) rfl ?_
              exact fun hx => hB91 0 hx
            · refine s_iconst (v := 1) G dX6_isCaught_99 (by decide) ?_
              refine s_goto (tgt := 104) G dX6_isCaught_100 (by decide) ?_
              refine s_keep [false, false, false, false, false, false] (lv2 := [none, none, none, none, none, none]) rfl ?_
              exact fun hx => hB91 1 hx
      · refine s_tabIn (v := 2) (off := 51) (tgt := 105) G dX6_isCaught_54 (by decide) (by decide) (by decide) (by decide) ?_ (fun h54_1 => ?_)
        · refine s_iconst (v := 0) G dX6_isCaught_105 (by decide) ?_
          exact s_zret G rfl rfl rfl dX6_isCaught_106
        · refine s_tabIn (v := 3) (off := 53) (tgt := 107) G dX6_isCaught_54 (by decide) (by decide) (by decide) (by decide) ?_ (fun h54_2 => ?_)
          · refine s_iload G dX6_isCaught_107 rfl ?_
            refine s_iconst (v := 2) G dX6_isCaught_109 (by decide) ?_
            refine s_join 129 (fun y110 : Int32 => [none, none, none, none, none, none]) (fun y110 => [.int y110]) (fun y110 => M) (fun y110 => ?_) (fun K110 hB110 => ?_)
            · refine s_test (fun h129 => ?_)
              exact s_zret G rfl (zb_nar h129) rfl dX6_isCaught_129
            · refine s_icmp_gt (tgt := 118) G dX6_isCaught_110 (by decide) ?_ ?_
              · refine s_iload G dX6_isCaught_118 rfl ?_
                refine s_iconst (v := 1) G dX6_isCaught_120 (by decide) ?_
                refine s_icmp_ne (tgt := 128) G dX6_isCaught_121 (by decide) ?_ ?_
                · refine s_iconst (v := 1) G dX6_isCaught_124 (by decide) ?_
                  refine s_goto (tgt := 129) G dX6_isCaught_125 (by decide) ?_
                  refine s_keep [false, false, false, false, false, false] (lv2 := [none, none, none, none, none, none]) rfl ?_
                  exact fun hx => hB110 1 hx
                · refine s_iconst (v := 0) G dX6_isCaught_128 (by decide) ?_
                  refine s_keep [false, false, false, false, false, false] (lv2 := [none, none, none, none, none, none]) rfl ?_
                  exact fun hx => hB110 0 hx
              · refine s_iload G dX6_isCaught_113 rfl ?_
                refine s_if_ne (tgt := 124) G dX6_isCaught_115 (by decide) ?_ ?_
                · refine s_iload G dX6_isCaught_118 rfl ?_
                  refine s_iconst (v := 1) G dX6_isCaught_120 (by decide) ?_
                  refine s_icmp_ne (tgt := 128) G dX6_isCaught_121 (by decide) ?_ ?_
                  · refine s_iconst (v := 1) G dX6_isCaught_124 (by decide) ?_
                    refine s_goto (tgt := 129) G dX6_isCaught_125 (by decide) ?_
                    refine s_keep [false, false, false, false, false, false] (lv2 := [none, none, none, none, none, none]) rfl ?_
                    exact fun hx => hB110 1 hx
                  · refine s_iconst (v := 0) G dX6_isCaught_128 (by decide) ?_
                    refine s_keep [false, false, false, false, false, false] (lv2 := [none, none, none, none, none, none]) rfl ?_
                    exact fun hx => hB110 0 hx
                · refine s_iconst (v := 1) G dX6_isCaught_124 (by decide) ?_
                  refine s_goto (tgt := 129) G dX6_isCaught_125 (by decide) ?_
                  refine s_keep [false, false, false, false, false, false] (lv2 := [none, none, none, none, none, none]) rfl ?_
                  exact fun hx => hB110 1 hx
          · refine s_tabIn (v := 4) (off := 76) (tgt := 130) G dX6_isCaught_54 (by decide) (by decide) (by decide) (by decide) ?_ (fun h54_3 => ?_)
            · refine s_iload G dX6_isCaught_130 rfl ?_
              refine s_iconst (v := 2) G dX6_isCaught_132 (by decide) ?_
              refine s_join 155 (fun y133 : Int32 => [none, none, none, none, none, none]) (fun y133 => [.int y133]) (fun y133 => M) (fun y133 => ?_) (fun K133 hB133 => ?_)
              · refine s_test (fun h155 => ?_)
                exact s_zret G rfl (zb_nar h155) rfl dX6_isCaught_155
              · refine s_icmp_gt (tgt := 154) G dX6_isCaught_133 (by decide) ?_ ?_
                · refine s_iconst (v := 0) G dX6_isCaught_154 (by decide) ?_
                  refine s_keep [false, false, false, false, false, false] (lv2 := [none, none, none, none, none, none]) rfl ?_
                  exact fun hx => hB133 0 hx
                · refine s_iload G dX6_isCaught_136 rfl ?_
                  refine s_if_eq (tgt := 154) G dX6_isCaught_138 (by decide) ?_ ?_
                  · refine s_iconst (v := 0) G dX6_isCaught_154 (by decide) ?_
                    refine s_keep [false, false, false, false, false, false] (lv2 := [none, none, none, none, none, none]) rfl ?_
                    exact fun hx => hB133 0 hx
                  · refine s_aload_n G dX6_isCaught_141 rfl ?_
                    refine s_iload_n G dX6_isCaught_142 rfl ?_
                    refine s_iconst (v := 3) G dX6_isCaught_143 (by decide) ?_
                    refine s_callVi (as := [.int a1, .int 3]) (st := []) (k := 36) G aw_self mdX6_its (fun _ h => c_X6_its w O l a1 3 M _ h) ⟨by decide, by decide⟩ (ce36 w) clX6 rfl qw846 rfl rfl (Nat.le_of_ble_eq_true rfl) (by decide) dX6_isCaught_144 (fun r144 => ?_)
                    refine s_if_le (tgt := 154) G dX6_isCaught_147 (by decide) ?_ ?_
                    · refine s_iconst (v := 0) G dX6_isCaught_154 (by decide) ?_
                      refine s_keep [false, false, false, false, false, false] (lv2 := [none, none, none, none, none, none]) rfl ?_
                      exact fun hx => hB133 0 hx
                    · refine s_iconst (v := 1) G dX6_isCaught_150 (by decide) ?_
                      refine s_goto (tgt := 155) G dX6_isCaught_151 (by decide) ?_
                      refine s_keep [false, false, false, false, false, false] (lv2 := [none, none, none, none, none, none]) rfl ?_
                      exact fun hx => hB133 1 hx
            · refine s_tabIn (v := 5) (off := 102) (tgt := 156) G dX6_isCaught_54 (by decide) (by decide) (by decide) (by decide) ?_ (fun h54_4 => ?_)
              · refine s_iload G dX6_isCaught_156 rfl ?_
                refine s_iconst (v := 1) G dX6_isCaught_158 (by decide) ?_
                refine s_join 172 (fun y159 : Int32 => [none, none, none, none, none, none]) (fun y159 => [.int y159]) (fun y159 => M) (fun y159 => ?_) (fun K159 hB159 => ?_)
                · refine s_test (fun h172 => ?_)
                  exact s_zret G rfl (zb_nar h172) rfl dX6_isCaught_172
                · refine s_icmp_ne (tgt := 171) G dX6_isCaught_159 (by decide) ?_ ?_
                  · refine s_iload G dX6_isCaught_162 rfl ?_
                    refine s_if_ne (tgt := 171) G dX6_isCaught_164 (by decide) ?_ ?_
                    · refine s_iconst (v := 1) G dX6_isCaught_167 (by decide) ?_
                      refine s_goto (tgt := 172) G dX6_isCaught_168 (by decide) ?_
                      refine s_keep [false, false, false, false, false, false] (lv2 := [none, none, none, none, none, none]) rfl ?_
                      exact fun hx => hB159 1 hx
                    · refine s_iconst (v := 0) G dX6_isCaught_171 (by decide) ?_
                      refine s_keep [false, false, false, false, false, false] (lv2 := [none, none, none, none, none, none]) rfl ?_
                      exact fun hx => hB159 0 hx
                  · refine s_iconst (v := 0) G dX6_isCaught_171 (by decide) ?_
                    refine s_keep [false, false, false, false, false, false] (lv2 := [none, none, none, none, none, none]) rfl ?_
                    exact fun hx => hB159 0 hx
              · refine s_tabOut (tgt := 173) G dX6_isCaught_54 (by have e0 := lv_neT (a := 1) h54_0 (by decide); have e1 := lv_neT (a := 2) h54_1 (by decide); have e2 := lv_neT (a := 3) h54_2 (by decide); have e3 := lv_neT (a := 4) h54_3 (by decide); have e4 := lv_neT (a := 5) h54_4 (by decide); omega) (by decide) ?_
                refine s_iload G dX6_isCaught_173 rfl ?_
                refine s_iconst (v := 1) G dX6_isCaught_175 (by decide) ?_
                refine s_join 189 (fun y176 : Int32 => [none, none, none, none, none, none]) (fun y176 => [.int y176]) (fun y176 => M) (fun y176 => ?_) (fun K176 hB176 => ?_)
                · refine s_test (fun h189 => ?_)
                  exact s_zret G rfl (zb_nar h189) rfl dX6_isCaught_189
                · refine s_icmp_ne (tgt := 188) G dX6_isCaught_176 (by decide) ?_ ?_
                  · refine s_iload G dX6_isCaught_179 rfl ?_
                    refine s_if_eq (tgt := 188) G dX6_isCaught_181 (by decide) ?_ ?_
                    · refine s_iconst (v := 0) G dX6_isCaught_188 (by decide) ?_
                      refine s_keep [false, false, false, false, false, false] (lv2 := [none, none, none, none, none, none]) rfl ?_
                      exact fun hx => hB176 0 hx
                    · refine s_iconst (v := 1) G dX6_isCaught_184 (by decide) ?_
                      refine s_goto (tgt := 189) G dX6_isCaught_185 (by decide) ?_
                      refine s_keep [false, false, false, false, false, false] (lv2 := [none, none, none, none, none, none]) rfl ?_
                      exact fun hx => hB176 1 hx
                  · refine s_iconst (v := 0) G dX6_isCaught_188 (by decide) ?_
                    refine s_keep [false, false, false, false, false, false] (lv2 := [none, none, none, none, none, none]) rfl ?_
                    exact fun hx => hB176 0 hx
    · refine s_icmp_ne (tgt := 45) G dX6_isCaught_38 (by decide) ?_ ?_
      · refine s_iconst (v := 1) G dX6_isCaught_41 (by decide) ?_
        refine s_goto (tgt := 46) G dX6_isCaught_42 (by decide) ?_
        refine s_keep [true, true, false, false, true, false] (lv2 := [some (.ref (w.1 36)), some (.int a1), none, none, some (.int y15), none]) rfl ?_
        exact fun hx => hB38 1 hx
      · refine s_iconst (v := 0) G dX6_isCaught_45 (by decide) ?_
        refine s_keep [true, true, false, false, true, false] (lv2 := [some (.ref (w.1 36)), some (.int a1), none, none, some (.int y15), none]) rfl ?_
        exact fun hx => hB38 0 hx
  · refine s_if_ge (tgt := 23) G dX6_isCaught_15 (by decide) ?_ ?_
    · refine s_iload_n G dX6_isCaught_23 rfl ?_
      refine s_keep [true, true, true, false, false, false] (lv2 := [some (.ref (w.1 36)), some (.int a1), some (.int a2), none, none, none]) rfl ?_
      exact fun hx => hB15 v13 hx
    · refine s_iload_n G dX6_isCaught_18 rfl ?_
      refine s_ineg G dX6_isCaught_19 ?_
      refine s_goto (tgt := 24) G dX6_isCaught_20 (by decide) ?_
      refine s_keep [true, true, true, false, false, false] (lv2 := [some (.ref (w.1 36)), some (.int a1), some (.int a2), none, none, none]) rfl ?_
      exact fun hx => hB15 (-v13) hx

set_option maxRecDepth 100000 in
set_option maxHeartbeats 4000000 in
theorem c_X6_areTangled (w : Wx) (O : Mem) (l : Launch) (a1 : Int32) (a2 : Int32) (M : Mem)  (z : Int32) (hz : f_X6_areTangled a1 a2 M = some z) : Ct w 36 48 O l 3 muX6_areTangled [.ref (w.1 36), .int a1, .int a2] M (some (.int z), M) := by
  refine ct_of (X := f_X6_areTangled a1 a2 M) (K := fun v => some (some (.int v), M)) [some (.ref (w.1 36)), some (.int a1), some (.int a2)] rfl rfl (Nat.le_of_ble_eq_true rfl) (by rw [hz]; rfl) ?_
  intro p e s m args below meth c G
  unfold f_X6_areTangled
  refine s_iload_n G dX6_areTangled_0 rfl ?_
  refine s_iload_n G dX6_areTangled_1 rfl ?_
  refine s_join 44 (fun y2 : Int32 => [none, none, none]) (fun y2 => [.int y2]) (fun y2 => M) (fun y2 => ?_) (fun K2 hB2 => ?_)
  · refine s_test (fun h44 => ?_)
    exact s_zret G rfl (zb_nar h44) rfl dX6_areTangled_44
  · refine s_icmp_eq (tgt := 43) G dX6_areTangled_2 (by decide) ?_ ?_
    · refine s_iconst (v := 0) G dX6_areTangled_43 (by decide) ?_
      refine s_keep [false, false, false] (lv2 := [none, none, none]) rfl ?_
      exact fun hx => hB2 0 hx
    · refine s_aload_n G dX6_areTangled_5 rfl ?_
      refine s_iload_n G dX6_areTangled_6 rfl ?_
      refine s_callVi (as := [.int a1]) (st := []) (k := 36) G aw_self mdX6_isOn (fun _ h => c_X6_isOn w O l a1 M _ h) ⟨by decide, by decide⟩ (ce36 w) clX6 rfl qw902 rfl rfl (Nat.le_of_ble_eq_true rfl) (by decide) dX6_areTangled_7 (fun r7 => ?_)
      refine s_if_eq (tgt := 43) G dX6_areTangled_10 (by decide) ?_ ?_
      · refine s_iconst (v := 0) G dX6_areTangled_43 (by decide) ?_
        refine s_keep [false, false, false] (lv2 := [none, none, none]) rfl ?_
        exact fun hx => hB2 0 hx
      · refine s_aload_n G dX6_areTangled_13 rfl ?_
        refine s_iload_n G dX6_areTangled_14 rfl ?_
        refine s_callVi (as := [.int a2]) (st := []) (k := 36) G aw_self mdX6_isOn (fun _ h => c_X6_isOn w O l a2 M _ h) ⟨by decide, by decide⟩ (ce36 w) clX6 rfl qw902 rfl rfl (Nat.le_of_ble_eq_true rfl) (by decide) dX6_areTangled_15 (fun r15 => ?_)
        refine s_if_eq (tgt := 43) G dX6_areTangled_18 (by decide) ?_ ?_
        · refine s_iconst (v := 0) G dX6_areTangled_43 (by decide) ?_
          refine s_keep [false, false, false] (lv2 := [none, none, none]) rfl ?_
          exact fun hx => hB2 0 hx
        · refine s_aload_n G dX6_areTangled_21 rfl ?_
          refine s_iload_n G dX6_areTangled_22 rfl ?_
          refine s_iload_n G dX6_areTangled_23 rfl ?_
          refine s_callVi (as := [.int a1, .int a2]) (st := []) (k := 36) G aw_self mdX6_isCaught (fun _ h => c_X6_isCaught w O l a1 a2 M _ h) ⟨by decide, by decide⟩ (ce36 w) clX6 rfl qw972 rfl rfl (Nat.le_of_ble_eq_true rfl) (by decide) dX6_areTangled_24 (fun r24 => ?_)
          refine s_if_ne (tgt := 39) G dX6_areTangled_27 (by decide) ?_ ?_
          · refine s_aload_n G dX6_areTangled_30 rfl ?_
            refine s_iload_n G dX6_areTangled_31 rfl ?_
            refine s_iload_n G dX6_areTangled_32 rfl ?_
            refine s_callVi (as := [.int a2, .int a1]) (st := []) (k := 36) G aw_self mdX6_isCaught (fun _ h => c_X6_isCaught w O l a2 a1 M _ h) ⟨by decide, by decide⟩ (ce36 w) clX6 rfl qw972 rfl rfl (Nat.le_of_ble_eq_true rfl) (by decide) dX6_areTangled_33 (fun r33 => ?_)
            refine s_if_eq (tgt := 43) G dX6_areTangled_36 (by decide) ?_ ?_
            · refine s_iconst (v := 0) G dX6_areTangled_43 (by decide) ?_
              refine s_keep [false, false, false] (lv2 := [none, none, none]) rfl ?_
              exact fun hx => hB2 0 hx
            · refine s_iconst (v := 1) G dX6_areTangled_39 (by decide) ?_
              refine s_goto (tgt := 44) G dX6_areTangled_40 (by decide) ?_
              refine s_keep [false, false, false] (lv2 := [none, none, none]) rfl ?_
              exact fun hx => hB2 1 hx
          · refine s_iconst (v := 1) G dX6_areTangled_39 (by decide) ?_
            refine s_goto (tgt := 44) G dX6_areTangled_40 (by decide) ?_
            refine s_keep [false, false, false] (lv2 := [none, none, none]) rfl ?_
            exact fun hx => hB2 1 hx

set_option maxRecDepth 100000 in
set_option maxHeartbeats 4000000 in
theorem c_X6_tangledWith (w : Wx) (O : Mem) (l : Launch) (a1 : Int32) (M : Mem)  (z : Int32) (hz : f_X6_tangledWith a1 M = some z) : Ct w 36 48 O l 4 muX6_tangledWith [.ref (w.1 36), .int a1] M (some (.int z), M) := by
  refine ct_of (X := f_X6_tangledWith a1 M) (K := fun v => some (some (.int v), M)) [some (.ref (w.1 36)), some (.int a1), none, none] rfl rfl (Nat.le_of_ble_eq_true rfl) (by rw [hz]; rfl) ?_
  intro p e s m args below meth c G
  unfold f_X6_tangledWith
  refine s_iconst (v := 0) G dX6_tangledWith_0 (by decide) ?_
  refine s_istore_n (lv2 := [some (.ref (w.1 36)), some (.int a1), some (.int 0), none]) G dX6_tangledWith_1 (by decide) rfl rfl ?_
  refine s_iconst (v := 0) G dX6_tangledWith_2 (by decide) ?_
  refine s_istore_n (lv2 := [some (.ref (w.1 36)), some (.int a1), some (.int 0), some (.int 0)]) G dX6_tangledWith_3 (by decide) rfl rfl ?_
  refine s_loopG (lvf := fun z4 : Int32 × Int32 => [some (.ref (w.1 36)), some (.int a1), some (.int z4.1), some (.int z4.2)]) (Mf := fun z4 : Int32 × Int32 => M) (ex := (fun x4_39 : Int32 => (39, [none, none, some (.int x4_39), none], M))) (el_one 39 (fun x4_39 : Int32 => [none, none, some (.int x4_39), none]) (fun x4_39 : Int32 => M) (fun x4_39 => ?_)) (fun z4 K4 hB4 hE4 => ?_)
  · refine s_iload_n G dX6_tangledWith_39 rfl ?_
    exact s_iret G rfl rfl dX6_tangledWith_40
  · unfold f_X6_tangledWith_L4
    refine s_iload_n G dX6_tangledWith_4 rfl ?_
    refine s_aload_n G dX6_tangledWith_5 rfl ?_
    refine s_get (k := 36) (j := 0) G (.ref (w.1 37)) ⟨by decide, by decide⟩ (ce36 w) rfl clX6 (by decide) qw755 rfl dX6_tangledWith_6 ?_
    refine s_iconst (v := 0) G dX6_tangledWith_9 (by decide) ?_
    refine s_ialdC (k := 37) (n := 63) (j := 0) G ⟨by decide, by decide⟩ (ce37 w) (by decide) (by decide) dX6_tangledWith_10 ?_
    refine s_icmp_ge (tgt := 39) G dX6_tangledWith_11 (by decide) ?_ ?_
    · refine s_keep [false, false, true, false] (lv2 := [none, none, some (.int z4.1), none]) rfl ?_
      exact fun hx => hE4 z4.1 hx
    · refine s_iload_n G dX6_tangledWith_14 rfl ?_
      refine s_aload_n G dX6_tangledWith_15 rfl ?_
      refine s_iload_n G dX6_tangledWith_16 rfl ?_
      refine s_iload_n G dX6_tangledWith_17 rfl ?_
      refine s_callVi (as := [.int a1, .int z4.2]) (st := [.int z4.1]) (k := 36) G aw_self mdX6_areTangled (fun _ h => c_X6_areTangled w O l a1 z4.2 M _ h) ⟨by decide, by decide⟩ (ce36 w) clX6 rfl qw968 rfl rfl (Nat.le_of_ble_eq_true rfl) (by decide) dX6_tangledWith_18 (fun r18 => ?_)
      refine s_join 31 (fun y21 : Int32 => [some (.ref (w.1 36)), some (.int a1), none, some (.int z4.2)]) (fun y21 => [.int y21, .int z4.1]) (fun y21 => M) (fun y21 => ?_) (fun K21 hB21 => ?_)
      · refine s_ior G dX6_tangledWith_31 ?_
        refine s_name (f := Value.int) (fun v32 => ?_)
        refine s_istore_n (lv2 := [some (.ref (w.1 36)), some (.int a1), some (.int v32), some (.int z4.2)]) G dX6_tangledWith_32 (by decide) rfl rfl ?_
        refine s_iinc (v := (z4.2 + 1)) (lv2 := [some (.ref (w.1 36)), some (.int a1), some (.int v32), some (.int (z4.2 + 1))]) G dX6_tangledWith_33 rfl rfl (by decide) rfl rfl ?_
        refine s_goto (tgt := 4) G dX6_tangledWith_36 (by decide) ?_
        exact fun hx => hB4 (v32, (z4.2 + 1)) hx
      · refine s_if_eq (tgt := 30) G dX6_tangledWith_21 (by decide) ?_ ?_
        · refine s_iconst (v := 0) G dX6_tangledWith_30 (by decide) ?_
          refine s_keep [true, true, false, true] (lv2 := [some (.ref (w.1 36)), some (.int a1), none, some (.int z4.2)]) rfl ?_
          exact fun hx => hB21 0 hx
        · refine s_iconst (v := 1) G dX6_tangledWith_24 (by decide) ?_
          refine s_iload_n G dX6_tangledWith_25 rfl ?_
          refine s_ishl G dX6_tangledWith_26 ?_
          refine s_goto (tgt := 31) G dX6_tangledWith_27 (by decide) ?_
          refine s_keep [true, true, false, true] (lv2 := [some (.ref (w.1 36)), some (.int a1), none, some (.int z4.2)]) rfl ?_
          exact fun hx => hB21 ((1 : Int32) <<< (z4.2 &&& 31)) hx

set_option maxRecDepth 100000 in
set_option maxHeartbeats 4000000 in
theorem c_X6_heapOf (w : Wx) (O : Mem) (l : Launch) (a1 : Int32) (M : Mem)  (z : Int32) (hz : f_X6_heapOf a1 M = some z) : Ct w 36 48 O l 5 muX6_heapOf [.ref (w.1 36), .int a1] M (some (.int z), M) := by
  refine ct_of (X := f_X6_heapOf a1 M) (K := fun v => some (some (.int v), M)) [some (.ref (w.1 36)), some (.int a1), none, none, none] rfl rfl (Nat.le_of_ble_eq_true rfl) (by rw [hz]; rfl) ?_
  intro p e s m args below meth c G
  unfold f_X6_heapOf
  refine s_iconst (v := 1) G dX6_heapOf_0 (by decide) ?_
  refine s_iload_n G dX6_heapOf_1 rfl ?_
  refine s_ishl G dX6_heapOf_2 ?_
  refine s_name (f := Value.int) (fun v3 => ?_)
  refine s_istore_n (lv2 := [some (.ref (w.1 36)), some (.int a1), some (.int v3), none, none]) G dX6_heapOf_3 (by decide) rfl rfl ?_
  refine s_iconst (v := 0) G dX6_heapOf_4 (by decide) ?_
  refine s_istore_n (lv2 := [some (.ref (w.1 36)), some (.int a1), some (.int v3), some (.int 0), none]) G dX6_heapOf_5 (by decide) rfl rfl ?_
  refine s_keep [true, false, true, true, false] (lv2 := [some (.ref (w.1 36)), none, some (.int v3), some (.int 0), none]) rfl ?_
  refine s_loopG (lvf := fun z6 : Int32 × Int32 => [some (.ref (w.1 36)), none, some (.int z6.1), some (.int z6.2), none]) (Mf := fun z6 : Int32 × Int32 => M) (ex := (fun x6_59 : Int32 => (59, [none, none, some (.int x6_59), none, none], M))) (el_one 59 (fun x6_59 : Int32 => [none, none, some (.int x6_59), none, none]) (fun x6_59 : Int32 => M) (fun x6_59 => ?_)) (fun z6 K6 hB6 hE6 => ?_)
  · refine s_iload_n G dX6_heapOf_59 rfl ?_
    exact s_iret G rfl rfl dX6_heapOf_60
  · unfold f_X6_heapOf_L6
    refine s_iload_n G dX6_heapOf_6 rfl ?_
    refine s_iload_n G dX6_heapOf_7 rfl ?_
    refine s_icmp_eq (tgt := 59) G dX6_heapOf_8 (by decide) ?_ ?_
    · refine s_keep [false, false, true, false, false] (lv2 := [none, none, some (.int z6.1), none, none]) rfl ?_
      exact fun hx => hE6 z6.1 hx
    · refine s_iload_n G dX6_heapOf_11 rfl ?_
      refine s_istore_n (lv2 := [some (.ref (w.1 36)), none, some (.int z6.1), some (.int z6.1), none]) G dX6_heapOf_12 (by decide) rfl rfl ?_
      refine s_iconst (v := 0) G dX6_heapOf_13 (by decide) ?_
      refine s_istore (lv2 := [some (.ref (w.1 36)), none, some (.int z6.1), some (.int z6.1), some (.int 0)]) G dX6_heapOf_14 (by decide) rfl rfl ?_
      refine s_loopG (lvf := fun z16 : Int32 × Int32 => [some (.ref (w.1 36)), none, some (.int z16.1), some (.int z6.1), some (.int z16.2)]) (Mf := fun z16 : Int32 × Int32 => M) (ex := (fun x16_56 : Int32 => (56, [some (.ref (w.1 36)), none, some (.int x16_56), some (.int z6.1), none], M))) (el_one 56 (fun x16_56 : Int32 => [some (.ref (w.1 36)), none, some (.int x16_56), some (.int z6.1), none]) (fun x16_56 : Int32 => M) (fun x16_56 => ?_)) (fun z16 K16 hB16 hE16 => ?_)
      · refine s_goto (tgt := 6) G dX6_heapOf_56 (by decide) ?_
        exact fun hx => hB6 (x16_56, z6.1) hx
      · unfold f_X6_heapOf_L16
        refine s_iload G dX6_heapOf_16 rfl ?_
        refine s_aload_n G dX6_heapOf_18 rfl ?_
        refine s_get (k := 36) (j := 0) G (.ref (w.1 37)) ⟨by decide, by decide⟩ (ce36 w) rfl clX6 (by decide) qw755 rfl dX6_heapOf_19 ?_
        refine s_iconst (v := 0) G dX6_heapOf_22 (by decide) ?_
        refine s_ialdC (k := 37) (n := 63) (j := 0) G ⟨by decide, by decide⟩ (ce37 w) (by decide) (by decide) dX6_heapOf_23 ?_
        refine s_icmp_ge (tgt := 56) G dX6_heapOf_24 (by decide) ?_ ?_
        · refine s_keep [true, false, true, true, false] (lv2 := [some (.ref (w.1 36)), none, some (.int z16.1), some (.int z6.1), none]) rfl ?_
          exact fun hx => hE16 z16.1 hx
        · refine s_iload_n G dX6_heapOf_27 rfl ?_
          refine s_iload_n G dX6_heapOf_28 rfl ?_
          refine s_iload G dX6_heapOf_29 rfl ?_
          refine s_ishr G dX6_heapOf_31 ?_
          refine s_iconst (v := 1) G dX6_heapOf_32 (by decide) ?_
          refine s_iand G dX6_heapOf_33 ?_
          refine s_iconst (v := 1) G dX6_heapOf_34 (by decide) ?_
          refine s_join 48 (fun y35 : Int32 => [some (.ref (w.1 36)), none, none, some (.int z6.1), some (.int z16.2)]) (fun y35 => [.int y35, .int z16.1]) (fun y35 => M) (fun y35 => ?_) (fun K35 hB35 => ?_)
          · refine s_ior G dX6_heapOf_48 ?_
            refine s_name (f := Value.int) (fun v49 => ?_)
            refine s_istore_n (lv2 := [some (.ref (w.1 36)), none, some (.int v49), some (.int z6.1), some (.int z16.2)]) G dX6_heapOf_49 (by decide) rfl rfl ?_
            refine s_iinc (v := (z16.2 + 1)) (lv2 := [some (.ref (w.1 36)), none, some (.int v49), some (.int z6.1), some (.int (z16.2 + 1))]) G dX6_heapOf_50 rfl rfl (by decide) rfl rfl ?_
            refine s_goto (tgt := 16) G dX6_heapOf_53 (by decide) ?_
            exact fun hx => hB16 (v49, (z16.2 + 1)) hx
          · refine s_icmp_ne (tgt := 47) G dX6_heapOf_35 (by decide) ?_ ?_
            · refine s_aload_n G dX6_heapOf_38 rfl ?_
              refine s_iload G dX6_heapOf_39 rfl ?_
              refine s_callVi (as := [.int z16.2]) (st := [.int z16.1]) (k := 36) G aw_self mdX6_tangledWith (fun _ h => c_X6_tangledWith w O l z16.2 M _ h) ⟨by decide, by decide⟩ (ce36 w) clX6 rfl qw964 rfl rfl (Nat.le_of_ble_eq_true rfl) (by decide) dX6_heapOf_41 (fun r41 => ?_)
              refine s_goto (tgt := 48) G dX6_heapOf_44 (by decide) ?_
              refine s_keep [true, false, false, true, true] (lv2 := [some (.ref (w.1 36)), none, none, some (.int z6.1), some (.int z16.2)]) rfl ?_
              exact fun hx => hB35 r41 hx
            · refine s_iconst (v := 0) G dX6_heapOf_47 (by decide) ?_
              refine s_keep [true, false, false, true, true] (lv2 := [some (.ref (w.1 36)), none, none, some (.int z6.1), some (.int z16.2)]) rfl ?_
              exact fun hx => hB35 0 hx

set_option maxRecDepth 100000 in
set_option maxHeartbeats 4000000 in
theorem c_X6_comesBy (w : Wx) (O : Mem) (l : Launch) (a1 : Int32) (a2 : Int32) (M : Mem)  (z : Int32) (hz : f_X6_comesBy a1 a2 M = some z) : Ct w 36 48 O l 6 muX6_comesBy [.ref (w.1 36), .int a1, .int a2] M (some (.int z), M) := by
  refine ct_of (X := f_X6_comesBy a1 a2 M) (K := fun v => some (some (.int v), M)) [some (.ref (w.1 36)), some (.int a1), some (.int a2)] rfl rfl (Nat.le_of_ble_eq_true rfl) (by rw [hz]; rfl) ?_
  intro p e s m args below meth c G
  unfold f_X6_comesBy
  refine s_iload_n G dX6_comesBy_0 rfl ?_
  refine s_join 32 (fun y1 : Int32 => [none, none, none]) (fun y1 => [.int y1]) (fun y1 => M) (fun y1 => ?_) (fun K1 hB1 => ?_)
  · exact s_iret G rfl rfl dX6_comesBy_32
  · refine s_if_ne (tgt := 12) G dX6_comesBy_1 (by decide) ?_ ?_
    · refine s_aload_n G dX6_comesBy_4 rfl ?_
      refine s_iload_n G dX6_comesBy_5 rfl ?_
      refine s_callVi (as := [.int a1]) (st := []) (k := 36) G aw_self mdX6_heapOf (fun _ h => c_X6_heapOf w O l a1 M _ h) ⟨by decide, by decide⟩ (ce36 w) clX6 rfl qw960 rfl rfl (Nat.le_of_ble_eq_true rfl) (by decide) dX6_comesBy_6 (fun r6 => ?_)
      refine s_goto (tgt := 32) G dX6_comesBy_9 (by decide) ?_
      refine s_keep [false, false, false] (lv2 := [none, none, none]) rfl ?_
      exact fun hx => hB1 r6 hx
    · refine s_iload_n G dX6_comesBy_12 rfl ?_
      refine s_iconst (v := 1) G dX6_comesBy_13 (by decide) ?_
      refine s_icmp_ne (tgt := 29) G dX6_comesBy_14 (by decide) ?_ ?_
      · refine s_aload_n G dX6_comesBy_17 rfl ?_
        refine s_iload_n G dX6_comesBy_18 rfl ?_
        refine s_callVi (as := [.int a1]) (st := []) (k := 36) G aw_self mdX6_tangledWith (fun _ h => c_X6_tangledWith w O l a1 M _ h) ⟨by decide, by decide⟩ (ce36 w) clX6 rfl qw964 rfl rfl (Nat.le_of_ble_eq_true rfl) (by decide) dX6_comesBy_19 (fun r19 => ?_)
        refine s_iconst (v := 1) G dX6_comesBy_22 (by decide) ?_
        refine s_iload_n G dX6_comesBy_23 rfl ?_
        refine s_ishl G dX6_comesBy_24 ?_
        refine s_ior G dX6_comesBy_25 ?_
        refine s_goto (tgt := 32) G dX6_comesBy_26 (by decide) ?_
        refine s_keep [false, false, false] (lv2 := [none, none, none]) rfl ?_
        exact fun hx => hB1 (r19 ||| ((1 : Int32) <<< (a1 &&& 31))) hx
      · refine s_iconst (v := 1) G dX6_comesBy_29 (by decide) ?_
        refine s_iload_n G dX6_comesBy_30 rfl ?_
        refine s_ishl G dX6_comesBy_31 ?_
        refine s_keep [false, false, false] (lv2 := [none, none, none]) rfl ?_
        exact fun hx => hB1 ((1 : Int32) <<< (a1 &&& 31)) hx

set_option maxRecDepth 100000 in
set_option maxHeartbeats 4000000 in
theorem c_X6_mayTake (w : Wx) (O : Mem) (l : Launch) (a1 : Int32) (a2 : Int32) (M : Mem)  (z : Int32) (hz : f_X6_mayTake a1 a2 M = some z) : Ct w 36 48 O l 4 muX6_mayTake [.ref (w.1 36), .int a1, .int a2] M (some (.int z), M) := by
  refine ct_of (X := f_X6_mayTake a1 a2 M) (K := fun v => some (some (.int v), M)) [some (.ref (w.1 36)), some (.int a1), some (.int a2), none] rfl rfl (Nat.le_of_ble_eq_true rfl) (by rw [hz]; rfl) ?_
  intro p e s m args below meth c G
  unfold f_X6_mayTake
  refine s_aload_n G dX6_mayTake_0 rfl ?_
  refine s_aload_n G dX6_mayTake_1 rfl ?_
  refine s_iload_n G dX6_mayTake_2 rfl ?_
  refine s_iconst (v := 1) G dX6_mayTake_3 (by decide) ?_
  refine s_callVi (as := [.int a1, .int 1]) (st := [.ref (w.1 36)]) (k := 36) G aw_self mdX6_its (fun _ h => c_X6_its w O l a1 1 M _ h) ⟨by decide, by decide⟩ (ce36 w) clX6 rfl qw846 rfl rfl (Nat.le_of_ble_eq_true rfl) (by decide) dX6_mayTake_4 (fun r4 => ?_)
  refine s_iconst (v := 1) G dX6_mayTake_7 (by decide) ?_
  refine s_isub G dX6_mayTake_8 ?_
  refine s_callVi (as := [.int (r4 - 1)]) (st := []) (k := 36) G aw_self mdX6_isFree (fun _ h => c_X6_isFree w O l (r4 - 1) M _ h) ⟨by decide, by decide⟩ (ce36 w) clX6 rfl qw906 rfl rfl (Nat.le_of_ble_eq_true rfl) (by decide) dX6_mayTake_9 (fun r9 => ?_)
  refine s_join 20 (fun y12 : Int32 => [some (.ref (w.1 36)), some (.int a1), some (.int a2), none]) (fun y12 => [.int y12]) (fun y12 => M) (fun y12 => ?_) (fun K12 hB12 => ?_)
  · refine s_aload_n G dX6_mayTake_20 rfl ?_
    refine s_aload_n G dX6_mayTake_21 rfl ?_
    refine s_iload_n G dX6_mayTake_22 rfl ?_
    refine s_iconst (v := 1) G dX6_mayTake_23 (by decide) ?_
    refine s_callVi (as := [.int a1, .int 1]) (st := [.ref (w.1 36), .int y12]) (k := 36) G aw_self mdX6_its (fun _ h => c_X6_its w O l a1 1 M _ h) ⟨by decide, by decide⟩ (ce36 w) clX6 rfl qw846 rfl rfl (Nat.le_of_ble_eq_true rfl) (by decide) dX6_mayTake_24 (fun r24 => ?_)
    refine s_iconst (v := 1) G dX6_mayTake_27 (by decide) ?_
    refine s_iadd G dX6_mayTake_28 ?_
    refine s_callVi (as := [.int (r24 + 1)]) (st := [.int y12]) (k := 36) G aw_self mdX6_isFree (fun _ h => c_X6_isFree w O l (r24 + 1) M _ h) ⟨by decide, by decide⟩ (ce36 w) clX6 rfl qw906 rfl rfl (Nat.le_of_ble_eq_true rfl) (by decide) dX6_mayTake_29 (fun r29 => ?_)
    refine s_join 40 (fun y32 : Int32 => [some (.ref (w.1 36)), some (.int a1), some (.int a2), none]) (fun y32 => [.int y32, .int y12]) (fun y32 => M) (fun y32 => ?_) (fun K32 hB32 => ?_)
    · refine s_iadd G dX6_mayTake_40 ?_
      refine s_name (f := Value.int) (fun v41 => ?_)
      refine s_istore_n (lv2 := [some (.ref (w.1 36)), some (.int a1), some (.int a2), some (.int v41)]) G dX6_mayTake_41 (by decide) rfl rfl ?_
      refine s_aload_n G dX6_mayTake_42 rfl ?_
      refine s_iload_n G dX6_mayTake_43 rfl ?_
      refine s_callVi (as := [.int a1]) (st := []) (k := 36) G aw_self mdX6_isOn (fun _ h => c_X6_isOn w O l a1 M _ h) ⟨by decide, by decide⟩ (ce36 w) clX6 rfl qw902 rfl rfl (Nat.le_of_ble_eq_true rfl) (by decide) dX6_mayTake_44 (fun r44 => ?_)
      refine s_join 69 (fun y47 : Int32 => [none, none, none, none]) (fun y47 => [.int y47]) (fun y47 => M) (fun y47 => ?_) (fun K47 hB47 => ?_)
      · refine s_test (fun h69 => ?_)
        exact s_zret G rfl (zb_nar h69) rfl dX6_mayTake_69
      · refine s_if_eq (tgt := 68) G dX6_mayTake_47 (by decide) ?_ ?_
        · refine s_iconst (v := 0) G dX6_mayTake_68 (by decide) ?_
          refine s_keep [false, false, false, false] (lv2 := [none, none, none, none]) rfl ?_
          exact fun hx => hB47 0 hx
        · refine s_iload_n G dX6_mayTake_50 rfl ?_
          refine s_iconst (v := 2) G dX6_mayTake_51 (by decide) ?_
          refine s_icmp_ne (tgt := 64) G dX6_mayTake_52 (by decide) ?_ ?_
          · refine s_iload_n G dX6_mayTake_55 rfl ?_
            refine s_aload_n G dX6_mayTake_56 rfl ?_
            refine s_iload_n G dX6_mayTake_57 rfl ?_
            refine s_callVi (as := [.int a1]) (st := [.int v41]) (k := 36) G aw_self mdX6_needs (fun _ h => c_X6_needs w O l a1 M _ h) ⟨by decide, by decide⟩ (ce36 w) clX6 rfl qw854 rfl rfl (Nat.le_of_ble_eq_true rfl) (by decide) dX6_mayTake_58 (fun r58 => ?_)
            refine s_icmp_lt (tgt := 68) G dX6_mayTake_61 (by decide) ?_ ?_
            · refine s_iconst (v := 0) G dX6_mayTake_68 (by decide) ?_
              refine s_keep [false, false, false, false] (lv2 := [none, none, none, none]) rfl ?_
              exact fun hx => hB47 0 hx
            · refine s_iconst (v := 1) G dX6_mayTake_64 (by decide) ?_
              refine s_goto (tgt := 69) G dX6_mayTake_65 (by decide) ?_
              refine s_keep [false, false, false, false] (lv2 := [none, none, none, none]) rfl ?_
              exact fun hx => hB47 1 hx
          · refine s_iconst (v := 1) G dX6_mayTake_64 (by decide) ?_
            refine s_goto (tgt := 69) G dX6_mayTake_65 (by decide) ?_
            refine s_keep [false, false, false, false] (lv2 := [none, none, none, none]) rfl ?_
            exact fun hx => hB47 1 hx
    · refine s_if_eq (tgt := 39) G dX6_mayTake_32 (by decide) ?_ ?_
      · refine s_iconst (v := 0) G dX6_mayTake_39 (by decide) ?_
        exact fun hx => hB32 0 hx
      · refine s_iconst (v := 1) G dX6_mayTake_35 (by decide) ?_
        refine s_goto (tgt := 40) G dX6_mayTake_36 (by decide) ?_
        exact fun hx => hB32 1 hx
  · refine s_if_eq (tgt := 19) G dX6_mayTake_12 (by decide) ?_ ?_
    · refine s_iconst (v := 0) G dX6_mayTake_19 (by decide) ?_
      exact fun hx => hB12 0 hx
    · refine s_iconst (v := 1) G dX6_mayTake_15 (by decide) ?_
      refine s_goto (tgt := 20) G dX6_mayTake_16 (by decide) ?_
      exact fun hx => hB12 1 hx

set_option maxRecDepth 100000 in
set_option maxHeartbeats 4000000 in
theorem c_X6_fallers (w : Wx) (O : Mem) (l : Launch) (a1 : Int32) (a2 : Int32) (M : Mem)  (z : Int32) (hz : f_X6_fallers a1 a2 M = some z) : Ct w 36 48 O l 7 muX6_fallers [.ref (w.1 36), .int a1, .int a2] M (some (.int z), M) := by
  refine ct_of (X := f_X6_fallers a1 a2 M) (K := fun v => some (some (.int v), M)) [some (.ref (w.1 36)), some (.int a1), some (.int a2), none, none, none, none] rfl rfl (Nat.le_of_ble_eq_true rfl) (by rw [hz]; rfl) ?_
  intro p e s m args below meth c G
  unfold f_X6_fallers
  refine s_aload_n G dX6_fallers_0 rfl ?_
  refine s_iload_n G dX6_fallers_1 rfl ?_
  refine s_iload_n G dX6_fallers_2 rfl ?_
  refine s_callVi (as := [.int a1, .int a2]) (st := []) (k := 36) G aw_self mdX6_comesBy (fun _ h => c_X6_comesBy w O l a1 a2 M _ h) ⟨by decide, by decide⟩ (ce36 w) clX6 rfl qw956 rfl rfl (Nat.le_of_ble_eq_true rfl) (by decide) dX6_fallers_3 (fun r3 => ?_)
  refine s_istore_n (lv2 := [some (.ref (w.1 36)), some (.int a1), some (.int a2), some (.int r3), none, none, none]) G dX6_fallers_6 (by decide) rfl rfl ?_
  refine s_iconst (v := 0) G dX6_fallers_7 (by decide) ?_
  refine s_istore (lv2 := [some (.ref (w.1 36)), some (.int a1), some (.int a2), some (.int r3), some (.int 0), none, none]) G dX6_fallers_8 (by decide) rfl rfl ?_
  refine s_iconst (v := 0) G dX6_fallers_10 (by decide) ?_
  refine s_istore (lv2 := [some (.ref (w.1 36)), some (.int a1), some (.int a2), some (.int r3), some (.int 0), some (.int 0), none]) G dX6_fallers_11 (by decide) rfl rfl ?_
  refine s_loopG (lvf := fun z13 : Int32 × Int32 => [some (.ref (w.1 36)), some (.int a1), some (.int a2), some (.int r3), some (.int z13.1), some (.int z13.2), none]) (Mf := fun z13 : Int32 × Int32 => M) (ex := (fun x13_92 : Int32 => (92, [none, none, none, none, some (.int x13_92), none, none], M))) (el_one 92 (fun x13_92 : Int32 => [none, none, none, none, some (.int x13_92), none, none]) (fun x13_92 : Int32 => M) (fun x13_92 => ?_)) (fun z13 K13 hB13 hE13 => ?_)
  · refine s_iload G dX6_fallers_92 rfl ?_
    exact s_iret G rfl rfl dX6_fallers_94
  · unfold f_X6_fallers_L13
    refine s_iload G dX6_fallers_13 rfl ?_
    refine s_aload_n G dX6_fallers_15 rfl ?_
    refine s_get (k := 36) (j := 0) G (.ref (w.1 37)) ⟨by decide, by decide⟩ (ce36 w) rfl clX6 (by decide) qw755 rfl dX6_fallers_16 ?_
    refine s_iconst (v := 0) G dX6_fallers_19 (by decide) ?_
    refine s_ialdC (k := 37) (n := 63) (j := 0) G ⟨by decide, by decide⟩ (ce37 w) (by decide) (by decide) dX6_fallers_20 ?_
    refine s_icmp_ge (tgt := 92) G dX6_fallers_21 (by decide) ?_ ?_
    · refine s_keep [false, false, false, false, true, false, false] (lv2 := [none, none, none, none, some (.int z13.1), none, none]) rfl ?_
      exact fun hx => hE13 z13.1 hx
    · refine s_iload_n G dX6_fallers_24 rfl ?_
      refine s_iload G dX6_fallers_25 rfl ?_
      refine s_ishr G dX6_fallers_27 ?_
      refine s_iconst (v := 1) G dX6_fallers_28 (by decide) ?_
      refine s_iand G dX6_fallers_29 ?_
      refine s_iconst (v := 1) G dX6_fallers_30 (by decide) ?_
      refine s_join 66 (fun y31 : Int32 => [some (.ref (w.1 36)), some (.int a1), some (.int a2), some (.int r3), some (.int z13.1), some (.int z13.2), none]) (fun y31 => [.int y31]) (fun y31 => M) (fun y31 => ?_) (fun K31 hB31 => ?_)
      · refine s_istore (lv2 := [some (.ref (w.1 36)), some (.int a1), some (.int a2), some (.int r3), some (.int z13.1), some (.int z13.2), some (.int y31)]) G dX6_fallers_66 (by decide) rfl rfl ?_
        refine s_iload G dX6_fallers_68 rfl ?_
        refine s_iload G dX6_fallers_70 rfl ?_
        refine s_join 83 (fun y72 : Int32 => [some (.ref (w.1 36)), some (.int a1), some (.int a2), some (.int r3), none, some (.int z13.2), none]) (fun y72 => [.int y72, .int z13.1]) (fun y72 => M) (fun y72 => ?_) (fun K72 hB72 => ?_)
        · refine s_ior G dX6_fallers_83 ?_
          refine s_name (f := Value.int) (fun v84 => ?_)
          refine s_istore (lv2 := [some (.ref (w.1 36)), some (.int a1), some (.int a2), some (.int r3), some (.int v84), some (.int z13.2), none]) G dX6_fallers_84 (by decide) rfl rfl ?_
          refine s_iinc (v := (z13.2 + 1)) (lv2 := [some (.ref (w.1 36)), some (.int a1), some (.int a2), some (.int r3), some (.int v84), some (.int (z13.2 + 1)), none]) G dX6_fallers_86 rfl rfl (by decide) rfl rfl ?_
          refine s_goto (tgt := 13) G dX6_fallers_89 (by decide) ?_
          exact fun hx => hB13 (v84, (z13.2 + 1)) hx
        · refine s_if_eq (tgt := 82) G dX6_fallers_72 (by decide) ?_ ?_
          · refine s_iconst (v := 0) G dX6_fallers_82 (by decide) ?_
            refine s_keep [true, true, true, true, false, true, false] (lv2 := [some (.ref (w.1 36)), some (.int a1), some (.int a2), some (.int r3), none, some (.int z13.2), none]) rfl ?_
            exact fun hx => hB72 0 hx
          · refine s_iconst (v := 1) G dX6_fallers_75 (by decide) ?_
            refine s_iload G dX6_fallers_76 rfl ?_
            refine s_ishl G dX6_fallers_78 ?_
            refine s_goto (tgt := 83) G dX6_fallers_79 (by decide) ?_
            refine s_keep [true, true, true, true, false, true, false] (lv2 := [some (.ref (w.1 36)), some (.int a1), some (.int a2), some (.int r3), none, some (.int z13.2), none]) rfl ?_
            exact fun hx => hB72 ((1 : Int32) <<< (z13.2 &&& 31)) hx
      · refine s_icmp_ne (tgt := 65) G dX6_fallers_31 (by decide) ?_ ?_
        · refine s_iload G dX6_fallers_34 rfl ?_
          refine s_iload_n G dX6_fallers_36 rfl ?_
          refine s_icmp_ne (tgt := 45) G dX6_fallers_37 (by decide) ?_ ?_
          · refine s_iload_n G dX6_fallers_40 rfl ?_
            refine s_iconst (v := 1) G dX6_fallers_41 (by decide) ?_
            refine s_icmp_ne (tgt := 65) G dX6_fallers_42 (by decide) ?_ ?_
            · refine s_aload_n G dX6_fallers_45 rfl ?_
              refine s_iload G dX6_fallers_46 rfl ?_
              refine s_iconst (v := 3) G dX6_fallers_48 (by decide) ?_
              refine s_callVi (as := [.int z13.2, .int 3]) (st := []) (k := 36) G aw_self mdX6_its (fun _ h => c_X6_its w O l z13.2 3 M _ h) ⟨by decide, by decide⟩ (ce36 w) clX6 rfl qw846 rfl rfl (Nat.le_of_ble_eq_true rfl) (by decide) dX6_fallers_49 (fun r49 => ?_)
              refine s_aload_n G dX6_fallers_52 rfl ?_
              refine s_iload G dX6_fallers_53 rfl ?_
              refine s_callVi (as := [.int z13.2]) (st := [.int r49]) (k := 36) G aw_self mdX6_holds (fun _ h => c_X6_holds w O l z13.2 M _ h) ⟨by decide, by decide⟩ (ce36 w) clX6 rfl qw850 rfl rfl (Nat.le_of_ble_eq_true rfl) (by decide) dX6_fallers_55 (fun r55 => ?_)
              refine s_icmp_le (tgt := 65) G dX6_fallers_58 (by decide) ?_ ?_
              · refine s_iconst (v := 0) G dX6_fallers_65 (by decide) ?_
                exact fun hx => hB31 0 hx
              · refine s_iconst (v := 1) G dX6_fallers_61 (by decide) ?_
                refine s_goto (tgt := 66) G dX6_fallers_62 (by decide) ?_
                exact fun hx => hB31 1 hx
            · refine s_iconst (v := 0) G dX6_fallers_65 (by decide) ?_
              exact fun hx => hB31 0 hx
          · refine s_aload_n G dX6_fallers_45 rfl ?_
            refine s_iload G dX6_fallers_46 rfl ?_
            refine s_iconst (v := 3) G dX6_fallers_48 (by decide) ?_
            refine s_callVi (as := [.int z13.2, .int 3]) (st := []) (k := 36) G aw_self mdX6_its (fun _ h => c_X6_its w O l z13.2 3 M _ h) ⟨by decide, by decide⟩ (ce36 w) clX6 rfl qw846 rfl rfl (Nat.le_of_ble_eq_true rfl) (by decide) dX6_fallers_49 (fun r49 => ?_)
            refine s_aload_n G dX6_fallers_52 rfl ?_
            refine s_iload G dX6_fallers_53 rfl ?_
            refine s_callVi (as := [.int z13.2]) (st := [.int r49]) (k := 36) G aw_self mdX6_holds (fun _ h => c_X6_holds w O l z13.2 M _ h) ⟨by decide, by decide⟩ (ce36 w) clX6 rfl qw850 rfl rfl (Nat.le_of_ble_eq_true rfl) (by decide) dX6_fallers_55 (fun r55 => ?_)
            refine s_icmp_le (tgt := 65) G dX6_fallers_58 (by decide) ?_ ?_
            · refine s_iconst (v := 0) G dX6_fallers_65 (by decide) ?_
              exact fun hx => hB31 0 hx
            · refine s_iconst (v := 1) G dX6_fallers_61 (by decide) ?_
              refine s_goto (tgt := 66) G dX6_fallers_62 (by decide) ?_
              exact fun hx => hB31 1 hx
        · refine s_iconst (v := 0) G dX6_fallers_65 (by decide) ?_
          exact fun hx => hB31 0 hx

set_option maxRecDepth 100000 in
set_option maxHeartbeats 4000000 in
theorem c_X6_isManner (w : Wx) (O : Mem) (l : Launch) (a0 : Int32) (M : Mem)  (z : Int32) (hz : f_X6_isManner a0 = some z) : Ct w 36 48 O l 1 muX6_isManner [.int a0] M (some (.int z), M) := by
  refine ct_of (X := f_X6_isManner a0) (K := fun v => some (some (.int v), M)) [some (.int a0)] rfl rfl (Nat.le_of_ble_eq_true rfl) (by rw [hz]; rfl) ?_
  intro p e s m args below meth c G
  unfold f_X6_isManner
  refine s_iload_n G dX6_isManner_0 rfl ?_
  refine s_i2l G dX6_isManner_1 ?_
  refine s_lconst (v := 0) G dX6_isManner_2 (by decide) ?_
  refine s_ldc2 (v := 2) G dX6_isManner_3 qw947 ?_
  refine s_callSi (as := [.long a0.toInt64, .long 0, .long 2]) (st := []) G aw_self mdX6_in (fun _ h => c_X6_in w O l a0.toInt64 0 2 M _ h) qw821 rfl rfl (Nat.le_of_ble_eq_true rfl) (by decide) dX6_isManner_6 (fun r6 => ?_)
  refine s_test (fun h9 => ?_)
  exact s_zret G rfl (zb_nar h9) rfl dX6_isManner_9

set_option maxRecDepth 100000 in
set_option maxHeartbeats 4000000 in
theorem c_X6_wrongTaking (w : Wx) (O : Mem) (l : Launch) (a1 : Int32) (a2 : Int32) (M : Mem)  (z : Int32) (hz : f_X6_wrongTaking a1 a2 M = some z) : Ct w 36 48 O l 5 muX6_wrongTaking [.ref (w.1 36), .int a1, .int a2] M (some (.int z), M) := by
  refine ct_of (X := f_X6_wrongTaking a1 a2 M) (K := fun v => some (some (.int v), M)) [some (.ref (w.1 36)), some (.int a1), some (.int a2)] rfl rfl (Nat.le_of_ble_eq_true rfl) (by rw [hz]; rfl) ?_
  intro p e s m args below meth c G
  unfold f_X6_wrongTaking
  refine s_aload_n G dX6_wrongTaking_0 rfl ?_
  refine s_iload_n G dX6_wrongTaking_1 rfl ?_
  refine s_callVi (as := [.int a1]) (st := []) (k := 36) G aw_self mdX6_isHanger (fun _ h => c_X6_isHanger w O l a1 M _ h) ⟨by decide, by decide⟩ (ce36 w) clX6 rfl qw841 rfl rfl (Nat.le_of_ble_eq_true rfl) (by decide) dX6_wrongTaking_2 (fun r2 => ?_)
  refine s_join 35 (fun y5 : Int32 => [none, none, none]) (fun y5 => [.int y5]) (fun y5 => M) (fun y5 => ?_) (fun K5 hB5 => ?_)
  · exact s_iret G rfl rfl dX6_wrongTaking_35
  · refine s_if_eq (tgt := 15) G dX6_wrongTaking_5 (by decide) ?_ ?_
    · refine s_ldc (v := (-1000000001)) G dX6_wrongTaking_15 qw824 ?_
      refine s_goto (tgt := 35) G dX6_wrongTaking_17 (by decide) ?_
      refine s_keep [false, false, false] (lv2 := [none, none, none]) rfl ?_
      exact fun hx => hB5 (-1000000001) hx
    · refine s_iload_n G dX6_wrongTaking_8 rfl ?_
      refine s_callSi (as := [.int a2]) (st := []) G aw_self mdX6_isManner (fun _ h => c_X6_isManner w O l a2 M _ h) qw944 rfl rfl (Nat.le_of_ble_eq_true rfl) (by decide) dX6_wrongTaking_9 (fun r9 => ?_)
      refine s_if_ne (tgt := 20) G dX6_wrongTaking_12 (by decide) ?_ ?_
      · refine s_ldc (v := (-1000000001)) G dX6_wrongTaking_15 qw824 ?_
        refine s_goto (tgt := 35) G dX6_wrongTaking_17 (by decide) ?_
        refine s_keep [false, false, false] (lv2 := [none, none, none]) rfl ?_
        exact fun hx => hB5 (-1000000001) hx
      · refine s_aload_n G dX6_wrongTaking_20 rfl ?_
        refine s_iload_n G dX6_wrongTaking_21 rfl ?_
        refine s_iload_n G dX6_wrongTaking_22 rfl ?_
        refine s_callVi (as := [.int a1, .int a2]) (st := []) (k := 36) G aw_self mdX6_mayTake (fun _ h => c_X6_mayTake w O l a1 a2 M _ h) ⟨by decide, by decide⟩ (ce36 w) clX6 rfl qw948 rfl rfl (Nat.le_of_ble_eq_true rfl) (by decide) dX6_wrongTaking_23 (fun r23 => ?_)
        refine s_if_eq (tgt := 33) G dX6_wrongTaking_26 (by decide) ?_ ?_
        · refine s_ldc (v := (-1000000005)) G dX6_wrongTaking_33 qw910 ?_
          refine s_keep [false, false, false] (lv2 := [none, none, none]) rfl ?_
          exact fun hx => hB5 (-1000000005) hx
        · refine s_iconst (v := 0) G dX6_wrongTaking_29 (by decide) ?_
          refine s_goto (tgt := 35) G dX6_wrongTaking_30 (by decide) ?_
          refine s_keep [false, false, false] (lv2 := [none, none, none]) rfl ?_
          exact fun hx => hB5 0 hx

set_option maxRecDepth 100000 in
set_option maxHeartbeats 4000000 in
theorem c_X6_takes (w : Wx) (O : Mem) (l : Launch) (a1 : Int32) (a2 : Int32) (M : Mem)  (z : Int32 × Mem) (hz : f_X6_takes a1 a2 M = some z) : Ct w 36 48 O l 8 muX6_takes [.ref (w.1 36), .int a1, .int a2] M (some (.int z.1), z.2) := by
  refine ct_of (X := f_X6_takes a1 a2 M) (K := fun v => some (some (.int v.1), v.2)) [some (.ref (w.1 36)), some (.int a1), some (.int a2), none, none, none] rfl rfl (Nat.le_of_ble_eq_true rfl) (by rw [hz]; rfl) ?_
  intro p e s m args below meth c G
  unfold f_X6_takes
  refine s_aload_n G dX6_takes_0 rfl ?_
  refine s_iload_n G dX6_takes_1 rfl ?_
  refine s_iload_n G dX6_takes_2 rfl ?_
  refine s_callVi (as := [.int a1, .int a2]) (st := []) (k := 36) G aw_self mdX6_comesBy (fun _ h => c_X6_comesBy w O l a1 a2 M _ h) ⟨by decide, by decide⟩ (ce36 w) clX6 rfl qw956 rfl rfl (Nat.le_of_ble_eq_true rfl) (by decide) dX6_takes_3 (fun r3 => ?_)
  refine s_istore_n (lv2 := [some (.ref (w.1 36)), some (.int a1), some (.int a2), some (.int r3), none, none]) G dX6_takes_6 (by decide) rfl rfl ?_
  refine s_aload_n G dX6_takes_7 rfl ?_
  refine s_iload_n G dX6_takes_8 rfl ?_
  refine s_iload_n G dX6_takes_9 rfl ?_
  refine s_callVi (as := [.int a1, .int a2]) (st := []) (k := 36) G aw_self mdX6_fallers (fun _ h => c_X6_fallers w O l a1 a2 M _ h) ⟨by decide, by decide⟩ (ce36 w) clX6 rfl qw976 rfl rfl (Nat.le_of_ble_eq_true rfl) (by decide) dX6_takes_10 (fun r10 => ?_)
  refine s_istore (lv2 := [some (.ref (w.1 36)), some (.int a1), some (.int a2), some (.int r3), some (.int r10), none]) G dX6_takes_13 (by decide) rfl rfl ?_
  refine s_iconst (v := 0) G dX6_takes_15 (by decide) ?_
  refine s_istore (lv2 := [some (.ref (w.1 36)), some (.int a1), some (.int a2), some (.int r3), some (.int r10), some (.int 0)]) G dX6_takes_16 (by decide) rfl rfl ?_
  refine s_keep [true, false, false, true, true, true] (lv2 := [some (.ref (w.1 36)), none, none, some (.int r3), some (.int r10), some (.int 0)]) rfl ?_
  refine s_loopG (lvf := fun z18 : Int32 × Mem => [some (.ref (w.1 36)), none, none, some (.int r3), some (.int r10), some (.int z18.1)]) (Mf := fun z18 : Int32 × Mem => z18.2) (ex := (fun x18_100 : Mem => (100, [some (.ref (w.1 36)), none, none, some (.int r3), none, none], x18_100))) (el_one 100 (fun x18_100 : Mem => [some (.ref (w.1 36)), none, none, some (.int r3), none, none]) (fun x18_100 : Mem => x18_100) (fun x18_100 => ?_)) (fun z18 K18 hB18 hE18 => ?_)
  · refine s_aload_n G dX6_takes_100 rfl ?_
    refine s_callVv (as := []) (st := []) (k := 36) G aw_self mdX6_moved (fun _ h => c_X6_moved w O l x18_100 _ h) ⟨by decide, by decide⟩ (ce36 w) clX6 rfl qw915 rfl rfl (Nat.le_of_ble_eq_true rfl) (by decide) dX6_takes_101 (fun r101 => ?_)
    refine s_iload_n G dX6_takes_104 rfl ?_
    exact s_iret G rfl rfl dX6_takes_105
  · unfold f_X6_takes_L18
    refine s_iload G dX6_takes_18 rfl ?_
    refine s_aload_n G dX6_takes_20 rfl ?_
    refine s_get (k := 36) (j := 0) G (.ref (w.1 37)) ⟨by decide, by decide⟩ (ce36 w) rfl clX6 (by decide) qw755 rfl dX6_takes_21 ?_
    refine s_iconst (v := 0) G dX6_takes_24 (by decide) ?_
    refine s_ialdC (k := 37) (n := 63) (j := 0) G ⟨by decide, by decide⟩ (ce37 w) (by decide) (by decide) dX6_takes_25 ?_
    refine s_icmp_ge (tgt := 100) G dX6_takes_26 (by decide) ?_ ?_
    · refine s_keep [true, false, false, true, false, false] (lv2 := [some (.ref (w.1 36)), none, none, some (.int r3), none, none]) rfl ?_
      exact fun hx => hE18 z18.2 hx
    · refine s_aload_n G dX6_takes_29 rfl ?_
      refine s_get (k := 36) (j := 0) G (.ref (w.1 37)) ⟨by decide, by decide⟩ (ce36 w) rfl clX6 (by decide) qw755 rfl dX6_takes_30 ?_
      refine s_iload G dX6_takes_33 rfl ?_
      refine s_iconst (v := 1) G dX6_takes_35 (by decide) ?_
      refine s_callSi (as := [.int z18.1, .int 1]) (st := [.ref (w.1 37)]) G aw_self mdX6_spotOf (fun _ h => c_X6_spotOf w O l z18.1 1 z18.2 _ h) qw834 rfl rfl (Nat.le_of_ble_eq_true rfl) (by decide) dX6_takes_36 (fun r36 => ?_)
      refine s_iload_n G dX6_takes_39 rfl ?_
      refine s_iload G dX6_takes_40 rfl ?_
      refine s_ishr G dX6_takes_42 ?_
      refine s_iconst (v := 1) G dX6_takes_43 (by decide) ?_
      refine s_iand G dX6_takes_44 ?_
      refine s_iconst (v := 1) G dX6_takes_45 (by decide) ?_
      refine s_join 60 (fun y46 : Int32 => [some (.ref (w.1 36)), none, none, some (.int r3), some (.int r10), some (.int z18.1)]) (fun y46 => [.int y46, .int r36, .ref (w.1 37)]) (fun y46 => z18.2) (fun y46 => ?_) (fun K46 hB46 => ?_)
      · refine s_iast (k := 37) (n := 63) G ⟨by decide, by decide⟩ (ce37 w) dX6_takes_60 (fun m60 => ?_)
        refine s_aload_n G dX6_takes_61 rfl ?_
        refine s_get (k := 36) (j := 0) G (.ref (w.1 37)) ⟨by decide, by decide⟩ (ce36 w) rfl clX6 (by decide) qw755 rfl dX6_takes_62 ?_
        refine s_iload G dX6_takes_65 rfl ?_
        refine s_iconst (v := 3) G dX6_takes_67 (by decide) ?_
        refine s_callSi (as := [.int z18.1, .int 3]) (st := [.ref (w.1 37)]) G aw_self mdX6_spotOf (fun _ h => c_X6_spotOf w O l z18.1 3 m60 _ h) qw834 rfl rfl (Nat.le_of_ble_eq_true rfl) (by decide) dX6_takes_68 (fun r68 => ?_)
        refine s_iload G dX6_takes_71 rfl ?_
        refine s_iload G dX6_takes_73 rfl ?_
        refine s_ishr G dX6_takes_75 ?_
        refine s_iconst (v := 1) G dX6_takes_76 (by decide) ?_
        refine s_iand G dX6_takes_77 ?_
        refine s_iconst (v := 1) G dX6_takes_78 (by decide) ?_
        refine s_join 93 (fun y79 : Int32 => [some (.ref (w.1 36)), none, none, some (.int r3), some (.int r10), some (.int z18.1)]) (fun y79 => [.int y79, .int r68, .ref (w.1 37)]) (fun y79 => m60) (fun y79 => ?_) (fun K79 hB79 => ?_)
        · refine s_iast (k := 37) (n := 63) G ⟨by decide, by decide⟩ (ce37 w) dX6_takes_93 (fun m93 => ?_)
          refine s_iinc (v := (z18.1 + 1)) (lv2 := [some (.ref (w.1 36)), none, none, some (.int r3), some (.int r10), some (.int (z18.1 + 1))]) G dX6_takes_94 rfl rfl (by decide) rfl rfl ?_
          refine s_goto (tgt := 18) G dX6_takes_97 (by decide) ?_
          exact fun hx => hB18 ((z18.1 + 1), m93) hx
        · refine s_icmp_ne (tgt := 86) G dX6_takes_79 (by decide) ?_ ?_
          · refine s_iconst (v := 0) G dX6_takes_82 (by decide) ?_
            refine s_goto (tgt := 93) G dX6_takes_83 (by decide) ?_
            exact fun hx => hB79 0 hx
          · refine s_aload_n G dX6_takes_86 rfl ?_
            refine s_iload G dX6_takes_87 rfl ?_
            refine s_iconst (v := 3) G dX6_takes_89 (by decide) ?_
            refine s_callVi (as := [.int z18.1, .int 3]) (st := [.int r68, .ref (w.1 37)]) (k := 36) G aw_self mdX6_its (fun _ h => c_X6_its w O l z18.1 3 m60 _ h) ⟨by decide, by decide⟩ (ce36 w) clX6 rfl qw846 rfl rfl (Nat.le_of_ble_eq_true rfl) (by decide) dX6_takes_90 (fun r90 => ?_)
            exact fun hx => hB79 r90 hx
      · refine s_icmp_ne (tgt := 53) G dX6_takes_46 (by decide) ?_ ?_
        · refine s_iconst (v := (-1)) G dX6_takes_49 (by decide) ?_
          refine s_goto (tgt := 60) G dX6_takes_50 (by decide) ?_
          exact fun hx => hB46 (-1) hx
        · refine s_aload_n G dX6_takes_53 rfl ?_
          refine s_iload G dX6_takes_54 rfl ?_
          refine s_iconst (v := 1) G dX6_takes_56 (by decide) ?_
          refine s_callVi (as := [.int z18.1, .int 1]) (st := [.int r36, .ref (w.1 37)]) (k := 36) G aw_self mdX6_its (fun _ h => c_X6_its w O l z18.1 1 z18.2 _ h) ⟨by decide, by decide⟩ (ce36 w) clX6 rfl qw846 rfl rfl (Nat.le_of_ble_eq_true rfl) (by decide) dX6_takes_57 (fun r57 => ?_)
          exact fun hx => hB46 r57 hx

set_option maxRecDepth 100000 in
set_option maxHeartbeats 4000000 in
theorem c_X6_take (w : Wx) (O : Mem) (l : Launch) (a1 : Int32) (a2 : Int32) (M : Mem)  (z : Int32 × Mem) (hz : f_X6_take a1 a2 M = some z) : Ct w 36 48 O l 9 muX6_take [.ref (w.1 36), .int a1, .int a2] M (some (.int z.1), z.2) := by
  refine ct_of (X := f_X6_take a1 a2 M) (K := fun v => some (some (.int v.1), v.2)) [some (.ref (w.1 36)), some (.int a1), some (.int a2), none] rfl rfl (Nat.le_of_ble_eq_true rfl) (by rw [hz]; rfl) ?_
  intro p e s m args below meth c G
  unfold f_X6_take
  refine s_aload_n G dX6_take_0 rfl ?_
  refine s_iload_n G dX6_take_1 rfl ?_
  refine s_iload_n G dX6_take_2 rfl ?_
  refine s_callVi (as := [.int a1, .int a2]) (st := []) (k := 36) G aw_self mdX6_wrongTaking (fun _ h => c_X6_wrongTaking w O l a1 a2 M _ h) ⟨by decide, by decide⟩ (ce36 w) clX6 rfl qw940 rfl rfl (Nat.le_of_ble_eq_true rfl) (by decide) dX6_take_3 (fun r3 => ?_)
  refine s_istore_n (lv2 := [some (.ref (w.1 36)), some (.int a1), some (.int a2), some (.int r3)]) G dX6_take_6 (by decide) rfl rfl ?_
  refine s_iload_n G dX6_take_7 rfl ?_
  refine s_join 25 (fun y8 : Int32 × Mem => [none, none, none, none]) (fun y8 => [.int y8.1]) (fun y8 => y8.2) (fun y8 => ?_) (fun K8 hB8 => ?_)
  · exact s_iret G rfl rfl dX6_take_25
  · refine s_if_eq (tgt := 19) G dX6_take_8 (by decide) ?_ ?_
    · refine s_aload_n G dX6_take_19 rfl ?_
      refine s_iload_n G dX6_take_20 rfl ?_
      refine s_iload_n G dX6_take_21 rfl ?_
      refine s_callVI (as := [.int a1, .int a2]) (st := []) (k := 36) G aw_self mdX6_takes (fun _ h => c_X6_takes w O l a1 a2 M _ h) ⟨by decide, by decide⟩ (ce36 w) clX6 rfl qw952 rfl rfl (Nat.le_of_ble_eq_true rfl) (by decide) dX6_take_22 (fun r22 => ?_)
      refine s_keep [false, false, false, false] (lv2 := [none, none, none, none]) rfl ?_
      exact fun hx => hB8 (r22.1, r22.2) hx
    · refine s_aload_n G dX6_take_11 rfl ?_
      refine s_iload_n G dX6_take_12 rfl ?_
      refine s_callVI (as := [.int r3]) (st := []) (k := 36) G aw_self mdX6_finds (fun _ h => c_X6_finds w O l r3 M _ h) ⟨by decide, by decide⟩ (ce36 w) clX6 rfl qw825 rfl rfl (Nat.le_of_ble_eq_true rfl) (by decide) dX6_take_13 (fun r13 => ?_)
      refine s_goto (tgt := 25) G dX6_take_16 (by decide) ?_
      refine s_keep [false, false, false, false] (lv2 := [none, none, none, none]) rfl ?_
      exact fun hx => hB8 (r13.1, r13.2) hx

set_option maxRecDepth 100000 in
set_option maxHeartbeats 4000000 in
theorem c_X6_pairs (w : Wx) (O : Mem) (l : Launch)  (M : Mem)  (z : Int32) (hz : f_X6_pairs  M = some z) : Ct w 36 48 O l 5 muX6_pairs [.ref (w.1 36)] M (some (.int z), M) := by
  refine ct_of (X := f_X6_pairs  M) (K := fun v => some (some (.int v), M)) [some (.ref (w.1 36)), none, none] rfl rfl (Nat.le_of_ble_eq_true rfl) (by rw [hz]; rfl) ?_
  intro p e s m args below meth c G
  unfold f_X6_pairs
  refine s_iconst (v := 0) G dX6_pairs_0 (by decide) ?_
  refine s_istore_n (lv2 := [some (.ref (w.1 36)), some (.int 0), none]) G dX6_pairs_1 (by decide) rfl rfl ?_
  refine s_iconst (v := 0) G dX6_pairs_2 (by decide) ?_
  refine s_istore_n (lv2 := [some (.ref (w.1 36)), some (.int 0), some (.int 0)]) G dX6_pairs_3 (by decide) rfl rfl ?_
  refine s_loopG (lvf := fun z4 : Int32 × Int32 => [some (.ref (w.1 36)), some (.int z4.1), some (.int z4.2)]) (Mf := fun z4 : Int32 × Int32 => M) (ex := (fun x4_31 : Int32 => (31, [none, some (.int x4_31), none], M))) (el_one 31 (fun x4_31 : Int32 => [none, some (.int x4_31), none]) (fun x4_31 : Int32 => M) (fun x4_31 => ?_)) (fun z4 K4 hB4 hE4 => ?_)
  · refine s_iload_n G dX6_pairs_31 rfl ?_
    refine s_iconst (v := 2) G dX6_pairs_32 (by decide) ?_
    refine s_idiv G dX6_pairs_33 (by decide) ?_
    exact s_iret G rfl rfl dX6_pairs_34
  · unfold f_X6_pairs_L4
    refine s_iload_n G dX6_pairs_4 rfl ?_
    refine s_aload_n G dX6_pairs_5 rfl ?_
    refine s_get (k := 36) (j := 0) G (.ref (w.1 37)) ⟨by decide, by decide⟩ (ce36 w) rfl clX6 (by decide) qw755 rfl dX6_pairs_6 ?_
    refine s_iconst (v := 0) G dX6_pairs_9 (by decide) ?_
    refine s_ialdC (k := 37) (n := 63) (j := 0) G ⟨by decide, by decide⟩ (ce37 w) (by decide) (by decide) dX6_pairs_10 ?_
    refine s_icmp_ge (tgt := 31) G dX6_pairs_11 (by decide) ?_ ?_
    · refine s_keep [false, true, false] (lv2 := [none, some (.int z4.1), none]) rfl ?_
      exact fun hx => hE4 z4.1 hx
    · refine s_iload_n G dX6_pairs_14 rfl ?_
      refine s_aload_n G dX6_pairs_15 rfl ?_
      refine s_iload_n G dX6_pairs_16 rfl ?_
      refine s_callVi (as := [.int z4.2]) (st := [.int z4.1]) (k := 36) G aw_self mdX6_tangledWith (fun _ h => c_X6_tangledWith w O l z4.2 M _ h) ⟨by decide, by decide⟩ (ce36 w) clX6 rfl qw964 rfl rfl (Nat.le_of_ble_eq_true rfl) (by decide) dX6_pairs_17 (fun r17 => ?_)
      refine s_callSi (as := [.int r17]) (st := [.int z4.1]) G aw_self mdX6_ones (fun _ h => c_X6_ones w O l r17 M _ h) qw923 rfl rfl (Nat.le_of_ble_eq_true rfl) (by decide) dX6_pairs_20 (fun r20 => ?_)
      refine s_iadd G dX6_pairs_23 ?_
      refine s_name (f := Value.int) (fun v24 => ?_)
      refine s_istore_n (lv2 := [some (.ref (w.1 36)), some (.int v24), some (.int z4.2)]) G dX6_pairs_24 (by decide) rfl rfl ?_
      refine s_iinc (v := (z4.2 + 1)) (lv2 := [some (.ref (w.1 36)), some (.int v24), some (.int (z4.2 + 1))]) G dX6_pairs_25 rfl rfl (by decide) rfl rfl ?_
      refine s_goto (tgt := 4) G dX6_pairs_28 (by decide) ?_
      exact fun hx => hB4 (v24, (z4.2 + 1)) hx

set_option maxRecDepth 100000 in
set_option maxHeartbeats 4000000 in
theorem c_X6_shirts (w : Wx) (O : Mem) (l : Launch)  (M : Mem)  (z : Int32) (hz : f_X6_shirts  M = some z) : Ct w 36 48 O l 2 muX6_shirts [.ref (w.1 36)] M (some (.int z), M) := by
  refine ct_of (X := f_X6_shirts  M) (K := fun v => some (some (.int v), M)) [some (.ref (w.1 36)), none, none] rfl rfl (Nat.le_of_ble_eq_true rfl) (by rw [hz]; rfl) ?_
  intro p e s m args below meth c G
  unfold f_X6_shirts
  refine s_iconst (v := 0) G dX6_shirts_0 (by decide) ?_
  refine s_istore_n (lv2 := [some (.ref (w.1 36)), some (.int 0), none]) G dX6_shirts_1 (by decide) rfl rfl ?_
  refine s_iconst (v := 0) G dX6_shirts_2 (by decide) ?_
  refine s_istore_n (lv2 := [some (.ref (w.1 36)), some (.int 0), some (.int 0)]) G dX6_shirts_3 (by decide) rfl rfl ?_
  refine s_loopG (lvf := fun z4 : Int32 × Int32 => [some (.ref (w.1 36)), some (.int z4.1), some (.int z4.2)]) (Mf := fun z4 : Int32 × Int32 => M) (ex := (fun x4_37 : Int32 => (37, [none, some (.int x4_37), none], M))) (el_one 37 (fun x4_37 : Int32 => [none, some (.int x4_37), none]) (fun x4_37 : Int32 => M) (fun x4_37 => ?_)) (fun z4 K4 hB4 hE4 => ?_)
  · refine s_iload_n G dX6_shirts_37 rfl ?_
    exact s_iret G rfl rfl dX6_shirts_38
  · unfold f_X6_shirts_L4
    refine s_iload_n G dX6_shirts_4 rfl ?_
    refine s_aload_n G dX6_shirts_5 rfl ?_
    refine s_get (k := 36) (j := 0) G (.ref (w.1 37)) ⟨by decide, by decide⟩ (ce36 w) rfl clX6 (by decide) qw755 rfl dX6_shirts_6 ?_
    refine s_iconst (v := 0) G dX6_shirts_9 (by decide) ?_
    refine s_ialdC (k := 37) (n := 63) (j := 0) G ⟨by decide, by decide⟩ (ce37 w) (by decide) (by decide) dX6_shirts_10 ?_
    refine s_icmp_ge (tgt := 37) G dX6_shirts_11 (by decide) ?_ ?_
    · refine s_keep [false, true, false] (lv2 := [none, some (.int z4.1), none]) rfl ?_
      exact fun hx => hE4 z4.1 hx
    · refine s_iload_n G dX6_shirts_14 rfl ?_
      refine s_aload_n G dX6_shirts_15 rfl ?_
      refine s_iload_n G dX6_shirts_16 rfl ?_
      refine s_iconst (v := 3) G dX6_shirts_17 (by decide) ?_
      refine s_callVi (as := [.int z4.2, .int 3]) (st := [.int z4.1]) (k := 36) G aw_self mdX6_its (fun _ h => c_X6_its w O l z4.2 3 M _ h) ⟨by decide, by decide⟩ (ce36 w) clX6 rfl qw846 rfl rfl (Nat.le_of_ble_eq_true rfl) (by decide) dX6_shirts_18 (fun r18 => ?_)
      refine s_join 29 (fun y21 : Int32 => [some (.ref (w.1 36)), none, some (.int z4.2)]) (fun y21 => [.int y21, .int z4.1]) (fun y21 => M) (fun y21 => ?_) (fun K21 hB21 => ?_)
      · refine s_iadd G dX6_shirts_29 ?_
        refine s_name (f := Value.int) (fun v30 => ?_)
        refine s_istore_n (lv2 := [some (.ref (w.1 36)), some (.int v30), some (.int z4.2)]) G dX6_shirts_30 (by decide) rfl rfl ?_
        refine s_iinc (v := (z4.2 + 1)) (lv2 := [some (.ref (w.1 36)), some (.int v30), some (.int (z4.2 + 1))]) G dX6_shirts_31 rfl rfl (by decide) rfl rfl ?_
        refine s_goto (tgt := 4) G dX6_shirts_34 (by decide) ?_
        exact fun hx => hB4 (v30, (z4.2 + 1)) hx
      · refine s_if_le (tgt := 28) G dX6_shirts_21 (by decide) ?_ ?_
        · refine s_iconst (v := 0) G dX6_shirts_28 (by decide) ?_
          refine s_keep [true, false, true] (lv2 := [some (.ref (w.1 36)), none, some (.int z4.2)]) rfl ?_
          exact fun hx => hB21 0 hx
        · refine s_iconst (v := 1) G dX6_shirts_24 (by decide) ?_
          refine s_goto (tgt := 29) G dX6_shirts_25 (by decide) ?_
          refine s_keep [true, false, true] (lv2 := [some (.ref (w.1 36)), none, some (.int z4.2)]) rfl ?_
          exact fun hx => hB21 1 hx

set_option maxRecDepth 100000 in
set_option maxHeartbeats 4000000 in
theorem c_X6_together (w : Wx) (O : Mem) (l : Launch) (a1 : Int32) (M : Mem)  (z : Int32) (hz : f_X6_together a1 M = some z) : Ct w 36 48 O l 2 muX6_together [.ref (w.1 36), .int a1] M (some (.int z), M) := by
  refine ct_of (X := f_X6_together a1 M) (K := fun v => some (some (.int v), M)) [some (.ref (w.1 36)), some (.int a1), none, none] rfl rfl (Nat.le_of_ble_eq_true rfl) (by rw [hz]; rfl) ?_
  intro p e s m args below meth c G
  unfold f_X6_together
  refine s_iconst (v := 0) G dX6_together_0 (by decide) ?_
  refine s_istore_n (lv2 := [some (.ref (w.1 36)), some (.int a1), some (.int 0), none]) G dX6_together_1 (by decide) rfl rfl ?_
  refine s_iconst (v := 0) G dX6_together_2 (by decide) ?_
  refine s_istore_n (lv2 := [some (.ref (w.1 36)), some (.int a1), some (.int 0), some (.int 0)]) G dX6_together_3 (by decide) rfl rfl ?_
  refine s_loopG (lvf := fun z4 : Int32 × Int32 => [some (.ref (w.1 36)), some (.int a1), some (.int z4.1), some (.int z4.2)]) (Mf := fun z4 : Int32 × Int32 => M) (ex := (fun x4_29 : Int32 => (29, [none, none, some (.int x4_29), none], M))) (el_one 29 (fun x4_29 : Int32 => [none, none, some (.int x4_29), none]) (fun x4_29 : Int32 => M) (fun x4_29 => ?_)) (fun z4 K4 hB4 hE4 => ?_)
  · refine s_iload_n G dX6_together_29 rfl ?_
    exact s_iret G rfl rfl dX6_together_30
  · unfold f_X6_together_L4
    refine s_iload_n G dX6_together_4 rfl ?_
    refine s_aload_n G dX6_together_5 rfl ?_
    refine s_get (k := 36) (j := 0) G (.ref (w.1 37)) ⟨by decide, by decide⟩ (ce36 w) rfl clX6 (by decide) qw755 rfl dX6_together_6 ?_
    refine s_iconst (v := 0) G dX6_together_9 (by decide) ?_
    refine s_ialdC (k := 37) (n := 63) (j := 0) G ⟨by decide, by decide⟩ (ce37 w) (by decide) (by decide) dX6_together_10 ?_
    refine s_icmp_ge (tgt := 29) G dX6_together_11 (by decide) ?_ ?_
    · refine s_keep [false, false, true, false] (lv2 := [none, none, some (.int z4.1), none]) rfl ?_
      exact fun hx => hE4 z4.1 hx
    · refine s_iload_n G dX6_together_14 rfl ?_
      refine s_aload_n G dX6_together_15 rfl ?_
      refine s_iload_n G dX6_together_16 rfl ?_
      refine s_iload_n G dX6_together_17 rfl ?_
      refine s_callVi (as := [.int z4.2, .int a1]) (st := [.int z4.1]) (k := 36) G aw_self mdX6_its (fun _ h => c_X6_its w O l z4.2 a1 M _ h) ⟨by decide, by decide⟩ (ce36 w) clX6 rfl qw846 rfl rfl (Nat.le_of_ble_eq_true rfl) (by decide) dX6_together_18 (fun r18 => ?_)
      refine s_iadd G dX6_together_21 ?_
      refine s_name (f := Value.int) (fun v22 => ?_)
      refine s_istore_n (lv2 := [some (.ref (w.1 36)), some (.int a1), some (.int v22), some (.int z4.2)]) G dX6_together_22 (by decide) rfl rfl ?_
      refine s_iinc (v := (z4.2 + 1)) (lv2 := [some (.ref (w.1 36)), some (.int a1), some (.int v22), some (.int (z4.2 + 1))]) G dX6_together_23 rfl rfl (by decide) rfl rfl ?_
      refine s_goto (tgt := 4) G dX6_together_26 (by decide) ?_
      exact fun hx => hB4 (v22, (z4.2 + 1)) hx

set_option maxRecDepth 100000 in
set_option maxHeartbeats 4000000 in
theorem c_X6_now (w : Wx) (O : Mem) (l : Launch) (a1 : Int32) (M : Mem)  (z : Int32 × Mem) (hz : f_X6_now a1 M = some z) : Ct w 36 48 O l 6 muX6_now [.ref (w.1 36), .int a1] M (some (.int z.1), z.2) := by
  refine ct_of (X := f_X6_now a1 M) (K := fun v => some (some (.int v.1), v.2)) [some (.ref (w.1 36)), some (.int a1)] rfl rfl (Nat.le_of_ble_eq_true rfl) (by rw [hz]; rfl) ?_
  intro p e s m args below meth c G
  unfold f_X6_now
  refine s_iload_n G dX6_now_0 rfl ?_
  refine s_tabIn (v := 0) (off := 43) (tgt := 44) G dX6_now_1 (by decide) (by decide) (by decide) (by decide) ?_ (fun h1_0 => ?_)
  · refine s_aload_n G dX6_now_44 rfl ?_
    refine s_get (k := 36) (j := 0) G (.ref (w.1 37)) ⟨by decide, by decide⟩ (ce36 w) rfl clX6 (by decide) qw755 rfl dX6_now_45 ?_
    refine s_iconst (v := 1) G dX6_now_48 (by decide) ?_
    refine s_ialdC (k := 37) (n := 63) (j := 1) G ⟨by decide, by decide⟩ (ce37 w) (by decide) (by decide) dX6_now_49 ?_
    exact s_iret G rfl rfl dX6_now_50
  · refine s_tabIn (v := 1) (off := 50) (tgt := 51) G dX6_now_1 (by decide) (by decide) (by decide) (by decide) ?_ (fun h1_1 => ?_)
    · refine s_aload_n G dX6_now_51 rfl ?_
      refine s_callVi (as := []) (st := []) (k := 36) G aw_self mdX6_onRail (fun _ h => c_X6_onRail w O l M _ h) ⟨by decide, by decide⟩ (ce36 w) clX6 rfl qw919 rfl rfl (Nat.le_of_ble_eq_true rfl) (by decide) dX6_now_52 (fun r52 => ?_)
      exact s_iret G rfl rfl dX6_now_55
    · refine s_tabIn (v := 2) (off := 55) (tgt := 56) G dX6_now_1 (by decide) (by decide) (by decide) (by decide) ?_ (fun h1_2 => ?_)
      · refine s_aload_n G dX6_now_56 rfl ?_
        refine s_callVi (as := []) (st := []) (k := 36) G aw_self mdX6_pairs (fun _ h => c_X6_pairs w O l M _ h) ⟨by decide, by decide⟩ (ce36 w) clX6 rfl qw984 rfl rfl (Nat.le_of_ble_eq_true rfl) (by decide) dX6_now_57 (fun r57 => ?_)
        exact s_iret G rfl rfl dX6_now_60
      · refine s_tabIn (v := 3) (off := 60) (tgt := 61) G dX6_now_1 (by decide) (by decide) (by decide) (by decide) ?_ (fun h1_3 => ?_)
        · refine s_aload_n G dX6_now_61 rfl ?_
          refine s_callVi (as := []) (st := []) (k := 36) G aw_self mdX6_shirts (fun _ h => c_X6_shirts w O l M _ h) ⟨by decide, by decide⟩ (ce36 w) clX6 rfl qw988 rfl rfl (Nat.le_of_ble_eq_true rfl) (by decide) dX6_now_62 (fun r62 => ?_)
          exact s_iret G rfl rfl dX6_now_65
        · refine s_tabIn (v := 4) (off := 65) (tgt := 66) G dX6_now_1 (by decide) (by decide) (by decide) (by decide) ?_ (fun h1_4 => ?_)
          · refine s_aload_n G dX6_now_66 rfl ?_
            refine s_iconst (v := 3) G dX6_now_67 (by decide) ?_
            refine s_callVi (as := [.int 3]) (st := []) (k := 36) G aw_self mdX6_together (fun _ h => c_X6_together w O l 3 M _ h) ⟨by decide, by decide⟩ (ce36 w) clX6 rfl qw992 rfl rfl (Nat.le_of_ble_eq_true rfl) (by decide) dX6_now_68 (fun r68 => ?_)
            exact s_iret G rfl rfl dX6_now_71
          · refine s_tabIn (v := 5) (off := 71) (tgt := 72) G dX6_now_1 (by decide) (by decide) (by decide) (by decide) ?_ (fun h1_5 => ?_)
            · refine s_aload_n G dX6_now_72 rfl ?_
              refine s_get (k := 36) (j := 0) G (.ref (w.1 37)) ⟨by decide, by decide⟩ (ce36 w) rfl clX6 (by decide) qw755 rfl dX6_now_73 ?_
              refine s_iconst (v := 2) G dX6_now_76 (by decide) ?_
              refine s_ialdC (k := 37) (n := 63) (j := 2) G ⟨by decide, by decide⟩ (ce37 w) (by decide) (by decide) dX6_now_77 ?_
              exact s_iret G rfl rfl dX6_now_78
            · refine s_tabIn (v := 6) (off := 78) (tgt := 79) G dX6_now_1 (by decide) (by decide) (by decide) (by decide) ?_ (fun h1_6 => ?_)
              · refine s_bipush (v := 24) G dX6_now_79 (by decide) ?_
                refine s_aload_n G dX6_now_81 rfl ?_
                refine s_callVi (as := []) (st := [.int 24]) (k := 36) G aw_self mdX6_onRail (fun _ h => c_X6_onRail w O l M _ h) ⟨by decide, by decide⟩ (ce36 w) clX6 rfl qw919 rfl rfl (Nat.le_of_ble_eq_true rfl) (by decide) dX6_now_82 (fun r82 => ?_)
                refine s_callSi (as := [.int r82]) (st := [.int 24]) G aw_self mdX6_ones (fun _ h => c_X6_ones w O l r82 M _ h) qw923 rfl rfl (Nat.le_of_ble_eq_true rfl) (by decide) dX6_now_85 (fun r85 => ?_)
                refine s_isub G dX6_now_88 ?_
                exact s_iret G rfl rfl dX6_now_89
              · refine s_tabOut (tgt := 90) G dX6_now_1 (by have e0 := lv_neT (a := 0) h1_0 (by decide); have e1 := lv_neT (a := 1) h1_1 (by decide); have e2 := lv_neT (a := 2) h1_2 (by decide); have e3 := lv_neT (a := 3) h1_3 (by decide); have e4 := lv_neT (a := 4) h1_4 (by decide); have e5 := lv_neT (a := 5) h1_5 (by decide); have e6 := lv_neT (a := 6) h1_6 (by decide); omega) (by decide) ?_
                refine s_aload_n G dX6_now_90 rfl ?_
                refine s_ldc (v := (-1000000001)) G dX6_now_91 qw824 ?_
                refine s_callVI (as := [.int (-1000000001)]) (st := []) (k := 36) G aw_self mdX6_finds (fun _ h => c_X6_finds w O l (-1000000001) M _ h) ⟨by decide, by decide⟩ (ce36 w) clX6 rfl qw825 rfl rfl (Nat.le_of_ble_eq_true rfl) (by decide) dX6_now_93 (fun r93 => ?_)
                exact s_iret G rfl rfl dX6_now_96

set_option maxRecDepth 100000 in
set_option maxHeartbeats 4000000 in
theorem c_X6_tangled (w : Wx) (O : Mem) (l : Launch) (a1 : Int32) (M : Mem)  (z : Int32 × Mem) (hz : f_X6_tangled a1 M = some z) : Ct w 36 48 O l 5 muX6_tangled [.ref (w.1 36), .int a1] M (some (.int z.1), z.2) := by
  refine ct_of (X := f_X6_tangled a1 M) (K := fun v => some (some (.int v.1), v.2)) [some (.ref (w.1 36)), some (.int a1)] rfl rfl (Nat.le_of_ble_eq_true rfl) (by rw [hz]; rfl) ?_
  intro p e s m args below meth c G
  unfold f_X6_tangled
  refine s_aload_n G dX6_tangled_0 rfl ?_
  refine s_iload_n G dX6_tangled_1 rfl ?_
  refine s_callVi (as := [.int a1]) (st := []) (k := 36) G aw_self mdX6_isHanger (fun _ h => c_X6_isHanger w O l a1 M _ h) ⟨by decide, by decide⟩ (ce36 w) clX6 rfl qw841 rfl rfl (Nat.le_of_ble_eq_true rfl) (by decide) dX6_tangled_2 (fun r2 => ?_)
  refine s_join 22 (fun y5 : Int32 × Mem => [none, none]) (fun y5 => [.int y5.1]) (fun y5 => y5.2) (fun y5 => ?_) (fun K5 hB5 => ?_)
  · exact s_iret G rfl rfl dX6_tangled_22
  · refine s_if_eq (tgt := 16) G dX6_tangled_5 (by decide) ?_ ?_
    · refine s_aload_n G dX6_tangled_16 rfl ?_
      refine s_ldc (v := (-1000000001)) G dX6_tangled_17 qw824 ?_
      refine s_callVI (as := [.int (-1000000001)]) (st := []) (k := 36) G aw_self mdX6_finds (fun _ h => c_X6_finds w O l (-1000000001) M _ h) ⟨by decide, by decide⟩ (ce36 w) clX6 rfl qw825 rfl rfl (Nat.le_of_ble_eq_true rfl) (by decide) dX6_tangled_19 (fun r19 => ?_)
      refine s_keep [false, false] (lv2 := [none, none]) rfl ?_
      exact fun hx => hB5 (r19.1, r19.2) hx
    · refine s_aload_n G dX6_tangled_8 rfl ?_
      refine s_iload_n G dX6_tangled_9 rfl ?_
      refine s_callVi (as := [.int a1]) (st := []) (k := 36) G aw_self mdX6_tangledWith (fun _ h => c_X6_tangledWith w O l a1 M _ h) ⟨by decide, by decide⟩ (ce36 w) clX6 rfl qw964 rfl rfl (Nat.le_of_ble_eq_true rfl) (by decide) dX6_tangled_10 (fun r10 => ?_)
      refine s_goto (tgt := 22) G dX6_tangled_13 (by decide) ?_
      refine s_keep [false, false] (lv2 := [none, none]) rfl ?_
      exact fun hx => hB5 (r10, M) hx

set_option maxRecDepth 100000 in
set_option maxHeartbeats 4000000 in
theorem c_X6_catches (w : Wx) (O : Mem) (l : Launch) (a1 : Int32) (a2 : Int32) (M : Mem)  (z : Int32 × Mem) (hz : f_X6_catches a1 a2 M = some z) : Ct w 36 48 O l 3 muX6_catches [.ref (w.1 36), .int a1, .int a2] M (some (.int z.1), z.2) := by
  refine ct_of (X := f_X6_catches a1 a2 M) (K := fun v => some (some (.int v.1), v.2)) [some (.ref (w.1 36)), some (.int a1), some (.int a2)] rfl rfl (Nat.le_of_ble_eq_true rfl) (by rw [hz]; rfl) ?_
  intro p e s m args below meth c G
  unfold f_X6_catches
  refine s_aload_n G dX6_catches_0 rfl ?_
  refine s_iload_n G dX6_catches_1 rfl ?_
  refine s_callVi (as := [.int a1]) (st := []) (k := 36) G aw_self mdX6_isHanger (fun _ h => c_X6_isHanger w O l a1 M _ h) ⟨by decide, by decide⟩ (ce36 w) clX6 rfl qw841 rfl rfl (Nat.le_of_ble_eq_true rfl) (by decide) dX6_catches_2 (fun r2 => ?_)
  refine s_if_eq (tgt := 21) G dX6_catches_5 (by decide) ?_ ?_
  · refine s_aload_n G dX6_catches_21 rfl ?_
    refine s_ldc (v := (-1000000001)) G dX6_catches_22 qw824 ?_
    refine s_callVI (as := [.int (-1000000001)]) (st := []) (k := 36) G aw_self mdX6_finds (fun _ h => c_X6_finds w O l (-1000000001) M _ h) ⟨by decide, by decide⟩ (ce36 w) clX6 rfl qw825 rfl rfl (Nat.le_of_ble_eq_true rfl) (by decide) dX6_catches_24 (fun r24 => ?_)
    exact s_iret G rfl rfl dX6_catches_27
  · refine s_aload_n G dX6_catches_8 rfl ?_
    refine s_iload_n G dX6_catches_9 rfl ?_
    refine s_callVi (as := [.int a2]) (st := []) (k := 36) G aw_self mdX6_isHanger (fun _ h => c_X6_isHanger w O l a2 M _ h) ⟨by decide, by decide⟩ (ce36 w) clX6 rfl qw841 rfl rfl (Nat.le_of_ble_eq_true rfl) (by decide) dX6_catches_10 (fun r10 => ?_)
    refine s_if_eq (tgt := 21) G dX6_catches_13 (by decide) ?_ ?_
    · refine s_aload_n G dX6_catches_21 rfl ?_
      refine s_ldc (v := (-1000000001)) G dX6_catches_22 qw824 ?_
      refine s_callVI (as := [.int (-1000000001)]) (st := []) (k := 36) G aw_self mdX6_finds (fun _ h => c_X6_finds w O l (-1000000001) M _ h) ⟨by decide, by decide⟩ (ce36 w) clX6 rfl qw825 rfl rfl (Nat.le_of_ble_eq_true rfl) (by decide) dX6_catches_24 (fun r24 => ?_)
      exact s_iret G rfl rfl dX6_catches_27
    · refine s_iload_n G dX6_catches_16 rfl ?_
      refine s_iload_n G dX6_catches_17 rfl ?_
      refine s_icmp_ne (tgt := 28) G dX6_catches_18 (by decide) ?_ ?_
      · refine s_aload_n G dX6_catches_21 rfl ?_
        refine s_ldc (v := (-1000000001)) G dX6_catches_22 qw824 ?_
        refine s_callVI (as := [.int (-1000000001)]) (st := []) (k := 36) G aw_self mdX6_finds (fun _ h => c_X6_finds w O l (-1000000001) M _ h) ⟨by decide, by decide⟩ (ce36 w) clX6 rfl qw825 rfl rfl (Nat.le_of_ble_eq_true rfl) (by decide) dX6_catches_24 (fun r24 => ?_)
        exact s_iret G rfl rfl dX6_catches_27
      · refine s_aload_n G dX6_catches_28 rfl ?_
        refine s_iload_n G dX6_catches_29 rfl ?_
        refine s_callVi (as := [.int a1]) (st := []) (k := 36) G aw_self mdX6_isOn (fun _ h => c_X6_isOn w O l a1 M _ h) ⟨by decide, by decide⟩ (ce36 w) clX6 rfl qw902 rfl rfl (Nat.le_of_ble_eq_true rfl) (by decide) dX6_catches_30 (fun r30 => ?_)
        refine s_join 58 (fun y33 : Int32 => [none, none, none]) (fun y33 => [.int y33]) (fun y33 => M) (fun y33 => ?_) (fun K33 hB33 => ?_)
        · exact s_iret G rfl rfl dX6_catches_58
        · refine s_if_eq (tgt := 57) G dX6_catches_33 (by decide) ?_ ?_
          · refine s_iconst (v := 0) G dX6_catches_57 (by decide) ?_
            refine s_keep [false, false, false] (lv2 := [none, none, none]) rfl ?_
            exact fun hx => hB33 0 hx
          · refine s_aload_n G dX6_catches_36 rfl ?_
            refine s_iload_n G dX6_catches_37 rfl ?_
            refine s_callVi (as := [.int a2]) (st := []) (k := 36) G aw_self mdX6_isOn (fun _ h => c_X6_isOn w O l a2 M _ h) ⟨by decide, by decide⟩ (ce36 w) clX6 rfl qw902 rfl rfl (Nat.le_of_ble_eq_true rfl) (by decide) dX6_catches_38 (fun r38 => ?_)
            refine s_if_eq (tgt := 57) G dX6_catches_41 (by decide) ?_ ?_
            · refine s_iconst (v := 0) G dX6_catches_57 (by decide) ?_
              refine s_keep [false, false, false] (lv2 := [none, none, none]) rfl ?_
              exact fun hx => hB33 0 hx
            · refine s_aload_n G dX6_catches_44 rfl ?_
              refine s_iload_n G dX6_catches_45 rfl ?_
              refine s_iload_n G dX6_catches_46 rfl ?_
              refine s_callVi (as := [.int a1, .int a2]) (st := []) (k := 36) G aw_self mdX6_isCaught (fun _ h => c_X6_isCaught w O l a1 a2 M _ h) ⟨by decide, by decide⟩ (ce36 w) clX6 rfl qw972 rfl rfl (Nat.le_of_ble_eq_true rfl) (by decide) dX6_catches_47 (fun r47 => ?_)
              refine s_if_eq (tgt := 57) G dX6_catches_50 (by decide) ?_ ?_
              · refine s_iconst (v := 0) G dX6_catches_57 (by decide) ?_
                refine s_keep [false, false, false] (lv2 := [none, none, none]) rfl ?_
                exact fun hx => hB33 0 hx
              · refine s_iconst (v := 1) G dX6_catches_53 (by decide) ?_
                refine s_goto (tgt := 58) G dX6_catches_54 (by decide) ?_
                refine s_keep [false, false, false] (lv2 := [none, none, none]) rfl ?_
                exact fun hx => hB33 1 hx

set_option maxRecDepth 100000 in
set_option maxHeartbeats 4000000 in
theorem c_X6_comes (w : Wx) (O : Mem) (l : Launch) (a1 : Int32) (a2 : Int32) (M : Mem)  (z : Int32 × Mem) (hz : f_X6_comes a1 a2 M = some z) : Ct w 36 48 O l 7 muX6_comes [.ref (w.1 36), .int a1, .int a2] M (some (.int z.1), z.2) := by
  refine ct_of (X := f_X6_comes a1 a2 M) (K := fun v => some (some (.int v.1), v.2)) [some (.ref (w.1 36)), some (.int a1), some (.int a2), none] rfl rfl (Nat.le_of_ble_eq_true rfl) (by rw [hz]; rfl) ?_
  intro p e s m args below meth c G
  unfold f_X6_comes
  refine s_aload_n G dX6_comes_0 rfl ?_
  refine s_iload_n G dX6_comes_1 rfl ?_
  refine s_iload_n G dX6_comes_2 rfl ?_
  refine s_callVi (as := [.int a1, .int a2]) (st := []) (k := 36) G aw_self mdX6_wrongTaking (fun _ h => c_X6_wrongTaking w O l a1 a2 M _ h) ⟨by decide, by decide⟩ (ce36 w) clX6 rfl qw940 rfl rfl (Nat.le_of_ble_eq_true rfl) (by decide) dX6_comes_3 (fun r3 => ?_)
  refine s_istore_n (lv2 := [some (.ref (w.1 36)), some (.int a1), some (.int a2), some (.int r3)]) G dX6_comes_6 (by decide) rfl rfl ?_
  refine s_iload_n G dX6_comes_7 rfl ?_
  refine s_join 25 (fun y8 : Int32 × Mem => [none, none, none, none]) (fun y8 => [.int y8.1]) (fun y8 => y8.2) (fun y8 => ?_) (fun K8 hB8 => ?_)
  · exact s_iret G rfl rfl dX6_comes_25
  · refine s_if_eq (tgt := 19) G dX6_comes_8 (by decide) ?_ ?_
    · refine s_aload_n G dX6_comes_19 rfl ?_
      refine s_iload_n G dX6_comes_20 rfl ?_
      refine s_iload_n G dX6_comes_21 rfl ?_
      refine s_callVi (as := [.int a1, .int a2]) (st := []) (k := 36) G aw_self mdX6_comesBy (fun _ h => c_X6_comesBy w O l a1 a2 M _ h) ⟨by decide, by decide⟩ (ce36 w) clX6 rfl qw956 rfl rfl (Nat.le_of_ble_eq_true rfl) (by decide) dX6_comes_22 (fun r22 => ?_)
      refine s_keep [false, false, false, false] (lv2 := [none, none, none, none]) rfl ?_
      exact fun hx => hB8 (r22, M) hx
    · refine s_aload_n G dX6_comes_11 rfl ?_
      refine s_iload_n G dX6_comes_12 rfl ?_
      refine s_callVI (as := [.int r3]) (st := []) (k := 36) G aw_self mdX6_finds (fun _ h => c_X6_finds w O l r3 M _ h) ⟨by decide, by decide⟩ (ce36 w) clX6 rfl qw825 rfl rfl (Nat.le_of_ble_eq_true rfl) (by decide) dX6_comes_13 (fun r13 => ?_)
      refine s_goto (tgt := 25) G dX6_comes_16 (by decide) ?_
      refine s_keep [false, false, false, false] (lv2 := [none, none, none, none]) rfl ?_
      exact fun hx => hB8 (r13.1, r13.2) hx

set_option maxRecDepth 100000 in
set_option maxHeartbeats 4000000 in
theorem c_X6_falls (w : Wx) (O : Mem) (l : Launch) (a1 : Int32) (a2 : Int32) (M : Mem)  (z : Int32 × Mem) (hz : f_X6_falls a1 a2 M = some z) : Ct w 36 48 O l 8 muX6_falls [.ref (w.1 36), .int a1, .int a2] M (some (.int z.1), z.2) := by
  refine ct_of (X := f_X6_falls a1 a2 M) (K := fun v => some (some (.int v.1), v.2)) [some (.ref (w.1 36)), some (.int a1), some (.int a2), none] rfl rfl (Nat.le_of_ble_eq_true rfl) (by rw [hz]; rfl) ?_
  intro p e s m args below meth c G
  unfold f_X6_falls
  refine s_aload_n G dX6_falls_0 rfl ?_
  refine s_iload_n G dX6_falls_1 rfl ?_
  refine s_iload_n G dX6_falls_2 rfl ?_
  refine s_callVi (as := [.int a1, .int a2]) (st := []) (k := 36) G aw_self mdX6_wrongTaking (fun _ h => c_X6_wrongTaking w O l a1 a2 M _ h) ⟨by decide, by decide⟩ (ce36 w) clX6 rfl qw940 rfl rfl (Nat.le_of_ble_eq_true rfl) (by decide) dX6_falls_3 (fun r3 => ?_)
  refine s_istore_n (lv2 := [some (.ref (w.1 36)), some (.int a1), some (.int a2), some (.int r3)]) G dX6_falls_6 (by decide) rfl rfl ?_
  refine s_iload_n G dX6_falls_7 rfl ?_
  refine s_join 28 (fun y8 : Int32 × Mem => [none, none, none, none]) (fun y8 => [.int y8.1]) (fun y8 => y8.2) (fun y8 => ?_) (fun K8 hB8 => ?_)
  · exact s_iret G rfl rfl dX6_falls_28
  · refine s_if_eq (tgt := 19) G dX6_falls_8 (by decide) ?_ ?_
    · refine s_aload_n G dX6_falls_19 rfl ?_
      refine s_iload_n G dX6_falls_20 rfl ?_
      refine s_iload_n G dX6_falls_21 rfl ?_
      refine s_callVi (as := [.int a1, .int a2]) (st := []) (k := 36) G aw_self mdX6_fallers (fun _ h => c_X6_fallers w O l a1 a2 M _ h) ⟨by decide, by decide⟩ (ce36 w) clX6 rfl qw976 rfl rfl (Nat.le_of_ble_eq_true rfl) (by decide) dX6_falls_22 (fun r22 => ?_)
      refine s_callSi (as := [.int r22]) (st := []) G aw_self mdX6_ones (fun _ h => c_X6_ones w O l r22 M _ h) qw923 rfl rfl (Nat.le_of_ble_eq_true rfl) (by decide) dX6_falls_25 (fun r25 => ?_)
      refine s_keep [false, false, false, false] (lv2 := [none, none, none, none]) rfl ?_
      exact fun hx => hB8 (r25, M) hx
    · refine s_aload_n G dX6_falls_11 rfl ?_
      refine s_iload_n G dX6_falls_12 rfl ?_
      refine s_callVI (as := [.int r3]) (st := []) (k := 36) G aw_self mdX6_finds (fun _ h => c_X6_finds w O l r3 M _ h) ⟨by decide, by decide⟩ (ce36 w) clX6 rfl qw825 rfl rfl (Nat.le_of_ble_eq_true rfl) (by decide) dX6_falls_13 (fun r13 => ?_)
      refine s_goto (tgt := 28) G dX6_falls_16 (by decide) ?_
      refine s_keep [false, false, false, false] (lv2 := [none, none, none, none]) rfl ?_
      exact fun hx => hB8 (r13.1, r13.2) hx

set_option maxRecDepth 100000 in
set_option maxHeartbeats 4000000 in
theorem c_X6_findHeaps (w : Wx) (O : Mem) (l : Launch)  (M : Mem)  (z : Mem) (hz : f_X6_findHeaps  M = some z) : Ct w 36 48 O l 6 muX6_findHeaps [.ref (w.1 36)] M (none, z) := by
  refine ct_of (X := f_X6_findHeaps  M) (K := fun v => some (none, v)) [some (.ref (w.1 36)), none, none, none] rfl rfl (Nat.le_of_ble_eq_true rfl) (by rw [hz]; rfl) ?_
  intro p e s m args below meth c G
  unfold f_X6_findHeaps
  refine s_aload_n G dX6_findHeaps_0 rfl ?_
  refine s_iconst (v := 0) G dX6_findHeaps_1 (by decide) ?_
  refine s_put (k := 36) (j := 6) G ⟨by decide, by decide⟩ (ce36 w) (fun _ => rfl) clX6 (by decide) (fun _ => (by decide : 6 < 19)) qw761 rfl rfl rfl rfl dX6_findHeaps_2 (fun m2 => ?_)
  refine s_aload_n G dX6_findHeaps_5 rfl ?_
  refine s_iconst (v := 0) G dX6_findHeaps_6 (by decide) ?_
  refine s_put (k := 36) (j := 7) G ⟨by decide, by decide⟩ (ce36 w) (fun _ => rfl) clX6 (by decide) (fun _ => (by decide : 7 < 19)) qw762 rfl rfl rfl rfl dX6_findHeaps_7 (fun m7 => ?_)
  refine s_aload_n G dX6_findHeaps_10 rfl ?_
  refine s_callVi (as := []) (st := []) (k := 36) G aw_self mdX6_onRail (fun _ h => c_X6_onRail w O l m7 _ h) ⟨by decide, by decide⟩ (ce36 w) clX6 rfl qw919 rfl rfl (Nat.le_of_ble_eq_true rfl) (by decide) dX6_findHeaps_11 (fun r11 => ?_)
  refine s_istore_n (lv2 := [some (.ref (w.1 36)), some (.int r11), none, none]) G dX6_findHeaps_14 (by decide) rfl rfl ?_
  refine s_iconst (v := 0) G dX6_findHeaps_15 (by decide) ?_
  refine s_istore_n (lv2 := [some (.ref (w.1 36)), some (.int r11), some (.int 0), none]) G dX6_findHeaps_16 (by decide) rfl rfl ?_
  refine s_loopG (lvf := fun z17 : Int32 × Int32 × Mem => [some (.ref (w.1 36)), some (.int z17.1), some (.int z17.2.1), none]) (Mf := fun z17 : Int32 × Int32 × Mem => z17.2.2) (ex := (fun x17_90 : Mem => (90, [none, none, none, none], x17_90))) (el_one 90 (fun x17_90 : Mem => [none, none, none, none]) (fun x17_90 : Mem => x17_90) (fun x17_90 => ?_)) (fun z17 K17 hB17 hE17 => ?_)
  · exact s_vret G rfl rfl dX6_findHeaps_90
  · unfold f_X6_findHeaps_L17
    refine s_iload_n G dX6_findHeaps_17 rfl ?_
    refine s_aload_n G dX6_findHeaps_18 rfl ?_
    refine s_get (k := 36) (j := 0) G (.ref (w.1 37)) ⟨by decide, by decide⟩ (ce36 w) rfl clX6 (by decide) qw755 rfl dX6_findHeaps_19 ?_
    refine s_iconst (v := 0) G dX6_findHeaps_22 (by decide) ?_
    refine s_ialdC (k := 37) (n := 63) (j := 0) G ⟨by decide, by decide⟩ (ce37 w) (by decide) (by decide) dX6_findHeaps_23 ?_
    refine s_icmp_ge (tgt := 90) G dX6_findHeaps_24 (by decide) ?_ ?_
    · refine s_keep [false, false, false, false] (lv2 := [none, none, none, none]) rfl ?_
      exact fun hx => hE17 z17.2.2 hx
    · refine s_iload_n G dX6_findHeaps_27 rfl ?_
      refine s_iload_n G dX6_findHeaps_28 rfl ?_
      refine s_ishr G dX6_findHeaps_29 ?_
      refine s_iconst (v := 1) G dX6_findHeaps_30 (by decide) ?_
      refine s_iand G dX6_findHeaps_31 ?_
      refine s_iconst (v := 1) G dX6_findHeaps_32 (by decide) ?_
      refine s_join 84 (fun y33 : Int32 × Mem => [some (.ref (w.1 36)), some (.int y33.1), some (.int z17.2.1), none]) (fun y33 => []) (fun y33 => y33.2) (fun y33 => ?_) (fun K33 hB33 => ?_)
      · refine s_iinc (v := (z17.2.1 + 1)) (lv2 := [some (.ref (w.1 36)), some (.int y33.1), some (.int (z17.2.1 + 1)), none]) G dX6_findHeaps_84 rfl rfl (by decide) rfl rfl ?_
        refine s_goto (tgt := 17) G dX6_findHeaps_87 (by decide) ?_
        exact fun hx => hB17 (y33.1, (z17.2.1 + 1), y33.2) hx
      · refine s_icmp_ne (tgt := 84) G dX6_findHeaps_33 (by decide) ?_ ?_
        · refine s_aload_n G dX6_findHeaps_36 rfl ?_
          refine s_iload_n G dX6_findHeaps_37 rfl ?_
          refine s_callVi (as := [.int z17.2.1]) (st := []) (k := 36) G aw_self mdX6_heapOf (fun _ h => c_X6_heapOf w O l z17.2.1 z17.2.2 _ h) ⟨by decide, by decide⟩ (ce36 w) clX6 rfl qw960 rfl rfl (Nat.le_of_ble_eq_true rfl) (by decide) dX6_findHeaps_38 (fun r38 => ?_)
          refine s_istore_n (lv2 := [some (.ref (w.1 36)), some (.int z17.1), some (.int z17.2.1), some (.int r38)]) G dX6_findHeaps_41 (by decide) rfl rfl ?_
          refine s_iload_n G dX6_findHeaps_42 rfl ?_
          refine s_iload_n G dX6_findHeaps_43 rfl ?_
          refine s_iconst (v := (-1)) G dX6_findHeaps_44 (by decide) ?_
          refine s_ixor G dX6_findHeaps_45 ?_
          refine s_iand G dX6_findHeaps_46 ?_
          refine s_name (f := Value.int) (fun v47 => ?_)
          refine s_istore_n (lv2 := [some (.ref (w.1 36)), some (.int v47), some (.int z17.2.1), some (.int r38)]) G dX6_findHeaps_47 (by decide) rfl rfl ?_
          refine s_aload_n G dX6_findHeaps_48 rfl ?_
          refine s_dup G dX6_findHeaps_49 rfl ?_
          refine s_get (k := 36) (j := 6) G (.int (gI z17.2.2 36 6)) ⟨by decide, by decide⟩ (ce36 w) rfl clX6 (by decide) qw761 rfl dX6_findHeaps_50 ?_
          refine s_iconst (v := 1) G dX6_findHeaps_53 (by decide) ?_
          refine s_iadd G dX6_findHeaps_54 ?_
          refine s_put (k := 36) (j := 6) G ⟨by decide, by decide⟩ (ce36 w) (fun _ => rfl) clX6 (by decide) (fun _ => (by decide : 6 < 19)) qw761 rfl rfl rfl rfl dX6_findHeaps_55 (fun m55 => ?_)
          refine s_aload_n G dX6_findHeaps_58 rfl ?_
          refine s_iload_n G dX6_findHeaps_59 rfl ?_
          refine s_callSi (as := [.int r38]) (st := [.ref (w.1 36)]) G aw_self mdX6_ones (fun _ h => c_X6_ones w O l r38 m55 _ h) qw923 rfl rfl (Nat.le_of_ble_eq_true rfl) (by decide) dX6_findHeaps_60 (fun r60 => ?_)
          refine s_aload_n G dX6_findHeaps_63 rfl ?_
          refine s_get (k := 36) (j := 7) G (.int (gI m55 36 7)) ⟨by decide, by decide⟩ (ce36 w) rfl clX6 (by decide) qw762 rfl dX6_findHeaps_64 ?_
          refine s_join 81 (fun y67 : Int32 => [some (.ref (w.1 36)), some (.int v47), some (.int z17.2.1), none]) (fun y67 => [.int y67, .ref (w.1 36)]) (fun y67 => m55) (fun y67 => ?_) (fun K67 hB67 => ?_)
          · refine s_put (k := 36) (j := 7) G ⟨by decide, by decide⟩ (ce36 w) (fun _ => rfl) clX6 (by decide) (fun _ => (by decide : 7 < 19)) qw762 rfl rfl rfl rfl dX6_findHeaps_81 (fun m81 => ?_)
            exact fun hx => hB33 (v47, m81) hx
          · refine s_icmp_le (tgt := 77) G dX6_findHeaps_67 (by decide) ?_ ?_
            · refine s_aload_n G dX6_findHeaps_77 rfl ?_
              refine s_get (k := 36) (j := 7) G (.int (gI m55 36 7)) ⟨by decide, by decide⟩ (ce36 w) rfl clX6 (by decide) qw762 rfl dX6_findHeaps_78 ?_
              refine s_keep [true, true, true, false] (lv2 := [some (.ref (w.1 36)), some (.int v47), some (.int z17.2.1), none]) rfl ?_
              exact fun hx => hB67 (gI m55 36 7) hx
            · refine s_iload_n G dX6_findHeaps_70 rfl ?_
              refine s_callSi (as := [.int r38]) (st := [.ref (w.1 36)]) G aw_self mdX6_ones (fun _ h => c_X6_ones w O l r38 m55 _ h) qw923 rfl rfl (Nat.le_of_ble_eq_true rfl) (by decide) dX6_findHeaps_71 (fun r71 => ?_)
              refine s_goto (tgt := 81) G dX6_findHeaps_74 (by decide) ?_
              refine s_keep [true, true, true, false] (lv2 := [some (.ref (w.1 36)), some (.int v47), some (.int z17.2.1), none]) rfl ?_
              exact fun hx => hB67 r71 hx
        · exact fun hx => hB33 (z17.1, z17.2.2) hx

set_option maxRecDepth 100000 in
set_option maxHeartbeats 4000000 in
theorem c_X6_heaps (w : Wx) (O : Mem) (l : Launch)  (M : Mem)  (z : Int32 × Mem) (hz : f_X6_heaps  M = some z) : Ct w 36 48 O l 7 muX6_heaps [.ref (w.1 36)] M (some (.int z.1), z.2) := by
  refine ct_of (X := f_X6_heaps  M) (K := fun v => some (some (.int v.1), v.2)) [some (.ref (w.1 36))] rfl rfl (Nat.le_of_ble_eq_true rfl) (by rw [hz]; rfl) ?_
  intro p e s m args below meth c G
  unfold f_X6_heaps
  refine s_aload_n G dX6_heaps_0 rfl ?_
  refine s_callVv (as := []) (st := []) (k := 36) G aw_self mdX6_findHeaps (fun _ h => c_X6_findHeaps w O l M _ h) ⟨by decide, by decide⟩ (ce36 w) clX6 rfl qw1016 rfl rfl (Nat.le_of_ble_eq_true rfl) (by decide) dX6_heaps_1 (fun r1 => ?_)
  refine s_aload_n G dX6_heaps_4 rfl ?_
  refine s_get (k := 36) (j := 6) G (.int (gI r1 36 6)) ⟨by decide, by decide⟩ (ce36 w) rfl clX6 (by decide) qw761 rfl dX6_heaps_5 ?_
  exact s_iret G rfl rfl dX6_heaps_8

set_option maxRecDepth 100000 in
set_option maxHeartbeats 4000000 in
theorem c_X6_greatest (w : Wx) (O : Mem) (l : Launch)  (M : Mem)  (z : Int32 × Mem) (hz : f_X6_greatest  M = some z) : Ct w 36 48 O l 7 muX6_greatest [.ref (w.1 36)] M (some (.int z.1), z.2) := by
  refine ct_of (X := f_X6_greatest  M) (K := fun v => some (some (.int v.1), v.2)) [some (.ref (w.1 36))] rfl rfl (Nat.le_of_ble_eq_true rfl) (by rw [hz]; rfl) ?_
  intro p e s m args below meth c G
  unfold f_X6_greatest
  refine s_aload_n G dX6_greatest_0 rfl ?_
  refine s_callVv (as := []) (st := []) (k := 36) G aw_self mdX6_findHeaps (fun _ h => c_X6_findHeaps w O l M _ h) ⟨by decide, by decide⟩ (ce36 w) clX6 rfl qw1016 rfl rfl (Nat.le_of_ble_eq_true rfl) (by decide) dX6_greatest_1 (fun r1 => ?_)
  refine s_aload_n G dX6_greatest_4 rfl ?_
  refine s_get (k := 36) (j := 7) G (.int (gI r1 36 7)) ⟨by decide, by decide⟩ (ce36 w) rfl clX6 (by decide) qw762 rfl dX6_greatest_5 ?_
  refine s_join 24 (fun y8 : Int32 × Mem => [none]) (fun y8 => [.int y8.1]) (fun y8 => y8.2) (fun y8 => ?_) (fun K8 hB8 => ?_)
  · exact s_iret G rfl rfl dX6_greatest_24
  · refine s_if_ne (tgt := 20) G dX6_greatest_8 (by decide) ?_ ?_
    · refine s_aload_n G dX6_greatest_11 rfl ?_
      refine s_ldc (v := (-1000000004)) G dX6_greatest_12 qw897 ?_
      refine s_callVI (as := [.int (-1000000004)]) (st := []) (k := 36) G aw_self mdX6_finds (fun _ h => c_X6_finds w O l (-1000000004) r1 _ h) ⟨by decide, by decide⟩ (ce36 w) clX6 rfl qw825 rfl rfl (Nat.le_of_ble_eq_true rfl) (by decide) dX6_greatest_14 (fun r14 => ?_)
      refine s_goto (tgt := 24) G dX6_greatest_17 (by decide) ?_
      refine s_keep [false] (lv2 := [none]) rfl ?_
      exact fun hx => hB8 (r14.1, r14.2) hx
    · refine s_aload_n G dX6_greatest_20 rfl ?_
      refine s_get (k := 36) (j := 7) G (.int (gI r1 36 7)) ⟨by decide, by decide⟩ (ce36 w) rfl clX6 (by decide) qw762 rfl dX6_greatest_21 ?_
      refine s_keep [false] (lv2 := [none]) rfl ?_
      exact fun hx => hB8 ((gI r1 36 7), r1) hx

set_option maxRecDepth 100000 in
set_option maxHeartbeats 4000000 in
theorem c_X6_manner (w : Wx) (O : Mem) (l : Launch) (a1 : Int32) (M : Mem)  (z : Int32 × Mem) (hz : f_X6_manner a1 M = some z) : Ct w 36 48 O l 8 muX6_manner [.ref (w.1 36), .int a1] M (some (.int z.1), z.2) := by
  refine ct_of (X := f_X6_manner a1 M) (K := fun v => some (some (.int v.1), v.2)) [some (.ref (w.1 36)), some (.int a1), none, none, none, none] rfl rfl (Nat.le_of_ble_eq_true rfl) (by rw [hz]; rfl) ?_
  intro p e s m args below meth c G
  unfold f_X6_manner
  refine s_aload_n G dX6_manner_0 rfl ?_
  refine s_iload_n G dX6_manner_1 rfl ?_
  refine s_callVi (as := [.int a1]) (st := []) (k := 36) G aw_self mdX6_isHanger (fun _ h => c_X6_isHanger w O l a1 M _ h) ⟨by decide, by decide⟩ (ce36 w) clX6 rfl qw841 rfl rfl (Nat.le_of_ble_eq_true rfl) (by decide) dX6_manner_2 (fun r2 => ?_)
  refine s_if_ne (tgt := 15) G dX6_manner_5 (by decide) ?_ ?_
  · refine s_aload_n G dX6_manner_8 rfl ?_
    refine s_ldc (v := (-1000000001)) G dX6_manner_9 qw824 ?_
    refine s_callVI (as := [.int (-1000000001)]) (st := []) (k := 36) G aw_self mdX6_finds (fun _ h => c_X6_finds w O l (-1000000001) M _ h) ⟨by decide, by decide⟩ (ce36 w) clX6 rfl qw825 rfl rfl (Nat.le_of_ble_eq_true rfl) (by decide) dX6_manner_11 (fun r11 => ?_)
    exact s_iret G rfl rfl dX6_manner_14
  · refine s_aload_n G dX6_manner_15 rfl ?_
    refine s_iload_n G dX6_manner_16 rfl ?_
    refine s_callVi (as := [.int a1]) (st := []) (k := 36) G aw_self mdX6_isOn (fun _ h => c_X6_isOn w O l a1 M _ h) ⟨by decide, by decide⟩ (ce36 w) clX6 rfl qw902 rfl rfl (Nat.le_of_ble_eq_true rfl) (by decide) dX6_manner_17 (fun r17 => ?_)
    refine s_if_ne (tgt := 30) G dX6_manner_20 (by decide) ?_ ?_
    · refine s_aload_n G dX6_manner_23 rfl ?_
      refine s_ldc (v := (-1000000005)) G dX6_manner_24 qw910 ?_
      refine s_callVI (as := [.int (-1000000005)]) (st := []) (k := 36) G aw_self mdX6_finds (fun _ h => c_X6_finds w O l (-1000000005) M _ h) ⟨by decide, by decide⟩ (ce36 w) clX6 rfl qw825 rfl rfl (Nat.le_of_ble_eq_true rfl) (by decide) dX6_manner_26 (fun r26 => ?_)
      exact s_iret G rfl rfl dX6_manner_29
    · refine s_iconst (v := 0) G dX6_manner_30 (by decide) ?_
      refine s_istore_n (lv2 := [some (.ref (w.1 36)), some (.int a1), some (.int 0), none, none, none]) G dX6_manner_31 (by decide) rfl rfl ?_
      refine s_sipush (v := 9999) G dX6_manner_32 (by decide) ?_
      refine s_istore_n (lv2 := [some (.ref (w.1 36)), some (.int a1), some (.int 0), some (.int 9999), none, none]) G dX6_manner_35 (by decide) rfl rfl ?_
      refine s_iconst (v := 0) G dX6_manner_36 (by decide) ?_
      refine s_istore (lv2 := [some (.ref (w.1 36)), some (.int a1), some (.int 0), some (.int 9999), some (.int 0), none]) G dX6_manner_37 (by decide) rfl rfl ?_
      refine s_loopG (lvf := fun z39 : Int32 × Int32 × Int32 => [some (.ref (w.1 36)), some (.int a1), some (.int z39.1), some (.int z39.2.1), some (.int z39.2.2), none]) (Mf := fun z39 : Int32 × Int32 × Int32 => M) (ex := (fun x39_119 : Int32 => (119, [none, none, some (.int x39_119), none, none, none], M))) (el_one 119 (fun x39_119 : Int32 => [none, none, some (.int x39_119), none, none, none]) (fun x39_119 : Int32 => M) (fun x39_119 => ?_)) (fun z39 K39 hB39 hE39 => ?_)
      · refine s_iload_n G dX6_manner_119 rfl ?_
        exact s_iret G rfl rfl dX6_manner_120
      · unfold f_X6_manner_L39
        refine s_iload G dX6_manner_39 rfl ?_
        refine s_iconst (v := 2) G dX6_manner_41 (by decide) ?_
        refine s_icmp_gt (tgt := 119) G dX6_manner_42 (by decide) ?_ ?_
        · refine s_keep [false, false, true, false, false, false] (lv2 := [none, none, some (.int z39.1), none, none, none]) rfl ?_
          exact fun hx => hE39 z39.1 hx
        · refine s_aload_n G dX6_manner_45 rfl ?_
          refine s_iload_n G dX6_manner_46 rfl ?_
          refine s_iload G dX6_manner_47 rfl ?_
          refine s_callVi (as := [.int a1, .int z39.2.2]) (st := []) (k := 36) G aw_self mdX6_mayTake (fun _ h => c_X6_mayTake w O l a1 z39.2.2 M _ h) ⟨by decide, by decide⟩ (ce36 w) clX6 rfl qw948 rfl rfl (Nat.le_of_ble_eq_true rfl) (by decide) dX6_manner_49 (fun r49 => ?_)
          refine s_join 85 (fun y52 : Int32 => [some (.ref (w.1 36)), some (.int a1), some (.int z39.1), some (.int z39.2.1), some (.int z39.2.2), none]) (fun y52 => [.int y52]) (fun y52 => M) (fun y52 => ?_) (fun K52 hB52 => ?_)
          · refine s_istore (lv2 := [some (.ref (w.1 36)), some (.int a1), some (.int z39.1), some (.int z39.2.1), some (.int z39.2.2), some (.int y52)]) G dX6_manner_85 (by decide) rfl rfl ?_
            refine s_iload G dX6_manner_87 rfl ?_
            refine s_iload_n G dX6_manner_89 rfl ?_
            refine s_join 99 (fun y90 : Int32 => [some (.ref (w.1 36)), some (.int a1), none, some (.int z39.2.1), some (.int z39.2.2), some (.int y52)]) (fun y90 => [.int y90]) (fun y90 => M) (fun y90 => ?_) (fun K90 hB90 => ?_)
            · refine s_istore_n (lv2 := [some (.ref (w.1 36)), some (.int a1), some (.int y90), some (.int z39.2.1), some (.int z39.2.2), some (.int y52)]) G dX6_manner_99 (by decide) rfl rfl ?_
              refine s_iload G dX6_manner_100 rfl ?_
              refine s_iload_n G dX6_manner_102 rfl ?_
              refine s_join 112 (fun y103 : Int32 => [some (.ref (w.1 36)), some (.int a1), some (.int y90), none, some (.int z39.2.2), none]) (fun y103 => [.int y103]) (fun y103 => M) (fun y103 => ?_) (fun K103 hB103 => ?_)
              · refine s_istore_n (lv2 := [some (.ref (w.1 36)), some (.int a1), some (.int y90), some (.int y103), some (.int z39.2.2), none]) G dX6_manner_112 (by decide) rfl rfl ?_
                refine s_iinc (v := (z39.2.2 + 1)) (lv2 := [some (.ref (w.1 36)), some (.int a1), some (.int y90), some (.int y103), some (.int (z39.2.2 + 1)), none]) G dX6_manner_113 rfl rfl (by decide) rfl rfl ?_
                refine s_goto (tgt := 39) G dX6_manner_116 (by decide) ?_
                exact fun hx => hB39 (y90, y103, (z39.2.2 + 1)) hx
              · refine s_icmp_ge (tgt := 111) G dX6_manner_103 (by decide) ?_ ?_
                · refine s_iload_n G dX6_manner_111 rfl ?_
                  refine s_keep [true, true, true, false, true, false] (lv2 := [some (.ref (w.1 36)), some (.int a1), some (.int y90), none, some (.int z39.2.2), none]) rfl ?_
                  exact fun hx => hB103 z39.2.1 hx
                · refine s_iload G dX6_manner_106 rfl ?_
                  refine s_goto (tgt := 112) G dX6_manner_108 (by decide) ?_
                  refine s_keep [true, true, true, false, true, false] (lv2 := [some (.ref (w.1 36)), some (.int a1), some (.int y90), none, some (.int z39.2.2), none]) rfl ?_
                  exact fun hx => hB103 y52 hx
            · refine s_icmp_ge (tgt := 98) G dX6_manner_90 (by decide) ?_ ?_
              · refine s_iload_n G dX6_manner_98 rfl ?_
                refine s_keep [true, true, false, true, true, true] (lv2 := [some (.ref (w.1 36)), some (.int a1), none, some (.int z39.2.1), some (.int z39.2.2), some (.int y52)]) rfl ?_
                exact fun hx => hB90 z39.1 hx
              · refine s_iload G dX6_manner_93 rfl ?_
                refine s_goto (tgt := 99) G dX6_manner_95 (by decide) ?_
                refine s_keep [true, true, false, true, true, true] (lv2 := [some (.ref (w.1 36)), some (.int a1), none, some (.int z39.2.1), some (.int z39.2.2), some (.int y52)]) rfl ?_
                exact fun hx => hB90 z39.2.2 hx
          · refine s_if_eq (tgt := 82) G dX6_manner_52 (by decide) ?_ ?_
            · refine s_sipush (v := 9999) G dX6_manner_82 (by decide) ?_
              exact fun hx => hB52 9999 hx
            · refine s_bipush (v := 20) G dX6_manner_55 (by decide) ?_
              refine s_aload_n G dX6_manner_57 rfl ?_
              refine s_iload_n G dX6_manner_58 rfl ?_
              refine s_iload G dX6_manner_59 rfl ?_
              refine s_callVi (as := [.int a1, .int z39.2.2]) (st := [.int 20]) (k := 36) G aw_self mdX6_fallers (fun _ h => c_X6_fallers w O l a1 z39.2.2 M _ h) ⟨by decide, by decide⟩ (ce36 w) clX6 rfl qw976 rfl rfl (Nat.le_of_ble_eq_true rfl) (by decide) dX6_manner_61 (fun r61 => ?_)
              refine s_callSi (as := [.int r61]) (st := [.int 20]) G aw_self mdX6_ones (fun _ h => c_X6_ones w O l r61 M _ h) qw923 rfl rfl (Nat.le_of_ble_eq_true rfl) (by decide) dX6_manner_64 (fun r64 => ?_)
              refine s_imul G dX6_manner_67 ?_
              refine s_aload_n G dX6_manner_68 rfl ?_
              refine s_iload_n G dX6_manner_69 rfl ?_
              refine s_iload G dX6_manner_70 rfl ?_
              refine s_callVi (as := [.int a1, .int z39.2.2]) (st := [.int (20 * r64)]) (k := 36) G aw_self mdX6_comesBy (fun _ h => c_X6_comesBy w O l a1 z39.2.2 M _ h) ⟨by decide, by decide⟩ (ce36 w) clX6 rfl qw956 rfl rfl (Nat.le_of_ble_eq_true rfl) (by decide) dX6_manner_72 (fun r72 => ?_)
              refine s_callSi (as := [.int r72]) (st := [.int (20 * r64)]) G aw_self mdX6_ones (fun _ h => c_X6_ones w O l r72 M _ h) qw923 rfl rfl (Nat.le_of_ble_eq_true rfl) (by decide) dX6_manner_75 (fun r75 => ?_)
              refine s_iadd G dX6_manner_78 ?_
              refine s_goto (tgt := 85) G dX6_manner_79 (by decide) ?_
              exact fun hx => hB52 ((20 * r64) + r75) hx

set_option maxRecDepth 100000 in
set_option maxHeartbeats 4000000 in
theorem c_X6_first (w : Wx) (O : Mem) (l : Launch)  (M : Mem)  (z : Int32 × Mem) (hz : f_X6_first  M = some z) : Ct w 36 48 O l 8 muX6_first [.ref (w.1 36)] M (some (.int z.1), z.2) := by
  refine ct_of (X := f_X6_first  M) (K := fun v => some (some (.int v.1), v.2)) [some (.ref (w.1 36)), none, none, none, none] rfl rfl (Nat.le_of_ble_eq_true rfl) (by rw [hz]; rfl) ?_
  intro p e s m args below meth c G
  unfold f_X6_first
  refine s_iconst (v := (-1)) G dX6_first_0 (by decide) ?_
  refine s_istore_n (lv2 := [some (.ref (w.1 36)), some (.int (-1)), none, none, none]) G dX6_first_1 (by decide) rfl rfl ?_
  refine s_iconst (v := 0) G dX6_first_2 (by decide) ?_
  refine s_istore_n (lv2 := [some (.ref (w.1 36)), some (.int (-1)), some (.int 0), none, none]) G dX6_first_3 (by decide) rfl rfl ?_
  refine s_iconst (v := 0) G dX6_first_4 (by decide) ?_
  refine s_istore_n (lv2 := [some (.ref (w.1 36)), some (.int (-1)), some (.int 0), some (.int 0), none]) G dX6_first_5 (by decide) rfl rfl ?_
  refine s_loopG (lvf := fun z6 : Int32 × Int32 × Int32 => [some (.ref (w.1 36)), some (.int z6.1), some (.int z6.2.1), some (.int z6.2.2), none]) (Mf := fun z6 : Int32 × Int32 × Int32 => M) (ex := (fun x6_69 : Int32 => (69, [some (.ref (w.1 36)), some (.int x6_69), none, none, none], M))) (el_one 69 (fun x6_69 : Int32 => [some (.ref (w.1 36)), some (.int x6_69), none, none, none]) (fun x6_69 : Int32 => M) (fun x6_69 => ?_)) (fun z6 K6 hB6 hE6 => ?_)
  · refine s_iload_n G dX6_first_69 rfl ?_
    refine s_join 83 (fun y70 : Int32 × Mem => [none, none, none, none, none]) (fun y70 => [.int y70.1]) (fun y70 => y70.2) (fun y70 => ?_) (fun K70 hB70 => ?_)
    · exact s_iret G rfl rfl dX6_first_83
    · refine s_if_ge (tgt := 82) G dX6_first_70 (by decide) ?_ ?_
      · refine s_iload_n G dX6_first_82 rfl ?_
        refine s_keep [false, false, false, false, false] (lv2 := [none, none, none, none, none]) rfl ?_
        exact fun hx => hB70 (x6_69, M) hx
      · refine s_aload_n G dX6_first_73 rfl ?_
        refine s_ldc (v := (-1000000004)) G dX6_first_74 qw897 ?_
        refine s_callVI (as := [.int (-1000000004)]) (st := []) (k := 36) G aw_self mdX6_finds (fun _ h => c_X6_finds w O l (-1000000004) M _ h) ⟨by decide, by decide⟩ (ce36 w) clX6 rfl qw825 rfl rfl (Nat.le_of_ble_eq_true rfl) (by decide) dX6_first_76 (fun r76 => ?_)
        refine s_goto (tgt := 83) G dX6_first_79 (by decide) ?_
        refine s_keep [false, false, false, false, false] (lv2 := [none, none, none, none, none]) rfl ?_
        exact fun hx => hB70 (r76.1, r76.2) hx
  · unfold f_X6_first_L6
    refine s_iload_n G dX6_first_6 rfl ?_
    refine s_aload_n G dX6_first_7 rfl ?_
    refine s_get (k := 36) (j := 0) G (.ref (w.1 37)) ⟨by decide, by decide⟩ (ce36 w) rfl clX6 (by decide) qw755 rfl dX6_first_8 ?_
    refine s_iconst (v := 0) G dX6_first_11 (by decide) ?_
    refine s_ialdC (k := 37) (n := 63) (j := 0) G ⟨by decide, by decide⟩ (ce37 w) (by decide) (by decide) dX6_first_12 ?_
    refine s_icmp_ge (tgt := 69) G dX6_first_13 (by decide) ?_ ?_
    · refine s_keep [true, true, false, false, false] (lv2 := [some (.ref (w.1 36)), some (.int z6.1), none, none, none]) rfl ?_
      exact fun hx => hE6 z6.1 hx
    · refine s_aload_n G dX6_first_16 rfl ?_
      refine s_iload_n G dX6_first_17 rfl ?_
      refine s_callVi (as := [.int z6.2.2]) (st := []) (k := 36) G aw_self mdX6_isOn (fun _ h => c_X6_isOn w O l z6.2.2 M _ h) ⟨by decide, by decide⟩ (ce36 w) clX6 rfl qw902 rfl rfl (Nat.le_of_ble_eq_true rfl) (by decide) dX6_first_18 (fun r18 => ?_)
      refine s_join 63 (fun y21 : Int32 × Int32 => [some (.ref (w.1 36)), some (.int y21.1), some (.int y21.2), some (.int z6.2.2), none]) (fun y21 => []) (fun y21 => M) (fun y21 => ?_) (fun K21 hB21 => ?_)
      · refine s_iinc (v := (z6.2.2 + 1)) (lv2 := [some (.ref (w.1 36)), some (.int y21.1), some (.int y21.2), some (.int (z6.2.2 + 1)), none]) G dX6_first_63 rfl rfl (by decide) rfl rfl ?_
        refine s_goto (tgt := 6) G dX6_first_66 (by decide) ?_
        exact fun hx => hB6 (y21.1, y21.2, (z6.2.2 + 1)) hx
      · refine s_if_eq (tgt := 63) G dX6_first_21 (by decide) ?_ ?_
        · exact fun hx => hB21 (z6.1, z6.2.1) hx
        · refine s_aload_n G dX6_first_24 rfl ?_
          refine s_iload_n G dX6_first_25 rfl ?_
          refine s_iconst (v := 0) G dX6_first_26 (by decide) ?_
          refine s_callVi (as := [.int z6.2.2, .int 0]) (st := []) (k := 36) G aw_self mdX6_fallers (fun _ h => c_X6_fallers w O l z6.2.2 0 M _ h) ⟨by decide, by decide⟩ (ce36 w) clX6 rfl qw976 rfl rfl (Nat.le_of_ble_eq_true rfl) (by decide) dX6_first_27 (fun r27 => ?_)
          refine s_callSi (as := [.int r27]) (st := []) G aw_self mdX6_ones (fun _ h => c_X6_ones w O l r27 M _ h) qw923 rfl rfl (Nat.le_of_ble_eq_true rfl) (by decide) dX6_first_30 (fun r30 => ?_)
          refine s_istore (lv2 := [some (.ref (w.1 36)), some (.int z6.1), some (.int z6.2.1), some (.int z6.2.2), some (.int r30)]) G dX6_first_33 (by decide) rfl rfl ?_
          refine s_iload_n G dX6_first_35 rfl ?_
          refine s_join 50 (fun y36 : Int32 => [some (.ref (w.1 36)), none, some (.int z6.2.1), some (.int z6.2.2), some (.int r30)]) (fun y36 => [.int y36]) (fun y36 => M) (fun y36 => ?_) (fun K36 hB36 => ?_)
          · refine s_istore_n (lv2 := [some (.ref (w.1 36)), some (.int y36), some (.int z6.2.1), some (.int z6.2.2), some (.int r30)]) G dX6_first_50 (by decide) rfl rfl ?_
            refine s_iload_n G dX6_first_51 rfl ?_
            refine s_iload_n G dX6_first_52 rfl ?_
            refine s_join 62 (fun y53 : Int32 => [some (.ref (w.1 36)), some (.int y36), none, some (.int z6.2.2), none]) (fun y53 => [.int y53]) (fun y53 => M) (fun y53 => ?_) (fun K53 hB53 => ?_)
            · refine s_istore_n (lv2 := [some (.ref (w.1 36)), some (.int y36), some (.int y53), some (.int z6.2.2), none]) G dX6_first_62 (by decide) rfl rfl ?_
              exact fun hx => hB21 (y36, y53) hx
            · refine s_icmp_ne (tgt := 61) G dX6_first_53 (by decide) ?_ ?_
              · refine s_iload G dX6_first_56 rfl ?_
                refine s_goto (tgt := 62) G dX6_first_58 (by decide) ?_
                refine s_keep [true, true, false, true, false] (lv2 := [some (.ref (w.1 36)), some (.int y36), none, some (.int z6.2.2), none]) rfl ?_
                exact fun hx => hB53 r30 hx
              · refine s_iload_n G dX6_first_61 rfl ?_
                refine s_keep [true, true, false, true, false] (lv2 := [some (.ref (w.1 36)), some (.int y36), none, some (.int z6.2.2), none]) rfl ?_
                exact fun hx => hB53 z6.2.1 hx
          · refine s_if_lt (tgt := 45) G dX6_first_36 (by decide) ?_ ?_
            · refine s_iload_n G dX6_first_45 rfl ?_
              refine s_goto (tgt := 50) G dX6_first_46 (by decide) ?_
              refine s_keep [true, false, true, true, true] (lv2 := [some (.ref (w.1 36)), none, some (.int z6.2.1), some (.int z6.2.2), some (.int r30)]) rfl ?_
              exact fun hx => hB36 z6.2.2 hx
            · refine s_iload G dX6_first_39 rfl ?_
              refine s_iload_n G dX6_first_41 rfl ?_
              refine s_icmp_ge (tgt := 49) G dX6_first_42 (by decide) ?_ ?_
              · refine s_iload_n G dX6_first_49 rfl ?_
                refine s_keep [true, false, true, true, true] (lv2 := [some (.ref (w.1 36)), none, some (.int z6.2.1), some (.int z6.2.2), some (.int r30)]) rfl ?_
                exact fun hx => hB36 z6.1 hx
              · refine s_iload_n G dX6_first_45 rfl ?_
                refine s_goto (tgt := 50) G dX6_first_46 (by decide) ?_
                refine s_keep [true, false, true, true, true] (lv2 := [some (.ref (w.1 36)), none, some (.int z6.2.1), some (.int z6.2.2), some (.int r30)]) rfl ?_
                exact fun hx => hB36 z6.2.2 hx

set_option maxRecDepth 100000 in
set_option maxHeartbeats 4000000 in
theorem c_X6_spot (w : Wx) (O : Mem) (l : Launch) (a1 : Int32) (M : Mem)  (z : Int32 × Mem) (hz : f_X6_spot a1 M = some z) : Ct w 36 48 O l 5 muX6_spot [.ref (w.1 36), .int a1] M (some (.int z.1), z.2) := by
  refine ct_of (X := f_X6_spot a1 M) (K := fun v => some (some (.int v.1), v.2)) [some (.ref (w.1 36)), some (.int a1), none, none, none, none, none, none] rfl rfl (Nat.le_of_ble_eq_true rfl) (by rw [hz]; rfl) ?_
  intro p e s m args below meth c G
  unfold f_X6_spot
  refine s_aload_n G dX6_spot_0 rfl ?_
  refine s_iload_n G dX6_spot_1 rfl ?_
  refine s_callVi (as := [.int a1]) (st := []) (k := 36) G aw_self mdX6_isHanger (fun _ h => c_X6_isHanger w O l a1 M _ h) ⟨by decide, by decide⟩ (ce36 w) clX6 rfl qw841 rfl rfl (Nat.le_of_ble_eq_true rfl) (by decide) dX6_spot_2 (fun r2 => ?_)
  refine s_if_ne (tgt := 15) G dX6_spot_5 (by decide) ?_ ?_
  · refine s_aload_n G dX6_spot_8 rfl ?_
    refine s_ldc (v := (-1000000001)) G dX6_spot_9 qw824 ?_
    refine s_callVI (as := [.int (-1000000001)]) (st := []) (k := 36) G aw_self mdX6_finds (fun _ h => c_X6_finds w O l (-1000000001) M _ h) ⟨by decide, by decide⟩ (ce36 w) clX6 rfl qw825 rfl rfl (Nat.le_of_ble_eq_true rfl) (by decide) dX6_spot_11 (fun r11 => ?_)
    exact s_iret G rfl rfl dX6_spot_14
  · refine s_aload_n G dX6_spot_15 rfl ?_
    refine s_iload_n G dX6_spot_16 rfl ?_
    refine s_callVi (as := [.int a1]) (st := []) (k := 36) G aw_self mdX6_isOn (fun _ h => c_X6_isOn w O l a1 M _ h) ⟨by decide, by decide⟩ (ce36 w) clX6 rfl qw902 rfl rfl (Nat.le_of_ble_eq_true rfl) (by decide) dX6_spot_17 (fun r17 => ?_)
    refine s_if_ne (tgt := 30) G dX6_spot_20 (by decide) ?_ ?_
    · refine s_aload_n G dX6_spot_23 rfl ?_
      refine s_ldc (v := (-1000000005)) G dX6_spot_24 qw910 ?_
      refine s_callVI (as := [.int (-1000000005)]) (st := []) (k := 36) G aw_self mdX6_finds (fun _ h => c_X6_finds w O l (-1000000005) M _ h) ⟨by decide, by decide⟩ (ce36 w) clX6 rfl qw825 rfl rfl (Nat.le_of_ble_eq_true rfl) (by decide) dX6_spot_26 (fun r26 => ?_)
      exact s_iret G rfl rfl dX6_spot_29
    · refine s_aload_n G dX6_spot_30 rfl ?_
      refine s_iload_n G dX6_spot_31 rfl ?_
      refine s_iconst (v := 1) G dX6_spot_32 (by decide) ?_
      refine s_callVi (as := [.int a1, .int 1]) (st := []) (k := 36) G aw_self mdX6_its (fun _ h => c_X6_its w O l a1 1 M _ h) ⟨by decide, by decide⟩ (ce36 w) clX6 rfl qw846 rfl rfl (Nat.le_of_ble_eq_true rfl) (by decide) dX6_spot_33 (fun r33 => ?_)
      refine s_istore_n (lv2 := [some (.ref (w.1 36)), some (.int a1), some (.int r33), none, none, none, none, none]) G dX6_spot_36 (by decide) rfl rfl ?_
      refine s_iconst (v := (-1)) G dX6_spot_37 (by decide) ?_
      refine s_istore_n (lv2 := [some (.ref (w.1 36)), some (.int a1), some (.int r33), some (.int (-1)), none, none, none, none]) G dX6_spot_38 (by decide) rfl rfl ?_
      refine s_iconst (v := 0) G dX6_spot_39 (by decide) ?_
      refine s_istore (lv2 := [some (.ref (w.1 36)), some (.int a1), some (.int r33), some (.int (-1)), some (.int 0), none, none, none]) G dX6_spot_40 (by decide) rfl rfl ?_
      refine s_iconst (v := 0) G dX6_spot_42 (by decide) ?_
      refine s_istore (lv2 := [some (.ref (w.1 36)), some (.int a1), some (.int r33), some (.int (-1)), some (.int 0), some (.int 0), none, none]) G dX6_spot_43 (by decide) rfl rfl ?_
      refine s_loopG (lvf := fun z45 : Int32 × Int32 × Int32 × Mem => [some (.ref (w.1 36)), some (.int a1), some (.int r33), some (.int z45.1), some (.int z45.2.1), some (.int z45.2.2.1), none, none]) (Mf := fun z45 : Int32 × Int32 × Int32 × Mem => z45.2.2.2) (ex := (fun x45_168 : Int32 × Mem => (168, [some (.ref (w.1 36)), none, none, some (.int x45_168.1), none, none, none, none], x45_168.2))) (el_one 168 (fun x45_168 : Int32 × Mem => [some (.ref (w.1 36)), none, none, some (.int x45_168.1), none, none, none, none]) (fun x45_168 : Int32 × Mem => x45_168.2) (fun x45_168 => ?_)) (fun z45 K45 hB45 hE45 => ?_)
      · refine s_iload_n G dX6_spot_168 rfl ?_
        refine s_join 182 (fun y169 : Int32 × Mem => [none, none, none, none, none, none, none, none]) (fun y169 => [.int y169.1]) (fun y169 => y169.2) (fun y169 => ?_) (fun K169 hB169 => ?_)
        · exact s_iret G rfl rfl dX6_spot_182
        · refine s_if_ge (tgt := 181) G dX6_spot_169 (by decide) ?_ ?_
          · refine s_iload_n G dX6_spot_181 rfl ?_
            refine s_keep [false, false, false, false, false, false, false, false] (lv2 := [none, none, none, none, none, none, none, none]) rfl ?_
            exact fun hx => hB169 (x45_168.1, x45_168.2) hx
          · refine s_aload_n G dX6_spot_172 rfl ?_
            refine s_ldc (v := (-1000000004)) G dX6_spot_173 qw897 ?_
            refine s_callVI (as := [.int (-1000000004)]) (st := []) (k := 36) G aw_self mdX6_finds (fun _ h => c_X6_finds w O l (-1000000004) x45_168.2 _ h) ⟨by decide, by decide⟩ (ce36 w) clX6 rfl qw825 rfl rfl (Nat.le_of_ble_eq_true rfl) (by decide) dX6_spot_175 (fun r175 => ?_)
            refine s_goto (tgt := 182) G dX6_spot_178 (by decide) ?_
            refine s_keep [false, false, false, false, false, false, false, false] (lv2 := [none, none, none, none, none, none, none, none]) rfl ?_
            exact fun hx => hB169 (r175.1, r175.2) hx
      · unfold f_X6_spot_L45
        refine s_iload G dX6_spot_45 rfl ?_
        refine s_bipush (v := 24) G dX6_spot_47 (by decide) ?_
        refine s_icmp_ge (tgt := 168) G dX6_spot_49 (by decide) ?_ ?_
        · refine s_keep [true, false, false, true, false, false, false, false] (lv2 := [some (.ref (w.1 36)), none, none, some (.int z45.1), none, none, none, none]) rfl ?_
          exact fun hx => hE45 (z45.1, z45.2.2.2) hx
        · refine s_iload G dX6_spot_52 rfl ?_
          refine s_iload_n G dX6_spot_54 rfl ?_
          refine s_join 162 (fun y55 : Int32 × Int32 × Mem => [some (.ref (w.1 36)), some (.int a1), some (.int r33), some (.int y55.1), some (.int y55.2.1), some (.int z45.2.2.1), none, none]) (fun y55 => []) (fun y55 => y55.2.2) (fun y55 => ?_) (fun K55 hB55 => ?_)
          · refine s_iinc (v := (z45.2.2.1 + 1)) (lv2 := [some (.ref (w.1 36)), some (.int a1), some (.int r33), some (.int y55.1), some (.int y55.2.1), some (.int (z45.2.2.1 + 1)), none, none]) G dX6_spot_162 rfl rfl (by decide) rfl rfl ?_
            refine s_goto (tgt := 45) G dX6_spot_165 (by decide) ?_
            exact fun hx => hB45 (y55.1, y55.2.1, (z45.2.2.1 + 1), y55.2.2) hx
          · refine s_icmp_eq (tgt := 67) G dX6_spot_55 (by decide) ?_ ?_
            · refine s_aload_n G dX6_spot_67 rfl ?_
              refine s_get (k := 36) (j := 0) G (.ref (w.1 37)) ⟨by decide, by decide⟩ (ce36 w) rfl clX6 (by decide) qw755 rfl dX6_spot_68 ?_
              refine s_iload_n G dX6_spot_71 rfl ?_
              refine s_iconst (v := 1) G dX6_spot_72 (by decide) ?_
              refine s_callSi (as := [.int a1, .int 1]) (st := [.ref (w.1 37)]) G aw_self mdX6_spotOf (fun _ h => c_X6_spotOf w O l a1 1 z45.2.2.2 _ h) qw834 rfl rfl (Nat.le_of_ble_eq_true rfl) (by decide) dX6_spot_73 (fun r73 => ?_)
              refine s_iload G dX6_spot_76 rfl ?_
              refine s_iast (k := 37) (n := 63) G ⟨by decide, by decide⟩ (ce37 w) dX6_spot_78 (fun m78 => ?_)
              refine s_aload_n G dX6_spot_79 rfl ?_
              refine s_iload_n G dX6_spot_80 rfl ?_
              refine s_callVi (as := [.int a1]) (st := []) (k := 36) G aw_self mdX6_tangledWith (fun _ h => c_X6_tangledWith w O l a1 m78 _ h) ⟨by decide, by decide⟩ (ce36 w) clX6 rfl qw964 rfl rfl (Nat.le_of_ble_eq_true rfl) (by decide) dX6_spot_81 (fun r81 => ?_)
              refine s_join 92 (fun y84 : Int32 => [some (.ref (w.1 36)), some (.int a1), some (.int r33), some (.int z45.1), some (.int z45.2.1), some (.int z45.2.2.1), none, none]) (fun y84 => [.int y84]) (fun y84 => m78) (fun y84 => ?_) (fun K84 hB84 => ?_)
              · refine s_istore (lv2 := [some (.ref (w.1 36)), some (.int a1), some (.int r33), some (.int z45.1), some (.int z45.2.1), some (.int z45.2.2.1), some (.int y84), none]) G dX6_spot_92 (by decide) rfl rfl ?_
                refine s_aload_n G dX6_spot_94 rfl ?_
                refine s_get (k := 36) (j := 0) G (.ref (w.1 37)) ⟨by decide, by decide⟩ (ce36 w) rfl clX6 (by decide) qw755 rfl dX6_spot_95 ?_
                refine s_iload_n G dX6_spot_98 rfl ?_
                refine s_iconst (v := 1) G dX6_spot_99 (by decide) ?_
                refine s_callSi (as := [.int a1, .int 1]) (st := [.ref (w.1 37)]) G aw_self mdX6_spotOf (fun _ h => c_X6_spotOf w O l a1 1 m78 _ h) qw834 rfl rfl (Nat.le_of_ble_eq_true rfl) (by decide) dX6_spot_100 (fun r100 => ?_)
                refine s_iload_n G dX6_spot_103 rfl ?_
                refine s_iast (k := 37) (n := 63) G ⟨by decide, by decide⟩ (ce37 w) dX6_spot_104 (fun m104 => ?_)
                refine s_iload G dX6_spot_105 rfl ?_
                refine s_iload_n G dX6_spot_107 rfl ?_
                refine s_join 122 (fun y108 : Int32 => [some (.ref (w.1 36)), some (.int a1), some (.int r33), some (.int z45.1), some (.int z45.2.1), some (.int z45.2.2.1), some (.int y84), none]) (fun y108 => [.int y108]) (fun y108 => m104) (fun y108 => ?_) (fun K108 hB108 => ?_)
                · refine s_istore (lv2 := [some (.ref (w.1 36)), some (.int a1), some (.int r33), some (.int z45.1), some (.int z45.2.1), some (.int z45.2.2.1), some (.int y84), some (.int y108)]) G dX6_spot_122 (by decide) rfl rfl ?_
                  refine s_iload G dX6_spot_124 rfl ?_
                  refine s_join 146 (fun y126 : Int32 => [some (.ref (w.1 36)), some (.int a1), some (.int r33), none, some (.int z45.2.1), some (.int z45.2.2.1), none, some (.int y108)]) (fun y126 => [.int y126]) (fun y126 => m104) (fun y126 => ?_) (fun K126 hB126 => ?_)
                  · refine s_istore_n (lv2 := [some (.ref (w.1 36)), some (.int a1), some (.int r33), some (.int y126), some (.int z45.2.1), some (.int z45.2.2.1), none, some (.int y108)]) G dX6_spot_146 (by decide) rfl rfl ?_
                    refine s_iload_n G dX6_spot_147 rfl ?_
                    refine s_iload G dX6_spot_148 rfl ?_
                    refine s_join 160 (fun y150 : Int32 => [some (.ref (w.1 36)), some (.int a1), some (.int r33), some (.int y126), none, some (.int z45.2.2.1), none, none]) (fun y150 => [.int y150]) (fun y150 => m104) (fun y150 => ?_) (fun K150 hB150 => ?_)
                    · refine s_istore (lv2 := [some (.ref (w.1 36)), some (.int a1), some (.int r33), some (.int y126), some (.int y150), some (.int z45.2.2.1), none, none]) G dX6_spot_160 (by decide) rfl rfl ?_
                      exact fun hx => hB55 (y126, y150, m104) hx
                    · refine s_icmp_ne (tgt := 158) G dX6_spot_150 (by decide) ?_ ?_
                      · refine s_iload G dX6_spot_153 rfl ?_
                        refine s_goto (tgt := 160) G dX6_spot_155 (by decide) ?_
                        refine s_keep [true, true, true, true, false, true, false, false] (lv2 := [some (.ref (w.1 36)), some (.int a1), some (.int r33), some (.int y126), none, some (.int z45.2.2.1), none, none]) rfl ?_
                        exact fun hx => hB150 y108 hx
                      · refine s_iload G dX6_spot_158 rfl ?_
                        refine s_keep [true, true, true, true, false, true, false, false] (lv2 := [some (.ref (w.1 36)), some (.int a1), some (.int r33), some (.int y126), none, some (.int z45.2.2.1), none, none]) rfl ?_
                        exact fun hx => hB150 z45.2.1 hx
                  · refine s_if_eq (tgt := 145) G dX6_spot_126 (by decide) ?_ ?_
                    · refine s_iload_n G dX6_spot_145 rfl ?_
                      refine s_keep [true, true, true, false, true, true, false, true] (lv2 := [some (.ref (w.1 36)), some (.int a1), some (.int r33), none, some (.int z45.2.1), some (.int z45.2.2.1), none, some (.int y108)]) rfl ?_
                      exact fun hx => hB126 z45.1 hx
                    · refine s_iload_n G dX6_spot_129 rfl ?_
                      refine s_if_lt (tgt := 140) G dX6_spot_130 (by decide) ?_ ?_
                      · refine s_iload G dX6_spot_140 rfl ?_
                        refine s_goto (tgt := 146) G dX6_spot_142 (by decide) ?_
                        refine s_keep [true, true, true, false, true, true, false, true] (lv2 := [some (.ref (w.1 36)), some (.int a1), some (.int r33), none, some (.int z45.2.1), some (.int z45.2.2.1), none, some (.int y108)]) rfl ?_
                        exact fun hx => hB126 z45.2.2.1 hx
                      · refine s_iload G dX6_spot_133 rfl ?_
                        refine s_iload G dX6_spot_135 rfl ?_
                        refine s_icmp_ge (tgt := 145) G dX6_spot_137 (by decide) ?_ ?_
                        · refine s_iload_n G dX6_spot_145 rfl ?_
                          refine s_keep [true, true, true, false, true, true, false, true] (lv2 := [some (.ref (w.1 36)), some (.int a1), some (.int r33), none, some (.int z45.2.1), some (.int z45.2.2.1), none, some (.int y108)]) rfl ?_
                          exact fun hx => hB126 z45.1 hx
                        · refine s_iload G dX6_spot_140 rfl ?_
                          refine s_goto (tgt := 146) G dX6_spot_142 (by decide) ?_
                          refine s_keep [true, true, true, false, true, true, false, true] (lv2 := [some (.ref (w.1 36)), some (.int a1), some (.int r33), none, some (.int z45.2.1), some (.int z45.2.2.1), none, some (.int y108)]) rfl ?_
                          exact fun hx => hB126 z45.2.2.1 hx
                · refine s_icmp_ge (tgt := 118) G dX6_spot_108 (by decide) ?_ ?_
                  · refine s_iload G dX6_spot_118 rfl ?_
                    refine s_iload_n G dX6_spot_120 rfl ?_
                    refine s_isub G dX6_spot_121 ?_
                    exact fun hx => hB108 (z45.2.2.1 - r33) hx
                  · refine s_iload_n G dX6_spot_111 rfl ?_
                    refine s_iload G dX6_spot_112 rfl ?_
                    refine s_isub G dX6_spot_114 ?_
                    refine s_goto (tgt := 122) G dX6_spot_115 (by decide) ?_
                    exact fun hx => hB108 (r33 - z45.2.2.1) hx
              · refine s_if_ne (tgt := 91) G dX6_spot_84 (by decide) ?_ ?_
                · refine s_iconst (v := 1) G dX6_spot_87 (by decide) ?_
                  refine s_goto (tgt := 92) G dX6_spot_88 (by decide) ?_
                  exact fun hx => hB84 1 hx
                · refine s_iconst (v := 0) G dX6_spot_91 (by decide) ?_
                  exact fun hx => hB84 0 hx
            · refine s_aload_n G dX6_spot_58 rfl ?_
              refine s_iload G dX6_spot_59 rfl ?_
              refine s_callVi (as := [.int z45.2.2.1]) (st := []) (k := 36) G aw_self mdX6_isFree (fun _ h => c_X6_isFree w O l z45.2.2.1 z45.2.2.2 _ h) ⟨by decide, by decide⟩ (ce36 w) clX6 rfl qw906 rfl rfl (Nat.le_of_ble_eq_true rfl) (by decide) dX6_spot_61 (fun r61 => ?_)
              refine s_if_eq (tgt := 162) G dX6_spot_64 (by decide) ?_ ?_
              · exact fun hx => hB55 (z45.1, z45.2.1, z45.2.2.2) hx
              · refine s_aload_n G dX6_spot_67 rfl ?_
                refine s_get (k := 36) (j := 0) G (.ref (w.1 37)) ⟨by decide, by decide⟩ (ce36 w) rfl clX6 (by decide) qw755 rfl dX6_spot_68 ?_
                refine s_iload_n G dX6_spot_71 rfl ?_
                refine s_iconst (v := 1) G dX6_spot_72 (by decide) ?_
                refine s_callSi (as := [.int a1, .int 1]) (st := [.ref (w.1 37)]) G aw_self mdX6_spotOf (fun _ h => c_X6_spotOf w O l a1 1 z45.2.2.2 _ h) qw834 rfl rfl (Nat.le_of_ble_eq_true rfl) (by decide) dX6_spot_73 (fun r73 => ?_)
                refine s_iload G dX6_spot_76 rfl ?_
                refine s_iast (k := 37) (n := 63) G ⟨by decide, by decide⟩ (ce37 w) dX6_spot_78 (fun m78 => ?_)
                refine s_aload_n G dX6_spot_79 rfl ?_
                refine s_iload_n G dX6_spot_80 rfl ?_
                refine s_callVi (as := [.int a1]) (st := []) (k := 36) G aw_self mdX6_tangledWith (fun _ h => c_X6_tangledWith w O l a1 m78 _ h) ⟨by decide, by decide⟩ (ce36 w) clX6 rfl qw964 rfl rfl (Nat.le_of_ble_eq_true rfl) (by decide) dX6_spot_81 (fun r81 => ?_)
                refine s_join 92 (fun y84 : Int32 => [some (.ref (w.1 36)), some (.int a1), some (.int r33), some (.int z45.1), some (.int z45.2.1), some (.int z45.2.2.1), none, none]) (fun y84 => [.int y84]) (fun y84 => m78) (fun y84 => ?_) (fun K84 hB84 => ?_)
                · refine s_istore (lv2 := [some (.ref (w.1 36)), some (.int a1), some (.int r33), some (.int z45.1), some (.int z45.2.1), some (.int z45.2.2.1), some (.int y84), none]) G dX6_spot_92 (by decide) rfl rfl ?_
                  refine s_aload_n G dX6_spot_94 rfl ?_
                  refine s_get (k := 36) (j := 0) G (.ref (w.1 37)) ⟨by decide, by decide⟩ (ce36 w) rfl clX6 (by decide) qw755 rfl dX6_spot_95 ?_
                  refine s_iload_n G dX6_spot_98 rfl ?_
                  refine s_iconst (v := 1) G dX6_spot_99 (by decide) ?_
                  refine s_callSi (as := [.int a1, .int 1]) (st := [.ref (w.1 37)]) G aw_self mdX6_spotOf (fun _ h => c_X6_spotOf w O l a1 1 m78 _ h) qw834 rfl rfl (Nat.le_of_ble_eq_true rfl) (by decide) dX6_spot_100 (fun r100 => ?_)
                  refine s_iload_n G dX6_spot_103 rfl ?_
                  refine s_iast (k := 37) (n := 63) G ⟨by decide, by decide⟩ (ce37 w) dX6_spot_104 (fun m104 => ?_)
                  refine s_iload G dX6_spot_105 rfl ?_
                  refine s_iload_n G dX6_spot_107 rfl ?_
                  refine s_join 122 (fun y108 : Int32 => [some (.ref (w.1 36)), some (.int a1), some (.int r33), some (.int z45.1), some (.int z45.2.1), some (.int z45.2.2.1), some (.int y84), none]) (fun y108 => [.int y108]) (fun y108 => m104) (fun y108 => ?_) (fun K108 hB108 => ?_)
                  · refine s_istore (lv2 := [some (.ref (w.1 36)), some (.int a1), some (.int r33), some (.int z45.1), some (.int z45.2.1), some (.int z45.2.2.1), some (.int y84), some (.int y108)]) G dX6_spot_122 (by decide) rfl rfl ?_
                    refine s_iload G dX6_spot_124 rfl ?_
                    refine s_join 146 (fun y126 : Int32 => [some (.ref (w.1 36)), some (.int a1), some (.int r33), none, some (.int z45.2.1), some (.int z45.2.2.1), none, some (.int y108)]) (fun y126 => [.int y126]) (fun y126 => m104) (fun y126 => ?_) (fun K126 hB126 => ?_)
                    · refine s_istore_n (lv2 := [some (.ref (w.1 36)), some (.int a1), some (.int r33), some (.int y126), some (.int z45.2.1), some (.int z45.2.2.1), none, some (.int y108)]) G dX6_spot_146 (by decide) rfl rfl ?_
                      refine s_iload_n G dX6_spot_147 rfl ?_
                      refine s_iload G dX6_spot_148 rfl ?_
                      refine s_join 160 (fun y150 : Int32 => [some (.ref (w.1 36)), some (.int a1), some (.int r33), some (.int y126), none, some (.int z45.2.2.1), none, none]) (fun y150 => [.int y150]) (fun y150 => m104) (fun y150 => ?_) (fun K150 hB150 => ?_)
                      · refine s_istore (lv2 := [some (.ref (w.1 36)), some (.int a1), some (.int r33), some (.int y126), some (.int y150), some (.int z45.2.2.1), none, none]) G dX6_spot_160 (by decide) rfl rfl ?_
                        exact fun hx => hB55 (y126, y150, m104) hx
                      · refine s_icmp_ne (tgt := 158) G dX6_spot_150 (by decide) ?_ ?_
                        · refine s_iload G dX6_spot_153 rfl ?_
                          refine s_goto (tgt := 160) G dX6_spot_155 (by decide) ?_
                          refine s_keep [true, true, true, true, false, true, false, false] (lv2 := [some (.ref (w.1 36)), some (.int a1), some (.int r33), some (.int y126), none, some (.int z45.2.2.1), none, none]) rfl ?_
                          exact fun hx => hB150 y108 hx
                        · refine s_iload G dX6_spot_158 rfl ?_
                          refine s_keep [true, true, true, true, false, true, false, false] (lv2 := [some (.ref (w.1 36)), some (.int a1), some (.int r33), some (.int y126), none, some (.int z45.2.2.1), none, none]) rfl ?_
                          exact fun hx => hB150 z45.2.1 hx
                    · refine s_if_eq (tgt := 145) G dX6_spot_126 (by decide) ?_ ?_
                      · refine s_iload_n G dX6_spot_145 rfl ?_
                        refine s_keep [true, true, true, false, true, true, false, true] (lv2 := [some (.ref (w.1 36)), some (.int a1), some (.int r33), none, some (.int z45.2.1), some (.int z45.2.2.1), none, some (.int y108)]) rfl ?_
                        exact fun hx => hB126 z45.1 hx
                      · refine s_iload_n G dX6_spot_129 rfl ?_
                        refine s_if_lt (tgt := 140) G dX6_spot_130 (by decide) ?_ ?_
                        · refine s_iload G dX6_spot_140 rfl ?_
                          refine s_goto (tgt := 146) G dX6_spot_142 (by decide) ?_
                          refine s_keep [true, true, true, false, true, true, false, true] (lv2 := [some (.ref (w.1 36)), some (.int a1), some (.int r33), none, some (.int z45.2.1), some (.int z45.2.2.1), none, some (.int y108)]) rfl ?_
                          exact fun hx => hB126 z45.2.2.1 hx
                        · refine s_iload G dX6_spot_133 rfl ?_
                          refine s_iload G dX6_spot_135 rfl ?_
                          refine s_icmp_ge (tgt := 145) G dX6_spot_137 (by decide) ?_ ?_
                          · refine s_iload_n G dX6_spot_145 rfl ?_
                            refine s_keep [true, true, true, false, true, true, false, true] (lv2 := [some (.ref (w.1 36)), some (.int a1), some (.int r33), none, some (.int z45.2.1), some (.int z45.2.2.1), none, some (.int y108)]) rfl ?_
                            exact fun hx => hB126 z45.1 hx
                          · refine s_iload G dX6_spot_140 rfl ?_
                            refine s_goto (tgt := 146) G dX6_spot_142 (by decide) ?_
                            refine s_keep [true, true, true, false, true, true, false, true] (lv2 := [some (.ref (w.1 36)), some (.int a1), some (.int r33), none, some (.int z45.2.1), some (.int z45.2.2.1), none, some (.int y108)]) rfl ?_
                            exact fun hx => hB126 z45.2.2.1 hx
                  · refine s_icmp_ge (tgt := 118) G dX6_spot_108 (by decide) ?_ ?_
                    · refine s_iload G dX6_spot_118 rfl ?_
                      refine s_iload_n G dX6_spot_120 rfl ?_
                      refine s_isub G dX6_spot_121 ?_
                      exact fun hx => hB108 (z45.2.2.1 - r33) hx
                    · refine s_iload_n G dX6_spot_111 rfl ?_
                      refine s_iload G dX6_spot_112 rfl ?_
                      refine s_isub G dX6_spot_114 ?_
                      refine s_goto (tgt := 122) G dX6_spot_115 (by decide) ?_
                      exact fun hx => hB108 (r33 - z45.2.2.1) hx
                · refine s_if_ne (tgt := 91) G dX6_spot_84 (by decide) ?_ ?_
                  · refine s_iconst (v := 1) G dX6_spot_87 (by decide) ?_
                    refine s_goto (tgt := 92) G dX6_spot_88 (by decide) ?_
                    exact fun hx => hB84 1 hx
                  · refine s_iconst (v := 0) G dX6_spot_91 (by decide) ?_
                    exact fun hx => hB84 0 hx

set_option maxRecDepth 100000 in
set_option maxHeartbeats 4000000 in
theorem c_X6_facesAll (w : Wx) (O : Mem) (l : Launch) (a1 : Int32) (M : Mem)  (z : Mem) (hz : f_X6_facesAll a1 M = some z) : Ct w 36 48 O l 2 muX6_facesAll [.ref (w.1 36), .int a1] M (none, z) := by
  refine ct_of (X := f_X6_facesAll a1 M) (K := fun v => some (none, v)) [some (.ref (w.1 36)), some (.int a1), none] rfl rfl (Nat.le_of_ble_eq_true rfl) (by rw [hz]; rfl) ?_
  intro p e s m args below meth c G
  unfold f_X6_facesAll
  refine s_iconst (v := 0) G dX6_facesAll_0 (by decide) ?_
  refine s_istore_n (lv2 := [some (.ref (w.1 36)), some (.int a1), some (.int 0)]) G dX6_facesAll_1 (by decide) rfl rfl ?_
  refine s_loopG (lvf := fun z2 : Int32 × Mem => [some (.ref (w.1 36)), some (.int a1), some (.int z2.1)]) (Mf := fun z2 : Int32 × Mem => z2.2) (ex := (fun x2_54 : Mem => (54, [none, none, none], x2_54))) (el_one 54 (fun x2_54 : Mem => [none, none, none]) (fun x2_54 : Mem => x2_54) (fun x2_54 => ?_)) (fun z2 K2 hB2 hE2 => ?_)
  · exact s_vret G rfl rfl dX6_facesAll_54
  · unfold f_X6_facesAll_L2
    refine s_iload_n G dX6_facesAll_2 rfl ?_
    refine s_aload_n G dX6_facesAll_3 rfl ?_
    refine s_get (k := 36) (j := 0) G (.ref (w.1 37)) ⟨by decide, by decide⟩ (ce36 w) rfl clX6 (by decide) qw755 rfl dX6_facesAll_4 ?_
    refine s_iconst (v := 0) G dX6_facesAll_7 (by decide) ?_
    refine s_ialdC (k := 37) (n := 63) (j := 0) G ⟨by decide, by decide⟩ (ce37 w) (by decide) (by decide) dX6_facesAll_8 ?_
    refine s_icmp_ge (tgt := 54) G dX6_facesAll_9 (by decide) ?_ ?_
    · refine s_keep [false, false, false] (lv2 := [none, none, none]) rfl ?_
      exact fun hx => hE2 z2.2 hx
    · refine s_aload_n G dX6_facesAll_12 rfl ?_
      refine s_get (k := 36) (j := 0) G (.ref (w.1 37)) ⟨by decide, by decide⟩ (ce36 w) rfl clX6 (by decide) qw755 rfl dX6_facesAll_13 ?_
      refine s_iload_n G dX6_facesAll_16 rfl ?_
      refine s_iconst (v := 2) G dX6_facesAll_17 (by decide) ?_
      refine s_callSi (as := [.int z2.1, .int 2]) (st := [.ref (w.1 37)]) G aw_self mdX6_spotOf (fun _ h => c_X6_spotOf w O l z2.1 2 z2.2 _ h) qw834 rfl rfl (Nat.le_of_ble_eq_true rfl) (by decide) dX6_facesAll_18 (fun r18 => ?_)
      refine s_iload_n G dX6_facesAll_21 rfl ?_
      refine s_iload_n G dX6_facesAll_22 rfl ?_
      refine s_ishr G dX6_facesAll_23 ?_
      refine s_iconst (v := 1) G dX6_facesAll_24 (by decide) ?_
      refine s_iand G dX6_facesAll_25 ?_
      refine s_iconst (v := 1) G dX6_facesAll_26 (by decide) ?_
      refine s_join 47 (fun y27 : Int32 => [some (.ref (w.1 36)), some (.int a1), some (.int z2.1)]) (fun y27 => [.int y27, .int r18, .ref (w.1 37)]) (fun y27 => z2.2) (fun y27 => ?_) (fun K27 hB27 => ?_)
      · refine s_iast (k := 37) (n := 63) G ⟨by decide, by decide⟩ (ce37 w) dX6_facesAll_47 (fun m47 => ?_)
        refine s_iinc (v := (z2.1 + 1)) (lv2 := [some (.ref (w.1 36)), some (.int a1), some (.int (z2.1 + 1))]) G dX6_facesAll_48 rfl rfl (by decide) rfl rfl ?_
        refine s_goto (tgt := 2) G dX6_facesAll_51 (by decide) ?_
        exact fun hx => hB2 ((z2.1 + 1), m47) hx
      · refine s_icmp_ne (tgt := 41) G dX6_facesAll_27 (by decide) ?_ ?_
        · refine s_iconst (v := 1) G dX6_facesAll_30 (by decide) ?_
          refine s_aload_n G dX6_facesAll_31 rfl ?_
          refine s_iload_n G dX6_facesAll_32 rfl ?_
          refine s_iconst (v := 2) G dX6_facesAll_33 (by decide) ?_
          refine s_callVi (as := [.int z2.1, .int 2]) (st := [.int 1, .int r18, .ref (w.1 37)]) (k := 36) G aw_self mdX6_its (fun _ h => c_X6_its w O l z2.1 2 z2.2 _ h) ⟨by decide, by decide⟩ (ce36 w) clX6 rfl qw846 rfl rfl (Nat.le_of_ble_eq_true rfl) (by decide) dX6_facesAll_34 (fun r34 => ?_)
          refine s_isub G dX6_facesAll_37 ?_
          refine s_goto (tgt := 47) G dX6_facesAll_38 (by decide) ?_
          exact fun hx => hB27 (1 - r34) hx
        · refine s_aload_n G dX6_facesAll_41 rfl ?_
          refine s_iload_n G dX6_facesAll_42 rfl ?_
          refine s_iconst (v := 2) G dX6_facesAll_43 (by decide) ?_
          refine s_callVi (as := [.int z2.1, .int 2]) (st := [.int r18, .ref (w.1 37)]) (k := 36) G aw_self mdX6_its (fun _ h => c_X6_its w O l z2.1 2 z2.2 _ h) ⟨by decide, by decide⟩ (ce36 w) clX6 rfl qw846 rfl rfl (Nat.le_of_ble_eq_true rfl) (by decide) dX6_facesAll_44 (fun r44 => ?_)
          exact fun hx => hB27 r44 hx

set_option maxRecDepth 100000 in
set_option maxHeartbeats 4000000 in
theorem c_X6_facing (w : Wx) (O : Mem) (l : Launch)  (M : Mem)  (z : Int32 × Mem) (hz : f_X6_facing  M = some z) : Ct w 36 48 O l 6 muX6_facing [.ref (w.1 36)] M (some (.int z.1), z.2) := by
  refine ct_of (X := f_X6_facing  M) (K := fun v => some (some (.int v.1), v.2)) [some (.ref (w.1 36)), none, none, none, none, none, none] rfl rfl (Nat.le_of_ble_eq_true rfl) (by rw [hz]; rfl) ?_
  intro p e s m args below meth c G
  unfold f_X6_facing
  refine s_aload_n G dX6_facing_0 rfl ?_
  refine s_callVi (as := []) (st := []) (k := 36) G aw_self mdX6_onRail (fun _ h => c_X6_onRail w O l M _ h) ⟨by decide, by decide⟩ (ce36 w) clX6 rfl qw919 rfl rfl (Nat.le_of_ble_eq_true rfl) (by decide) dX6_facing_1 (fun r1 => ?_)
  refine s_istore_n (lv2 := [some (.ref (w.1 36)), some (.int r1), none, none, none, none, none]) G dX6_facing_4 (by decide) rfl rfl ?_
  refine s_iconst (v := 0) G dX6_facing_5 (by decide) ?_
  refine s_istore_n (lv2 := [some (.ref (w.1 36)), some (.int r1), some (.int 0), none, none, none, none]) G dX6_facing_6 (by decide) rfl rfl ?_
  refine s_aload_n G dX6_facing_7 rfl ?_
  refine s_callVi (as := []) (st := []) (k := 36) G aw_self mdX6_pairs (fun _ h => c_X6_pairs w O l M _ h) ⟨by decide, by decide⟩ (ce36 w) clX6 rfl qw984 rfl rfl (Nat.le_of_ble_eq_true rfl) (by decide) dX6_facing_8 (fun r8 => ?_)
  refine s_istore_n (lv2 := [some (.ref (w.1 36)), some (.int r1), some (.int 0), some (.int r8), none, none, none]) G dX6_facing_11 (by decide) rfl rfl ?_
  refine s_iconst (v := 1) G dX6_facing_12 (by decide) ?_
  refine s_istore (lv2 := [some (.ref (w.1 36)), some (.int r1), some (.int 0), some (.int r8), some (.int 1), none, none]) G dX6_facing_13 (by decide) rfl rfl ?_
  refine s_loopG (lvf := fun z15 : Int32 × Int32 × Int32 × Mem => [some (.ref (w.1 36)), some (.int r1), some (.int z15.1), some (.int z15.2.1), some (.int z15.2.2.1), none, none]) (Mf := fun z15 : Int32 × Int32 × Int32 × Mem => z15.2.2.2) (ex := (fun x15_125 : Int32 × Mem => (125, [none, none, some (.int x15_125.1), none, none, none, none], x15_125.2))) (el_one 125 (fun x15_125 : Int32 × Mem => [none, none, some (.int x15_125.1), none, none, none, none]) (fun x15_125 : Int32 × Mem => x15_125.2) (fun x15_125 => ?_)) (fun z15 K15 hB15 hE15 => ?_)
  · refine s_iload_n G dX6_facing_125 rfl ?_
    exact s_iret G rfl rfl dX6_facing_126
  · unfold f_X6_facing_L15
    refine s_iload G dX6_facing_15 rfl ?_
    refine s_iconst (v := 1) G dX6_facing_17 (by decide) ?_
    refine s_aload_n G dX6_facing_18 rfl ?_
    refine s_get (k := 36) (j := 0) G (.ref (w.1 37)) ⟨by decide, by decide⟩ (ce36 w) rfl clX6 (by decide) qw755 rfl dX6_facing_19 ?_
    refine s_iconst (v := 0) G dX6_facing_22 (by decide) ?_
    refine s_ialdC (k := 37) (n := 63) (j := 0) G ⟨by decide, by decide⟩ (ce37 w) (by decide) (by decide) dX6_facing_23 ?_
    refine s_ishl G dX6_facing_24 ?_
    refine s_icmp_ge (tgt := 125) G dX6_facing_25 (by decide) ?_ ?_
    · refine s_keep [false, false, true, false, false, false, false] (lv2 := [none, none, some (.int z15.1), none, none, none, none]) rfl ?_
      exact fun hx => hE15 (z15.1, z15.2.2.2) hx
    · refine s_iload G dX6_facing_28 rfl ?_
      refine s_iload_n G dX6_facing_30 rfl ?_
      refine s_iconst (v := (-1)) G dX6_facing_31 (by decide) ?_
      refine s_ixor G dX6_facing_32 ?_
      refine s_iand G dX6_facing_33 ?_
      refine s_join 119 (fun y34 : Int32 × Int32 × Mem => [some (.ref (w.1 36)), some (.int r1), some (.int y34.1), some (.int y34.2.1), some (.int z15.2.2.1), none, none]) (fun y34 => []) (fun y34 => y34.2.2) (fun y34 => ?_) (fun K34 hB34 => ?_)
      · refine s_iinc (v := (z15.2.2.1 + 1)) (lv2 := [some (.ref (w.1 36)), some (.int r1), some (.int y34.1), some (.int y34.2.1), some (.int (z15.2.2.1 + 1)), none, none]) G dX6_facing_119 rfl rfl (by decide) rfl rfl ?_
        refine s_goto (tgt := 15) G dX6_facing_122 (by decide) ?_
        exact fun hx => hB15 (y34.1, y34.2.1, (z15.2.2.1 + 1), y34.2.2) hx
      · refine s_if_ne (tgt := 119) G dX6_facing_34 (by decide) ?_ ?_
        · refine s_iload G dX6_facing_37 rfl ?_
          refine s_callSi (as := [.int z15.2.2.1]) (st := []) G aw_self mdX6_ones (fun _ h => c_X6_ones w O l z15.2.2.1 z15.2.2.2 _ h) qw923 rfl rfl (Nat.le_of_ble_eq_true rfl) (by decide) dX6_facing_39 (fun r39 => ?_)
          refine s_iconst (v := 2) G dX6_facing_42 (by decide) ?_
          refine s_icmp_gt (tgt := 119) G dX6_facing_43 (by decide) ?_ ?_
          · exact fun hx => hB34 (z15.1, z15.2.1, z15.2.2.2) hx
          · refine s_aload_n G dX6_facing_46 rfl ?_
            refine s_iload G dX6_facing_47 rfl ?_
            refine s_callVv (as := [.int z15.2.2.1]) (st := []) (k := 36) G aw_self mdX6_facesAll (fun _ h => c_X6_facesAll w O l z15.2.2.1 z15.2.2.2 _ h) ⟨by decide, by decide⟩ (ce36 w) clX6 rfl qw1040 rfl rfl (Nat.le_of_ble_eq_true rfl) (by decide) dX6_facing_49 (fun r49 => ?_)
            refine s_aload_n G dX6_facing_52 rfl ?_
            refine s_callVi (as := []) (st := []) (k := 36) G aw_self mdX6_pairs (fun _ h => c_X6_pairs w O l r49 _ h) ⟨by decide, by decide⟩ (ce36 w) clX6 rfl qw984 rfl rfl (Nat.le_of_ble_eq_true rfl) (by decide) dX6_facing_53 (fun r53 => ?_)
            refine s_istore (lv2 := [some (.ref (w.1 36)), some (.int r1), some (.int z15.1), some (.int z15.2.1), some (.int z15.2.2.1), some (.int r53), none]) G dX6_facing_56 (by decide) rfl rfl ?_
            refine s_aload_n G dX6_facing_58 rfl ?_
            refine s_iload G dX6_facing_59 rfl ?_
            refine s_callVv (as := [.int z15.2.2.1]) (st := []) (k := 36) G aw_self mdX6_facesAll (fun _ h => c_X6_facesAll w O l z15.2.2.1 r49 _ h) ⟨by decide, by decide⟩ (ce36 w) clX6 rfl qw1040 rfl rfl (Nat.le_of_ble_eq_true rfl) (by decide) dX6_facing_61 (fun r61 => ?_)
            refine s_iload G dX6_facing_64 rfl ?_
            refine s_iload_n G dX6_facing_66 rfl ?_
            refine s_join 93 (fun y67 : Int32 => [some (.ref (w.1 36)), some (.int r1), some (.int z15.1), some (.int z15.2.1), some (.int z15.2.2.1), some (.int r53), none]) (fun y67 => [.int y67]) (fun y67 => r61) (fun y67 => ?_) (fun K67 hB67 => ?_)
            · refine s_istore (lv2 := [some (.ref (w.1 36)), some (.int r1), some (.int z15.1), some (.int z15.2.1), some (.int z15.2.2.1), some (.int r53), some (.int y67)]) G dX6_facing_93 (by decide) rfl rfl ?_
              refine s_iload G dX6_facing_95 rfl ?_
              refine s_join 106 (fun y97 : Int32 => [some (.ref (w.1 36)), some (.int r1), none, some (.int z15.2.1), some (.int z15.2.2.1), some (.int r53), some (.int y67)]) (fun y97 => [.int y97]) (fun y97 => r61) (fun y97 => ?_) (fun K97 hB97 => ?_)
              · refine s_istore_n (lv2 := [some (.ref (w.1 36)), some (.int r1), some (.int y97), some (.int z15.2.1), some (.int z15.2.2.1), some (.int r53), some (.int y67)]) G dX6_facing_106 (by decide) rfl rfl ?_
                refine s_iload G dX6_facing_107 rfl ?_
                refine s_join 118 (fun y109 : Int32 => [some (.ref (w.1 36)), some (.int r1), some (.int y97), none, some (.int z15.2.2.1), none, none]) (fun y109 => [.int y109]) (fun y109 => r61) (fun y109 => ?_) (fun K109 hB109 => ?_)
                · refine s_istore_n (lv2 := [some (.ref (w.1 36)), some (.int r1), some (.int y97), some (.int y109), some (.int z15.2.2.1), none, none]) G dX6_facing_118 (by decide) rfl rfl ?_
                  exact fun hx => hB34 (y97, y109, r61) hx
                · refine s_if_eq (tgt := 117) G dX6_facing_109 (by decide) ?_ ?_
                  · refine s_iload_n G dX6_facing_117 rfl ?_
                    refine s_keep [true, true, true, false, true, false, false] (lv2 := [some (.ref (w.1 36)), some (.int r1), some (.int y97), none, some (.int z15.2.2.1), none, none]) rfl ?_
                    exact fun hx => hB109 z15.2.1 hx
                  · refine s_iload G dX6_facing_112 rfl ?_
                    refine s_goto (tgt := 118) G dX6_facing_114 (by decide) ?_
                    refine s_keep [true, true, true, false, true, false, false] (lv2 := [some (.ref (w.1 36)), some (.int r1), some (.int y97), none, some (.int z15.2.2.1), none, none]) rfl ?_
                    exact fun hx => hB109 r53 hx
              · refine s_if_eq (tgt := 105) G dX6_facing_97 (by decide) ?_ ?_
                · refine s_iload_n G dX6_facing_105 rfl ?_
                  refine s_keep [true, true, false, true, true, true, true] (lv2 := [some (.ref (w.1 36)), some (.int r1), none, some (.int z15.2.1), some (.int z15.2.2.1), some (.int r53), some (.int y67)]) rfl ?_
                  exact fun hx => hB97 z15.1 hx
                · refine s_iload G dX6_facing_100 rfl ?_
                  refine s_goto (tgt := 106) G dX6_facing_102 (by decide) ?_
                  refine s_keep [true, true, false, true, true, true, true] (lv2 := [some (.ref (w.1 36)), some (.int r1), none, some (.int z15.2.1), some (.int z15.2.2.1), some (.int r53), some (.int y67)]) rfl ?_
                  exact fun hx => hB97 z15.2.2.1 hx
            · refine s_icmp_lt (tgt := 88) G dX6_facing_67 (by decide) ?_ ?_
              · refine s_iconst (v := 1) G dX6_facing_88 (by decide) ?_
                refine s_goto (tgt := 93) G dX6_facing_89 (by decide) ?_
                exact fun hx => hB67 1 hx
              · refine s_iload G dX6_facing_70 rfl ?_
                refine s_iload_n G dX6_facing_72 rfl ?_
                refine s_icmp_ne (tgt := 92) G dX6_facing_73 (by decide) ?_ ?_
                · refine s_iload G dX6_facing_76 rfl ?_
                  refine s_callSi (as := [.int z15.2.2.1]) (st := []) G aw_self mdX6_ones (fun _ h => c_X6_ones w O l z15.2.2.1 r61 _ h) qw923 rfl rfl (Nat.le_of_ble_eq_true rfl) (by decide) dX6_facing_78 (fun r78 => ?_)
                  refine s_iload_n G dX6_facing_81 rfl ?_
                  refine s_callSi (as := [.int z15.1]) (st := [.int r78]) G aw_self mdX6_ones (fun _ h => c_X6_ones w O l z15.1 r61 _ h) qw923 rfl rfl (Nat.le_of_ble_eq_true rfl) (by decide) dX6_facing_82 (fun r82 => ?_)
                  refine s_icmp_ge (tgt := 92) G dX6_facing_85 (by decide) ?_ ?_
                  · refine s_iconst (v := 0) G dX6_facing_92 (by decide) ?_
                    exact fun hx => hB67 0 hx
                  · refine s_iconst (v := 1) G dX6_facing_88 (by decide) ?_
                    refine s_goto (tgt := 93) G dX6_facing_89 (by decide) ?_
                    exact fun hx => hB67 1 hx
                · refine s_iconst (v := 0) G dX6_facing_92 (by decide) ?_
                  exact fun hx => hB67 0 hx
        · exact fun hx => hB34 (z15.1, z15.2.1, z15.2.2.2) hx

set_option maxRecDepth 100000 in
set_option maxHeartbeats 4000000 in
theorem c_X6_clears (w : Wx) (O : Mem) (l : Launch) (a1 : Int32) (M : Mem)  (z : Int32 × Mem) (hz : f_X6_clears a1 M = some z) : Ct w 36 48 O l 9 muX6_clears [.ref (w.1 36), .int a1] M (some (.int z.1), z.2) := by
  refine ct_of (X := f_X6_clears a1 M) (K := fun v => some (some (.int v.1), v.2)) [some (.ref (w.1 36)), some (.int a1), none, none, none] rfl rfl (Nat.le_of_ble_eq_true rfl) (by rw [hz]; rfl) ?_
  intro p e s m args below meth c G
  unfold f_X6_clears
  refine s_iload_n G dX6_clears_0 rfl ?_
  refine s_i2l G dX6_clears_1 ?_
  refine s_lconst (v := 0) G dX6_clears_2 (by decide) ?_
  refine s_lconst (v := 1) G dX6_clears_3 (by decide) ?_
  refine s_callSi (as := [.long a1.toInt64, .long 0, .long 1]) (st := []) G aw_self mdX6_in (fun _ h => c_X6_in w O l a1.toInt64 0 1 M _ h) qw821 rfl rfl (Nat.le_of_ble_eq_true rfl) (by decide) dX6_clears_4 (fun r4 => ?_)
  refine s_if_ne (tgt := 17) G dX6_clears_7 (by decide) ?_ ?_
  · refine s_aload_n G dX6_clears_10 rfl ?_
    refine s_ldc (v := (-1000000001)) G dX6_clears_11 qw824 ?_
    refine s_callVI (as := [.int (-1000000001)]) (st := []) (k := 36) G aw_self mdX6_finds (fun _ h => c_X6_finds w O l (-1000000001) M _ h) ⟨by decide, by decide⟩ (ce36 w) clX6 rfl qw825 rfl rfl (Nat.le_of_ble_eq_true rfl) (by decide) dX6_clears_13 (fun r13 => ?_)
    exact s_iret G rfl rfl dX6_clears_16
  · refine s_aload_n G dX6_clears_17 rfl ?_
    refine s_callVv (as := []) (st := []) (k := 36) G aw_self mdX6_laysAside (fun _ h => c_X6_laysAside w O l M _ h) ⟨by decide, by decide⟩ (ce36 w) clX6 rfl qw1048 rfl rfl (Nat.le_of_ble_eq_true rfl) (by decide) dX6_clears_18 (fun r18 => ?_)
    refine s_iconst (v := 0) G dX6_clears_21 (by decide) ?_
    refine s_istore_n (lv2 := [some (.ref (w.1 36)), some (.int a1), some (.int 0), none, none]) G dX6_clears_22 (by decide) rfl rfl ?_
    refine s_iconst (v := 0) G dX6_clears_23 (by decide) ?_
    refine s_istore_n (lv2 := [some (.ref (w.1 36)), some (.int a1), some (.int 0), some (.int 0), none]) G dX6_clears_24 (by decide) rfl rfl ?_
    refine s_loopG (lvf := fun z25 : Int32 × Int32 × Mem => [some (.ref (w.1 36)), some (.int a1), some (.int z25.1), some (.int z25.2.1), none]) (Mf := fun z25 : Int32 × Int32 × Mem => z25.2.2) (ex := (fun x25_69 : Int32 × Mem => (69, [some (.ref (w.1 36)), none, some (.int x25_69.1), none, none], x25_69.2))) (el_one 69 (fun x25_69 : Int32 × Mem => [some (.ref (w.1 36)), none, some (.int x25_69.1), none, none]) (fun x25_69 : Int32 × Mem => x25_69.2) (fun x25_69 => ?_)) (fun z25 K25 hB25 hE25 => ?_)
    · refine s_aload_n G dX6_clears_69 rfl ?_
      refine s_iload_n G dX6_clears_70 rfl ?_
      refine s_callVI (as := [.int x25_69.1]) (st := []) (k := 36) G aw_self mdX6_takesBack (fun _ h => c_X6_takesBack w O l x25_69.1 x25_69.2 _ h) ⟨by decide, by decide⟩ (ce36 w) clX6 rfl qw1052 rfl rfl (Nat.le_of_ble_eq_true rfl) (by decide) dX6_clears_71 (fun r71 => ?_)
      exact s_iret G rfl rfl dX6_clears_74
    · unfold f_X6_clears_L25
      refine s_iload_n G dX6_clears_25 rfl ?_
      refine s_aload_n G dX6_clears_26 rfl ?_
      refine s_get (k := 36) (j := 0) G (.ref (w.1 37)) ⟨by decide, by decide⟩ (ce36 w) rfl clX6 (by decide) qw755 rfl dX6_clears_27 ?_
      refine s_iconst (v := 0) G dX6_clears_30 (by decide) ?_
      refine s_ialdC (k := 37) (n := 63) (j := 0) G ⟨by decide, by decide⟩ (ce37 w) (by decide) (by decide) dX6_clears_31 ?_
      refine s_icmp_ge (tgt := 69) G dX6_clears_32 (by decide) ?_ ?_
      · refine s_keep [true, false, true, false, false] (lv2 := [some (.ref (w.1 36)), none, some (.int z25.1), none, none]) rfl ?_
        exact fun hx => hE25 (z25.1, z25.2.2) hx
      · refine s_aload_n G dX6_clears_35 rfl ?_
        refine s_iload_n G dX6_clears_36 rfl ?_
        refine s_callVi (as := [.int z25.2.1]) (st := []) (k := 36) G aw_self mdX6_isOn (fun _ h => c_X6_isOn w O l z25.2.1 z25.2.2 _ h) ⟨by decide, by decide⟩ (ce36 w) clX6 rfl qw902 rfl rfl (Nat.le_of_ble_eq_true rfl) (by decide) dX6_clears_37 (fun r37 => ?_)
        refine s_join 63 (fun y40 : Int32 × Mem => [some (.ref (w.1 36)), some (.int a1), some (.int y40.1), some (.int z25.2.1), none]) (fun y40 => []) (fun y40 => y40.2) (fun y40 => ?_) (fun K40 hB40 => ?_)
        · refine s_iinc (v := (z25.2.1 + 1)) (lv2 := [some (.ref (w.1 36)), some (.int a1), some (.int y40.1), some (.int (z25.2.1 + 1)), none]) G dX6_clears_63 rfl rfl (by decide) rfl rfl ?_
          refine s_goto (tgt := 25) G dX6_clears_66 (by decide) ?_
          exact fun hx => hB25 (y40.1, (z25.2.1 + 1), y40.2) hx
        · refine s_if_eq (tgt := 63) G dX6_clears_40 (by decide) ?_ ?_
          · exact fun hx => hB40 (z25.1, z25.2.2) hx
          · refine s_iload_n G dX6_clears_43 rfl ?_
            refine s_aload_n G dX6_clears_44 rfl ?_
            refine s_iload_n G dX6_clears_45 rfl ?_
            refine s_iload_n G dX6_clears_46 rfl ?_
            refine s_callVi (as := [.int z25.2.1, .int a1]) (st := [.int z25.1]) (k := 36) G aw_self mdX6_fallers (fun _ h => c_X6_fallers w O l z25.2.1 a1 z25.2.2 _ h) ⟨by decide, by decide⟩ (ce36 w) clX6 rfl qw976 rfl rfl (Nat.le_of_ble_eq_true rfl) (by decide) dX6_clears_47 (fun r47 => ?_)
            refine s_callSi (as := [.int r47]) (st := [.int z25.1]) G aw_self mdX6_ones (fun _ h => c_X6_ones w O l r47 z25.2.2 _ h) qw923 rfl rfl (Nat.le_of_ble_eq_true rfl) (by decide) dX6_clears_50 (fun r50 => ?_)
            refine s_iadd G dX6_clears_53 ?_
            refine s_name (f := Value.int) (fun v54 => ?_)
            refine s_istore_n (lv2 := [some (.ref (w.1 36)), some (.int a1), some (.int v54), some (.int z25.2.1), none]) G dX6_clears_54 (by decide) rfl rfl ?_
            refine s_aload_n G dX6_clears_55 rfl ?_
            refine s_iload_n G dX6_clears_56 rfl ?_
            refine s_iload_n G dX6_clears_57 rfl ?_
            refine s_callVI (as := [.int z25.2.1, .int a1]) (st := []) (k := 36) G aw_self mdX6_takes (fun _ h => c_X6_takes w O l z25.2.1 a1 z25.2.2 _ h) ⟨by decide, by decide⟩ (ce36 w) clX6 rfl qw952 rfl rfl (Nat.le_of_ble_eq_true rfl) (by decide) dX6_clears_58 (fun r58 => ?_)
            refine s_istore (lv2 := [some (.ref (w.1 36)), some (.int a1), some (.int v54), some (.int z25.2.1), some (.int r58.1)]) G dX6_clears_61 (by decide) rfl rfl ?_
            refine s_keep [true, true, true, true, false] (lv2 := [some (.ref (w.1 36)), some (.int a1), some (.int v54), some (.int z25.2.1), none]) rfl ?_
            exact fun hx => hB40 (v54, r58.2) hx

set_option maxRecDepth 100000 in
set_option maxHeartbeats 4000000 in
theorem c_X6_isUntangled (w : Wx) (O : Mem) (l : Launch) (a1 : Int32) (M : Mem)  (z : Int32) (hz : f_X6_isUntangled a1 M = some z) : Ct w 36 48 O l 0 muX6_isUntangled [.ref (w.1 36), .int a1] M (some (.int z), M) := by
  refine ct_of (X := f_X6_isUntangled a1 M) (K := fun v => some (some (.int v), M)) [some (.ref (w.1 36)), some (.int a1), none, none] rfl rfl (Nat.le_of_ble_eq_true rfl) (by rw [hz]; rfl) ?_
  intro p e s m args below meth c G
  unfold f_X6_isUntangled
  refine s_iconst (v := 1) G dX6_isUntangled_0 (by decide) ?_
  refine s_istore_n (lv2 := [some (.ref (w.1 36)), some (.int a1), some (.int 1), none]) G dX6_isUntangled_1 (by decide) rfl rfl ?_
  refine s_iconst (v := 0) G dX6_isUntangled_2 (by decide) ?_
  refine s_istore_n (lv2 := [some (.ref (w.1 36)), some (.int a1), some (.int 1), some (.int 0)]) G dX6_isUntangled_3 (by decide) rfl rfl ?_
  refine s_loopG (lvf := fun z4 : Int32 × Int32 => [some (.ref (w.1 36)), some (.int a1), some (.int z4.1), some (.int z4.2)]) (Mf := fun z4 : Int32 × Int32 => M) (ex := (fun x4_49 : Int32 => (49, [none, none, some (.int x4_49), none], M))) (el_one 49 (fun x4_49 : Int32 => [none, none, some (.int x4_49), none]) (fun x4_49 : Int32 => M) (fun x4_49 => ?_)) (fun z4 K4 hB4 hE4 => ?_)
  · refine s_iload_n G dX6_isUntangled_49 rfl ?_
    refine s_test (fun h50 => ?_)
    exact s_zret G rfl (zb_nar h50) rfl dX6_isUntangled_50
  · unfold f_X6_isUntangled_L4
    refine s_iload_n G dX6_isUntangled_4 rfl ?_
    refine s_aload_n G dX6_isUntangled_5 rfl ?_
    refine s_get (k := 36) (j := 0) G (.ref (w.1 37)) ⟨by decide, by decide⟩ (ce36 w) rfl clX6 (by decide) qw755 rfl dX6_isUntangled_6 ?_
    refine s_iconst (v := 0) G dX6_isUntangled_9 (by decide) ?_
    refine s_ialdC (k := 37) (n := 63) (j := 0) G ⟨by decide, by decide⟩ (ce37 w) (by decide) (by decide) dX6_isUntangled_10 ?_
    refine s_icmp_ge (tgt := 49) G dX6_isUntangled_11 (by decide) ?_ ?_
    · refine s_keep [false, false, true, false] (lv2 := [none, none, some (.int z4.1), none]) rfl ?_
      exact fun hx => hE4 z4.1 hx
    · refine s_iload_n G dX6_isUntangled_14 rfl ?_
      refine s_join 42 (fun y15 : Int32 => [some (.ref (w.1 36)), some (.int a1), none, some (.int z4.2)]) (fun y15 => [.int y15]) (fun y15 => M) (fun y15 => ?_) (fun K15 hB15 => ?_)
      · refine s_istore_n (lv2 := [some (.ref (w.1 36)), some (.int a1), some (.int y15), some (.int z4.2)]) G dX6_isUntangled_42 (by decide) rfl rfl ?_
        refine s_iinc (v := (z4.2 + 1)) (lv2 := [some (.ref (w.1 36)), some (.int a1), some (.int y15), some (.int (z4.2 + 1))]) G dX6_isUntangled_43 rfl rfl (by decide) rfl rfl ?_
        refine s_goto (tgt := 4) G dX6_isUntangled_46 (by decide) ?_
        exact fun hx => hB4 (y15, (z4.2 + 1)) hx
      · refine s_if_eq (tgt := 41) G dX6_isUntangled_15 (by decide) ?_ ?_
        · refine s_iconst (v := 0) G dX6_isUntangled_41 (by decide) ?_
          refine s_keep [true, true, false, true] (lv2 := [some (.ref (w.1 36)), some (.int a1), none, some (.int z4.2)]) rfl ?_
          exact fun hx => hB15 0 hx
        · refine s_iload_n G dX6_isUntangled_18 rfl ?_
          refine s_iload_n G dX6_isUntangled_19 rfl ?_
          refine s_ishr G dX6_isUntangled_20 ?_
          refine s_iconst (v := 1) G dX6_isUntangled_21 (by decide) ?_
          refine s_iand G dX6_isUntangled_22 ?_
          refine s_if_eq (tgt := 37) G dX6_isUntangled_23 (by decide) ?_ ?_
          · refine s_iconst (v := 1) G dX6_isUntangled_37 (by decide) ?_
            refine s_goto (tgt := 42) G dX6_isUntangled_38 (by decide) ?_
            refine s_keep [true, true, false, true] (lv2 := [some (.ref (w.1 36)), some (.int a1), none, some (.int z4.2)]) rfl ?_
            exact fun hx => hB15 1 hx
          · refine s_aload_n G dX6_isUntangled_26 rfl ?_
            refine s_get (k := 36) (j := 8) G (.ref (w.1 42)) ⟨by decide, by decide⟩ (ce36 w) rfl clX6 (by decide) qw763 rfl dX6_isUntangled_27 ?_
            refine s_iload_n G dX6_isUntangled_30 rfl ?_
            refine s_iald (k := 42) (n := 12) G ⟨by decide, by decide⟩ (ce42 w) dX6_isUntangled_31 ?_
            refine s_iload_n G dX6_isUntangled_32 rfl ?_
            refine s_iand G dX6_isUntangled_33 ?_
            refine s_if_ne (tgt := 41) G dX6_isUntangled_34 (by decide) ?_ ?_
            · refine s_iconst (v := 1) G dX6_isUntangled_37 (by decide) ?_
              refine s_goto (tgt := 42) G dX6_isUntangled_38 (by decide) ?_
              refine s_keep [true, true, false, true] (lv2 := [some (.ref (w.1 36)), some (.int a1), none, some (.int z4.2)]) rfl ?_
              exact fun hx => hB15 1 hx
            · refine s_iconst (v := 0) G dX6_isUntangled_41 (by decide) ?_
              refine s_keep [true, true, false, true] (lv2 := [some (.ref (w.1 36)), some (.int a1), none, some (.int z4.2)]) rfl ?_
              exact fun hx => hB15 0 hx

set_option maxRecDepth 100000 in
set_option maxHeartbeats 4000000 in
theorem c_X6_fewestAway (w : Wx) (O : Mem) (l : Launch)  (M : Mem)  (z : Int32 × Mem) (hz : f_X6_fewestAway  M = some z) : Ct w 36 48 O l 5 muX6_fewestAway [.ref (w.1 36)] M (some (.int z.1), z.2) := by
  refine ct_of (X := f_X6_fewestAway  M) (K := fun v => some (some (.int v.1), v.2)) [some (.ref (w.1 36)), none, none, none] rfl rfl (Nat.le_of_ble_eq_true rfl) (by rw [hz]; rfl) ?_
  intro p e s m args below meth c G
  unfold f_X6_fewestAway
  refine s_aload_n G dX6_fewestAway_0 rfl ?_
  refine s_callVi (as := []) (st := []) (k := 36) G aw_self mdX6_onRail (fun _ h => c_X6_onRail w O l M _ h) ⟨by decide, by decide⟩ (ce36 w) clX6 rfl qw919 rfl rfl (Nat.le_of_ble_eq_true rfl) (by decide) dX6_fewestAway_1 (fun r1 => ?_)
  refine s_istore_n (lv2 := [some (.ref (w.1 36)), some (.int r1), none, none]) G dX6_fewestAway_4 (by decide) rfl rfl ?_
  refine s_iconst (v := 0) G dX6_fewestAway_5 (by decide) ?_
  refine s_istore_n (lv2 := [some (.ref (w.1 36)), some (.int r1), some (.int 0), none]) G dX6_fewestAway_6 (by decide) rfl rfl ?_
  refine s_loopG (lvf := fun z7 : Int32 × Mem => [some (.ref (w.1 36)), some (.int r1), some (.int z7.1), none]) (Mf := fun z7 : Int32 × Mem => z7.2) (ex := (fun x7_34 : Mem => (34, [some (.ref (w.1 36)), some (.int r1), none, none], x7_34))) (el_one 34 (fun x7_34 : Mem => [some (.ref (w.1 36)), some (.int r1), none, none]) (fun x7_34 : Mem => x7_34) (fun x7_34 => ?_)) (fun z7 K7 hB7 hE7 => ?_)
  · refine s_iload_n G dX6_fewestAway_34 rfl ?_
    refine s_istore_n (lv2 := [some (.ref (w.1 36)), some (.int r1), some (.int r1), none]) G dX6_fewestAway_35 (by decide) rfl rfl ?_
    refine s_iconst (v := 0) G dX6_fewestAway_36 (by decide) ?_
    refine s_istore_n (lv2 := [some (.ref (w.1 36)), some (.int r1), some (.int r1), some (.int 0)]) G dX6_fewestAway_37 (by decide) rfl rfl ?_
    refine s_loopG (lvf := fun z38 : Int32 × Int32 => [some (.ref (w.1 36)), some (.int r1), some (.int z38.1), some (.int z38.2)]) (Mf := fun z38 : Int32 × Int32 => x7_34) (ex := (fun x38_86 : Int32 => (86, [none, none, some (.int x38_86), none], x7_34))) (el_one 86 (fun x38_86 : Int32 => [none, none, some (.int x38_86), none]) (fun x38_86 : Int32 => x7_34) (fun x38_86 => ?_)) (fun z38 K38 hB38 hE38 => ?_)
    · refine s_iload_n G dX6_fewestAway_86 rfl ?_
      exact s_iret G rfl rfl dX6_fewestAway_87
    · unfold f_X6_fewestAway_L38
      refine s_iload_n G dX6_fewestAway_38 rfl ?_
      refine s_iload_n G dX6_fewestAway_39 rfl ?_
      refine s_icmp_gt (tgt := 86) G dX6_fewestAway_40 (by decide) ?_ ?_
      · refine s_keep [false, false, true, false] (lv2 := [none, none, some (.int z38.1), none]) rfl ?_
        exact fun hx => hE38 z38.1 hx
      · refine s_iload_n G dX6_fewestAway_43 rfl ?_
        refine s_iload_n G dX6_fewestAway_44 rfl ?_
        refine s_iconst (v := (-1)) G dX6_fewestAway_45 (by decide) ?_
        refine s_ixor G dX6_fewestAway_46 ?_
        refine s_iand G dX6_fewestAway_47 ?_
        refine s_join 79 (fun y48 : Int32 => [some (.ref (w.1 36)), some (.int r1), none, some (.int z38.2)]) (fun y48 => [.int y48]) (fun y48 => x7_34) (fun y48 => ?_) (fun K48 hB48 => ?_)
        · refine s_istore_n (lv2 := [some (.ref (w.1 36)), some (.int r1), some (.int y48), some (.int z38.2)]) G dX6_fewestAway_79 (by decide) rfl rfl ?_
          refine s_iinc (v := (z38.2 + 1)) (lv2 := [some (.ref (w.1 36)), some (.int r1), some (.int y48), some (.int (z38.2 + 1))]) G dX6_fewestAway_80 rfl rfl (by decide) rfl rfl ?_
          refine s_goto (tgt := 38) G dX6_fewestAway_83 (by decide) ?_
          exact fun hx => hB38 (y48, (z38.2 + 1)) hx
        · refine s_if_ne (tgt := 78) G dX6_fewestAway_48 (by decide) ?_ ?_
          · refine s_iload_n G dX6_fewestAway_51 rfl ?_
            refine s_callSi (as := [.int z38.2]) (st := []) G aw_self mdX6_ones (fun _ h => c_X6_ones w O l z38.2 x7_34 _ h) qw923 rfl rfl (Nat.le_of_ble_eq_true rfl) (by decide) dX6_fewestAway_52 (fun r52 => ?_)
            refine s_iload_n G dX6_fewestAway_55 rfl ?_
            refine s_callSi (as := [.int z38.1]) (st := [.int r52]) G aw_self mdX6_ones (fun _ h => c_X6_ones w O l z38.1 x7_34 _ h) qw923 rfl rfl (Nat.le_of_ble_eq_true rfl) (by decide) dX6_fewestAway_56 (fun r56 => ?_)
            refine s_icmp_ge (tgt := 78) G dX6_fewestAway_59 (by decide) ?_ ?_
            · refine s_iload_n G dX6_fewestAway_78 rfl ?_
              refine s_keep [true, true, false, true] (lv2 := [some (.ref (w.1 36)), some (.int r1), none, some (.int z38.2)]) rfl ?_
              exact fun hx => hB48 z38.1 hx
            · refine s_aload_n G dX6_fewestAway_62 rfl ?_
              refine s_iload_n G dX6_fewestAway_63 rfl ?_
              refine s_iload_n G dX6_fewestAway_64 rfl ?_
              refine s_iconst (v := (-1)) G dX6_fewestAway_65 (by decide) ?_
              refine s_ixor G dX6_fewestAway_66 ?_
              refine s_iand G dX6_fewestAway_67 ?_
              refine s_callVi (as := [.int (r1 &&& (z38.2 ^^^ (-1)))]) (st := []) (k := 36) G aw_self mdX6_isUntangled (fun _ h => c_X6_isUntangled w O l (r1 &&& (z38.2 ^^^ (-1))) x7_34 _ h) ⟨by decide, by decide⟩ (ce36 w) clX6 rfl qw1064 rfl rfl (Nat.le_of_ble_eq_true rfl) (by decide) dX6_fewestAway_68 (fun r68 => ?_)
              refine s_if_eq (tgt := 78) G dX6_fewestAway_71 (by decide) ?_ ?_
              · refine s_iload_n G dX6_fewestAway_78 rfl ?_
                refine s_keep [true, true, false, true] (lv2 := [some (.ref (w.1 36)), some (.int r1), none, some (.int z38.2)]) rfl ?_
                exact fun hx => hB48 z38.1 hx
              · refine s_iload_n G dX6_fewestAway_74 rfl ?_
                refine s_goto (tgt := 79) G dX6_fewestAway_75 (by decide) ?_
                refine s_keep [true, true, false, true] (lv2 := [some (.ref (w.1 36)), some (.int r1), none, some (.int z38.2)]) rfl ?_
                exact fun hx => hB48 z38.2 hx
          · refine s_iload_n G dX6_fewestAway_78 rfl ?_
            refine s_keep [true, true, false, true] (lv2 := [some (.ref (w.1 36)), some (.int r1), none, some (.int z38.2)]) rfl ?_
            exact fun hx => hB48 z38.1 hx
  · unfold f_X6_fewestAway_L7
    refine s_iload_n G dX6_fewestAway_7 rfl ?_
    refine s_aload_n G dX6_fewestAway_8 rfl ?_
    refine s_get (k := 36) (j := 0) G (.ref (w.1 37)) ⟨by decide, by decide⟩ (ce36 w) rfl clX6 (by decide) qw755 rfl dX6_fewestAway_9 ?_
    refine s_iconst (v := 0) G dX6_fewestAway_12 (by decide) ?_
    refine s_ialdC (k := 37) (n := 63) (j := 0) G ⟨by decide, by decide⟩ (ce37 w) (by decide) (by decide) dX6_fewestAway_13 ?_
    refine s_icmp_ge (tgt := 34) G dX6_fewestAway_14 (by decide) ?_ ?_
    · refine s_keep [true, true, false, false] (lv2 := [some (.ref (w.1 36)), some (.int r1), none, none]) rfl ?_
      exact fun hx => hE7 z7.2 hx
    · refine s_aload_n G dX6_fewestAway_17 rfl ?_
      refine s_get (k := 36) (j := 8) G (.ref (w.1 42)) ⟨by decide, by decide⟩ (ce36 w) rfl clX6 (by decide) qw763 rfl dX6_fewestAway_18 ?_
      refine s_iload_n G dX6_fewestAway_21 rfl ?_
      refine s_aload_n G dX6_fewestAway_22 rfl ?_
      refine s_iload_n G dX6_fewestAway_23 rfl ?_
      refine s_callVi (as := [.int z7.1]) (st := [.int z7.1, .ref (w.1 42)]) (k := 36) G aw_self mdX6_tangledWith (fun _ h => c_X6_tangledWith w O l z7.1 z7.2 _ h) ⟨by decide, by decide⟩ (ce36 w) clX6 rfl qw964 rfl rfl (Nat.le_of_ble_eq_true rfl) (by decide) dX6_fewestAway_24 (fun r24 => ?_)
      refine s_iast (k := 42) (n := 12) G ⟨by decide, by decide⟩ (ce42 w) dX6_fewestAway_27 (fun m27 => ?_)
      refine s_iinc (v := (z7.1 + 1)) (lv2 := [some (.ref (w.1 36)), some (.int r1), some (.int (z7.1 + 1)), none]) G dX6_fewestAway_28 rfl rfl (by decide) rfl rfl ?_
      refine s_goto (tgt := 7) G dX6_fewestAway_31 (by decide) ?_
      exact fun hx => hB7 ((z7.1 + 1), m27) hx

set_option maxRecDepth 100000 in
set_option maxHeartbeats 4000000 in
theorem c_X6_untangle (w : Wx) (O : Mem) (l : Launch)  (M : Mem)  (z : Int32 × Mem) (hz : f_X6_untangle  M = some z) : Ct w 36 48 O l 6 muX6_untangle [.ref (w.1 36)] M (some (.int z.1), z.2) := by
  refine ct_of (X := f_X6_untangle  M) (K := fun v => some (some (.int v.1), v.2)) [some (.ref (w.1 36))] rfl rfl (Nat.le_of_ble_eq_true rfl) (by rw [hz]; rfl) ?_
  intro p e s m args below meth c G
  unfold f_X6_untangle
  refine s_aload_n G dX6_untangle_0 rfl ?_
  refine s_callVI (as := []) (st := []) (k := 36) G aw_self mdX6_fewestAway (fun _ h => c_X6_fewestAway w O l M _ h) ⟨by decide, by decide⟩ (ce36 w) clX6 rfl qw1060 rfl rfl (Nat.le_of_ble_eq_true rfl) (by decide) dX6_untangle_1 (fun r1 => ?_)
  exact s_iret G rfl rfl dX6_untangle_4

set_option maxRecDepth 100000 in
set_option maxHeartbeats 4000000 in
theorem c_X6_saves (w : Wx) (O : Mem) (l : Launch)  (M : Mem)  (z : Int32 × Mem) (hz : f_X6_saves  M = some z) : Ct w 36 48 O l 6 muX6_saves [.ref (w.1 36)] M (some (.int z.1), z.2) := by
  refine ct_of (X := f_X6_saves  M) (K := fun v => some (some (.int v.1), v.2)) [some (.ref (w.1 36)), none, none] rfl rfl (Nat.le_of_ble_eq_true rfl) (by rw [hz]; rfl) ?_
  intro p e s m args below meth c G
  unfold f_X6_saves
  refine s_iconst (v := 0) G dX6_saves_0 (by decide) ?_
  refine s_istore_n (lv2 := [some (.ref (w.1 36)), some (.int 0), none]) G dX6_saves_1 (by decide) rfl rfl ?_
  refine s_iconst (v := 0) G dX6_saves_2 (by decide) ?_
  refine s_istore_n (lv2 := [some (.ref (w.1 36)), some (.int 0), some (.int 0)]) G dX6_saves_3 (by decide) rfl rfl ?_
  refine s_loopG (lvf := fun z4 : Int32 × Int32 => [some (.ref (w.1 36)), some (.int z4.1), some (.int z4.2)]) (Mf := fun z4 : Int32 × Int32 => M) (ex := (fun x4_36 : Int32 => (36, [some (.ref (w.1 36)), some (.int x4_36), none], M))) (el_one 36 (fun x4_36 : Int32 => [some (.ref (w.1 36)), some (.int x4_36), none]) (fun x4_36 : Int32 => M) (fun x4_36 => ?_)) (fun z4 K4 hB4 hE4 => ?_)
  · refine s_aload_n G dX6_saves_36 rfl ?_
    refine s_get (k := 36) (j := 0) G (.ref (w.1 37)) ⟨by decide, by decide⟩ (ce36 w) rfl clX6 (by decide) qw755 rfl dX6_saves_37 ?_
    refine s_iconst (v := 2) G dX6_saves_40 (by decide) ?_
    refine s_ialdC (k := 37) (n := 63) (j := 2) G ⟨by decide, by decide⟩ (ce37 w) (by decide) (by decide) dX6_saves_41 ?_
    refine s_iload_n G dX6_saves_42 rfl ?_
    refine s_imul G dX6_saves_43 ?_
    refine s_iconst (v := 2) G dX6_saves_44 (by decide) ?_
    refine s_aload_n G dX6_saves_45 rfl ?_
    refine s_callVI (as := []) (st := [.int 2, .int ((gI M 37 2) * x4_36)]) (k := 36) G aw_self mdX6_fewestAway (fun _ h => c_X6_fewestAway w O l M _ h) ⟨by decide, by decide⟩ (ce36 w) clX6 rfl qw1060 rfl rfl (Nat.le_of_ble_eq_true rfl) (by decide) dX6_saves_46 (fun r46 => ?_)
    refine s_callSi (as := [.int r46.1]) (st := [.int 2, .int ((gI M 37 2) * x4_36)]) G aw_self mdX6_ones (fun _ h => c_X6_ones w O l r46.1 r46.2 _ h) qw923 rfl rfl (Nat.le_of_ble_eq_true rfl) (by decide) dX6_saves_49 (fun r49 => ?_)
    refine s_imul G dX6_saves_52 ?_
    refine s_isub G dX6_saves_53 ?_
    exact s_iret G rfl rfl dX6_saves_54
  · unfold f_X6_saves_L4
    refine s_iload_n G dX6_saves_4 rfl ?_
    refine s_aload_n G dX6_saves_5 rfl ?_
    refine s_get (k := 36) (j := 0) G (.ref (w.1 37)) ⟨by decide, by decide⟩ (ce36 w) rfl clX6 (by decide) qw755 rfl dX6_saves_6 ?_
    refine s_iconst (v := 0) G dX6_saves_9 (by decide) ?_
    refine s_ialdC (k := 37) (n := 63) (j := 0) G ⟨by decide, by decide⟩ (ce37 w) (by decide) (by decide) dX6_saves_10 ?_
    refine s_icmp_ge (tgt := 36) G dX6_saves_11 (by decide) ?_ ?_
    · refine s_keep [true, true, false] (lv2 := [some (.ref (w.1 36)), some (.int z4.1), none]) rfl ?_
      exact fun hx => hE4 z4.1 hx
    · refine s_iload_n G dX6_saves_14 rfl ?_
      refine s_aload_n G dX6_saves_15 rfl ?_
      refine s_iload_n G dX6_saves_16 rfl ?_
      refine s_callVi (as := [.int z4.2]) (st := [.int z4.1]) (k := 36) G aw_self mdX6_tangledWith (fun _ h => c_X6_tangledWith w O l z4.2 M _ h) ⟨by decide, by decide⟩ (ce36 w) clX6 rfl qw964 rfl rfl (Nat.le_of_ble_eq_true rfl) (by decide) dX6_saves_17 (fun r17 => ?_)
      refine s_join 28 (fun y20 : Int32 => [some (.ref (w.1 36)), none, some (.int z4.2)]) (fun y20 => [.int y20, .int z4.1]) (fun y20 => M) (fun y20 => ?_) (fun K20 hB20 => ?_)
      · refine s_iadd G dX6_saves_28 ?_
        refine s_name (f := Value.int) (fun v29 => ?_)
        refine s_istore_n (lv2 := [some (.ref (w.1 36)), some (.int v29), some (.int z4.2)]) G dX6_saves_29 (by decide) rfl rfl ?_
        refine s_iinc (v := (z4.2 + 1)) (lv2 := [some (.ref (w.1 36)), some (.int v29), some (.int (z4.2 + 1))]) G dX6_saves_30 rfl rfl (by decide) rfl rfl ?_
        refine s_goto (tgt := 4) G dX6_saves_33 (by decide) ?_
        exact fun hx => hB4 (v29, (z4.2 + 1)) hx
      · refine s_if_eq (tgt := 27) G dX6_saves_20 (by decide) ?_ ?_
        · refine s_iconst (v := 0) G dX6_saves_27 (by decide) ?_
          refine s_keep [true, false, true] (lv2 := [some (.ref (w.1 36)), none, some (.int z4.2)]) rfl ?_
          exact fun hx => hB20 0 hx
        · refine s_iconst (v := 1) G dX6_saves_23 (by decide) ?_
          refine s_goto (tgt := 28) G dX6_saves_24 (by decide) ?_
          refine s_keep [true, false, true] (lv2 := [some (.ref (w.1 36)), none, some (.int z4.2)]) rfl ?_
          exact fun hx => hB20 1 hx

set_option maxRecDepth 100000 in
set_option maxHeartbeats 4000000 in
theorem c_X6_feels (w : Wx) (O : Mem) (l : Launch) (a1 : Int32) (M : Mem)  (z : Int32 × Mem) (hz : f_X6_feels a1 M = some z) : Ct w 36 48 O l 3 muX6_feels [.ref (w.1 36), .int a1] M (some (.int z.1), z.2) := by
  refine ct_of (X := f_X6_feels a1 M) (K := fun v => some (some (.int v.1), v.2)) [some (.ref (w.1 36)), some (.int a1), none, none, none, none] rfl rfl (Nat.le_of_ble_eq_true rfl) (by rw [hz]; rfl) ?_
  intro p e s m args below meth c G
  unfold f_X6_feels
  refine s_iload_n G dX6_feels_0 rfl ?_
  refine s_i2l G dX6_feels_1 ?_
  refine s_lconst (v := 0) G dX6_feels_2 (by decide) ?_
  refine s_ldc2 (v := 15) G dX6_feels_3 qw863 ?_
  refine s_callSi (as := [.long a1.toInt64, .long 0, .long 15]) (st := []) G aw_self mdX6_in (fun _ h => c_X6_in w O l a1.toInt64 0 15 M _ h) qw821 rfl rfl (Nat.le_of_ble_eq_true rfl) (by decide) dX6_feels_6 (fun r6 => ?_)
  refine s_if_ne (tgt := 19) G dX6_feels_9 (by decide) ?_ ?_
  · refine s_aload_n G dX6_feels_12 rfl ?_
    refine s_ldc (v := (-1000000001)) G dX6_feels_13 qw824 ?_
    refine s_callVI (as := [.int (-1000000001)]) (st := []) (k := 36) G aw_self mdX6_finds (fun _ h => c_X6_finds w O l (-1000000001) M _ h) ⟨by decide, by decide⟩ (ce36 w) clX6 rfl qw825 rfl rfl (Nat.le_of_ble_eq_true rfl) (by decide) dX6_feels_15 (fun r15 => ?_)
    exact s_iret G rfl rfl dX6_feels_18
  · refine s_iconst (v := (-1)) G dX6_feels_19 (by decide) ?_
    refine s_istore_n (lv2 := [some (.ref (w.1 36)), some (.int a1), some (.int (-1)), none, none, none]) G dX6_feels_20 (by decide) rfl rfl ?_
    refine s_iconst (v := 0) G dX6_feels_21 (by decide) ?_
    refine s_istore_n (lv2 := [some (.ref (w.1 36)), some (.int a1), some (.int (-1)), some (.int 0), none, none]) G dX6_feels_22 (by decide) rfl rfl ?_
    refine s_iconst (v := 0) G dX6_feels_23 (by decide) ?_
    refine s_istore (lv2 := [some (.ref (w.1 36)), some (.int a1), some (.int (-1)), some (.int 0), some (.int 0), none]) G dX6_feels_24 (by decide) rfl rfl ?_
    refine s_loopG (lvf := fun z26 : Int32 × Int32 × Int32 => [some (.ref (w.1 36)), some (.int a1), some (.int z26.1), some (.int z26.2.1), some (.int z26.2.2), none]) (Mf := fun z26 : Int32 × Int32 × Int32 => M) (ex := (fun x26_111 : Int32 × Int32 => (111, [some (.ref (w.1 36)), none, some (.int x26_111.1), some (.int x26_111.2), none, none], M))) (el_one 111 (fun x26_111 : Int32 × Int32 => [some (.ref (w.1 36)), none, some (.int x26_111.1), some (.int x26_111.2), none, none]) (fun x26_111 : Int32 × Int32 => M) (fun x26_111 => ?_)) (fun z26 K26 hB26 hE26 => ?_)
    · refine s_iload_n G dX6_feels_111 rfl ?_
      refine s_join 125 (fun y112 : Int32 × Mem => [none, none, none, none, none, none]) (fun y112 => [.int y112.1]) (fun y112 => y112.2) (fun y112 => ?_) (fun K112 hB112 => ?_)
      · exact s_iret G rfl rfl dX6_feels_125
      · refine s_if_ge (tgt := 124) G dX6_feels_112 (by decide) ?_ ?_
        · refine s_iload_n G dX6_feels_124 rfl ?_
          refine s_keep [false, false, false, false, false, false] (lv2 := [none, none, none, none, none, none]) rfl ?_
          exact fun hx => hB112 (x26_111.2, M) hx
        · refine s_aload_n G dX6_feels_115 rfl ?_
          refine s_ldc (v := (-1000000004)) G dX6_feels_116 qw897 ?_
          refine s_callVI (as := [.int (-1000000004)]) (st := []) (k := 36) G aw_self mdX6_finds (fun _ h => c_X6_finds w O l (-1000000004) M _ h) ⟨by decide, by decide⟩ (ce36 w) clX6 rfl qw825 rfl rfl (Nat.le_of_ble_eq_true rfl) (by decide) dX6_feels_118 (fun r118 => ?_)
          refine s_goto (tgt := 125) G dX6_feels_121 (by decide) ?_
          refine s_keep [false, false, false, false, false, false] (lv2 := [none, none, none, none, none, none]) rfl ?_
          exact fun hx => hB112 (r118.1, r118.2) hx
    · unfold f_X6_feels_L26
      refine s_iload G dX6_feels_26 rfl ?_
      refine s_aload_n G dX6_feels_28 rfl ?_
      refine s_get (k := 36) (j := 0) G (.ref (w.1 37)) ⟨by decide, by decide⟩ (ce36 w) rfl clX6 (by decide) qw755 rfl dX6_feels_29 ?_
      refine s_iconst (v := 0) G dX6_feels_32 (by decide) ?_
      refine s_ialdC (k := 37) (n := 63) (j := 0) G ⟨by decide, by decide⟩ (ce37 w) (by decide) (by decide) dX6_feels_33 ?_
      refine s_icmp_ge (tgt := 111) G dX6_feels_34 (by decide) ?_ ?_
      · refine s_keep [true, false, true, true, false, false] (lv2 := [some (.ref (w.1 36)), none, some (.int z26.1), some (.int z26.2.1), none, none]) rfl ?_
        exact fun hx => hE26 (z26.1, z26.2.1) hx
      · refine s_aload_n G dX6_feels_37 rfl ?_
        refine s_iload G dX6_feels_38 rfl ?_
        refine s_callVi (as := [.int z26.2.2]) (st := []) (k := 36) G aw_self mdX6_isOn (fun _ h => c_X6_isOn w O l z26.2.2 M _ h) ⟨by decide, by decide⟩ (ce36 w) clX6 rfl qw902 rfl rfl (Nat.le_of_ble_eq_true rfl) (by decide) dX6_feels_40 (fun r40 => ?_)
        refine s_join 105 (fun y43 : Int32 × Int32 => [some (.ref (w.1 36)), some (.int a1), some (.int y43.1), some (.int y43.2), some (.int z26.2.2), none]) (fun y43 => []) (fun y43 => M) (fun y43 => ?_) (fun K43 hB43 => ?_)
        · refine s_iinc (v := (z26.2.2 + 1)) (lv2 := [some (.ref (w.1 36)), some (.int a1), some (.int y43.1), some (.int y43.2), some (.int (z26.2.2 + 1)), none]) G dX6_feels_105 rfl rfl (by decide) rfl rfl ?_
          refine s_goto (tgt := 26) G dX6_feels_108 (by decide) ?_
          exact fun hx => hB26 (y43.1, y43.2, (z26.2.2 + 1)) hx
        · refine s_if_eq (tgt := 105) G dX6_feels_43 (by decide) ?_ ?_
          · exact fun hx => hB43 (z26.1, z26.2.1) hx
          · refine s_iconst (v := 4) G dX6_feels_46 (by decide) ?_
            refine s_aload_n G dX6_feels_47 rfl ?_
            refine s_iload G dX6_feels_48 rfl ?_
            refine s_iconst (v := 4) G dX6_feels_50 (by decide) ?_
            refine s_callVi (as := [.int z26.2.2, .int 4]) (st := [.int 4]) (k := 36) G aw_self mdX6_its (fun _ h => c_X6_its w O l z26.2.2 4 M _ h) ⟨by decide, by decide⟩ (ce36 w) clX6 rfl qw846 rfl rfl (Nat.le_of_ble_eq_true rfl) (by decide) dX6_feels_51 (fun r51 => ?_)
            refine s_iload_n G dX6_feels_54 rfl ?_
            refine s_ixor G dX6_feels_55 ?_
            refine s_callSi (as := [.int (r51 ^^^ a1)]) (st := [.int 4]) G aw_self mdX6_ones (fun _ h => c_X6_ones w O l (r51 ^^^ a1) M _ h) qw923 rfl rfl (Nat.le_of_ble_eq_true rfl) (by decide) dX6_feels_56 (fun r56 => ?_)
            refine s_isub G dX6_feels_59 ?_
            refine s_name (f := Value.int) (fun v60 => ?_)
            refine s_istore (lv2 := [some (.ref (w.1 36)), some (.int a1), some (.int z26.1), some (.int z26.2.1), some (.int z26.2.2), some (.int v60)]) G dX6_feels_60 (by decide) rfl rfl ?_
            refine s_iload G dX6_feels_62 rfl ?_
            refine s_iload_n G dX6_feels_64 rfl ?_
            refine s_join 91 (fun y65 : Int32 => [some (.ref (w.1 36)), some (.int a1), some (.int z26.1), none, some (.int z26.2.2), some (.int v60)]) (fun y65 => [.int y65]) (fun y65 => M) (fun y65 => ?_) (fun K65 hB65 => ?_)
            · refine s_istore_n (lv2 := [some (.ref (w.1 36)), some (.int a1), some (.int z26.1), some (.int y65), some (.int z26.2.2), some (.int v60)]) G dX6_feels_91 (by decide) rfl rfl ?_
              refine s_iload G dX6_feels_92 rfl ?_
              refine s_iload_n G dX6_feels_94 rfl ?_
              refine s_join 104 (fun y95 : Int32 => [some (.ref (w.1 36)), some (.int a1), none, some (.int y65), some (.int z26.2.2), none]) (fun y95 => [.int y95]) (fun y95 => M) (fun y95 => ?_) (fun K95 hB95 => ?_)
              · refine s_istore_n (lv2 := [some (.ref (w.1 36)), some (.int a1), some (.int y95), some (.int y65), some (.int z26.2.2), none]) G dX6_feels_104 (by decide) rfl rfl ?_
                exact fun hx => hB43 (y95, y65) hx
              · refine s_icmp_le (tgt := 103) G dX6_feels_95 (by decide) ?_ ?_
                · refine s_iload_n G dX6_feels_103 rfl ?_
                  refine s_keep [true, true, false, true, true, false] (lv2 := [some (.ref (w.1 36)), some (.int a1), none, some (.int y65), some (.int z26.2.2), none]) rfl ?_
                  exact fun hx => hB95 z26.1 hx
                · refine s_iload G dX6_feels_98 rfl ?_
                  refine s_goto (tgt := 104) G dX6_feels_100 (by decide) ?_
                  refine s_keep [true, true, false, true, true, false] (lv2 := [some (.ref (w.1 36)), some (.int a1), none, some (.int y65), some (.int z26.2.2), none]) rfl ?_
                  exact fun hx => hB95 v60 hx
            · refine s_icmp_le (tgt := 75) G dX6_feels_65 (by decide) ?_ ?_
              · refine s_iload G dX6_feels_75 rfl ?_
                refine s_iload_n G dX6_feels_77 rfl ?_
                refine s_icmp_ne (tgt := 90) G dX6_feels_78 (by decide) ?_ ?_
                · refine s_iload_n G dX6_feels_81 rfl ?_
                  refine s_iconst (v := 1) G dX6_feels_82 (by decide) ?_
                  refine s_iload G dX6_feels_83 rfl ?_
                  refine s_ishl G dX6_feels_85 ?_
                  refine s_ior G dX6_feels_86 ?_
                  refine s_goto (tgt := 91) G dX6_feels_87 (by decide) ?_
                  refine s_keep [true, true, true, false, true, true] (lv2 := [some (.ref (w.1 36)), some (.int a1), some (.int z26.1), none, some (.int z26.2.2), some (.int v60)]) rfl ?_
                  exact fun hx => hB65 (z26.2.1 ||| ((1 : Int32) <<< (z26.2.2 &&& 31))) hx
                · refine s_iload_n G dX6_feels_90 rfl ?_
                  refine s_keep [true, true, true, false, true, true] (lv2 := [some (.ref (w.1 36)), some (.int a1), some (.int z26.1), none, some (.int z26.2.2), some (.int v60)]) rfl ?_
                  exact fun hx => hB65 z26.2.1 hx
              · refine s_iconst (v := 1) G dX6_feels_68 (by decide) ?_
                refine s_iload G dX6_feels_69 rfl ?_
                refine s_ishl G dX6_feels_71 ?_
                refine s_goto (tgt := 91) G dX6_feels_72 (by decide) ?_
                refine s_keep [true, true, true, false, true, true] (lv2 := [some (.ref (w.1 36)), some (.int a1), some (.int z26.1), none, some (.int z26.2.2), some (.int v60)]) rfl ?_
                exact fun hx => hB65 ((1 : Int32) <<< (z26.2.2 &&& 31)) hx

set_option maxRecDepth 100000 in
set_option maxHeartbeats 4000000 in
theorem c_X6_kind (w : Wx) (O : Mem) (l : Launch) (a1 : Int32) (M : Mem)  (z : Int32 × Mem) (hz : f_X6_kind a1 M = some z) : Ct w 36 48 O l 5 muX6_kind [.ref (w.1 36), .int a1] M (some (.int z.1), z.2) := by
  refine ct_of (X := f_X6_kind a1 M) (K := fun v => some (some (.int v.1), v.2)) [some (.ref (w.1 36)), some (.int a1), none, none, none, none, none] rfl rfl (Nat.le_of_ble_eq_true rfl) (by rw [hz]; rfl) ?_
  intro p e s m args below meth c G
  unfold f_X6_kind
  refine s_aload_n G dX6_kind_0 rfl ?_
  refine s_iload_n G dX6_kind_1 rfl ?_
  refine s_callVi (as := [.int a1]) (st := []) (k := 36) G aw_self mdX6_isHanger (fun _ h => c_X6_isHanger w O l a1 M _ h) ⟨by decide, by decide⟩ (ce36 w) clX6 rfl qw841 rfl rfl (Nat.le_of_ble_eq_true rfl) (by decide) dX6_kind_2 (fun r2 => ?_)
  refine s_if_ne (tgt := 15) G dX6_kind_5 (by decide) ?_ ?_
  · refine s_aload_n G dX6_kind_8 rfl ?_
    refine s_ldc (v := (-1000000001)) G dX6_kind_9 qw824 ?_
    refine s_callVI (as := [.int (-1000000001)]) (st := []) (k := 36) G aw_self mdX6_finds (fun _ h => c_X6_finds w O l (-1000000001) M _ h) ⟨by decide, by decide⟩ (ce36 w) clX6 rfl qw825 rfl rfl (Nat.le_of_ble_eq_true rfl) (by decide) dX6_kind_11 (fun r11 => ?_)
    exact s_iret G rfl rfl dX6_kind_14
  · refine s_aload_n G dX6_kind_15 rfl ?_
    refine s_iload_n G dX6_kind_16 rfl ?_
    refine s_callVi (as := [.int a1]) (st := []) (k := 36) G aw_self mdX6_isOn (fun _ h => c_X6_isOn w O l a1 M _ h) ⟨by decide, by decide⟩ (ce36 w) clX6 rfl qw902 rfl rfl (Nat.le_of_ble_eq_true rfl) (by decide) dX6_kind_17 (fun r17 => ?_)
    refine s_if_ne (tgt := 30) G dX6_kind_20 (by decide) ?_ ?_
    · refine s_aload_n G dX6_kind_23 rfl ?_
      refine s_ldc (v := (-1000000005)) G dX6_kind_24 qw910 ?_
      refine s_callVI (as := [.int (-1000000005)]) (st := []) (k := 36) G aw_self mdX6_finds (fun _ h => c_X6_finds w O l (-1000000005) M _ h) ⟨by decide, by decide⟩ (ce36 w) clX6 rfl qw825 rfl rfl (Nat.le_of_ble_eq_true rfl) (by decide) dX6_kind_26 (fun r26 => ?_)
      exact s_iret G rfl rfl dX6_kind_29
    · refine s_aload_n G dX6_kind_30 rfl ?_
      refine s_iload_n G dX6_kind_31 rfl ?_
      refine s_iconst (v := 0) G dX6_kind_32 (by decide) ?_
      refine s_callVi (as := [.int a1, .int 0]) (st := []) (k := 36) G aw_self mdX6_its (fun _ h => c_X6_its w O l a1 0 M _ h) ⟨by decide, by decide⟩ (ce36 w) clX6 rfl qw846 rfl rfl (Nat.le_of_ble_eq_true rfl) (by decide) dX6_kind_33 (fun r33 => ?_)
      refine s_istore_n (lv2 := [some (.ref (w.1 36)), some (.int a1), some (.int r33), none, none, none, none]) G dX6_kind_36 (by decide) rfl rfl ?_
      refine s_iconst (v := 0) G dX6_kind_37 (by decide) ?_
      refine s_istore_n (lv2 := [some (.ref (w.1 36)), some (.int a1), some (.int r33), some (.int 0), none, none, none]) G dX6_kind_38 (by decide) rfl rfl ?_
      refine s_bipush (v := 12) G dX6_kind_39 (by decide) ?_
      refine s_istore (lv2 := [some (.ref (w.1 36)), some (.int a1), some (.int r33), some (.int 0), some (.int 12), none, none]) G dX6_kind_41 (by decide) rfl rfl ?_
      refine s_iconst (v := 0) G dX6_kind_43 (by decide) ?_
      refine s_istore (lv2 := [some (.ref (w.1 36)), some (.int a1), some (.int r33), some (.int 0), some (.int 12), some (.int 0), none]) G dX6_kind_44 (by decide) rfl rfl ?_
      refine s_loopG (lvf := fun z46 : Int32 × Int32 × Int32 × Mem => [some (.ref (w.1 36)), some (.int a1), some (.int r33), some (.int z46.1), some (.int z46.2.1), some (.int z46.2.2.1), none]) (Mf := fun z46 : Int32 × Int32 × Int32 × Mem => z46.2.2.2) (ex := (fun x46_110 : Int32 × Mem => (110, [some (.ref (w.1 36)), some (.int a1), some (.int r33), some (.int x46_110.1), none, none, none], x46_110.2))) (el_one 110 (fun x46_110 : Int32 × Mem => [some (.ref (w.1 36)), some (.int a1), some (.int r33), some (.int x46_110.1), none, none, none]) (fun x46_110 : Int32 × Mem => x46_110.2) (fun x46_110 => ?_)) (fun z46 K46 hB46 hE46 => ?_)
      · refine s_aload_n G dX6_kind_110 rfl ?_
        refine s_get (k := 36) (j := 0) G (.ref (w.1 37)) ⟨by decide, by decide⟩ (ce36 w) rfl clX6 (by decide) qw755 rfl dX6_kind_111 ?_
        refine s_iload_n G dX6_kind_114 rfl ?_
        refine s_iconst (v := 0) G dX6_kind_115 (by decide) ?_
        refine s_callSi (as := [.int a1, .int 0]) (st := [.ref (w.1 37)]) G aw_self mdX6_spotOf (fun _ h => c_X6_spotOf w O l a1 0 x46_110.2 _ h) qw834 rfl rfl (Nat.le_of_ble_eq_true rfl) (by decide) dX6_kind_116 (fun r116 => ?_)
        refine s_iload_n G dX6_kind_119 rfl ?_
        refine s_iast (k := 37) (n := 63) G ⟨by decide, by decide⟩ (ce37 w) dX6_kind_120 (fun m120 => ?_)
        refine s_iload_n G dX6_kind_121 rfl ?_
        exact s_iret G rfl rfl dX6_kind_122
      · unfold f_X6_kind_L46
        refine s_iload G dX6_kind_46 rfl ?_
        refine s_iconst (v := 5) G dX6_kind_48 (by decide) ?_
        refine s_icmp_gt (tgt := 110) G dX6_kind_49 (by decide) ?_ ?_
        · refine s_keep [true, true, true, true, false, false, false] (lv2 := [some (.ref (w.1 36)), some (.int a1), some (.int r33), some (.int z46.1), none, none, none]) rfl ?_
          exact fun hx => hE46 (z46.1, z46.2.2.2) hx
        · refine s_aload_n G dX6_kind_52 rfl ?_
          refine s_get (k := 36) (j := 0) G (.ref (w.1 37)) ⟨by decide, by decide⟩ (ce36 w) rfl clX6 (by decide) qw755 rfl dX6_kind_53 ?_
          refine s_iload_n G dX6_kind_56 rfl ?_
          refine s_iconst (v := 0) G dX6_kind_57 (by decide) ?_
          refine s_callSi (as := [.int a1, .int 0]) (st := [.ref (w.1 37)]) G aw_self mdX6_spotOf (fun _ h => c_X6_spotOf w O l a1 0 z46.2.2.2 _ h) qw834 rfl rfl (Nat.le_of_ble_eq_true rfl) (by decide) dX6_kind_58 (fun r58 => ?_)
          refine s_iload G dX6_kind_61 rfl ?_
          refine s_iast (k := 37) (n := 63) G ⟨by decide, by decide⟩ (ce37 w) dX6_kind_63 (fun m63 => ?_)
          refine s_aload_n G dX6_kind_64 rfl ?_
          refine s_iload_n G dX6_kind_65 rfl ?_
          refine s_callVi (as := [.int a1]) (st := []) (k := 36) G aw_self mdX6_tangledWith (fun _ h => c_X6_tangledWith w O l a1 m63 _ h) ⟨by decide, by decide⟩ (ce36 w) clX6 rfl qw964 rfl rfl (Nat.le_of_ble_eq_true rfl) (by decide) dX6_kind_66 (fun r66 => ?_)
          refine s_callSi (as := [.int r66]) (st := []) G aw_self mdX6_ones (fun _ h => c_X6_ones w O l r66 m63 _ h) qw923 rfl rfl (Nat.le_of_ble_eq_true rfl) (by decide) dX6_kind_69 (fun r69 => ?_)
          refine s_istore (lv2 := [some (.ref (w.1 36)), some (.int a1), some (.int r33), some (.int z46.1), some (.int z46.2.1), some (.int z46.2.2.1), some (.int r69)]) G dX6_kind_72 (by decide) rfl rfl ?_
          refine s_iload G dX6_kind_74 rfl ?_
          refine s_iload G dX6_kind_76 rfl ?_
          refine s_join 87 (fun y78 : Int32 => [some (.ref (w.1 36)), some (.int a1), some (.int r33), none, some (.int z46.2.1), some (.int z46.2.2.1), some (.int r69)]) (fun y78 => [.int y78]) (fun y78 => m63) (fun y78 => ?_) (fun K78 hB78 => ?_)
          · refine s_istore_n (lv2 := [some (.ref (w.1 36)), some (.int a1), some (.int r33), some (.int y78), some (.int z46.2.1), some (.int z46.2.2.1), some (.int r69)]) G dX6_kind_87 (by decide) rfl rfl ?_
            refine s_iload G dX6_kind_88 rfl ?_
            refine s_iload G dX6_kind_90 rfl ?_
            refine s_join 102 (fun y92 : Int32 => [some (.ref (w.1 36)), some (.int a1), some (.int r33), some (.int y78), none, some (.int z46.2.2.1), none]) (fun y92 => [.int y92]) (fun y92 => m63) (fun y92 => ?_) (fun K92 hB92 => ?_)
            · refine s_istore (lv2 := [some (.ref (w.1 36)), some (.int a1), some (.int r33), some (.int y78), some (.int y92), some (.int z46.2.2.1), none]) G dX6_kind_102 (by decide) rfl rfl ?_
              refine s_iinc (v := (z46.2.2.1 + 1)) (lv2 := [some (.ref (w.1 36)), some (.int a1), some (.int r33), some (.int y78), some (.int y92), some (.int (z46.2.2.1 + 1)), none]) G dX6_kind_104 rfl rfl (by decide) rfl rfl ?_
              refine s_goto (tgt := 46) G dX6_kind_107 (by decide) ?_
              exact fun hx => hB46 (y78, y92, (z46.2.2.1 + 1), m63) hx
            · refine s_icmp_ge (tgt := 100) G dX6_kind_92 (by decide) ?_ ?_
              · refine s_iload G dX6_kind_100 rfl ?_
                refine s_keep [true, true, true, true, false, true, false] (lv2 := [some (.ref (w.1 36)), some (.int a1), some (.int r33), some (.int y78), none, some (.int z46.2.2.1), none]) rfl ?_
                exact fun hx => hB92 z46.2.1 hx
              · refine s_iload G dX6_kind_95 rfl ?_
                refine s_goto (tgt := 102) G dX6_kind_97 (by decide) ?_
                refine s_keep [true, true, true, true, false, true, false] (lv2 := [some (.ref (w.1 36)), some (.int a1), some (.int r33), some (.int y78), none, some (.int z46.2.2.1), none]) rfl ?_
                exact fun hx => hB92 r69 hx
          · refine s_icmp_ge (tgt := 86) G dX6_kind_78 (by decide) ?_ ?_
            · refine s_iload_n G dX6_kind_86 rfl ?_
              refine s_keep [true, true, true, false, true, true, true] (lv2 := [some (.ref (w.1 36)), some (.int a1), some (.int r33), none, some (.int z46.2.1), some (.int z46.2.2.1), some (.int r69)]) rfl ?_
              exact fun hx => hB78 z46.1 hx
            · refine s_iload G dX6_kind_81 rfl ?_
              refine s_goto (tgt := 87) G dX6_kind_83 (by decide) ?_
              refine s_keep [true, true, true, false, true, true, true] (lv2 := [some (.ref (w.1 36)), some (.int a1), some (.int r33), none, some (.int z46.2.1), some (.int z46.2.2.1), some (.int r69)]) rfl ?_
              exact fun hx => hB78 z46.2.2.1 hx

set_option maxRecDepth 100000 in
set_option maxHeartbeats 4000000 in
theorem c_X6_feed (w : Wx) (O : Mem) (l : Launch) (a1 : Int32) (a2 : Int32) (M : Mem)  (z : Int32 × Mem) (hz : f_X6_feed a1 a2 M = some z) : Ct w 36 48 O l 1 muX6_feed [.ref (w.1 36), .int a1, .int a2] M (some (.int z.1), z.2) := by
  refine ct_of (X := f_X6_feed a1 a2 M) (K := fun v => some (some (.int v.1), v.2)) [some (.ref (w.1 36)), some (.int a1), some (.int a2), none] rfl rfl (Nat.le_of_ble_eq_true rfl) (by rw [hz]; rfl) ?_
  intro p e s m args below meth c G
  unfold f_X6_feed
  refine s_iload_n G dX6_feed_0 rfl ?_
  refine s_i2l G dX6_feed_1 ?_
  refine s_lconst (v := 1) G dX6_feed_2 (by decide) ?_
  refine s_ldc2 (v := 4) G dX6_feed_3 qw1084 ?_
  refine s_callSi (as := [.long a2.toInt64, .long 1, .long 4]) (st := []) G aw_self mdX6_in (fun _ h => c_X6_in w O l a2.toInt64 1 4 M _ h) qw821 rfl rfl (Nat.le_of_ble_eq_true rfl) (by decide) dX6_feed_6 (fun r6 => ?_)
  refine s_if_ne (tgt := 19) G dX6_feed_9 (by decide) ?_ ?_
  · refine s_aload_n G dX6_feed_12 rfl ?_
    refine s_ldc (v := (-1000000001)) G dX6_feed_13 qw824 ?_
    refine s_callVI (as := [.int (-1000000001)]) (st := []) (k := 36) G aw_self mdX6_finds (fun _ h => c_X6_finds w O l (-1000000001) M _ h) ⟨by decide, by decide⟩ (ce36 w) clX6 rfl qw825 rfl rfl (Nat.le_of_ble_eq_true rfl) (by decide) dX6_feed_15 (fun r15 => ?_)
    exact s_iret G rfl rfl dX6_feed_18
  · refine s_aload_n G dX6_feed_19 rfl ?_
    refine s_get (k := 36) (j := 10) G (.int (gI M 36 10)) ⟨by decide, by decide⟩ (ce36 w) rfl clX6 (by decide) qw765 rfl dX6_feed_20 ?_
    refine s_iload_n G dX6_feed_23 rfl ?_
    refine s_iadd G dX6_feed_24 ?_
    refine s_bipush (v := 120) G dX6_feed_25 (by decide) ?_
    refine s_icmp_le (tgt := 37) G dX6_feed_27 (by decide) ?_ ?_
    · refine s_iload_n G dX6_feed_37 rfl ?_
      refine s_iconst (v := 1) G dX6_feed_38 (by decide) ?_
      refine s_isub G dX6_feed_39 ?_
      refine s_name (f := Value.int) (fun v40 => ?_)
      refine s_istore_n (lv2 := [some (.ref (w.1 36)), some (.int a1), some (.int a2), some (.int v40)]) G dX6_feed_40 (by decide) rfl rfl ?_
      refine s_keep [true, true, false, true] (lv2 := [some (.ref (w.1 36)), some (.int a1), none, some (.int v40)]) rfl ?_
      refine s_loopG (lvf := fun z41 : Int32 × Mem => [some (.ref (w.1 36)), some (.int a1), none, some (.int z41.1)]) (Mf := fun z41 : Int32 × Mem => z41.2) (ex := (fun x41_80 : Mem => (80, [some (.ref (w.1 36)), none, none, none], x41_80))) (el_one 80 (fun x41_80 : Mem => [some (.ref (w.1 36)), none, none, none]) (fun x41_80 : Mem => x41_80) (fun x41_80 => ?_)) (fun z41 K41 hB41 hE41 => ?_)
      · refine s_aload_n G dX6_feed_80 rfl ?_
        refine s_get (k := 36) (j := 10) G (.int (gI x41_80 36 10)) ⟨by decide, by decide⟩ (ce36 w) rfl clX6 (by decide) qw765 rfl dX6_feed_81 ?_
        exact s_iret G rfl rfl dX6_feed_84
      · unfold f_X6_feed_L41
        refine s_iload_n G dX6_feed_41 rfl ?_
        refine s_if_lt (tgt := 80) G dX6_feed_42 (by decide) ?_ ?_
        · refine s_keep [true, false, false, false] (lv2 := [some (.ref (w.1 36)), none, none, none]) rfl ?_
          exact fun hx => hE41 z41.2 hx
        · refine s_aload_n G dX6_feed_45 rfl ?_
          refine s_get (k := 36) (j := 9) G (.ref (w.1 43)) ⟨by decide, by decide⟩ (ce36 w) rfl clX6 (by decide) qw764 rfl dX6_feed_46 ?_
          refine s_aload_n G dX6_feed_49 rfl ?_
          refine s_get (k := 36) (j := 10) G (.int (gI z41.2 36 10)) ⟨by decide, by decide⟩ (ce36 w) rfl clX6 (by decide) qw765 rfl dX6_feed_50 ?_
          refine s_iload_n G dX6_feed_53 rfl ?_
          refine s_bipush (v := 8) G dX6_feed_54 (by decide) ?_
          refine s_iload_n G dX6_feed_56 rfl ?_
          refine s_imul G dX6_feed_57 ?_
          refine s_ishr G dX6_feed_58 ?_
          refine s_sipush (v := 255) G dX6_feed_59 (by decide) ?_
          refine s_iand G dX6_feed_62 ?_
          refine s_iast (k := 43) (n := 120) G ⟨by decide, by decide⟩ (ce43 w) dX6_feed_63 (fun m63 => ?_)
          refine s_aload_n G dX6_feed_64 rfl ?_
          refine s_dup G dX6_feed_65 rfl ?_
          refine s_get (k := 36) (j := 10) G (.int (gI m63 36 10)) ⟨by decide, by decide⟩ (ce36 w) rfl clX6 (by decide) qw765 rfl dX6_feed_66 ?_
          refine s_iconst (v := 1) G dX6_feed_69 (by decide) ?_
          refine s_iadd G dX6_feed_70 ?_
          refine s_put (k := 36) (j := 10) G ⟨by decide, by decide⟩ (ce36 w) (fun _ => rfl) clX6 (by decide) (fun _ => (by decide : 10 < 19)) qw765 rfl rfl rfl rfl dX6_feed_71 (fun m71 => ?_)
          refine s_iinc (v := (z41.1 + (-1))) (lv2 := [some (.ref (w.1 36)), some (.int a1), none, some (.int (z41.1 + (-1)))]) G dX6_feed_74 rfl rfl (by decide) rfl rfl ?_
          refine s_goto (tgt := 41) G dX6_feed_77 (by decide) ?_
          exact fun hx => hB41 ((z41.1 + (-1)), m71) hx
    · refine s_aload_n G dX6_feed_30 rfl ?_
      refine s_ldc (v := (-1000000002)) G dX6_feed_31 qw829 ?_
      refine s_callVI (as := [.int (-1000000002)]) (st := []) (k := 36) G aw_self mdX6_finds (fun _ h => c_X6_finds w O l (-1000000002) M _ h) ⟨by decide, by decide⟩ (ce36 w) clX6 rfl qw825 rfl rfl (Nat.le_of_ble_eq_true rfl) (by decide) dX6_feed_33 (fun r33 => ?_)
      exact s_iret G rfl rfl dX6_feed_36

set_option maxRecDepth 100000 in
set_option maxHeartbeats 4000000 in
theorem c_X6_wipe (w : Wx) (O : Mem) (l : Launch)  (M : Mem)  (z : Int32 × Mem) (hz : f_X6_wipe  M = some z) : Ct w 36 48 O l 0 muX6_wipe [.ref (w.1 36)] M (some (.int z.1), z.2) := by
  refine ct_of (X := f_X6_wipe  M) (K := fun v => some (some (.int v.1), v.2)) [some (.ref (w.1 36)), none] rfl rfl (Nat.le_of_ble_eq_true rfl) (by rw [hz]; rfl) ?_
  intro p e s m args below meth c G
  unfold f_X6_wipe
  refine s_aload_n G dX6_wipe_0 rfl ?_
  refine s_get (k := 36) (j := 10) G (.int (gI M 36 10)) ⟨by decide, by decide⟩ (ce36 w) rfl clX6 (by decide) qw765 rfl dX6_wipe_1 ?_
  refine s_name (f := Value.int) (fun v4 => ?_)
  refine s_istore_n (lv2 := [some (.ref (w.1 36)), some (.int v4)]) G dX6_wipe_4 (by decide) rfl rfl ?_
  refine s_aload_n G dX6_wipe_5 rfl ?_
  refine s_iconst (v := 0) G dX6_wipe_6 (by decide) ?_
  refine s_put (k := 36) (j := 10) G ⟨by decide, by decide⟩ (ce36 w) (fun _ => rfl) clX6 (by decide) (fun _ => (by decide : 10 < 19)) qw765 rfl rfl rfl rfl dX6_wipe_7 (fun m7 => ?_)
  refine s_iload_n G dX6_wipe_10 rfl ?_
  exact s_iret G rfl rfl dX6_wipe_11

set_option maxRecDepth 100000 in
set_option maxHeartbeats 4000000 in
theorem c_X6_byteAt (w : Wx) (O : Mem) (l : Launch) (a1 : Int32) (M : Mem)  (z : Int32) (hz : f_X6_byteAt a1 M = some z) : Ct w 36 48 O l 0 muX6_byteAt [.ref (w.1 36), .int a1] M (some (.int z), M) := by
  refine ct_of (X := f_X6_byteAt a1 M) (K := fun v => some (some (.int v), M)) [some (.ref (w.1 36)), some (.int a1)] rfl rfl (Nat.le_of_ble_eq_true rfl) (by rw [hz]; rfl) ?_
  intro p e s m args below meth c G
  unfold f_X6_byteAt
  refine s_iload_n G dX6_byteAt_0 rfl ?_
  refine s_aload_n G dX6_byteAt_1 rfl ?_
  refine s_get (k := 36) (j := 10) G (.int (gI M 36 10)) ⟨by decide, by decide⟩ (ce36 w) rfl clX6 (by decide) qw765 rfl dX6_byteAt_2 ?_
  refine s_join 18 (fun y5 : Int32 => [none, none]) (fun y5 => [.int y5]) (fun y5 => M) (fun y5 => ?_) (fun K5 hB5 => ?_)
  · exact s_iret G rfl rfl dX6_byteAt_18
  · refine s_icmp_ge (tgt := 17) G dX6_byteAt_5 (by decide) ?_ ?_
    · refine s_iconst (v := (-1)) G dX6_byteAt_17 (by decide) ?_
      refine s_keep [false, false] (lv2 := [none, none]) rfl ?_
      exact fun hx => hB5 (-1) hx
    · refine s_aload_n G dX6_byteAt_8 rfl ?_
      refine s_get (k := 36) (j := 9) G (.ref (w.1 43)) ⟨by decide, by decide⟩ (ce36 w) rfl clX6 (by decide) qw764 rfl dX6_byteAt_9 ?_
      refine s_iload_n G dX6_byteAt_12 rfl ?_
      refine s_iald (k := 43) (n := 120) G ⟨by decide, by decide⟩ (ce43 w) dX6_byteAt_13 ?_
      refine s_goto (tgt := 18) G dX6_byteAt_14 (by decide) ?_
      refine s_keep [false, false] (lv2 := [none, none]) rfl ?_
      exact fun hx => hB5 (gI M 43 a1.toNatClampNeg) hx
