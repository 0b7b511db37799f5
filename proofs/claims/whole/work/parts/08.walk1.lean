set_option maxRecDepth 100000 in
set_option maxHeartbeats 4000000 in
theorem c_X3_leastCover__22 (w : Wx) (O : Mem) (l : Launch) : ∀ (n : Nat) (a1 : Int32) (a2 : Int32) (a3 : Int32) (M : Mem) (z : Int32) (hz : f_X3_leastCover__22 n a1 a2 a3 M = some z), Ct w 0 36 O l (n + 1) muX3_leastCover_ [.ref (w.1 22), .int a1, .int a2, .int a3] M (some (.int z), M) := by
  intro n
  induction n with
  | zero => intro a1 a2 a3 M z hz; exact absurd hz (by unfold f_X3_leastCover__22; simp)
  | succ n0 ih =>
    intro a1 a2 a3 M z hz
    refine ct_of (X := f_X3_leastCover__22 (n0 + 1) a1 a2 a3 M) (K := fun v => some (some (.int v), M)) [some (.ref (w.1 22)), some (.int a1), some (.int a2), some (.int a3), none, none] rfl rfl (Nat.le_of_ble_eq_true rfl) (by rw [hz]; rfl) ?_
    intro p e s m args below meth c G
    unfold f_X3_leastCover__22
    refine s_iload_n G dX3_leastCover__0 rfl ?_
    refine s_callSi (as := [.int a2]) (st := []) G aw_self mdJ6_bitCount_0f7a4 (fun _ h => c_J6_bitCount_0f7a4 w O l a2 M _ h) qw425 rfl rfl (Nat.le_of_ble_eq_true rfl) (by omega) dX3_leastCover__1 (fun r1 => ?_)
    refine s_iload_n G dX3_leastCover__4 rfl ?_
    refine s_callSi (as := [.int a3]) (st := [.int r1]) G aw_self mdJ6_bitCount_0f7a4 (fun _ h => c_J6_bitCount_0f7a4 w O l a3 M _ h) qw425 rfl rfl (Nat.le_of_ble_eq_true rfl) (by omega) dX3_leastCover__5 (fun r5 => ?_)
    refine s_icmp_lt (tgt := 13) G dX3_leastCover__8 (by decide) ?_ ?_
    · refine s_iload_n G dX3_leastCover__13 rfl ?_
      refine s_if_lt (tgt := 23) G dX3_leastCover__14 (by decide) ?_ ?_
      · refine s_iload_n G dX3_leastCover__23 rfl ?_
        exact s_iret G rfl rfl dX3_leastCover__24
      · refine s_iload_n G dX3_leastCover__17 rfl ?_
        refine s_aload_n G dX3_leastCover__18 rfl ?_
        refine s_alen (k := 22) (n := 12) (v := 12) G ⟨by decide, by decide⟩ (ce22 w) rfl dX3_leastCover__19 ?_
        refine s_icmp_lt (tgt := 25) G dX3_leastCover__20 (by decide) ?_ ?_
        · refine s_iload_n G dX3_leastCover__25 rfl ?_
          refine s_iload_n G dX3_leastCover__26 rfl ?_
          refine s_callSNi (as := [.int a2, .int a1]) (st := []) G aw_self mdX5_contains (fun _ h => c_X5_contains w O l a2 a1 M _ h) (by decide) rfl rfl (Nat.le_of_ble_eq_true rfl) (by omega) dX3_leastCover__27 (fun r27 => ?_)
          refine s_if_eq (tgt := 43) G dX3_leastCover__30 (by decide) ?_ ?_
          · refine s_aload_n G dX3_leastCover__43 rfl ?_
            refine s_iload_n G dX3_leastCover__44 rfl ?_
            refine s_iald (k := 22) (n := 12) G ⟨by decide, by decide⟩ (ce22 w) dX3_leastCover__45 ?_
            refine s_iload_n G dX3_leastCover__46 rfl ?_
            refine s_iconst (v := (-1)) G dX3_leastCover__47 (by decide) ?_
            refine s_ixor G dX3_leastCover__48 ?_
            refine s_iand G dX3_leastCover__49 ?_
            refine s_name (f := Value.int) (fun v50 => ?_)
            refine s_istore (lv2 := [some (.ref (w.1 22)), some (.int a1), some (.int a2), some (.int a3), some (.int v50), none]) G dX3_leastCover__50 (by decide) rfl rfl ?_
            refine s_aload_n G dX3_leastCover__52 rfl ?_
            refine s_iload_n G dX3_leastCover__53 rfl ?_
            refine s_iconst (v := 1) G dX3_leastCover__54 (by decide) ?_
            refine s_isub G dX3_leastCover__55 ?_
            refine s_iload_n G dX3_leastCover__56 rfl ?_
            refine s_iload G dX3_leastCover__57 rfl ?_
            refine s_ior G dX3_leastCover__59 ?_
            refine s_iload_n G dX3_leastCover__60 rfl ?_
            refine s_callSi (as := [.ref (w.1 22), .int (a1 - 1), .int (a2 ||| v50), .int a3]) (st := []) G aw_self mdX3_leastCover_ (fun _ h => ih (a1 - 1) (a2 ||| v50) a3 M _ h) qw513 rfl rfl (Nat.le_of_ble_eq_true rfl) (by omega) dX3_leastCover__61 (fun r61 => ?_)
            refine s_istore (lv2 := [some (.ref (w.1 22)), some (.int a1), some (.int a2), some (.int a3), some (.int v50), some (.int r61)]) G dX3_leastCover__64 (by decide) rfl rfl ?_
            refine s_iload G dX3_leastCover__66 rfl ?_
            refine s_join 90 (fun y68 : Int32 => [none, none, none, none, none, none]) (fun y68 => [.int y68]) (fun y68 => M) (fun y68 => ?_) (fun K68 hB68 => ?_)
            · exact s_iret G rfl rfl dX3_leastCover__90
            · refine s_if_ne (tgt := 76) G dX3_leastCover__68 (by decide) ?_ ?_
              · refine s_iload G dX3_leastCover__71 rfl ?_
                refine s_goto (tgt := 90) G dX3_leastCover__73 (by decide) ?_
                refine s_keep [false, false, false, false, false, false] (lv2 := [none, none, none, none, none, none]) rfl ?_
                exact fun hx => hB68 r61 hx
              · refine s_aload_n G dX3_leastCover__76 rfl ?_
                refine s_iload_n G dX3_leastCover__77 rfl ?_
                refine s_iconst (v := 1) G dX3_leastCover__78 (by decide) ?_
                refine s_isub G dX3_leastCover__79 ?_
                refine s_iload_n G dX3_leastCover__80 rfl ?_
                refine s_iconst (v := 1) G dX3_leastCover__81 (by decide) ?_
                refine s_iload_n G dX3_leastCover__82 rfl ?_
                refine s_ishl G dX3_leastCover__83 ?_
                refine s_ior G dX3_leastCover__84 ?_
                refine s_iload G dX3_leastCover__85 rfl ?_
                refine s_callSi (as := [.ref (w.1 22), .int (a1 - 1), .int (a2 ||| ((1 : Int32) <<< (a1 &&& 31))), .int r61]) (st := []) G aw_self mdX3_leastCover_ (fun _ h => ih (a1 - 1) (a2 ||| ((1 : Int32) <<< (a1 &&& 31))) r61 M _ h) qw513 rfl rfl (Nat.le_of_ble_eq_true rfl) (by omega) dX3_leastCover__87 (fun r87 => ?_)
                refine s_keep [false, false, false, false, false, false] (lv2 := [none, none, none, none, none, none]) rfl ?_
                exact fun hx => hB68 r87 hx
          · refine s_aload_n G dX3_leastCover__33 rfl ?_
            refine s_iload_n G dX3_leastCover__34 rfl ?_
            refine s_iconst (v := 1) G dX3_leastCover__35 (by decide) ?_
            refine s_isub G dX3_leastCover__36 ?_
            refine s_iload_n G dX3_leastCover__37 rfl ?_
            refine s_iload_n G dX3_leastCover__38 rfl ?_
            refine s_callSi (as := [.ref (w.1 22), .int (a1 - 1), .int a2, .int a3]) (st := []) G aw_self mdX3_leastCover_ (fun _ h => ih (a1 - 1) a2 a3 M _ h) qw513 rfl rfl (Nat.le_of_ble_eq_true rfl) (by omega) dX3_leastCover__39 (fun r39 => ?_)
            exact s_iret G rfl rfl dX3_leastCover__42
        · refine s_iload_n G dX3_leastCover__23 rfl ?_
          exact s_iret G rfl rfl dX3_leastCover__24
    · refine s_iload_n G dX3_leastCover__11 rfl ?_
      exact s_iret G rfl rfl dX3_leastCover__12

set_option maxRecDepth 100000 in
set_option maxHeartbeats 4000000 in
theorem c_X3_leastCover (w : Wx) (O : Mem) (l : Launch)  (M : Mem)  (z : Int32) (hz : f_X3_leastCover  M = some z) : Ct w 0 36 O l 16 muX3_leastCover [.ref (w.1 19)] M (some (.int z), M) := by
  refine ct_of (X := f_X3_leastCover  M) (K := fun v => some (some (.int v), M)) [some (.ref (w.1 19)), none] rfl rfl (Nat.le_of_ble_eq_true rfl) (by rw [hz]; rfl) ?_
  intro p e s m args below meth c G
  unfold f_X3_leastCover
  refine s_iconst (v := (-1)) G dX3_leastCover_0 (by decide) ?_
  refine s_istore_n (lv2 := [some (.ref (w.1 19)), some (.int (-1))]) G dX3_leastCover_1 (by decide) rfl rfl ?_
  refine s_aload_n G dX3_leastCover_2 rfl ?_
  refine s_get (k := 19) (j := 2) G (.ref (w.1 22)) ⟨by decide, by decide⟩ (ce19 w) rfl clX3 (by decide) qw145 rfl dX3_leastCover_3 ?_
  refine s_bipush (v := 11) G dX3_leastCover_6 (by decide) ?_
  refine s_iconst (v := 0) G dX3_leastCover_8 (by decide) ?_
  refine s_iload_n G dX3_leastCover_9 rfl ?_
  refine s_callSi (as := [.ref (w.1 22), .int 11, .int 0, .int (-1)]) (st := []) G aw_self mdX3_leastCover_ (fun _ h => c_X3_leastCover__22 w O l 14 11 0 (-1) M _ h) qw513 rfl rfl (Nat.le_of_ble_eq_true rfl) (by decide) dX3_leastCover_10 (fun r10 => ?_)
  exact s_iret G rfl rfl dX3_leastCover_13

set_option maxRecDepth 100000 in
set_option maxHeartbeats 4000000 in
theorem c_X5_untangle (w : Wx) (O : Mem) (l : Launch)  (M : Mem)  (z : Int32 × Mem) (hz : f_X5_untangle  M = some z) : Ct w 0 36 O l 17 muX5_untangle [.ref (w.1 0)] M (some (.int z.1), z.2) := by
  refine ct_of (X := f_X5_untangle  M) (K := fun v => some (some (.int v.1), v.2)) [some (.ref (w.1 0))] rfl rfl (Nat.le_of_ble_eq_true rfl) (by rw [hz]; rfl) ?_
  intro p e s m args below meth c G
  unfold f_X5_untangle
  refine s_aload_n G dX5_untangle_0 rfl ?_
  refine s_get (k := 0) (j := 3) G (.ref (w.1 19)) ⟨by decide, by decide⟩ (ce0 w) rfl clX5 (by decide) qw217 rfl dX5_untangle_1 ?_
  refine s_aload_n G dX5_untangle_4 rfl ?_
  refine s_get (k := 0) (j := 0) G (.ref (w.1 1)) ⟨by decide, by decide⟩ (ce0 w) rfl clX5 (by decide) qw214 rfl dX5_untangle_5 ?_
  refine s_callVv (as := [.ref (w.1 1)]) (st := []) (k := 19) G aw_self mdX3_look (fun _ h => c_X3_look_1 w O l M _ h) ⟨by decide, by decide⟩ (ce19 w) clX3 rfl qw370 rfl rfl (Nat.le_of_ble_eq_true rfl) (by decide) dX5_untangle_8 (fun r8 => ?_)
  refine s_aload_n G dX5_untangle_11 rfl ?_
  refine s_get (k := 0) (j := 3) G (.ref (w.1 19)) ⟨by decide, by decide⟩ (ce0 w) rfl clX5 (by decide) qw217 rfl dX5_untangle_12 ?_
  refine s_callVi (as := []) (st := []) (k := 19) G aw_self mdX3_leastCover (fun _ h => c_X3_leastCover w O l r8 _ h) ⟨by decide, by decide⟩ (ce19 w) clX3 rfl qw509 rfl rfl (Nat.le_of_ble_eq_true rfl) (by decide) dX5_untangle_15 (fun r15 => ?_)
  exact s_iret G rfl rfl dX5_untangle_18

set_option maxRecDepth 100000 in
set_option maxHeartbeats 4000000 in
theorem c_X3_all (w : Wx) (O : Mem) (l : Launch)  (M : Mem)  (z : Int32) (hz : f_X3_all  M = some z) : Ct w 0 36 O l 0 muX3_all [.ref (w.1 19)] M (some (.int z), M) := by
  refine ct_of (X := f_X3_all  M) (K := fun v => some (some (.int v), M)) [some (.ref (w.1 19)), none, none] rfl rfl (Nat.le_of_ble_eq_true rfl) (by rw [hz]; rfl) ?_
  intro p e s m args below meth c G
  unfold f_X3_all
  refine s_iconst (v := 0) G dX3_all_0 (by decide) ?_
  refine s_istore_n (lv2 := [some (.ref (w.1 19)), some (.int 0), none]) G dX3_all_1 (by decide) rfl rfl ?_
  refine s_iconst (v := 0) G dX3_all_2 (by decide) ?_
  refine s_istore_n (lv2 := [some (.ref (w.1 19)), some (.int 0), some (.int 0)]) G dX3_all_3 (by decide) rfl rfl ?_
  refine s_loopG (lvf := fun z4 : Int32 × Int32 => [some (.ref (w.1 19)), some (.int z4.1), some (.int z4.2)]) (Mf := fun z4 : Int32 × Int32 => M) (ex := (fun x4_25 : Int32 => (25, [none, some (.int x4_25), none], M))) (el_one 25 (fun x4_25 : Int32 => [none, some (.int x4_25), none]) (fun x4_25 : Int32 => M) (fun x4_25 => ?_)) (fun z4 K4 hB4 hE4 => ?_)
  · refine s_iload_n G dX3_all_25 rfl ?_
    exact s_iret G rfl rfl dX3_all_26
  · unfold f_X3_all_L4
    refine s_iload_n G dX3_all_4 rfl ?_
    refine s_bipush (v := 12) G dX3_all_5 (by decide) ?_
    refine s_icmp_ge (tgt := 25) G dX3_all_7 (by decide) ?_ ?_
    · refine s_keep [false, true, false] (lv2 := [none, some (.int z4.1), none]) rfl ?_
      exact fun hx => hE4 z4.1 hx
    · refine s_iload_n G dX3_all_10 rfl ?_
      refine s_aload_n G dX3_all_11 rfl ?_
      refine s_get (k := 19) (j := 2) G (.ref (w.1 22)) ⟨by decide, by decide⟩ (ce19 w) rfl clX3 (by decide) qw145 rfl dX3_all_12 ?_
      refine s_iload_n G dX3_all_15 rfl ?_
      refine s_iald (k := 22) (n := 12) G ⟨by decide, by decide⟩ (ce22 w) dX3_all_16 ?_
      refine s_ior G dX3_all_17 ?_
      refine s_name (f := Value.int) (fun v18 => ?_)
      refine s_istore_n (lv2 := [some (.ref (w.1 19)), some (.int v18), some (.int z4.2)]) G dX3_all_18 (by decide) rfl rfl ?_
      refine s_iinc (v := (z4.2 + 1)) (lv2 := [some (.ref (w.1 19)), some (.int v18), some (.int (z4.2 + 1))]) G dX3_all_19 rfl rfl (by decide) rfl rfl ?_
      refine s_goto (tgt := 4) G dX3_all_22 (by decide) ?_
      exact fun hx => hB4 (v18, (z4.2 + 1)) hx

set_option maxRecDepth 100000 in
set_option maxHeartbeats 4000000 in
theorem c_X5_saves (w : Wx) (O : Mem) (l : Launch)  (M : Mem)  (z : Int32 × Mem) (hz : f_X5_saves  M = some z) : Ct w 0 36 O l 17 muX5_saves [.ref (w.1 0)] M (some (.int z.1), z.2) := by
  refine ct_of (X := f_X5_saves  M) (K := fun v => some (some (.int v.1), v.2)) [some (.ref (w.1 0)), none] rfl rfl (Nat.le_of_ble_eq_true rfl) (by rw [hz]; rfl) ?_
  intro p e s m args below meth c G
  unfold f_X5_saves
  refine s_aload_n G dX5_saves_0 rfl ?_
  refine s_get (k := 0) (j := 3) G (.ref (w.1 19)) ⟨by decide, by decide⟩ (ce0 w) rfl clX5 (by decide) qw217 rfl dX5_saves_1 ?_
  refine s_aload_n G dX5_saves_4 rfl ?_
  refine s_get (k := 0) (j := 0) G (.ref (w.1 1)) ⟨by decide, by decide⟩ (ce0 w) rfl clX5 (by decide) qw214 rfl dX5_saves_5 ?_
  refine s_callVv (as := [.ref (w.1 1)]) (st := []) (k := 19) G aw_self mdX3_look (fun _ h => c_X3_look_1 w O l M _ h) ⟨by decide, by decide⟩ (ce19 w) clX3 rfl qw370 rfl rfl (Nat.le_of_ble_eq_true rfl) (by decide) dX5_saves_8 (fun r8 => ?_)
  refine s_aload_n G dX5_saves_11 rfl ?_
  refine s_get (k := 0) (j := 3) G (.ref (w.1 19)) ⟨by decide, by decide⟩ (ce0 w) rfl clX5 (by decide) qw217 rfl dX5_saves_12 ?_
  refine s_callVi (as := []) (st := []) (k := 19) G aw_self mdX3_leastCover (fun _ h => c_X3_leastCover w O l r8 _ h) ⟨by decide, by decide⟩ (ce19 w) clX3 rfl qw509 rfl rfl (Nat.le_of_ble_eq_true rfl) (by decide) dX5_saves_15 (fun r15 => ?_)
  refine s_callSi (as := [.int r15]) (st := []) G aw_self mdJ6_bitCount_0f7a4 (fun _ h => c_J6_bitCount_0f7a4 w O l r15 r8 _ h) qw337 rfl rfl (Nat.le_of_ble_eq_true rfl) (by decide) dX5_saves_18 (fun r18 => ?_)
  refine s_istore_n (lv2 := [some (.ref (w.1 0)), some (.int r18)]) G dX5_saves_21 (by decide) rfl rfl ?_
  refine s_aload_n G dX5_saves_22 rfl ?_
  refine s_get (k := 0) (j := 0) G (.ref (w.1 1)) ⟨by decide, by decide⟩ (ce0 w) rfl clX5 (by decide) qw214 rfl dX5_saves_23 ?_
  refine s_get (k := 1) (j := 2) G (.int (gI r8 1 2)) ⟨by decide, by decide⟩ (ce1 w) rfl clX0 (by decide) qw98 rfl dX5_saves_26 ?_
  refine s_aload_n G dX5_saves_29 rfl ?_
  refine s_get (k := 0) (j := 3) G (.ref (w.1 19)) ⟨by decide, by decide⟩ (ce0 w) rfl clX5 (by decide) qw217 rfl dX5_saves_30 ?_
  refine s_callVi (as := []) (st := [.int (gI r8 1 2)]) (k := 19) G aw_self mdX3_all (fun _ h => c_X3_all w O l r8 _ h) ⟨by decide, by decide⟩ (ce19 w) clX3 rfl qw520 rfl rfl (Nat.le_of_ble_eq_true rfl) (by decide) dX5_saves_33 (fun r33 => ?_)
  refine s_callSi (as := [.int r33]) (st := [.int (gI r8 1 2)]) G aw_self mdJ6_bitCount_0f7a4 (fun _ h => c_J6_bitCount_0f7a4 w O l r33 r8 _ h) qw337 rfl rfl (Nat.le_of_ble_eq_true rfl) (by decide) dX5_saves_36 (fun r36 => ?_)
  refine s_imul G dX5_saves_39 ?_
  refine s_iconst (v := 2) G dX5_saves_40 (by decide) ?_
  refine s_iload_n G dX5_saves_41 rfl ?_
  refine s_imul G dX5_saves_42 ?_
  refine s_isub G dX5_saves_43 ?_
  exact s_iret G rfl rfl dX5_saves_44

set_option maxRecDepth 100000 in
set_option maxHeartbeats 4000000 in
theorem c_X5_feels (w : Wx) (O : Mem) (l : Launch) (a1 : Int32) (M : Mem)  (z : Int32 × Mem) (hz : f_X5_feels a1 M = some z) : Ct w 0 36 O l 2 muX5_feels [.ref (w.1 0), .int a1] M (some (.int z.1), z.2) := by
  refine ct_of (X := f_X5_feels a1 M) (K := fun v => some (some (.int v.1), v.2)) [some (.ref (w.1 0)), some (.int a1), none, none, none, none] rfl rfl (Nat.le_of_ble_eq_true rfl) (by rw [hz]; rfl) ?_
  intro p e s m args below meth c G
  unfold f_X5_feels
  refine s_iload_n G dX5_feels_0 rfl ?_
  refine s_if_lt (tgt := 10) G dX5_feels_1 (by decide) ?_ ?_
  · refine s_aload_n G dX5_feels_10 rfl ?_
    refine s_ldc (v := (-1000000001)) G dX5_feels_11 qw249 ?_
    refine s_callVI (as := [.int (-1000000001)]) (st := []) (k := 0) G aw_self mdX5_told (fun _ h => c_X5_told w O l (-1000000001) M _ h) ⟨by decide, by decide⟩ (ce0 w) clX5 rfl qw250 rfl rfl (Nat.le_of_ble_eq_true rfl) (by decide) dX5_feels_13 (fun r13 => ?_)
    exact s_iret G rfl rfl dX5_feels_16
  · refine s_iload_n G dX5_feels_4 rfl ?_
    refine s_bipush (v := 15) G dX5_feels_5 (by decide) ?_
    refine s_icmp_le (tgt := 17) G dX5_feels_7 (by decide) ?_ ?_
    · refine s_aload_n G dX5_feels_17 rfl ?_
      refine s_get (k := 0) (j := 0) G (.ref (w.1 1)) ⟨by decide, by decide⟩ (ce0 w) rfl clX5 (by decide) qw214 rfl dX5_feels_18 ?_
      refine s_callVi (as := []) (st := []) (k := 1) G aw_self mdX0_up (fun _ h => c_X0_up w O l M _ h) ⟨by decide, by decide⟩ (ce1 w) clX0 rfl qw332 rfl rfl (Nat.le_of_ble_eq_true rfl) (by decide) dX5_feels_21 (fun r21 => ?_)
      refine s_if_ne (tgt := 34) G dX5_feels_24 (by decide) ?_ ?_
      · refine s_aload_n G dX5_feels_27 rfl ?_
        refine s_ldc (v := (-1000000004)) G dX5_feels_28 qw311 ?_
        refine s_callVI (as := [.int (-1000000004)]) (st := []) (k := 0) G aw_self mdX5_told (fun _ h => c_X5_told w O l (-1000000004) M _ h) ⟨by decide, by decide⟩ (ce0 w) clX5 rfl qw250 rfl rfl (Nat.le_of_ble_eq_true rfl) (by decide) dX5_feels_30 (fun r30 => ?_)
        exact s_iret G rfl rfl dX5_feels_33
      · refine s_iconst (v := 0) G dX5_feels_34 (by decide) ?_
        refine s_istore_n (lv2 := [some (.ref (w.1 0)), some (.int a1), some (.int 0), none, none, none]) G dX5_feels_35 (by decide) rfl rfl ?_
        refine s_iconst (v := 5) G dX5_feels_36 (by decide) ?_
        refine s_istore_n (lv2 := [some (.ref (w.1 0)), some (.int a1), some (.int 0), some (.int 5), none, none]) G dX5_feels_37 (by decide) rfl rfl ?_
        refine s_iconst (v := 0) G dX5_feels_38 (by decide) ?_
        refine s_istore (lv2 := [some (.ref (w.1 0)), some (.int a1), some (.int 0), some (.int 5), some (.int 0), none]) G dX5_feels_39 (by decide) rfl rfl ?_
        refine s_loopG (lvf := fun z41 : Int32 × Int32 × Int32 => [some (.ref (w.1 0)), some (.int a1), some (.int z41.1), some (.int z41.2.1), some (.int z41.2.2), none]) (Mf := fun z41 : Int32 × Int32 × Int32 => M) (ex := (fun x41_130 : Int32 => (130, [none, none, some (.int x41_130), none, none, none], M))) (el_one 130 (fun x41_130 : Int32 => [none, none, some (.int x41_130), none, none, none]) (fun x41_130 : Int32 => M) (fun x41_130 => ?_)) (fun z41 K41 hB41 hE41 => ?_)
        · refine s_iload_n G dX5_feels_130 rfl ?_
          exact s_iret G rfl rfl dX5_feels_131
        · unfold f_X5_feels_L41
          refine s_iload G dX5_feels_41 rfl ?_
          refine s_aload_n G dX5_feels_43 rfl ?_
          refine s_get (k := 0) (j := 0) G (.ref (w.1 1)) ⟨by decide, by decide⟩ (ce0 w) rfl clX5 (by decide) qw214 rfl dX5_feels_44 ?_
          refine s_get (k := 1) (j := 0) G (.int (gI M 1 0)) ⟨by decide, by decide⟩ (ce1 w) rfl clX0 (by decide) qw92 rfl dX5_feels_47 ?_
          refine s_icmp_ge (tgt := 130) G dX5_feels_50 (by decide) ?_ ?_
          · refine s_keep [false, false, true, false, false, false] (lv2 := [none, none, some (.int z41.1), none, none, none]) rfl ?_
            exact fun hx => hE41 z41.1 hx
          · refine s_aload_n G dX5_feels_53 rfl ?_
            refine s_get (k := 0) (j := 0) G (.ref (w.1 1)) ⟨by decide, by decide⟩ (ce0 w) rfl clX5 (by decide) qw214 rfl dX5_feels_54 ?_
            refine s_get (k := 1) (j := 7) G (.ref (w.1 5)) ⟨by decide, by decide⟩ (ce1 w) rfl clX0 (by decide) qw113 rfl dX5_feels_57 ?_
            refine s_iload G dX5_feels_60 rfl ?_
            refine s_iald (k := 5) (n := 12) G ⟨by decide, by decide⟩ (ce5 w) dX5_feels_62 ?_
            refine s_iload_n G dX5_feels_63 rfl ?_
            refine s_ixor G dX5_feels_64 ?_
            refine s_callSi (as := [.int ((gI M 5 z41.2.2.toNatClampNeg) ^^^ a1)]) (st := []) G aw_self mdJ6_bitCount_0f7a4 (fun _ h => c_J6_bitCount_0f7a4 w O l ((gI M 5 z41.2.2.toNatClampNeg) ^^^ a1) M _ h) qw337 rfl rfl (Nat.le_of_ble_eq_true rfl) (by decide) dX5_feels_65 (fun r65 => ?_)
            refine s_istore (lv2 := [some (.ref (w.1 0)), some (.int a1), some (.int z41.1), some (.int z41.2.1), some (.int z41.2.2), some (.int r65)]) G dX5_feels_68 (by decide) rfl rfl ?_
            refine s_aload_n G dX5_feels_70 rfl ?_
            refine s_get (k := 0) (j := 0) G (.ref (w.1 1)) ⟨by decide, by decide⟩ (ce0 w) rfl clX5 (by decide) qw214 rfl dX5_feels_71 ?_
            refine s_iload G dX5_feels_74 rfl ?_
            refine s_callVi (as := [.int z41.2.2]) (st := []) (k := 1) G aw_self mdX0_isUp (fun _ h => c_X0_isUp w O l z41.2.2 M _ h) ⟨by decide, by decide⟩ (ce1 w) clX0 rfl qw316 rfl rfl (Nat.le_of_ble_eq_true rfl) (by decide) dX5_feels_76 (fun r76 => ?_)
            refine s_join 124 (fun y79 : Int32 × Int32 => [some (.ref (w.1 0)), some (.int a1), some (.int y79.1), some (.int y79.2), some (.int z41.2.2), none]) (fun y79 => []) (fun y79 => M) (fun y79 => ?_) (fun K79 hB79 => ?_)
            · refine s_iinc (v := (z41.2.2 + 1)) (lv2 := [some (.ref (w.1 0)), some (.int a1), some (.int y79.1), some (.int y79.2), some (.int (z41.2.2 + 1)), none]) G dX5_feels_124 rfl rfl (by decide) rfl rfl ?_
              refine s_goto (tgt := 41) G dX5_feels_127 (by decide) ?_
              exact fun hx => hB41 (y79.1, y79.2, (z41.2.2 + 1)) hx
            · refine s_if_eq (tgt := 99) G dX5_feels_79 (by decide) ?_ ?_
              · refine s_aload_n G dX5_feels_99 rfl ?_
                refine s_get (k := 0) (j := 0) G (.ref (w.1 1)) ⟨by decide, by decide⟩ (ce0 w) rfl clX5 (by decide) qw214 rfl dX5_feels_100 ?_
                refine s_iload G dX5_feels_103 rfl ?_
                refine s_callVi (as := [.int z41.2.2]) (st := []) (k := 1) G aw_self mdX0_isUp (fun _ h => c_X0_isUp w O l z41.2.2 M _ h) ⟨by decide, by decide⟩ (ce1 w) clX0 rfl qw316 rfl rfl (Nat.le_of_ble_eq_true rfl) (by decide) dX5_feels_105 (fun r105 => ?_)
                refine s_if_eq (tgt := 124) G dX5_feels_108 (by decide) ?_ ?_
                · refine s_keep [true, true, true, true, true, false] (lv2 := [some (.ref (w.1 0)), some (.int a1), some (.int z41.1), some (.int z41.2.1), some (.int z41.2.2), none]) rfl ?_
                  exact fun hx => hB79 (z41.1, z41.2.1) hx
                · refine s_iload G dX5_feels_111 rfl ?_
                  refine s_iload_n G dX5_feels_113 rfl ?_
                  refine s_icmp_ne (tgt := 124) G dX5_feels_114 (by decide) ?_ ?_
                  · refine s_iload_n G dX5_feels_117 rfl ?_
                    refine s_iconst (v := 1) G dX5_feels_118 (by decide) ?_
                    refine s_iload G dX5_feels_119 rfl ?_
                    refine s_ishl G dX5_feels_121 ?_
                    refine s_ior G dX5_feels_122 ?_
                    refine s_name (f := Value.int) (fun v123 => ?_)
                    refine s_istore_n (lv2 := [some (.ref (w.1 0)), some (.int a1), some (.int v123), some (.int z41.2.1), some (.int z41.2.2), some (.int r65)]) G dX5_feels_123 (by decide) rfl rfl ?_
                    refine s_keep [true, true, true, true, true, false] (lv2 := [some (.ref (w.1 0)), some (.int a1), some (.int v123), some (.int z41.2.1), some (.int z41.2.2), none]) rfl ?_
                    exact fun hx => hB79 (v123, z41.2.1) hx
                  · refine s_keep [true, true, true, true, true, false] (lv2 := [some (.ref (w.1 0)), some (.int a1), some (.int z41.1), some (.int z41.2.1), some (.int z41.2.2), none]) rfl ?_
                    exact fun hx => hB79 (z41.1, z41.2.1) hx
              · refine s_iload G dX5_feels_82 rfl ?_
                refine s_iload_n G dX5_feels_84 rfl ?_
                refine s_icmp_ge (tgt := 99) G dX5_feels_85 (by decide) ?_ ?_
                · refine s_aload_n G dX5_feels_99 rfl ?_
                  refine s_get (k := 0) (j := 0) G (.ref (w.1 1)) ⟨by decide, by decide⟩ (ce0 w) rfl clX5 (by decide) qw214 rfl dX5_feels_100 ?_
                  refine s_iload G dX5_feels_103 rfl ?_
                  refine s_callVi (as := [.int z41.2.2]) (st := []) (k := 1) G aw_self mdX0_isUp (fun _ h => c_X0_isUp w O l z41.2.2 M _ h) ⟨by decide, by decide⟩ (ce1 w) clX0 rfl qw316 rfl rfl (Nat.le_of_ble_eq_true rfl) (by decide) dX5_feels_105 (fun r105 => ?_)
                  refine s_if_eq (tgt := 124) G dX5_feels_108 (by decide) ?_ ?_
                  · refine s_keep [true, true, true, true, true, false] (lv2 := [some (.ref (w.1 0)), some (.int a1), some (.int z41.1), some (.int z41.2.1), some (.int z41.2.2), none]) rfl ?_
                    exact fun hx => hB79 (z41.1, z41.2.1) hx
                  · refine s_iload G dX5_feels_111 rfl ?_
                    refine s_iload_n G dX5_feels_113 rfl ?_
                    refine s_icmp_ne (tgt := 124) G dX5_feels_114 (by decide) ?_ ?_
                    · refine s_iload_n G dX5_feels_117 rfl ?_
                      refine s_iconst (v := 1) G dX5_feels_118 (by decide) ?_
                      refine s_iload G dX5_feels_119 rfl ?_
                      refine s_ishl G dX5_feels_121 ?_
                      refine s_ior G dX5_feels_122 ?_
                      refine s_name (f := Value.int) (fun v123 => ?_)
                      refine s_istore_n (lv2 := [some (.ref (w.1 0)), some (.int a1), some (.int v123), some (.int z41.2.1), some (.int z41.2.2), some (.int r65)]) G dX5_feels_123 (by decide) rfl rfl ?_
                      refine s_keep [true, true, true, true, true, false] (lv2 := [some (.ref (w.1 0)), some (.int a1), some (.int v123), some (.int z41.2.1), some (.int z41.2.2), none]) rfl ?_
                      exact fun hx => hB79 (v123, z41.2.1) hx
                    · refine s_keep [true, true, true, true, true, false] (lv2 := [some (.ref (w.1 0)), some (.int a1), some (.int z41.1), some (.int z41.2.1), some (.int z41.2.2), none]) rfl ?_
                      exact fun hx => hB79 (z41.1, z41.2.1) hx
                · refine s_iconst (v := 1) G dX5_feels_88 (by decide) ?_
                  refine s_iload G dX5_feels_89 rfl ?_
                  refine s_ishl G dX5_feels_91 ?_
                  refine s_name (f := Value.int) (fun v92 => ?_)
                  refine s_istore_n (lv2 := [some (.ref (w.1 0)), some (.int a1), some (.int v92), some (.int z41.2.1), some (.int z41.2.2), some (.int r65)]) G dX5_feels_92 (by decide) rfl rfl ?_
                  refine s_iload G dX5_feels_93 rfl ?_
                  refine s_istore_n (lv2 := [some (.ref (w.1 0)), some (.int a1), some (.int v92), some (.int r65), some (.int z41.2.2), some (.int r65)]) G dX5_feels_95 (by decide) rfl rfl ?_
                  refine s_goto (tgt := 124) G dX5_feels_96 (by decide) ?_
                  refine s_keep [true, true, true, true, true, false] (lv2 := [some (.ref (w.1 0)), some (.int a1), some (.int v92), some (.int r65), some (.int z41.2.2), none]) rfl ?_
                  exact fun hx => hB79 (v92, r65) hx
    · refine s_aload_n G dX5_feels_10 rfl ?_
      refine s_ldc (v := (-1000000001)) G dX5_feels_11 qw249 ?_
      refine s_callVI (as := [.int (-1000000001)]) (st := []) (k := 0) G aw_self mdX5_told (fun _ h => c_X5_told w O l (-1000000001) M _ h) ⟨by decide, by decide⟩ (ce0 w) clX5 rfl qw250 rfl rfl (Nat.le_of_ble_eq_true rfl) (by decide) dX5_feels_13 (fun r13 => ?_)
      exact s_iret G rfl rfl dX5_feels_16

set_option maxRecDepth 100000 in
set_option maxHeartbeats 4000000 in
theorem c_X5_kind (w : Wx) (O : Mem) (l : Launch) (a1 : Int32) (M : Mem)  (z : Int32 × Mem) (hz : f_X5_kind a1 M = some z) : Ct w 0 36 O l 3 muX5_kind [.ref (w.1 0), .int a1] M (some (.int z.1), z.2) := by
  refine ct_of (X := f_X5_kind a1 M) (K := fun v => some (some (.int v.1), v.2)) [some (.ref (w.1 0)), some (.int a1), none, none, none, none] rfl rfl (Nat.le_of_ble_eq_true rfl) (by rw [hz]; rfl) ?_
  intro p e s m args below meth c G
  unfold f_X5_kind
  refine s_aload_n G dX5_kind_0 rfl ?_
  refine s_get (k := 0) (j := 0) G (.ref (w.1 1)) ⟨by decide, by decide⟩ (ce0 w) rfl clX5 (by decide) qw214 rfl dX5_kind_1 ?_
  refine s_iload_n G dX5_kind_4 rfl ?_
  refine s_callVi (as := [.int a1]) (st := []) (k := 1) G aw_self mdX0_has (fun _ h => c_X0_has w O l a1 M _ h) ⟨by decide, by decide⟩ (ce1 w) clX0 rfl qw263 rfl rfl (Nat.le_of_ble_eq_true rfl) (by decide) dX5_kind_5 (fun r5 => ?_)
  refine s_if_ne (tgt := 18) G dX5_kind_8 (by decide) ?_ ?_
  · refine s_aload_n G dX5_kind_11 rfl ?_
    refine s_ldc (v := (-1000000001)) G dX5_kind_12 qw249 ?_
    refine s_callVI (as := [.int (-1000000001)]) (st := []) (k := 0) G aw_self mdX5_told (fun _ h => c_X5_told w O l (-1000000001) M _ h) ⟨by decide, by decide⟩ (ce0 w) clX5 rfl qw250 rfl rfl (Nat.le_of_ble_eq_true rfl) (by decide) dX5_kind_14 (fun r14 => ?_)
    exact s_iret G rfl rfl dX5_kind_17
  · refine s_aload_n G dX5_kind_18 rfl ?_
    refine s_get (k := 0) (j := 0) G (.ref (w.1 1)) ⟨by decide, by decide⟩ (ce0 w) rfl clX5 (by decide) qw214 rfl dX5_kind_19 ?_
    refine s_iload_n G dX5_kind_22 rfl ?_
    refine s_callVi (as := [.int a1]) (st := []) (k := 1) G aw_self mdX0_isUp (fun _ h => c_X0_isUp w O l a1 M _ h) ⟨by decide, by decide⟩ (ce1 w) clX0 rfl qw316 rfl rfl (Nat.le_of_ble_eq_true rfl) (by decide) dX5_kind_23 (fun r23 => ?_)
    refine s_if_ne (tgt := 36) G dX5_kind_26 (by decide) ?_ ?_
    · refine s_aload_n G dX5_kind_29 rfl ?_
      refine s_ldc (v := (-1000000005)) G dX5_kind_30 qw320 ?_
      refine s_callVI (as := [.int (-1000000005)]) (st := []) (k := 0) G aw_self mdX5_told (fun _ h => c_X5_told w O l (-1000000005) M _ h) ⟨by decide, by decide⟩ (ce0 w) clX5 rfl qw250 rfl rfl (Nat.le_of_ble_eq_true rfl) (by decide) dX5_kind_32 (fun r32 => ?_)
      exact s_iret G rfl rfl dX5_kind_35
    · refine s_iconst (v := 0) G dX5_kind_36 (by decide) ?_
      refine s_istore_n (lv2 := [some (.ref (w.1 0)), some (.int a1), some (.int 0), none, none, none]) G dX5_kind_37 (by decide) rfl rfl ?_
      refine s_bipush (v := 13) G dX5_kind_38 (by decide) ?_
      refine s_istore_n (lv2 := [some (.ref (w.1 0)), some (.int a1), some (.int 0), some (.int 13), none, none]) G dX5_kind_40 (by decide) rfl rfl ?_
      refine s_iconst (v := 0) G dX5_kind_41 (by decide) ?_
      refine s_istore (lv2 := [some (.ref (w.1 0)), some (.int a1), some (.int 0), some (.int 13), some (.int 0), none]) G dX5_kind_42 (by decide) rfl rfl ?_
      refine s_loopG (lvf := fun z44 : Int32 × Int32 × Int32 => [some (.ref (w.1 0)), some (.int a1), some (.int z44.1), some (.int z44.2.1), some (.int z44.2.2), none]) (Mf := fun z44 : Int32 × Int32 × Int32 => M) (ex := (fun x44_96 : Int32 => (96, [none, none, some (.int x44_96), none, none, none], M))) (el_one 96 (fun x44_96 : Int32 => [none, none, some (.int x44_96), none, none, none]) (fun x44_96 : Int32 => M) (fun x44_96 => ?_)) (fun z44 K44 hB44 hE44 => ?_)
      · refine s_iload_n G dX5_kind_96 rfl ?_
        exact s_iret G rfl rfl dX5_kind_97
      · unfold f_X5_kind_L44
        refine s_iload G dX5_kind_44 rfl ?_
        refine s_bipush (v := 6) G dX5_kind_46 (by decide) ?_
        refine s_icmp_ge (tgt := 96) G dX5_kind_48 (by decide) ?_ ?_
        · refine s_keep [false, false, true, false, false, false] (lv2 := [none, none, some (.int z44.1), none, none, none]) rfl ?_
          exact fun hx => hE44 z44.1 hx
        · refine s_aload_n G dX5_kind_51 rfl ?_
          refine s_get (k := 0) (j := 0) G (.ref (w.1 1)) ⟨by decide, by decide⟩ (ce0 w) rfl clX5 (by decide) qw214 rfl dX5_kind_52 ?_
          refine s_iload_n G dX5_kind_55 rfl ?_
          refine s_iload G dX5_kind_56 rfl ?_
          refine s_aload_n G dX5_kind_58 rfl ?_
          refine s_get (k := 0) (j := 0) G (.ref (w.1 1)) ⟨by decide, by decide⟩ (ce0 w) rfl clX5 (by decide) qw214 rfl dX5_kind_59 ?_
          refine s_get (k := 1) (j := 5) G (.ref (w.1 3)) ⟨by decide, by decide⟩ (ce1 w) rfl clX0 (by decide) qw108 rfl dX5_kind_62 ?_
          refine s_iload_n G dX5_kind_65 rfl ?_
          refine s_iald (k := 3) (n := 12) G ⟨by decide, by decide⟩ (ce3 w) dX5_kind_66 ?_
          refine s_callVi (as := [.int a1, .int z44.2.2, .int (gI M 3 a1.toNatClampNeg)]) (st := []) (k := 1) G aw_self mdX0_tangledWith (fun _ h => c_X0_tangledWith w O l a1 z44.2.2 (gI M 3 a1.toNatClampNeg) M _ h) ⟨by decide, by decide⟩ (ce1 w) clX0 rfl qw438 rfl rfl (Nat.le_of_ble_eq_true rfl) (by decide) dX5_kind_67 (fun r67 => ?_)
          refine s_istore (lv2 := [some (.ref (w.1 0)), some (.int a1), some (.int z44.1), some (.int z44.2.1), some (.int z44.2.2), some (.int r67)]) G dX5_kind_70 (by decide) rfl rfl ?_
          refine s_iload G dX5_kind_72 rfl ?_
          refine s_callSi (as := [.int r67]) (st := []) G aw_self mdJ6_bitCount_0f7a4 (fun _ h => c_J6_bitCount_0f7a4 w O l r67 M _ h) qw337 rfl rfl (Nat.le_of_ble_eq_true rfl) (by decide) dX5_kind_74 (fun r74 => ?_)
          refine s_iload_n G dX5_kind_77 rfl ?_
          refine s_join 90 (fun y78 : Int32 × Int32 => [some (.ref (w.1 0)), some (.int a1), some (.int y78.1), some (.int y78.2), some (.int z44.2.2), none]) (fun y78 => []) (fun y78 => M) (fun y78 => ?_) (fun K78 hB78 => ?_)
          · refine s_iinc (v := (z44.2.2 + 1)) (lv2 := [some (.ref (w.1 0)), some (.int a1), some (.int y78.1), some (.int y78.2), some (.int (z44.2.2 + 1)), none]) G dX5_kind_90 rfl rfl (by decide) rfl rfl ?_
            refine s_goto (tgt := 44) G dX5_kind_93 (by decide) ?_
            exact fun hx => hB44 (y78.1, y78.2, (z44.2.2 + 1)) hx
          · refine s_icmp_ge (tgt := 90) G dX5_kind_78 (by decide) ?_ ?_
            · refine s_keep [true, true, true, true, true, false] (lv2 := [some (.ref (w.1 0)), some (.int a1), some (.int z44.1), some (.int z44.2.1), some (.int z44.2.2), none]) rfl ?_
              exact fun hx => hB78 (z44.1, z44.2.1) hx
            · refine s_iload G dX5_kind_81 rfl ?_
              refine s_istore_n (lv2 := [some (.ref (w.1 0)), some (.int a1), some (.int z44.2.2), some (.int z44.2.1), some (.int z44.2.2), some (.int r67)]) G dX5_kind_83 (by decide) rfl rfl ?_
              refine s_iload G dX5_kind_84 rfl ?_
              refine s_callSi (as := [.int r67]) (st := []) G aw_self mdJ6_bitCount_0f7a4 (fun _ h => c_J6_bitCount_0f7a4 w O l r67 M _ h) qw337 rfl rfl (Nat.le_of_ble_eq_true rfl) (by decide) dX5_kind_86 (fun r86 => ?_)
              refine s_istore_n (lv2 := [some (.ref (w.1 0)), some (.int a1), some (.int z44.2.2), some (.int r86), some (.int z44.2.2), some (.int r67)]) G dX5_kind_89 (by decide) rfl rfl ?_
              refine s_keep [true, true, true, true, true, false] (lv2 := [some (.ref (w.1 0)), some (.int a1), some (.int z44.2.2), some (.int r86), some (.int z44.2.2), none]) rfl ?_
              exact fun hx => hB78 (z44.2.2, r86) hx

set_option maxRecDepth 100000 in
set_option maxHeartbeats 4000000 in
theorem c_X4_add (w : Wx) (O : Mem) (l : Launch) (a1 : Int32) (M : Mem)  (z : Mem) (hz : f_X4_add a1 M = some z) : Ct w 0 36 O l 0 muX4_add [.ref (w.1 23), .int a1] M (none, z) := by
  refine ct_of (X := f_X4_add a1 M) (K := fun v => some (none, v)) [some (.ref (w.1 23)), some (.int a1)] rfl rfl (Nat.le_of_ble_eq_true rfl) (by rw [hz]; rfl) ?_
  intro p e s m args below meth c G
  unfold f_X4_add
  refine s_aload_n G dX4_add_0 rfl ?_
  refine s_get (k := 23) (j := 1) G (.int (gI M 23 1)) ⟨by decide, by decide⟩ (ce23 w) rfl clX4 (by decide) qw162 rfl dX4_add_1 ?_
  refine s_bipush (v := 120) G dX4_add_4 (by decide) ?_
  refine s_join 29 (fun y6 : Mem => [none, none]) (fun y6 => []) (fun y6 => y6) (fun y6 => ?_) (fun K6 hB6 => ?_)
  · exact s_vret G rfl rfl dX4_add_29
  · refine s_icmp_ge (tgt := 29) G dX4_add_6 (by decide) ?_ ?_
    · refine s_keep [false, false] (lv2 := [none, none]) rfl ?_
      exact fun hx => hB6 M hx
    · refine s_aload_n G dX4_add_9 rfl ?_
      refine s_get (k := 23) (j := 0) G (.ref (w.1 24)) ⟨by decide, by decide⟩ (ce23 w) rfl clX4 (by decide) qw160 rfl dX4_add_10 ?_
      refine s_aload_n G dX4_add_13 rfl ?_
      refine s_get (k := 23) (j := 1) G (.int (gI M 23 1)) ⟨by decide, by decide⟩ (ce23 w) rfl clX4 (by decide) qw162 rfl dX4_add_14 ?_
      refine s_iload_n G dX4_add_17 rfl ?_
      refine s_bast (k := 24) (n := 120) G ⟨by decide, by decide⟩ (ce24 w) dX4_add_18 (fun m18 => ?_)
      refine s_aload_n G dX4_add_19 rfl ?_
      refine s_dup G dX4_add_20 rfl ?_
      refine s_get (k := 23) (j := 1) G (.int (gI m18 23 1)) ⟨by decide, by decide⟩ (ce23 w) rfl clX4 (by decide) qw162 rfl dX4_add_21 ?_
      refine s_iconst (v := 1) G dX4_add_24 (by decide) ?_
      refine s_iadd G dX4_add_25 ?_
      refine s_put (k := 23) (j := 1) G ⟨by decide, by decide⟩ (ce23 w) (fun _ => rfl) clX4 (by decide) (fun _ => (by decide : 1 < 2)) qw162 rfl rfl rfl rfl dX4_add_26 (fun m26 => ?_)
      refine s_keep [false, false] (lv2 := [none, none]) rfl ?_
      exact fun hx => hB6 m26 hx

set_option maxRecDepth 100000 in
set_option maxHeartbeats 4000000 in
theorem c_X5_feed (w : Wx) (O : Mem) (l : Launch) (a1 : Int32) (a2 : Int32) (M : Mem)  (z : Int32 × Mem) (hz : f_X5_feed a1 a2 M = some z) : Ct w 0 36 O l 1 muX5_feed [.ref (w.1 0), .int a1, .int a2] M (some (.int z.1), z.2) := by
  refine ct_of (X := f_X5_feed a1 a2 M) (K := fun v => some (some (.int v.1), v.2)) [some (.ref (w.1 0)), some (.int a1), some (.int a2), none] rfl rfl (Nat.le_of_ble_eq_true rfl) (by rw [hz]; rfl) ?_
  intro p e s m args below meth c G
  unfold f_X5_feed
  refine s_iload_n G dX5_feed_0 rfl ?_
  refine s_iconst (v := 1) G dX5_feed_1 (by decide) ?_
  refine s_icmp_lt (tgt := 10) G dX5_feed_2 (by decide) ?_ ?_
  · refine s_aload_n G dX5_feed_10 rfl ?_
    refine s_ldc (v := (-1000000001)) G dX5_feed_11 qw249 ?_
    refine s_callVI (as := [.int (-1000000001)]) (st := []) (k := 0) G aw_self mdX5_told (fun _ h => c_X5_told w O l (-1000000001) M _ h) ⟨by decide, by decide⟩ (ce0 w) clX5 rfl qw250 rfl rfl (Nat.le_of_ble_eq_true rfl) (by decide) dX5_feed_13 (fun r13 => ?_)
    exact s_iret G rfl rfl dX5_feed_16
  · refine s_iload_n G dX5_feed_5 rfl ?_
    refine s_iconst (v := 4) G dX5_feed_6 (by decide) ?_
    refine s_icmp_le (tgt := 17) G dX5_feed_7 (by decide) ?_ ?_
    · refine s_aload_n G dX5_feed_17 rfl ?_
      refine s_get (k := 0) (j := 4) G (.ref (w.1 23)) ⟨by decide, by decide⟩ (ce0 w) rfl clX5 (by decide) qw218 rfl dX5_feed_18 ?_
      refine s_get (k := 23) (j := 1) G (.int (gI M 23 1)) ⟨by decide, by decide⟩ (ce23 w) rfl clX4 (by decide) qw164 rfl dX5_feed_21 ?_
      refine s_iload_n G dX5_feed_24 rfl ?_
      refine s_iadd G dX5_feed_25 ?_
      refine s_bipush (v := 120) G dX5_feed_26 (by decide) ?_
      refine s_icmp_le (tgt := 38) G dX5_feed_28 (by decide) ?_ ?_
      · refine s_iload_n G dX5_feed_38 rfl ?_
        refine s_iconst (v := 1) G dX5_feed_39 (by decide) ?_
        refine s_isub G dX5_feed_40 ?_
        refine s_name (f := Value.int) (fun v41 => ?_)
        refine s_istore_n (lv2 := [some (.ref (w.1 0)), some (.int a1), some (.int a2), some (.int v41)]) G dX5_feed_41 (by decide) rfl rfl ?_
        refine s_keep [true, true, false, true] (lv2 := [some (.ref (w.1 0)), some (.int a1), none, some (.int v41)]) rfl ?_
        refine s_loopG (lvf := fun z42 : Int32 × Mem => [some (.ref (w.1 0)), some (.int a1), none, some (.int z42.1)]) (Mf := fun z42 : Int32 × Mem => z42.2) (ex := (fun x42_66 : Mem => (66, [some (.ref (w.1 0)), none, none, none], x42_66))) (el_one 66 (fun x42_66 : Mem => [some (.ref (w.1 0)), none, none, none]) (fun x42_66 : Mem => x42_66) (fun x42_66 => ?_)) (fun z42 K42 hB42 hE42 => ?_)
        · refine s_aload_n G dX5_feed_66 rfl ?_
          refine s_get (k := 0) (j := 4) G (.ref (w.1 23)) ⟨by decide, by decide⟩ (ce0 w) rfl clX5 (by decide) qw218 rfl dX5_feed_67 ?_
          refine s_get (k := 23) (j := 1) G (.int (gI x42_66 23 1)) ⟨by decide, by decide⟩ (ce23 w) rfl clX4 (by decide) qw164 rfl dX5_feed_70 ?_
          exact s_iret G rfl rfl dX5_feed_73
        · unfold f_X5_feed_L42
          refine s_iload_n G dX5_feed_42 rfl ?_
          refine s_if_lt (tgt := 66) G dX5_feed_43 (by decide) ?_ ?_
          · refine s_keep [true, false, false, false] (lv2 := [some (.ref (w.1 0)), none, none, none]) rfl ?_
            exact fun hx => hE42 z42.2 hx
          · refine s_aload_n G dX5_feed_46 rfl ?_
            refine s_get (k := 0) (j := 4) G (.ref (w.1 23)) ⟨by decide, by decide⟩ (ce0 w) rfl clX5 (by decide) qw218 rfl dX5_feed_47 ?_
            refine s_iload_n G dX5_feed_50 rfl ?_
            refine s_bipush (v := 8) G dX5_feed_51 (by decide) ?_
            refine s_iload_n G dX5_feed_53 rfl ?_
            refine s_imul G dX5_feed_54 ?_
            refine s_ishr G dX5_feed_55 ?_
            refine s_i2b G dX5_feed_56 ?_
            refine s_callVv (as := [.int (a1 >>> ((8 * z42.1) &&& 31)).toInt8.toInt32]) (st := []) (k := 23) G aw_self mdX4_add (fun _ h => c_X4_add w O l (a1 >>> ((8 * z42.1) &&& 31)).toInt8.toInt32 z42.2 _ h) ⟨by decide, by decide⟩ (ce23 w) clX4 rfl qw536 rfl rfl (Nat.le_of_ble_eq_true rfl) (by decide) dX5_feed_57 (fun r57 => ?_)
            refine s_iinc (v := (z42.1 + (-1))) (lv2 := [some (.ref (w.1 0)), some (.int a1), none, some (.int (z42.1 + (-1)))]) G dX5_feed_60 rfl rfl (by decide) rfl rfl ?_
            refine s_goto (tgt := 42) G dX5_feed_63 (by decide) ?_
            exact fun hx => hB42 ((z42.1 + (-1)), r57) hx
      · refine s_aload_n G dX5_feed_31 rfl ?_
        refine s_ldc (v := (-1000000002)) G dX5_feed_32 qw254 ?_
        refine s_callVI (as := [.int (-1000000002)]) (st := []) (k := 0) G aw_self mdX5_told (fun _ h => c_X5_told w O l (-1000000002) M _ h) ⟨by decide, by decide⟩ (ce0 w) clX5 rfl qw250 rfl rfl (Nat.le_of_ble_eq_true rfl) (by decide) dX5_feed_34 (fun r34 => ?_)
        exact s_iret G rfl rfl dX5_feed_37
    · refine s_aload_n G dX5_feed_10 rfl ?_
      refine s_ldc (v := (-1000000001)) G dX5_feed_11 qw249 ?_
      refine s_callVI (as := [.int (-1000000001)]) (st := []) (k := 0) G aw_self mdX5_told (fun _ h => c_X5_told w O l (-1000000001) M _ h) ⟨by decide, by decide⟩ (ce0 w) clX5 rfl qw250 rfl rfl (Nat.le_of_ble_eq_true rfl) (by decide) dX5_feed_13 (fun r13 => ?_)
      exact s_iret G rfl rfl dX5_feed_16

set_option maxRecDepth 100000 in
set_option maxHeartbeats 4000000 in
theorem c_X5_wipe (w : Wx) (O : Mem) (l : Launch)  (M : Mem)  (z : Int32 × Mem) (hz : f_X5_wipe  M = some z) : Ct w 0 36 O l 0 muX5_wipe [.ref (w.1 0)] M (some (.int z.1), z.2) := by
  refine ct_of (X := f_X5_wipe  M) (K := fun v => some (some (.int v.1), v.2)) [some (.ref (w.1 0)), none] rfl rfl (Nat.le_of_ble_eq_true rfl) (by rw [hz]; rfl) ?_
  intro p e s m args below meth c G
  unfold f_X5_wipe
  refine s_aload_n G dX5_wipe_0 rfl ?_
  refine s_get (k := 0) (j := 4) G (.ref (w.1 23)) ⟨by decide, by decide⟩ (ce0 w) rfl clX5 (by decide) qw218 rfl dX5_wipe_1 ?_
  refine s_get (k := 23) (j := 1) G (.int (gI M 23 1)) ⟨by decide, by decide⟩ (ce23 w) rfl clX4 (by decide) qw164 rfl dX5_wipe_4 ?_
  refine s_name (f := Value.int) (fun v7 => ?_)
  refine s_istore_n (lv2 := [some (.ref (w.1 0)), some (.int v7)]) G dX5_wipe_7 (by decide) rfl rfl ?_
  refine s_aload_n G dX5_wipe_8 rfl ?_
  refine s_get (k := 0) (j := 4) G (.ref (w.1 23)) ⟨by decide, by decide⟩ (ce0 w) rfl clX5 (by decide) qw218 rfl dX5_wipe_9 ?_
  refine s_iconst (v := 0) G dX5_wipe_12 (by decide) ?_
  refine s_put (k := 23) (j := 1) G ⟨by decide, by decide⟩ (ce23 w) (fun _ => rfl) clX4 (by decide) (fun _ => (by decide : 1 < 2)) qw164 rfl rfl rfl rfl dX5_wipe_13 (fun m13 => ?_)
  refine s_iload_n G dX5_wipe_16 rfl ?_
  exact s_iret G rfl rfl dX5_wipe_17

set_option maxRecDepth 100000 in
set_option maxHeartbeats 4000000 in
theorem c_X0_become_13_1 (w : Wx) (O : Mem) (l : Launch)  (M : Mem)  (z : Mem) (hz : f_X0_become_13_1  M = some z) : Ct w 0 36 O l 1 muX0_become [.ref (w.1 13), .ref (w.1 1)] M (none, z) := by
  refine ct_of (X := f_X0_become_13_1  M) (K := fun v => some (none, v)) [some (.ref (w.1 13)), some (.ref (w.1 1))] rfl rfl (Nat.le_of_ble_eq_true rfl) (by rw [hz]; rfl) ?_
  intro p e s m args below meth c G
  unfold f_X0_become_13_1
  refine s_aload_n G dX0_become_0 rfl ?_
  refine s_aload_n G dX0_become_1 rfl ?_
  refine s_get (k := 1) (j := 0) G (.int (gI M 1 0)) ⟨by decide, by decide⟩ (ce1 w) rfl clX0 (by decide) qw91 rfl dX0_become_2 ?_
  refine s_put (k := 13) (j := 0) G ⟨by decide, by decide⟩ (ce13 w) (fun _ => rfl) clX0 (by decide) (fun _ => (by decide : 0 < 9)) qw91 rfl rfl rfl rfl dX0_become_5 (fun m5 => ?_)
  refine s_aload_n G dX0_become_8 rfl ?_
  refine s_aload_n G dX0_become_9 rfl ?_
  refine s_get (k := 1) (j := 1) G (.int (gI m5 1 1)) ⟨by decide, by decide⟩ (ce1 w) rfl clX0 (by decide) qw94 rfl dX0_become_10 ?_
  refine s_put (k := 13) (j := 1) G ⟨by decide, by decide⟩ (ce13 w) (fun _ => rfl) clX0 (by decide) (fun _ => (by decide : 1 < 9)) qw94 rfl rfl rfl rfl dX0_become_13 (fun m13 => ?_)
  refine s_aload_n G dX0_become_16 rfl ?_
  refine s_aload_n G dX0_become_17 rfl ?_
  refine s_get (k := 1) (j := 2) G (.int (gI m13 1 2)) ⟨by decide, by decide⟩ (ce1 w) rfl clX0 (by decide) qw96 rfl dX0_become_18 ?_
  refine s_put (k := 13) (j := 2) G ⟨by decide, by decide⟩ (ce13 w) (fun _ => rfl) clX0 (by decide) (fun _ => (by decide : 2 < 9)) qw96 rfl rfl rfl rfl dX0_become_21 (fun m21 => ?_)
  refine s_aload_n G dX0_become_24 rfl ?_
  refine s_aload_n G dX0_become_25 rfl ?_
  refine s_get (k := 1) (j := 3) G (.int (gI m21 1 3)) ⟨by decide, by decide⟩ (ce1 w) rfl clX0 (by decide) qw99 rfl dX0_become_26 ?_
  refine s_put (k := 13) (j := 3) G ⟨by decide, by decide⟩ (ce13 w) (fun _ => rfl) clX0 (by decide) (fun _ => (by decide : 3 < 9)) qw99 rfl rfl rfl rfl dX0_become_29 (fun m29 => ?_)
  refine s_aload_n G dX0_become_32 rfl ?_
  refine s_get (k := 1) (j := 4) G (.ref (w.1 2)) ⟨by decide, by decide⟩ (ce1 w) rfl clX0 (by decide) qw103 rfl dX0_become_33 ?_
  refine s_iconst (v := 0) G dX0_become_36 (by decide) ?_
  refine s_aload_n G dX0_become_37 rfl ?_
  refine s_get (k := 13) (j := 4) G (.ref (w.1 14)) ⟨by decide, by decide⟩ (ce13 w) rfl clX0 (by decide) qw103 rfl dX0_become_38 ?_
  refine s_iconst (v := 0) G dX0_become_41 (by decide) ?_
  refine s_bipush (v := 12) G dX0_become_42 (by decide) ?_
  refine s_copyI (k0 := 2) (k1 := 14) (n0 := 12) (n1 := 12) (st := []) G ⟨by decide, by decide⟩ ⟨by decide, by decide⟩ (ce2 w) (ce14 w) (by decide) (by decide) (by decide) (by decide) (by decide) qw552 qw554 qw553 qw72 (by decide) (Nat.le_of_ble_eq_true rfl) dX0_become_44 (fun m44 => ?_)
  refine s_aload_n G dX0_become_47 rfl ?_
  refine s_get (k := 1) (j := 5) G (.ref (w.1 3)) ⟨by decide, by decide⟩ (ce1 w) rfl clX0 (by decide) qw106 rfl dX0_become_48 ?_
  refine s_iconst (v := 0) G dX0_become_51 (by decide) ?_
  refine s_aload_n G dX0_become_52 rfl ?_
  refine s_get (k := 13) (j := 5) G (.ref (w.1 15)) ⟨by decide, by decide⟩ (ce13 w) rfl clX0 (by decide) qw106 rfl dX0_become_53 ?_
  refine s_iconst (v := 0) G dX0_become_56 (by decide) ?_
  refine s_bipush (v := 12) G dX0_become_57 (by decide) ?_
  refine s_copyI (k0 := 3) (k1 := 15) (n0 := 12) (n1 := 12) (st := []) G ⟨by decide, by decide⟩ ⟨by decide, by decide⟩ (ce3 w) (ce15 w) (by decide) (by decide) (by decide) (by decide) (by decide) qw552 qw554 qw553 qw72 (by decide) (Nat.le_of_ble_eq_true rfl) dX0_become_59 (fun m59 => ?_)
  refine s_aload_n G dX0_become_62 rfl ?_
  refine s_get (k := 1) (j := 6) G (.ref (w.1 4)) ⟨by decide, by decide⟩ (ce1 w) rfl clX0 (by decide) qw109 rfl dX0_become_63 ?_
  refine s_iconst (v := 0) G dX0_become_66 (by decide) ?_
  refine s_aload_n G dX0_become_67 rfl ?_
  refine s_get (k := 13) (j := 6) G (.ref (w.1 16)) ⟨by decide, by decide⟩ (ce13 w) rfl clX0 (by decide) qw109 rfl dX0_become_68 ?_
  refine s_iconst (v := 0) G dX0_become_71 (by decide) ?_
  refine s_bipush (v := 12) G dX0_become_72 (by decide) ?_
  refine s_copyI (k0 := 4) (k1 := 16) (n0 := 12) (n1 := 12) (st := []) G ⟨by decide, by decide⟩ ⟨by decide, by decide⟩ (ce4 w) (ce16 w) (by decide) (by decide) (by decide) (by decide) (by decide) qw552 qw554 qw553 qw72 (by decide) (Nat.le_of_ble_eq_true rfl) dX0_become_74 (fun m74 => ?_)
  refine s_aload_n G dX0_become_77 rfl ?_
  refine s_get (k := 1) (j := 7) G (.ref (w.1 5)) ⟨by decide, by decide⟩ (ce1 w) rfl clX0 (by decide) qw112 rfl dX0_become_78 ?_
  refine s_iconst (v := 0) G dX0_become_81 (by decide) ?_
  refine s_aload_n G dX0_become_82 rfl ?_
  refine s_get (k := 13) (j := 7) G (.ref (w.1 17)) ⟨by decide, by decide⟩ (ce13 w) rfl clX0 (by decide) qw112 rfl dX0_become_83 ?_
  refine s_iconst (v := 0) G dX0_become_86 (by decide) ?_
  refine s_bipush (v := 12) G dX0_become_87 (by decide) ?_
  refine s_copyI (k0 := 5) (k1 := 17) (n0 := 12) (n1 := 12) (st := []) G ⟨by decide, by decide⟩ ⟨by decide, by decide⟩ (ce5 w) (ce17 w) (by decide) (by decide) (by decide) (by decide) (by decide) qw552 qw554 qw553 qw72 (by decide) (Nat.le_of_ble_eq_true rfl) dX0_become_89 (fun m89 => ?_)
  refine s_aload_n G dX0_become_92 rfl ?_
  refine s_get (k := 1) (j := 8) G (.ref (w.1 6)) ⟨by decide, by decide⟩ (ce1 w) rfl clX0 (by decide) qw115 rfl dX0_become_93 ?_
  refine s_iconst (v := 0) G dX0_become_96 (by decide) ?_
  refine s_aload_n G dX0_become_97 rfl ?_
  refine s_get (k := 13) (j := 8) G (.ref (w.1 18)) ⟨by decide, by decide⟩ (ce13 w) rfl clX0 (by decide) qw115 rfl dX0_become_98 ?_
  refine s_iconst (v := 0) G dX0_become_101 (by decide) ?_
  refine s_bipush (v := 24) G dX0_become_102 (by decide) ?_
  refine s_copyI (k0 := 6) (k1 := 18) (n0 := 24) (n1 := 24) (st := []) G ⟨by decide, by decide⟩ ⟨by decide, by decide⟩ (ce6 w) (ce18 w) (by decide) (by decide) (by decide) (by decide) (by decide) qw552 qw554 qw553 qw72 (by decide) (Nat.le_of_ble_eq_true rfl) dX0_become_104 (fun m104 => ?_)
  exact s_vret G rfl rfl dX0_become_107

set_option maxRecDepth 100000 in
set_option maxHeartbeats 4000000 in
theorem c_X1_isLetter (w : Wx) (O : Mem) (l : Launch) (a0 : Int32) (M : Mem)  (z : Int32) (hz : f_X1_isLetter a0 = some z) : Ct w 0 36 O l 0 muX1_isLetter [.int a0] M (some (.int z), M) := by
  refine ct_of (X := f_X1_isLetter a0) (K := fun v => some (some (.int v), M)) [some (.int a0)] rfl rfl (Nat.le_of_ble_eq_true rfl) (by rw [hz]; rfl) ?_
  intro p e s m args below meth c G
  unfold f_X1_isLetter
  refine s_iload_n G dX1_isLetter_0 rfl ?_
  refine s_bipush (v := 97) G dX1_isLetter_1 (by decide) ?_
  refine s_join 17 (fun y3 : Int32 => [none]) (fun y3 => [.int y3]) (fun y3 => M) (fun y3 => ?_) (fun K3 hB3 => ?_)
  · refine s_test (fun h17 => ?_)
    exact s_zret G rfl (zb_nar h17) rfl dX1_isLetter_17
  · refine s_icmp_lt (tgt := 16) G dX1_isLetter_3 (by decide) ?_ ?_
    · refine s_iconst (v := 0) G dX1_isLetter_16 (by decide) ?_
      refine s_keep [false] (lv2 := [none]) rfl ?_
      exact fun hx => hB3 0 hx
    · refine s_iload_n G dX1_isLetter_6 rfl ?_
      refine s_bipush (v := 122) G dX1_isLetter_7 (by decide) ?_
      refine s_icmp_gt (tgt := 16) G dX1_isLetter_9 (by decide) ?_ ?_
      · refine s_iconst (v := 0) G dX1_isLetter_16 (by decide) ?_
        refine s_keep [false] (lv2 := [none]) rfl ?_
        exact fun hx => hB3 0 hx
      · refine s_iconst (v := 1) G dX1_isLetter_12 (by decide) ?_
        refine s_goto (tgt := 17) G dX1_isLetter_13 (by decide) ?_
        refine s_keep [false] (lv2 := [none]) rfl ?_
        exact fun hx => hB3 1 hx

set_option maxRecDepth 100000 in
set_option maxHeartbeats 4000000 in
theorem c_X1_isDigit (w : Wx) (O : Mem) (l : Launch) (a0 : Int32) (M : Mem)  (z : Int32) (hz : f_X1_isDigit a0 = some z) : Ct w 0 36 O l 0 muX1_isDigit [.int a0] M (some (.int z), M) := by
  refine ct_of (X := f_X1_isDigit a0) (K := fun v => some (some (.int v), M)) [some (.int a0)] rfl rfl (Nat.le_of_ble_eq_true rfl) (by rw [hz]; rfl) ?_
  intro p e s m args below meth c G
  unfold f_X1_isDigit
  refine s_iload_n G dX1_isDigit_0 rfl ?_
  refine s_bipush (v := 48) G dX1_isDigit_1 (by decide) ?_
  refine s_join 17 (fun y3 : Int32 => [none]) (fun y3 => [.int y3]) (fun y3 => M) (fun y3 => ?_) (fun K3 hB3 => ?_)
  · refine s_test (fun h17 => ?_)
    exact s_zret G rfl (zb_nar h17) rfl dX1_isDigit_17
  · refine s_icmp_lt (tgt := 16) G dX1_isDigit_3 (by decide) ?_ ?_
    · refine s_iconst (v := 0) G dX1_isDigit_16 (by decide) ?_
      refine s_keep [false] (lv2 := [none]) rfl ?_
      exact fun hx => hB3 0 hx
    · refine s_iload_n G dX1_isDigit_6 rfl ?_
      refine s_bipush (v := 57) G dX1_isDigit_7 (by decide) ?_
      refine s_icmp_gt (tgt := 16) G dX1_isDigit_9 (by decide) ?_ ?_
      · refine s_iconst (v := 0) G dX1_isDigit_16 (by decide) ?_
        refine s_keep [false] (lv2 := [none]) rfl ?_
        exact fun hx => hB3 0 hx
      · refine s_iconst (v := 1) G dX1_isDigit_12 (by decide) ?_
        refine s_goto (tgt := 17) G dX1_isDigit_13 (by decide) ?_
        refine s_keep [false] (lv2 := [none]) rfl ?_
        exact fun hx => hB3 1 hx

set_option maxRecDepth 100000 in
set_option maxHeartbeats 4000000 in
theorem c_X1_stepNumber (w : Wx) (O : Mem) (l : Launch)  (M : Mem)  (z : Mem) (hz : f_X1_stepNumber  M = some z) : Ct w 0 36 O l 1 muX1_stepNumber [.ref (w.1 25)] M (none, z) := by
  refine ct_of (X := f_X1_stepNumber  M) (K := fun v => some (none, v)) [some (.ref (w.1 25))] rfl rfl (Nat.le_of_ble_eq_true rfl) (by rw [hz]; rfl) ?_
  intro p e s m args below meth c G
  unfold f_X1_stepNumber
  refine s_aload_n G dX1_stepNumber_0 rfl ?_
  refine s_iconst (v := 2) G dX1_stepNumber_1 (by decide) ?_
  refine s_put (k := 25) (j := 1) G ⟨by decide, by decide⟩ (ce25 w) (fun _ => rfl) clX1 (by decide) (fun _ => (by decide : 1 < 5)) qw178 rfl rfl rfl rfl dX1_stepNumber_2 (fun m2 => ?_)
  refine s_aload_n G dX1_stepNumber_5 rfl ?_
  refine s_iconst (v := 0) G dX1_stepNumber_6 (by decide) ?_
  refine s_put (k := 25) (j := 4) G ⟨by decide, by decide⟩ (ce25 w) (fun _ => rfl) clX1 (by decide) (fun _ => (by decide : 4 < 5)) qw181 rfl rfl rfl rfl dX1_stepNumber_7 (fun m7 => ?_)
  refine s_loopG (lvf := fun z10 : Mem => [some (.ref (w.1 25))]) (Mf := fun z10 : Mem => z10) (ex := (fun x10_88 : Mem => (88, [none], x10_88))) (el_one 88 (fun x10_88 : Mem => [none]) (fun x10_88 : Mem => x10_88) (fun x10_88 => ?_)) (fun z10 K10 hB10 hE10 => ?_)
  · exact s_vret G rfl rfl dX1_stepNumber_88
  · unfold f_X1_stepNumber_L10
    refine s_aload_n G dX1_stepNumber_10 rfl ?_
    refine s_get (k := 25) (j := 3) G (.int (gI z10 25 3)) ⟨by decide, by decide⟩ (ce25 w) rfl clX1 (by decide) qw180 rfl dX1_stepNumber_11 ?_
    refine s_aload_n G dX1_stepNumber_14 rfl ?_
    refine s_get (k := 25) (j := 0) G (.ref (w.1 23)) ⟨by decide, by decide⟩ (ce25 w) rfl clX1 (by decide) qw177 rfl dX1_stepNumber_15 ?_
    refine s_get (k := 23) (j := 1) G (.int (gI z10 23 1)) ⟨by decide, by decide⟩ (ce23 w) rfl clX4 (by decide) qw163 rfl dX1_stepNumber_18 ?_
    refine s_icmp_ge (tgt := 88) G dX1_stepNumber_21 (by decide) ?_ ?_
    · refine s_keep [false] (lv2 := [none]) rfl ?_
      exact fun hx => hE10 z10 hx
    · refine s_aload_n G dX1_stepNumber_24 rfl ?_
      refine s_get (k := 25) (j := 0) G (.ref (w.1 23)) ⟨by decide, by decide⟩ (ce25 w) rfl clX1 (by decide) qw177 rfl dX1_stepNumber_25 ?_
      refine s_get (k := 23) (j := 0) G (.ref (w.1 24)) ⟨by decide, by decide⟩ (ce23 w) rfl clX4 (by decide) qw161 rfl dX1_stepNumber_28 ?_
      refine s_aload_n G dX1_stepNumber_31 rfl ?_
      refine s_get (k := 25) (j := 3) G (.int (gI z10 25 3)) ⟨by decide, by decide⟩ (ce25 w) rfl clX1 (by decide) qw180 rfl dX1_stepNumber_32 ?_
      refine s_bald (k := 24) (n := 120) G ⟨by decide, by decide⟩ (ce24 w) dX1_stepNumber_35 ?_
      refine s_callSi (as := [.int (gI z10 24 (gI z10 25 3).toNatClampNeg)]) (st := []) G aw_self mdX1_isDigit (fun _ h => c_X1_isDigit w O l (gI z10 24 (gI z10 25 3).toNatClampNeg) z10 _ h) qw570 rfl rfl (Nat.le_of_ble_eq_true rfl) (by decide) dX1_stepNumber_36 (fun r36 => ?_)
      refine s_if_eq (tgt := 88) G dX1_stepNumber_39 (by decide) ?_ ?_
      · refine s_keep [false] (lv2 := [none]) rfl ?_
        exact fun hx => hE10 z10 hx
      · refine s_aload_n G dX1_stepNumber_42 rfl ?_
        refine s_aload_n G dX1_stepNumber_43 rfl ?_
        refine s_get (k := 25) (j := 4) G (.int (gI z10 25 4)) ⟨by decide, by decide⟩ (ce25 w) rfl clX1 (by decide) qw181 rfl dX1_stepNumber_44 ?_
        refine s_bipush (v := 10) G dX1_stepNumber_47 (by decide) ?_
        refine s_imul G dX1_stepNumber_49 ?_
        refine s_aload_n G dX1_stepNumber_50 rfl ?_
        refine s_get (k := 25) (j := 0) G (.ref (w.1 23)) ⟨by decide, by decide⟩ (ce25 w) rfl clX1 (by decide) qw177 rfl dX1_stepNumber_51 ?_
        refine s_get (k := 23) (j := 0) G (.ref (w.1 24)) ⟨by decide, by decide⟩ (ce23 w) rfl clX4 (by decide) qw161 rfl dX1_stepNumber_54 ?_
        refine s_aload_n G dX1_stepNumber_57 rfl ?_
        refine s_get (k := 25) (j := 3) G (.int (gI z10 25 3)) ⟨by decide, by decide⟩ (ce25 w) rfl clX1 (by decide) qw180 rfl dX1_stepNumber_58 ?_
        refine s_bald (k := 24) (n := 120) G ⟨by decide, by decide⟩ (ce24 w) dX1_stepNumber_61 ?_
        refine s_iadd G dX1_stepNumber_62 ?_
        refine s_bipush (v := 48) G dX1_stepNumber_63 (by decide) ?_
        refine s_isub G dX1_stepNumber_65 ?_
        refine s_sipush (v := 1000) G dX1_stepNumber_66 (by decide) ?_
        refine s_mmin (st := [.ref (w.1 25)]) G qw577 qw330 qw70 qMath_min (by decide) (Nat.le_of_ble_eq_true rfl) dX1_stepNumber_69 ?_
        refine s_put (k := 25) (j := 4) G ⟨by decide, by decide⟩ (ce25 w) (fun _ => rfl) clX1 (by decide) (fun _ => (by decide : 4 < 5)) qw181 rfl rfl rfl rfl dX1_stepNumber_72 (fun m72 => ?_)
        refine s_aload_n G dX1_stepNumber_75 rfl ?_
        refine s_dup G dX1_stepNumber_76 rfl ?_
        refine s_get (k := 25) (j := 3) G (.int (gI m72 25 3)) ⟨by decide, by decide⟩ (ce25 w) rfl clX1 (by decide) qw180 rfl dX1_stepNumber_77 ?_
        refine s_iconst (v := 1) G dX1_stepNumber_80 (by decide) ?_
        refine s_iadd G dX1_stepNumber_81 ?_
        refine s_put (k := 25) (j := 3) G ⟨by decide, by decide⟩ (ce25 w) (fun _ => rfl) clX1 (by decide) (fun _ => (by decide : 3 < 5)) qw180 rfl rfl rfl rfl dX1_stepNumber_82 (fun m82 => ?_)
        refine s_goto (tgt := 10) G dX1_stepNumber_85 (by decide) ?_
        exact fun hx => hB10 m82 hx

set_option maxRecDepth 100000 in
set_option maxHeartbeats 4000000 in
theorem c_X1_stepWord (w : Wx) (O : Mem) (l : Launch)  (M : Mem)  (z : Mem) (hz : f_X1_stepWord  M = some z) : Ct w 0 36 O l 1 muX1_stepWord [.ref (w.1 25)] M (none, z) := by
  refine ct_of (X := f_X1_stepWord  M) (K := fun v => some (none, v)) [some (.ref (w.1 25))] rfl rfl (Nat.le_of_ble_eq_true rfl) (by rw [hz]; rfl) ?_
  intro p e s m args below meth c G
  unfold f_X1_stepWord
  refine s_aload_n G dX1_stepWord_0 rfl ?_
  refine s_iconst (v := 1) G dX1_stepWord_1 (by decide) ?_
  refine s_put (k := 25) (j := 1) G ⟨by decide, by decide⟩ (ce25 w) (fun _ => rfl) clX1 (by decide) (fun _ => (by decide : 1 < 5)) qw178 rfl rfl rfl rfl dX1_stepWord_2 (fun m2 => ?_)
  refine s_loopG (lvf := fun z5 : Mem => [some (.ref (w.1 25))]) (Mf := fun z5 : Mem => z5) (ex := (fun x5_50 : Mem => (50, [none], x5_50))) (el_one 50 (fun x5_50 : Mem => [none]) (fun x5_50 : Mem => x5_50) (fun x5_50 => ?_)) (fun z5 K5 hB5 hE5 => ?_)
  · exact s_vret G rfl rfl dX1_stepWord_50
  · unfold f_X1_stepWord_L5
    refine s_aload_n G dX1_stepWord_5 rfl ?_
    refine s_get (k := 25) (j := 3) G (.int (gI z5 25 3)) ⟨by decide, by decide⟩ (ce25 w) rfl clX1 (by decide) qw180 rfl dX1_stepWord_6 ?_
    refine s_aload_n G dX1_stepWord_9 rfl ?_
    refine s_get (k := 25) (j := 0) G (.ref (w.1 23)) ⟨by decide, by decide⟩ (ce25 w) rfl clX1 (by decide) qw177 rfl dX1_stepWord_10 ?_
    refine s_get (k := 23) (j := 1) G (.int (gI z5 23 1)) ⟨by decide, by decide⟩ (ce23 w) rfl clX4 (by decide) qw163 rfl dX1_stepWord_13 ?_
    refine s_icmp_ge (tgt := 50) G dX1_stepWord_16 (by decide) ?_ ?_
    · refine s_keep [false] (lv2 := [none]) rfl ?_
      exact fun hx => hE5 z5 hx
    · refine s_aload_n G dX1_stepWord_19 rfl ?_
      refine s_get (k := 25) (j := 0) G (.ref (w.1 23)) ⟨by decide, by decide⟩ (ce25 w) rfl clX1 (by decide) qw177 rfl dX1_stepWord_20 ?_
      refine s_get (k := 23) (j := 0) G (.ref (w.1 24)) ⟨by decide, by decide⟩ (ce23 w) rfl clX4 (by decide) qw161 rfl dX1_stepWord_23 ?_
      refine s_aload_n G dX1_stepWord_26 rfl ?_
      refine s_get (k := 25) (j := 3) G (.int (gI z5 25 3)) ⟨by decide, by decide⟩ (ce25 w) rfl clX1 (by decide) qw180 rfl dX1_stepWord_27 ?_
      refine s_bald (k := 24) (n := 120) G ⟨by decide, by decide⟩ (ce24 w) dX1_stepWord_30 ?_
      refine s_callSi (as := [.int (gI z5 24 (gI z5 25 3).toNatClampNeg)]) (st := []) G aw_self mdX1_isLetter (fun _ h => c_X1_isLetter w O l (gI z5 24 (gI z5 25 3).toNatClampNeg) z5 _ h) qw563 rfl rfl (Nat.le_of_ble_eq_true rfl) (by decide) dX1_stepWord_31 (fun r31 => ?_)
      refine s_if_eq (tgt := 50) G dX1_stepWord_34 (by decide) ?_ ?_
      · refine s_keep [false] (lv2 := [none]) rfl ?_
        exact fun hx => hE5 z5 hx
      · refine s_aload_n G dX1_stepWord_37 rfl ?_
        refine s_dup G dX1_stepWord_38 rfl ?_
        refine s_get (k := 25) (j := 3) G (.int (gI z5 25 3)) ⟨by decide, by decide⟩ (ce25 w) rfl clX1 (by decide) qw180 rfl dX1_stepWord_39 ?_
        refine s_iconst (v := 1) G dX1_stepWord_42 (by decide) ?_
        refine s_iadd G dX1_stepWord_43 ?_
        refine s_put (k := 25) (j := 3) G ⟨by decide, by decide⟩ (ce25 w) (fun _ => rfl) clX1 (by decide) (fun _ => (by decide : 3 < 5)) qw180 rfl rfl rfl rfl dX1_stepWord_44 (fun m44 => ?_)
        refine s_goto (tgt := 5) G dX1_stepWord_47 (by decide) ?_
        exact fun hx => hB5 m44 hx

set_option maxRecDepth 100000 in
set_option maxHeartbeats 4000000 in
theorem c_X1_step (w : Wx) (O : Mem) (l : Launch)  (M : Mem)  (z : Mem) (hz : f_X1_step  M = some z) : Ct w 0 36 O l 2 muX1_step [.ref (w.1 25)] M (none, z) := by
  refine ct_of (X := f_X1_step  M) (K := fun v => some (none, v)) [some (.ref (w.1 25))] rfl rfl (Nat.le_of_ble_eq_true rfl) (by rw [hz]; rfl) ?_
  intro p e s m args below meth c G
  unfold f_X1_step
  refine s_aload_n G dX1_step_0 rfl ?_
  refine s_aload_n G dX1_step_1 rfl ?_
  refine s_get (k := 25) (j := 3) G (.int (gI M 25 3)) ⟨by decide, by decide⟩ (ce25 w) rfl clX1 (by decide) qw180 rfl dX1_step_2 ?_
  refine s_put (k := 25) (j := 2) G ⟨by decide, by decide⟩ (ce25 w) (fun _ => rfl) clX1 (by decide) (fun _ => (by decide : 2 < 5)) qw179 rfl rfl rfl rfl dX1_step_5 (fun m5 => ?_)
  refine s_loopG (lvf := fun z8 : Mem => [some (.ref (w.1 25))]) (Mf := fun z8 : Mem => z8) (ex := (fun x8_52 : Mem => (52, [some (.ref (w.1 25))], x8_52))) (el_one 52 (fun x8_52 : Mem => [some (.ref (w.1 25))]) (fun x8_52 : Mem => x8_52) (fun x8_52 => ?_)) (fun z8 K8 hB8 hE8 => ?_)
  · refine s_aload_n G dX1_step_52 rfl ?_
    refine s_aload_n G dX1_step_53 rfl ?_
    refine s_get (k := 25) (j := 2) G (.int (gI x8_52 25 2)) ⟨by decide, by decide⟩ (ce25 w) rfl clX1 (by decide) qw179 rfl dX1_step_54 ?_
    refine s_put (k := 25) (j := 3) G ⟨by decide, by decide⟩ (ce25 w) (fun _ => rfl) clX1 (by decide) (fun _ => (by decide : 3 < 5)) qw180 rfl rfl rfl rfl dX1_step_57 (fun m57 => ?_)
    refine s_aload_n G dX1_step_60 rfl ?_
    refine s_get (k := 25) (j := 2) G (.int (gI m57 25 2)) ⟨by decide, by decide⟩ (ce25 w) rfl clX1 (by decide) qw179 rfl dX1_step_61 ?_
    refine s_aload_n G dX1_step_64 rfl ?_
    refine s_get (k := 25) (j := 0) G (.ref (w.1 23)) ⟨by decide, by decide⟩ (ce25 w) rfl clX1 (by decide) qw177 rfl dX1_step_65 ?_
    refine s_get (k := 23) (j := 1) G (.int (gI m57 23 1)) ⟨by decide, by decide⟩ (ce23 w) rfl clX4 (by decide) qw163 rfl dX1_step_68 ?_
    refine s_join 168 (fun y71 : Mem => [none]) (fun y71 => []) (fun y71 => y71) (fun y71 => ?_) (fun K71 hB71 => ?_)
    · exact s_vret G rfl rfl dX1_step_168
    · refine s_icmp_lt (tgt := 82) G dX1_step_71 (by decide) ?_ ?_
      · refine s_aload_n G dX1_step_82 rfl ?_
        refine s_get (k := 25) (j := 0) G (.ref (w.1 23)) ⟨by decide, by decide⟩ (ce25 w) rfl clX1 (by decide) qw177 rfl dX1_step_83 ?_
        refine s_get (k := 23) (j := 0) G (.ref (w.1 24)) ⟨by decide, by decide⟩ (ce23 w) rfl clX4 (by decide) qw161 rfl dX1_step_86 ?_
        refine s_aload_n G dX1_step_89 rfl ?_
        refine s_get (k := 25) (j := 2) G (.int (gI m57 25 2)) ⟨by decide, by decide⟩ (ce25 w) rfl clX1 (by decide) qw179 rfl dX1_step_90 ?_
        refine s_bald (k := 24) (n := 120) G ⟨by decide, by decide⟩ (ce24 w) dX1_step_93 ?_
        refine s_callSi (as := [.int (gI m57 24 (gI m57 25 2).toNatClampNeg)]) (st := []) G aw_self mdX1_isLetter (fun _ h => c_X1_isLetter w O l (gI m57 24 (gI m57 25 2).toNatClampNeg) m57 _ h) qw563 rfl rfl (Nat.le_of_ble_eq_true rfl) (by decide) dX1_step_94 (fun r94 => ?_)
        refine s_if_eq (tgt := 107) G dX1_step_97 (by decide) ?_ ?_
        · refine s_aload_n G dX1_step_107 rfl ?_
          refine s_get (k := 25) (j := 0) G (.ref (w.1 23)) ⟨by decide, by decide⟩ (ce25 w) rfl clX1 (by decide) qw177 rfl dX1_step_108 ?_
          refine s_get (k := 23) (j := 0) G (.ref (w.1 24)) ⟨by decide, by decide⟩ (ce23 w) rfl clX4 (by decide) qw161 rfl dX1_step_111 ?_
          refine s_aload_n G dX1_step_114 rfl ?_
          refine s_get (k := 25) (j := 2) G (.int (gI m57 25 2)) ⟨by decide, by decide⟩ (ce25 w) rfl clX1 (by decide) qw179 rfl dX1_step_115 ?_
          refine s_bald (k := 24) (n := 120) G ⟨by decide, by decide⟩ (ce24 w) dX1_step_118 ?_
          refine s_callSi (as := [.int (gI m57 24 (gI m57 25 2).toNatClampNeg)]) (st := []) G aw_self mdX1_isDigit (fun _ h => c_X1_isDigit w O l (gI m57 24 (gI m57 25 2).toNatClampNeg) m57 _ h) qw570 rfl rfl (Nat.le_of_ble_eq_true rfl) (by decide) dX1_step_119 (fun r119 => ?_)
          refine s_if_eq (tgt := 132) G dX1_step_122 (by decide) ?_ ?_
          · refine s_aload_n G dX1_step_132 rfl ?_
            refine s_aload_n G dX1_step_133 rfl ?_
            refine s_get (k := 25) (j := 0) G (.ref (w.1 23)) ⟨by decide, by decide⟩ (ce25 w) rfl clX1 (by decide) qw177 rfl dX1_step_134 ?_
            refine s_get (k := 23) (j := 0) G (.ref (w.1 24)) ⟨by decide, by decide⟩ (ce23 w) rfl clX4 (by decide) qw161 rfl dX1_step_137 ?_
            refine s_aload_n G dX1_step_140 rfl ?_
            refine s_get (k := 25) (j := 2) G (.int (gI m57 25 2)) ⟨by decide, by decide⟩ (ce25 w) rfl clX1 (by decide) qw179 rfl dX1_step_141 ?_
            refine s_bald (k := 24) (n := 120) G ⟨by decide, by decide⟩ (ce24 w) dX1_step_144 ?_
            refine s_bipush (v := 59) G dX1_step_145 (by decide) ?_
            refine s_join 155 (fun y147 : Int32 => [some (.ref (w.1 25))]) (fun y147 => [.int y147, .ref (w.1 25)]) (fun y147 => m57) (fun y147 => ?_) (fun K147 hB147 => ?_)
            · refine s_put (k := 25) (j := 1) G ⟨by decide, by decide⟩ (ce25 w) (fun _ => rfl) clX1 (by decide) (fun _ => (by decide : 1 < 5)) qw178 rfl rfl rfl rfl dX1_step_155 (fun m155 => ?_)
              refine s_aload_n G dX1_step_158 rfl ?_
              refine s_aload_n G dX1_step_159 rfl ?_
              refine s_get (k := 25) (j := 2) G (.int (gI m155 25 2)) ⟨by decide, by decide⟩ (ce25 w) rfl clX1 (by decide) qw179 rfl dX1_step_160 ?_
              refine s_iconst (v := 1) G dX1_step_163 (by decide) ?_
              refine s_iadd G dX1_step_164 ?_
              refine s_put (k := 25) (j := 3) G ⟨by decide, by decide⟩ (ce25 w) (fun _ => rfl) clX1 (by decide) (fun _ => (by decide : 3 < 5)) qw180 rfl rfl rfl rfl dX1_step_165 (fun m165 => ?_)
              refine s_keep [false] (lv2 := [none]) rfl ?_
              exact fun hx => hB71 m165 hx
            · refine s_icmp_ne (tgt := 154) G dX1_step_147 (by decide) ?_ ?_
              · refine s_iconst (v := 3) G dX1_step_150 (by decide) ?_
                refine s_goto (tgt := 155) G dX1_step_151 (by decide) ?_
                exact fun hx => hB147 3 hx
              · refine s_iconst (v := 4) G dX1_step_154 (by decide) ?_
                exact fun hx => hB147 4 hx
          · refine s_aload_n G dX1_step_125 rfl ?_
            refine s_callVv (as := []) (st := []) (k := 25) G aw_self mdX1_stepNumber (fun _ h => c_X1_stepNumber w O l m57 _ h) ⟨by decide, by decide⟩ (ce25 w) clX1 rfl qw573 rfl rfl (Nat.le_of_ble_eq_true rfl) (by decide) dX1_step_126 (fun r126 => ?_)
            refine s_goto (tgt := 168) G dX1_step_129 (by decide) ?_
            refine s_keep [false] (lv2 := [none]) rfl ?_
            exact fun hx => hB71 r126 hx
        · refine s_aload_n G dX1_step_100 rfl ?_
          refine s_callVv (as := []) (st := []) (k := 25) G aw_self mdX1_stepWord (fun _ h => c_X1_stepWord w O l m57 _ h) ⟨by decide, by decide⟩ (ce25 w) clX1 rfl qw566 rfl rfl (Nat.le_of_ble_eq_true rfl) (by decide) dX1_step_101 (fun r101 => ?_)
          refine s_goto (tgt := 168) G dX1_step_104 (by decide) ?_
          refine s_keep [false] (lv2 := [none]) rfl ?_
          exact fun hx => hB71 r101 hx
      · refine s_aload_n G dX1_step_74 rfl ?_
        refine s_iconst (v := 0) G dX1_step_75 (by decide) ?_
        refine s_put (k := 25) (j := 1) G ⟨by decide, by decide⟩ (ce25 w) (fun _ => rfl) clX1 (by decide) (fun _ => (by decide : 1 < 5)) qw178 rfl rfl rfl rfl dX1_step_76 (fun m76 => ?_)
        refine s_goto (tgt := 168) G dX1_step_79 (by decide) ?_
        refine s_keep [false] (lv2 := [none]) rfl ?_
        exact fun hx => hB71 m76 hx
  · unfold f_X1_step_L8
    refine s_aload_n G dX1_step_8 rfl ?_
    refine s_get (k := 25) (j := 2) G (.int (gI z8 25 2)) ⟨by decide, by decide⟩ (ce25 w) rfl clX1 (by decide) qw179 rfl dX1_step_9 ?_
    refine s_aload_n G dX1_step_12 rfl ?_
    refine s_get (k := 25) (j := 0) G (.ref (w.1 23)) ⟨by decide, by decide⟩ (ce25 w) rfl clX1 (by decide) qw177 rfl dX1_step_13 ?_
    refine s_get (k := 23) (j := 1) G (.int (gI z8 23 1)) ⟨by decide, by decide⟩ (ce23 w) rfl clX4 (by decide) qw163 rfl dX1_step_16 ?_
    refine s_icmp_ge (tgt := 52) G dX1_step_19 (by decide) ?_ ?_
    · exact fun hx => hE8 z8 hx
    · refine s_aload_n G dX1_step_22 rfl ?_
      refine s_get (k := 25) (j := 0) G (.ref (w.1 23)) ⟨by decide, by decide⟩ (ce25 w) rfl clX1 (by decide) qw177 rfl dX1_step_23 ?_
      refine s_get (k := 23) (j := 0) G (.ref (w.1 24)) ⟨by decide, by decide⟩ (ce23 w) rfl clX4 (by decide) qw161 rfl dX1_step_26 ?_
      refine s_aload_n G dX1_step_29 rfl ?_
      refine s_get (k := 25) (j := 2) G (.int (gI z8 25 2)) ⟨by decide, by decide⟩ (ce25 w) rfl clX1 (by decide) qw179 rfl dX1_step_30 ?_
      refine s_bald (k := 24) (n := 120) G ⟨by decide, by decide⟩ (ce24 w) dX1_step_33 ?_
      refine s_bipush (v := 32) G dX1_step_34 (by decide) ?_
      refine s_icmp_ne (tgt := 52) G dX1_step_36 (by decide) ?_ ?_
      · refine s_aload_n G dX1_step_39 rfl ?_
        refine s_dup G dX1_step_40 rfl ?_
        refine s_get (k := 25) (j := 2) G (.int (gI z8 25 2)) ⟨by decide, by decide⟩ (ce25 w) rfl clX1 (by decide) qw179 rfl dX1_step_41 ?_
        refine s_iconst (v := 1) G dX1_step_44 (by decide) ?_
        refine s_iadd G dX1_step_45 ?_
        refine s_put (k := 25) (j := 2) G ⟨by decide, by decide⟩ (ce25 w) (fun _ => rfl) clX1 (by decide) (fun _ => (by decide : 2 < 5)) qw179 rfl rfl rfl rfl dX1_step_46 (fun m46 => ?_)
        refine s_goto (tgt := 8) G dX1_step_49 (by decide) ?_
        exact fun hx => hB8 m46 hx
      · exact fun hx => hE8 z8 hx

set_option maxRecDepth 100000 in
set_option maxHeartbeats 4000000 in
theorem c_X1_isWord (w : Wx) (O : Mem) (l : Launch) (a1 : Nat) (M : Mem)  (z : Int32) (hz : f_X1_isWord a1 M = some z) : Ct w 0 36 O l 5 muX1_isWord [.ref (w.1 25), .ref (w.2.2.2.1 a1)] M (some (.int z), M) := by
  refine ct_of (X := f_X1_isWord a1 M) (K := fun v => some (some (.int v), M)) [some (.ref (w.1 25)), some (.ref (w.2.2.2.1 a1)), none] rfl rfl (Nat.le_of_ble_eq_true rfl) (by rw [hz]; rfl) ?_
  intro p e s m args below meth c G
  unfold f_X1_isWord
  refine s_aload_n G dX1_isWord_0 rfl ?_
  refine s_get (k := 25) (j := 1) G (.int (gI M 25 1)) ⟨by decide, by decide⟩ (ce25 w) rfl clX1 (by decide) qw178 rfl dX1_isWord_1 ?_
  refine s_iconst (v := 1) G dX1_isWord_4 (by decide) ?_
  refine s_icmp_ne (tgt := 24) G dX1_isWord_5 (by decide) ?_ ?_
  · refine s_aload_n G dX1_isWord_8 rfl ?_
    refine s_get (k := 25) (j := 3) G (.int (gI M 25 3)) ⟨by decide, by decide⟩ (ce25 w) rfl clX1 (by decide) qw180 rfl dX1_isWord_9 ?_
    refine s_aload_n G dX1_isWord_12 rfl ?_
    refine s_get (k := 25) (j := 2) G (.int (gI M 25 2)) ⟨by decide, by decide⟩ (ce25 w) rfl clX1 (by decide) qw179 rfl dX1_isWord_13 ?_
    refine s_isub G dX1_isWord_16 ?_
    refine s_aload_n G dX1_isWord_17 rfl ?_
    refine s_slen (st := [.int ((gI M 25 3) - (gI M 25 2))]) G aw_self qw587 (Nat.le_of_ble_eq_true rfl) (by decide) dX1_isWord_18 (fun r18 => ?_)
    refine s_icmp_eq (tgt := 26) G dX1_isWord_21 (by decide) ?_ ?_
    · refine s_iconst (v := 0) G dX1_isWord_26 (by decide) ?_
      refine s_istore_n (lv2 := [some (.ref (w.1 25)), some (.ref (w.2.2.2.1 a1)), some (.int 0)]) G dX1_isWord_27 (by decide) rfl rfl ?_
      refine s_loopG (lvf := fun z28 : Int32 => [some (.ref (w.1 25)), some (.ref (w.2.2.2.1 a1)), some (.int z28)]) (Mf := fun z28 : Int32 => M) (ex := (el (fun x28_58 : Unit => (58, [none, none, none], M)) (fun x28_66 : Unit => (66, [none, none, none], M)))) (el_all 58 (fun x28_58 : Unit => [none, none, none]) (fun x28_58 : Unit => M) (fun x28_58 => ?_) (el_one 66 (fun x28_66 : Unit => [none, none, none]) (fun x28_66 : Unit => M) (fun x28_66 => ?_))) (fun z28 K28 hB28 hE28 => ?_)
      · refine s_iconst (v := 0) G dX1_isWord_58 (by decide) ?_
        exact s_zret G rfl rfl rfl dX1_isWord_59
      · refine s_iconst (v := 1) G dX1_isWord_66 (by decide) ?_
        exact s_zret G rfl rfl rfl dX1_isWord_67
      · unfold f_X1_isWord_L28
        refine s_iload_n G dX1_isWord_28 rfl ?_
        refine s_aload_n G dX1_isWord_29 rfl ?_
        refine s_slen (st := [.int z28]) G aw_self qw587 (Nat.le_of_ble_eq_true rfl) (by decide) dX1_isWord_30 (fun r30 => ?_)
        refine s_icmp_ge (tgt := 66) G dX1_isWord_33 (by decide) ?_ ?_
        · refine s_keep [false, false, false] (lv2 := [none, none, none]) rfl ?_
          exact fun hx => hE28 (.inr ()) hx
        · refine s_aload_n G dX1_isWord_36 rfl ?_
          refine s_get (k := 25) (j := 0) G (.ref (w.1 23)) ⟨by decide, by decide⟩ (ce25 w) rfl clX1 (by decide) qw177 rfl dX1_isWord_37 ?_
          refine s_get (k := 23) (j := 0) G (.ref (w.1 24)) ⟨by decide, by decide⟩ (ce23 w) rfl clX4 (by decide) qw161 rfl dX1_isWord_40 ?_
          refine s_aload_n G dX1_isWord_43 rfl ?_
          refine s_get (k := 25) (j := 2) G (.int (gI M 25 2)) ⟨by decide, by decide⟩ (ce25 w) rfl clX1 (by decide) qw179 rfl dX1_isWord_44 ?_
          refine s_iload_n G dX1_isWord_47 rfl ?_
          refine s_iadd G dX1_isWord_48 ?_
          refine s_bald (k := 24) (n := 120) G ⟨by decide, by decide⟩ (ce24 w) dX1_isWord_49 ?_
          refine s_aload_n G dX1_isWord_50 rfl ?_
          refine s_iload_n G dX1_isWord_51 rfl ?_
          refine s_scat (st := [.int (gI M 24 ((gI M 25 2) + z28).toNatClampNeg)]) G aw_self qw597 (Nat.le_of_ble_eq_true rfl) (by decide) dX1_isWord_52 (fun r52 => ?_)
          refine s_icmp_eq (tgt := 60) G dX1_isWord_55 (by decide) ?_ ?_
          · refine s_iinc (v := (z28 + 1)) (lv2 := [some (.ref (w.1 25)), some (.ref (w.2.2.2.1 a1)), some (.int (z28 + 1))]) G dX1_isWord_60 rfl rfl (by decide) rfl rfl ?_
            refine s_goto (tgt := 28) G dX1_isWord_63 (by decide) ?_
            exact fun hx => hB28 (z28 + 1) hx
          · refine s_keep [false, false, false] (lv2 := [none, none, none]) rfl ?_
            exact fun hx => hE28 (.inl ()) hx
    · refine s_iconst (v := 0) G dX1_isWord_24 (by decide) ?_
      exact s_zret G rfl rfl rfl dX1_isWord_25
  · refine s_iconst (v := 0) G dX1_isWord_24 (by decide) ?_
    exact s_zret G rfl rfl rfl dX1_isWord_25

set_option maxRecDepth 100000 in
set_option maxHeartbeats 4000000 in
theorem c_X5_kindName (w : Wx) (O : Mem) (l : Launch) (a0 : Int32) (M : Mem)  (z : Nat) (hz : f_X5_kindName a0 = some z) : Ct w 0 36 O l 0 muX5_kindName [.int a0] M (some (.ref (w.2.2.2.1 z)), M) := by
  refine ct_of (X := f_X5_kindName a0) (K := fun v => some (some (.ref (w.2.2.2.1 v)), M)) [some (.int a0)] rfl rfl (Nat.le_of_ble_eq_true rfl) (by rw [hz]; rfl) ?_
  intro p e s m args below meth c G
  unfold f_X5_kindName
  refine s_iload_n G dX5_kindName_0 rfl ?_
  refine s_tabIn (v := 0) (off := 35) (tgt := 36) G dX5_kindName_1 (by decide) (by decide) (by decide) (by decide) ?_ (fun h1_0 => ?_)
  · refine s_ldcwS (i := 0) G dX5_kindName_36 rfl ?_
    exact s_aret G rfl rfl dX5_kindName_39
  · refine s_tabIn (v := 1) (off := 39) (tgt := 40) G dX5_kindName_1 (by decide) (by decide) (by decide) (by decide) ?_ (fun h1_1 => ?_)
    · refine s_ldcwS (i := 1) G dX5_kindName_40 rfl ?_
      exact s_aret G rfl rfl dX5_kindName_43
    · refine s_tabIn (v := 2) (off := 43) (tgt := 44) G dX5_kindName_1 (by decide) (by decide) (by decide) (by decide) ?_ (fun h1_2 => ?_)
      · refine s_ldcwS (i := 2) G dX5_kindName_44 rfl ?_
        exact s_aret G rfl rfl dX5_kindName_47
      · refine s_tabIn (v := 3) (off := 47) (tgt := 48) G dX5_kindName_1 (by decide) (by decide) (by decide) (by decide) ?_ (fun h1_3 => ?_)
        · refine s_ldcwS (i := 3) G dX5_kindName_48 rfl ?_
          exact s_aret G rfl rfl dX5_kindName_51
        · refine s_tabIn (v := 4) (off := 51) (tgt := 52) G dX5_kindName_1 (by decide) (by decide) (by decide) (by decide) ?_ (fun h1_4 => ?_)
          · refine s_ldcwS (i := 4) G dX5_kindName_52 rfl ?_
            exact s_aret G rfl rfl dX5_kindName_55
          · refine s_tabOut (tgt := 56) G dX5_kindName_1 (by have e0 := lv_neT (a := 0) h1_0 (by decide); have e1 := lv_neT (a := 1) h1_1 (by decide); have e2 := lv_neT (a := 2) h1_2 (by decide); have e3 := lv_neT (a := 3) h1_3 (by decide); have e4 := lv_neT (a := 4) h1_4 (by decide); omega) (by decide) ?_
            refine s_ldcwS (i := 5) G dX5_kindName_56 rfl ?_
            exact s_aret G rfl rfl dX5_kindName_59

set_option maxRecDepth 100000 in
set_option maxHeartbeats 4000000 in
theorem c_X1_namedKind (w : Wx) (O : Mem) (l : Launch)  (M : Mem)  (z : Int32) (hz : f_X1_namedKind  M = some z) : Ct w 0 36 O l 6 muX1_namedKind [.ref (w.1 25)] M (some (.int z), M) := by
  refine ct_of (X := f_X1_namedKind  M) (K := fun v => some (some (.int v), M)) [some (.ref (w.1 25)), none] rfl rfl (Nat.le_of_ble_eq_true rfl) (by rw [hz]; rfl) ?_
  intro p e s m args below meth c G
  unfold f_X1_namedKind
  refine s_iconst (v := 0) G dX1_namedKind_0 (by decide) ?_
  refine s_istore_n (lv2 := [some (.ref (w.1 25)), some (.int 0)]) G dX1_namedKind_1 (by decide) rfl rfl ?_
  refine s_loopG (lvf := fun z2 : Int32 => [some (.ref (w.1 25)), some (.int z2)]) (Mf := fun z2 : Int32 => M) (ex := (el (fun x2_19 : Int32 => (19, [none, some (.int x2_19)], M)) (fun x2_27 : Unit => (27, [none, none], M)))) (el_all 19 (fun x2_19 : Int32 => [none, some (.int x2_19)]) (fun x2_19 : Int32 => M) (fun x2_19 => ?_) (el_one 27 (fun x2_27 : Unit => [none, none]) (fun x2_27 : Unit => M) (fun x2_27 => ?_))) (fun z2 K2 hB2 hE2 => ?_)
  · refine s_iload_n G dX1_namedKind_19 rfl ?_
    exact s_iret G rfl rfl dX1_namedKind_20
  · refine s_iconst (v := (-1)) G dX1_namedKind_27 (by decide) ?_
    exact s_iret G rfl rfl dX1_namedKind_28
  · unfold f_X1_namedKind_L2
    refine s_iload_n G dX1_namedKind_2 rfl ?_
    refine s_bipush (v := 6) G dX1_namedKind_3 (by decide) ?_
    refine s_icmp_ge (tgt := 27) G dX1_namedKind_5 (by decide) ?_ ?_
    · refine s_keep [false, false] (lv2 := [none, none]) rfl ?_
      exact fun hx => hE2 (.inr ()) hx
    · refine s_aload_n G dX1_namedKind_8 rfl ?_
      refine s_iload_n G dX1_namedKind_9 rfl ?_
      refine s_callSNs (as := [.int z2]) (st := [.ref (w.1 25)]) G aw_self mdX5_kindName (fun _ h => c_X5_kindName w O l z2 M _ h) (by decide) rfl rfl (Nat.le_of_ble_eq_true rfl) (by decide) dX1_namedKind_10 (fun r10 => ?_)
      refine s_callVi (as := [.ref (w.2.2.2.1 r10)]) (st := []) (k := 25) G aw_self mdX1_isWord (fun _ h => c_X1_isWord w O l r10 M _ h) ⟨by decide, by decide⟩ (ce25 w) clX1 rfl qw583 rfl rfl (Nat.le_of_ble_eq_true rfl) (by decide) dX1_namedKind_13 (fun r13 => ?_)
      refine s_if_eq (tgt := 21) G dX1_namedKind_16 (by decide) ?_ ?_
      · refine s_iinc (v := (z2 + 1)) (lv2 := [some (.ref (w.1 25)), some (.int (z2 + 1))]) G dX1_namedKind_21 rfl rfl (by decide) rfl rfl ?_
        refine s_goto (tgt := 2) G dX1_namedKind_24 (by decide) ?_
        exact fun hx => hB2 (z2 + 1) hx
      · refine s_keep [false, true] (lv2 := [none, some (.int z2)]) rfl ?_
        exact fun hx => hE2 (.inl z2) hx

set_option maxRecDepth 100000 in
set_option maxHeartbeats 4000000 in
theorem c_X0_addHanger_13 (w : Wx) (O : Mem) (l : Launch) (a1 : Int32) (M : Mem)  (z : Int32 × Mem) (hz : f_X0_addHanger_13 a1 M = some z) : Ct w 0 36 O l 0 muX0_addHanger [.ref (w.1 13), .int a1] M (some (.int z.1), z.2) := by
  refine ct_of (X := f_X0_addHanger_13 a1 M) (K := fun v => some (some (.int v.1), v.2)) [some (.ref (w.1 13)), some (.int a1), none] rfl rfl (Nat.le_of_ble_eq_true rfl) (by rw [hz]; rfl) ?_
  intro p e s m args below meth c G
  unfold f_X0_addHanger_13
  refine s_aload_n G dX0_addHanger_0 rfl ?_
  refine s_get (k := 13) (j := 0) G (.int (gI M 13 0)) ⟨by decide, by decide⟩ (ce13 w) rfl clX0 (by decide) qw91 rfl dX0_addHanger_1 ?_
  refine s_name (f := Value.int) (fun v4 => ?_)
  refine s_istore_n (lv2 := [some (.ref (w.1 13)), some (.int a1), some (.int v4)]) G dX0_addHanger_4 (by decide) rfl rfl ?_
  refine s_aload_n G dX0_addHanger_5 rfl ?_
  refine s_get (k := 13) (j := 4) G (.ref (w.1 14)) ⟨by decide, by decide⟩ (ce13 w) rfl clX0 (by decide) qw103 rfl dX0_addHanger_6 ?_
  refine s_iload_n G dX0_addHanger_9 rfl ?_
  refine s_iload_n G dX0_addHanger_10 rfl ?_
  refine s_iast (k := 14) (n := 12) G ⟨by decide, by decide⟩ (ce14 w) dX0_addHanger_11 (fun m11 => ?_)
  refine s_aload_n G dX0_addHanger_12 rfl ?_
  refine s_dup G dX0_addHanger_13 rfl ?_
  refine s_get (k := 13) (j := 0) G (.int (gI m11 13 0)) ⟨by decide, by decide⟩ (ce13 w) rfl clX0 (by decide) qw91 rfl dX0_addHanger_14 ?_
  refine s_iconst (v := 1) G dX0_addHanger_17 (by decide) ?_
  refine s_iadd G dX0_addHanger_18 ?_
  refine s_put (k := 13) (j := 0) G ⟨by decide, by decide⟩ (ce13 w) (fun _ => rfl) clX0 (by decide) (fun _ => (by decide : 0 < 9)) qw91 rfl rfl rfl rfl dX0_addHanger_19 (fun m19 => ?_)
  refine s_iload_n G dX0_addHanger_22 rfl ?_
  exact s_iret G rfl rfl dX0_addHanger_23

set_option maxRecDepth 100000 in
set_option maxHeartbeats 4000000 in
theorem c_X1_isNumber (w : Wx) (O : Mem) (l : Launch) (a1 : Int32) (a2 : Int32) (M : Mem)  (z : Int32) (hz : f_X1_isNumber a1 a2 M = some z) : Ct w 0 36 O l 0 muX1_isNumber [.ref (w.1 25), .int a1, .int a2] M (some (.int z), M) := by
  refine ct_of (X := f_X1_isNumber a1 a2 M) (K := fun v => some (some (.int v), M)) [some (.ref (w.1 25)), some (.int a1), some (.int a2)] rfl rfl (Nat.le_of_ble_eq_true rfl) (by rw [hz]; rfl) ?_
  intro p e s m args below meth c G
  unfold f_X1_isNumber
  refine s_aload_n G dX1_isNumber_0 rfl ?_
  refine s_get (k := 25) (j := 1) G (.int (gI M 25 1)) ⟨by decide, by decide⟩ (ce25 w) rfl clX1 (by decide) qw178 rfl dX1_isNumber_1 ?_
  refine s_iconst (v := 2) G dX1_isNumber_4 (by decide) ?_
  refine s_join 29 (fun y5 : Int32 => [none, none, none]) (fun y5 => [.int y5]) (fun y5 => M) (fun y5 => ?_) (fun K5 hB5 => ?_)
  · refine s_test (fun h29 => ?_)
    exact s_zret G rfl (zb_nar h29) rfl dX1_isNumber_29
  · refine s_icmp_ne (tgt := 28) G dX1_isNumber_5 (by decide) ?_ ?_
    · refine s_aload_n G dX1_isNumber_8 rfl ?_
      refine s_get (k := 25) (j := 4) G (.int (gI M 25 4)) ⟨by decide, by decide⟩ (ce25 w) rfl clX1 (by decide) qw181 rfl dX1_isNumber_9 ?_
      refine s_iload_n G dX1_isNumber_12 rfl ?_
      refine s_icmp_lt (tgt := 28) G dX1_isNumber_13 (by decide) ?_ ?_
      · refine s_iconst (v := 0) G dX1_isNumber_28 (by decide) ?_
        refine s_keep [false, false, false] (lv2 := [none, none, none]) rfl ?_
        exact fun hx => hB5 0 hx
      · refine s_aload_n G dX1_isNumber_16 rfl ?_
        refine s_get (k := 25) (j := 4) G (.int (gI M 25 4)) ⟨by decide, by decide⟩ (ce25 w) rfl clX1 (by decide) qw181 rfl dX1_isNumber_17 ?_
        refine s_iload_n G dX1_isNumber_20 rfl ?_
        refine s_icmp_gt (tgt := 28) G dX1_isNumber_21 (by decide) ?_ ?_
        · refine s_iconst (v := 0) G dX1_isNumber_28 (by decide) ?_
          refine s_keep [false, false, false] (lv2 := [none, none, none]) rfl ?_
          exact fun hx => hB5 0 hx
        · refine s_iconst (v := 1) G dX1_isNumber_24 (by decide) ?_
          refine s_goto (tgt := 29) G dX1_isNumber_25 (by decide) ?_
          refine s_keep [false, false, false] (lv2 := [none, none, none]) rfl ?_
          exact fun hx => hB5 1 hx
    · refine s_iconst (v := 0) G dX1_isNumber_28 (by decide) ?_
      refine s_keep [false, false, false] (lv2 := [none, none, none]) rfl ?_
      exact fun hx => hB5 0 hx

set_option maxRecDepth 100000 in
set_option maxHeartbeats 4000000 in
theorem c_X0_isFree_13 (w : Wx) (O : Mem) (l : Launch) (a1 : Int32) (M : Mem)  (z : Int32) (hz : f_X0_isFree_13 a1 M = some z) : Ct w 0 36 O l 0 muX0_isFree [.ref (w.1 13), .int a1] M (some (.int z), M) := by
  refine ct_of (X := f_X0_isFree_13 a1 M) (K := fun v => some (some (.int v), M)) [some (.ref (w.1 13)), some (.int a1)] rfl rfl (Nat.le_of_ble_eq_true rfl) (by rw [hz]; rfl) ?_
  intro p e s m args below meth c G
  unfold f_X0_isFree_13
  refine s_aload_n G dX0_isFree_0 rfl ?_
  refine s_get (k := 13) (j := 8) G (.ref (w.1 18)) ⟨by decide, by decide⟩ (ce13 w) rfl clX0 (by decide) qw115 rfl dX0_isFree_1 ?_
  refine s_iload_n G dX0_isFree_4 rfl ?_
  refine s_iald (k := 18) (n := 24) G ⟨by decide, by decide⟩ (ce18 w) dX0_isFree_5 ?_
  refine s_iconst (v := (-1)) G dX0_isFree_6 (by decide) ?_
  refine s_join 15 (fun y7 : Int32 => [none, none]) (fun y7 => [.int y7]) (fun y7 => M) (fun y7 => ?_) (fun K7 hB7 => ?_)
  · refine s_test (fun h15 => ?_)
    exact s_zret G rfl (zb_nar h15) rfl dX0_isFree_15
  · refine s_icmp_ne (tgt := 14) G dX0_isFree_7 (by decide) ?_ ?_
    · refine s_iconst (v := 1) G dX0_isFree_10 (by decide) ?_
      refine s_goto (tgt := 15) G dX0_isFree_11 (by decide) ?_
      refine s_keep [false, false] (lv2 := [none, none]) rfl ?_
      exact fun hx => hB7 1 hx
    · refine s_iconst (v := 0) G dX0_isFree_14 (by decide) ?_
      refine s_keep [false, false] (lv2 := [none, none]) rfl ?_
      exact fun hx => hB7 0 hx

set_option maxRecDepth 100000 in
set_option maxHeartbeats 4000000 in
theorem c_X0_put_13 (w : Wx) (O : Mem) (l : Launch) (a1 : Int32) (a2 : Int32) (M : Mem)  (z : Mem) (hz : f_X0_put_13 a1 a2 M = some z) : Ct w 0 36 O l 0 muX0_put [.ref (w.1 13), .int a1, .int a2] M (none, z) := by
  refine ct_of (X := f_X0_put_13 a1 a2 M) (K := fun v => some (none, v)) [some (.ref (w.1 13)), some (.int a1), some (.int a2)] rfl rfl (Nat.le_of_ble_eq_true rfl) (by rw [hz]; rfl) ?_
  intro p e s m args below meth c G
  unfold f_X0_put_13
  refine s_aload_n G dX0_put_0 rfl ?_
  refine s_get (k := 13) (j := 5) G (.ref (w.1 15)) ⟨by decide, by decide⟩ (ce13 w) rfl clX0 (by decide) qw106 rfl dX0_put_1 ?_
  refine s_iload_n G dX0_put_4 rfl ?_
  refine s_iload_n G dX0_put_5 rfl ?_
  refine s_iast (k := 15) (n := 12) G ⟨by decide, by decide⟩ (ce15 w) dX0_put_6 (fun m6 => ?_)
  refine s_aload_n G dX0_put_7 rfl ?_
  refine s_get (k := 13) (j := 8) G (.ref (w.1 18)) ⟨by decide, by decide⟩ (ce13 w) rfl clX0 (by decide) qw115 rfl dX0_put_8 ?_
  refine s_iload_n G dX0_put_11 rfl ?_
  refine s_iload_n G dX0_put_12 rfl ?_
  refine s_iast (k := 18) (n := 24) G ⟨by decide, by decide⟩ (ce18 w) dX0_put_13 (fun m13 => ?_)
  exact s_vret G rfl rfl dX0_put_14

set_option maxRecDepth 100000 in
set_option maxHeartbeats 4000000 in
theorem c_X1_readPlace_13 (w : Wx) (O : Mem) (l : Launch) (a2 : Int32) (M : Mem)  (z : Int32 × Mem) (hz : f_X1_readPlace_13 a2 M = some z) : Ct w 0 36 O l 6 muX1_readPlace [.ref (w.1 25), .ref (w.1 13), .int a2] M (some (.int z.1), z.2) := by
  refine ct_of (X := f_X1_readPlace_13 a2 M) (K := fun v => some (some (.int v.1), v.2)) [some (.ref (w.1 25)), some (.ref (w.1 13)), some (.int a2)] rfl rfl (Nat.le_of_ble_eq_true rfl) (by rw [hz]; rfl) ?_
  intro p e s m args below meth c G
  unfold f_X1_readPlace_13
  refine s_aload_n G dX1_readPlace_0 rfl ?_
  refine s_ldcS (i := 7) G dX1_readPlace_1 rfl ?_
  refine s_callVi (as := [.ref (w.2.2.2.1 7)]) (st := []) (k := 25) G aw_self mdX1_isWord (fun _ h => c_X1_isWord w O l 7 M _ h) ⟨by decide, by decide⟩ (ce25 w) clX1 rfl qw583 rfl rfl (Nat.le_of_ble_eq_true rfl) (by decide) dX1_readPlace_3 (fun r3 => ?_)
  refine s_if_ne (tgt := 11) G dX1_readPlace_6 (by decide) ?_ ?_
  · refine s_iconst (v := 1) G dX1_readPlace_9 (by decide) ?_
    exact s_zret G rfl rfl rfl dX1_readPlace_10
  · refine s_aload_n G dX1_readPlace_11 rfl ?_
    refine s_callVv (as := []) (st := []) (k := 25) G aw_self mdX1_step (fun _ h => c_X1_step w O l M _ h) ⟨by decide, by decide⟩ (ce25 w) clX1 rfl qw559 rfl rfl (Nat.le_of_ble_eq_true rfl) (by decide) dX1_readPlace_12 (fun r12 => ?_)
    refine s_aload_n G dX1_readPlace_15 rfl ?_
    refine s_iconst (v := 0) G dX1_readPlace_16 (by decide) ?_
    refine s_bipush (v := 23) G dX1_readPlace_17 (by decide) ?_
    refine s_callVi (as := [.int 0, .int 23]) (st := []) (k := 25) G aw_self mdX1_isNumber (fun _ h => c_X1_isNumber w O l 0 23 r12 _ h) ⟨by decide, by decide⟩ (ce25 w) clX1 rfl qw635 rfl rfl (Nat.le_of_ble_eq_true rfl) (by decide) dX1_readPlace_19 (fun r19 => ?_)
    refine s_if_eq (tgt := 36) G dX1_readPlace_22 (by decide) ?_ ?_
    · refine s_iconst (v := 0) G dX1_readPlace_36 (by decide) ?_
      exact s_zret G rfl rfl rfl dX1_readPlace_37
    · refine s_aload_n G dX1_readPlace_25 rfl ?_
      refine s_aload_n G dX1_readPlace_26 rfl ?_
      refine s_get (k := 25) (j := 4) G (.int (gI r12 25 4)) ⟨by decide, by decide⟩ (ce25 w) rfl clX1 (by decide) qw181 rfl dX1_readPlace_27 ?_
      refine s_callVi (as := [.int (gI r12 25 4)]) (st := []) (k := 13) G aw_self mdX0_isFree (fun _ h => c_X0_isFree_13 w O l (gI r12 25 4) r12 _ h) ⟨by decide, by decide⟩ (ce13 w) clX0 rfl qw658 rfl rfl (Nat.le_of_ble_eq_true rfl) (by decide) dX1_readPlace_30 (fun r30 => ?_)
      refine s_if_ne (tgt := 38) G dX1_readPlace_33 (by decide) ?_ ?_
      · refine s_iconst (v := 0) G dX1_readPlace_36 (by decide) ?_
        exact s_zret G rfl rfl rfl dX1_readPlace_37
      · refine s_aload_n G dX1_readPlace_38 rfl ?_
        refine s_iload_n G dX1_readPlace_39 rfl ?_
        refine s_aload_n G dX1_readPlace_40 rfl ?_
        refine s_get (k := 25) (j := 4) G (.int (gI r12 25 4)) ⟨by decide, by decide⟩ (ce25 w) rfl clX1 (by decide) qw181 rfl dX1_readPlace_41 ?_
        refine s_callVv (as := [.int a2, .int (gI r12 25 4)]) (st := []) (k := 13) G aw_self mdX0_put (fun _ h => c_X0_put_13 w O l a2 (gI r12 25 4) r12 _ h) ⟨by decide, by decide⟩ (ce13 w) clX0 rfl qw659 rfl rfl (Nat.le_of_ble_eq_true rfl) (by decide) dX1_readPlace_44 (fun r44 => ?_)
        refine s_aload_n G dX1_readPlace_47 rfl ?_
        refine s_callVv (as := []) (st := []) (k := 25) G aw_self mdX1_step (fun _ h => c_X1_step w O l r44 _ h) ⟨by decide, by decide⟩ (ce25 w) clX1 rfl qw559 rfl rfl (Nat.le_of_ble_eq_true rfl) (by decide) dX1_readPlace_48 (fun r48 => ?_)
        refine s_iconst (v := 1) G dX1_readPlace_51 (by decide) ?_
        exact s_zret G rfl rfl rfl dX1_readPlace_52

set_option maxRecDepth 100000 in
set_option maxHeartbeats 4000000 in
theorem c_X1_readBack_13 (w : Wx) (O : Mem) (l : Launch) (a2 : Int32) (M : Mem)  (z : Int32 × Mem) (hz : f_X1_readBack_13 a2 M = some z) : Ct w 0 36 O l 6 muX1_readBack [.ref (w.1 25), .ref (w.1 13), .int a2] M (some (.int z.1), z.2) := by
  refine ct_of (X := f_X1_readBack_13 a2 M) (K := fun v => some (some (.int v.1), v.2)) [some (.ref (w.1 25)), some (.ref (w.1 13)), some (.int a2)] rfl rfl (Nat.le_of_ble_eq_true rfl) (by rw [hz]; rfl) ?_
  intro p e s m args below meth c G
  unfold f_X1_readBack_13
  refine s_aload_n G dX1_readBack_0 rfl ?_
  refine s_ldcS (i := 8) G dX1_readBack_1 rfl ?_
  refine s_callVi (as := [.ref (w.2.2.2.1 8)]) (st := []) (k := 25) G aw_self mdX1_isWord (fun _ h => c_X1_isWord w O l 8 M _ h) ⟨by decide, by decide⟩ (ce25 w) clX1 rfl qw583 rfl rfl (Nat.le_of_ble_eq_true rfl) (by decide) dX1_readBack_3 (fun r3 => ?_)
  refine s_join 25 (fun y6 : Mem => [none, none, none]) (fun y6 => []) (fun y6 => y6) (fun y6 => ?_) (fun K6 hB6 => ?_)
  · refine s_iconst (v := 1) G dX1_readBack_25 (by decide) ?_
    exact s_zret G rfl rfl rfl dX1_readBack_26
  · refine s_if_eq (tgt := 25) G dX1_readBack_6 (by decide) ?_ ?_
    · refine s_keep [false, false, false] (lv2 := [none, none, none]) rfl ?_
      exact fun hx => hB6 M hx
    · refine s_aload_n G dX1_readBack_9 rfl ?_
      refine s_dup G dX1_readBack_10 rfl ?_
      refine s_get (k := 13) (j := 3) G (.int (gI M 13 3)) ⟨by decide, by decide⟩ (ce13 w) rfl clX0 (by decide) qw101 rfl dX1_readBack_11 ?_
      refine s_iconst (v := 1) G dX1_readBack_14 (by decide) ?_
      refine s_iload_n G dX1_readBack_15 rfl ?_
      refine s_ishl G dX1_readBack_16 ?_
      refine s_ior G dX1_readBack_17 ?_
      refine s_put (k := 13) (j := 3) G ⟨by decide, by decide⟩ (ce13 w) (fun _ => rfl) clX0 (by decide) (fun _ => (by decide : 3 < 9)) qw101 rfl rfl rfl rfl dX1_readBack_18 (fun m18 => ?_)
      refine s_aload_n G dX1_readBack_21 rfl ?_
      refine s_callVv (as := []) (st := []) (k := 25) G aw_self mdX1_step (fun _ h => c_X1_step w O l m18 _ h) ⟨by decide, by decide⟩ (ce25 w) clX1 rfl qw559 rfl rfl (Nat.le_of_ble_eq_true rfl) (by decide) dX1_readBack_22 (fun r22 => ?_)
      refine s_keep [false, false, false] (lv2 := [none, none, none]) rfl ?_
      exact fun hx => hB6 r22 hx

set_option maxRecDepth 100000 in
set_option maxHeartbeats 4000000 in
theorem c_X1_readShirt_13 (w : Wx) (O : Mem) (l : Launch) (a2 : Int32) (M : Mem)  (z : Int32 × Mem) (hz : f_X1_readShirt_13 a2 M = some z) : Ct w 0 36 O l 6 muX1_readShirt [.ref (w.1 25), .ref (w.1 13), .int a2] M (some (.int z.1), z.2) := by
  refine ct_of (X := f_X1_readShirt_13 a2 M) (K := fun v => some (some (.int v.1), v.2)) [some (.ref (w.1 25)), some (.ref (w.1 13)), some (.int a2)] rfl rfl (Nat.le_of_ble_eq_true rfl) (by rw [hz]; rfl) ?_
  intro p e s m args below meth c G
  unfold f_X1_readShirt_13
  refine s_aload_n G dX1_readShirt_0 rfl ?_
  refine s_ldcS (i := 9) G dX1_readShirt_1 rfl ?_
  refine s_callVi (as := [.ref (w.2.2.2.1 9)]) (st := []) (k := 25) G aw_self mdX1_isWord (fun _ h => c_X1_isWord w O l 9 M _ h) ⟨by decide, by decide⟩ (ce25 w) clX1 rfl qw583 rfl rfl (Nat.le_of_ble_eq_true rfl) (by decide) dX1_readShirt_3 (fun r3 => ?_)
  refine s_if_ne (tgt := 11) G dX1_readShirt_6 (by decide) ?_ ?_
  · refine s_iconst (v := 1) G dX1_readShirt_9 (by decide) ?_
    exact s_zret G rfl rfl rfl dX1_readShirt_10
  · refine s_aload_n G dX1_readShirt_11 rfl ?_
    refine s_callVv (as := []) (st := []) (k := 25) G aw_self mdX1_step (fun _ h => c_X1_step w O l M _ h) ⟨by decide, by decide⟩ (ce25 w) clX1 rfl qw559 rfl rfl (Nat.le_of_ble_eq_true rfl) (by decide) dX1_readShirt_12 (fun r12 => ?_)
    refine s_aload_n G dX1_readShirt_15 rfl ?_
    refine s_iconst (v := 1) G dX1_readShirt_16 (by decide) ?_
    refine s_bipush (v := 9) G dX1_readShirt_17 (by decide) ?_
    refine s_callVi (as := [.int 1, .int 9]) (st := []) (k := 25) G aw_self mdX1_isNumber (fun _ h => c_X1_isNumber w O l 1 9 r12 _ h) ⟨by decide, by decide⟩ (ce25 w) clX1 rfl qw635 rfl rfl (Nat.le_of_ble_eq_true rfl) (by decide) dX1_readShirt_19 (fun r19 => ?_)
    refine s_if_ne (tgt := 27) G dX1_readShirt_22 (by decide) ?_ ?_
    · refine s_iconst (v := 0) G dX1_readShirt_25 (by decide) ?_
      exact s_zret G rfl rfl rfl dX1_readShirt_26
    · refine s_aload_n G dX1_readShirt_27 rfl ?_
      refine s_get (k := 13) (j := 6) G (.ref (w.1 16)) ⟨by decide, by decide⟩ (ce13 w) rfl clX0 (by decide) qw111 rfl dX1_readShirt_28 ?_
      refine s_iload_n G dX1_readShirt_31 rfl ?_
      refine s_aload_n G dX1_readShirt_32 rfl ?_
      refine s_get (k := 25) (j := 4) G (.int (gI r12 25 4)) ⟨by decide, by decide⟩ (ce25 w) rfl clX1 (by decide) qw181 rfl dX1_readShirt_33 ?_
      refine s_iast (k := 16) (n := 12) G ⟨by decide, by decide⟩ (ce16 w) dX1_readShirt_36 (fun m36 => ?_)
      refine s_aload_n G dX1_readShirt_37 rfl ?_
      refine s_callVv (as := []) (st := []) (k := 25) G aw_self mdX1_step (fun _ h => c_X1_step w O l m36 _ h) ⟨by decide, by decide⟩ (ce25 w) clX1 rfl qw559 rfl rfl (Nat.le_of_ble_eq_true rfl) (by decide) dX1_readShirt_38 (fun r38 => ?_)
      refine s_iconst (v := 1) G dX1_readShirt_41 (by decide) ?_
      exact s_zret G rfl rfl rfl dX1_readShirt_42

set_option maxRecDepth 100000 in
set_option maxHeartbeats 4000000 in
theorem c_X1_readFeel_13 (w : Wx) (O : Mem) (l : Launch) (a2 : Int32) (M : Mem)  (z : Int32 × Mem) (hz : f_X1_readFeel_13 a2 M = some z) : Ct w 0 36 O l 6 muX1_readFeel [.ref (w.1 25), .ref (w.1 13), .int a2] M (some (.int z.1), z.2) := by
  refine ct_of (X := f_X1_readFeel_13 a2 M) (K := fun v => some (some (.int v.1), v.2)) [some (.ref (w.1 25)), some (.ref (w.1 13)), some (.int a2)] rfl rfl (Nat.le_of_ble_eq_true rfl) (by rw [hz]; rfl) ?_
  intro p e s m args below meth c G
  unfold f_X1_readFeel_13
  refine s_aload_n G dX1_readFeel_0 rfl ?_
  refine s_ldcS (i := 10) G dX1_readFeel_1 rfl ?_
  refine s_callVi (as := [.ref (w.2.2.2.1 10)]) (st := []) (k := 25) G aw_self mdX1_isWord (fun _ h => c_X1_isWord w O l 10 M _ h) ⟨by decide, by decide⟩ (ce25 w) clX1 rfl qw583 rfl rfl (Nat.le_of_ble_eq_true rfl) (by decide) dX1_readFeel_3 (fun r3 => ?_)
  refine s_if_ne (tgt := 11) G dX1_readFeel_6 (by decide) ?_ ?_
  · refine s_iconst (v := 1) G dX1_readFeel_9 (by decide) ?_
    exact s_zret G rfl rfl rfl dX1_readFeel_10
  · refine s_aload_n G dX1_readFeel_11 rfl ?_
    refine s_callVv (as := []) (st := []) (k := 25) G aw_self mdX1_step (fun _ h => c_X1_step w O l M _ h) ⟨by decide, by decide⟩ (ce25 w) clX1 rfl qw559 rfl rfl (Nat.le_of_ble_eq_true rfl) (by decide) dX1_readFeel_12 (fun r12 => ?_)
    refine s_aload_n G dX1_readFeel_15 rfl ?_
    refine s_iconst (v := 0) G dX1_readFeel_16 (by decide) ?_
    refine s_bipush (v := 15) G dX1_readFeel_17 (by decide) ?_
    refine s_callVi (as := [.int 0, .int 15]) (st := []) (k := 25) G aw_self mdX1_isNumber (fun _ h => c_X1_isNumber w O l 0 15 r12 _ h) ⟨by decide, by decide⟩ (ce25 w) clX1 rfl qw635 rfl rfl (Nat.le_of_ble_eq_true rfl) (by decide) dX1_readFeel_19 (fun r19 => ?_)
    refine s_if_ne (tgt := 27) G dX1_readFeel_22 (by decide) ?_ ?_
    · refine s_iconst (v := 0) G dX1_readFeel_25 (by decide) ?_
      exact s_zret G rfl rfl rfl dX1_readFeel_26
    · refine s_aload_n G dX1_readFeel_27 rfl ?_
      refine s_get (k := 13) (j := 7) G (.ref (w.1 17)) ⟨by decide, by decide⟩ (ce13 w) rfl clX0 (by decide) qw114 rfl dX1_readFeel_28 ?_
      refine s_iload_n G dX1_readFeel_31 rfl ?_
      refine s_aload_n G dX1_readFeel_32 rfl ?_
      refine s_get (k := 25) (j := 4) G (.int (gI r12 25 4)) ⟨by decide, by decide⟩ (ce25 w) rfl clX1 (by decide) qw181 rfl dX1_readFeel_33 ?_
      refine s_iast (k := 17) (n := 12) G ⟨by decide, by decide⟩ (ce17 w) dX1_readFeel_36 (fun m36 => ?_)
      refine s_aload_n G dX1_readFeel_37 rfl ?_
      refine s_callVv (as := []) (st := []) (k := 25) G aw_self mdX1_step (fun _ h => c_X1_step w O l m36 _ h) ⟨by decide, by decide⟩ (ce25 w) clX1 rfl qw559 rfl rfl (Nat.le_of_ble_eq_true rfl) (by decide) dX1_readFeel_38 (fun r38 => ?_)
      refine s_iconst (v := 1) G dX1_readFeel_41 (by decide) ?_
      exact s_zret G rfl rfl rfl dX1_readFeel_42

set_option maxRecDepth 100000 in
set_option maxHeartbeats 4000000 in
theorem c_X1_readItem_13 (w : Wx) (O : Mem) (l : Launch)  (M : Mem)  (z : Int32 × Mem) (hz : f_X1_readItem_13  M = some z) : Ct w 0 36 O l 7 muX1_readItem [.ref (w.1 25), .ref (w.1 13)] M (some (.int z.1), z.2) := by
  refine ct_of (X := f_X1_readItem_13  M) (K := fun v => some (some (.int v.1), v.2)) [some (.ref (w.1 25)), some (.ref (w.1 13)), none, none] rfl rfl (Nat.le_of_ble_eq_true rfl) (by rw [hz]; rfl) ?_
  intro p e s m args below meth c G
  unfold f_X1_readItem_13
  refine s_aload_n G dX1_readItem_0 rfl ?_
  refine s_ldcS (i := 6) G dX1_readItem_1 rfl ?_
  refine s_callVi (as := [.ref (w.2.2.2.1 6)]) (st := []) (k := 25) G aw_self mdX1_isWord (fun _ h => c_X1_isWord w O l 6 M _ h) ⟨by decide, by decide⟩ (ce25 w) clX1 rfl qw583 rfl rfl (Nat.le_of_ble_eq_true rfl) (by decide) dX1_readItem_3 (fun r3 => ?_)
  refine s_if_eq (tgt := 39) G dX1_readItem_6 (by decide) ?_ ?_
  · refine s_aload_n G dX1_readItem_39 rfl ?_
    refine s_callVi (as := []) (st := []) (k := 25) G aw_self mdX1_namedKind (fun _ h => c_X1_namedKind w O l M _ h) ⟨by decide, by decide⟩ (ce25 w) clX1 rfl qw639 rfl rfl (Nat.le_of_ble_eq_true rfl) (by decide) dX1_readItem_40 (fun r40 => ?_)
    refine s_istore_n (lv2 := [some (.ref (w.1 25)), some (.ref (w.1 13)), some (.int r40), none]) G dX1_readItem_43 (by decide) rfl rfl ?_
    refine s_iload_n G dX1_readItem_44 rfl ?_
    refine s_iconst (v := (-1)) G dX1_readItem_45 (by decide) ?_
    refine s_icmp_eq (tgt := 58) G dX1_readItem_46 (by decide) ?_ ?_
    · refine s_iconst (v := 0) G dX1_readItem_58 (by decide) ?_
      exact s_zret G rfl rfl rfl dX1_readItem_59
    · refine s_aload_n G dX1_readItem_49 rfl ?_
      refine s_get (k := 13) (j := 0) G (.int (gI M 13 0)) ⟨by decide, by decide⟩ (ce13 w) rfl clX0 (by decide) qw93 rfl dX1_readItem_50 ?_
      refine s_bipush (v := 12) G dX1_readItem_53 (by decide) ?_
      refine s_icmp_lt (tgt := 60) G dX1_readItem_55 (by decide) ?_ ?_
      · refine s_aload_n G dX1_readItem_60 rfl ?_
        refine s_iload_n G dX1_readItem_61 rfl ?_
        refine s_callVI (as := [.int r40]) (st := []) (k := 13) G aw_self mdX0_addHanger (fun _ h => c_X0_addHanger_13 w O l r40 M _ h) ⟨by decide, by decide⟩ (ce13 w) clX0 rfl qw652 rfl rfl (Nat.le_of_ble_eq_true rfl) (by decide) dX1_readItem_62 (fun r62 => ?_)
        refine s_istore_n (lv2 := [some (.ref (w.1 25)), some (.ref (w.1 13)), some (.int r40), some (.int r62.1)]) G dX1_readItem_65 (by decide) rfl rfl ?_
        refine s_aload_n G dX1_readItem_66 rfl ?_
        refine s_callVv (as := []) (st := []) (k := 25) G aw_self mdX1_step (fun _ h => c_X1_step w O l r62.2 _ h) ⟨by decide, by decide⟩ (ce25 w) clX1 rfl qw559 rfl rfl (Nat.le_of_ble_eq_true rfl) (by decide) dX1_readItem_67 (fun r67 => ?_)
        refine s_aload_n G dX1_readItem_70 rfl ?_
        refine s_aload_n G dX1_readItem_71 rfl ?_
        refine s_iload_n G dX1_readItem_72 rfl ?_
        refine s_callVI (as := [.ref (w.1 13), .int r62.1]) (st := []) (k := 25) G aw_self mdX1_readPlace (fun _ h => c_X1_readPlace_13 w O l r62.1 r67 _ h) ⟨by decide, by decide⟩ (ce25 w) clX1 rfl qw653 rfl rfl (Nat.le_of_ble_eq_true rfl) (by decide) dX1_readItem_73 (fun r73 => ?_)
        refine s_join 111 (fun y76 : Int32 × Mem => [none, none, none, none]) (fun y76 => [.int y76.1]) (fun y76 => y76.2) (fun y76 => ?_) (fun K76 hB76 => ?_)
        · refine s_test (fun h111 => ?_)
          exact s_zret G rfl (zb_nar h111) rfl dX1_readItem_111
        · refine s_if_eq (tgt := 110) G dX1_readItem_76 (by decide) ?_ ?_
          · refine s_iconst (v := 0) G dX1_readItem_110 (by decide) ?_
            refine s_keep [false, false, false, false] (lv2 := [none, none, none, none]) rfl ?_
            exact fun hx => hB76 (0, r73.2) hx
          · refine s_aload_n G dX1_readItem_79 rfl ?_
            refine s_aload_n G dX1_readItem_80 rfl ?_
            refine s_iload_n G dX1_readItem_81 rfl ?_
            refine s_callVI (as := [.ref (w.1 13), .int r62.1]) (st := []) (k := 25) G aw_self mdX1_readBack (fun _ h => c_X1_readBack_13 w O l r62.1 r73.2 _ h) ⟨by decide, by decide⟩ (ce25 w) clX1 rfl qw660 rfl rfl (Nat.le_of_ble_eq_true rfl) (by decide) dX1_readItem_82 (fun r82 => ?_)
            refine s_if_eq (tgt := 110) G dX1_readItem_85 (by decide) ?_ ?_
            · refine s_iconst (v := 0) G dX1_readItem_110 (by decide) ?_
              refine s_keep [false, false, false, false] (lv2 := [none, none, none, none]) rfl ?_
              exact fun hx => hB76 (0, r82.2) hx
            · refine s_aload_n G dX1_readItem_88 rfl ?_
              refine s_aload_n G dX1_readItem_89 rfl ?_
              refine s_iload_n G dX1_readItem_90 rfl ?_
              refine s_callVI (as := [.ref (w.1 13), .int r62.1]) (st := []) (k := 25) G aw_self mdX1_readShirt (fun _ h => c_X1_readShirt_13 w O l r62.1 r82.2 _ h) ⟨by decide, by decide⟩ (ce25 w) clX1 rfl qw665 rfl rfl (Nat.le_of_ble_eq_true rfl) (by decide) dX1_readItem_91 (fun r91 => ?_)
              refine s_if_eq (tgt := 110) G dX1_readItem_94 (by decide) ?_ ?_
              · refine s_iconst (v := 0) G dX1_readItem_110 (by decide) ?_
                refine s_keep [false, false, false, false] (lv2 := [none, none, none, none]) rfl ?_
                exact fun hx => hB76 (0, r91.2) hx
              · refine s_aload_n G dX1_readItem_97 rfl ?_
                refine s_aload_n G dX1_readItem_98 rfl ?_
                refine s_iload_n G dX1_readItem_99 rfl ?_
                refine s_callVI (as := [.ref (w.1 13), .int r62.1]) (st := []) (k := 25) G aw_self mdX1_readFeel (fun _ h => c_X1_readFeel_13 w O l r62.1 r91.2 _ h) ⟨by decide, by decide⟩ (ce25 w) clX1 rfl qw670 rfl rfl (Nat.le_of_ble_eq_true rfl) (by decide) dX1_readItem_100 (fun r100 => ?_)
                refine s_if_eq (tgt := 110) G dX1_readItem_103 (by decide) ?_ ?_
                · refine s_iconst (v := 0) G dX1_readItem_110 (by decide) ?_
                  refine s_keep [false, false, false, false] (lv2 := [none, none, none, none]) rfl ?_
                  exact fun hx => hB76 (0, r100.2) hx
                · refine s_iconst (v := 1) G dX1_readItem_106 (by decide) ?_
                  refine s_goto (tgt := 111) G dX1_readItem_107 (by decide) ?_
                  refine s_keep [false, false, false, false] (lv2 := [none, none, none, none]) rfl ?_
                  exact fun hx => hB76 (1, r100.2) hx
      · refine s_iconst (v := 0) G dX1_readItem_58 (by decide) ?_
        exact s_zret G rfl rfl rfl dX1_readItem_59
  · refine s_aload_n G dX1_readItem_9 rfl ?_
    refine s_callVv (as := []) (st := []) (k := 25) G aw_self mdX1_step (fun _ h => c_X1_step w O l M _ h) ⟨by decide, by decide⟩ (ce25 w) clX1 rfl qw559 rfl rfl (Nat.le_of_ble_eq_true rfl) (by decide) dX1_readItem_10 (fun r10 => ?_)
    refine s_aload_n G dX1_readItem_13 rfl ?_
    refine s_iconst (v := 0) G dX1_readItem_14 (by decide) ?_
    refine s_bipush (v := 99) G dX1_readItem_15 (by decide) ?_
    refine s_callVi (as := [.int 0, .int 99]) (st := []) (k := 25) G aw_self mdX1_isNumber (fun _ h => c_X1_isNumber w O l 0 99 r10 _ h) ⟨by decide, by decide⟩ (ce25 w) clX1 rfl qw635 rfl rfl (Nat.le_of_ble_eq_true rfl) (by decide) dX1_readItem_17 (fun r17 => ?_)
    refine s_if_ne (tgt := 25) G dX1_readItem_20 (by decide) ?_ ?_
    · refine s_iconst (v := 0) G dX1_readItem_23 (by decide) ?_
      exact s_zret G rfl rfl rfl dX1_readItem_24
    · refine s_aload_n G dX1_readItem_25 rfl ?_
      refine s_aload_n G dX1_readItem_26 rfl ?_
      refine s_get (k := 25) (j := 4) G (.int (gI r10 25 4)) ⟨by decide, by decide⟩ (ce25 w) rfl clX1 (by decide) qw181 rfl dX1_readItem_27 ?_
      refine s_put (k := 13) (j := 2) G ⟨by decide, by decide⟩ (ce13 w) (fun _ => rfl) clX0 (by decide) (fun _ => (by decide : 2 < 9)) qw97 rfl rfl rfl rfl dX1_readItem_30 (fun m30 => ?_)
      refine s_aload_n G dX1_readItem_33 rfl ?_
      refine s_callVv (as := []) (st := []) (k := 25) G aw_self mdX1_step (fun _ h => c_X1_step w O l m30 _ h) ⟨by decide, by decide⟩ (ce25 w) clX1 rfl qw559 rfl rfl (Nat.le_of_ble_eq_true rfl) (by decide) dX1_readItem_34 (fun r34 => ?_)
      refine s_iconst (v := 1) G dX1_readItem_37 (by decide) ?_
      exact s_zret G rfl rfl rfl dX1_readItem_38

set_option maxRecDepth 100000 in
set_option maxHeartbeats 4000000 in
theorem c_X1_readItems_13 (w : Wx) (O : Mem) (l : Launch)  (M : Mem)  (z : Int32 × Mem) (hz : f_X1_readItems_13  M = some z) : Ct w 0 36 O l 8 muX1_readItems [.ref (w.1 25), .ref (w.1 13)] M (some (.int z.1), z.2) := by
  refine ct_of (X := f_X1_readItems_13  M) (K := fun v => some (some (.int v.1), v.2)) [some (.ref (w.1 25)), some (.ref (w.1 13)), none] rfl rfl (Nat.le_of_ble_eq_true rfl) (by rw [hz]; rfl) ?_
  intro p e s m args below meth c G
  unfold f_X1_readItems_13
  refine s_aload_n G dX1_readItems_0 rfl ?_
  refine s_iconst (v := 0) G dX1_readItems_1 (by decide) ?_
  refine s_put (k := 25) (j := 3) G ⟨by decide, by decide⟩ (ce25 w) (fun _ => rfl) clX1 (by decide) (fun _ => (by decide : 3 < 5)) qw180 rfl rfl rfl rfl dX1_readItems_2 (fun m2 => ?_)
  refine s_aload_n G dX1_readItems_5 rfl ?_
  refine s_callVv (as := []) (st := []) (k := 25) G aw_self mdX1_step (fun _ h => c_X1_step w O l m2 _ h) ⟨by decide, by decide⟩ (ce25 w) clX1 rfl qw559 rfl rfl (Nat.le_of_ble_eq_true rfl) (by decide) dX1_readItems_6 (fun r6 => ?_)
  refine s_iconst (v := 0) G dX1_readItems_9 (by decide) ?_
  refine s_istore_n (lv2 := [some (.ref (w.1 25)), some (.ref (w.1 13)), some (.int 0)]) G dX1_readItems_10 (by decide) rfl rfl ?_
  refine s_loopG (lvf := fun z11 : Int32 × Mem => [some (.ref (w.1 25)), some (.ref (w.1 13)), some (.int z11.1)]) (Mf := fun z11 : Int32 × Mem => z11.2) (ex := (el (fun x11_25 : Mem => (25, [some (.ref (w.1 25)), none, none], x11_25)) (el (fun x11_42 : Int32 × Mem => (42, [none, none, some (.int x11_42.1)], x11_42.2)) (el (fun x11_52 : Mem => (52, [some (.ref (w.1 25)), none, none], x11_52)) (fun x11_66 : Mem => (66, [some (.ref (w.1 25)), none, none], x11_66)))))) (el_all 25 (fun x11_25 : Mem => [some (.ref (w.1 25)), none, none]) (fun x11_25 : Mem => x11_25) (fun x11_25 => ?_) (el_all 42 (fun x11_42 : Int32 × Mem => [none, none, some (.int x11_42.1)]) (fun x11_42 : Int32 × Mem => x11_42.2) (fun x11_42 => ?_) (el_all 52 (fun x11_52 : Mem => [some (.ref (w.1 25)), none, none]) (fun x11_52 : Mem => x11_52) (fun x11_52 => ?_) (el_one 66 (fun x11_66 : Mem => [some (.ref (w.1 25)), none, none]) (fun x11_66 : Mem => x11_66) (fun x11_66 => ?_))))) (fun z11 K11 hB11 hE11 => ?_)
  · refine s_iconst (v := (-1)) G dX1_readItems_25 (by decide) ?_
    refine s_aload_n G dX1_readItems_26 rfl ?_
    refine s_get (k := 25) (j := 2) G (.int (gI x11_25 25 2)) ⟨by decide, by decide⟩ (ce25 w) rfl clX1 (by decide) qw179 rfl dX1_readItems_27 ?_
    refine s_isub G dX1_readItems_30 ?_
    exact s_iret G rfl rfl dX1_readItems_31
  · refine s_iload_n G dX1_readItems_42 rfl ?_
    exact s_iret G rfl rfl dX1_readItems_43
  · refine s_iconst (v := (-1)) G dX1_readItems_52 (by decide) ?_
    refine s_aload_n G dX1_readItems_53 rfl ?_
    refine s_get (k := 25) (j := 2) G (.int (gI x11_52 25 2)) ⟨by decide, by decide⟩ (ce25 w) rfl clX1 (by decide) qw179 rfl dX1_readItems_54 ?_
    refine s_isub G dX1_readItems_57 ?_
    exact s_iret G rfl rfl dX1_readItems_58
  · refine s_iconst (v := (-1)) G dX1_readItems_66 (by decide) ?_
    refine s_aload_n G dX1_readItems_67 rfl ?_
    refine s_get (k := 25) (j := 2) G (.int (gI x11_66 25 2)) ⟨by decide, by decide⟩ (ce25 w) rfl clX1 (by decide) qw179 rfl dX1_readItems_68 ?_
    refine s_isub G dX1_readItems_71 ?_
    exact s_iret G rfl rfl dX1_readItems_72
  · unfold f_X1_readItems_13_L11
    refine s_iload_n G dX1_readItems_11 rfl ?_
    refine s_bipush (v := 120) G dX1_readItems_12 (by decide) ?_
    refine s_icmp_ge (tgt := 66) G dX1_readItems_14 (by decide) ?_ ?_
    · refine s_keep [true, false, false] (lv2 := [some (.ref (w.1 25)), none, none]) rfl ?_
      exact fun hx => hE11 (.inr (.inr (.inr z11.2))) hx
    · refine s_aload_n G dX1_readItems_17 rfl ?_
      refine s_aload_n G dX1_readItems_18 rfl ?_
      refine s_callVI (as := [.ref (w.1 13)]) (st := []) (k := 25) G aw_self mdX1_readItem (fun _ h => c_X1_readItem_13 w O l z11.2 _ h) ⟨by decide, by decide⟩ (ce25 w) clX1 rfl qw578 rfl rfl (Nat.le_of_ble_eq_true rfl) (by decide) dX1_readItems_19 (fun r19 => ?_)
      refine s_if_ne (tgt := 32) G dX1_readItems_22 (by decide) ?_ ?_
      · refine s_keep [true, false, false] (lv2 := [some (.ref (w.1 25)), none, none]) rfl ?_
        exact fun hx => hE11 (.inl r19.2) hx
      · refine s_iinc (v := (z11.1 + 1)) (lv2 := [some (.ref (w.1 25)), some (.ref (w.1 13)), some (.int (z11.1 + 1))]) G dX1_readItems_32 rfl rfl (by decide) rfl rfl ?_
        refine s_aload_n G dX1_readItems_35 rfl ?_
        refine s_get (k := 25) (j := 1) G (.int (gI r19.2 25 1)) ⟨by decide, by decide⟩ (ce25 w) rfl clX1 (by decide) qw178 rfl dX1_readItems_36 ?_
        refine s_if_ne (tgt := 44) G dX1_readItems_39 (by decide) ?_ ?_
        · refine s_keep [false, false, true] (lv2 := [none, none, some (.int (z11.1 + 1))]) rfl ?_
          exact fun hx => hE11 (.inr (.inl ((z11.1 + 1), r19.2))) hx
        · refine s_aload_n G dX1_readItems_44 rfl ?_
          refine s_get (k := 25) (j := 1) G (.int (gI r19.2 25 1)) ⟨by decide, by decide⟩ (ce25 w) rfl clX1 (by decide) qw178 rfl dX1_readItems_45 ?_
          refine s_iconst (v := 3) G dX1_readItems_48 (by decide) ?_
          refine s_icmp_eq (tgt := 59) G dX1_readItems_49 (by decide) ?_ ?_
          · refine s_aload_n G dX1_readItems_59 rfl ?_
            refine s_callVv (as := []) (st := []) (k := 25) G aw_self mdX1_step (fun _ h => c_X1_step w O l r19.2 _ h) ⟨by decide, by decide⟩ (ce25 w) clX1 rfl qw559 rfl rfl (Nat.le_of_ble_eq_true rfl) (by decide) dX1_readItems_60 (fun r60 => ?_)
            refine s_goto (tgt := 11) G dX1_readItems_63 (by decide) ?_
            exact fun hx => hB11 ((z11.1 + 1), r60) hx
          · refine s_keep [true, false, false] (lv2 := [some (.ref (w.1 25)), none, none]) rfl ?_
            exact fun hx => hE11 (.inr (.inr (.inl r19.2))) hx

set_option maxRecDepth 100000 in
set_option maxHeartbeats 4000000 in
theorem c_X0_become_13 (w : Wx) (O : Mem) (l : Launch)  (M : Mem)  (z : Mem) (hz : f_X0_become_13  M = some z) : Ct w 0 36 O l 1 muX0_become [.ref (w.1 1), .ref (w.1 13)] M (none, z) := by
  refine ct_of (X := f_X0_become_13  M) (K := fun v => some (none, v)) [some (.ref (w.1 1)), some (.ref (w.1 13))] rfl rfl (Nat.le_of_ble_eq_true rfl) (by rw [hz]; rfl) ?_
  intro p e s m args below meth c G
  unfold f_X0_become_13
  refine s_aload_n G dX0_become_0 rfl ?_
  refine s_aload_n G dX0_become_1 rfl ?_
  refine s_get (k := 13) (j := 0) G (.int (gI M 13 0)) ⟨by decide, by decide⟩ (ce13 w) rfl clX0 (by decide) qw91 rfl dX0_become_2 ?_
  refine s_put (k := 1) (j := 0) G ⟨by decide, by decide⟩ (ce1 w) (fun _ => rfl) clX0 (by decide) (fun _ => (by decide : 0 < 9)) qw91 rfl rfl rfl rfl dX0_become_5 (fun m5 => ?_)
  refine s_aload_n G dX0_become_8 rfl ?_
  refine s_aload_n G dX0_become_9 rfl ?_
  refine s_get (k := 13) (j := 1) G (.int (gI m5 13 1)) ⟨by decide, by decide⟩ (ce13 w) rfl clX0 (by decide) qw94 rfl dX0_become_10 ?_
  refine s_put (k := 1) (j := 1) G ⟨by decide, by decide⟩ (ce1 w) (fun _ => rfl) clX0 (by decide) (fun _ => (by decide : 1 < 9)) qw94 rfl rfl rfl rfl dX0_become_13 (fun m13 => ?_)
  refine s_aload_n G dX0_become_16 rfl ?_
  refine s_aload_n G dX0_become_17 rfl ?_
  refine s_get (k := 13) (j := 2) G (.int (gI m13 13 2)) ⟨by decide, by decide⟩ (ce13 w) rfl clX0 (by decide) qw96 rfl dX0_become_18 ?_
  refine s_put (k := 1) (j := 2) G ⟨by decide, by decide⟩ (ce1 w) (fun _ => rfl) clX0 (by decide) (fun _ => (by decide : 2 < 9)) qw96 rfl rfl rfl rfl dX0_become_21 (fun m21 => ?_)
  refine s_aload_n G dX0_become_24 rfl ?_
  refine s_aload_n G dX0_become_25 rfl ?_
  refine s_get (k := 13) (j := 3) G (.int (gI m21 13 3)) ⟨by decide, by decide⟩ (ce13 w) rfl clX0 (by decide) qw99 rfl dX0_become_26 ?_
  refine s_put (k := 1) (j := 3) G ⟨by decide, by decide⟩ (ce1 w) (fun _ => rfl) clX0 (by decide) (fun _ => (by decide : 3 < 9)) qw99 rfl rfl rfl rfl dX0_become_29 (fun m29 => ?_)
  refine s_aload_n G dX0_become_32 rfl ?_
  refine s_get (k := 13) (j := 4) G (.ref (w.1 14)) ⟨by decide, by decide⟩ (ce13 w) rfl clX0 (by decide) qw103 rfl dX0_become_33 ?_
  refine s_iconst (v := 0) G dX0_become_36 (by decide) ?_
  refine s_aload_n G dX0_become_37 rfl ?_
  refine s_get (k := 1) (j := 4) G (.ref (w.1 2)) ⟨by decide, by decide⟩ (ce1 w) rfl clX0 (by decide) qw103 rfl dX0_become_38 ?_
  refine s_iconst (v := 0) G dX0_become_41 (by decide) ?_
  refine s_bipush (v := 12) G dX0_become_42 (by decide) ?_
  refine s_copyI (k0 := 14) (k1 := 2) (n0 := 12) (n1 := 12) (st := []) G ⟨by decide, by decide⟩ ⟨by decide, by decide⟩ (ce14 w) (ce2 w) (by decide) (by decide) (by decide) (by decide) (by decide) qw552 qw554 qw553 qw72 (by decide) (Nat.le_of_ble_eq_true rfl) dX0_become_44 (fun m44 => ?_)
  refine s_aload_n G dX0_become_47 rfl ?_
  refine s_get (k := 13) (j := 5) G (.ref (w.1 15)) ⟨by decide, by decide⟩ (ce13 w) rfl clX0 (by decide) qw106 rfl dX0_become_48 ?_
  refine s_iconst (v := 0) G dX0_become_51 (by decide) ?_
  refine s_aload_n G dX0_become_52 rfl ?_
  refine s_get (k := 1) (j := 5) G (.ref (w.1 3)) ⟨by decide, by decide⟩ (ce1 w) rfl clX0 (by decide) qw106 rfl dX0_become_53 ?_
  refine s_iconst (v := 0) G dX0_become_56 (by decide) ?_
  refine s_bipush (v := 12) G dX0_become_57 (by decide) ?_
  refine s_copyI (k0 := 15) (k1 := 3) (n0 := 12) (n1 := 12) (st := []) G ⟨by decide, by decide⟩ ⟨by decide, by decide⟩ (ce15 w) (ce3 w) (by decide) (by decide) (by decide) (by decide) (by decide) qw552 qw554 qw553 qw72 (by decide) (Nat.le_of_ble_eq_true rfl) dX0_become_59 (fun m59 => ?_)
  refine s_aload_n G dX0_become_62 rfl ?_
  refine s_get (k := 13) (j := 6) G (.ref (w.1 16)) ⟨by decide, by decide⟩ (ce13 w) rfl clX0 (by decide) qw109 rfl dX0_become_63 ?_
  refine s_iconst (v := 0) G dX0_become_66 (by decide) ?_
  refine s_aload_n G dX0_become_67 rfl ?_
  refine s_get (k := 1) (j := 6) G (.ref (w.1 4)) ⟨by decide, by decide⟩ (ce1 w) rfl clX0 (by decide) qw109 rfl dX0_become_68 ?_
  refine s_iconst (v := 0) G dX0_become_71 (by decide) ?_
  refine s_bipush (v := 12) G dX0_become_72 (by decide) ?_
  refine s_copyI (k0 := 16) (k1 := 4) (n0 := 12) (n1 := 12) (st := []) G ⟨by decide, by decide⟩ ⟨by decide, by decide⟩ (ce16 w) (ce4 w) (by decide) (by decide) (by decide) (by decide) (by decide) qw552 qw554 qw553 qw72 (by decide) (Nat.le_of_ble_eq_true rfl) dX0_become_74 (fun m74 => ?_)
  refine s_aload_n G dX0_become_77 rfl ?_
  refine s_get (k := 13) (j := 7) G (.ref (w.1 17)) ⟨by decide, by decide⟩ (ce13 w) rfl clX0 (by decide) qw112 rfl dX0_become_78 ?_
  refine s_iconst (v := 0) G dX0_become_81 (by decide) ?_
  refine s_aload_n G dX0_become_82 rfl ?_
  refine s_get (k := 1) (j := 7) G (.ref (w.1 5)) ⟨by decide, by decide⟩ (ce1 w) rfl clX0 (by decide) qw112 rfl dX0_become_83 ?_
  refine s_iconst (v := 0) G dX0_become_86 (by decide) ?_
  refine s_bipush (v := 12) G dX0_become_87 (by decide) ?_
  refine s_copyI (k0 := 17) (k1 := 5) (n0 := 12) (n1 := 12) (st := []) G ⟨by decide, by decide⟩ ⟨by decide, by decide⟩ (ce17 w) (ce5 w) (by decide) (by decide) (by decide) (by decide) (by decide) qw552 qw554 qw553 qw72 (by decide) (Nat.le_of_ble_eq_true rfl) dX0_become_89 (fun m89 => ?_)
  refine s_aload_n G dX0_become_92 rfl ?_
  refine s_get (k := 13) (j := 8) G (.ref (w.1 18)) ⟨by decide, by decide⟩ (ce13 w) rfl clX0 (by decide) qw115 rfl dX0_become_93 ?_
  refine s_iconst (v := 0) G dX0_become_96 (by decide) ?_
  refine s_aload_n G dX0_become_97 rfl ?_
  refine s_get (k := 1) (j := 8) G (.ref (w.1 6)) ⟨by decide, by decide⟩ (ce1 w) rfl clX0 (by decide) qw115 rfl dX0_become_98 ?_
  refine s_iconst (v := 0) G dX0_become_101 (by decide) ?_
  refine s_bipush (v := 24) G dX0_become_102 (by decide) ?_
  refine s_copyI (k0 := 18) (k1 := 6) (n0 := 24) (n1 := 24) (st := []) G ⟨by decide, by decide⟩ ⟨by decide, by decide⟩ (ce18 w) (ce6 w) (by decide) (by decide) (by decide) (by decide) (by decide) qw552 qw554 qw553 qw72 (by decide) (Nat.le_of_ble_eq_true rfl) dX0_become_104 (fun m104 => ?_)
  exact s_vret G rfl rfl dX0_become_107

set_option maxRecDepth 100000 in
set_option maxHeartbeats 4000000 in
theorem c_X5_rail (w : Wx) (O : Mem) (l : Launch)  (M : Mem)  (z : Int32 × Mem) (hz : f_X5_rail  M = some z) : Ct w 0 36 O l 9 muX5_rail [.ref (w.1 0)] M (some (.int z.1), z.2) := by
  refine ct_of (X := f_X5_rail  M) (K := fun v => some (some (.int v.1), v.2)) [some (.ref (w.1 0)), none] rfl rfl (Nat.le_of_ble_eq_true rfl) (by rw [hz]; rfl) ?_
  intro p e s m args below meth c G
  unfold f_X5_rail
  refine s_aload_n G dX5_rail_0 rfl ?_
  refine s_get (k := 0) (j := 2) G (.ref (w.1 13)) ⟨by decide, by decide⟩ (ce0 w) rfl clX5 (by decide) qw216 rfl dX5_rail_1 ?_
  refine s_aload_n G dX5_rail_4 rfl ?_
  refine s_get (k := 0) (j := 0) G (.ref (w.1 1)) ⟨by decide, by decide⟩ (ce0 w) rfl clX5 (by decide) qw214 rfl dX5_rail_5 ?_
  refine s_callVv (as := [.ref (w.1 1)]) (st := []) (k := 13) G aw_self mdX0_become (fun _ h => c_X0_become_13_1 w O l M _ h) ⟨by decide, by decide⟩ (ce13 w) clX0 rfl qw548 rfl rfl (Nat.le_of_ble_eq_true rfl) (by decide) dX5_rail_8 (fun r8 => ?_)
  refine s_aload_n G dX5_rail_11 rfl ?_
  refine s_get (k := 0) (j := 5) G (.ref (w.1 25)) ⟨by decide, by decide⟩ (ce0 w) rfl clX5 (by decide) qw219 rfl dX5_rail_12 ?_
  refine s_aload_n G dX5_rail_15 rfl ?_
  refine s_get (k := 0) (j := 2) G (.ref (w.1 13)) ⟨by decide, by decide⟩ (ce0 w) rfl clX5 (by decide) qw216 rfl dX5_rail_16 ?_
  refine s_callVI (as := [.ref (w.1 13)]) (st := []) (k := 25) G aw_self mdX1_readItems (fun _ h => c_X1_readItems_13 w O l r8 _ h) ⟨by decide, by decide⟩ (ce25 w) clX1 rfl qw555 rfl rfl (Nat.le_of_ble_eq_true rfl) (by decide) dX5_rail_19 (fun r19 => ?_)
  refine s_istore_n (lv2 := [some (.ref (w.1 0)), some (.int r19.1)]) G dX5_rail_22 (by decide) rfl rfl ?_
  refine s_iload_n G dX5_rail_23 rfl ?_
  refine s_join 38 (fun y24 : Mem => [some (.ref (w.1 0)), some (.int r19.1)]) (fun y24 => []) (fun y24 => y24) (fun y24 => ?_) (fun K24 hB24 => ?_)
  · refine s_aload_n G dX5_rail_38 rfl ?_
    refine s_get (k := 0) (j := 4) G (.ref (w.1 23)) ⟨by decide, by decide⟩ (ce0 w) rfl clX5 (by decide) qw218 rfl dX5_rail_39 ?_
    refine s_iconst (v := 0) G dX5_rail_42 (by decide) ?_
    refine s_put (k := 23) (j := 1) G ⟨by decide, by decide⟩ (ce23 w) (fun _ => rfl) clX4 (by decide) (fun _ => (by decide : 1 < 2)) qw164 rfl rfl rfl rfl dX5_rail_43 (fun m43 => ?_)
    refine s_iload_n G dX5_rail_46 rfl ?_
    exact s_iret G rfl rfl dX5_rail_47
  · refine s_if_lt (tgt := 38) G dX5_rail_24 (by decide) ?_ ?_
    · exact fun hx => hB24 r19.2 hx
    · refine s_aload_n G dX5_rail_27 rfl ?_
      refine s_get (k := 0) (j := 0) G (.ref (w.1 1)) ⟨by decide, by decide⟩ (ce0 w) rfl clX5 (by decide) qw214 rfl dX5_rail_28 ?_
      refine s_aload_n G dX5_rail_31 rfl ?_
      refine s_get (k := 0) (j := 2) G (.ref (w.1 13)) ⟨by decide, by decide⟩ (ce0 w) rfl clX5 (by decide) qw216 rfl dX5_rail_32 ?_
      refine s_callVv (as := [.ref (w.1 13)]) (st := []) (k := 1) G aw_self mdX0_become (fun _ h => c_X0_become_13 w O l r19.2 _ h) ⟨by decide, by decide⟩ (ce1 w) clX0 rfl qw548 rfl rfl (Nat.le_of_ble_eq_true rfl) (by decide) dX5_rail_35 (fun r35 => ?_)
      exact fun hx => hB24 r35 hx

set_option maxRecDepth 100000 in
set_option maxHeartbeats 4000000 in
theorem c_X5_isSheet (w : Wx) (O : Mem) (l : Launch) (a0 : Int32) (M : Mem)  (z : Int32) (hz : f_X5_isSheet a0 = some z) : Ct w 0 36 O l 0 muX5_isSheet [.int a0] M (some (.int z), M) := by
  refine ct_of (X := f_X5_isSheet a0) (K := fun v => some (some (.int v), M)) [some (.int a0)] rfl rfl (Nat.le_of_ble_eq_true rfl) (by rw [hz]; rfl) ?_
  intro p e s m args below meth c G
  unfold f_X5_isSheet
  refine s_iload_n G dX5_isSheet_0 rfl ?_
  refine s_join 14 (fun y1 : Int32 => [none]) (fun y1 => [.int y1]) (fun y1 => M) (fun y1 => ?_) (fun K1 hB1 => ?_)
  · refine s_test (fun h14 => ?_)
    exact s_zret G rfl (zb_nar h14) rfl dX5_isSheet_14
  · refine s_if_lt (tgt := 13) G dX5_isSheet_1 (by decide) ?_ ?_
    · refine s_iconst (v := 0) G dX5_isSheet_13 (by decide) ?_
      refine s_keep [false] (lv2 := [none]) rfl ?_
      exact fun hx => hB1 0 hx
    · refine s_iload_n G dX5_isSheet_4 rfl ?_
      refine s_iconst (v := 4) G dX5_isSheet_5 (by decide) ?_
      refine s_icmp_ge (tgt := 13) G dX5_isSheet_6 (by decide) ?_ ?_
      · refine s_iconst (v := 0) G dX5_isSheet_13 (by decide) ?_
        refine s_keep [false] (lv2 := [none]) rfl ?_
        exact fun hx => hB1 0 hx
      · refine s_iconst (v := 1) G dX5_isSheet_9 (by decide) ?_
        refine s_goto (tgt := 14) G dX5_isSheet_10 (by decide) ?_
        refine s_keep [false] (lv2 := [none]) rfl ?_
        exact fun hx => hB1 1 hx

set_option maxRecDepth 100000 in
set_option maxHeartbeats 4000000 in
theorem c_X2_lay (w : Wx) (O : Mem) (l : Launch) (q0 : Nat) (a1 : Int32) (a2 : Int32) (M : Mem) (hq0 : q0 < 4) (z : Mem) (hz : f_X2_lay q0 a1 a2 M = some z) : Ct w 0 36 O l 0 muX2_lay [.ref (w.1 (27 + 2 * q0)), .int a1, .int a2] M (none, z) := by
  refine ct_of (X := f_X2_lay q0 a1 a2 M) (K := fun v => some (none, v)) [some (.ref (w.1 (27 + 2 * q0))), some (.int a1), some (.int a2), none] rfl rfl (Nat.le_of_ble_eq_true rfl) (by rw [hz]; rfl) ?_
  intro p e s m args below meth c G
  unfold f_X2_lay
  refine s_aload_n G dX2_lay_0 rfl ?_
  refine s_iload_n G dX2_lay_1 rfl ?_
  refine s_put (k := (27 + 2 * q0)) (j := 1) G ⟨by omega, by omega⟩ (ce_sheetF w hq0) (fun _ => rfl) clX2 (by decide) (fun _ => (by decide : 1 < 3)) qw202 rfl rfl rfl rfl dX2_lay_2 (fun m2 => ?_)
  refine s_aload_n G dX2_lay_5 rfl ?_
  refine s_iload_n G dX2_lay_6 rfl ?_
  refine s_put (k := (27 + 2 * q0)) (j := 2) G ⟨by omega, by omega⟩ (ce_sheetF w hq0) (fun _ => rfl) clX2 (by decide) (fun _ => (by decide : 2 < 3)) qw204 rfl rfl rfl rfl dX2_lay_7 (fun m7 => ?_)
  refine s_iconst (v := 0) G dX2_lay_10 (by decide) ?_
  refine s_istore_n (lv2 := [some (.ref (w.1 (27 + 2 * q0))), some (.int a1), some (.int a2), some (.int 0)]) G dX2_lay_11 (by decide) rfl rfl ?_
  refine s_keep [true, false, false, true] (lv2 := [some (.ref (w.1 (27 + 2 * q0))), none, none, some (.int 0)]) rfl ?_
  refine s_loopG (lvf := fun z12 : Int32 × Mem => [some (.ref (w.1 (27 + 2 * q0))), none, none, some (.int z12.1)]) (Mf := fun z12 : Int32 × Mem => z12.2) (ex := (fun x12_31 : Mem => (31, [none, none, none, none], x12_31))) (el_one 31 (fun x12_31 : Mem => [none, none, none, none]) (fun x12_31 : Mem => x12_31) (fun x12_31 => ?_)) (fun z12 K12 hB12 hE12 => ?_)
  · exact s_vret G rfl rfl dX2_lay_31
  · unfold f_X2_lay_L12
    refine s_iload_n G dX2_lay_12 rfl ?_
    refine s_bipush (v := 40) G dX2_lay_13 (by decide) ?_
    refine s_icmp_ge (tgt := 31) G dX2_lay_15 (by decide) ?_ ?_
    · refine s_keep [false, false, false, false] (lv2 := [none, none, none, none]) rfl ?_
      exact fun hx => hE12 z12.2 hx
    · refine s_aload_n G dX2_lay_18 rfl ?_
      refine s_get (k := (27 + 2 * q0)) (j := 0) G (.ref (w.1 (27 + 2 * q0 + 1))) ⟨by omega, by omega⟩ (ce_sheetF w hq0) rfl clX2 (by decide) qw200 rfl dX2_lay_19 ?_
      refine s_iload_n G dX2_lay_22 rfl ?_
      refine s_lconst (v := 0) G dX2_lay_23 (by decide) ?_
      refine s_last (k := (27 + 2 * q0 + 1)) (n := 40) G ⟨by omega, by omega⟩ (ce_num w hq0) dX2_lay_24 (fun m24 => ?_)
      refine s_iinc (v := (z12.1 + 1)) (lv2 := [some (.ref (w.1 (27 + 2 * q0))), none, none, some (.int (z12.1 + 1))]) G dX2_lay_25 rfl rfl (by decide) rfl rfl ?_
      refine s_goto (tgt := 12) G dX2_lay_28 (by decide) ?_
      exact fun hx => hB12 ((z12.1 + 1), m24) hx

set_option maxRecDepth 100000 in
set_option maxHeartbeats 4000000 in
theorem c_X5_sheet (w : Wx) (O : Mem) (l : Launch) (a1 : Int32) (a2 : Int32) (a3 : Int32) (M : Mem)  (z : Int32 × Mem) (hz : f_X5_sheet a1 a2 a3 M = some z) : Ct w 0 36 O l 1 muX5_sheet [.ref (w.1 0), .int a1, .int a2, .int a3] M (some (.int z.1), z.2) := by
  refine ct_of (X := f_X5_sheet a1 a2 a3 M) (K := fun v => some (some (.int v.1), v.2)) [some (.ref (w.1 0)), some (.int a1), some (.int a2), some (.int a3), none, none] rfl rfl (Nat.le_of_ble_eq_true rfl) (by rw [hz]; rfl) ?_
  intro p e s m args below meth c G
  unfold f_X5_sheet
  refine s_iload_n G dX5_sheet_0 rfl ?_
  refine s_join 27 (fun y1 : Int32 => [some (.ref (w.1 0)), some (.int a1), some (.int a2), some (.int a3), none, none]) (fun y1 => [.int y1]) (fun y1 => M) (fun y1 => ?_) (fun K1 hB1 => ?_)
  · refine s_istore (lv2 := [some (.ref (w.1 0)), some (.int a1), some (.int a2), some (.int a3), some (.int y1), none]) G dX5_sheet_27 (by decide) rfl rfl ?_
    refine s_iload_n G dX5_sheet_29 rfl ?_
    refine s_callSi (as := [.int a1]) (st := []) G aw_self mdX5_isSheet (fun _ h => c_X5_isSheet w O l a1 M _ h) qw679 rfl rfl (Nat.le_of_ble_eq_true rfl) (by decide) dX5_sheet_30 (fun r30 => ?_)
    refine s_if_eq (tgt := 41) G dX5_sheet_33 (by decide) ?_ ?_
    · refine s_aload_n G dX5_sheet_41 rfl ?_
      refine s_ldc (v := (-1000000001)) G dX5_sheet_42 qw249 ?_
      refine s_callVI (as := [.int (-1000000001)]) (st := []) (k := 0) G aw_self mdX5_told (fun _ h => c_X5_told w O l (-1000000001) M _ h) ⟨by decide, by decide⟩ (ce0 w) clX5 rfl qw250 rfl rfl (Nat.le_of_ble_eq_true rfl) (by decide) dX5_sheet_44 (fun r44 => ?_)
      exact s_iret G rfl rfl dX5_sheet_47
    · refine s_iload G dX5_sheet_36 rfl ?_
      refine s_if_ne (tgt := 48) G dX5_sheet_38 (by decide) ?_ ?_
      · refine s_aload_n G dX5_sheet_41 rfl ?_
        refine s_ldc (v := (-1000000001)) G dX5_sheet_42 qw249 ?_
        refine s_callVI (as := [.int (-1000000001)]) (st := []) (k := 0) G aw_self mdX5_told (fun _ h => c_X5_told w O l (-1000000001) M _ h) ⟨by decide, by decide⟩ (ce0 w) clX5 rfl qw250 rfl rfl (Nat.le_of_ble_eq_true rfl) (by decide) dX5_sheet_44 (fun r44 => ?_)
        exact s_iret G rfl rfl dX5_sheet_47
      · refine s_iload_n G dX5_sheet_48 rfl ?_
        refine s_if_ge (tgt := 59) G dX5_sheet_49 (by decide) ?_ ?_
        · refine s_iload_n G dX5_sheet_59 rfl ?_
          refine s_bipush (v := 40) G dX5_sheet_60 (by decide) ?_
          refine s_icmp_le (tgt := 72) G dX5_sheet_62 (by decide) ?_ ?_
          · refine s_iload_n G dX5_sheet_72 rfl ?_
            refine s_join 81 (fun y73 : Int32 => [some (.ref (w.1 0)), some (.int a1), some (.int a2), none, none, none]) (fun y73 => [.int y73]) (fun y73 => M) (fun y73 => ?_) (fun K73 hB73 => ?_)
            · refine s_istore (lv2 := [some (.ref (w.1 0)), some (.int a1), some (.int a2), none, none, some (.int y73)]) G dX5_sheet_81 (by decide) rfl rfl ?_
              refine s_aload_n G dX5_sheet_83 rfl ?_
              refine s_get (k := 0) (j := 6) G (.ref (w.1 26)) ⟨by decide, by decide⟩ (ce0 w) rfl clX5 (by decide) qw220 rfl dX5_sheet_84 ?_
              refine s_iload_n G dX5_sheet_87 rfl ?_
              refine s_aald G ⟨by decide, by decide⟩ dX5_sheet_88 (fun q88 hq88 => ?_)
              refine s_iload_n G dX5_sheet_89 rfl ?_
              refine s_iload G dX5_sheet_90 rfl ?_
              refine s_callVv (as := [.int a2, .int y73]) (st := []) (k := (27 + 2 * q88)) G aw_self mdX2_lay (fun _ h => c_X2_lay w O l q88 a2 y73 M hq88 _ h) ⟨by omega, by omega⟩ (ce_sheetF w hq88) clX2 rfl qw683 rfl rfl (Nat.le_of_ble_eq_true rfl) (by decide) dX5_sheet_92 (fun r92 => ?_)
              refine s_iload G dX5_sheet_95 rfl ?_
              exact s_iret G rfl rfl dX5_sheet_97
            · refine s_if_ne (tgt := 80) G dX5_sheet_73 (by decide) ?_ ?_
              · refine s_iconst (v := 0) G dX5_sheet_76 (by decide) ?_
                refine s_goto (tgt := 81) G dX5_sheet_77 (by decide) ?_
                refine s_keep [true, true, true, false, false, false] (lv2 := [some (.ref (w.1 0)), some (.int a1), some (.int a2), none, none, none]) rfl ?_
                exact fun hx => hB73 0 hx
              · refine s_iload_n G dX5_sheet_80 rfl ?_
                refine s_keep [true, true, true, false, false, false] (lv2 := [some (.ref (w.1 0)), some (.int a1), some (.int a2), none, none, none]) rfl ?_
                exact fun hx => hB73 a3 hx
          · refine s_aload_n G dX5_sheet_65 rfl ?_
            refine s_ldc (v := (-1000000001)) G dX5_sheet_66 qw249 ?_
            refine s_callVI (as := [.int (-1000000001)]) (st := []) (k := 0) G aw_self mdX5_told (fun _ h => c_X5_told w O l (-1000000001) M _ h) ⟨by decide, by decide⟩ (ce0 w) clX5 rfl qw250 rfl rfl (Nat.le_of_ble_eq_true rfl) (by decide) dX5_sheet_68 (fun r68 => ?_)
            exact s_iret G rfl rfl dX5_sheet_71
        · refine s_aload_n G dX5_sheet_52 rfl ?_
          refine s_ldc (v := (-1000000007)) G dX5_sheet_53 qw682 ?_
          refine s_callVI (as := [.int (-1000000007)]) (st := []) (k := 0) G aw_self mdX5_told (fun _ h => c_X5_told w O l (-1000000007) M _ h) ⟨by decide, by decide⟩ (ce0 w) clX5 rfl qw250 rfl rfl (Nat.le_of_ble_eq_true rfl) (by decide) dX5_sheet_55 (fun r55 => ?_)
          exact s_iret G rfl rfl dX5_sheet_58
  · refine s_if_eq (tgt := 22) G dX5_sheet_1 (by decide) ?_ ?_
    · refine s_iconst (v := 1) G dX5_sheet_22 (by decide) ?_
      refine s_goto (tgt := 27) G dX5_sheet_23 (by decide) ?_
      exact fun hx => hB1 1 hx
    · refine s_iload_n G dX5_sheet_4 rfl ?_
      refine s_bipush (v := 8) G dX5_sheet_5 (by decide) ?_
      refine s_icmp_eq (tgt := 22) G dX5_sheet_7 (by decide) ?_ ?_
      · refine s_iconst (v := 1) G dX5_sheet_22 (by decide) ?_
        refine s_goto (tgt := 27) G dX5_sheet_23 (by decide) ?_
        exact fun hx => hB1 1 hx
      · refine s_iload_n G dX5_sheet_10 rfl ?_
        refine s_bipush (v := 16) G dX5_sheet_11 (by decide) ?_
        refine s_icmp_eq (tgt := 22) G dX5_sheet_13 (by decide) ?_ ?_
        · refine s_iconst (v := 1) G dX5_sheet_22 (by decide) ?_
          refine s_goto (tgt := 27) G dX5_sheet_23 (by decide) ?_
          exact fun hx => hB1 1 hx
        · refine s_iload_n G dX5_sheet_16 rfl ?_
          refine s_bipush (v := 64) G dX5_sheet_17 (by decide) ?_
          refine s_icmp_ne (tgt := 26) G dX5_sheet_19 (by decide) ?_ ?_
          · refine s_iconst (v := 1) G dX5_sheet_22 (by decide) ?_
            refine s_goto (tgt := 27) G dX5_sheet_23 (by decide) ?_
            exact fun hx => hB1 1 hx
          · refine s_iconst (v := 0) G dX5_sheet_26 (by decide) ?_
            exact fun hx => hB1 0 hx

set_option maxRecDepth 100000 in
set_option maxHeartbeats 4000000 in
theorem c_X2_isMissing (w : Wx) (O : Mem) (l : Launch) (q0 : Nat) (M : Mem) (hq0 : q0 < 4) (z : Int32) (hz : f_X2_isMissing q0 M = some z) : Ct w 0 36 O l 0 muX2_isMissing [.ref (w.1 (27 + 2 * q0))] M (some (.int z), M) := by
  refine ct_of (X := f_X2_isMissing q0 M) (K := fun v => some (some (.int v), M)) [some (.ref (w.1 (27 + 2 * q0)))] rfl rfl (Nat.le_of_ble_eq_true rfl) (by rw [hz]; rfl) ?_
  intro p e s m args below meth c G
  unfold f_X2_isMissing
  refine s_aload_n G dX2_isMissing_0 rfl ?_
  refine s_get (k := (27 + 2 * q0)) (j := 1) G (.int (gI M (27 + 2 * q0) 1)) ⟨by omega, by omega⟩ (ce_sheetF w hq0) rfl clX2 (by decide) qw202 rfl dX2_isMissing_1 ?_
  refine s_join 12 (fun y4 : Int32 => [none]) (fun y4 => [.int y4]) (fun y4 => M) (fun y4 => ?_) (fun K4 hB4 => ?_)
  · refine s_test (fun h12 => ?_)
    exact s_zret G rfl (zb_nar h12) rfl dX2_isMissing_12
  · refine s_if_ne (tgt := 11) G dX2_isMissing_4 (by decide) ?_ ?_
    · refine s_iconst (v := 1) G dX2_isMissing_7 (by decide) ?_
      refine s_goto (tgt := 12) G dX2_isMissing_8 (by decide) ?_
      refine s_keep [false] (lv2 := [none]) rfl ?_
      exact fun hx => hB4 1 hx
    · refine s_iconst (v := 0) G dX2_isMissing_11 (by decide) ?_
      refine s_keep [false] (lv2 := [none]) rfl ?_
      exact fun hx => hB4 0 hx

set_option maxRecDepth 100000 in
set_option maxHeartbeats 4000000 in
theorem c_X5_findingAgainstSheet (w : Wx) (O : Mem) (l : Launch) (a1 : Int32) (M : Mem)  (z : Int32) (hz : f_X5_findingAgainstSheet a1 M = some z) : Ct w 0 36 O l 1 muX5_findingAgainstSheet [.ref (w.1 0), .int a1] M (some (.int z), M) := by
  refine ct_of (X := f_X5_findingAgainstSheet a1 M) (K := fun v => some (some (.int v), M)) [some (.ref (w.1 0)), some (.int a1)] rfl rfl (Nat.le_of_ble_eq_true rfl) (by rw [hz]; rfl) ?_
  intro p e s m args below meth c G
  unfold f_X5_findingAgainstSheet
  refine s_iload_n G dX5_findingAgainstSheet_0 rfl ?_
  refine s_callSi (as := [.int a1]) (st := []) G aw_self mdX5_isSheet (fun _ h => c_X5_isSheet w O l a1 M _ h) qw679 rfl rfl (Nat.le_of_ble_eq_true rfl) (by decide) dX5_findingAgainstSheet_1 (fun r1 => ?_)
  refine s_if_ne (tgt := 10) G dX5_findingAgainstSheet_4 (by decide) ?_ ?_
  · refine s_ldc (v := (-1000000001)) G dX5_findingAgainstSheet_7 qw249 ?_
    exact s_iret G rfl rfl dX5_findingAgainstSheet_9
  · refine s_aload_n G dX5_findingAgainstSheet_10 rfl ?_
    refine s_get (k := 0) (j := 6) G (.ref (w.1 26)) ⟨by decide, by decide⟩ (ce0 w) rfl clX5 (by decide) qw220 rfl dX5_findingAgainstSheet_11 ?_
    refine s_iload_n G dX5_findingAgainstSheet_14 rfl ?_
    refine s_aald G ⟨by decide, by decide⟩ dX5_findingAgainstSheet_15 (fun q15 hq15 => ?_)
    refine s_callVi (as := []) (st := []) (k := (27 + 2 * q15)) G aw_self mdX2_isMissing (fun _ h => c_X2_isMissing w O l q15 M hq15 _ h) ⟨by omega, by omega⟩ (ce_sheetF w hq15) clX2 rfl qw695 rfl rfl (Nat.le_of_ble_eq_true rfl) (by decide) dX5_findingAgainstSheet_16 (fun r16 => ?_)
    refine s_join 28 (fun y19 : Int32 => [none, none]) (fun y19 => [.int y19]) (fun y19 => M) (fun y19 => ?_) (fun K19 hB19 => ?_)
    · exact s_iret G rfl rfl dX5_findingAgainstSheet_28
    · refine s_if_eq (tgt := 27) G dX5_findingAgainstSheet_19 (by decide) ?_ ?_
      · refine s_iconst (v := 0) G dX5_findingAgainstSheet_27 (by decide) ?_
        refine s_keep [false, false] (lv2 := [none, none]) rfl ?_
        exact fun hx => hB19 0 hx
      · refine s_ldc (v := (-1000000006)) G dX5_findingAgainstSheet_22 qw699 ?_
        refine s_goto (tgt := 28) G dX5_findingAgainstSheet_24 (by decide) ?_
        refine s_keep [false, false] (lv2 := [none, none]) rfl ?_
        exact fun hx => hB19 (-1000000006) hx

set_option maxRecDepth 100000 in
set_option maxHeartbeats 4000000 in
theorem c_X2_put (w : Wx) (O : Mem) (l : Launch) (q0 : Nat) (a1 : Int32) (a2 : Int64) (M : Mem) (hq0 : q0 < 4) (z : Mem) (hz : f_X2_put q0 a1 a2 M = some z) : Ct w 0 36 O l 0 muX2_put [.ref (w.1 (27 + 2 * q0)), .int a1, .long a2] M (none, z) := by
  refine ct_of (X := f_X2_put q0 a1 a2 M) (K := fun v => some (none, v)) [some (.ref (w.1 (27 + 2 * q0))), some (.int a1), some (.long a2), none] rfl rfl (Nat.le_of_ble_eq_true rfl) (by rw [hz]; rfl) ?_
  intro p e s m args below meth c G
  unfold f_X2_put
  refine s_aload_n G dX2_put_0 rfl ?_
  refine s_get (k := (27 + 2 * q0)) (j := 1) G (.int (gI M (27 + 2 * q0) 1)) ⟨by omega, by omega⟩ (ce_sheetF w hq0) rfl clX2 (by decide) qw202 rfl dX2_put_1 ?_
  refine s_bipush (v := 8) G dX2_put_4 (by decide) ?_
  refine s_join 51 (fun y6 : Mem => [none, none, none, none]) (fun y6 => []) (fun y6 => y6) (fun y6 => ?_) (fun K6 hB6 => ?_)
  · exact s_vret G rfl rfl dX2_put_51
  · refine s_icmp_ne (tgt := 22) G dX2_put_6 (by decide) ?_ ?_
    · refine s_aload_n G dX2_put_9 rfl ?_
      refine s_get (k := (27 + 2 * q0)) (j := 0) G (.ref (w.1 (27 + 2 * q0 + 1))) ⟨by omega, by omega⟩ (ce_sheetF w hq0) rfl clX2 (by decide) qw200 rfl dX2_put_10 ?_
      refine s_iload_n G dX2_put_13 rfl ?_
      refine s_lload_n G dX2_put_14 rfl ?_
      refine s_l2i G dX2_put_15 ?_
      refine s_i2b G dX2_put_16 ?_
      refine s_i2l G dX2_put_17 ?_
      refine s_last (k := (27 + 2 * q0 + 1)) (n := 40) G ⟨by omega, by omega⟩ (ce_num w hq0) dX2_put_18 (fun m18 => ?_)
      refine s_goto (tgt := 51) G dX2_put_19 (by decide) ?_
      refine s_keep [false, false, false, false] (lv2 := [none, none, none, none]) rfl ?_
      exact fun hx => hB6 m18 hx
    · refine s_aload_n G dX2_put_22 rfl ?_
      refine s_get (k := (27 + 2 * q0)) (j := 1) G (.int (gI M (27 + 2 * q0) 1)) ⟨by omega, by omega⟩ (ce_sheetF w hq0) rfl clX2 (by decide) qw202 rfl dX2_put_23 ?_
      refine s_bipush (v := 16) G dX2_put_26 (by decide) ?_
      refine s_icmp_ne (tgt := 44) G dX2_put_28 (by decide) ?_ ?_
      · refine s_aload_n G dX2_put_31 rfl ?_
        refine s_get (k := (27 + 2 * q0)) (j := 0) G (.ref (w.1 (27 + 2 * q0 + 1))) ⟨by omega, by omega⟩ (ce_sheetF w hq0) rfl clX2 (by decide) qw200 rfl dX2_put_32 ?_
        refine s_iload_n G dX2_put_35 rfl ?_
        refine s_lload_n G dX2_put_36 rfl ?_
        refine s_l2i G dX2_put_37 ?_
        refine s_i2s G dX2_put_38 ?_
        refine s_i2l G dX2_put_39 ?_
        refine s_last (k := (27 + 2 * q0 + 1)) (n := 40) G ⟨by omega, by omega⟩ (ce_num w hq0) dX2_put_40 (fun m40 => ?_)
        refine s_goto (tgt := 51) G dX2_put_41 (by decide) ?_
        refine s_keep [false, false, false, false] (lv2 := [none, none, none, none]) rfl ?_
        exact fun hx => hB6 m40 hx
      · refine s_aload_n G dX2_put_44 rfl ?_
        refine s_get (k := (27 + 2 * q0)) (j := 0) G (.ref (w.1 (27 + 2 * q0 + 1))) ⟨by omega, by omega⟩ (ce_sheetF w hq0) rfl clX2 (by decide) qw200 rfl dX2_put_45 ?_
        refine s_iload_n G dX2_put_48 rfl ?_
        refine s_lload_n G dX2_put_49 rfl ?_
        refine s_last (k := (27 + 2 * q0 + 1)) (n := 40) G ⟨by omega, by omega⟩ (ce_num w hq0) dX2_put_50 (fun m50 => ?_)
        refine s_keep [false, false, false, false] (lv2 := [none, none, none, none]) rfl ?_
        exact fun hx => hB6 m50 hx

set_option maxRecDepth 100000 in
set_option maxHeartbeats 4000000 in
theorem c_X5_write (w : Wx) (O : Mem) (l : Launch) (a1 : Int32) (a2 : Int32) (a3 : Int64) (M : Mem)  (z : Int64 × Mem) (hz : f_X5_write a1 a2 a3 M = some z) : Ct w 0 36 O l 2 muX5_write [.ref (w.1 0), .int a1, .int a2, .long a3] M (some (.long z.1), z.2) := by
  refine ct_of (X := f_X5_write a1 a2 a3 M) (K := fun v => some (some (.long v.1), v.2)) [some (.ref (w.1 0)), some (.int a1), some (.int a2), some (.long a3), none, none, none, none, none] rfl rfl (Nat.le_of_ble_eq_true rfl) (by rw [hz]; rfl) ?_
  intro p e s m args below meth c G
  unfold f_X5_write
  refine s_aload_n G dX5_write_0 rfl ?_
  refine s_iload_n G dX5_write_1 rfl ?_
  refine s_callVi (as := [.int a1]) (st := []) (k := 0) G aw_self mdX5_findingAgainstSheet (fun _ h => c_X5_findingAgainstSheet w O l a1 M _ h) ⟨by decide, by decide⟩ (ce0 w) clX5 rfl qw691 rfl rfl (Nat.le_of_ble_eq_true rfl) (by decide) dX5_write_2 (fun r2 => ?_)
  refine s_istore (lv2 := [some (.ref (w.1 0)), some (.int a1), some (.int a2), some (.long a3), none, some (.int r2), none, none, none]) G dX5_write_5 (by decide) rfl rfl ?_
  refine s_iload G dX5_write_7 rfl ?_
  refine s_if_eq (tgt := 20) G dX5_write_9 (by decide) ?_ ?_
  · refine s_aload_n G dX5_write_20 rfl ?_
    refine s_get (k := 0) (j := 6) G (.ref (w.1 26)) ⟨by decide, by decide⟩ (ce0 w) rfl clX5 (by decide) qw220 rfl dX5_write_21 ?_
    refine s_iload_n G dX5_write_24 rfl ?_
    refine s_aald G ⟨by decide, by decide⟩ dX5_write_25 (fun q25 hq25 => ?_)
    refine s_astore (lv2 := [some (.ref (w.1 0)), some (.int a1), some (.int a2), some (.long a3), none, some (.int r2), some (.ref (w.1 (27 + 2 * q25))), none, none]) G dX5_write_26 (by decide) rfl rfl ?_
    refine s_iload_n G dX5_write_28 rfl ?_
    refine s_if_lt (tgt := 41) G dX5_write_29 (by decide) ?_ ?_
    · refine s_aload_n G dX5_write_41 rfl ?_
      refine s_ldc (v := (-1000000001)) G dX5_write_42 qw249 ?_
      refine s_callVI (as := [.int (-1000000001)]) (st := []) (k := 0) G aw_self mdX5_told (fun _ h => c_X5_told w O l (-1000000001) M _ h) ⟨by decide, by decide⟩ (ce0 w) clX5 rfl qw250 rfl rfl (Nat.le_of_ble_eq_true rfl) (by decide) dX5_write_44 (fun r44 => ?_)
      refine s_i2l G dX5_write_47 ?_
      exact s_lret G rfl rfl dX5_write_48
    · refine s_iload_n G dX5_write_32 rfl ?_
      refine s_aload G dX5_write_33 rfl ?_
      refine s_get (k := (27 + 2 * q25)) (j := 2) G (.int (gI M (27 + 2 * q25) 2)) ⟨by omega, by omega⟩ (ce_sheetF w hq25) rfl clX2 (by decide) qw205 rfl dX5_write_35 ?_
      refine s_icmp_lt (tgt := 49) G dX5_write_38 (by decide) ?_ ?_
      · refine s_aload G dX5_write_49 rfl ?_
        refine s_get (k := (27 + 2 * q25)) (j := 0) G (.ref (w.1 (27 + 2 * q25 + 1))) ⟨by omega, by omega⟩ (ce_sheetF w hq25) rfl clX2 (by decide) qw201 rfl dX5_write_51 ?_
        refine s_iload_n G dX5_write_54 rfl ?_
        refine s_lald (k := (27 + 2 * q25 + 1)) (n := 40) G ⟨by omega, by omega⟩ (ce_num w hq25) dX5_write_55 ?_
        refine s_name (f := Value.long) (fun v56 => ?_)
        refine s_lstore (lv2 := [some (.ref (w.1 0)), some (.int a1), some (.int a2), some (.long a3), none, some (.int r2), some (.ref (w.1 (27 + 2 * q25))), some (.long v56), none]) G dX5_write_56 (by decide) rfl rfl ?_
        refine s_aload G dX5_write_58 rfl ?_
        refine s_iload_n G dX5_write_60 rfl ?_
        refine s_lload_n G dX5_write_61 rfl ?_
        refine s_callVv (as := [.int a2, .long a3]) (st := []) (k := (27 + 2 * q25)) G aw_self mdX2_put (fun _ h => c_X2_put w O l q25 a2 a3 M hq25 _ h) ⟨by omega, by omega⟩ (ce_sheetF w hq25) clX2 rfl qw700 rfl rfl (Nat.le_of_ble_eq_true rfl) (by decide) dX5_write_62 (fun r62 => ?_)
        refine s_lload G dX5_write_65 rfl ?_
        exact s_lret G rfl rfl dX5_write_67
      · refine s_aload_n G dX5_write_41 rfl ?_
        refine s_ldc (v := (-1000000001)) G dX5_write_42 qw249 ?_
        refine s_callVI (as := [.int (-1000000001)]) (st := []) (k := 0) G aw_self mdX5_told (fun _ h => c_X5_told w O l (-1000000001) M _ h) ⟨by decide, by decide⟩ (ce0 w) clX5 rfl qw250 rfl rfl (Nat.le_of_ble_eq_true rfl) (by decide) dX5_write_44 (fun r44 => ?_)
        refine s_i2l G dX5_write_47 ?_
        exact s_lret G rfl rfl dX5_write_48
  · refine s_aload_n G dX5_write_12 rfl ?_
    refine s_iload G dX5_write_13 rfl ?_
    refine s_callVI (as := [.int r2]) (st := []) (k := 0) G aw_self mdX5_told (fun _ h => c_X5_told w O l r2 M _ h) ⟨by decide, by decide⟩ (ce0 w) clX5 rfl qw250 rfl rfl (Nat.le_of_ble_eq_true rfl) (by decide) dX5_write_15 (fun r15 => ?_)
    refine s_i2l G dX5_write_18 ?_
    exact s_lret G rfl rfl dX5_write_19

set_option maxRecDepth 100000 in
set_option maxHeartbeats 4000000 in
theorem c_X2_hasRun (w : Wx) (O : Mem) (l : Launch) (q0 : Nat) (a1 : Int32) (a2 : Int32) (M : Mem) (hq0 : q0 < 4) (z : Int32) (hz : f_X2_hasRun q0 a1 a2 M = some z) : Ct w 0 36 O l 0 muX2_hasRun [.ref (w.1 (27 + 2 * q0)), .int a1, .int a2] M (some (.int z), M) := by
  refine ct_of (X := f_X2_hasRun q0 a1 a2 M) (K := fun v => some (some (.int v), M)) [some (.ref (w.1 (27 + 2 * q0))), some (.int a1), some (.int a2)] rfl rfl (Nat.le_of_ble_eq_true rfl) (by rw [hz]; rfl) ?_
  intro p e s m args below meth c G
  unfold f_X2_hasRun
  refine s_iload_n G dX2_hasRun_0 rfl ?_
  refine s_join 23 (fun y1 : Int32 => [none, none, none]) (fun y1 => [.int y1]) (fun y1 => M) (fun y1 => ?_) (fun K1 hB1 => ?_)
  · refine s_test (fun h23 => ?_)
    exact s_zret G rfl (zb_nar h23) rfl dX2_hasRun_23
  · refine s_if_lt (tgt := 22) G dX2_hasRun_1 (by decide) ?_ ?_
    · refine s_iconst (v := 0) G dX2_hasRun_22 (by decide) ?_
      refine s_keep [false, false, false] (lv2 := [none, none, none]) rfl ?_
      exact fun hx => hB1 0 hx
    · refine s_iload_n G dX2_hasRun_4 rfl ?_
      refine s_if_lt (tgt := 22) G dX2_hasRun_5 (by decide) ?_ ?_
      · refine s_iconst (v := 0) G dX2_hasRun_22 (by decide) ?_
        refine s_keep [false, false, false] (lv2 := [none, none, none]) rfl ?_
        exact fun hx => hB1 0 hx
      · refine s_iload_n G dX2_hasRun_8 rfl ?_
        refine s_aload_n G dX2_hasRun_9 rfl ?_
        refine s_get (k := (27 + 2 * q0)) (j := 2) G (.int (gI M (27 + 2 * q0) 2)) ⟨by omega, by omega⟩ (ce_sheetF w hq0) rfl clX2 (by decide) qw204 rfl dX2_hasRun_10 ?_
        refine s_iload_n G dX2_hasRun_13 rfl ?_
        refine s_isub G dX2_hasRun_14 ?_
        refine s_icmp_gt (tgt := 22) G dX2_hasRun_15 (by decide) ?_ ?_
        · refine s_iconst (v := 0) G dX2_hasRun_22 (by decide) ?_
          refine s_keep [false, false, false] (lv2 := [none, none, none]) rfl ?_
          exact fun hx => hB1 0 hx
        · refine s_iconst (v := 1) G dX2_hasRun_18 (by decide) ?_
          refine s_goto (tgt := 23) G dX2_hasRun_19 (by decide) ?_
          refine s_keep [false, false, false] (lv2 := [none, none, none]) rfl ?_
          exact fun hx => hB1 1 hx

set_option maxRecDepth 100000 in
set_option maxHeartbeats 4000000 in
theorem c_X5_copy (w : Wx) (O : Mem) (l : Launch) (a1 : Int32) (a2 : Int32) (a3 : Int32) (a4 : Int32) (a5 : Int32) (M : Mem)  (z : Int32 × Mem) (hz : f_X5_copy a1 a2 a3 a4 a5 M = some z) : Ct w 0 36 O l 1 muX5_copy [.ref (w.1 0), .int a1, .int a2, .int a3, .int a4, .int a5] M (some (.int z.1), z.2) := by
  refine ct_of (X := f_X5_copy a1 a2 a3 a4 a5 M) (K := fun v => some (some (.int v.1), v.2)) [some (.ref (w.1 0)), some (.int a1), some (.int a2), some (.int a3), some (.int a4), some (.int a5), none, none] rfl rfl (Nat.le_of_ble_eq_true rfl) (by rw [hz]; rfl) ?_
  intro p e s m args below meth c G
  unfold f_X5_copy
  refine s_iload_n G dX5_copy_0 rfl ?_
  refine s_callSi (as := [.int a1]) (st := []) G aw_self mdX5_isSheet (fun _ h => c_X5_isSheet w O l a1 M _ h) qw679 rfl rfl (Nat.le_of_ble_eq_true rfl) (by decide) dX5_copy_1 (fun r1 => ?_)
  refine s_if_eq (tgt := 14) G dX5_copy_4 (by decide) ?_ ?_
  · refine s_aload_n G dX5_copy_14 rfl ?_
    refine s_ldc (v := (-1000000001)) G dX5_copy_15 qw249 ?_
    refine s_callVI (as := [.int (-1000000001)]) (st := []) (k := 0) G aw_self mdX5_told (fun _ h => c_X5_told w O l (-1000000001) M _ h) ⟨by decide, by decide⟩ (ce0 w) clX5 rfl qw250 rfl rfl (Nat.le_of_ble_eq_true rfl) (by decide) dX5_copy_17 (fun r17 => ?_)
    exact s_iret G rfl rfl dX5_copy_20
  · refine s_iload_n G dX5_copy_7 rfl ?_
    refine s_callSi (as := [.int a3]) (st := []) G aw_self mdX5_isSheet (fun _ h => c_X5_isSheet w O l a3 M _ h) qw679 rfl rfl (Nat.le_of_ble_eq_true rfl) (by decide) dX5_copy_8 (fun r8 => ?_)
    refine s_if_ne (tgt := 21) G dX5_copy_11 (by decide) ?_ ?_
    · refine s_aload_n G dX5_copy_14 rfl ?_
      refine s_ldc (v := (-1000000001)) G dX5_copy_15 qw249 ?_
      refine s_callVI (as := [.int (-1000000001)]) (st := []) (k := 0) G aw_self mdX5_told (fun _ h => c_X5_told w O l (-1000000001) M _ h) ⟨by decide, by decide⟩ (ce0 w) clX5 rfl qw250 rfl rfl (Nat.le_of_ble_eq_true rfl) (by decide) dX5_copy_17 (fun r17 => ?_)
      exact s_iret G rfl rfl dX5_copy_20
    · refine s_aload_n G dX5_copy_21 rfl ?_
      refine s_get (k := 0) (j := 6) G (.ref (w.1 26)) ⟨by decide, by decide⟩ (ce0 w) rfl clX5 (by decide) qw220 rfl dX5_copy_22 ?_
      refine s_iload_n G dX5_copy_25 rfl ?_
      refine s_aald G ⟨by decide, by decide⟩ dX5_copy_26 (fun q26 hq26 => ?_)
      refine s_astore (lv2 := [some (.ref (w.1 0)), some (.int a1), some (.int a2), some (.int a3), some (.int a4), some (.int a5), some (.ref (w.1 (27 + 2 * q26))), none]) G dX5_copy_27 (by decide) rfl rfl ?_
      refine s_aload_n G dX5_copy_29 rfl ?_
      refine s_get (k := 0) (j := 6) G (.ref (w.1 26)) ⟨by decide, by decide⟩ (ce0 w) rfl clX5 (by decide) qw220 rfl dX5_copy_30 ?_
      refine s_iload_n G dX5_copy_33 rfl ?_
      refine s_aald G ⟨by decide, by decide⟩ dX5_copy_34 (fun q34 hq34 => ?_)
      refine s_astore (lv2 := [some (.ref (w.1 0)), some (.int a1), some (.int a2), some (.int a3), some (.int a4), some (.int a5), some (.ref (w.1 (27 + 2 * q26))), some (.ref (w.1 (27 + 2 * q34)))]) G dX5_copy_35 (by decide) rfl rfl ?_
      refine s_aload G dX5_copy_37 rfl ?_
      refine s_callVi (as := []) (st := []) (k := (27 + 2 * q26)) G aw_self mdX2_isMissing (fun _ h => c_X2_isMissing w O l q26 M hq26 _ h) ⟨by omega, by omega⟩ (ce_sheetF w hq26) clX2 rfl qw695 rfl rfl (Nat.le_of_ble_eq_true rfl) (by decide) dX5_copy_39 (fun r39 => ?_)
      refine s_if_ne (tgt := 53) G dX5_copy_42 (by decide) ?_ ?_
      · refine s_aload G dX5_copy_45 rfl ?_
        refine s_callVi (as := []) (st := []) (k := (27 + 2 * q34)) G aw_self mdX2_isMissing (fun _ h => c_X2_isMissing w O l q34 M hq34 _ h) ⟨by omega, by omega⟩ (ce_sheetF w hq34) clX2 rfl qw695 rfl rfl (Nat.le_of_ble_eq_true rfl) (by decide) dX5_copy_47 (fun r47 => ?_)
        refine s_if_eq (tgt := 60) G dX5_copy_50 (by decide) ?_ ?_
        · refine s_aload G dX5_copy_60 rfl ?_
          refine s_get (k := (27 + 2 * q26)) (j := 1) G (.int (gI M (27 + 2 * q26) 1)) ⟨by omega, by omega⟩ (ce_sheetF w hq26) rfl clX2 (by decide) qw203 rfl dX5_copy_62 ?_
          refine s_aload G dX5_copy_65 rfl ?_
          refine s_get (k := (27 + 2 * q34)) (j := 1) G (.int (gI M (27 + 2 * q34) 1)) ⟨by omega, by omega⟩ (ce_sheetF w hq34) rfl clX2 (by decide) qw203 rfl dX5_copy_67 ?_
          refine s_icmp_eq (tgt := 80) G dX5_copy_70 (by decide) ?_ ?_
          · refine s_aload G dX5_copy_80 rfl ?_
            refine s_iload_n G dX5_copy_82 rfl ?_
            refine s_iload G dX5_copy_83 rfl ?_
            refine s_callVi (as := [.int a2, .int a5]) (st := []) (k := (27 + 2 * q26)) G aw_self mdX2_hasRun (fun _ h => c_X2_hasRun w O l q26 a2 a5 M hq26 _ h) ⟨by omega, by omega⟩ (ce_sheetF w hq26) clX2 rfl qw708 rfl rfl (Nat.le_of_ble_eq_true rfl) (by decide) dX5_copy_85 (fun r85 => ?_)
            refine s_if_eq (tgt := 103) G dX5_copy_88 (by decide) ?_ ?_
            · refine s_aload_n G dX5_copy_103 rfl ?_
              refine s_ldc (v := (-1000000001)) G dX5_copy_104 qw249 ?_
              refine s_callVI (as := [.int (-1000000001)]) (st := []) (k := 0) G aw_self mdX5_told (fun _ h => c_X5_told w O l (-1000000001) M _ h) ⟨by decide, by decide⟩ (ce0 w) clX5 rfl qw250 rfl rfl (Nat.le_of_ble_eq_true rfl) (by decide) dX5_copy_106 (fun r106 => ?_)
              exact s_iret G rfl rfl dX5_copy_109
            · refine s_aload G dX5_copy_91 rfl ?_
              refine s_iload G dX5_copy_93 rfl ?_
              refine s_iload G dX5_copy_95 rfl ?_
              refine s_callVi (as := [.int a4, .int a5]) (st := []) (k := (27 + 2 * q34)) G aw_self mdX2_hasRun (fun _ h => c_X2_hasRun w O l q34 a4 a5 M hq34 _ h) ⟨by omega, by omega⟩ (ce_sheetF w hq34) clX2 rfl qw708 rfl rfl (Nat.le_of_ble_eq_true rfl) (by decide) dX5_copy_97 (fun r97 => ?_)
              refine s_if_ne (tgt := 110) G dX5_copy_100 (by decide) ?_ ?_
              · refine s_aload_n G dX5_copy_103 rfl ?_
                refine s_ldc (v := (-1000000001)) G dX5_copy_104 qw249 ?_
                refine s_callVI (as := [.int (-1000000001)]) (st := []) (k := 0) G aw_self mdX5_told (fun _ h => c_X5_told w O l (-1000000001) M _ h) ⟨by decide, by decide⟩ (ce0 w) clX5 rfl qw250 rfl rfl (Nat.le_of_ble_eq_true rfl) (by decide) dX5_copy_106 (fun r106 => ?_)
                exact s_iret G rfl rfl dX5_copy_109
              · refine s_aload G dX5_copy_110 rfl ?_
                refine s_get (k := (27 + 2 * q26)) (j := 0) G (.ref (w.1 (27 + 2 * q26 + 1))) ⟨by omega, by omega⟩ (ce_sheetF w hq26) rfl clX2 (by decide) qw201 rfl dX5_copy_112 ?_
                refine s_iload_n G dX5_copy_115 rfl ?_
                refine s_aload G dX5_copy_116 rfl ?_
                refine s_get (k := (27 + 2 * q34)) (j := 0) G (.ref (w.1 (27 + 2 * q34 + 1))) ⟨by omega, by omega⟩ (ce_sheetF w hq34) rfl clX2 (by decide) qw201 rfl dX5_copy_118 ?_
                refine s_iload G dX5_copy_121 rfl ?_
                refine s_iload G dX5_copy_123 rfl ?_
                refine s_test (fun h125 => ?_)
                refine s_copyJ (k0 := (27 + 2 * q26 + 1)) (k1 := (27 + 2 * q34 + 1)) (n0 := 40) (n1 := 40) (st := []) G ⟨by omega, by omega⟩ ⟨by omega, by omega⟩ (ce_num w hq26) (ce_num w hq34) h125.1 h125.2.1 h125.2.2.1 h125.2.2.2.1 h125.2.2.2.2 qw712 qw554 qw553 qw72 (by decide) (Nat.le_of_ble_eq_true rfl) dX5_copy_125 (fun m125 => ?_)
                refine s_iload G dX5_copy_128 rfl ?_
                exact s_iret G rfl rfl dX5_copy_130
          · refine s_aload_n G dX5_copy_73 rfl ?_
            refine s_ldc (v := (-1000000003)) G dX5_copy_74 qw295 ?_
            refine s_callVI (as := [.int (-1000000003)]) (st := []) (k := 0) G aw_self mdX5_told (fun _ h => c_X5_told w O l (-1000000003) M _ h) ⟨by decide, by decide⟩ (ce0 w) clX5 rfl qw250 rfl rfl (Nat.le_of_ble_eq_true rfl) (by decide) dX5_copy_76 (fun r76 => ?_)
            exact s_iret G rfl rfl dX5_copy_79
        · refine s_aload_n G dX5_copy_53 rfl ?_
          refine s_ldc (v := (-1000000006)) G dX5_copy_54 qw699 ?_
          refine s_callVI (as := [.int (-1000000006)]) (st := []) (k := 0) G aw_self mdX5_told (fun _ h => c_X5_told w O l (-1000000006) M _ h) ⟨by decide, by decide⟩ (ce0 w) clX5 rfl qw250 rfl rfl (Nat.le_of_ble_eq_true rfl) (by decide) dX5_copy_56 (fun r56 => ?_)
          exact s_iret G rfl rfl dX5_copy_59
      · refine s_aload_n G dX5_copy_53 rfl ?_
        refine s_ldc (v := (-1000000006)) G dX5_copy_54 qw699 ?_
        refine s_callVI (as := [.int (-1000000006)]) (st := []) (k := 0) G aw_self mdX5_told (fun _ h => c_X5_told w O l (-1000000006) M _ h) ⟨by decide, by decide⟩ (ce0 w) clX5 rfl qw250 rfl rfl (Nat.le_of_ble_eq_true rfl) (by decide) dX5_copy_56 (fun r56 => ?_)
        exact s_iret G rfl rfl dX5_copy_59

set_option maxRecDepth 100000 in
set_option maxHeartbeats 4000000 in
theorem c_X5_lays (w : Wx) (O : Mem) (l : Launch) (a1 : Int32) (M : Mem)  (z : Int32 × Mem) (hz : f_X5_lays a1 M = some z) : Ct w 0 36 O l 2 muX5_lays [.ref (w.1 0), .int a1] M (some (.int z.1), z.2) := by
  refine ct_of (X := f_X5_lays a1 M) (K := fun v => some (some (.int v.1), v.2)) [some (.ref (w.1 0)), some (.int a1), none, none, none, none, none, none, none] rfl rfl (Nat.le_of_ble_eq_true rfl) (by rw [hz]; rfl) ?_
  intro p e s m args below meth c G
  unfold f_X5_lays
  refine s_aload_n G dX5_lays_0 rfl ?_
  refine s_iload_n G dX5_lays_1 rfl ?_
  refine s_callVi (as := [.int a1]) (st := []) (k := 0) G aw_self mdX5_findingAgainstSheet (fun _ h => c_X5_findingAgainstSheet w O l a1 M _ h) ⟨by decide, by decide⟩ (ce0 w) clX5 rfl qw691 rfl rfl (Nat.le_of_ble_eq_true rfl) (by decide) dX5_lays_2 (fun r2 => ?_)
  refine s_istore_n (lv2 := [some (.ref (w.1 0)), some (.int a1), some (.int r2), none, none, none, none, none, none]) G dX5_lays_5 (by decide) rfl rfl ?_
  refine s_iload_n G dX5_lays_6 rfl ?_
  refine s_if_eq (tgt := 16) G dX5_lays_7 (by decide) ?_ ?_
  · refine s_aload_n G dX5_lays_16 rfl ?_
    refine s_get (k := 0) (j := 6) G (.ref (w.1 26)) ⟨by decide, by decide⟩ (ce0 w) rfl clX5 (by decide) qw220 rfl dX5_lays_17 ?_
    refine s_iload_n G dX5_lays_20 rfl ?_
    refine s_aald G ⟨by decide, by decide⟩ dX5_lays_21 (fun q21 hq21 => ?_)
    refine s_astore_n (lv2 := [some (.ref (w.1 0)), some (.int a1), some (.int r2), some (.ref (w.1 (27 + 2 * q21))), none, none, none, none, none]) G dX5_lays_22 (by decide) rfl rfl ?_
    refine s_iconst (v := 0) G dX5_lays_23 (by decide) ?_
    refine s_istore (lv2 := [some (.ref (w.1 0)), some (.int a1), some (.int r2), some (.ref (w.1 (27 + 2 * q21))), some (.int 0), none, none, none, none]) G dX5_lays_24 (by decide) rfl rfl ?_
    refine s_aload_n G dX5_lays_26 rfl ?_
    refine s_get (k := (27 + 2 * q21)) (j := 2) G (.int (gI M (27 + 2 * q21) 2)) ⟨by omega, by omega⟩ (ce_sheetF w hq21) rfl clX2 (by decide) qw205 rfl dX5_lays_27 ?_
    refine s_aload_n G dX5_lays_30 rfl ?_
    refine s_get (k := 0) (j := 0) G (.ref (w.1 1)) ⟨by decide, by decide⟩ (ce0 w) rfl clX5 (by decide) qw214 rfl dX5_lays_31 ?_
    refine s_get (k := 1) (j := 0) G (.int (gI M 1 0)) ⟨by decide, by decide⟩ (ce1 w) rfl clX0 (by decide) qw92 rfl dX5_lays_34 ?_
    refine s_mmin (st := []) G qw717 qw330 qw70 qMath_min (by decide) (Nat.le_of_ble_eq_true rfl) dX5_lays_37 ?_
    refine s_name (f := Value.int) (fun v40 => ?_)
    refine s_istore (lv2 := [some (.ref (w.1 0)), some (.int a1), some (.int r2), some (.ref (w.1 (27 + 2 * q21))), some (.int 0), some (.int v40), none, none, none]) G dX5_lays_40 (by decide) rfl rfl ?_
    refine s_iconst (v := 0) G dX5_lays_42 (by decide) ?_
    refine s_istore (lv2 := [some (.ref (w.1 0)), some (.int a1), some (.int r2), some (.ref (w.1 (27 + 2 * q21))), some (.int 0), some (.int v40), some (.int 0), none, none]) G dX5_lays_43 (by decide) rfl rfl ?_
    refine s_keep [true, false, false, true, true, true, true, false, false] (lv2 := [some (.ref (w.1 0)), none, none, some (.ref (w.1 (27 + 2 * q21))), some (.int 0), some (.int v40), some (.int 0), none, none]) rfl ?_
    refine s_loopG (lvf := fun z45 : Int32 × Int32 × Mem => [some (.ref (w.1 0)), none, none, some (.ref (w.1 (27 + 2 * q21))), some (.int z45.1), some (.int v40), some (.int z45.2.1), none, none]) (Mf := fun z45 : Int32 × Int32 × Mem => z45.2.2) (ex := (fun x45_130 : Int32 × Mem => (130, [none, none, none, none, some (.int x45_130.1), none, none, none, none], x45_130.2))) (el_one 130 (fun x45_130 : Int32 × Mem => [none, none, none, none, some (.int x45_130.1), none, none, none, none]) (fun x45_130 : Int32 × Mem => x45_130.2) (fun x45_130 => ?_)) (fun z45 K45 hB45 hE45 => ?_)
    · refine s_iload G dX5_lays_130 rfl ?_
      exact s_iret G rfl rfl dX5_lays_132
    · unfold f_X5_lays_L45
      refine s_iload G dX5_lays_45 rfl ?_
      refine s_iload G dX5_lays_47 rfl ?_
      refine s_icmp_ge (tgt := 130) G dX5_lays_49 (by decide) ?_ ?_
      · refine s_keep [false, false, false, false, true, false, false, false, false] (lv2 := [none, none, none, none, some (.int z45.1), none, none, none, none]) rfl ?_
        exact fun hx => hE45 (z45.1, z45.2.2) hx
      · refine s_aload_n G dX5_lays_52 rfl ?_
        refine s_get (k := (27 + 2 * q21)) (j := 0) G (.ref (w.1 (27 + 2 * q21 + 1))) ⟨by omega, by omega⟩ (ce_sheetF w hq21) rfl clX2 (by decide) qw201 rfl dX5_lays_53 ?_
        refine s_iload G dX5_lays_56 rfl ?_
        refine s_lald (k := (27 + 2 * q21 + 1)) (n := 40) G ⟨by omega, by omega⟩ (ce_num w hq21) dX5_lays_58 ?_
        refine s_name (f := Value.long) (fun v59 => ?_)
        refine s_lstore (lv2 := [some (.ref (w.1 0)), none, none, some (.ref (w.1 (27 + 2 * q21))), some (.int z45.1), some (.int v40), some (.int z45.2.1), some (.long v59), none]) G dX5_lays_59 (by decide) rfl rfl ?_
        refine s_aload_n G dX5_lays_61 rfl ?_
        refine s_get (k := 0) (j := 0) G (.ref (w.1 1)) ⟨by decide, by decide⟩ (ce0 w) rfl clX5 (by decide) qw214 rfl dX5_lays_62 ?_
        refine s_iload G dX5_lays_65 rfl ?_
        refine s_callVi (as := [.int z45.2.1]) (st := []) (k := 1) G aw_self mdX0_isUp (fun _ h => c_X0_isUp w O l z45.2.1 z45.2.2 _ h) ⟨by decide, by decide⟩ (ce1 w) clX0 rfl qw316 rfl rfl (Nat.le_of_ble_eq_true rfl) (by decide) dX5_lays_67 (fun r67 => ?_)
        refine s_join 124 (fun y70 : Int32 × Mem => [some (.ref (w.1 0)), none, none, some (.ref (w.1 (27 + 2 * q21))), some (.int y70.1), some (.int v40), some (.int z45.2.1), none, none]) (fun y70 => []) (fun y70 => y70.2) (fun y70 => ?_) (fun K70 hB70 => ?_)
        · refine s_iinc (v := (z45.2.1 + 1)) (lv2 := [some (.ref (w.1 0)), none, none, some (.ref (w.1 (27 + 2 * q21))), some (.int y70.1), some (.int v40), some (.int (z45.2.1 + 1)), none, none]) G dX5_lays_124 rfl rfl (by decide) rfl rfl ?_
          refine s_goto (tgt := 45) G dX5_lays_127 (by decide) ?_
          exact fun hx => hB45 (y70.1, (z45.2.1 + 1), y70.2) hx
        · refine s_if_ne (tgt := 124) G dX5_lays_70 (by decide) ?_ ?_
          · refine s_lload G dX5_lays_73 rfl ?_
            refine s_lconst (v := 0) G dX5_lays_75 (by decide) ?_
            refine s_lcmp G dX5_lays_76 ?_
            refine s_if_lt (tgt := 124) G dX5_lays_77 (by decide) ?_ ?_
            · refine s_keep [true, false, false, true, true, true, true, false, false] (lv2 := [some (.ref (w.1 0)), none, none, some (.ref (w.1 (27 + 2 * q21))), some (.int z45.1), some (.int v40), some (.int z45.2.1), none, none]) rfl ?_
              exact fun hx => hB70 (z45.1, z45.2.2) hx
            · refine s_lload G dX5_lays_80 rfl ?_
              refine s_ldc2 (v := 24) G dX5_lays_82 qw718 ?_
              refine s_lcmp G dX5_lays_85 ?_
              refine s_if_ge (tgt := 124) G dX5_lays_86 (by decide) ?_ ?_
              · refine s_keep [true, false, false, true, true, true, true, false, false] (lv2 := [some (.ref (w.1 0)), none, none, some (.ref (w.1 (27 + 2 * q21))), some (.int z45.1), some (.int v40), some (.int z45.2.1), none, none]) rfl ?_
                exact fun hx => hB70 (z45.1, z45.2.2) hx
              · refine s_aload_n G dX5_lays_89 rfl ?_
                refine s_get (k := 0) (j := 0) G (.ref (w.1 1)) ⟨by decide, by decide⟩ (ce0 w) rfl clX5 (by decide) qw214 rfl dX5_lays_90 ?_
                refine s_lload G dX5_lays_93 rfl ?_
                refine s_l2i G dX5_lays_95 ?_
                refine s_callVi (as := [.int v59.toInt32]) (st := []) (k := 1) G aw_self mdX0_isFree (fun _ h => c_X0_isFree w O l v59.toInt32 z45.2.2 _ h) ⟨by decide, by decide⟩ (ce1 w) clX0 rfl qw307 rfl rfl (Nat.le_of_ble_eq_true rfl) (by decide) dX5_lays_96 (fun r96 => ?_)
                refine s_if_eq (tgt := 124) G dX5_lays_99 (by decide) ?_ ?_
                · refine s_keep [true, false, false, true, true, true, true, false, false] (lv2 := [some (.ref (w.1 0)), none, none, some (.ref (w.1 (27 + 2 * q21))), some (.int z45.1), some (.int v40), some (.int z45.2.1), none, none]) rfl ?_
                  exact fun hx => hB70 (z45.1, z45.2.2) hx
                · refine s_aload_n G dX5_lays_102 rfl ?_
                  refine s_get (k := 0) (j := 0) G (.ref (w.1 1)) ⟨by decide, by decide⟩ (ce0 w) rfl clX5 (by decide) qw214 rfl dX5_lays_103 ?_
                  refine s_iload G dX5_lays_106 rfl ?_
                  refine s_lload G dX5_lays_108 rfl ?_
                  refine s_l2i G dX5_lays_110 ?_
                  refine s_callVv (as := [.int z45.2.1, .int v59.toInt32]) (st := []) (k := 1) G aw_self mdX0_put (fun _ h => c_X0_put w O l z45.2.1 v59.toInt32 z45.2.2 _ h) ⟨by decide, by decide⟩ (ce1 w) clX0 rfl qw321 rfl rfl (Nat.le_of_ble_eq_true rfl) (by decide) dX5_lays_111 (fun r111 => ?_)
                  refine s_aload_n G dX5_lays_114 rfl ?_
                  refine s_get (k := 0) (j := 0) G (.ref (w.1 1)) ⟨by decide, by decide⟩ (ce0 w) rfl clX5 (by decide) qw214 rfl dX5_lays_115 ?_
                  refine s_callVv (as := []) (st := []) (k := 1) G aw_self mdX0_addMove (fun _ h => c_X0_addMove w O l r111 _ h) ⟨by decide, by decide⟩ (ce1 w) clX0 rfl qw325 rfl rfl (Nat.le_of_ble_eq_true rfl) (by decide) dX5_lays_118 (fun r118 => ?_)
                  refine s_iinc (v := (z45.1 + 1)) (lv2 := [some (.ref (w.1 0)), none, none, some (.ref (w.1 (27 + 2 * q21))), some (.int (z45.1 + 1)), some (.int v40), some (.int z45.2.1), some (.long v59), none]) G dX5_lays_121 rfl rfl (by decide) rfl rfl ?_
                  refine s_keep [true, false, false, true, true, true, true, false, false] (lv2 := [some (.ref (w.1 0)), none, none, some (.ref (w.1 (27 + 2 * q21))), some (.int (z45.1 + 1)), some (.int v40), some (.int z45.2.1), none, none]) rfl ?_
                  exact fun hx => hB70 ((z45.1 + 1), r118) hx
          · refine s_keep [true, false, false, true, true, true, true, false, false] (lv2 := [some (.ref (w.1 0)), none, none, some (.ref (w.1 (27 + 2 * q21))), some (.int z45.1), some (.int v40), some (.int z45.2.1), none, none]) rfl ?_
            exact fun hx => hB70 (z45.1, z45.2.2) hx
  · refine s_aload_n G dX5_lays_10 rfl ?_
    refine s_iload_n G dX5_lays_11 rfl ?_
    refine s_callVI (as := [.int r2]) (st := []) (k := 0) G aw_self mdX5_told (fun _ h => c_X5_told w O l r2 M _ h) ⟨by decide, by decide⟩ (ce0 w) clX5 rfl qw250 rfl rfl (Nat.le_of_ble_eq_true rfl) (by decide) dX5_lays_12 (fun r12 => ?_)
    exact s_iret G rfl rfl dX5_lays_15

set_option maxRecDepth 100000 in
set_option maxHeartbeats 4000000 in
theorem c_X5_book (w : Wx) (O : Mem) (l : Launch) (a1 : Int32) (M : Mem)  (z : Int32 × Mem) (hz : f_X5_book a1 M = some z) : Ct w 0 36 O l 2 muX5_book [.ref (w.1 0), .int a1] M (some (.int z.1), z.2) := by
  refine ct_of (X := f_X5_book a1 M) (K := fun v => some (some (.int v.1), v.2)) [some (.ref (w.1 0)), some (.int a1), none, none, none, none] rfl rfl (Nat.le_of_ble_eq_true rfl) (by rw [hz]; rfl) ?_
  intro p e s m args below meth c G
  unfold f_X5_book
  refine s_aload_n G dX5_book_0 rfl ?_
  refine s_iload_n G dX5_book_1 rfl ?_
  refine s_callVi (as := [.int a1]) (st := []) (k := 0) G aw_self mdX5_findingAgainstSheet (fun _ h => c_X5_findingAgainstSheet w O l a1 M _ h) ⟨by decide, by decide⟩ (ce0 w) clX5 rfl qw691 rfl rfl (Nat.le_of_ble_eq_true rfl) (by decide) dX5_book_2 (fun r2 => ?_)
  refine s_istore_n (lv2 := [some (.ref (w.1 0)), some (.int a1), some (.int r2), none, none, none]) G dX5_book_5 (by decide) rfl rfl ?_
  refine s_iload_n G dX5_book_6 rfl ?_
  refine s_if_eq (tgt := 16) G dX5_book_7 (by decide) ?_ ?_
  · refine s_aload_n G dX5_book_16 rfl ?_
    refine s_get (k := 0) (j := 6) G (.ref (w.1 26)) ⟨by decide, by decide⟩ (ce0 w) rfl clX5 (by decide) qw220 rfl dX5_book_17 ?_
    refine s_iload_n G dX5_book_20 rfl ?_
    refine s_aald G ⟨by decide, by decide⟩ dX5_book_21 (fun q21 hq21 => ?_)
    refine s_astore_n (lv2 := [some (.ref (w.1 0)), some (.int a1), some (.int r2), some (.ref (w.1 (27 + 2 * q21))), none, none]) G dX5_book_22 (by decide) rfl rfl ?_
    refine s_iconst (v := 0) G dX5_book_23 (by decide) ?_
    refine s_istore (lv2 := [some (.ref (w.1 0)), some (.int a1), some (.int r2), some (.ref (w.1 (27 + 2 * q21))), some (.int 0), none]) G dX5_book_24 (by decide) rfl rfl ?_
    refine s_iconst (v := 0) G dX5_book_26 (by decide) ?_
    refine s_istore (lv2 := [some (.ref (w.1 0)), some (.int a1), some (.int r2), some (.ref (w.1 (27 + 2 * q21))), some (.int 0), some (.int 0)]) G dX5_book_27 (by decide) rfl rfl ?_
    refine s_keep [true, false, false, true, true, true] (lv2 := [some (.ref (w.1 0)), none, none, some (.ref (w.1 (27 + 2 * q21))), some (.int 0), some (.int 0)]) rfl ?_
    refine s_loopG (lvf := fun z29 : Int32 × Int32 × Mem => [some (.ref (w.1 0)), none, none, some (.ref (w.1 (27 + 2 * q21))), some (.int z29.1), some (.int z29.2.1)]) (Mf := fun z29 : Int32 × Int32 × Mem => z29.2.2) (ex := (fun x29_83 : Int32 × Mem => (83, [some (.ref (w.1 0)), none, none, some (.ref (w.1 (27 + 2 * q21))), some (.int x29_83.1), none], x29_83.2))) (el_one 83 (fun x29_83 : Int32 × Mem => [some (.ref (w.1 0)), none, none, some (.ref (w.1 (27 + 2 * q21))), some (.int x29_83.1), none]) (fun x29_83 : Int32 × Mem => x29_83.2) (fun x29_83 => ?_)) (fun z29 K29 hB29 hE29 => ?_)
    · refine s_iload G dX5_book_83 rfl ?_
      refine s_istore (lv2 := [some (.ref (w.1 0)), none, none, some (.ref (w.1 (27 + 2 * q21))), some (.int x29_83.1), some (.int x29_83.1)]) G dX5_book_85 (by decide) rfl rfl ?_
      refine s_keep [true, false, false, true, false, true] (lv2 := [some (.ref (w.1 0)), none, none, some (.ref (w.1 (27 + 2 * q21))), none, some (.int x29_83.1)]) rfl ?_
      refine s_loopG (lvf := fun z87 : Int32 × Mem => [some (.ref (w.1 0)), none, none, some (.ref (w.1 (27 + 2 * q21))), none, some (.int z87.1)]) (Mf := fun z87 : Int32 × Mem => z87.2) (ex := (fun x87_111 : Mem => (111, [some (.ref (w.1 0)), none, none, none, none, none], x87_111))) (el_one 111 (fun x87_111 : Mem => [some (.ref (w.1 0)), none, none, none, none, none]) (fun x87_111 : Mem => x87_111) (fun x87_111 => ?_)) (fun z87 K87 hB87 hE87 => ?_)
      · refine s_aload_n G dX5_book_111 rfl ?_
        refine s_get (k := 0) (j := 0) G (.ref (w.1 1)) ⟨by decide, by decide⟩ (ce0 w) rfl clX5 (by decide) qw214 rfl dX5_book_112 ?_
        refine s_callVi (as := []) (st := []) (k := 1) G aw_self mdX0_up (fun _ h => c_X0_up w O l x87_111 _ h) ⟨by decide, by decide⟩ (ce1 w) clX0 rfl qw332 rfl rfl (Nat.le_of_ble_eq_true rfl) (by decide) dX5_book_115 (fun r115 => ?_)
        refine s_callSi (as := [.int r115]) (st := []) G aw_self mdJ6_bitCount_0f7a4 (fun _ h => c_J6_bitCount_0f7a4 w O l r115 x87_111 _ h) qw337 rfl rfl (Nat.le_of_ble_eq_true rfl) (by decide) dX5_book_118 (fun r118 => ?_)
        exact s_iret G rfl rfl dX5_book_121
      · unfold f_X5_book_L87
        refine s_iload G dX5_book_87 rfl ?_
        refine s_aload_n G dX5_book_89 rfl ?_
        refine s_get (k := (27 + 2 * q21)) (j := 2) G (.int (gI z87.2 (27 + 2 * q21) 2)) ⟨by omega, by omega⟩ (ce_sheetF w hq21) rfl clX2 (by decide) qw205 rfl dX5_book_90 ?_
        refine s_icmp_ge (tgt := 111) G dX5_book_93 (by decide) ?_ ?_
        · refine s_keep [true, false, false, false, false, false] (lv2 := [some (.ref (w.1 0)), none, none, none, none, none]) rfl ?_
          exact fun hx => hE87 z87.2 hx
        · refine s_aload_n G dX5_book_96 rfl ?_
          refine s_iload G dX5_book_97 rfl ?_
          refine s_ldc2 (v := (-1)) G dX5_book_99 qw723 ?_
          refine s_callVv (as := [.int z87.1, .long (-1)]) (st := []) (k := (27 + 2 * q21)) G aw_self mdX2_put (fun _ h => c_X2_put w O l q21 z87.1 (-1) z87.2 hq21 _ h) ⟨by omega, by omega⟩ (ce_sheetF w hq21) clX2 rfl qw700 rfl rfl (Nat.le_of_ble_eq_true rfl) (by decide) dX5_book_102 (fun r102 => ?_)
          refine s_iinc (v := (z87.1 + 1)) (lv2 := [some (.ref (w.1 0)), none, none, some (.ref (w.1 (27 + 2 * q21))), none, some (.int (z87.1 + 1))]) G dX5_book_105 rfl rfl (by decide) rfl rfl ?_
          refine s_goto (tgt := 87) G dX5_book_108 (by decide) ?_
          exact fun hx => hB87 ((z87.1 + 1), r102) hx
    · unfold f_X5_book_L29
      refine s_iload G dX5_book_29 rfl ?_
      refine s_bipush (v := 24) G dX5_book_31 (by decide) ?_
      refine s_icmp_ge (tgt := 83) G dX5_book_33 (by decide) ?_ ?_
      · refine s_keep [true, false, false, true, true, false] (lv2 := [some (.ref (w.1 0)), none, none, some (.ref (w.1 (27 + 2 * q21))), some (.int z29.1), none]) rfl ?_
        exact fun hx => hE29 (z29.1, z29.2.2) hx
      · refine s_aload_n G dX5_book_36 rfl ?_
        refine s_get (k := 0) (j := 0) G (.ref (w.1 1)) ⟨by decide, by decide⟩ (ce0 w) rfl clX5 (by decide) qw214 rfl dX5_book_37 ?_
        refine s_iload G dX5_book_40 rfl ?_
        refine s_callVi (as := [.int z29.2.1]) (st := []) (k := 1) G aw_self mdX0_isFree (fun _ h => c_X0_isFree w O l z29.2.1 z29.2.2 _ h) ⟨by decide, by decide⟩ (ce1 w) clX0 rfl qw307 rfl rfl (Nat.le_of_ble_eq_true rfl) (by decide) dX5_book_42 (fun r42 => ?_)
        refine s_join 77 (fun y45 : Int32 × Mem => [some (.ref (w.1 0)), none, none, some (.ref (w.1 (27 + 2 * q21))), some (.int y45.1), some (.int z29.2.1)]) (fun y45 => []) (fun y45 => y45.2) (fun y45 => ?_) (fun K45 hB45 => ?_)
        · refine s_iinc (v := (z29.2.1 + 1)) (lv2 := [some (.ref (w.1 0)), none, none, some (.ref (w.1 (27 + 2 * q21))), some (.int y45.1), some (.int (z29.2.1 + 1))]) G dX5_book_77 rfl rfl (by decide) rfl rfl ?_
          refine s_goto (tgt := 29) G dX5_book_80 (by decide) ?_
          exact fun hx => hB29 (y45.1, (z29.2.1 + 1), y45.2) hx
        · refine s_if_ne (tgt := 77) G dX5_book_45 (by decide) ?_ ?_
          · refine s_iload G dX5_book_48 rfl ?_
            refine s_aload_n G dX5_book_50 rfl ?_
            refine s_get (k := (27 + 2 * q21)) (j := 2) G (.int (gI z29.2.2 (27 + 2 * q21) 2)) ⟨by omega, by omega⟩ (ce_sheetF w hq21) rfl clX2 (by decide) qw205 rfl dX5_book_51 ?_
            refine s_icmp_ge (tgt := 77) G dX5_book_54 (by decide) ?_ ?_
            · exact fun hx => hB45 (z29.1, z29.2.2) hx
            · refine s_aload_n G dX5_book_57 rfl ?_
              refine s_iload G dX5_book_58 rfl ?_
              refine s_aload_n G dX5_book_60 rfl ?_
              refine s_get (k := 0) (j := 0) G (.ref (w.1 1)) ⟨by decide, by decide⟩ (ce0 w) rfl clX5 (by decide) qw214 rfl dX5_book_61 ?_
              refine s_get (k := 1) (j := 8) G (.ref (w.1 6)) ⟨by decide, by decide⟩ (ce1 w) rfl clX0 (by decide) qw116 rfl dX5_book_64 ?_
              refine s_iload G dX5_book_67 rfl ?_
              refine s_iald (k := 6) (n := 24) G ⟨by decide, by decide⟩ (ce6 w) dX5_book_69 ?_
              refine s_i2l G dX5_book_70 ?_
              refine s_callVv (as := [.int z29.1, .long (gI z29.2.2 6 z29.2.1.toNatClampNeg).toInt64]) (st := []) (k := (27 + 2 * q21)) G aw_self mdX2_put (fun _ h => c_X2_put w O l q21 z29.1 (gI z29.2.2 6 z29.2.1.toNatClampNeg).toInt64 z29.2.2 hq21 _ h) ⟨by omega, by omega⟩ (ce_sheetF w hq21) clX2 rfl qw700 rfl rfl (Nat.le_of_ble_eq_true rfl) (by decide) dX5_book_71 (fun r71 => ?_)
              refine s_iinc (v := (z29.1 + 1)) (lv2 := [some (.ref (w.1 0)), none, none, some (.ref (w.1 (27 + 2 * q21))), some (.int (z29.1 + 1)), some (.int z29.2.1)]) G dX5_book_74 rfl rfl (by decide) rfl rfl ?_
              exact fun hx => hB45 ((z29.1 + 1), r71) hx
          · exact fun hx => hB45 (z29.1, z29.2.2) hx
  · refine s_aload_n G dX5_book_10 rfl ?_
    refine s_iload_n G dX5_book_11 rfl ?_
    refine s_callVI (as := [.int r2]) (st := []) (k := 0) G aw_self mdX5_told (fun _ h => c_X5_told w O l r2 M _ h) ⟨by decide, by decide⟩ (ce0 w) clX5 rfl qw250 rfl rfl (Nat.le_of_ble_eq_true rfl) (by decide) dX5_book_12 (fun r12 => ?_)
    exact s_iret G rfl rfl dX5_book_15

set_option maxRecDepth 100000 in
set_option maxHeartbeats 4000000 in
theorem c_X5_read (w : Wx) (O : Mem) (l : Launch) (a1 : Int32) (M : Mem)  (z : Int32 × Mem) (hz : f_X5_read a1 M = some z) : Ct w 0 36 O l 4 muX5_read [.ref (w.1 0), .int a1] M (some (.int z.1), z.2) := by
  refine ct_of (X := f_X5_read a1 M) (K := fun v => some (some (.int v.1), v.2)) [some (.ref (w.1 0)), some (.int a1), none, none, none, none, none, none, none] rfl rfl (Nat.le_of_ble_eq_true rfl) (by rw [hz]; rfl) ?_
  intro p e s m args below meth c G
  unfold f_X5_read
  refine s_aload_n G dX5_read_0 rfl ?_
  refine s_iload_n G dX5_read_1 rfl ?_
  refine s_callVi (as := [.int a1]) (st := []) (k := 0) G aw_self mdX5_findingAgainstSheet (fun _ h => c_X5_findingAgainstSheet w O l a1 M _ h) ⟨by decide, by decide⟩ (ce0 w) clX5 rfl qw691 rfl rfl (Nat.le_of_ble_eq_true rfl) (by decide) dX5_read_2 (fun r2 => ?_)
  refine s_istore_n (lv2 := [some (.ref (w.1 0)), some (.int a1), some (.int r2), none, none, none, none, none, none]) G dX5_read_5 (by decide) rfl rfl ?_
  refine s_iload_n G dX5_read_6 rfl ?_
  refine s_if_eq (tgt := 16) G dX5_read_7 (by decide) ?_ ?_
  · refine s_aload_n G dX5_read_16 rfl ?_
    refine s_get (k := 0) (j := 6) G (.ref (w.1 26)) ⟨by decide, by decide⟩ (ce0 w) rfl clX5 (by decide) qw220 rfl dX5_read_17 ?_
    refine s_iload_n G dX5_read_20 rfl ?_
    refine s_aald G ⟨by decide, by decide⟩ dX5_read_21 (fun q21 hq21 => ?_)
    refine s_astore_n (lv2 := [some (.ref (w.1 0)), some (.int a1), some (.int r2), some (.ref (w.1 (27 + 2 * q21))), none, none, none, none, none]) G dX5_read_22 (by decide) rfl rfl ?_
    refine s_aload_n G dX5_read_23 rfl ?_
    refine s_get (k := 0) (j := 3) G (.ref (w.1 19)) ⟨by decide, by decide⟩ (ce0 w) rfl clX5 (by decide) qw217 rfl dX5_read_24 ?_
    refine s_aload_n G dX5_read_27 rfl ?_
    refine s_get (k := 0) (j := 0) G (.ref (w.1 1)) ⟨by decide, by decide⟩ (ce0 w) rfl clX5 (by decide) qw214 rfl dX5_read_28 ?_
    refine s_callVv (as := [.ref (w.1 1)]) (st := []) (k := 19) G aw_self mdX3_look (fun _ h => c_X3_look_1 w O l M _ h) ⟨by decide, by decide⟩ (ce19 w) clX3 rfl qw370 rfl rfl (Nat.le_of_ble_eq_true rfl) (by decide) dX5_read_31 (fun r31 => ?_)
    refine s_aload_n G dX5_read_34 rfl ?_
    refine s_get (k := 0) (j := 0) G (.ref (w.1 1)) ⟨by decide, by decide⟩ (ce0 w) rfl clX5 (by decide) qw214 rfl dX5_read_35 ?_
    refine s_callVi (as := []) (st := []) (k := 1) G aw_self mdX0_up (fun _ h => c_X0_up w O l r31 _ h) ⟨by decide, by decide⟩ (ce1 w) clX0 rfl qw332 rfl rfl (Nat.le_of_ble_eq_true rfl) (by decide) dX5_read_38 (fun r38 => ?_)
    refine s_istore (lv2 := [some (.ref (w.1 0)), some (.int a1), some (.int r2), some (.ref (w.1 (27 + 2 * q21))), some (.int r38), none, none, none, none]) G dX5_read_41 (by decide) rfl rfl ?_
    refine s_iconst (v := 0) G dX5_read_43 (by decide) ?_
    refine s_istore (lv2 := [some (.ref (w.1 0)), some (.int a1), some (.int r2), some (.ref (w.1 (27 + 2 * q21))), some (.int r38), some (.int 0), none, none, none]) G dX5_read_44 (by decide) rfl rfl ?_
    refine s_keep [true, false, false, true, true, true, false, false, false] (lv2 := [some (.ref (w.1 0)), none, none, some (.ref (w.1 (27 + 2 * q21))), some (.int r38), some (.int 0), none, none, none]) rfl ?_
    refine s_loopG (lvf := fun z46 : Int32 × Int32 => [some (.ref (w.1 0)), none, none, some (.ref (w.1 (27 + 2 * q21))), some (.int z46.1), some (.int z46.2), none, none, none]) (Mf := fun z46 : Int32 × Int32 => r31) (ex := (el (fun x46_120 : Int32 => (120, [none, none, none, none, none, some (.int x46_120), none, none, none], r31)) (fun x46_143 : Unit => (143, [none, none, none, none, none, none, none, none, none], r31)))) (el_all 120 (fun x46_120 : Int32 => [none, none, none, none, none, some (.int x46_120), none, none, none]) (fun x46_120 : Int32 => r31) (fun x46_120 => ?_) (el_one 143 (fun x46_143 : Unit => [none, none, none, none, none, none, none, none, none]) (fun x46_143 : Unit => r31) (fun x46_143 => ?_))) (fun z46 K46 hB46 hE46 => ?_)
    · refine s_iconst (v := 1) G dX5_read_120 (by decide) ?_
      refine s_iload G dX5_read_121 rfl ?_
      refine s_iadd G dX5_read_123 ?_
      exact s_iret G rfl rfl dX5_read_124
    · refine s_iconst (v := 0) G dX5_read_143 (by decide) ?_
      exact s_iret G rfl rfl dX5_read_144
    · unfold f_X5_read_L46
      refine s_iload G dX5_read_46 rfl ?_
      refine s_aload_n G dX5_read_48 rfl ?_
      refine s_get (k := (27 + 2 * q21)) (j := 2) G (.int (gI r31 (27 + 2 * q21) 2)) ⟨by omega, by omega⟩ (ce_sheetF w hq21) rfl clX2 (by decide) qw205 rfl dX5_read_49 ?_
      refine s_icmp_ge (tgt := 143) G dX5_read_52 (by decide) ?_ ?_
      · refine s_keep [false, false, false, false, false, false, false, false, false] (lv2 := [none, none, none, none, none, none, none, none, none]) rfl ?_
        exact fun hx => hE46 (.inr ()) hx
      · refine s_aload_n G dX5_read_55 rfl ?_
        refine s_get (k := (27 + 2 * q21)) (j := 0) G (.ref (w.1 (27 + 2 * q21 + 1))) ⟨by omega, by omega⟩ (ce_sheetF w hq21) rfl clX2 (by decide) qw201 rfl dX5_read_56 ?_
        refine s_iload G dX5_read_59 rfl ?_
        refine s_lald (k := (27 + 2 * q21 + 1)) (n := 40) G ⟨by omega, by omega⟩ (ce_num w hq21) dX5_read_61 ?_
        refine s_name (f := Value.long) (fun v62 => ?_)
        refine s_lstore (lv2 := [some (.ref (w.1 0)), none, none, some (.ref (w.1 (27 + 2 * q21))), some (.int z46.1), some (.int z46.2), some (.long v62), none, none]) G dX5_read_62 (by decide) rfl rfl ?_
        refine s_lload G dX5_read_64 rfl ?_
        refine s_lconst (v := 0) G dX5_read_66 (by decide) ?_
        refine s_lcmp G dX5_read_67 ?_
        refine s_join 96 (fun y68 : Int32 => [some (.ref (w.1 0)), none, none, some (.ref (w.1 (27 + 2 * q21))), some (.int z46.1), some (.int z46.2), some (.long v62), none, none]) (fun y68 => [.int y68]) (fun y68 => r31) (fun y68 => ?_) (fun K68 hB68 => ?_)
        · refine s_istore (lv2 := [some (.ref (w.1 0)), none, none, some (.ref (w.1 (27 + 2 * q21))), some (.int z46.1), some (.int z46.2), some (.long v62), none, some (.int y68)]) G dX5_read_96 (by decide) rfl rfl ?_
          refine s_iload G dX5_read_98 rfl ?_
          refine s_if_eq (tgt := 120) G dX5_read_100 (by decide) ?_ ?_
          · refine s_keep [false, false, false, false, false, true, false, false, false] (lv2 := [none, none, none, none, none, some (.int z46.2), none, none, none]) rfl ?_
            exact fun hx => hE46 (.inl z46.2) hx
          · refine s_aload_n G dX5_read_103 rfl ?_
            refine s_get (k := 0) (j := 3) G (.ref (w.1 19)) ⟨by decide, by decide⟩ (ce0 w) rfl clX5 (by decide) qw217 rfl dX5_read_104 ?_
            refine s_get (k := 19) (j := 2) G (.ref (w.1 22)) ⟨by decide, by decide⟩ (ce19 w) rfl clX3 (by decide) qw146 rfl dX5_read_107 ?_
            refine s_lload G dX5_read_110 rfl ?_
            refine s_l2i G dX5_read_112 ?_
            refine s_iald (k := 22) (n := 12) G ⟨by decide, by decide⟩ (ce22 w) dX5_read_113 ?_
            refine s_iload G dX5_read_114 rfl ?_
            refine s_iand G dX5_read_116 ?_
            refine s_if_eq (tgt := 125) G dX5_read_117 (by decide) ?_ ?_
            · refine s_iload G dX5_read_125 rfl ?_
              refine s_iconst (v := 1) G dX5_read_127 (by decide) ?_
              refine s_lload G dX5_read_128 rfl ?_
              refine s_l2i G dX5_read_130 ?_
              refine s_ishl G dX5_read_131 ?_
              refine s_iconst (v := (-1)) G dX5_read_132 (by decide) ?_
              refine s_ixor G dX5_read_133 ?_
              refine s_iand G dX5_read_134 ?_
              refine s_name (f := Value.int) (fun v135 => ?_)
              refine s_istore (lv2 := [some (.ref (w.1 0)), none, none, some (.ref (w.1 (27 + 2 * q21))), some (.int v135), some (.int z46.2), some (.long v62), none, some (.int y68)]) G dX5_read_135 (by decide) rfl rfl ?_
              refine s_iinc (v := (z46.2 + 1)) (lv2 := [some (.ref (w.1 0)), none, none, some (.ref (w.1 (27 + 2 * q21))), some (.int v135), some (.int (z46.2 + 1)), some (.long v62), none, some (.int y68)]) G dX5_read_137 rfl rfl (by decide) rfl rfl ?_
              refine s_goto (tgt := 46) G dX5_read_140 (by decide) ?_
              refine s_keep [true, false, false, true, true, true, false, false, false] (lv2 := [some (.ref (w.1 0)), none, none, some (.ref (w.1 (27 + 2 * q21))), some (.int v135), some (.int (z46.2 + 1)), none, none, none]) rfl ?_
              exact fun hx => hB46 (v135, (z46.2 + 1)) hx
            · refine s_keep [false, false, false, false, false, true, false, false, false] (lv2 := [none, none, none, none, none, some (.int z46.2), none, none, none]) rfl ?_
              exact fun hx => hE46 (.inl z46.2) hx
        · refine s_if_lt (tgt := 95) G dX5_read_68 (by decide) ?_ ?_
          · refine s_iconst (v := 0) G dX5_read_95 (by decide) ?_
            exact fun hx => hB68 0 hx
          · refine s_lload G dX5_read_71 rfl ?_
            refine s_ldc2 (v := 12) G dX5_read_73 qw728 ?_
            refine s_lcmp G dX5_read_76 ?_
            refine s_if_ge (tgt := 95) G dX5_read_77 (by decide) ?_ ?_
            · refine s_iconst (v := 0) G dX5_read_95 (by decide) ?_
              exact fun hx => hB68 0 hx
            · refine s_iload G dX5_read_80 rfl ?_
              refine s_lload G dX5_read_82 rfl ?_
              refine s_l2i G dX5_read_84 ?_
              refine s_callSi (as := [.int z46.1, .int v62.toInt32]) (st := []) G aw_self mdX5_contains (fun _ h => c_X5_contains w O l z46.1 v62.toInt32 r31 _ h) qw416 rfl rfl (Nat.le_of_ble_eq_true rfl) (by decide) dX5_read_85 (fun r85 => ?_)
              refine s_if_eq (tgt := 95) G dX5_read_88 (by decide) ?_ ?_
              · refine s_iconst (v := 0) G dX5_read_95 (by decide) ?_
                exact fun hx => hB68 0 hx
              · refine s_iconst (v := 1) G dX5_read_91 (by decide) ?_
                refine s_goto (tgt := 96) G dX5_read_92 (by decide) ?_
                exact fun hx => hB68 1 hx
  · refine s_aload_n G dX5_read_10 rfl ?_
    refine s_iload_n G dX5_read_11 rfl ?_
    refine s_callVI (as := [.int r2]) (st := []) (k := 0) G aw_self mdX5_told (fun _ h => c_X5_told w O l r2 M _ h) ⟨by decide, by decide⟩ (ce0 w) clX5 rfl qw250 rfl rfl (Nat.le_of_ble_eq_true rfl) (by decide) dX5_read_12 (fun r12 => ?_)
    exact s_iret G rfl rfl dX5_read_15

set_option maxRecDepth 100000 in
set_option maxHeartbeats 4000000 in
theorem c_X0_become_7_1 (w : Wx) (O : Mem) (l : Launch)  (M : Mem)  (z : Mem) (hz : f_X0_become_7_1  M = some z) : Ct w 0 36 O l 1 muX0_become [.ref (w.1 7), .ref (w.1 1)] M (none, z) := by
  refine ct_of (X := f_X0_become_7_1  M) (K := fun v => some (none, v)) [some (.ref (w.1 7)), some (.ref (w.1 1))] rfl rfl (Nat.le_of_ble_eq_true rfl) (by rw [hz]; rfl) ?_
  intro p e s m args below meth c G
  unfold f_X0_become_7_1
  refine s_aload_n G dX0_become_0 rfl ?_
  refine s_aload_n G dX0_become_1 rfl ?_
  refine s_get (k := 1) (j := 0) G (.int (gI M 1 0)) ⟨by decide, by decide⟩ (ce1 w) rfl clX0 (by decide) qw91 rfl dX0_become_2 ?_
  refine s_put (k := 7) (j := 0) G ⟨by decide, by decide⟩ (ce7 w) (fun _ => rfl) clX0 (by decide) (fun _ => (by decide : 0 < 9)) qw91 rfl rfl rfl rfl dX0_become_5 (fun m5 => ?_)
  refine s_aload_n G dX0_become_8 rfl ?_
  refine s_aload_n G dX0_become_9 rfl ?_
  refine s_get (k := 1) (j := 1) G (.int (gI m5 1 1)) ⟨by decide, by decide⟩ (ce1 w) rfl clX0 (by decide) qw94 rfl dX0_become_10 ?_
  refine s_put (k := 7) (j := 1) G ⟨by decide, by decide⟩ (ce7 w) (fun _ => rfl) clX0 (by decide) (fun _ => (by decide : 1 < 9)) qw94 rfl rfl rfl rfl dX0_become_13 (fun m13 => ?_)
  refine s_aload_n G dX0_become_16 rfl ?_
  refine s_aload_n G dX0_become_17 rfl ?_
  refine s_get (k := 1) (j := 2) G (.int (gI m13 1 2)) ⟨by decide, by decide⟩ (ce1 w) rfl clX0 (by decide) qw96 rfl dX0_become_18 ?_
  refine s_put (k := 7) (j := 2) G ⟨by decide, by decide⟩ (ce7 w) (fun _ => rfl) clX0 (by decide) (fun _ => (by decide : 2 < 9)) qw96 rfl rfl rfl rfl dX0_become_21 (fun m21 => ?_)
  refine s_aload_n G dX0_become_24 rfl ?_
  refine s_aload_n G dX0_become_25 rfl ?_
  refine s_get (k := 1) (j := 3) G (.int (gI m21 1 3)) ⟨by decide, by decide⟩ (ce1 w) rfl clX0 (by decide) qw99 rfl dX0_become_26 ?_
  refine s_put (k := 7) (j := 3) G ⟨by decide, by decide⟩ (ce7 w) (fun _ => rfl) clX0 (by decide) (fun _ => (by decide : 3 < 9)) qw99 rfl rfl rfl rfl dX0_become_29 (fun m29 => ?_)
  refine s_aload_n G dX0_become_32 rfl ?_
  refine s_get (k := 1) (j := 4) G (.ref (w.1 2)) ⟨by decide, by decide⟩ (ce1 w) rfl clX0 (by decide) qw103 rfl dX0_become_33 ?_
  refine s_iconst (v := 0) G dX0_become_36 (by decide) ?_
  refine s_aload_n G dX0_become_37 rfl ?_
  refine s_get (k := 7) (j := 4) G (.ref (w.1 8)) ⟨by decide, by decide⟩ (ce7 w) rfl clX0 (by decide) qw103 rfl dX0_become_38 ?_
  refine s_iconst (v := 0) G dX0_become_41 (by decide) ?_
  refine s_bipush (v := 12) G dX0_become_42 (by decide) ?_
  refine s_copyI (k0 := 2) (k1 := 8) (n0 := 12) (n1 := 12) (st := []) G ⟨by decide, by decide⟩ ⟨by decide, by decide⟩ (ce2 w) (ce8 w) (by decide) (by decide) (by decide) (by decide) (by decide) qw552 qw554 qw553 qw72 (by decide) (Nat.le_of_ble_eq_true rfl) dX0_become_44 (fun m44 => ?_)
  refine s_aload_n G dX0_become_47 rfl ?_
  refine s_get (k := 1) (j := 5) G (.ref (w.1 3)) ⟨by decide, by decide⟩ (ce1 w) rfl clX0 (by decide) qw106 rfl dX0_become_48 ?_
  refine s_iconst (v := 0) G dX0_become_51 (by decide) ?_
  refine s_aload_n G dX0_become_52 rfl ?_
  refine s_get (k := 7) (j := 5) G (.ref (w.1 9)) ⟨by decide, by decide⟩ (ce7 w) rfl clX0 (by decide) qw106 rfl dX0_become_53 ?_
  refine s_iconst (v := 0) G dX0_become_56 (by decide) ?_
  refine s_bipush (v := 12) G dX0_become_57 (by decide) ?_
  refine s_copyI (k0 := 3) (k1 := 9) (n0 := 12) (n1 := 12) (st := []) G ⟨by decide, by decide⟩ ⟨by decide, by decide⟩ (ce3 w) (ce9 w) (by decide) (by decide) (by decide) (by decide) (by decide) qw552 qw554 qw553 qw72 (by decide) (Nat.le_of_ble_eq_true rfl) dX0_become_59 (fun m59 => ?_)
  refine s_aload_n G dX0_become_62 rfl ?_
  refine s_get (k := 1) (j := 6) G (.ref (w.1 4)) ⟨by decide, by decide⟩ (ce1 w) rfl clX0 (by decide) qw109 rfl dX0_become_63 ?_
  refine s_iconst (v := 0) G dX0_become_66 (by decide) ?_
  refine s_aload_n G dX0_become_67 rfl ?_
  refine s_get (k := 7) (j := 6) G (.ref (w.1 10)) ⟨by decide, by decide⟩ (ce7 w) rfl clX0 (by decide) qw109 rfl dX0_become_68 ?_
  refine s_iconst (v := 0) G dX0_become_71 (by decide) ?_
  refine s_bipush (v := 12) G dX0_become_72 (by decide) ?_
  refine s_copyI (k0 := 4) (k1 := 10) (n0 := 12) (n1 := 12) (st := []) G ⟨by decide, by decide⟩ ⟨by decide, by decide⟩ (ce4 w) (ce10 w) (by decide) (by decide) (by decide) (by decide) (by decide) qw552 qw554 qw553 qw72 (by decide) (Nat.le_of_ble_eq_true rfl) dX0_become_74 (fun m74 => ?_)
  refine s_aload_n G dX0_become_77 rfl ?_
  refine s_get (k := 1) (j := 7) G (.ref (w.1 5)) ⟨by decide, by decide⟩ (ce1 w) rfl clX0 (by decide) qw112 rfl dX0_become_78 ?_
  refine s_iconst (v := 0) G dX0_become_81 (by decide) ?_
  refine s_aload_n G dX0_become_82 rfl ?_
  refine s_get (k := 7) (j := 7) G (.ref (w.1 11)) ⟨by decide, by decide⟩ (ce7 w) rfl clX0 (by decide) qw112 rfl dX0_become_83 ?_
  refine s_iconst (v := 0) G dX0_become_86 (by decide) ?_
  refine s_bipush (v := 12) G dX0_become_87 (by decide) ?_
  refine s_copyI (k0 := 5) (k1 := 11) (n0 := 12) (n1 := 12) (st := []) G ⟨by decide, by decide⟩ ⟨by decide, by decide⟩ (ce5 w) (ce11 w) (by decide) (by decide) (by decide) (by decide) (by decide) qw552 qw554 qw553 qw72 (by decide) (Nat.le_of_ble_eq_true rfl) dX0_become_89 (fun m89 => ?_)
  refine s_aload_n G dX0_become_92 rfl ?_
  refine s_get (k := 1) (j := 8) G (.ref (w.1 6)) ⟨by decide, by decide⟩ (ce1 w) rfl clX0 (by decide) qw115 rfl dX0_become_93 ?_
  refine s_iconst (v := 0) G dX0_become_96 (by decide) ?_
  refine s_aload_n G dX0_become_97 rfl ?_
  refine s_get (k := 7) (j := 8) G (.ref (w.1 12)) ⟨by decide, by decide⟩ (ce7 w) rfl clX0 (by decide) qw115 rfl dX0_become_98 ?_
  refine s_iconst (v := 0) G dX0_become_101 (by decide) ?_
  refine s_bipush (v := 24) G dX0_become_102 (by decide) ?_
  refine s_copyI (k0 := 6) (k1 := 12) (n0 := 24) (n1 := 24) (st := []) G ⟨by decide, by decide⟩ ⟨by decide, by decide⟩ (ce6 w) (ce12 w) (by decide) (by decide) (by decide) (by decide) (by decide) qw552 qw554 qw553 qw72 (by decide) (Nat.le_of_ble_eq_true rfl) dX0_become_104 (fun m104 => ?_)
  exact s_vret G rfl rfl dX0_become_107

set_option maxRecDepth 100000 in
set_option maxHeartbeats 4000000 in
theorem c_X5_image (w : Wx) (O : Mem) (l : Launch)  (M : Mem)  (z : Int32 × Mem) (hz : f_X5_image  M = some z) : Ct w 0 36 O l 2 muX5_image [.ref (w.1 0)] M (some (.int z.1), z.2) := by
  refine ct_of (X := f_X5_image  M) (K := fun v => some (some (.int v.1), v.2)) [some (.ref (w.1 0))] rfl rfl (Nat.le_of_ble_eq_true rfl) (by rw [hz]; rfl) ?_
  intro p e s m args below meth c G
  unfold f_X5_image
  refine s_aload_n G dX5_image_0 rfl ?_
  refine s_get (k := 0) (j := 1) G (.ref (w.1 7)) ⟨by decide, by decide⟩ (ce0 w) rfl clX5 (by decide) qw215 rfl dX5_image_1 ?_
  refine s_aload_n G dX5_image_4 rfl ?_
  refine s_get (k := 0) (j := 0) G (.ref (w.1 1)) ⟨by decide, by decide⟩ (ce0 w) rfl clX5 (by decide) qw214 rfl dX5_image_5 ?_
  refine s_callVv (as := [.ref (w.1 1)]) (st := []) (k := 7) G aw_self mdX0_become (fun _ h => c_X0_become_7_1 w O l M _ h) ⟨by decide, by decide⟩ (ce7 w) clX0 rfl qw548 rfl rfl (Nat.le_of_ble_eq_true rfl) (by decide) dX5_image_8 (fun r8 => ?_)
  refine s_aload_n G dX5_image_11 rfl ?_
  refine s_iconst (v := 1) G dX5_image_12 (by decide) ?_
  refine s_put (k := 0) (j := 8) G ⟨by decide, by decide⟩ (ce0 w) (fun _ => rfl) clX5 (by decide) (fun _ => (by decide : 8 < 9)) qw222 rfl rfl rfl rfl dX5_image_13 (fun m13 => ?_)
  refine s_iconst (v := 1) G dX5_image_16 (by decide) ?_
  exact s_iret G rfl rfl dX5_image_17

set_option maxRecDepth 100000 in
set_option maxHeartbeats 4000000 in
theorem c_X0_become_7 (w : Wx) (O : Mem) (l : Launch)  (M : Mem)  (z : Mem) (hz : f_X0_become_7  M = some z) : Ct w 0 36 O l 1 muX0_become [.ref (w.1 1), .ref (w.1 7)] M (none, z) := by
  refine ct_of (X := f_X0_become_7  M) (K := fun v => some (none, v)) [some (.ref (w.1 1)), some (.ref (w.1 7))] rfl rfl (Nat.le_of_ble_eq_true rfl) (by rw [hz]; rfl) ?_
  intro p e s m args below meth c G
  unfold f_X0_become_7
  refine s_aload_n G dX0_become_0 rfl ?_
  refine s_aload_n G dX0_become_1 rfl ?_
  refine s_get (k := 7) (j := 0) G (.int (gI M 7 0)) ⟨by decide, by decide⟩ (ce7 w) rfl clX0 (by decide) qw91 rfl dX0_become_2 ?_
  refine s_put (k := 1) (j := 0) G ⟨by decide, by decide⟩ (ce1 w) (fun _ => rfl) clX0 (by decide) (fun _ => (by decide : 0 < 9)) qw91 rfl rfl rfl rfl dX0_become_5 (fun m5 => ?_)
  refine s_aload_n G dX0_become_8 rfl ?_
  refine s_aload_n G dX0_become_9 rfl ?_
  refine s_get (k := 7) (j := 1) G (.int (gI m5 7 1)) ⟨by decide, by decide⟩ (ce7 w) rfl clX0 (by decide) qw94 rfl dX0_become_10 ?_
  refine s_put (k := 1) (j := 1) G ⟨by decide, by decide⟩ (ce1 w) (fun _ => rfl) clX0 (by decide) (fun _ => (by decide : 1 < 9)) qw94 rfl rfl rfl rfl dX0_become_13 (fun m13 => ?_)
  refine s_aload_n G dX0_become_16 rfl ?_
  refine s_aload_n G dX0_become_17 rfl ?_
  refine s_get (k := 7) (j := 2) G (.int (gI m13 7 2)) ⟨by decide, by decide⟩ (ce7 w) rfl clX0 (by decide) qw96 rfl dX0_become_18 ?_
  refine s_put (k := 1) (j := 2) G ⟨by decide, by decide⟩ (ce1 w) (fun _ => rfl) clX0 (by decide) (fun _ => (by decide : 2 < 9)) qw96 rfl rfl rfl rfl dX0_become_21 (fun m21 => ?_)
  refine s_aload_n G dX0_become_24 rfl ?_
  refine s_aload_n G dX0_become_25 rfl ?_
  refine s_get (k := 7) (j := 3) G (.int (gI m21 7 3)) ⟨by decide, by decide⟩ (ce7 w) rfl clX0 (by decide) qw99 rfl dX0_become_26 ?_
  refine s_put (k := 1) (j := 3) G ⟨by decide, by decide⟩ (ce1 w) (fun _ => rfl) clX0 (by decide) (fun _ => (by decide : 3 < 9)) qw99 rfl rfl rfl rfl dX0_become_29 (fun m29 => ?_)
  refine s_aload_n G dX0_become_32 rfl ?_
  refine s_get (k := 7) (j := 4) G (.ref (w.1 8)) ⟨by decide, by decide⟩ (ce7 w) rfl clX0 (by decide) qw103 rfl dX0_become_33 ?_
  refine s_iconst (v := 0) G dX0_become_36 (by decide) ?_
  refine s_aload_n G dX0_become_37 rfl ?_
  refine s_get (k := 1) (j := 4) G (.ref (w.1 2)) ⟨by decide, by decide⟩ (ce1 w) rfl clX0 (by decide) qw103 rfl dX0_become_38 ?_
  refine s_iconst (v := 0) G dX0_become_41 (by decide) ?_
  refine s_bipush (v := 12) G dX0_become_42 (by decide) ?_
  refine s_copyI (k0 := 8) (k1 := 2) (n0 := 12) (n1 := 12) (st := []) G ⟨by decide, by decide⟩ ⟨by decide, by decide⟩ (ce8 w) (ce2 w) (by decide) (by decide) (by decide) (by decide) (by decide) qw552 qw554 qw553 qw72 (by decide) (Nat.le_of_ble_eq_true rfl) dX0_become_44 (fun m44 => ?_)
  refine s_aload_n G dX0_become_47 rfl ?_
  refine s_get (k := 7) (j := 5) G (.ref (w.1 9)) ⟨by decide, by decide⟩ (ce7 w) rfl clX0 (by decide) qw106 rfl dX0_become_48 ?_
  refine s_iconst (v := 0) G dX0_become_51 (by decide) ?_
  refine s_aload_n G dX0_become_52 rfl ?_
  refine s_get (k := 1) (j := 5) G (.ref (w.1 3)) ⟨by decide, by decide⟩ (ce1 w) rfl clX0 (by decide) qw106 rfl dX0_become_53 ?_
  refine s_iconst (v := 0) G dX0_become_56 (by decide) ?_
  refine s_bipush (v := 12) G dX0_become_57 (by decide) ?_
  refine s_copyI (k0 := 9) (k1 := 3) (n0 := 12) (n1 := 12) (st := []) G ⟨by decide, by decide⟩ ⟨by decide, by decide⟩ (ce9 w) (ce3 w) (by decide) (by decide) (by decide) (by decide) (by decide) qw552 qw554 qw553 qw72 (by decide) (Nat.le_of_ble_eq_true rfl) dX0_become_59 (fun m59 => ?_)
  refine s_aload_n G dX0_become_62 rfl ?_
  refine s_get (k := 7) (j := 6) G (.ref (w.1 10)) ⟨by decide, by decide⟩ (ce7 w) rfl clX0 (by decide) qw109 rfl dX0_become_63 ?_
  refine s_iconst (v := 0) G dX0_become_66 (by decide) ?_
  refine s_aload_n G dX0_become_67 rfl ?_
  refine s_get (k := 1) (j := 6) G (.ref (w.1 4)) ⟨by decide, by decide⟩ (ce1 w) rfl clX0 (by decide) qw109 rfl dX0_become_68 ?_
  refine s_iconst (v := 0) G dX0_become_71 (by decide) ?_
  refine s_bipush (v := 12) G dX0_become_72 (by decide) ?_
  refine s_copyI (k0 := 10) (k1 := 4) (n0 := 12) (n1 := 12) (st := []) G ⟨by decide, by decide⟩ ⟨by decide, by decide⟩ (ce10 w) (ce4 w) (by decide) (by decide) (by decide) (by decide) (by decide) qw552 qw554 qw553 qw72 (by decide) (Nat.le_of_ble_eq_true rfl) dX0_become_74 (fun m74 => ?_)
  refine s_aload_n G dX0_become_77 rfl ?_
  refine s_get (k := 7) (j := 7) G (.ref (w.1 11)) ⟨by decide, by decide⟩ (ce7 w) rfl clX0 (by decide) qw112 rfl dX0_become_78 ?_
  refine s_iconst (v := 0) G dX0_become_81 (by decide) ?_
  refine s_aload_n G dX0_become_82 rfl ?_
  refine s_get (k := 1) (j := 7) G (.ref (w.1 5)) ⟨by decide, by decide⟩ (ce1 w) rfl clX0 (by decide) qw112 rfl dX0_become_83 ?_
  refine s_iconst (v := 0) G dX0_become_86 (by decide) ?_
  refine s_bipush (v := 12) G dX0_become_87 (by decide) ?_
  refine s_copyI (k0 := 11) (k1 := 5) (n0 := 12) (n1 := 12) (st := []) G ⟨by decide, by decide⟩ ⟨by decide, by decide⟩ (ce11 w) (ce5 w) (by decide) (by decide) (by decide) (by decide) (by decide) qw552 qw554 qw553 qw72 (by decide) (Nat.le_of_ble_eq_true rfl) dX0_become_89 (fun m89 => ?_)
  refine s_aload_n G dX0_become_92 rfl ?_
  refine s_get (k := 7) (j := 8) G (.ref (w.1 12)) ⟨by decide, by decide⟩ (ce7 w) rfl clX0 (by decide) qw115 rfl dX0_become_93 ?_
  refine s_iconst (v := 0) G dX0_become_96 (by decide) ?_
  refine s_aload_n G dX0_become_97 rfl ?_
  refine s_get (k := 1) (j := 8) G (.ref (w.1 6)) ⟨by decide, by decide⟩ (ce1 w) rfl clX0 (by decide) qw115 rfl dX0_become_98 ?_
  refine s_iconst (v := 0) G dX0_become_101 (by decide) ?_
  refine s_bipush (v := 24) G dX0_become_102 (by decide) ?_
  refine s_copyI (k0 := 12) (k1 := 6) (n0 := 24) (n1 := 24) (st := []) G ⟨by decide, by decide⟩ ⟨by decide, by decide⟩ (ce12 w) (ce6 w) (by decide) (by decide) (by decide) (by decide) (by decide) qw552 qw554 qw553 qw72 (by decide) (Nat.le_of_ble_eq_true rfl) dX0_become_104 (fun m104 => ?_)
  exact s_vret G rfl rfl dX0_become_107

set_option maxRecDepth 100000 in
set_option maxHeartbeats 4000000 in
theorem c_X5_undo (w : Wx) (O : Mem) (l : Launch)  (M : Mem)  (z : Int32 × Mem) (hz : f_X5_undo  M = some z) : Ct w 0 36 O l 2 muX5_undo [.ref (w.1 0)] M (some (.int z.1), z.2) := by
  refine ct_of (X := f_X5_undo  M) (K := fun v => some (some (.int v.1), v.2)) [some (.ref (w.1 0))] rfl rfl (Nat.le_of_ble_eq_true rfl) (by rw [hz]; rfl) ?_
  intro p e s m args below meth c G
  unfold f_X5_undo
  refine s_aload_n G dX5_undo_0 rfl ?_
  refine s_get (k := 0) (j := 8) G (.int (gI M 0 8)) ⟨by decide, by decide⟩ (ce0 w) rfl clX5 (by decide) qw222 rfl dX5_undo_1 ?_
  refine s_if_ne (tgt := 14) G dX5_undo_4 (by decide) ?_ ?_
  · refine s_aload_n G dX5_undo_7 rfl ?_
    refine s_ldc (v := (-1000000004)) G dX5_undo_8 qw311 ?_
    refine s_callVI (as := [.int (-1000000004)]) (st := []) (k := 0) G aw_self mdX5_told (fun _ h => c_X5_told w O l (-1000000004) M _ h) ⟨by decide, by decide⟩ (ce0 w) clX5 rfl qw250 rfl rfl (Nat.le_of_ble_eq_true rfl) (by decide) dX5_undo_10 (fun r10 => ?_)
    exact s_iret G rfl rfl dX5_undo_13
  · refine s_aload_n G dX5_undo_14 rfl ?_
    refine s_get (k := 0) (j := 0) G (.ref (w.1 1)) ⟨by decide, by decide⟩ (ce0 w) rfl clX5 (by decide) qw214 rfl dX5_undo_15 ?_
    refine s_aload_n G dX5_undo_18 rfl ?_
    refine s_get (k := 0) (j := 1) G (.ref (w.1 7)) ⟨by decide, by decide⟩ (ce0 w) rfl clX5 (by decide) qw215 rfl dX5_undo_19 ?_
    refine s_callVv (as := [.ref (w.1 7)]) (st := []) (k := 1) G aw_self mdX0_become (fun _ h => c_X0_become_7 w O l M _ h) ⟨by decide, by decide⟩ (ce1 w) clX0 rfl qw548 rfl rfl (Nat.le_of_ble_eq_true rfl) (by decide) dX5_undo_22 (fun r22 => ?_)
    refine s_aload_n G dX5_undo_25 rfl ?_
    refine s_get (k := 0) (j := 0) G (.ref (w.1 1)) ⟨by decide, by decide⟩ (ce0 w) rfl clX5 (by decide) qw214 rfl dX5_undo_26 ?_
    refine s_get (k := 1) (j := 0) G (.int (gI r22 1 0)) ⟨by decide, by decide⟩ (ce1 w) rfl clX0 (by decide) qw92 rfl dX5_undo_29 ?_
    exact s_iret G rfl rfl dX5_undo_32

set_option maxRecDepth 100000 in
set_option maxHeartbeats 4000000 in
theorem c_X5_tear (w : Wx) (O : Mem) (l : Launch)  (M : Mem)  (z : Int32 × Mem) (hz : f_X5_tear  M = some z) : Ct w 0 36 O l 0 muX5_tear [.ref (w.1 0)] M (some (.int z.1), z.2) := by
  refine ct_of (X := f_X5_tear  M) (K := fun v => some (some (.int v.1), v.2)) [some (.ref (w.1 0)), none] rfl rfl (Nat.le_of_ble_eq_true rfl) (by rw [hz]; rfl) ?_
  intro p e s m args below meth c G
  unfold f_X5_tear
  refine s_aload_n G dX5_tear_0 rfl ?_
  refine s_get (k := 0) (j := 8) G (.int (gI M 0 8)) ⟨by decide, by decide⟩ (ce0 w) rfl clX5 (by decide) qw222 rfl dX5_tear_1 ?_
  refine s_join 12 (fun y4 : Int32 => [some (.ref (w.1 0)), none]) (fun y4 => [.int y4]) (fun y4 => M) (fun y4 => ?_) (fun K4 hB4 => ?_)
  · refine s_istore_n (lv2 := [some (.ref (w.1 0)), some (.int y4)]) G dX5_tear_12 (by decide) rfl rfl ?_
    refine s_aload_n G dX5_tear_13 rfl ?_
    refine s_iconst (v := 0) G dX5_tear_14 (by decide) ?_
    refine s_put (k := 0) (j := 8) G ⟨by decide, by decide⟩ (ce0 w) (fun _ => rfl) clX5 (by decide) (fun _ => (by decide : 8 < 9)) qw222 rfl rfl rfl rfl dX5_tear_15 (fun m15 => ?_)
    refine s_iload_n G dX5_tear_18 rfl ?_
    exact s_iret G rfl rfl dX5_tear_19
  · refine s_if_eq (tgt := 11) G dX5_tear_4 (by decide) ?_ ?_
    · refine s_iconst (v := 0) G dX5_tear_11 (by decide) ?_
      exact fun hx => hB4 0 hx
    · refine s_iconst (v := 1) G dX5_tear_7 (by decide) ?_
      refine s_goto (tgt := 12) G dX5_tear_8 (by decide) ?_
      exact fun hx => hB4 1 hx

set_option maxRecDepth 100000 in
set_option maxHeartbeats 4000000 in
theorem c_X5_count (w : Wx) (O : Mem) (l : Launch) (a1 : Int32) (M : Mem)  (z : Int32 × Mem) (hz : f_X5_count a1 M = some z) : Ct w 0 36 O l 2 muX5_count [.ref (w.1 0), .int a1] M (some (.int z.1), z.2) := by
  refine ct_of (X := f_X5_count a1 M) (K := fun v => some (some (.int v.1), v.2)) [some (.ref (w.1 0)), some (.int a1)] rfl rfl (Nat.le_of_ble_eq_true rfl) (by rw [hz]; rfl) ?_
  intro p e s m args below meth c G
  unfold f_X5_count
  refine s_iload_n G dX5_count_0 rfl ?_
  refine s_tabIn (v := 0) (off := 31) (tgt := 32) G dX5_count_1 (by decide) (by decide) (by decide) (by decide) ?_ (fun h1_0 => ?_)
  · refine s_aload_n G dX5_count_32 rfl ?_
    refine s_get (k := 0) (j := 0) G (.ref (w.1 1)) ⟨by decide, by decide⟩ (ce0 w) rfl clX5 (by decide) qw214 rfl dX5_count_33 ?_
    refine s_get (k := 1) (j := 0) G (.int (gI M 1 0)) ⟨by decide, by decide⟩ (ce1 w) rfl clX0 (by decide) qw92 rfl dX5_count_36 ?_
    exact s_iret G rfl rfl dX5_count_39
  · refine s_tabIn (v := 1) (off := 39) (tgt := 40) G dX5_count_1 (by decide) (by decide) (by decide) (by decide) ?_ (fun h1_1 => ?_)
    · refine s_aload_n G dX5_count_40 rfl ?_
      refine s_get (k := 0) (j := 4) G (.ref (w.1 23)) ⟨by decide, by decide⟩ (ce0 w) rfl clX5 (by decide) qw218 rfl dX5_count_41 ?_
      refine s_get (k := 23) (j := 1) G (.int (gI M 23 1)) ⟨by decide, by decide⟩ (ce23 w) rfl clX4 (by decide) qw164 rfl dX5_count_44 ?_
      exact s_iret G rfl rfl dX5_count_47
    · refine s_tabIn (v := 2) (off := 47) (tgt := 48) G dX5_count_1 (by decide) (by decide) (by decide) (by decide) ?_ (fun h1_2 => ?_)
      · refine s_aload_n G dX5_count_48 rfl ?_
        refine s_get (k := 0) (j := 0) G (.ref (w.1 1)) ⟨by decide, by decide⟩ (ce0 w) rfl clX5 (by decide) qw214 rfl dX5_count_49 ?_
        refine s_callVi (as := []) (st := []) (k := 1) G aw_self mdX0_up (fun _ h => c_X0_up w O l M _ h) ⟨by decide, by decide⟩ (ce1 w) clX0 rfl qw332 rfl rfl (Nat.le_of_ble_eq_true rfl) (by decide) dX5_count_52 (fun r52 => ?_)
        refine s_callSi (as := [.int r52]) (st := []) G aw_self mdJ6_bitCount_0f7a4 (fun _ h => c_J6_bitCount_0f7a4 w O l r52 M _ h) qw337 rfl rfl (Nat.le_of_ble_eq_true rfl) (by decide) dX5_count_55 (fun r55 => ?_)
        exact s_iret G rfl rfl dX5_count_58
      · refine s_tabIn (v := 3) (off := 58) (tgt := 59) G dX5_count_1 (by decide) (by decide) (by decide) (by decide) ?_ (fun h1_3 => ?_)
        · refine s_aload_n G dX5_count_59 rfl ?_
          refine s_get (k := 0) (j := 0) G (.ref (w.1 1)) ⟨by decide, by decide⟩ (ce0 w) rfl clX5 (by decide) qw214 rfl dX5_count_60 ?_
          refine s_get (k := 1) (j := 3) G (.int (gI M 1 3)) ⟨by decide, by decide⟩ (ce1 w) rfl clX0 (by decide) qw102 rfl dX5_count_63 ?_
          refine s_callSi (as := [.int (gI M 1 3)]) (st := []) G aw_self mdJ6_bitCount_0f7a4 (fun _ h => c_J6_bitCount_0f7a4 w O l (gI M 1 3) M _ h) qw337 rfl rfl (Nat.le_of_ble_eq_true rfl) (by decide) dX5_count_66 (fun r66 => ?_)
          exact s_iret G rfl rfl dX5_count_69
        · refine s_tabOut (tgt := 70) G dX5_count_1 (by have e0 := lv_neT (a := 0) h1_0 (by decide); have e1 := lv_neT (a := 1) h1_1 (by decide); have e2 := lv_neT (a := 2) h1_2 (by decide); have e3 := lv_neT (a := 3) h1_3 (by decide); omega) (by decide) ?_
          refine s_aload_n G dX5_count_70 rfl ?_
          refine s_ldc (v := (-1000000001)) G dX5_count_71 qw249 ?_
          refine s_callVI (as := [.int (-1000000001)]) (st := []) (k := 0) G aw_self mdX5_told (fun _ h => c_X5_told w O l (-1000000001) M _ h) ⟨by decide, by decide⟩ (ce0 w) clX5 rfl qw250 rfl rfl (Nat.le_of_ble_eq_true rfl) (by decide) dX5_count_73 (fun r73 => ?_)
          exact s_iret G rfl rfl dX5_count_76

set_option maxRecDepth 100000 in
set_option maxHeartbeats 4000000 in
theorem c_X5_status (w : Wx) (O : Mem) (l : Launch) (a1 : Int32) (M : Mem)  (z : Int32 × Mem) (hz : f_X5_status a1 M = some z) : Ct w 0 36 O l 1 muX5_status [.ref (w.1 0), .int a1] M (some (.int z.1), z.2) := by
  refine ct_of (X := f_X5_status a1 M) (K := fun v => some (some (.int v.1), v.2)) [some (.ref (w.1 0)), some (.int a1), none, none] rfl rfl (Nat.le_of_ble_eq_true rfl) (by rw [hz]; rfl) ?_
  intro p e s m args below meth c G
  unfold f_X5_status
  refine s_iload_n G dX5_status_0 rfl ?_
  refine s_iconst (v := (-1)) G dX5_status_1 (by decide) ?_
  refine s_icmp_lt (tgt := 11) G dX5_status_2 (by decide) ?_ ?_
  · refine s_aload_n G dX5_status_11 rfl ?_
    refine s_ldc (v := (-1000000001)) G dX5_status_12 qw249 ?_
    refine s_callVI (as := [.int (-1000000001)]) (st := []) (k := 0) G aw_self mdX5_told (fun _ h => c_X5_told w O l (-1000000001) M _ h) ⟨by decide, by decide⟩ (ce0 w) clX5 rfl qw250 rfl rfl (Nat.le_of_ble_eq_true rfl) (by decide) dX5_status_14 (fun r14 => ?_)
    exact s_iret G rfl rfl dX5_status_17
  · refine s_iload_n G dX5_status_5 rfl ?_
    refine s_bipush (v := 7) G dX5_status_6 (by decide) ?_
    refine s_icmp_lt (tgt := 18) G dX5_status_8 (by decide) ?_ ?_
    · refine s_iload_n G dX5_status_18 rfl ?_
      refine s_if_lt (tgt := 29) G dX5_status_19 (by decide) ?_ ?_
      · refine s_iconst (v := 0) G dX5_status_29 (by decide) ?_
        refine s_istore_n (lv2 := [some (.ref (w.1 0)), some (.int a1), some (.int 0), none]) G dX5_status_30 (by decide) rfl rfl ?_
        refine s_iconst (v := 0) G dX5_status_31 (by decide) ?_
        refine s_istore_n (lv2 := [some (.ref (w.1 0)), some (.int a1), some (.int 0), some (.int 0)]) G dX5_status_32 (by decide) rfl rfl ?_
        refine s_keep [true, false, true, true] (lv2 := [some (.ref (w.1 0)), none, some (.int 0), some (.int 0)]) rfl ?_
        refine s_loopG (lvf := fun z33 : Int32 × Int32 => [some (.ref (w.1 0)), none, some (.int z33.1), some (.int z33.2)]) (Mf := fun z33 : Int32 × Int32 => M) (ex := (fun x33_54 : Int32 => (54, [none, none, some (.int x33_54), none], M))) (el_one 54 (fun x33_54 : Int32 => [none, none, some (.int x33_54), none]) (fun x33_54 : Int32 => M) (fun x33_54 => ?_)) (fun z33 K33 hB33 hE33 => ?_)
        · refine s_iload_n G dX5_status_54 rfl ?_
          exact s_iret G rfl rfl dX5_status_55
        · unfold f_X5_status_L33
          refine s_iload_n G dX5_status_33 rfl ?_
          refine s_bipush (v := 7) G dX5_status_34 (by decide) ?_
          refine s_icmp_ge (tgt := 54) G dX5_status_36 (by decide) ?_ ?_
          · refine s_keep [false, false, true, false] (lv2 := [none, none, some (.int z33.1), none]) rfl ?_
            exact fun hx => hE33 z33.1 hx
          · refine s_iload_n G dX5_status_39 rfl ?_
            refine s_aload_n G dX5_status_40 rfl ?_
            refine s_get (k := 0) (j := 7) G (.ref (w.1 35)) ⟨by decide, by decide⟩ (ce0 w) rfl clX5 (by decide) qw221 rfl dX5_status_41 ?_
            refine s_iload_n G dX5_status_44 rfl ?_
            refine s_iald (k := 35) (n := 7) G ⟨by decide, by decide⟩ (ce35 w) dX5_status_45 ?_
            refine s_iadd G dX5_status_46 ?_
            refine s_name (f := Value.int) (fun v47 => ?_)
            refine s_istore_n (lv2 := [some (.ref (w.1 0)), none, some (.int v47), some (.int z33.2)]) G dX5_status_47 (by decide) rfl rfl ?_
            refine s_iinc (v := (z33.2 + 1)) (lv2 := [some (.ref (w.1 0)), none, some (.int v47), some (.int (z33.2 + 1))]) G dX5_status_48 rfl rfl (by decide) rfl rfl ?_
            refine s_goto (tgt := 33) G dX5_status_51 (by decide) ?_
            exact fun hx => hB33 (v47, (z33.2 + 1)) hx
      · refine s_aload_n G dX5_status_22 rfl ?_
        refine s_get (k := 0) (j := 7) G (.ref (w.1 35)) ⟨by decide, by decide⟩ (ce0 w) rfl clX5 (by decide) qw221 rfl dX5_status_23 ?_
        refine s_iload_n G dX5_status_26 rfl ?_
        refine s_iald (k := 35) (n := 7) G ⟨by decide, by decide⟩ (ce35 w) dX5_status_27 ?_
        exact s_iret G rfl rfl dX5_status_28
    · refine s_aload_n G dX5_status_11 rfl ?_
      refine s_ldc (v := (-1000000001)) G dX5_status_12 qw249 ?_
      refine s_callVI (as := [.int (-1000000001)]) (st := []) (k := 0) G aw_self mdX5_told (fun _ h => c_X5_told w O l (-1000000001) M _ h) ⟨by decide, by decide⟩ (ce0 w) clX5 rfl qw250 rfl rfl (Nat.le_of_ble_eq_true rfl) (by decide) dX5_status_14 (fun r14 => ?_)
      exact s_iret G rfl rfl dX5_status_17

set_option maxRecDepth 100000 in
set_option maxHeartbeats 4000000 in
theorem c_X6_in (w : Wx) (O : Mem) (l : Launch) (a0 : Int64) (a2 : Int64) (a4 : Int64) (M : Mem)  (z : Int32) (hz : f_X6_in a0 a2 a4 = some z) : Ct w 36 48 O l 0 muX6_in [.long a0, .long a2, .long a4] M (some (.int z), M) := by
  refine ct_of (X := f_X6_in a0 a2 a4) (K := fun v => some (some (.int v), M)) [some (.long a0), none, some (.long a2), none, some (.long a4), none] rfl rfl (Nat.le_of_ble_eq_true rfl) (by rw [hz]; rfl) ?_
  intro p e s m args below meth c G
  unfold f_X6_in
  refine s_lload_n G dX6_in_0 rfl ?_
  refine s_lload_n G dX6_in_1 rfl ?_
  refine s_lcmp G dX6_in_2 ?_
  refine s_join 18 (fun y3 : Int32 => [none, none, none, none, none, none]) (fun y3 => [.int y3]) (fun y3 => M) (fun y3 => ?_) (fun K3 hB3 => ?_)
  · refine s_test (fun h18 => ?_)
    exact s_zret G rfl (zb_nar h18) rfl dX6_in_18
  · refine s_if_lt (tgt := 17) G dX6_in_3 (by decide) ?_ ?_
    · refine s_iconst (v := 0) G dX6_in_17 (by decide) ?_
      refine s_keep [false, false, false, false, false, false] (lv2 := [none, none, none, none, none, none]) rfl ?_
      exact fun hx => hB3 0 hx
    · refine s_lload_n G dX6_in_6 rfl ?_
      refine s_lload G dX6_in_7 rfl ?_
      refine s_lcmp G dX6_in_9 ?_
      refine s_if_gt (tgt := 17) G dX6_in_10 (by decide) ?_ ?_
      · refine s_iconst (v := 0) G dX6_in_17 (by decide) ?_
        refine s_keep [false, false, false, false, false, false] (lv2 := [none, none, none, none, none, none]) rfl ?_
        exact fun hx => hB3 0 hx
      · refine s_iconst (v := 1) G dX6_in_13 (by decide) ?_
        refine s_goto (tgt := 18) G dX6_in_14 (by decide) ?_
        refine s_keep [false, false, false, false, false, false] (lv2 := [none, none, none, none, none, none]) rfl ?_
        exact fun hx => hB3 1 hx

set_option maxRecDepth 100000 in
set_option maxHeartbeats 4000000 in
theorem c_X6_finds (w : Wx) (O : Mem) (l : Launch) (a1 : Int32) (M : Mem)  (z : Int32 × Mem) (hz : f_X6_finds a1 M = some z) : Ct w 36 48 O l 0 muX6_finds [.ref (w.1 36), .int a1] M (some (.int z.1), z.2) := by
  refine ct_of (X := f_X6_finds a1 M) (K := fun v => some (some (.int v.1), v.2)) [some (.ref (w.1 36)), some (.int a1)] rfl rfl (Nat.le_of_ble_eq_true rfl) (by rw [hz]; rfl) ?_
  intro p e s m args below meth c G
  unfold f_X6_finds
  refine s_aload_n G dX6_finds_0 rfl ?_
  refine s_get (k := 36) (j := 4) G (.ref (w.1 41)) ⟨by decide, by decide⟩ (ce36 w) rfl clX6 (by decide) qw759 rfl dX6_finds_1 ?_
  refine s_ldc (v := (-1000000001)) G dX6_finds_4 qw824 ?_
  refine s_iload_n G dX6_finds_6 rfl ?_
  refine s_isub G dX6_finds_7 ?_
  refine s_dup2 G dX6_finds_8 rfl rfl ?_
  refine s_iald (k := 41) (n := 7) G ⟨by decide, by decide⟩ (ce41 w) dX6_finds_9 ?_
  refine s_iconst (v := 1) G dX6_finds_10 (by decide) ?_
  refine s_iadd G dX6_finds_11 ?_
  refine s_iast (k := 41) (n := 7) G ⟨by decide, by decide⟩ (ce41 w) dX6_finds_12 (fun m12 => ?_)
  refine s_iload_n G dX6_finds_13 rfl ?_
  exact s_iret G rfl rfl dX6_finds_14

set_option maxRecDepth 100000 in
set_option maxHeartbeats 4000000 in
theorem c_X6_keepsAside (w : Wx) (O : Mem) (l : Launch)  (M : Mem)  (z : Mem) (hz : f_X6_keepsAside  M = some z) : Ct w 36 48 O l 0 muX6_keepsAside [.ref (w.1 36)] M (none, z) := by
  refine ct_of (X := f_X6_keepsAside  M) (K := fun v => some (none, v)) [some (.ref (w.1 36)), none] rfl rfl (Nat.le_of_ble_eq_true rfl) (by rw [hz]; rfl) ?_
  intro p e s m args below meth c G
  unfold f_X6_keepsAside
  refine s_iconst (v := 0) G dX6_keepsAside_0 (by decide) ?_
  refine s_istore_n (lv2 := [some (.ref (w.1 36)), some (.int 0)]) G dX6_keepsAside_1 (by decide) rfl rfl ?_
  refine s_loopG (lvf := fun z2 : Int32 × Mem => [some (.ref (w.1 36)), some (.int z2.1)]) (Mf := fun z2 : Int32 × Mem => z2.2) (ex := (fun x2_26 : Mem => (26, [none, none], x2_26))) (el_one 26 (fun x2_26 : Mem => [none, none]) (fun x2_26 : Mem => x2_26) (fun x2_26 => ?_)) (fun z2 K2 hB2 hE2 => ?_)
  · exact s_vret G rfl rfl dX6_keepsAside_26
  · unfold f_X6_keepsAside_L2
    refine s_iload_n G dX6_keepsAside_2 rfl ?_
    refine s_bipush (v := 63) G dX6_keepsAside_3 (by decide) ?_
    refine s_icmp_ge (tgt := 26) G dX6_keepsAside_5 (by decide) ?_ ?_
    · refine s_keep [false, false] (lv2 := [none, none]) rfl ?_
      exact fun hx => hE2 z2.2 hx
    · refine s_aload_n G dX6_keepsAside_8 rfl ?_
      refine s_get (k := 36) (j := 2) G (.ref (w.1 39)) ⟨by decide, by decide⟩ (ce36 w) rfl clX6 (by decide) qw757 rfl dX6_keepsAside_9 ?_
      refine s_iload_n G dX6_keepsAside_12 rfl ?_
      refine s_aload_n G dX6_keepsAside_13 rfl ?_
      refine s_get (k := 36) (j := 0) G (.ref (w.1 37)) ⟨by decide, by decide⟩ (ce36 w) rfl clX6 (by decide) qw755 rfl dX6_keepsAside_14 ?_
      refine s_iload_n G dX6_keepsAside_17 rfl ?_
      refine s_iald (k := 37) (n := 63) G ⟨by decide, by decide⟩ (ce37 w) dX6_keepsAside_18 ?_
      refine s_iast (k := 39) (n := 63) G ⟨by decide, by decide⟩ (ce39 w) dX6_keepsAside_19 (fun m19 => ?_)
      refine s_iinc (v := (z2.1 + 1)) (lv2 := [some (.ref (w.1 36)), some (.int (z2.1 + 1))]) G dX6_keepsAside_20 rfl rfl (by decide) rfl rfl ?_
      refine s_goto (tgt := 2) G dX6_keepsAside_23 (by decide) ?_
      exact fun hx => hB2 ((z2.1 + 1), m19) hx

set_option maxRecDepth 100000 in
set_option maxHeartbeats 4000000 in
theorem c_X6_putsBack (w : Wx) (O : Mem) (l : Launch)  (M : Mem)  (z : Mem) (hz : f_X6_putsBack  M = some z) : Ct w 36 48 O l 0 muX6_putsBack [.ref (w.1 36)] M (none, z) := by
  refine ct_of (X := f_X6_putsBack  M) (K := fun v => some (none, v)) [some (.ref (w.1 36)), none] rfl rfl (Nat.le_of_ble_eq_true rfl) (by rw [hz]; rfl) ?_
  intro p e s m args below meth c G
  unfold f_X6_putsBack
  refine s_iconst (v := 0) G dX6_putsBack_0 (by decide) ?_
  refine s_istore_n (lv2 := [some (.ref (w.1 36)), some (.int 0)]) G dX6_putsBack_1 (by decide) rfl rfl ?_
  refine s_loopG (lvf := fun z2 : Int32 × Mem => [some (.ref (w.1 36)), some (.int z2.1)]) (Mf := fun z2 : Int32 × Mem => z2.2) (ex := (fun x2_26 : Mem => (26, [none, none], x2_26))) (el_one 26 (fun x2_26 : Mem => [none, none]) (fun x2_26 : Mem => x2_26) (fun x2_26 => ?_)) (fun z2 K2 hB2 hE2 => ?_)
  · exact s_vret G rfl rfl dX6_putsBack_26
  · unfold f_X6_putsBack_L2
    refine s_iload_n G dX6_putsBack_2 rfl ?_
    refine s_bipush (v := 63) G dX6_putsBack_3 (by decide) ?_
    refine s_icmp_ge (tgt := 26) G dX6_putsBack_5 (by decide) ?_ ?_
    · refine s_keep [false, false] (lv2 := [none, none]) rfl ?_
      exact fun hx => hE2 z2.2 hx
    · refine s_aload_n G dX6_putsBack_8 rfl ?_
      refine s_get (k := 36) (j := 0) G (.ref (w.1 37)) ⟨by decide, by decide⟩ (ce36 w) rfl clX6 (by decide) qw755 rfl dX6_putsBack_9 ?_
      refine s_iload_n G dX6_putsBack_12 rfl ?_
      refine s_aload_n G dX6_putsBack_13 rfl ?_
      refine s_get (k := 36) (j := 2) G (.ref (w.1 39)) ⟨by decide, by decide⟩ (ce36 w) rfl clX6 (by decide) qw757 rfl dX6_putsBack_14 ?_
      refine s_iload_n G dX6_putsBack_17 rfl ?_
      refine s_iald (k := 39) (n := 63) G ⟨by decide, by decide⟩ (ce39 w) dX6_putsBack_18 ?_
      refine s_iast (k := 37) (n := 63) G ⟨by decide, by decide⟩ (ce37 w) dX6_putsBack_19 (fun m19 => ?_)
      refine s_iinc (v := (z2.1 + 1)) (lv2 := [some (.ref (w.1 36)), some (.int (z2.1 + 1))]) G dX6_putsBack_20 rfl rfl (by decide) rfl rfl ?_
      refine s_goto (tgt := 2) G dX6_putsBack_23 (by decide) ?_
      exact fun hx => hB2 ((z2.1 + 1), m19) hx

set_option maxRecDepth 100000 in
set_option maxHeartbeats 4000000 in
theorem c_X6_laysAside (w : Wx) (O : Mem) (l : Launch)  (M : Mem)  (z : Mem) (hz : f_X6_laysAside  M = some z) : Ct w 36 48 O l 0 muX6_laysAside [.ref (w.1 36)] M (none, z) := by
  refine ct_of (X := f_X6_laysAside  M) (K := fun v => some (none, v)) [some (.ref (w.1 36)), none] rfl rfl (Nat.le_of_ble_eq_true rfl) (by rw [hz]; rfl) ?_
  intro p e s m args below meth c G
  unfold f_X6_laysAside
  refine s_iconst (v := 0) G dX6_laysAside_0 (by decide) ?_
  refine s_istore_n (lv2 := [some (.ref (w.1 36)), some (.int 0)]) G dX6_laysAside_1 (by decide) rfl rfl ?_
  refine s_loopG (lvf := fun z2 : Int32 × Mem => [some (.ref (w.1 36)), some (.int z2.1)]) (Mf := fun z2 : Int32 × Mem => z2.2) (ex := (fun x2_26 : Mem => (26, [none, none], x2_26))) (el_one 26 (fun x2_26 : Mem => [none, none]) (fun x2_26 : Mem => x2_26) (fun x2_26 => ?_)) (fun z2 K2 hB2 hE2 => ?_)
  · exact s_vret G rfl rfl dX6_laysAside_26
  · unfold f_X6_laysAside_L2
    refine s_iload_n G dX6_laysAside_2 rfl ?_
    refine s_bipush (v := 63) G dX6_laysAside_3 (by decide) ?_
    refine s_icmp_ge (tgt := 26) G dX6_laysAside_5 (by decide) ?_ ?_
    · refine s_keep [false, false] (lv2 := [none, none]) rfl ?_
      exact fun hx => hE2 z2.2 hx
    · refine s_aload_n G dX6_laysAside_8 rfl ?_
      refine s_get (k := 36) (j := 3) G (.ref (w.1 40)) ⟨by decide, by decide⟩ (ce36 w) rfl clX6 (by decide) qw758 rfl dX6_laysAside_9 ?_
      refine s_iload_n G dX6_laysAside_12 rfl ?_
      refine s_aload_n G dX6_laysAside_13 rfl ?_
      refine s_get (k := 36) (j := 0) G (.ref (w.1 37)) ⟨by decide, by decide⟩ (ce36 w) rfl clX6 (by decide) qw755 rfl dX6_laysAside_14 ?_
      refine s_iload_n G dX6_laysAside_17 rfl ?_
      refine s_iald (k := 37) (n := 63) G ⟨by decide, by decide⟩ (ce37 w) dX6_laysAside_18 ?_
      refine s_iast (k := 40) (n := 63) G ⟨by decide, by decide⟩ (ce40 w) dX6_laysAside_19 (fun m19 => ?_)
      refine s_iinc (v := (z2.1 + 1)) (lv2 := [some (.ref (w.1 36)), some (.int (z2.1 + 1))]) G dX6_laysAside_20 rfl rfl (by decide) rfl rfl ?_
      refine s_goto (tgt := 2) G dX6_laysAside_23 (by decide) ?_
      exact fun hx => hB2 ((z2.1 + 1), m19) hx

set_option maxRecDepth 100000 in
set_option maxHeartbeats 4000000 in
theorem c_X6_takesBack (w : Wx) (O : Mem) (l : Launch) (a1 : Int32) (M : Mem)  (z : Int32 × Mem) (hz : f_X6_takesBack a1 M = some z) : Ct w 36 48 O l 0 muX6_takesBack [.ref (w.1 36), .int a1] M (some (.int z.1), z.2) := by
  refine ct_of (X := f_X6_takesBack a1 M) (K := fun v => some (some (.int v.1), v.2)) [some (.ref (w.1 36)), some (.int a1), none] rfl rfl (Nat.le_of_ble_eq_true rfl) (by rw [hz]; rfl) ?_
  intro p e s m args below meth c G
  unfold f_X6_takesBack
  refine s_iconst (v := 0) G dX6_takesBack_0 (by decide) ?_
  refine s_istore_n (lv2 := [some (.ref (w.1 36)), some (.int a1), some (.int 0)]) G dX6_takesBack_1 (by decide) rfl rfl ?_
  refine s_loopG (lvf := fun z2 : Int32 × Mem => [some (.ref (w.1 36)), some (.int a1), some (.int z2.1)]) (Mf := fun z2 : Int32 × Mem => z2.2) (ex := (fun x2_26 : Mem => (26, [none, some (.int a1), none], x2_26))) (el_one 26 (fun x2_26 : Mem => [none, some (.int a1), none]) (fun x2_26 : Mem => x2_26) (fun x2_26 => ?_)) (fun z2 K2 hB2 hE2 => ?_)
  · refine s_iload_n G dX6_takesBack_26 rfl ?_
    exact s_iret G rfl rfl dX6_takesBack_27
  · unfold f_X6_takesBack_L2
    refine s_iload_n G dX6_takesBack_2 rfl ?_
    refine s_bipush (v := 63) G dX6_takesBack_3 (by decide) ?_
    refine s_icmp_ge (tgt := 26) G dX6_takesBack_5 (by decide) ?_ ?_
    · refine s_keep [false, true, false] (lv2 := [none, some (.int a1), none]) rfl ?_
      exact fun hx => hE2 z2.2 hx
    · refine s_aload_n G dX6_takesBack_8 rfl ?_
      refine s_get (k := 36) (j := 0) G (.ref (w.1 37)) ⟨by decide, by decide⟩ (ce36 w) rfl clX6 (by decide) qw755 rfl dX6_takesBack_9 ?_
      refine s_iload_n G dX6_takesBack_12 rfl ?_
      refine s_aload_n G dX6_takesBack_13 rfl ?_
      refine s_get (k := 36) (j := 3) G (.ref (w.1 40)) ⟨by decide, by decide⟩ (ce36 w) rfl clX6 (by decide) qw758 rfl dX6_takesBack_14 ?_
      refine s_iload_n G dX6_takesBack_17 rfl ?_
      refine s_iald (k := 40) (n := 63) G ⟨by decide, by decide⟩ (ce40 w) dX6_takesBack_18 ?_
      refine s_iast (k := 37) (n := 63) G ⟨by decide, by decide⟩ (ce37 w) dX6_takesBack_19 (fun m19 => ?_)
      refine s_iinc (v := (z2.1 + 1)) (lv2 := [some (.ref (w.1 36)), some (.int a1), some (.int (z2.1 + 1))]) G dX6_takesBack_20 rfl rfl (by decide) rfl rfl ?_
      refine s_goto (tgt := 2) G dX6_takesBack_23 (by decide) ?_
      exact fun hx => hB2 ((z2.1 + 1), m19) hx

set_option maxRecDepth 100000 in
set_option maxHeartbeats 4000000 in
theorem c_X6_becomes (w : Wx) (O : Mem) (l : Launch) (a1 : Int32) (a2 : Int32) (M : Mem)  (z : Int32 × Mem) (hz : f_X6_becomes a1 a2 M = some z) : Ct w 36 48 O l 0 muX6_becomes [.ref (w.1 36), .int a1, .int a2] M (some (.int z.1), z.2) := by
  refine ct_of (X := f_X6_becomes a1 a2 M) (K := fun v => some (some (.int v.1), v.2)) [some (.ref (w.1 36)), some (.int a1), some (.int a2), none] rfl rfl (Nat.le_of_ble_eq_true rfl) (by rw [hz]; rfl) ?_
  intro p e s m args below meth c G
  unfold f_X6_becomes
  refine s_aload_n G dX6_becomes_0 rfl ?_
  refine s_get (k := 36) (j := 0) G (.ref (w.1 37)) ⟨by decide, by decide⟩ (ce36 w) rfl clX6 (by decide) qw755 rfl dX6_becomes_1 ?_
  refine s_iload_n G dX6_becomes_4 rfl ?_
  refine s_iald (k := 37) (n := 63) G ⟨by decide, by decide⟩ (ce37 w) dX6_becomes_5 ?_
  refine s_name (f := Value.int) (fun v6 => ?_)
  refine s_istore_n (lv2 := [some (.ref (w.1 36)), some (.int a1), some (.int a2), some (.int v6)]) G dX6_becomes_6 (by decide) rfl rfl ?_
  refine s_aload_n G dX6_becomes_7 rfl ?_
  refine s_get (k := 36) (j := 0) G (.ref (w.1 37)) ⟨by decide, by decide⟩ (ce36 w) rfl clX6 (by decide) qw755 rfl dX6_becomes_8 ?_
  refine s_iload_n G dX6_becomes_11 rfl ?_
  refine s_iload_n G dX6_becomes_12 rfl ?_
  refine s_iast (k := 37) (n := 63) G ⟨by decide, by decide⟩ (ce37 w) dX6_becomes_13 (fun m13 => ?_)
  refine s_iload_n G dX6_becomes_14 rfl ?_
  exact s_iret G rfl rfl dX6_becomes_15

set_option maxRecDepth 100000 in
set_option maxHeartbeats 4000000 in
theorem c_X6_isPlace (w : Wx) (O : Mem) (l : Launch) (a0 : Int32) (M : Mem)  (z : Int32) (hz : f_X6_isPlace a0 = some z) : Ct w 36 48 O l 1 muX6_isPlace [.int a0] M (some (.int z), M) := by
  refine ct_of (X := f_X6_isPlace a0) (K := fun v => some (some (.int v), M)) [some (.int a0)] rfl rfl (Nat.le_of_ble_eq_true rfl) (by rw [hz]; rfl) ?_
  intro p e s m args below meth c G
  unfold f_X6_isPlace
  refine s_iload_n G dX6_isPlace_0 rfl ?_
  refine s_i2l G dX6_isPlace_1 ?_
  refine s_lconst (v := 0) G dX6_isPlace_2 (by decide) ?_
  refine s_ldc2 (v := 23) G dX6_isPlace_3 qw892 ?_
  refine s_callSi (as := [.long a0.toInt64, .long 0, .long 23]) (st := []) G aw_self mdX6_in (fun _ h => c_X6_in w O l a0.toInt64 0 23 M _ h) qw821 rfl rfl (Nat.le_of_ble_eq_true rfl) (by decide) dX6_isPlace_6 (fun r6 => ?_)
  refine s_test (fun h9 => ?_)
  exact s_zret G rfl (zb_nar h9) rfl dX6_isPlace_9

set_option maxRecDepth 100000 in
set_option maxHeartbeats 4000000 in
theorem c_X6_isHanger (w : Wx) (O : Mem) (l : Launch) (a1 : Int32) (M : Mem)  (z : Int32) (hz : f_X6_isHanger a1 M = some z) : Ct w 36 48 O l 1 muX6_isHanger [.ref (w.1 36), .int a1] M (some (.int z), M) := by
  refine ct_of (X := f_X6_isHanger a1 M) (K := fun v => some (some (.int v), M)) [some (.ref (w.1 36)), some (.int a1)] rfl rfl (Nat.le_of_ble_eq_true rfl) (by rw [hz]; rfl) ?_
  intro p e s m args below meth c G
  unfold f_X6_isHanger
  refine s_iload_n G dX6_isHanger_0 rfl ?_
  refine s_i2l G dX6_isHanger_1 ?_
  refine s_lconst (v := 0) G dX6_isHanger_2 (by decide) ?_
  refine s_aload_n G dX6_isHanger_3 rfl ?_
  refine s_get (k := 36) (j := 0) G (.ref (w.1 37)) ⟨by decide, by decide⟩ (ce36 w) rfl clX6 (by decide) qw755 rfl dX6_isHanger_4 ?_
  refine s_iconst (v := 0) G dX6_isHanger_7 (by decide) ?_
  refine s_ialdC (k := 37) (n := 63) (j := 0) G ⟨by decide, by decide⟩ (ce37 w) (by decide) (by decide) dX6_isHanger_8 ?_
  refine s_iconst (v := 1) G dX6_isHanger_9 (by decide) ?_
  refine s_isub G dX6_isHanger_10 ?_
  refine s_i2l G dX6_isHanger_11 ?_
  refine s_callSi (as := [.long a1.toInt64, .long 0, .long ((gI M 37 0) - 1).toInt64]) (st := []) G aw_self mdX6_in (fun _ h => c_X6_in w O l a1.toInt64 0 ((gI M 37 0) - 1).toInt64 M _ h) qw821 rfl rfl (Nat.le_of_ble_eq_true rfl) (by decide) dX6_isHanger_12 (fun r12 => ?_)
  refine s_test (fun h15 => ?_)
  exact s_zret G rfl (zb_nar h15) rfl dX6_isHanger_15

set_option maxRecDepth 100000 in
set_option maxHeartbeats 4000000 in
theorem c_X6_isKind (w : Wx) (O : Mem) (l : Launch) (a0 : Int32) (M : Mem)  (z : Int32) (hz : f_X6_isKind a0 = some z) : Ct w 36 48 O l 1 muX6_isKind [.int a0] M (some (.int z), M) := by
  refine ct_of (X := f_X6_isKind a0) (K := fun v => some (some (.int v), M)) [some (.int a0)] rfl rfl (Nat.le_of_ble_eq_true rfl) (by rw [hz]; rfl) ?_
  intro p e s m args below meth c G
  unfold f_X6_isKind
  refine s_iload_n G dX6_isKind_0 rfl ?_
  refine s_i2l G dX6_isKind_1 ?_
  refine s_lconst (v := 0) G dX6_isKind_2 (by decide) ?_
  refine s_ldc2 (v := 5) G dX6_isKind_3 qw820 ?_
  refine s_callSi (as := [.long a0.toInt64, .long 0, .long 5]) (st := []) G aw_self mdX6_in (fun _ h => c_X6_in w O l a0.toInt64 0 5 M _ h) qw821 rfl rfl (Nat.le_of_ble_eq_true rfl) (by decide) dX6_isKind_6 (fun r6 => ?_)
  refine s_test (fun h9 => ?_)
  exact s_zret G rfl (zb_nar h9) rfl dX6_isKind_9
