set_option maxRecDepth 100000 in
set_option maxHeartbeats 4000000 in
theorem c_X6_isLetter (w : Wx) (O : Mem) (l : Launch) (a0 : Int32) (M : Mem)  (z : Int32) (hz : f_X6_isLetter a0 = some z) : Ct w 36 48 O l 1 muX6_isLetter [.int a0] M (some (.int z), M) := by
  refine ct_of (X := f_X6_isLetter a0) (K := fun v => some (some (.int v), M)) [some (.int a0)] rfl rfl (Nat.le_of_ble_eq_true rfl) (by rw [hz]; rfl) ?_
  intro p e s m args below meth c G
  unfold f_X6_isLetter
  refine s_iload_n G dX6_isLetter_0 rfl ?_
  refine s_i2l G dX6_isLetter_1 ?_
  refine s_ldc2 (v := 97) G dX6_isLetter_2 qw1108 ?_
  refine s_ldc2 (v := 122) G dX6_isLetter_5 qw1109 ?_
  refine s_callSi (as := [.long a0.toInt64, .long 97, .long 122]) (st := []) G aw_self mdX6_in (fun _ h => c_X6_in w O l a0.toInt64 97 122 M _ h) qw821 rfl rfl (Nat.le_of_ble_eq_true rfl) (by decide) dX6_isLetter_8 (fun r8 => ?_)
  refine s_test (fun h11 => ?_)
  exact s_zret G rfl (zb_nar h11) rfl dX6_isLetter_11

set_option maxRecDepth 100000 in
set_option maxHeartbeats 4000000 in
theorem c_X6_isDigit (w : Wx) (O : Mem) (l : Launch) (a0 : Int32) (M : Mem)  (z : Int32) (hz : f_X6_isDigit a0 = some z) : Ct w 36 48 O l 1 muX6_isDigit [.int a0] M (some (.int z), M) := by
  refine ct_of (X := f_X6_isDigit a0) (K := fun v => some (some (.int v), M)) [some (.int a0)] rfl rfl (Nat.le_of_ble_eq_true rfl) (by rw [hz]; rfl) ?_
  intro p e s m args below meth c G
  unfold f_X6_isDigit
  refine s_iload_n G dX6_isDigit_0 rfl ?_
  refine s_i2l G dX6_isDigit_1 ?_
  refine s_ldc2 (v := 48) G dX6_isDigit_2 qw1113 ?_
  refine s_ldc2 (v := 57) G dX6_isDigit_5 qw1114 ?_
  refine s_callSi (as := [.long a0.toInt64, .long 48, .long 57]) (st := []) G aw_self mdX6_in (fun _ h => c_X6_in w O l a0.toInt64 48 57 M _ h) qw821 rfl rfl (Nat.le_of_ble_eq_true rfl) (by decide) dX6_isDigit_8 (fun r8 => ?_)
  refine s_test (fun h11 => ?_)
  exact s_zret G rfl (zb_nar h11) rfl dX6_isDigit_11

set_option maxRecDepth 100000 in
set_option maxHeartbeats 4000000 in
theorem c_X6_token (w : Wx) (O : Mem) (l : Launch)  (M : Mem)  (z : Mem) (hz : f_X6_token  M = some z) : Ct w 36 48 O l 2 muX6_token [.ref (w.1 36)] M (none, z) := by
  refine ct_of (X := f_X6_token  M) (K := fun v => some (none, v)) [some (.ref (w.1 36)), none, none] rfl rfl (Nat.le_of_ble_eq_true rfl) (by rw [hz]; rfl) ?_
  intro p e s m args below meth c G
  unfold f_X6_token
  refine s_aload_n G dX6_token_0 rfl ?_
  refine s_aload_n G dX6_token_1 rfl ?_
  refine s_get (k := 36) (j := 12) G (.int (gI M 36 12)) ⟨by decide, by decide⟩ (ce36 w) rfl clX6 (by decide) qw767 rfl dX6_token_2 ?_
  refine s_put (k := 36) (j := 11) G ⟨by decide, by decide⟩ (ce36 w) (fun _ => rfl) clX6 (by decide) (fun _ => (by decide : 11 < 19)) qw766 rfl rfl rfl rfl dX6_token_5 (fun m5 => ?_)
  refine s_loopG (lvf := fun z8 : Mem => [some (.ref (w.1 36)), none, none]) (Mf := fun z8 : Mem => z8) (ex := (fun x8_34 : Mem => (34, [some (.ref (w.1 36)), none, none], x8_34))) (el_one 34 (fun x8_34 : Mem => [some (.ref (w.1 36)), none, none]) (fun x8_34 : Mem => x8_34) (fun x8_34 => ?_)) (fun z8 K8 hB8 hE8 => ?_)
  · refine s_aload_n G dX6_token_34 rfl ?_
    refine s_aload_n G dX6_token_35 rfl ?_
    refine s_get (k := 36) (j := 11) G (.int (gI x8_34 36 11)) ⟨by decide, by decide⟩ (ce36 w) rfl clX6 (by decide) qw766 rfl dX6_token_36 ?_
    refine s_callVi (as := [.int (gI x8_34 36 11)]) (st := []) (k := 36) G aw_self mdX6_byteAt (fun _ h => c_X6_byteAt w O l (gI x8_34 36 11) x8_34 _ h) ⟨by decide, by decide⟩ (ce36 w) clX6 rfl qw1101 rfl rfl (Nat.le_of_ble_eq_true rfl) (by decide) dX6_token_39 (fun r39 => ?_)
    refine s_callSi (as := [.int r39]) (st := []) G aw_self mdX6_isLetter (fun _ h => c_X6_isLetter w O l r39 x8_34 _ h) qw1105 rfl rfl (Nat.le_of_ble_eq_true rfl) (by decide) dX6_token_42 (fun r42 => ?_)
    refine s_istore_n (lv2 := [some (.ref (w.1 36)), some (.int r42), none]) G dX6_token_45 (by decide) rfl rfl ?_
    refine s_aload_n G dX6_token_46 rfl ?_
    refine s_aload_n G dX6_token_47 rfl ?_
    refine s_get (k := 36) (j := 11) G (.int (gI x8_34 36 11)) ⟨by decide, by decide⟩ (ce36 w) rfl clX6 (by decide) qw766 rfl dX6_token_48 ?_
    refine s_callVi (as := [.int (gI x8_34 36 11)]) (st := []) (k := 36) G aw_self mdX6_byteAt (fun _ h => c_X6_byteAt w O l (gI x8_34 36 11) x8_34 _ h) ⟨by decide, by decide⟩ (ce36 w) clX6 rfl qw1101 rfl rfl (Nat.le_of_ble_eq_true rfl) (by decide) dX6_token_51 (fun r51 => ?_)
    refine s_callSi (as := [.int r51]) (st := []) G aw_self mdX6_isDigit (fun _ h => c_X6_isDigit w O l r51 x8_34 _ h) qw1110 rfl rfl (Nat.le_of_ble_eq_true rfl) (by decide) dX6_token_54 (fun r54 => ?_)
    refine s_istore_n (lv2 := [some (.ref (w.1 36)), some (.int r42), some (.int r54)]) G dX6_token_57 (by decide) rfl rfl ?_
    refine s_aload_n G dX6_token_58 rfl ?_
    refine s_aload_n G dX6_token_59 rfl ?_
    refine s_get (k := 36) (j := 11) G (.int (gI x8_34 36 11)) ⟨by decide, by decide⟩ (ce36 w) rfl clX6 (by decide) qw766 rfl dX6_token_60 ?_
    refine s_aload_n G dX6_token_63 rfl ?_
    refine s_get (k := 36) (j := 10) G (.int (gI x8_34 36 10)) ⟨by decide, by decide⟩ (ce36 w) rfl clX6 (by decide) qw765 rfl dX6_token_64 ?_
    refine s_join 83 (fun y67 : Int32 => [some (.ref (w.1 36)), some (.int r42), some (.int r54)]) (fun y67 => [.int y67, .ref (w.1 36)]) (fun y67 => x8_34) (fun y67 => ?_) (fun K67 hB67 => ?_)
    · refine s_put (k := 36) (j := 12) G ⟨by decide, by decide⟩ (ce36 w) (fun _ => rfl) clX6 (by decide) (fun _ => (by decide : 12 < 19)) qw767 rfl rfl rfl rfl dX6_token_83 (fun m83 => ?_)
      refine s_loopG (lvf := fun z86 : Mem => [some (.ref (w.1 36)), some (.int r42), some (.int r54)]) (Mf := fun z86 : Mem => z86) (ex := (fun x86_135 : Mem => (135, [none, none, none], x86_135))) (el_one 135 (fun x86_135 : Mem => [none, none, none]) (fun x86_135 : Mem => x86_135) (fun x86_135 => ?_)) (fun z86 K86 hB86 hE86 => ?_)
      · exact s_vret G rfl rfl dX6_token_135
      · unfold f_X6_token_L86
        refine s_iload_n G dX6_token_86 rfl ?_
        refine s_if_eq (tgt := 104) G dX6_token_87 (by decide) ?_ ?_
        · refine s_iload_n G dX6_token_104 rfl ?_
          refine s_if_eq (tgt := 135) G dX6_token_105 (by decide) ?_ ?_
          · refine s_keep [false, false, false] (lv2 := [none, none, none]) rfl ?_
            exact fun hx => hE86 z86 hx
          · refine s_aload_n G dX6_token_108 rfl ?_
            refine s_aload_n G dX6_token_109 rfl ?_
            refine s_get (k := 36) (j := 12) G (.int (gI z86 36 12)) ⟨by decide, by decide⟩ (ce36 w) rfl clX6 (by decide) qw767 rfl dX6_token_110 ?_
            refine s_callVi (as := [.int (gI z86 36 12)]) (st := []) (k := 36) G aw_self mdX6_byteAt (fun _ h => c_X6_byteAt w O l (gI z86 36 12) z86 _ h) ⟨by decide, by decide⟩ (ce36 w) clX6 rfl qw1101 rfl rfl (Nat.le_of_ble_eq_true rfl) (by decide) dX6_token_113 (fun r113 => ?_)
            refine s_callSi (as := [.int r113]) (st := []) G aw_self mdX6_isDigit (fun _ h => c_X6_isDigit w O l r113 z86 _ h) qw1110 rfl rfl (Nat.le_of_ble_eq_true rfl) (by decide) dX6_token_116 (fun r116 => ?_)
            refine s_if_eq (tgt := 135) G dX6_token_119 (by decide) ?_ ?_
            · refine s_keep [false, false, false] (lv2 := [none, none, none]) rfl ?_
              exact fun hx => hE86 z86 hx
            · refine s_aload_n G dX6_token_122 rfl ?_
              refine s_dup G dX6_token_123 rfl ?_
              refine s_get (k := 36) (j := 12) G (.int (gI z86 36 12)) ⟨by decide, by decide⟩ (ce36 w) rfl clX6 (by decide) qw767 rfl dX6_token_124 ?_
              refine s_iconst (v := 1) G dX6_token_127 (by decide) ?_
              refine s_iadd G dX6_token_128 ?_
              refine s_put (k := 36) (j := 12) G ⟨by decide, by decide⟩ (ce36 w) (fun _ => rfl) clX6 (by decide) (fun _ => (by decide : 12 < 19)) qw767 rfl rfl rfl rfl dX6_token_129 (fun m129 => ?_)
              refine s_goto (tgt := 86) G dX6_token_132 (by decide) ?_
              exact fun hx => hB86 m129 hx
        · refine s_aload_n G dX6_token_90 rfl ?_
          refine s_aload_n G dX6_token_91 rfl ?_
          refine s_get (k := 36) (j := 12) G (.int (gI z86 36 12)) ⟨by decide, by decide⟩ (ce36 w) rfl clX6 (by decide) qw767 rfl dX6_token_92 ?_
          refine s_callVi (as := [.int (gI z86 36 12)]) (st := []) (k := 36) G aw_self mdX6_byteAt (fun _ h => c_X6_byteAt w O l (gI z86 36 12) z86 _ h) ⟨by decide, by decide⟩ (ce36 w) clX6 rfl qw1101 rfl rfl (Nat.le_of_ble_eq_true rfl) (by decide) dX6_token_95 (fun r95 => ?_)
          refine s_callSi (as := [.int r95]) (st := []) G aw_self mdX6_isLetter (fun _ h => c_X6_isLetter w O l r95 z86 _ h) qw1105 rfl rfl (Nat.le_of_ble_eq_true rfl) (by decide) dX6_token_98 (fun r98 => ?_)
          refine s_if_ne (tgt := 122) G dX6_token_101 (by decide) ?_ ?_
          · refine s_iload_n G dX6_token_104 rfl ?_
            refine s_if_eq (tgt := 135) G dX6_token_105 (by decide) ?_ ?_
            · refine s_keep [false, false, false] (lv2 := [none, none, none]) rfl ?_
              exact fun hx => hE86 z86 hx
            · refine s_aload_n G dX6_token_108 rfl ?_
              refine s_aload_n G dX6_token_109 rfl ?_
              refine s_get (k := 36) (j := 12) G (.int (gI z86 36 12)) ⟨by decide, by decide⟩ (ce36 w) rfl clX6 (by decide) qw767 rfl dX6_token_110 ?_
              refine s_callVi (as := [.int (gI z86 36 12)]) (st := []) (k := 36) G aw_self mdX6_byteAt (fun _ h => c_X6_byteAt w O l (gI z86 36 12) z86 _ h) ⟨by decide, by decide⟩ (ce36 w) clX6 rfl qw1101 rfl rfl (Nat.le_of_ble_eq_true rfl) (by decide) dX6_token_113 (fun r113 => ?_)
              refine s_callSi (as := [.int r113]) (st := []) G aw_self mdX6_isDigit (fun _ h => c_X6_isDigit w O l r113 z86 _ h) qw1110 rfl rfl (Nat.le_of_ble_eq_true rfl) (by decide) dX6_token_116 (fun r116 => ?_)
              refine s_if_eq (tgt := 135) G dX6_token_119 (by decide) ?_ ?_
              · refine s_keep [false, false, false] (lv2 := [none, none, none]) rfl ?_
                exact fun hx => hE86 z86 hx
              · refine s_aload_n G dX6_token_122 rfl ?_
                refine s_dup G dX6_token_123 rfl ?_
                refine s_get (k := 36) (j := 12) G (.int (gI z86 36 12)) ⟨by decide, by decide⟩ (ce36 w) rfl clX6 (by decide) qw767 rfl dX6_token_124 ?_
                refine s_iconst (v := 1) G dX6_token_127 (by decide) ?_
                refine s_iadd G dX6_token_128 ?_
                refine s_put (k := 36) (j := 12) G ⟨by decide, by decide⟩ (ce36 w) (fun _ => rfl) clX6 (by decide) (fun _ => (by decide : 12 < 19)) qw767 rfl rfl rfl rfl dX6_token_129 (fun m129 => ?_)
                refine s_goto (tgt := 86) G dX6_token_132 (by decide) ?_
                exact fun hx => hB86 m129 hx
          · refine s_aload_n G dX6_token_122 rfl ?_
            refine s_dup G dX6_token_123 rfl ?_
            refine s_get (k := 36) (j := 12) G (.int (gI z86 36 12)) ⟨by decide, by decide⟩ (ce36 w) rfl clX6 (by decide) qw767 rfl dX6_token_124 ?_
            refine s_iconst (v := 1) G dX6_token_127 (by decide) ?_
            refine s_iadd G dX6_token_128 ?_
            refine s_put (k := 36) (j := 12) G ⟨by decide, by decide⟩ (ce36 w) (fun _ => rfl) clX6 (by decide) (fun _ => (by decide : 12 < 19)) qw767 rfl rfl rfl rfl dX6_token_129 (fun m129 => ?_)
            refine s_goto (tgt := 86) G dX6_token_132 (by decide) ?_
            exact fun hx => hB86 m129 hx
    · refine s_icmp_ge (tgt := 79) G dX6_token_67 (by decide) ?_ ?_
      · refine s_aload_n G dX6_token_79 rfl ?_
        refine s_get (k := 36) (j := 11) G (.int (gI x8_34 36 11)) ⟨by decide, by decide⟩ (ce36 w) rfl clX6 (by decide) qw766 rfl dX6_token_80 ?_
        exact fun hx => hB67 (gI x8_34 36 11) hx
      · refine s_aload_n G dX6_token_70 rfl ?_
        refine s_get (k := 36) (j := 11) G (.int (gI x8_34 36 11)) ⟨by decide, by decide⟩ (ce36 w) rfl clX6 (by decide) qw766 rfl dX6_token_71 ?_
        refine s_iconst (v := 1) G dX6_token_74 (by decide) ?_
        refine s_iadd G dX6_token_75 ?_
        refine s_goto (tgt := 83) G dX6_token_76 (by decide) ?_
        exact fun hx => hB67 ((gI x8_34 36 11) + 1) hx
  · unfold f_X6_token_L8
    refine s_aload_n G dX6_token_8 rfl ?_
    refine s_aload_n G dX6_token_9 rfl ?_
    refine s_get (k := 36) (j := 11) G (.int (gI z8 36 11)) ⟨by decide, by decide⟩ (ce36 w) rfl clX6 (by decide) qw766 rfl dX6_token_10 ?_
    refine s_callVi (as := [.int (gI z8 36 11)]) (st := []) (k := 36) G aw_self mdX6_byteAt (fun _ h => c_X6_byteAt w O l (gI z8 36 11) z8 _ h) ⟨by decide, by decide⟩ (ce36 w) clX6 rfl qw1101 rfl rfl (Nat.le_of_ble_eq_true rfl) (by decide) dX6_token_13 (fun r13 => ?_)
    refine s_bipush (v := 32) G dX6_token_16 (by decide) ?_
    refine s_icmp_ne (tgt := 34) G dX6_token_18 (by decide) ?_ ?_
    · refine s_aload_n G dX6_token_21 rfl ?_
      refine s_dup G dX6_token_22 rfl ?_
      refine s_get (k := 36) (j := 11) G (.int (gI z8 36 11)) ⟨by decide, by decide⟩ (ce36 w) rfl clX6 (by decide) qw766 rfl dX6_token_23 ?_
      refine s_iconst (v := 1) G dX6_token_26 (by decide) ?_
      refine s_iadd G dX6_token_27 ?_
      refine s_put (k := 36) (j := 11) G ⟨by decide, by decide⟩ (ce36 w) (fun _ => rfl) clX6 (by decide) (fun _ => (by decide : 11 < 19)) qw766 rfl rfl rfl rfl dX6_token_28 (fun m28 => ?_)
      refine s_goto (tgt := 8) G dX6_token_31 (by decide) ?_
      exact fun hx => hB8 m28 hx
    · exact fun hx => hE8 z8 hx

set_option maxRecDepth 100000 in
set_option maxHeartbeats 4000000 in
theorem c_X6_must (w : Wx) (O : Mem) (l : Launch) (a1 : Int32) (M : Mem)  (z : Mem) (hz : f_X6_must a1 M = some z) : Ct w 36 48 O l 3 muX6_must [.ref (w.1 36), .int a1] M (none, z) := by
  refine ct_of (X := f_X6_must a1 M) (K := fun v => some (none, v)) [some (.ref (w.1 36)), some (.int a1)] rfl rfl (Nat.le_of_ble_eq_true rfl) (by rw [hz]; rfl) ?_
  intro p e s m args below meth c G
  unfold f_X6_must
  refine s_aload_n G dX6_must_0 rfl ?_
  refine s_aload_n G dX6_must_1 rfl ?_
  refine s_get (k := 36) (j := 14) G (.int (gI M 36 14)) ⟨by decide, by decide⟩ (ce36 w) rfl clX6 (by decide) qw769 rfl dX6_must_2 ?_
  refine s_join 17 (fun y5 : Int32 => [some (.ref (w.1 36)), none]) (fun y5 => [.int y5, .ref (w.1 36)]) (fun y5 => M) (fun y5 => ?_) (fun K5 hB5 => ?_)
  · refine s_test (fun h17 => ?_)
    refine s_put (k := 36) (j := 14) G ⟨by decide, by decide⟩ (ce36 w) (fun _ => rfl) clX6 (by decide) (fun _ => (by decide : 14 < 19)) qw769 rfl rfl (zb_nar h17) (zb_fit h17) dX6_must_17 (fun m17 => ?_)
    refine s_aload_n G dX6_must_20 rfl ?_
    refine s_get (k := 36) (j := 14) G (.int (gI m17 36 14)) ⟨by decide, by decide⟩ (ce36 w) rfl clX6 (by decide) qw769 rfl dX6_must_21 ?_
    refine s_join 31 (fun y24 : Mem => [none, none]) (fun y24 => []) (fun y24 => y24) (fun y24 => ?_) (fun K24 hB24 => ?_)
    · exact s_vret G rfl rfl dX6_must_31
    · refine s_if_ne (tgt := 31) G dX6_must_24 (by decide) ?_ ?_
      · refine s_aload_n G dX6_must_27 rfl ?_
        refine s_callVv (as := []) (st := []) (k := 36) G aw_self mdX6_token (fun _ h => c_X6_token w O l m17 _ h) ⟨by decide, by decide⟩ (ce36 w) clX6 rfl qw1097 rfl rfl (Nat.le_of_ble_eq_true rfl) (by decide) dX6_must_28 (fun r28 => ?_)
        refine s_keep [false, false] (lv2 := [none, none]) rfl ?_
        exact fun hx => hB24 r28 hx
      · refine s_keep [false, false] (lv2 := [none, none]) rfl ?_
        exact fun hx => hB24 m17 hx
  · refine s_if_ne (tgt := 12) G dX6_must_5 (by decide) ?_ ?_
    · refine s_iload_n G dX6_must_8 rfl ?_
      refine s_if_ne (tgt := 16) G dX6_must_9 (by decide) ?_ ?_
      · refine s_iconst (v := 1) G dX6_must_12 (by decide) ?_
        refine s_goto (tgt := 17) G dX6_must_13 (by decide) ?_
        refine s_keep [true, false] (lv2 := [some (.ref (w.1 36)), none]) rfl ?_
        exact fun hx => hB5 1 hx
      · refine s_iconst (v := 0) G dX6_must_16 (by decide) ?_
        refine s_keep [true, false] (lv2 := [some (.ref (w.1 36)), none]) rfl ?_
        exact fun hx => hB5 0 hx
    · refine s_iconst (v := 1) G dX6_must_12 (by decide) ?_
      refine s_goto (tgt := 17) G dX6_must_13 (by decide) ?_
      refine s_keep [true, false] (lv2 := [some (.ref (w.1 36)), none]) rfl ?_
      exact fun hx => hB5 1 hx

set_option maxRecDepth 100000 in
set_option maxHeartbeats 4000000 in
theorem c_X6_word (w : Wx) (O : Mem) (l : Launch)  (M : Mem)  (z : Int64) (hz : f_X6_word  M = some z) : Ct w 36 48 O l 2 muX6_word [.ref (w.1 36)] M (some (.long z), M) := by
  refine ct_of (X := f_X6_word  M) (K := fun v => some (some (.long v), M)) [some (.ref (w.1 36)), none, none, none] rfl rfl (Nat.le_of_ble_eq_true rfl) (by rw [hz]; rfl) ?_
  intro p e s m args below meth c G
  unfold f_X6_word
  refine s_lconst (v := 0) G dX6_word_0 (by decide) ?_
  refine s_lstore_n (lv2 := [some (.ref (w.1 36)), some (.long 0), none, none]) G dX6_word_1 (by decide) rfl rfl ?_
  refine s_aload_n G dX6_word_2 rfl ?_
  refine s_get (k := 36) (j := 11) G (.int (gI M 36 11)) ⟨by decide, by decide⟩ (ce36 w) rfl clX6 (by decide) qw766 rfl dX6_word_3 ?_
  refine s_name (f := Value.int) (fun v6 => ?_)
  refine s_istore_n (lv2 := [some (.ref (w.1 36)), some (.long 0), none, some (.int v6)]) G dX6_word_6 (by decide) rfl rfl ?_
  refine s_loopG (lvf := fun z7 : Int64 × Int32 => [some (.ref (w.1 36)), some (.long z7.1), none, some (.int z7.2)]) (Mf := fun z7 : Int64 × Int32 => M) (ex := (fun x7_50 : Int64 => (50, [some (.ref (w.1 36)), some (.long x7_50), none, none], M))) (el_one 50 (fun x7_50 : Int64 => [some (.ref (w.1 36)), some (.long x7_50), none, none]) (fun x7_50 : Int64 => M) (fun x7_50 => ?_)) (fun z7 K7 hB7 hE7 => ?_)
  · refine s_aload_n G dX6_word_50 rfl ?_
    refine s_get (k := 36) (j := 14) G (.int (gI M 36 14)) ⟨by decide, by decide⟩ (ce36 w) rfl clX6 (by decide) qw769 rfl dX6_word_51 ?_
    refine s_join 76 (fun y54 : Int64 => [none, none, none, none]) (fun y54 => [.long y54]) (fun y54 => M) (fun y54 => ?_) (fun K54 hB54 => ?_)
    · exact s_lret G rfl rfl dX6_word_76
    · refine s_if_ne (tgt := 71) G dX6_word_54 (by decide) ?_ ?_
      · refine s_aload_n G dX6_word_57 rfl ?_
        refine s_aload_n G dX6_word_58 rfl ?_
        refine s_get (k := 36) (j := 11) G (.int (gI M 36 11)) ⟨by decide, by decide⟩ (ce36 w) rfl clX6 (by decide) qw766 rfl dX6_word_59 ?_
        refine s_callVi (as := [.int (gI M 36 11)]) (st := []) (k := 36) G aw_self mdX6_byteAt (fun _ h => c_X6_byteAt w O l (gI M 36 11) M _ h) ⟨by decide, by decide⟩ (ce36 w) clX6 rfl qw1101 rfl rfl (Nat.le_of_ble_eq_true rfl) (by decide) dX6_word_62 (fun r62 => ?_)
        refine s_callSi (as := [.int r62]) (st := []) G aw_self mdX6_isLetter (fun _ h => c_X6_isLetter w O l r62 M _ h) qw1105 rfl rfl (Nat.le_of_ble_eq_true rfl) (by decide) dX6_word_65 (fun r65 => ?_)
        refine s_if_ne (tgt := 75) G dX6_word_68 (by decide) ?_ ?_
        · refine s_lconst (v := 0) G dX6_word_71 (by decide) ?_
          refine s_goto (tgt := 76) G dX6_word_72 (by decide) ?_
          refine s_keep [false, false, false, false] (lv2 := [none, none, none, none]) rfl ?_
          exact fun hx => hB54 0 hx
        · refine s_lload_n G dX6_word_75 rfl ?_
          refine s_keep [false, false, false, false] (lv2 := [none, none, none, none]) rfl ?_
          exact fun hx => hB54 x7_50 hx
      · refine s_lconst (v := 0) G dX6_word_71 (by decide) ?_
        refine s_goto (tgt := 76) G dX6_word_72 (by decide) ?_
        refine s_keep [false, false, false, false] (lv2 := [none, none, none, none]) rfl ?_
        exact fun hx => hB54 0 hx
  · unfold f_X6_word_L7
    refine s_iload_n G dX6_word_7 rfl ?_
    refine s_aload_n G dX6_word_8 rfl ?_
    refine s_get (k := 36) (j := 12) G (.int (gI M 36 12)) ⟨by decide, by decide⟩ (ce36 w) rfl clX6 (by decide) qw767 rfl dX6_word_9 ?_
    refine s_icmp_ge (tgt := 50) G dX6_word_12 (by decide) ?_ ?_
    · refine s_keep [true, true, false, false] (lv2 := [some (.ref (w.1 36)), some (.long z7.1), none, none]) rfl ?_
      exact fun hx => hE7 z7.1 hx
    · refine s_lload_n G dX6_word_15 rfl ?_
      refine s_ldc2 (v := 36028797018963967) G dX6_word_16 qw1127 ?_
      refine s_lcmp G dX6_word_19 ?_
      refine s_join 43 (fun y20 : Int64 => [some (.ref (w.1 36)), none, none, some (.int z7.2)]) (fun y20 => [.long y20]) (fun y20 => M) (fun y20 => ?_) (fun K20 hB20 => ?_)
      · refine s_lstore_n (lv2 := [some (.ref (w.1 36)), some (.long y20), none, some (.int z7.2)]) G dX6_word_43 (by decide) rfl rfl ?_
        refine s_iinc (v := (z7.2 + 1)) (lv2 := [some (.ref (w.1 36)), some (.long y20), none, some (.int (z7.2 + 1))]) G dX6_word_44 rfl rfl (by decide) rfl rfl ?_
        refine s_goto (tgt := 7) G dX6_word_47 (by decide) ?_
        exact fun hx => hB7 (y20, (z7.2 + 1)) hx
      · refine s_if_le (tgt := 27) G dX6_word_20 (by decide) ?_ ?_
        · refine s_ldc2 (v := 32) G dX6_word_27 qw1128 ?_
          refine s_lload_n G dX6_word_30 rfl ?_
          refine s_lmul G dX6_word_31 ?_
          refine s_aload_n G dX6_word_32 rfl ?_
          refine s_get (k := 36) (j := 9) G (.ref (w.1 43)) ⟨by decide, by decide⟩ (ce36 w) rfl clX6 (by decide) qw764 rfl dX6_word_33 ?_
          refine s_iload_n G dX6_word_36 rfl ?_
          refine s_iald (k := 43) (n := 120) G ⟨by decide, by decide⟩ (ce43 w) dX6_word_37 ?_
          refine s_bipush (v := 96) G dX6_word_38 (by decide) ?_
          refine s_isub G dX6_word_40 ?_
          refine s_i2l G dX6_word_41 ?_
          refine s_ladd G dX6_word_42 ?_
          refine s_keep [true, false, false, true] (lv2 := [some (.ref (w.1 36)), none, none, some (.int z7.2)]) rfl ?_
          exact fun hx => hB20 ((32 * z7.1) + ((gI M 43 z7.2.toNatClampNeg) - 96).toInt64) hx
        · refine s_lload_n G dX6_word_23 rfl ?_
          refine s_goto (tgt := 43) G dX6_word_24 (by decide) ?_
          refine s_keep [true, false, false, true] (lv2 := [some (.ref (w.1 36)), none, none, some (.int z7.2)]) rfl ?_
          exact fun hx => hB20 z7.1 hx

set_option maxRecDepth 100000 in
set_option maxHeartbeats 4000000 in
theorem c_X6_number (w : Wx) (O : Mem) (l : Launch) (a1 : Int32) (a2 : Int32) (M : Mem)  (z : Mem) (hz : f_X6_number a1 a2 M = some z) : Ct w 36 48 O l 4 muX6_number [.ref (w.1 36), .int a1, .int a2] M (none, z) := by
  refine ct_of (X := f_X6_number a1 a2 M) (K := fun v => some (none, v)) [some (.ref (w.1 36)), some (.int a1), some (.int a2), none, none, none] rfl rfl (Nat.le_of_ble_eq_true rfl) (by rw [hz]; rfl) ?_
  intro p e s m args below meth c G
  unfold f_X6_number
  refine s_aload_n G dX6_number_0 rfl ?_
  refine s_get (k := 36) (j := 14) G (.int (gI M 36 14)) ⟨by decide, by decide⟩ (ce36 w) rfl clX6 (by decide) qw769 rfl dX6_number_1 ?_
  refine s_if_eq (tgt := 8) G dX6_number_4 (by decide) ?_ ?_
  · refine s_aload_n G dX6_number_8 rfl ?_
    refine s_aload_n G dX6_number_9 rfl ?_
    refine s_get (k := 36) (j := 11) G (.int (gI M 36 11)) ⟨by decide, by decide⟩ (ce36 w) rfl clX6 (by decide) qw766 rfl dX6_number_10 ?_
    refine s_callVi (as := [.int (gI M 36 11)]) (st := []) (k := 36) G aw_self mdX6_byteAt (fun _ h => c_X6_byteAt w O l (gI M 36 11) M _ h) ⟨by decide, by decide⟩ (ce36 w) clX6 rfl qw1101 rfl rfl (Nat.le_of_ble_eq_true rfl) (by decide) dX6_number_13 (fun r13 => ?_)
    refine s_callSi (as := [.int r13]) (st := []) G aw_self mdX6_isDigit (fun _ h => c_X6_isDigit w O l r13 M _ h) qw1110 rfl rfl (Nat.le_of_ble_eq_true rfl) (by decide) dX6_number_16 (fun r16 => ?_)
    refine s_istore_n (lv2 := [some (.ref (w.1 36)), some (.int a1), some (.int a2), some (.int r16), none, none]) G dX6_number_19 (by decide) rfl rfl ?_
    refine s_iconst (v := 0) G dX6_number_20 (by decide) ?_
    refine s_istore (lv2 := [some (.ref (w.1 36)), some (.int a1), some (.int a2), some (.int r16), some (.int 0), none]) G dX6_number_21 (by decide) rfl rfl ?_
    refine s_aload_n G dX6_number_23 rfl ?_
    refine s_get (k := 36) (j := 11) G (.int (gI M 36 11)) ⟨by decide, by decide⟩ (ce36 w) rfl clX6 (by decide) qw766 rfl dX6_number_24 ?_
    refine s_name (f := Value.int) (fun v27 => ?_)
    refine s_istore (lv2 := [some (.ref (w.1 36)), some (.int a1), some (.int a2), some (.int r16), some (.int 0), some (.int v27)]) G dX6_number_27 (by decide) rfl rfl ?_
    refine s_loopG (lvf := fun z29 : Int32 × Int32 => [some (.ref (w.1 36)), some (.int a1), some (.int a2), some (.int r16), some (.int z29.1), some (.int z29.2)]) (Mf := fun z29 : Int32 × Int32 => M) (ex := (fun x29_79 : Int32 => (79, [some (.ref (w.1 36)), some (.int a1), some (.int a2), some (.int r16), some (.int x29_79), none], M))) (el_one 79 (fun x29_79 : Int32 => [some (.ref (w.1 36)), some (.int a1), some (.int a2), some (.int r16), some (.int x29_79), none]) (fun x29_79 : Int32 => M) (fun x29_79 => ?_)) (fun z29 K29 hB29 hE29 => ?_)
    · refine s_aload_n G dX6_number_79 rfl ?_
      refine s_iload G dX6_number_80 rfl ?_
      refine s_put (k := 36) (j := 13) G ⟨by decide, by decide⟩ (ce36 w) (fun _ => rfl) clX6 (by decide) (fun _ => (by decide : 13 < 19)) qw768 rfl rfl rfl rfl dX6_number_82 (fun m82 => ?_)
      refine s_aload_n G dX6_number_85 rfl ?_
      refine s_iload_n G dX6_number_86 rfl ?_
      refine s_join 108 (fun y87 : Int32 => [none, none, none, none, none, none]) (fun y87 => [.int y87, .ref (w.1 36)]) (fun y87 => m82) (fun y87 => ?_) (fun K87 hB87 => ?_)
      · refine s_callVv (as := [.int y87]) (st := []) (k := 36) G aw_self mdX6_must (fun _ h => c_X6_must w O l y87 m82 _ h) ⟨by decide, by decide⟩ (ce36 w) clX6 rfl qw1139 rfl rfl (Nat.le_of_ble_eq_true rfl) (by decide) dX6_number_108 (fun r108 => ?_)
        exact s_vret G rfl rfl dX6_number_111
      · refine s_if_eq (tgt := 107) G dX6_number_87 (by decide) ?_ ?_
        · refine s_iconst (v := 0) G dX6_number_107 (by decide) ?_
          refine s_keep [false, false, false, false, false, false] (lv2 := [none, none, none, none, none, none]) rfl ?_
          exact fun hx => hB87 0 hx
        · refine s_iload G dX6_number_90 rfl ?_
          refine s_i2l G dX6_number_92 ?_
          refine s_iload_n G dX6_number_93 rfl ?_
          refine s_i2l G dX6_number_94 ?_
          refine s_iload_n G dX6_number_95 rfl ?_
          refine s_i2l G dX6_number_96 ?_
          refine s_callSi (as := [.long x29_79.toInt64, .long a1.toInt64, .long a2.toInt64]) (st := [.ref (w.1 36)]) G aw_self mdX6_in (fun _ h => c_X6_in w O l x29_79.toInt64 a1.toInt64 a2.toInt64 m82 _ h) qw821 rfl rfl (Nat.le_of_ble_eq_true rfl) (by decide) dX6_number_97 (fun r97 => ?_)
          refine s_if_eq (tgt := 107) G dX6_number_100 (by decide) ?_ ?_
          · refine s_iconst (v := 0) G dX6_number_107 (by decide) ?_
            refine s_keep [false, false, false, false, false, false] (lv2 := [none, none, none, none, none, none]) rfl ?_
            exact fun hx => hB87 0 hx
          · refine s_iconst (v := 1) G dX6_number_103 (by decide) ?_
            refine s_goto (tgt := 108) G dX6_number_104 (by decide) ?_
            refine s_keep [false, false, false, false, false, false] (lv2 := [none, none, none, none, none, none]) rfl ?_
            exact fun hx => hB87 1 hx
    · unfold f_X6_number_L29
      refine s_iload G dX6_number_29 rfl ?_
      refine s_aload_n G dX6_number_31 rfl ?_
      refine s_get (k := 36) (j := 12) G (.int (gI M 36 12)) ⟨by decide, by decide⟩ (ce36 w) rfl clX6 (by decide) qw767 rfl dX6_number_32 ?_
      refine s_icmp_ge (tgt := 79) G dX6_number_35 (by decide) ?_ ?_
      · refine s_keep [true, true, true, true, true, false] (lv2 := [some (.ref (w.1 36)), some (.int a1), some (.int a2), some (.int r16), some (.int z29.1), none]) rfl ?_
        exact fun hx => hE29 z29.1 hx
      · refine s_iload_n G dX6_number_38 rfl ?_
        refine s_if_eq (tgt := 79) G dX6_number_39 (by decide) ?_ ?_
        · refine s_keep [true, true, true, true, true, false] (lv2 := [some (.ref (w.1 36)), some (.int a1), some (.int a2), some (.int r16), some (.int z29.1), none]) rfl ?_
          exact fun hx => hE29 z29.1 hx
        · refine s_iload G dX6_number_42 rfl ?_
          refine s_sipush (v := 999) G dX6_number_44 (by decide) ?_
          refine s_join 71 (fun y47 : Int32 => [some (.ref (w.1 36)), some (.int a1), some (.int a2), some (.int r16), none, some (.int z29.2)]) (fun y47 => [.int y47]) (fun y47 => M) (fun y47 => ?_) (fun K47 hB47 => ?_)
          · refine s_istore (lv2 := [some (.ref (w.1 36)), some (.int a1), some (.int a2), some (.int r16), some (.int y47), some (.int z29.2)]) G dX6_number_71 (by decide) rfl rfl ?_
            refine s_iinc (v := (z29.2 + 1)) (lv2 := [some (.ref (w.1 36)), some (.int a1), some (.int a2), some (.int r16), some (.int y47), some (.int (z29.2 + 1))]) G dX6_number_73 rfl rfl (by decide) rfl rfl ?_
            refine s_goto (tgt := 29) G dX6_number_76 (by decide) ?_
            exact fun hx => hB29 (y47, (z29.2 + 1)) hx
          · refine s_icmp_le (tgt := 55) G dX6_number_47 (by decide) ?_ ?_
            · refine s_bipush (v := 10) G dX6_number_55 (by decide) ?_
              refine s_iload G dX6_number_57 rfl ?_
              refine s_imul G dX6_number_59 ?_
              refine s_aload_n G dX6_number_60 rfl ?_
              refine s_get (k := 36) (j := 9) G (.ref (w.1 43)) ⟨by decide, by decide⟩ (ce36 w) rfl clX6 (by decide) qw764 rfl dX6_number_61 ?_
              refine s_iload G dX6_number_64 rfl ?_
              refine s_iald (k := 43) (n := 120) G ⟨by decide, by decide⟩ (ce43 w) dX6_number_66 ?_
              refine s_iadd G dX6_number_67 ?_
              refine s_bipush (v := 48) G dX6_number_68 (by decide) ?_
              refine s_isub G dX6_number_70 ?_
              refine s_keep [true, true, true, true, false, true] (lv2 := [some (.ref (w.1 36)), some (.int a1), some (.int a2), some (.int r16), none, some (.int z29.2)]) rfl ?_
              exact fun hx => hB47 (((10 * z29.1) + (gI M 43 z29.2.toNatClampNeg)) - 48) hx
            · refine s_iload G dX6_number_50 rfl ?_
              refine s_goto (tgt := 71) G dX6_number_52 (by decide) ?_
              refine s_keep [true, true, true, true, false, true] (lv2 := [some (.ref (w.1 36)), some (.int a1), some (.int a2), some (.int r16), none, some (.int z29.2)]) rfl ?_
              exact fun hx => hB47 z29.1 hx
  · exact s_vret G rfl rfl dX6_number_7

set_option maxRecDepth 100000 in
set_option maxHeartbeats 4000000 in
theorem c_X6_kindHere (w : Wx) (O : Mem) (l : Launch)  (M : Mem)  (z : Int32) (hz : f_X6_kindHere  M = some z) : Ct w 36 48 O l 3 muX6_kindHere [.ref (w.1 36)] M (some (.int z), M) := by
  refine ct_of (X := f_X6_kindHere  M) (K := fun v => some (some (.int v), M)) [some (.ref (w.1 36)), none, none] rfl rfl (Nat.le_of_ble_eq_true rfl) (by rw [hz]; rfl) ?_
  intro p e s m args below meth c G
  unfold f_X6_kindHere
  refine s_aload_n G dX6_kindHere_0 rfl ?_
  refine s_callVl (as := []) (st := []) (k := 36) G aw_self mdX6_word (fun _ h => c_X6_word w O l M _ h) ⟨by decide, by decide⟩ (ce36 w) clX6 rfl qw1123 rfl rfl (Nat.le_of_ble_eq_true rfl) (by decide) dX6_kindHere_1 (fun r1 => ?_)
  refine s_lstore_n (lv2 := [some (.ref (w.1 36)), some (.long r1), none]) G dX6_kindHere_4 (by decide) rfl rfl ?_
  refine s_lload_n G dX6_kindHere_5 rfl ?_
  refine s_ldc2 (v := 269950130) G dX6_kindHere_6 qw1129 ?_
  refine s_lcmp G dX6_kindHere_9 ?_
  refine s_join 78 (fun y10 : Int32 => [none, none, none]) (fun y10 => [.int y10]) (fun y10 => M) (fun y10 => ?_) (fun K10 hB10 => ?_)
  · exact s_iret G rfl rfl dX6_kindHere_78
  · refine s_if_ne (tgt := 17) G dX6_kindHere_10 (by decide) ?_ ?_
    · refine s_iconst (v := 0) G dX6_kindHere_13 (by decide) ?_
      refine s_goto (tgt := 78) G dX6_kindHere_14 (by decide) ?_
      refine s_keep [false, false, false] (lv2 := [none, none, none]) rfl ?_
      exact fun hx => hB10 0 hx
    · refine s_lload_n G dX6_kindHere_17 rfl ?_
      refine s_ldc2 (v := 763461) G dX6_kindHere_18 qw1130 ?_
      refine s_lcmp G dX6_kindHere_21 ?_
      refine s_if_ne (tgt := 29) G dX6_kindHere_22 (by decide) ?_ ?_
      · refine s_iconst (v := 1) G dX6_kindHere_25 (by decide) ?_
        refine s_goto (tgt := 78) G dX6_kindHere_26 (by decide) ?_
        refine s_keep [false, false, false] (lv2 := [none, none, none]) rfl ?_
        exact fun hx => hB10 1 hx
      · refine s_lload_n G dX6_kindHere_29 rfl ?_
        refine s_ldc2 (v := 769508) G dX6_kindHere_30 qw1131 ?_
        refine s_lcmp G dX6_kindHere_33 ?_
        refine s_if_ne (tgt := 41) G dX6_kindHere_34 (by decide) ?_ ?_
        · refine s_iconst (v := 2) G dX6_kindHere_37 (by decide) ?_
          refine s_goto (tgt := 78) G dX6_kindHere_38 (by decide) ?_
          refine s_keep [false, false, false] (lv2 := [none, none, none]) rfl ?_
          exact fun hx => hB10 2 hx
        · refine s_lload_n G dX6_kindHere_41 rfl ?_
          refine s_ldc2 (v := 71124) G dX6_kindHere_42 qw1132 ?_
          refine s_lcmp G dX6_kindHere_45 ?_
          refine s_if_ne (tgt := 53) G dX6_kindHere_46 (by decide) ?_ ?_
          · refine s_iconst (v := 3) G dX6_kindHere_49 (by decide) ?_
            refine s_goto (tgt := 78) G dX6_kindHere_50 (by decide) ?_
            refine s_keep [false, false, false] (lv2 := [none, none, none]) rfl ?_
            exact fun hx => hB10 3 hx
          · refine s_lload_n G dX6_kindHere_53 rfl ?_
            refine s_ldc2 (v := 20596784) G dX6_kindHere_54 qw1133 ?_
            refine s_lcmp G dX6_kindHere_57 ?_
            refine s_if_ne (tgt := 65) G dX6_kindHere_58 (by decide) ?_ ?_
            · refine s_iconst (v := 4) G dX6_kindHere_61 (by decide) ?_
              refine s_goto (tgt := 78) G dX6_kindHere_62 (by decide) ?_
              refine s_keep [false, false, false] (lv2 := [none, none, none]) rfl ?_
              exact fun hx => hB10 4 hx
            · refine s_lload_n G dX6_kindHere_65 rfl ?_
              refine s_ldc2 (v := 2098) G dX6_kindHere_66 qw1134 ?_
              refine s_lcmp G dX6_kindHere_69 ?_
              refine s_if_ne (tgt := 77) G dX6_kindHere_70 (by decide) ?_ ?_
              · refine s_iconst (v := 5) G dX6_kindHere_73 (by decide) ?_
                refine s_goto (tgt := 78) G dX6_kindHere_74 (by decide) ?_
                refine s_keep [false, false, false] (lv2 := [none, none, none]) rfl ?_
                exact fun hx => hB10 5 hx
              · refine s_iconst (v := (-1)) G dX6_kindHere_77 (by decide) ?_
                refine s_keep [false, false, false] (lv2 := [none, none, none]) rfl ?_
                exact fun hx => hB10 (-1) hx

set_option maxRecDepth 100000 in
set_option maxHeartbeats 4000000 in
theorem c_X6_numberHere (w : Wx) (O : Mem) (l : Launch)  (M : Mem)  (z : Int32) (hz : f_X6_numberHere  M = some z) : Ct w 36 48 O l 2 muX6_numberHere [.ref (w.1 36)] M (some (.int z), M) := by
  refine ct_of (X := f_X6_numberHere  M) (K := fun v => some (some (.int v), M)) [some (.ref (w.1 36)), none, none] rfl rfl (Nat.le_of_ble_eq_true rfl) (by rw [hz]; rfl) ?_
  intro p e s m args below meth c G
  unfold f_X6_numberHere
  refine s_aload_n G dX6_numberHere_0 rfl ?_
  refine s_get (k := 36) (j := 14) G (.int (gI M 36 14)) ⟨by decide, by decide⟩ (ce36 w) rfl clX6 (by decide) qw769 rfl dX6_numberHere_1 ?_
  refine s_join 26 (fun y4 : Int32 => [some (.ref (w.1 36)), none, none]) (fun y4 => [.int y4]) (fun y4 => M) (fun y4 => ?_) (fun K4 hB4 => ?_)
  · refine s_istore_n (lv2 := [some (.ref (w.1 36)), some (.int y4), none]) G dX6_numberHere_26 (by decide) rfl rfl ?_
    refine s_aload_n G dX6_numberHere_27 rfl ?_
    refine s_get (k := 36) (j := 11) G (.int (gI M 36 11)) ⟨by decide, by decide⟩ (ce36 w) rfl clX6 (by decide) qw766 rfl dX6_numberHere_28 ?_
    refine s_name (f := Value.int) (fun v31 => ?_)
    refine s_istore_n (lv2 := [some (.ref (w.1 36)), some (.int y4), some (.int v31)]) G dX6_numberHere_31 (by decide) rfl rfl ?_
    refine s_loopG (lvf := fun z32 : Int32 × Int32 => [some (.ref (w.1 36)), some (.int z32.1), some (.int z32.2)]) (Mf := fun z32 : Int32 × Int32 => M) (ex := (fun x32_78 : Int32 => (78, [none, some (.int x32_78), none], M))) (el_one 78 (fun x32_78 : Int32 => [none, some (.int x32_78), none]) (fun x32_78 : Int32 => M) (fun x32_78 => ?_)) (fun z32 K32 hB32 hE32 => ?_)
    · refine s_iload_n G dX6_numberHere_78 rfl ?_
      exact s_iret G rfl rfl dX6_numberHere_79
    · unfold f_X6_numberHere_L32
      refine s_iload_n G dX6_numberHere_32 rfl ?_
      refine s_aload_n G dX6_numberHere_33 rfl ?_
      refine s_get (k := 36) (j := 12) G (.int (gI M 36 12)) ⟨by decide, by decide⟩ (ce36 w) rfl clX6 (by decide) qw767 rfl dX6_numberHere_34 ?_
      refine s_icmp_ge (tgt := 78) G dX6_numberHere_37 (by decide) ?_ ?_
      · refine s_keep [false, true, false] (lv2 := [none, some (.int z32.1), none]) rfl ?_
        exact fun hx => hE32 z32.1 hx
      · refine s_iload_n G dX6_numberHere_40 rfl ?_
        refine s_if_lt (tgt := 78) G dX6_numberHere_41 (by decide) ?_ ?_
        · refine s_keep [false, true, false] (lv2 := [none, some (.int z32.1), none]) rfl ?_
          exact fun hx => hE32 z32.1 hx
        · refine s_bipush (v := 10) G dX6_numberHere_44 (by decide) ?_
          refine s_iload_n G dX6_numberHere_46 rfl ?_
          refine s_imul G dX6_numberHere_47 ?_
          refine s_aload_n G dX6_numberHere_48 rfl ?_
          refine s_get (k := 36) (j := 9) G (.ref (w.1 43)) ⟨by decide, by decide⟩ (ce36 w) rfl clX6 (by decide) qw764 rfl dX6_numberHere_49 ?_
          refine s_iload_n G dX6_numberHere_52 rfl ?_
          refine s_iald (k := 43) (n := 120) G ⟨by decide, by decide⟩ (ce43 w) dX6_numberHere_53 ?_
          refine s_iadd G dX6_numberHere_54 ?_
          refine s_bipush (v := 48) G dX6_numberHere_55 (by decide) ?_
          refine s_isub G dX6_numberHere_57 ?_
          refine s_name (f := Value.int) (fun v58 => ?_)
          refine s_istore_n (lv2 := [some (.ref (w.1 36)), some (.int v58), some (.int z32.2)]) G dX6_numberHere_58 (by decide) rfl rfl ?_
          refine s_iload_n G dX6_numberHere_59 rfl ?_
          refine s_sipush (v := 999) G dX6_numberHere_60 (by decide) ?_
          refine s_join 71 (fun y63 : Int32 => [some (.ref (w.1 36)), none, some (.int z32.2)]) (fun y63 => [.int y63]) (fun y63 => M) (fun y63 => ?_) (fun K63 hB63 => ?_)
          · refine s_istore_n (lv2 := [some (.ref (w.1 36)), some (.int y63), some (.int z32.2)]) G dX6_numberHere_71 (by decide) rfl rfl ?_
            refine s_iinc (v := (z32.2 + 1)) (lv2 := [some (.ref (w.1 36)), some (.int y63), some (.int (z32.2 + 1))]) G dX6_numberHere_72 rfl rfl (by decide) rfl rfl ?_
            refine s_goto (tgt := 32) G dX6_numberHere_75 (by decide) ?_
            exact fun hx => hB32 (y63, (z32.2 + 1)) hx
          · refine s_icmp_le (tgt := 70) G dX6_numberHere_63 (by decide) ?_ ?_
            · refine s_iload_n G dX6_numberHere_70 rfl ?_
              refine s_keep [true, false, true] (lv2 := [some (.ref (w.1 36)), none, some (.int z32.2)]) rfl ?_
              exact fun hx => hB63 v58 hx
            · refine s_iconst (v := (-1)) G dX6_numberHere_66 (by decide) ?_
              refine s_goto (tgt := 71) G dX6_numberHere_67 (by decide) ?_
              refine s_keep [true, false, true] (lv2 := [some (.ref (w.1 36)), none, some (.int z32.2)]) rfl ?_
              exact fun hx => hB63 (-1) hx
  · refine s_if_ne (tgt := 25) G dX6_numberHere_4 (by decide) ?_ ?_
    · refine s_aload_n G dX6_numberHere_7 rfl ?_
      refine s_aload_n G dX6_numberHere_8 rfl ?_
      refine s_get (k := 36) (j := 11) G (.int (gI M 36 11)) ⟨by decide, by decide⟩ (ce36 w) rfl clX6 (by decide) qw766 rfl dX6_numberHere_9 ?_
      refine s_callVi (as := [.int (gI M 36 11)]) (st := []) (k := 36) G aw_self mdX6_byteAt (fun _ h => c_X6_byteAt w O l (gI M 36 11) M _ h) ⟨by decide, by decide⟩ (ce36 w) clX6 rfl qw1101 rfl rfl (Nat.le_of_ble_eq_true rfl) (by decide) dX6_numberHere_12 (fun r12 => ?_)
      refine s_callSi (as := [.int r12]) (st := []) G aw_self mdX6_isDigit (fun _ h => c_X6_isDigit w O l r12 M _ h) qw1110 rfl rfl (Nat.le_of_ble_eq_true rfl) (by decide) dX6_numberHere_15 (fun r15 => ?_)
      refine s_if_eq (tgt := 25) G dX6_numberHere_18 (by decide) ?_ ?_
      · refine s_iconst (v := (-1)) G dX6_numberHere_25 (by decide) ?_
        exact fun hx => hB4 (-1) hx
      · refine s_iconst (v := 0) G dX6_numberHere_21 (by decide) ?_
        refine s_goto (tgt := 26) G dX6_numberHere_22 (by decide) ?_
        exact fun hx => hB4 0 hx
    · refine s_iconst (v := (-1)) G dX6_numberHere_25 (by decide) ?_
      exact fun hx => hB4 (-1) hx

set_option maxRecDepth 100000 in
set_option maxHeartbeats 4000000 in
theorem c_X6_atItem (w : Wx) (O : Mem) (l : Launch) (a1 : Int32) (M : Mem)  (z : Mem) (hz : f_X6_atItem a1 M = some z) : Ct w 36 48 O l 4 muX6_atItem [.ref (w.1 36), .int a1] M (none, z) := by
  refine ct_of (X := f_X6_atItem a1 M) (K := fun v => some (none, v)) [some (.ref (w.1 36)), some (.int a1), none] rfl rfl (Nat.le_of_ble_eq_true rfl) (by rw [hz]; rfl) ?_
  intro p e s m args below meth c G
  unfold f_X6_atItem
  refine s_aload_n G dX6_atItem_0 rfl ?_
  refine s_iconst (v := 1) G dX6_atItem_1 (by decide) ?_
  refine s_callVv (as := [.int 1]) (st := []) (k := 36) G aw_self mdX6_must (fun _ h => c_X6_must w O l 1 M _ h) ⟨by decide, by decide⟩ (ce36 w) clX6 rfl qw1139 rfl rfl (Nat.le_of_ble_eq_true rfl) (by decide) dX6_atItem_2 (fun r2 => ?_)
  refine s_aload_n G dX6_atItem_5 rfl ?_
  refine s_callVi (as := []) (st := []) (k := 36) G aw_self mdX6_numberHere (fun _ h => c_X6_numberHere w O l r2 _ h) ⟨by decide, by decide⟩ (ce36 w) clX6 rfl qw1148 rfl rfl (Nat.le_of_ble_eq_true rfl) (by decide) dX6_atItem_6 (fun r6 => ?_)
  refine s_istore_n (lv2 := [some (.ref (w.1 36)), some (.int a1), some (.int r6)]) G dX6_atItem_9 (by decide) rfl rfl ?_
  refine s_aload_n G dX6_atItem_10 rfl ?_
  refine s_aload_n G dX6_atItem_11 rfl ?_
  refine s_iload_n G dX6_atItem_12 rfl ?_
  refine s_callVi (as := [.int r6]) (st := [.ref (w.1 36)]) (k := 36) G aw_self mdX6_isFree (fun _ h => c_X6_isFree w O l r6 r2 _ h) ⟨by decide, by decide⟩ (ce36 w) clX6 rfl qw906 rfl rfl (Nat.le_of_ble_eq_true rfl) (by decide) dX6_atItem_13 (fun r13 => ?_)
  refine s_callVv (as := [.int r13]) (st := []) (k := 36) G aw_self mdX6_must (fun _ h => c_X6_must w O l r13 r2 _ h) ⟨by decide, by decide⟩ (ce36 w) clX6 rfl qw1139 rfl rfl (Nat.le_of_ble_eq_true rfl) (by decide) dX6_atItem_16 (fun r16 => ?_)
  refine s_aload_n G dX6_atItem_19 rfl ?_
  refine s_get (k := 36) (j := 0) G (.ref (w.1 37)) ⟨by decide, by decide⟩ (ce36 w) rfl clX6 (by decide) qw755 rfl dX6_atItem_20 ?_
  refine s_iload_n G dX6_atItem_23 rfl ?_
  refine s_iconst (v := 1) G dX6_atItem_24 (by decide) ?_
  refine s_callSi (as := [.int a1, .int 1]) (st := [.ref (w.1 37)]) G aw_self mdX6_spotOf (fun _ h => c_X6_spotOf w O l a1 1 r16 _ h) qw834 rfl rfl (Nat.le_of_ble_eq_true rfl) (by decide) dX6_atItem_25 (fun r25 => ?_)
  refine s_aload_n G dX6_atItem_28 rfl ?_
  refine s_get (k := 36) (j := 14) G (.int (gI r16 36 14)) ⟨by decide, by decide⟩ (ce36 w) rfl clX6 (by decide) qw769 rfl dX6_atItem_29 ?_
  refine s_join 40 (fun y32 : Int32 => [none, none, none]) (fun y32 => [.int y32, .int r25, .ref (w.1 37)]) (fun y32 => r16) (fun y32 => ?_) (fun K32 hB32 => ?_)
  · refine s_iast (k := 37) (n := 63) G ⟨by decide, by decide⟩ (ce37 w) dX6_atItem_40 (fun m40 => ?_)
    exact s_vret G rfl rfl dX6_atItem_41
  · refine s_if_eq (tgt := 39) G dX6_atItem_32 (by decide) ?_ ?_
    · refine s_iload_n G dX6_atItem_39 rfl ?_
      refine s_keep [false, false, false] (lv2 := [none, none, none]) rfl ?_
      exact fun hx => hB32 r6 hx
    · refine s_iconst (v := (-1)) G dX6_atItem_35 (by decide) ?_
      refine s_goto (tgt := 40) G dX6_atItem_36 (by decide) ?_
      refine s_keep [false, false, false] (lv2 := [none, none, none]) rfl ?_
      exact fun hx => hB32 (-1) hx

set_option maxRecDepth 100000 in
set_option maxHeartbeats 4000000 in
theorem c_X6_hangerItem (w : Wx) (O : Mem) (l : Launch) (a1 : Int32) (M : Mem)  (z : Mem) (hz : f_X6_hangerItem a1 M = some z) : Ct w 36 48 O l 5 muX6_hangerItem [.ref (w.1 36), .int a1] M (none, z) := by
  refine ct_of (X := f_X6_hangerItem a1 M) (K := fun v => some (none, v)) [some (.ref (w.1 36)), some (.int a1), none] rfl rfl (Nat.le_of_ble_eq_true rfl) (by rw [hz]; rfl) ?_
  intro p e s m args below meth c G
  unfold f_X6_hangerItem
  refine s_aload_n G dX6_hangerItem_0 rfl ?_
  refine s_aload_n G dX6_hangerItem_1 rfl ?_
  refine s_get (k := 36) (j := 0) G (.ref (w.1 37)) ⟨by decide, by decide⟩ (ce36 w) rfl clX6 (by decide) qw755 rfl dX6_hangerItem_2 ?_
  refine s_iconst (v := 0) G dX6_hangerItem_5 (by decide) ?_
  refine s_ialdC (k := 37) (n := 63) (j := 0) G ⟨by decide, by decide⟩ (ce37 w) (by decide) (by decide) dX6_hangerItem_6 ?_
  refine s_bipush (v := 12) G dX6_hangerItem_7 (by decide) ?_
  refine s_join 17 (fun y9 : Int32 => [some (.ref (w.1 36)), some (.int a1), none]) (fun y9 => [.int y9, .ref (w.1 36)]) (fun y9 => M) (fun y9 => ?_) (fun K9 hB9 => ?_)
  · refine s_callVv (as := [.int y9]) (st := []) (k := 36) G aw_self mdX6_must (fun _ h => c_X6_must w O l y9 M _ h) ⟨by decide, by decide⟩ (ce36 w) clX6 rfl qw1139 rfl rfl (Nat.le_of_ble_eq_true rfl) (by decide) dX6_hangerItem_17 (fun r17 => ?_)
    refine s_aload_n G dX6_hangerItem_20 rfl ?_
    refine s_get (k := 36) (j := 14) G (.int (gI r17 36 14)) ⟨by decide, by decide⟩ (ce36 w) rfl clX6 (by decide) qw769 rfl dX6_hangerItem_21 ?_
    refine s_if_eq (tgt := 28) G dX6_hangerItem_24 (by decide) ?_ ?_
    · refine s_aload_n G dX6_hangerItem_28 rfl ?_
      refine s_iload_n G dX6_hangerItem_29 rfl ?_
      refine s_callVI (as := [.int a1]) (st := []) (k := 36) G aw_self mdX6_adds (fun _ h => c_X6_adds w O l a1 r17 _ h) ⟨by decide, by decide⟩ (ce36 w) clX6 rfl qw830 rfl rfl (Nat.le_of_ble_eq_true rfl) (by decide) dX6_hangerItem_30 (fun r30 => ?_)
      refine s_istore_n (lv2 := [some (.ref (w.1 36)), some (.int a1), some (.int r30.1)]) G dX6_hangerItem_33 (by decide) rfl rfl ?_
      refine s_aload_n G dX6_hangerItem_34 rfl ?_
      refine s_callVl (as := []) (st := []) (k := 36) G aw_self mdX6_word (fun _ h => c_X6_word w O l r30.2 _ h) ⟨by decide, by decide⟩ (ce36 w) clX6 rfl qw1123 rfl rfl (Nat.le_of_ble_eq_true rfl) (by decide) dX6_hangerItem_35 (fun r35 => ?_)
      refine s_ldc2 (v := 52) G dX6_hangerItem_38 qw1143 ?_
      refine s_lcmp G dX6_hangerItem_41 ?_
      refine s_join 50 (fun y42 : Mem => [some (.ref (w.1 36)), none, some (.int r30.1)]) (fun y42 => []) (fun y42 => y42) (fun y42 => ?_) (fun K42 hB42 => ?_)
      · refine s_aload_n G dX6_hangerItem_50 rfl ?_
        refine s_callVl (as := []) (st := []) (k := 36) G aw_self mdX6_word (fun _ h => c_X6_word w O l y42 _ h) ⟨by decide, by decide⟩ (ce36 w) clX6 rfl qw1123 rfl rfl (Nat.le_of_ble_eq_true rfl) (by decide) dX6_hangerItem_51 (fun r51 => ?_)
        refine s_ldc2 (v := 66667) G dX6_hangerItem_54 qw1152 ?_
        refine s_lcmp G dX6_hangerItem_57 ?_
        refine s_join 77 (fun y58 : Mem => [some (.ref (w.1 36)), none, some (.int r30.1)]) (fun y58 => []) (fun y58 => y58) (fun y58 => ?_) (fun K58 hB58 => ?_)
        · refine s_aload_n G dX6_hangerItem_77 rfl ?_
          refine s_callVl (as := []) (st := []) (k := 36) G aw_self mdX6_word (fun _ h => c_X6_word w O l y58 _ h) ⟨by decide, by decide⟩ (ce36 w) clX6 rfl qw1123 rfl rfl (Nat.le_of_ble_eq_true rfl) (by decide) dX6_hangerItem_78 (fun r78 => ?_)
          refine s_ldc2 (v := 20194900) G dX6_hangerItem_81 qw1153 ?_
          refine s_lcmp G dX6_hangerItem_84 ?_
          refine s_join 114 (fun y85 : Mem => [some (.ref (w.1 36)), none, some (.int r30.1)]) (fun y85 => []) (fun y85 => y85) (fun y85 => ?_) (fun K85 hB85 => ?_)
          · refine s_aload_n G dX6_hangerItem_114 rfl ?_
            refine s_callVl (as := []) (st := []) (k := 36) G aw_self mdX6_word (fun _ h => c_X6_word w O l y85 _ h) ⟨by decide, by decide⟩ (ce36 w) clX6 rfl qw1123 rfl rfl (Nat.le_of_ble_eq_true rfl) (by decide) dX6_hangerItem_115 (fun r115 => ?_)
            refine s_ldc2 (v := 201900) G dX6_hangerItem_118 qw1158 ?_
            refine s_lcmp G dX6_hangerItem_121 ?_
            refine s_join 151 (fun y122 : Mem => [none, none, none]) (fun y122 => []) (fun y122 => y122) (fun y122 => ?_) (fun K122 hB122 => ?_)
            · exact s_vret G rfl rfl dX6_hangerItem_151
            · refine s_if_ne (tgt := 151) G dX6_hangerItem_122 (by decide) ?_ ?_
              · refine s_aload_n G dX6_hangerItem_125 rfl ?_
                refine s_iconst (v := 1) G dX6_hangerItem_126 (by decide) ?_
                refine s_callVv (as := [.int 1]) (st := []) (k := 36) G aw_self mdX6_must (fun _ h => c_X6_must w O l 1 y85 _ h) ⟨by decide, by decide⟩ (ce36 w) clX6 rfl qw1139 rfl rfl (Nat.le_of_ble_eq_true rfl) (by decide) dX6_hangerItem_127 (fun r127 => ?_)
                refine s_aload_n G dX6_hangerItem_130 rfl ?_
                refine s_iconst (v := 0) G dX6_hangerItem_131 (by decide) ?_
                refine s_bipush (v := 15) G dX6_hangerItem_132 (by decide) ?_
                refine s_callVv (as := [.int 0, .int 15]) (st := []) (k := 36) G aw_self mdX6_number (fun _ h => c_X6_number w O l 0 15 r127 _ h) ⟨by decide, by decide⟩ (ce36 w) clX6 rfl qw1154 rfl rfl (Nat.le_of_ble_eq_true rfl) (by decide) dX6_hangerItem_134 (fun r134 => ?_)
                refine s_aload_n G dX6_hangerItem_137 rfl ?_
                refine s_get (k := 36) (j := 0) G (.ref (w.1 37)) ⟨by decide, by decide⟩ (ce36 w) rfl clX6 (by decide) qw755 rfl dX6_hangerItem_138 ?_
                refine s_iload_n G dX6_hangerItem_141 rfl ?_
                refine s_iconst (v := 4) G dX6_hangerItem_142 (by decide) ?_
                refine s_callSi (as := [.int r30.1, .int 4]) (st := [.ref (w.1 37)]) G aw_self mdX6_spotOf (fun _ h => c_X6_spotOf w O l r30.1 4 r134 _ h) qw834 rfl rfl (Nat.le_of_ble_eq_true rfl) (by decide) dX6_hangerItem_143 (fun r143 => ?_)
                refine s_aload_n G dX6_hangerItem_146 rfl ?_
                refine s_get (k := 36) (j := 13) G (.int (gI r134 36 13)) ⟨by decide, by decide⟩ (ce36 w) rfl clX6 (by decide) qw768 rfl dX6_hangerItem_147 ?_
                refine s_iast (k := 37) (n := 63) G ⟨by decide, by decide⟩ (ce37 w) dX6_hangerItem_150 (fun m150 => ?_)
                refine s_keep [false, false, false] (lv2 := [none, none, none]) rfl ?_
                exact fun hx => hB122 m150 hx
              · refine s_keep [false, false, false] (lv2 := [none, none, none]) rfl ?_
                exact fun hx => hB122 y85 hx
          · refine s_if_ne (tgt := 114) G dX6_hangerItem_85 (by decide) ?_ ?_
            · refine s_aload_n G dX6_hangerItem_88 rfl ?_
              refine s_iconst (v := 1) G dX6_hangerItem_89 (by decide) ?_
              refine s_callVv (as := [.int 1]) (st := []) (k := 36) G aw_self mdX6_must (fun _ h => c_X6_must w O l 1 y58 _ h) ⟨by decide, by decide⟩ (ce36 w) clX6 rfl qw1139 rfl rfl (Nat.le_of_ble_eq_true rfl) (by decide) dX6_hangerItem_90 (fun r90 => ?_)
              refine s_aload_n G dX6_hangerItem_93 rfl ?_
              refine s_iconst (v := 1) G dX6_hangerItem_94 (by decide) ?_
              refine s_bipush (v := 9) G dX6_hangerItem_95 (by decide) ?_
              refine s_callVv (as := [.int 1, .int 9]) (st := []) (k := 36) G aw_self mdX6_number (fun _ h => c_X6_number w O l 1 9 r90 _ h) ⟨by decide, by decide⟩ (ce36 w) clX6 rfl qw1154 rfl rfl (Nat.le_of_ble_eq_true rfl) (by decide) dX6_hangerItem_97 (fun r97 => ?_)
              refine s_aload_n G dX6_hangerItem_100 rfl ?_
              refine s_get (k := 36) (j := 0) G (.ref (w.1 37)) ⟨by decide, by decide⟩ (ce36 w) rfl clX6 (by decide) qw755 rfl dX6_hangerItem_101 ?_
              refine s_iload_n G dX6_hangerItem_104 rfl ?_
              refine s_iconst (v := 3) G dX6_hangerItem_105 (by decide) ?_
              refine s_callSi (as := [.int r30.1, .int 3]) (st := [.ref (w.1 37)]) G aw_self mdX6_spotOf (fun _ h => c_X6_spotOf w O l r30.1 3 r97 _ h) qw834 rfl rfl (Nat.le_of_ble_eq_true rfl) (by decide) dX6_hangerItem_106 (fun r106 => ?_)
              refine s_aload_n G dX6_hangerItem_109 rfl ?_
              refine s_get (k := 36) (j := 13) G (.int (gI r97 36 13)) ⟨by decide, by decide⟩ (ce36 w) rfl clX6 (by decide) qw768 rfl dX6_hangerItem_110 ?_
              refine s_iast (k := 37) (n := 63) G ⟨by decide, by decide⟩ (ce37 w) dX6_hangerItem_113 (fun m113 => ?_)
              exact fun hx => hB85 m113 hx
            · exact fun hx => hB85 y58 hx
        · refine s_if_ne (tgt := 77) G dX6_hangerItem_58 (by decide) ?_ ?_
          · refine s_aload_n G dX6_hangerItem_61 rfl ?_
            refine s_iconst (v := 1) G dX6_hangerItem_62 (by decide) ?_
            refine s_callVv (as := [.int 1]) (st := []) (k := 36) G aw_self mdX6_must (fun _ h => c_X6_must w O l 1 y42 _ h) ⟨by decide, by decide⟩ (ce36 w) clX6 rfl qw1139 rfl rfl (Nat.le_of_ble_eq_true rfl) (by decide) dX6_hangerItem_63 (fun r63 => ?_)
            refine s_aload_n G dX6_hangerItem_66 rfl ?_
            refine s_get (k := 36) (j := 0) G (.ref (w.1 37)) ⟨by decide, by decide⟩ (ce36 w) rfl clX6 (by decide) qw755 rfl dX6_hangerItem_67 ?_
            refine s_iload_n G dX6_hangerItem_70 rfl ?_
            refine s_iconst (v := 2) G dX6_hangerItem_71 (by decide) ?_
            refine s_callSi (as := [.int r30.1, .int 2]) (st := [.ref (w.1 37)]) G aw_self mdX6_spotOf (fun _ h => c_X6_spotOf w O l r30.1 2 r63 _ h) qw834 rfl rfl (Nat.le_of_ble_eq_true rfl) (by decide) dX6_hangerItem_72 (fun r72 => ?_)
            refine s_iconst (v := 1) G dX6_hangerItem_75 (by decide) ?_
            refine s_iast (k := 37) (n := 63) G ⟨by decide, by decide⟩ (ce37 w) dX6_hangerItem_76 (fun m76 => ?_)
            exact fun hx => hB58 m76 hx
          · exact fun hx => hB58 y42 hx
      · refine s_if_ne (tgt := 50) G dX6_hangerItem_42 (by decide) ?_ ?_
        · refine s_aload_n G dX6_hangerItem_45 rfl ?_
          refine s_iload_n G dX6_hangerItem_46 rfl ?_
          refine s_callVv (as := [.int r30.1]) (st := []) (k := 36) G aw_self mdX6_atItem (fun _ h => c_X6_atItem w O l r30.1 r30.2 _ h) ⟨by decide, by decide⟩ (ce36 w) clX6 rfl qw1144 rfl rfl (Nat.le_of_ble_eq_true rfl) (by decide) dX6_hangerItem_47 (fun r47 => ?_)
          refine s_keep [true, false, true] (lv2 := [some (.ref (w.1 36)), none, some (.int r30.1)]) rfl ?_
          exact fun hx => hB42 r47 hx
        · refine s_keep [true, false, true] (lv2 := [some (.ref (w.1 36)), none, some (.int r30.1)]) rfl ?_
          exact fun hx => hB42 r30.2 hx
    · exact s_vret G rfl rfl dX6_hangerItem_27
  · refine s_icmp_ge (tgt := 16) G dX6_hangerItem_9 (by decide) ?_ ?_
    · refine s_iconst (v := 0) G dX6_hangerItem_16 (by decide) ?_
      exact fun hx => hB9 0 hx
    · refine s_iconst (v := 1) G dX6_hangerItem_12 (by decide) ?_
      refine s_goto (tgt := 17) G dX6_hangerItem_13 (by decide) ?_
      exact fun hx => hB9 1 hx

set_option maxRecDepth 100000 in
set_option maxHeartbeats 4000000 in
theorem c_X6_item (w : Wx) (O : Mem) (l : Launch)  (M : Mem)  (z : Mem) (hz : f_X6_item  M = some z) : Ct w 36 48 O l 6 muX6_item [.ref (w.1 36)] M (none, z) := by
  refine ct_of (X := f_X6_item  M) (K := fun v => some (none, v)) [some (.ref (w.1 36)), none] rfl rfl (Nat.le_of_ble_eq_true rfl) (by rw [hz]; rfl) ?_
  intro p e s m args below meth c G
  unfold f_X6_item
  refine s_aload_n G dX6_item_0 rfl ?_
  refine s_callVi (as := []) (st := []) (k := 36) G aw_self mdX6_kindHere (fun _ h => c_X6_kindHere w O l M _ h) ⟨by decide, by decide⟩ (ce36 w) clX6 rfl qw1119 rfl rfl (Nat.le_of_ble_eq_true rfl) (by decide) dX6_item_1 (fun r1 => ?_)
  refine s_istore_n (lv2 := [some (.ref (w.1 36)), some (.int r1)]) G dX6_item_4 (by decide) rfl rfl ?_
  refine s_iload_n G dX6_item_5 rfl ?_
  refine s_join 70 (fun y6 : Mem => [none, none]) (fun y6 => []) (fun y6 => y6) (fun y6 => ?_) (fun K6 hB6 => ?_)
  · exact s_vret G rfl rfl dX6_item_70
  · refine s_if_lt (tgt := 17) G dX6_item_6 (by decide) ?_ ?_
    · refine s_aload_n G dX6_item_17 rfl ?_
      refine s_aload_n G dX6_item_18 rfl ?_
      refine s_callVl (as := []) (st := [.ref (w.1 36)]) (k := 36) G aw_self mdX6_word (fun _ h => c_X6_word w O l M _ h) ⟨by decide, by decide⟩ (ce36 w) clX6 rfl qw1123 rfl rfl (Nat.le_of_ble_eq_true rfl) (by decide) dX6_item_19 (fun r19 => ?_)
      refine s_ldc2 (v := 17376357) G dX6_item_22 qw1159 ?_
      refine s_lcmp G dX6_item_25 ?_
      refine s_join 34 (fun y26 : Int32 => [some (.ref (w.1 36)), none]) (fun y26 => [.int y26, .ref (w.1 36)]) (fun y26 => M) (fun y26 => ?_) (fun K26 hB26 => ?_)
      · refine s_callVv (as := [.int y26]) (st := []) (k := 36) G aw_self mdX6_must (fun _ h => c_X6_must w O l y26 M _ h) ⟨by decide, by decide⟩ (ce36 w) clX6 rfl qw1139 rfl rfl (Nat.le_of_ble_eq_true rfl) (by decide) dX6_item_34 (fun r34 => ?_)
        refine s_aload_n G dX6_item_37 rfl ?_
        refine s_iconst (v := 0) G dX6_item_38 (by decide) ?_
        refine s_bipush (v := 99) G dX6_item_39 (by decide) ?_
        refine s_callVv (as := [.int 0, .int 99]) (st := []) (k := 36) G aw_self mdX6_number (fun _ h => c_X6_number w O l 0 99 r34 _ h) ⟨by decide, by decide⟩ (ce36 w) clX6 rfl qw1154 rfl rfl (Nat.le_of_ble_eq_true rfl) (by decide) dX6_item_41 (fun r41 => ?_)
        refine s_aload_n G dX6_item_44 rfl ?_
        refine s_get (k := 36) (j := 0) G (.ref (w.1 37)) ⟨by decide, by decide⟩ (ce36 w) rfl clX6 (by decide) qw755 rfl dX6_item_45 ?_
        refine s_iconst (v := 2) G dX6_item_48 (by decide) ?_
        refine s_aload_n G dX6_item_49 rfl ?_
        refine s_get (k := 36) (j := 14) G (.int (gI r41 36 14)) ⟨by decide, by decide⟩ (ce36 w) rfl clX6 (by decide) qw769 rfl dX6_item_50 ?_
        refine s_join 69 (fun y53 : Int32 => [none, none]) (fun y53 => [.int y53, .int 2, .ref (w.1 37)]) (fun y53 => r41) (fun y53 => ?_) (fun K53 hB53 => ?_)
        · refine s_iastC (k := 37) (n := 63) (j := 2) G ⟨by decide, by decide⟩ (ce37 w) (by decide) (by decide) dX6_item_69 (fun m69 => ?_)
          exact fun hx => hB6 m69 hx
        · refine s_if_eq (tgt := 65) G dX6_item_53 (by decide) ?_ ?_
          · refine s_aload_n G dX6_item_65 rfl ?_
            refine s_get (k := 36) (j := 13) G (.int (gI r41 36 13)) ⟨by decide, by decide⟩ (ce36 w) rfl clX6 (by decide) qw768 rfl dX6_item_66 ?_
            refine s_keep [false, false] (lv2 := [none, none]) rfl ?_
            exact fun hx => hB53 (gI r41 36 13) hx
          · refine s_aload_n G dX6_item_56 rfl ?_
            refine s_get (k := 36) (j := 0) G (.ref (w.1 37)) ⟨by decide, by decide⟩ (ce36 w) rfl clX6 (by decide) qw755 rfl dX6_item_57 ?_
            refine s_iconst (v := 2) G dX6_item_60 (by decide) ?_
            refine s_ialdC (k := 37) (n := 63) (j := 2) G ⟨by decide, by decide⟩ (ce37 w) (by decide) (by decide) dX6_item_61 ?_
            refine s_goto (tgt := 69) G dX6_item_62 (by decide) ?_
            refine s_keep [false, false] (lv2 := [none, none]) rfl ?_
            exact fun hx => hB53 (gI r41 37 2) hx
      · refine s_if_ne (tgt := 33) G dX6_item_26 (by decide) ?_ ?_
        · refine s_iconst (v := 1) G dX6_item_29 (by decide) ?_
          refine s_goto (tgt := 34) G dX6_item_30 (by decide) ?_
          refine s_keep [true, false] (lv2 := [some (.ref (w.1 36)), none]) rfl ?_
          exact fun hx => hB26 1 hx
        · refine s_iconst (v := 0) G dX6_item_33 (by decide) ?_
          refine s_keep [true, false] (lv2 := [some (.ref (w.1 36)), none]) rfl ?_
          exact fun hx => hB26 0 hx
    · refine s_aload_n G dX6_item_9 rfl ?_
      refine s_iload_n G dX6_item_10 rfl ?_
      refine s_callVv (as := [.int r1]) (st := []) (k := 36) G aw_self mdX6_hangerItem (fun _ h => c_X6_hangerItem w O l r1 M _ h) ⟨by decide, by decide⟩ (ce36 w) clX6 rfl qw1135 rfl rfl (Nat.le_of_ble_eq_true rfl) (by decide) dX6_item_11 (fun r11 => ?_)
      refine s_goto (tgt := 70) G dX6_item_14 (by decide) ?_
      refine s_keep [false, false] (lv2 := [none, none]) rfl ?_
      exact fun hx => hB6 r11 hx

set_option maxRecDepth 100000 in
set_option maxHeartbeats 4000000 in
theorem c_X6_rail (w : Wx) (O : Mem) (l : Launch)  (M : Mem)  (z : Int32 × Mem) (hz : f_X6_rail  M = some z) : Ct w 36 48 O l 7 muX6_rail [.ref (w.1 36)] M (some (.int z.1), z.2) := by
  refine ct_of (X := f_X6_rail  M) (K := fun v => some (some (.int v.1), v.2)) [some (.ref (w.1 36)), none] rfl rfl (Nat.le_of_ble_eq_true rfl) (by rw [hz]; rfl) ?_
  intro p e s m args below meth c G
  unfold f_X6_rail
  refine s_aload_n G dX6_rail_0 rfl ?_
  refine s_callVv (as := []) (st := []) (k := 36) G aw_self mdX6_keepsAside (fun _ h => c_X6_keepsAside w O l M _ h) ⟨by decide, by decide⟩ (ce36 w) clX6 rfl qw1093 rfl rfl (Nat.le_of_ble_eq_true rfl) (by decide) dX6_rail_1 (fun r1 => ?_)
  refine s_aload_n G dX6_rail_4 rfl ?_
  refine s_iconst (v := 0) G dX6_rail_5 (by decide) ?_
  refine s_put (k := 36) (j := 14) G ⟨by decide, by decide⟩ (ce36 w) (fun _ => rfl) clX6 (by decide) (fun _ => (by decide : 14 < 19)) qw769 rfl rfl rfl rfl dX6_rail_6 (fun m6 => ?_)
  refine s_aload_n G dX6_rail_9 rfl ?_
  refine s_iconst (v := 0) G dX6_rail_10 (by decide) ?_
  refine s_put (k := 36) (j := 12) G ⟨by decide, by decide⟩ (ce36 w) (fun _ => rfl) clX6 (by decide) (fun _ => (by decide : 12 < 19)) qw767 rfl rfl rfl rfl dX6_rail_11 (fun m11 => ?_)
  refine s_aload_n G dX6_rail_14 rfl ?_
  refine s_callVv (as := []) (st := []) (k := 36) G aw_self mdX6_token (fun _ h => c_X6_token w O l m11 _ h) ⟨by decide, by decide⟩ (ce36 w) clX6 rfl qw1097 rfl rfl (Nat.le_of_ble_eq_true rfl) (by decide) dX6_rail_15 (fun r15 => ?_)
  refine s_iconst (v := 1) G dX6_rail_18 (by decide) ?_
  refine s_istore_n (lv2 := [some (.ref (w.1 36)), some (.int 1)]) G dX6_rail_19 (by decide) rfl rfl ?_
  refine s_aload_n G dX6_rail_20 rfl ?_
  refine s_callVv (as := []) (st := []) (k := 36) G aw_self mdX6_item (fun _ h => c_X6_item w O l r15 _ h) ⟨by decide, by decide⟩ (ce36 w) clX6 rfl qw1115 rfl rfl (Nat.le_of_ble_eq_true rfl) (by decide) dX6_rail_21 (fun r21 => ?_)
  refine s_loopG (lvf := fun z24 : Int32 × Mem => [some (.ref (w.1 36)), some (.int z24.1)]) (Mf := fun z24 : Int32 × Mem => z24.2) (ex := (fun x24_59 : Int32 × Mem => (59, [some (.ref (w.1 36)), some (.int x24_59.1)], x24_59.2))) (el_one 59 (fun x24_59 : Int32 × Mem => [some (.ref (w.1 36)), some (.int x24_59.1)]) (fun x24_59 : Int32 × Mem => x24_59.2) (fun x24_59 => ?_)) (fun z24 K24 hB24 hE24 => ?_)
  · refine s_aload_n G dX6_rail_59 rfl ?_
    refine s_aload_n G dX6_rail_60 rfl ?_
    refine s_get (k := 36) (j := 14) G (.int (gI x24_59.2 36 14)) ⟨by decide, by decide⟩ (ce36 w) rfl clX6 (by decide) qw769 rfl dX6_rail_61 ?_
    refine s_join 83 (fun y64 : Int32 => [some (.ref (w.1 36)), some (.int x24_59.1)]) (fun y64 => [.int y64, .ref (w.1 36)]) (fun y64 => x24_59.2) (fun y64 => ?_) (fun K64 hB64 => ?_)
    · refine s_test (fun h83 => ?_)
      refine s_put (k := 36) (j := 14) G ⟨by decide, by decide⟩ (ce36 w) (fun _ => rfl) clX6 (by decide) (fun _ => (by decide : 14 < 19)) qw769 rfl rfl (zb_nar h83) (zb_fit h83) dX6_rail_83 (fun m83 => ?_)
      refine s_aload_n G dX6_rail_86 rfl ?_
      refine s_get (k := 36) (j := 14) G (.int (gI m83 36 14)) ⟨by decide, by decide⟩ (ce36 w) rfl clX6 (by decide) qw769 rfl dX6_rail_87 ?_
      refine s_join 97 (fun y90 : Mem => [some (.ref (w.1 36)), some (.int x24_59.1)]) (fun y90 => []) (fun y90 => y90) (fun y90 => ?_) (fun K90 hB90 => ?_)
      · refine s_aload_n G dX6_rail_97 rfl ?_
        refine s_iconst (v := 0) G dX6_rail_98 (by decide) ?_
        refine s_put (k := 36) (j := 10) G ⟨by decide, by decide⟩ (ce36 w) (fun _ => rfl) clX6 (by decide) (fun _ => (by decide : 10 < 19)) qw765 rfl rfl rfl rfl dX6_rail_99 (fun m99 => ?_)
        refine s_aload_n G dX6_rail_102 rfl ?_
        refine s_get (k := 36) (j := 14) G (.int (gI m99 36 14)) ⟨by decide, by decide⟩ (ce36 w) rfl clX6 (by decide) qw769 rfl dX6_rail_103 ?_
        refine s_join 119 (fun y106 : Int32 => [none, none]) (fun y106 => [.int y106]) (fun y106 => m99) (fun y106 => ?_) (fun K106 hB106 => ?_)
        · exact s_iret G rfl rfl dX6_rail_119
        · refine s_if_eq (tgt := 118) G dX6_rail_106 (by decide) ?_ ?_
          · refine s_iload_n G dX6_rail_118 rfl ?_
            refine s_keep [false, false] (lv2 := [none, none]) rfl ?_
            exact fun hx => hB106 x24_59.1 hx
          · refine s_iconst (v := (-1)) G dX6_rail_109 (by decide) ?_
            refine s_aload_n G dX6_rail_110 rfl ?_
            refine s_get (k := 36) (j := 11) G (.int (gI m99 36 11)) ⟨by decide, by decide⟩ (ce36 w) rfl clX6 (by decide) qw766 rfl dX6_rail_111 ?_
            refine s_isub G dX6_rail_114 ?_
            refine s_goto (tgt := 119) G dX6_rail_115 (by decide) ?_
            refine s_keep [false, false] (lv2 := [none, none]) rfl ?_
            exact fun hx => hB106 ((-1) - (gI m99 36 11)) hx
      · refine s_if_eq (tgt := 97) G dX6_rail_90 (by decide) ?_ ?_
        · exact fun hx => hB90 m83 hx
        · refine s_aload_n G dX6_rail_93 rfl ?_
          refine s_callVv (as := []) (st := []) (k := 36) G aw_self mdX6_putsBack (fun _ h => c_X6_putsBack w O l m83 _ h) ⟨by decide, by decide⟩ (ce36 w) clX6 rfl qw1160 rfl rfl (Nat.le_of_ble_eq_true rfl) (by decide) dX6_rail_94 (fun r94 => ?_)
          exact fun hx => hB90 r94 hx
    · refine s_if_ne (tgt := 78) G dX6_rail_64 (by decide) ?_ ?_
      · refine s_aload_n G dX6_rail_67 rfl ?_
        refine s_get (k := 36) (j := 11) G (.int (gI x24_59.2 36 11)) ⟨by decide, by decide⟩ (ce36 w) rfl clX6 (by decide) qw766 rfl dX6_rail_68 ?_
        refine s_aload_n G dX6_rail_71 rfl ?_
        refine s_get (k := 36) (j := 10) G (.int (gI x24_59.2 36 10)) ⟨by decide, by decide⟩ (ce36 w) rfl clX6 (by decide) qw765 rfl dX6_rail_72 ?_
        refine s_icmp_ge (tgt := 82) G dX6_rail_75 (by decide) ?_ ?_
        · refine s_iconst (v := 0) G dX6_rail_82 (by decide) ?_
          exact fun hx => hB64 0 hx
        · refine s_iconst (v := 1) G dX6_rail_78 (by decide) ?_
          refine s_goto (tgt := 83) G dX6_rail_79 (by decide) ?_
          exact fun hx => hB64 1 hx
      · refine s_iconst (v := 1) G dX6_rail_78 (by decide) ?_
        refine s_goto (tgt := 83) G dX6_rail_79 (by decide) ?_
        exact fun hx => hB64 1 hx
  · unfold f_X6_rail_L24
    refine s_aload_n G dX6_rail_24 rfl ?_
    refine s_get (k := 36) (j := 14) G (.int (gI z24.2 36 14)) ⟨by decide, by decide⟩ (ce36 w) rfl clX6 (by decide) qw769 rfl dX6_rail_25 ?_
    refine s_if_ne (tgt := 59) G dX6_rail_28 (by decide) ?_ ?_
    · refine s_aload_n G dX6_rail_31 rfl ?_
      refine s_aload_n G dX6_rail_32 rfl ?_
      refine s_get (k := 36) (j := 11) G (.int (gI z24.2 36 11)) ⟨by decide, by decide⟩ (ce36 w) rfl clX6 (by decide) qw766 rfl dX6_rail_33 ?_
      refine s_callVi (as := [.int (gI z24.2 36 11)]) (st := []) (k := 36) G aw_self mdX6_byteAt (fun _ h => c_X6_byteAt w O l (gI z24.2 36 11) z24.2 _ h) ⟨by decide, by decide⟩ (ce36 w) clX6 rfl qw1101 rfl rfl (Nat.le_of_ble_eq_true rfl) (by decide) dX6_rail_36 (fun r36 => ?_)
      refine s_bipush (v := 59) G dX6_rail_39 (by decide) ?_
      refine s_icmp_ne (tgt := 59) G dX6_rail_41 (by decide) ?_ ?_
      · refine s_aload_n G dX6_rail_44 rfl ?_
        refine s_iconst (v := 1) G dX6_rail_45 (by decide) ?_
        refine s_callVv (as := [.int 1]) (st := []) (k := 36) G aw_self mdX6_must (fun _ h => c_X6_must w O l 1 z24.2 _ h) ⟨by decide, by decide⟩ (ce36 w) clX6 rfl qw1139 rfl rfl (Nat.le_of_ble_eq_true rfl) (by decide) dX6_rail_46 (fun r46 => ?_)
        refine s_aload_n G dX6_rail_49 rfl ?_
        refine s_callVv (as := []) (st := []) (k := 36) G aw_self mdX6_item (fun _ h => c_X6_item w O l r46 _ h) ⟨by decide, by decide⟩ (ce36 w) clX6 rfl qw1115 rfl rfl (Nat.le_of_ble_eq_true rfl) (by decide) dX6_rail_50 (fun r50 => ?_)
        refine s_iinc (v := (z24.1 + 1)) (lv2 := [some (.ref (w.1 36)), some (.int (z24.1 + 1))]) G dX6_rail_53 rfl rfl (by decide) rfl rfl ?_
        refine s_goto (tgt := 24) G dX6_rail_56 (by decide) ?_
        exact fun hx => hB24 ((z24.1 + 1), r50) hx
      · exact fun hx => hE24 (z24.1, z24.2) hx
    · exact fun hx => hE24 (z24.1, z24.2) hx

set_option maxRecDepth 100000 in
set_option maxHeartbeats 4000000 in
theorem c_X6_isOne (w : Wx) (O : Mem) (l : Launch) (a0 : Int32) (M : Mem)  (z : Int32) (hz : f_X6_isOne a0 = some z) : Ct w 36 48 O l 1 muX6_isOne [.int a0] M (some (.int z), M) := by
  refine ct_of (X := f_X6_isOne a0) (K := fun v => some (some (.int v), M)) [some (.int a0)] rfl rfl (Nat.le_of_ble_eq_true rfl) (by rw [hz]; rfl) ?_
  intro p e s m args below meth c G
  unfold f_X6_isOne
  refine s_iload_n G dX6_isOne_0 rfl ?_
  refine s_i2l G dX6_isOne_1 ?_
  refine s_lconst (v := 0) G dX6_isOne_2 (by decide) ?_
  refine s_ldc2 (v := 3) G dX6_isOne_3 qw1171 ?_
  refine s_callSi (as := [.long a0.toInt64, .long 0, .long 3]) (st := []) G aw_self mdX6_in (fun _ h => c_X6_in w O l a0.toInt64 0 3 M _ h) qw821 rfl rfl (Nat.le_of_ble_eq_true rfl) (by decide) dX6_isOne_6 (fun r6 => ?_)
  refine s_test (fun h9 => ?_)
  exact s_zret G rfl (zb_nar h9) rfl dX6_isOne_9

set_option maxRecDepth 100000 in
set_option maxHeartbeats 4000000 in
theorem c_X6_sheet (w : Wx) (O : Mem) (l : Launch) (a1 : Int32) (a2 : Int32) (a3 : Int32) (M : Mem)  (z : Int32 × Mem) (hz : f_X6_sheet a1 a2 a3 M = some z) : Ct w 36 48 O l 2 muX6_sheet [.ref (w.1 36), .int a1, .int a2, .int a3] M (some (.int z.1), z.2) := by
  refine ct_of (X := f_X6_sheet a1 a2 a3 M) (K := fun v => some (some (.int v.1), v.2)) [some (.ref (w.1 36)), some (.int a1), some (.int a2), some (.int a3), none] rfl rfl (Nat.le_of_ble_eq_true rfl) (by rw [hz]; rfl) ?_
  intro p e s m args below meth c G
  unfold f_X6_sheet
  refine s_iload_n G dX6_sheet_0 rfl ?_
  refine s_callSi (as := [.int a1]) (st := []) G aw_self mdX6_isOne (fun _ h => c_X6_isOne w O l a1 M _ h) qw1168 rfl rfl (Nat.le_of_ble_eq_true rfl) (by decide) dX6_sheet_1 (fun r1 => ?_)
  refine s_if_eq (tgt := 29) G dX6_sheet_4 (by decide) ?_ ?_
  · refine s_aload_n G dX6_sheet_29 rfl ?_
    refine s_ldc (v := (-1000000001)) G dX6_sheet_30 qw824 ?_
    refine s_callVI (as := [.int (-1000000001)]) (st := []) (k := 36) G aw_self mdX6_finds (fun _ h => c_X6_finds w O l (-1000000001) M _ h) ⟨by decide, by decide⟩ (ce36 w) clX6 rfl qw825 rfl rfl (Nat.le_of_ble_eq_true rfl) (by decide) dX6_sheet_32 (fun r32 => ?_)
    exact s_iret G rfl rfl dX6_sheet_35
  · refine s_iload_n G dX6_sheet_7 rfl ?_
    refine s_if_eq (tgt := 36) G dX6_sheet_8 (by decide) ?_ ?_
    · refine s_iload_n G dX6_sheet_36 rfl ?_
      refine s_if_ge (tgt := 48) G dX6_sheet_37 (by decide) ?_ ?_
      · refine s_iload_n G dX6_sheet_48 rfl ?_
        refine s_bipush (v := 40) G dX6_sheet_49 (by decide) ?_
        refine s_icmp_le (tgt := 61) G dX6_sheet_51 (by decide) ?_ ?_
        · refine s_aload_n G dX6_sheet_61 rfl ?_
          refine s_get (k := 36) (j := 15) G (.ref (w.1 44)) ⟨by decide, by decide⟩ (ce36 w) rfl clX6 (by decide) qw770 rfl dX6_sheet_62 ?_
          refine s_iload_n G dX6_sheet_65 rfl ?_
          refine s_iload_n G dX6_sheet_66 rfl ?_
          refine s_iast (k := 44) (n := 4) G ⟨by decide, by decide⟩ (ce44 w) dX6_sheet_67 (fun m67 => ?_)
          refine s_aload_n G dX6_sheet_68 rfl ?_
          refine s_get (k := 36) (j := 16) G (.ref (w.1 45)) ⟨by decide, by decide⟩ (ce36 w) rfl clX6 (by decide) qw771 rfl dX6_sheet_69 ?_
          refine s_iload_n G dX6_sheet_72 rfl ?_
          refine s_iload_n G dX6_sheet_73 rfl ?_
          refine s_join 82 (fun y74 : Int32 => [some (.ref (w.1 36)), some (.int a1), none, none, none]) (fun y74 => [.int y74, .int a1, .ref (w.1 45)]) (fun y74 => m67) (fun y74 => ?_) (fun K74 hB74 => ?_)
          · refine s_iast (k := 45) (n := 4) G ⟨by decide, by decide⟩ (ce45 w) dX6_sheet_82 (fun m82 => ?_)
            refine s_iconst (v := 0) G dX6_sheet_83 (by decide) ?_
            refine s_istore (lv2 := [some (.ref (w.1 36)), some (.int a1), none, none, some (.int 0)]) G dX6_sheet_84 (by decide) rfl rfl ?_
            refine s_loopG (lvf := fun z86 : Int32 × Mem => [some (.ref (w.1 36)), some (.int a1), none, none, some (.int z86.1)]) (Mf := fun z86 : Int32 × Mem => z86.2) (ex := (fun x86_112 : Mem => (112, [some (.ref (w.1 36)), some (.int a1), none, none, none], x86_112))) (el_one 112 (fun x86_112 : Mem => [some (.ref (w.1 36)), some (.int a1), none, none, none]) (fun x86_112 : Mem => x86_112) (fun x86_112 => ?_)) (fun z86 K86 hB86 hE86 => ?_)
            · refine s_aload_n G dX6_sheet_112 rfl ?_
              refine s_get (k := 36) (j := 16) G (.ref (w.1 45)) ⟨by decide, by decide⟩ (ce36 w) rfl clX6 (by decide) qw771 rfl dX6_sheet_113 ?_
              refine s_iload_n G dX6_sheet_116 rfl ?_
              refine s_iald (k := 45) (n := 4) G ⟨by decide, by decide⟩ (ce45 w) dX6_sheet_117 ?_
              exact s_iret G rfl rfl dX6_sheet_118
            · unfold f_X6_sheet_L86
              refine s_iload G dX6_sheet_86 rfl ?_
              refine s_bipush (v := 40) G dX6_sheet_88 (by decide) ?_
              refine s_icmp_ge (tgt := 112) G dX6_sheet_90 (by decide) ?_ ?_
              · refine s_keep [true, true, false, false, false] (lv2 := [some (.ref (w.1 36)), some (.int a1), none, none, none]) rfl ?_
                exact fun hx => hE86 z86.2 hx
              · refine s_aload_n G dX6_sheet_93 rfl ?_
                refine s_get (k := 36) (j := 17) G (.ref (w.1 46)) ⟨by decide, by decide⟩ (ce36 w) rfl clX6 (by decide) qw772 rfl dX6_sheet_94 ?_
                refine s_bipush (v := 40) G dX6_sheet_97 (by decide) ?_
                refine s_iload_n G dX6_sheet_99 rfl ?_
                refine s_imul G dX6_sheet_100 ?_
                refine s_iload G dX6_sheet_101 rfl ?_
                refine s_iadd G dX6_sheet_103 ?_
                refine s_lconst (v := 0) G dX6_sheet_104 (by decide) ?_
                refine s_last (k := 46) (n := 160) G ⟨by decide, by decide⟩ (ce46 w) dX6_sheet_105 (fun m105 => ?_)
                refine s_iinc (v := (z86.1 + 1)) (lv2 := [some (.ref (w.1 36)), some (.int a1), none, none, some (.int (z86.1 + 1))]) G dX6_sheet_106 rfl rfl (by decide) rfl rfl ?_
                refine s_goto (tgt := 86) G dX6_sheet_109 (by decide) ?_
                exact fun hx => hB86 ((z86.1 + 1), m105) hx
          · refine s_if_ne (tgt := 81) G dX6_sheet_74 (by decide) ?_ ?_
            · refine s_iconst (v := 0) G dX6_sheet_77 (by decide) ?_
              refine s_goto (tgt := 82) G dX6_sheet_78 (by decide) ?_
              refine s_keep [true, true, false, false, false] (lv2 := [some (.ref (w.1 36)), some (.int a1), none, none, none]) rfl ?_
              exact fun hx => hB74 0 hx
            · refine s_iload_n G dX6_sheet_81 rfl ?_
              refine s_keep [true, true, false, false, false] (lv2 := [some (.ref (w.1 36)), some (.int a1), none, none, none]) rfl ?_
              exact fun hx => hB74 a3 hx
        · refine s_aload_n G dX6_sheet_54 rfl ?_
          refine s_ldc (v := (-1000000001)) G dX6_sheet_55 qw824 ?_
          refine s_callVI (as := [.int (-1000000001)]) (st := []) (k := 36) G aw_self mdX6_finds (fun _ h => c_X6_finds w O l (-1000000001) M _ h) ⟨by decide, by decide⟩ (ce36 w) clX6 rfl qw825 rfl rfl (Nat.le_of_ble_eq_true rfl) (by decide) dX6_sheet_57 (fun r57 => ?_)
          exact s_iret G rfl rfl dX6_sheet_60
      · refine s_aload_n G dX6_sheet_40 rfl ?_
        refine s_ldcw (v := (-1000000007)) G dX6_sheet_41 qw1172 ?_
        refine s_callVI (as := [.int (-1000000007)]) (st := []) (k := 36) G aw_self mdX6_finds (fun _ h => c_X6_finds w O l (-1000000007) M _ h) ⟨by decide, by decide⟩ (ce36 w) clX6 rfl qw825 rfl rfl (Nat.le_of_ble_eq_true rfl) (by decide) dX6_sheet_44 (fun r44 => ?_)
        exact s_iret G rfl rfl dX6_sheet_47
    · refine s_iload_n G dX6_sheet_11 rfl ?_
      refine s_bipush (v := 8) G dX6_sheet_12 (by decide) ?_
      refine s_icmp_eq (tgt := 36) G dX6_sheet_14 (by decide) ?_ ?_
      · refine s_iload_n G dX6_sheet_36 rfl ?_
        refine s_if_ge (tgt := 48) G dX6_sheet_37 (by decide) ?_ ?_
        · refine s_iload_n G dX6_sheet_48 rfl ?_
          refine s_bipush (v := 40) G dX6_sheet_49 (by decide) ?_
          refine s_icmp_le (tgt := 61) G dX6_sheet_51 (by decide) ?_ ?_
          · refine s_aload_n G dX6_sheet_61 rfl ?_
            refine s_get (k := 36) (j := 15) G (.ref (w.1 44)) ⟨by decide, by decide⟩ (ce36 w) rfl clX6 (by decide) qw770 rfl dX6_sheet_62 ?_
            refine s_iload_n G dX6_sheet_65 rfl ?_
            refine s_iload_n G dX6_sheet_66 rfl ?_
            refine s_iast (k := 44) (n := 4) G ⟨by decide, by decide⟩ (ce44 w) dX6_sheet_67 (fun m67 => ?_)
            refine s_aload_n G dX6_sheet_68 rfl ?_
            refine s_get (k := 36) (j := 16) G (.ref (w.1 45)) ⟨by decide, by decide⟩ (ce36 w) rfl clX6 (by decide) qw771 rfl dX6_sheet_69 ?_
            refine s_iload_n G dX6_sheet_72 rfl ?_
            refine s_iload_n G dX6_sheet_73 rfl ?_
            refine s_join 82 (fun y74 : Int32 => [some (.ref (w.1 36)), some (.int a1), none, none, none]) (fun y74 => [.int y74, .int a1, .ref (w.1 45)]) (fun y74 => m67) (fun y74 => ?_) (fun K74 hB74 => ?_)
            · refine s_iast (k := 45) (n := 4) G ⟨by decide, by decide⟩ (ce45 w) dX6_sheet_82 (fun m82 => ?_)
              refine s_iconst (v := 0) G dX6_sheet_83 (by decide) ?_
              refine s_istore (lv2 := [some (.ref (w.1 36)), some (.int a1), none, none, some (.int 0)]) G dX6_sheet_84 (by decide) rfl rfl ?_
              refine s_loopG (lvf := fun z86 : Int32 × Mem => [some (.ref (w.1 36)), some (.int a1), none, none, some (.int z86.1)]) (Mf := fun z86 : Int32 × Mem => z86.2) (ex := (fun x86_112 : Mem => (112, [some (.ref (w.1 36)), some (.int a1), none, none, none], x86_112))) (el_one 112 (fun x86_112 : Mem => [some (.ref (w.1 36)), some (.int a1), none, none, none]) (fun x86_112 : Mem => x86_112) (fun x86_112 => ?_)) (fun z86 K86 hB86 hE86 => ?_)
              · refine s_aload_n G dX6_sheet_112 rfl ?_
                refine s_get (k := 36) (j := 16) G (.ref (w.1 45)) ⟨by decide, by decide⟩ (ce36 w) rfl clX6 (by decide) qw771 rfl dX6_sheet_113 ?_
                refine s_iload_n G dX6_sheet_116 rfl ?_
                refine s_iald (k := 45) (n := 4) G ⟨by decide, by decide⟩ (ce45 w) dX6_sheet_117 ?_
                exact s_iret G rfl rfl dX6_sheet_118
              · unfold f_X6_sheet_L86
                refine s_iload G dX6_sheet_86 rfl ?_
                refine s_bipush (v := 40) G dX6_sheet_88 (by decide) ?_
                refine s_icmp_ge (tgt := 112) G dX6_sheet_90 (by decide) ?_ ?_
                · refine s_keep [true, true, false, false, false] (lv2 := [some (.ref (w.1 36)), some (.int a1), none, none, none]) rfl ?_
                  exact fun hx => hE86 z86.2 hx
                · refine s_aload_n G dX6_sheet_93 rfl ?_
                  refine s_get (k := 36) (j := 17) G (.ref (w.1 46)) ⟨by decide, by decide⟩ (ce36 w) rfl clX6 (by decide) qw772 rfl dX6_sheet_94 ?_
                  refine s_bipush (v := 40) G dX6_sheet_97 (by decide) ?_
                  refine s_iload_n G dX6_sheet_99 rfl ?_
                  refine s_imul G dX6_sheet_100 ?_
                  refine s_iload G dX6_sheet_101 rfl ?_
                  refine s_iadd G dX6_sheet_103 ?_
                  refine s_lconst (v := 0) G dX6_sheet_104 (by decide) ?_
                  refine s_last (k := 46) (n := 160) G ⟨by decide, by decide⟩ (ce46 w) dX6_sheet_105 (fun m105 => ?_)
                  refine s_iinc (v := (z86.1 + 1)) (lv2 := [some (.ref (w.1 36)), some (.int a1), none, none, some (.int (z86.1 + 1))]) G dX6_sheet_106 rfl rfl (by decide) rfl rfl ?_
                  refine s_goto (tgt := 86) G dX6_sheet_109 (by decide) ?_
                  exact fun hx => hB86 ((z86.1 + 1), m105) hx
            · refine s_if_ne (tgt := 81) G dX6_sheet_74 (by decide) ?_ ?_
              · refine s_iconst (v := 0) G dX6_sheet_77 (by decide) ?_
                refine s_goto (tgt := 82) G dX6_sheet_78 (by decide) ?_
                refine s_keep [true, true, false, false, false] (lv2 := [some (.ref (w.1 36)), some (.int a1), none, none, none]) rfl ?_
                exact fun hx => hB74 0 hx
              · refine s_iload_n G dX6_sheet_81 rfl ?_
                refine s_keep [true, true, false, false, false] (lv2 := [some (.ref (w.1 36)), some (.int a1), none, none, none]) rfl ?_
                exact fun hx => hB74 a3 hx
          · refine s_aload_n G dX6_sheet_54 rfl ?_
            refine s_ldc (v := (-1000000001)) G dX6_sheet_55 qw824 ?_
            refine s_callVI (as := [.int (-1000000001)]) (st := []) (k := 36) G aw_self mdX6_finds (fun _ h => c_X6_finds w O l (-1000000001) M _ h) ⟨by decide, by decide⟩ (ce36 w) clX6 rfl qw825 rfl rfl (Nat.le_of_ble_eq_true rfl) (by decide) dX6_sheet_57 (fun r57 => ?_)
            exact s_iret G rfl rfl dX6_sheet_60
        · refine s_aload_n G dX6_sheet_40 rfl ?_
          refine s_ldcw (v := (-1000000007)) G dX6_sheet_41 qw1172 ?_
          refine s_callVI (as := [.int (-1000000007)]) (st := []) (k := 36) G aw_self mdX6_finds (fun _ h => c_X6_finds w O l (-1000000007) M _ h) ⟨by decide, by decide⟩ (ce36 w) clX6 rfl qw825 rfl rfl (Nat.le_of_ble_eq_true rfl) (by decide) dX6_sheet_44 (fun r44 => ?_)
          exact s_iret G rfl rfl dX6_sheet_47
      · refine s_iload_n G dX6_sheet_17 rfl ?_
        refine s_bipush (v := 16) G dX6_sheet_18 (by decide) ?_
        refine s_icmp_eq (tgt := 36) G dX6_sheet_20 (by decide) ?_ ?_
        · refine s_iload_n G dX6_sheet_36 rfl ?_
          refine s_if_ge (tgt := 48) G dX6_sheet_37 (by decide) ?_ ?_
          · refine s_iload_n G dX6_sheet_48 rfl ?_
            refine s_bipush (v := 40) G dX6_sheet_49 (by decide) ?_
            refine s_icmp_le (tgt := 61) G dX6_sheet_51 (by decide) ?_ ?_
            · refine s_aload_n G dX6_sheet_61 rfl ?_
              refine s_get (k := 36) (j := 15) G (.ref (w.1 44)) ⟨by decide, by decide⟩ (ce36 w) rfl clX6 (by decide) qw770 rfl dX6_sheet_62 ?_
              refine s_iload_n G dX6_sheet_65 rfl ?_
              refine s_iload_n G dX6_sheet_66 rfl ?_
              refine s_iast (k := 44) (n := 4) G ⟨by decide, by decide⟩ (ce44 w) dX6_sheet_67 (fun m67 => ?_)
              refine s_aload_n G dX6_sheet_68 rfl ?_
              refine s_get (k := 36) (j := 16) G (.ref (w.1 45)) ⟨by decide, by decide⟩ (ce36 w) rfl clX6 (by decide) qw771 rfl dX6_sheet_69 ?_
              refine s_iload_n G dX6_sheet_72 rfl ?_
              refine s_iload_n G dX6_sheet_73 rfl ?_
              refine s_join 82 (fun y74 : Int32 => [some (.ref (w.1 36)), some (.int a1), none, none, none]) (fun y74 => [.int y74, .int a1, .ref (w.1 45)]) (fun y74 => m67) (fun y74 => ?_) (fun K74 hB74 => ?_)
              · refine s_iast (k := 45) (n := 4) G ⟨by decide, by decide⟩ (ce45 w) dX6_sheet_82 (fun m82 => ?_)
                refine s_iconst (v := 0) G dX6_sheet_83 (by decide) ?_
                refine s_istore (lv2 := [some (.ref (w.1 36)), some (.int a1), none, none, some (.int 0)]) G dX6_sheet_84 (by decide) rfl rfl ?_
                refine s_loopG (lvf := fun z86 : Int32 × Mem => [some (.ref (w.1 36)), some (.int a1), none, none, some (.int z86.1)]) (Mf := fun z86 : Int32 × Mem => z86.2) (ex := (fun x86_112 : Mem => (112, [some (.ref (w.1 36)), some (.int a1), none, none, none], x86_112))) (el_one 112 (fun x86_112 : Mem => [some (.ref (w.1 36)), some (.int a1), none, none, none]) (fun x86_112 : Mem => x86_112) (fun x86_112 => ?_)) (fun z86 K86 hB86 hE86 => ?_)
                · refine s_aload_n G dX6_sheet_112 rfl ?_
                  refine s_get (k := 36) (j := 16) G (.ref (w.1 45)) ⟨by decide, by decide⟩ (ce36 w) rfl clX6 (by decide) qw771 rfl dX6_sheet_113 ?_
                  refine s_iload_n G dX6_sheet_116 rfl ?_
                  refine s_iald (k := 45) (n := 4) G ⟨by decide, by decide⟩ (ce45 w) dX6_sheet_117 ?_
                  exact s_iret G rfl rfl dX6_sheet_118
                · unfold f_X6_sheet_L86
                  refine s_iload G dX6_sheet_86 rfl ?_
                  refine s_bipush (v := 40) G dX6_sheet_88 (by decide) ?_
                  refine s_icmp_ge (tgt := 112) G dX6_sheet_90 (by decide) ?_ ?_
                  · refine s_keep [true, true, false, false, false] (lv2 := [some (.ref (w.1 36)), some (.int a1), none, none, none]) rfl ?_
                    exact fun hx => hE86 z86.2 hx
                  · refine s_aload_n G dX6_sheet_93 rfl ?_
                    refine s_get (k := 36) (j := 17) G (.ref (w.1 46)) ⟨by decide, by decide⟩ (ce36 w) rfl clX6 (by decide) qw772 rfl dX6_sheet_94 ?_
                    refine s_bipush (v := 40) G dX6_sheet_97 (by decide) ?_
                    refine s_iload_n G dX6_sheet_99 rfl ?_
                    refine s_imul G dX6_sheet_100 ?_
                    refine s_iload G dX6_sheet_101 rfl ?_
                    refine s_iadd G dX6_sheet_103 ?_
                    refine s_lconst (v := 0) G dX6_sheet_104 (by decide) ?_
                    refine s_last (k := 46) (n := 160) G ⟨by decide, by decide⟩ (ce46 w) dX6_sheet_105 (fun m105 => ?_)
                    refine s_iinc (v := (z86.1 + 1)) (lv2 := [some (.ref (w.1 36)), some (.int a1), none, none, some (.int (z86.1 + 1))]) G dX6_sheet_106 rfl rfl (by decide) rfl rfl ?_
                    refine s_goto (tgt := 86) G dX6_sheet_109 (by decide) ?_
                    exact fun hx => hB86 ((z86.1 + 1), m105) hx
              · refine s_if_ne (tgt := 81) G dX6_sheet_74 (by decide) ?_ ?_
                · refine s_iconst (v := 0) G dX6_sheet_77 (by decide) ?_
                  refine s_goto (tgt := 82) G dX6_sheet_78 (by decide) ?_
                  refine s_keep [true, true, false, false, false] (lv2 := [some (.ref (w.1 36)), some (.int a1), none, none, none]) rfl ?_
                  exact fun hx => hB74 0 hx
                · refine s_iload_n G dX6_sheet_81 rfl ?_
                  refine s_keep [true, true, false, false, false] (lv2 := [some (.ref (w.1 36)), some (.int a1), none, none, none]) rfl ?_
                  exact fun hx => hB74 a3 hx
            · refine s_aload_n G dX6_sheet_54 rfl ?_
              refine s_ldc (v := (-1000000001)) G dX6_sheet_55 qw824 ?_
              refine s_callVI (as := [.int (-1000000001)]) (st := []) (k := 36) G aw_self mdX6_finds (fun _ h => c_X6_finds w O l (-1000000001) M _ h) ⟨by decide, by decide⟩ (ce36 w) clX6 rfl qw825 rfl rfl (Nat.le_of_ble_eq_true rfl) (by decide) dX6_sheet_57 (fun r57 => ?_)
              exact s_iret G rfl rfl dX6_sheet_60
          · refine s_aload_n G dX6_sheet_40 rfl ?_
            refine s_ldcw (v := (-1000000007)) G dX6_sheet_41 qw1172 ?_
            refine s_callVI (as := [.int (-1000000007)]) (st := []) (k := 36) G aw_self mdX6_finds (fun _ h => c_X6_finds w O l (-1000000007) M _ h) ⟨by decide, by decide⟩ (ce36 w) clX6 rfl qw825 rfl rfl (Nat.le_of_ble_eq_true rfl) (by decide) dX6_sheet_44 (fun r44 => ?_)
            exact s_iret G rfl rfl dX6_sheet_47
        · refine s_iload_n G dX6_sheet_23 rfl ?_
          refine s_bipush (v := 64) G dX6_sheet_24 (by decide) ?_
          refine s_icmp_eq (tgt := 36) G dX6_sheet_26 (by decide) ?_ ?_
          · refine s_iload_n G dX6_sheet_36 rfl ?_
            refine s_if_ge (tgt := 48) G dX6_sheet_37 (by decide) ?_ ?_
            · refine s_iload_n G dX6_sheet_48 rfl ?_
              refine s_bipush (v := 40) G dX6_sheet_49 (by decide) ?_
              refine s_icmp_le (tgt := 61) G dX6_sheet_51 (by decide) ?_ ?_
              · refine s_aload_n G dX6_sheet_61 rfl ?_
                refine s_get (k := 36) (j := 15) G (.ref (w.1 44)) ⟨by decide, by decide⟩ (ce36 w) rfl clX6 (by decide) qw770 rfl dX6_sheet_62 ?_
                refine s_iload_n G dX6_sheet_65 rfl ?_
                refine s_iload_n G dX6_sheet_66 rfl ?_
                refine s_iast (k := 44) (n := 4) G ⟨by decide, by decide⟩ (ce44 w) dX6_sheet_67 (fun m67 => ?_)
                refine s_aload_n G dX6_sheet_68 rfl ?_
                refine s_get (k := 36) (j := 16) G (.ref (w.1 45)) ⟨by decide, by decide⟩ (ce36 w) rfl clX6 (by decide) qw771 rfl dX6_sheet_69 ?_
                refine s_iload_n G dX6_sheet_72 rfl ?_
                refine s_iload_n G dX6_sheet_73 rfl ?_
                refine s_join 82 (fun y74 : Int32 => [some (.ref (w.1 36)), some (.int a1), none, none, none]) (fun y74 => [.int y74, .int a1, .ref (w.1 45)]) (fun y74 => m67) (fun y74 => ?_) (fun K74 hB74 => ?_)
                · refine s_iast (k := 45) (n := 4) G ⟨by decide, by decide⟩ (ce45 w) dX6_sheet_82 (fun m82 => ?_)
                  refine s_iconst (v := 0) G dX6_sheet_83 (by decide) ?_
                  refine s_istore (lv2 := [some (.ref (w.1 36)), some (.int a1), none, none, some (.int 0)]) G dX6_sheet_84 (by decide) rfl rfl ?_
                  refine s_loopG (lvf := fun z86 : Int32 × Mem => [some (.ref (w.1 36)), some (.int a1), none, none, some (.int z86.1)]) (Mf := fun z86 : Int32 × Mem => z86.2) (ex := (fun x86_112 : Mem => (112, [some (.ref (w.1 36)), some (.int a1), none, none, none], x86_112))) (el_one 112 (fun x86_112 : Mem => [some (.ref (w.1 36)), some (.int a1), none, none, none]) (fun x86_112 : Mem => x86_112) (fun x86_112 => ?_)) (fun z86 K86 hB86 hE86 => ?_)
                  · refine s_aload_n G dX6_sheet_112 rfl ?_
                    refine s_get (k := 36) (j := 16) G (.ref (w.1 45)) ⟨by decide, by decide⟩ (ce36 w) rfl clX6 (by decide) qw771 rfl dX6_sheet_113 ?_
                    refine s_iload_n G dX6_sheet_116 rfl ?_
                    refine s_iald (k := 45) (n := 4) G ⟨by decide, by decide⟩ (ce45 w) dX6_sheet_117 ?_
                    exact s_iret G rfl rfl dX6_sheet_118
                  · unfold f_X6_sheet_L86
                    refine s_iload G dX6_sheet_86 rfl ?_
                    refine s_bipush (v := 40) G dX6_sheet_88 (by decide) ?_
                    refine s_icmp_ge (tgt := 112) G dX6_sheet_90 (by decide) ?_ ?_
                    · refine s_keep [true, true, false, false, false] (lv2 := [some (.ref (w.1 36)), some (.int a1), none, none, none]) rfl ?_
                      exact fun hx => hE86 z86.2 hx
                    · refine s_aload_n G dX6_sheet_93 rfl ?_
                      refine s_get (k := 36) (j := 17) G (.ref (w.1 46)) ⟨by decide, by decide⟩ (ce36 w) rfl clX6 (by decide) qw772 rfl dX6_sheet_94 ?_
                      refine s_bipush (v := 40) G dX6_sheet_97 (by decide) ?_
                      refine s_iload_n G dX6_sheet_99 rfl ?_
                      refine s_imul G dX6_sheet_100 ?_
                      refine s_iload G dX6_sheet_101 rfl ?_
                      refine s_iadd G dX6_sheet_103 ?_
                      refine s_lconst (v := 0) G dX6_sheet_104 (by decide) ?_
                      refine s_last (k := 46) (n := 160) G ⟨by decide, by decide⟩ (ce46 w) dX6_sheet_105 (fun m105 => ?_)
                      refine s_iinc (v := (z86.1 + 1)) (lv2 := [some (.ref (w.1 36)), some (.int a1), none, none, some (.int (z86.1 + 1))]) G dX6_sheet_106 rfl rfl (by decide) rfl rfl ?_
                      refine s_goto (tgt := 86) G dX6_sheet_109 (by decide) ?_
                      exact fun hx => hB86 ((z86.1 + 1), m105) hx
                · refine s_if_ne (tgt := 81) G dX6_sheet_74 (by decide) ?_ ?_
                  · refine s_iconst (v := 0) G dX6_sheet_77 (by decide) ?_
                    refine s_goto (tgt := 82) G dX6_sheet_78 (by decide) ?_
                    refine s_keep [true, true, false, false, false] (lv2 := [some (.ref (w.1 36)), some (.int a1), none, none, none]) rfl ?_
                    exact fun hx => hB74 0 hx
                  · refine s_iload_n G dX6_sheet_81 rfl ?_
                    refine s_keep [true, true, false, false, false] (lv2 := [some (.ref (w.1 36)), some (.int a1), none, none, none]) rfl ?_
                    exact fun hx => hB74 a3 hx
              · refine s_aload_n G dX6_sheet_54 rfl ?_
                refine s_ldc (v := (-1000000001)) G dX6_sheet_55 qw824 ?_
                refine s_callVI (as := [.int (-1000000001)]) (st := []) (k := 36) G aw_self mdX6_finds (fun _ h => c_X6_finds w O l (-1000000001) M _ h) ⟨by decide, by decide⟩ (ce36 w) clX6 rfl qw825 rfl rfl (Nat.le_of_ble_eq_true rfl) (by decide) dX6_sheet_57 (fun r57 => ?_)
                exact s_iret G rfl rfl dX6_sheet_60
            · refine s_aload_n G dX6_sheet_40 rfl ?_
              refine s_ldcw (v := (-1000000007)) G dX6_sheet_41 qw1172 ?_
              refine s_callVI (as := [.int (-1000000007)]) (st := []) (k := 36) G aw_self mdX6_finds (fun _ h => c_X6_finds w O l (-1000000007) M _ h) ⟨by decide, by decide⟩ (ce36 w) clX6 rfl qw825 rfl rfl (Nat.le_of_ble_eq_true rfl) (by decide) dX6_sheet_44 (fun r44 => ?_)
              exact s_iret G rfl rfl dX6_sheet_47
          · refine s_aload_n G dX6_sheet_29 rfl ?_
            refine s_ldc (v := (-1000000001)) G dX6_sheet_30 qw824 ?_
            refine s_callVI (as := [.int (-1000000001)]) (st := []) (k := 36) G aw_self mdX6_finds (fun _ h => c_X6_finds w O l (-1000000001) M _ h) ⟨by decide, by decide⟩ (ce36 w) clX6 rfl qw825 rfl rfl (Nat.le_of_ble_eq_true rfl) (by decide) dX6_sheet_32 (fun r32 => ?_)
            exact s_iret G rfl rfl dX6_sheet_35

set_option maxRecDepth 100000 in
set_option maxHeartbeats 4000000 in
theorem c_X6_narrowed (w : Wx) (O : Mem) (l : Launch) (a0 : Int32) (a1 : Int64) (M : Mem)  (z : Int64) (hz : f_X6_narrowed a0 a1 = some z) : Ct w 36 48 O l 0 muX6_narrowed [.int a0, .long a1] M (some (.long z), M) := by
  refine ct_of (X := f_X6_narrowed a0 a1) (K := fun v => some (some (.long v), M)) [some (.int a0), some (.long a1), none] rfl rfl (Nat.le_of_ble_eq_true rfl) (by rw [hz]; rfl) ?_
  intro p e s m args below meth c G
  unfold f_X6_narrowed
  refine s_iload_n G dX6_narrowed_0 rfl ?_
  refine s_bipush (v := 8) G dX6_narrowed_1 (by decide) ?_
  refine s_join 27 (fun y3 : Int64 => [none, none, none]) (fun y3 => [.long y3]) (fun y3 => M) (fun y3 => ?_) (fun K3 hB3 => ?_)
  · exact s_lret G rfl rfl dX6_narrowed_27
  · refine s_icmp_ne (tgt := 13) G dX6_narrowed_3 (by decide) ?_ ?_
    · refine s_lload_n G dX6_narrowed_6 rfl ?_
      refine s_l2i G dX6_narrowed_7 ?_
      refine s_i2b G dX6_narrowed_8 ?_
      refine s_i2l G dX6_narrowed_9 ?_
      refine s_goto (tgt := 27) G dX6_narrowed_10 (by decide) ?_
      refine s_keep [false, false, false] (lv2 := [none, none, none]) rfl ?_
      exact fun hx => hB3 a1.toInt32.toInt8.toInt32.toInt64 hx
    · refine s_iload_n G dX6_narrowed_13 rfl ?_
      refine s_bipush (v := 16) G dX6_narrowed_14 (by decide) ?_
      refine s_icmp_ne (tgt := 26) G dX6_narrowed_16 (by decide) ?_ ?_
      · refine s_lload_n G dX6_narrowed_19 rfl ?_
        refine s_l2i G dX6_narrowed_20 ?_
        refine s_i2s G dX6_narrowed_21 ?_
        refine s_i2l G dX6_narrowed_22 ?_
        refine s_goto (tgt := 27) G dX6_narrowed_23 (by decide) ?_
        refine s_keep [false, false, false] (lv2 := [none, none, none]) rfl ?_
        exact fun hx => hB3 a1.toInt32.toInt16.toInt32.toInt64 hx
      · refine s_lload_n G dX6_narrowed_26 rfl ?_
        refine s_keep [false, false, false] (lv2 := [none, none, none]) rfl ?_
        exact fun hx => hB3 a1 hx

set_option maxRecDepth 100000 in
set_option maxHeartbeats 4000000 in
theorem c_X6_wrongSheet (w : Wx) (O : Mem) (l : Launch) (a1 : Int32) (M : Mem)  (z : Int32) (hz : f_X6_wrongSheet a1 M = some z) : Ct w 36 48 O l 2 muX6_wrongSheet [.ref (w.1 36), .int a1] M (some (.int z), M) := by
  refine ct_of (X := f_X6_wrongSheet a1 M) (K := fun v => some (some (.int v), M)) [some (.ref (w.1 36)), some (.int a1)] rfl rfl (Nat.le_of_ble_eq_true rfl) (by rw [hz]; rfl) ?_
  intro p e s m args below meth c G
  unfold f_X6_wrongSheet
  refine s_iload_n G dX6_wrongSheet_0 rfl ?_
  refine s_callSi (as := [.int a1]) (st := []) G aw_self mdX6_isOne (fun _ h => c_X6_isOne w O l a1 M _ h) qw1168 rfl rfl (Nat.le_of_ble_eq_true rfl) (by decide) dX6_wrongSheet_1 (fun r1 => ?_)
  refine s_join 28 (fun y4 : Int32 => [none, none]) (fun y4 => [.int y4]) (fun y4 => M) (fun y4 => ?_) (fun K4 hB4 => ?_)
  · exact s_iret G rfl rfl dX6_wrongSheet_28
  · refine s_if_ne (tgt := 12) G dX6_wrongSheet_4 (by decide) ?_ ?_
    · refine s_ldc (v := (-1000000001)) G dX6_wrongSheet_7 qw824 ?_
      refine s_goto (tgt := 28) G dX6_wrongSheet_9 (by decide) ?_
      refine s_keep [false, false] (lv2 := [none, none]) rfl ?_
      exact fun hx => hB4 (-1000000001) hx
    · refine s_aload_n G dX6_wrongSheet_12 rfl ?_
      refine s_get (k := 36) (j := 15) G (.ref (w.1 44)) ⟨by decide, by decide⟩ (ce36 w) rfl clX6 (by decide) qw770 rfl dX6_wrongSheet_13 ?_
      refine s_iload_n G dX6_wrongSheet_16 rfl ?_
      refine s_iald (k := 44) (n := 4) G ⟨by decide, by decide⟩ (ce44 w) dX6_wrongSheet_17 ?_
      refine s_if_ne (tgt := 27) G dX6_wrongSheet_18 (by decide) ?_ ?_
      · refine s_ldcw (v := (-1000000006)) G dX6_wrongSheet_21 qw1181 ?_
        refine s_goto (tgt := 28) G dX6_wrongSheet_24 (by decide) ?_
        refine s_keep [false, false] (lv2 := [none, none]) rfl ?_
        exact fun hx => hB4 (-1000000006) hx
      · refine s_iconst (v := 0) G dX6_wrongSheet_27 (by decide) ?_
        refine s_keep [false, false] (lv2 := [none, none]) rfl ?_
        exact fun hx => hB4 0 hx

set_option maxRecDepth 100000 in
set_option maxHeartbeats 4000000 in
theorem c_X6_write (w : Wx) (O : Mem) (l : Launch) (a1 : Int32) (a2 : Int32) (a3 : Int64) (M : Mem)  (z : Int64 × Mem) (hz : f_X6_write a1 a2 a3 M = some z) : Ct w 36 48 O l 3 muX6_write [.ref (w.1 36), .int a1, .int a2, .long a3] M (some (.long z.1), z.2) := by
  refine ct_of (X := f_X6_write a1 a2 a3 M) (K := fun v => some (some (.long v.1), v.2)) [some (.ref (w.1 36)), some (.int a1), some (.int a2), some (.long a3), none, none, none, none] rfl rfl (Nat.le_of_ble_eq_true rfl) (by rw [hz]; rfl) ?_
  intro p e s m args below meth c G
  unfold f_X6_write
  refine s_aload_n G dX6_write_0 rfl ?_
  refine s_iload_n G dX6_write_1 rfl ?_
  refine s_callVi (as := [.int a1]) (st := []) (k := 36) G aw_self mdX6_wrongSheet (fun _ h => c_X6_wrongSheet w O l a1 M _ h) ⟨by decide, by decide⟩ (ce36 w) clX6 rfl qw1177 rfl rfl (Nat.le_of_ble_eq_true rfl) (by decide) dX6_write_2 (fun r2 => ?_)
  refine s_istore (lv2 := [some (.ref (w.1 36)), some (.int a1), some (.int a2), some (.long a3), none, some (.int r2), none, none]) G dX6_write_5 (by decide) rfl rfl ?_
  refine s_iload G dX6_write_7 rfl ?_
  refine s_if_eq (tgt := 20) G dX6_write_9 (by decide) ?_ ?_
  · refine s_iload_n G dX6_write_20 rfl ?_
    refine s_i2l G dX6_write_21 ?_
    refine s_lconst (v := 0) G dX6_write_22 (by decide) ?_
    refine s_aload_n G dX6_write_23 rfl ?_
    refine s_get (k := 36) (j := 16) G (.ref (w.1 45)) ⟨by decide, by decide⟩ (ce36 w) rfl clX6 (by decide) qw771 rfl dX6_write_24 ?_
    refine s_iload_n G dX6_write_27 rfl ?_
    refine s_iald (k := 45) (n := 4) G ⟨by decide, by decide⟩ (ce45 w) dX6_write_28 ?_
    refine s_iconst (v := 1) G dX6_write_29 (by decide) ?_
    refine s_isub G dX6_write_30 ?_
    refine s_i2l G dX6_write_31 ?_
    refine s_callSi (as := [.long a2.toInt64, .long 0, .long ((gI M 45 a1.toNatClampNeg) - 1).toInt64]) (st := []) G aw_self mdX6_in (fun _ h => c_X6_in w O l a2.toInt64 0 ((gI M 45 a1.toNatClampNeg) - 1).toInt64 M _ h) qw821 rfl rfl (Nat.le_of_ble_eq_true rfl) (by decide) dX6_write_32 (fun r32 => ?_)
    refine s_if_ne (tgt := 46) G dX6_write_35 (by decide) ?_ ?_
    · refine s_aload_n G dX6_write_38 rfl ?_
      refine s_ldc (v := (-1000000001)) G dX6_write_39 qw824 ?_
      refine s_callVI (as := [.int (-1000000001)]) (st := []) (k := 36) G aw_self mdX6_finds (fun _ h => c_X6_finds w O l (-1000000001) M _ h) ⟨by decide, by decide⟩ (ce36 w) clX6 rfl qw825 rfl rfl (Nat.le_of_ble_eq_true rfl) (by decide) dX6_write_41 (fun r41 => ?_)
      refine s_i2l G dX6_write_44 ?_
      exact s_lret G rfl rfl dX6_write_45
    · refine s_aload_n G dX6_write_46 rfl ?_
      refine s_get (k := 36) (j := 17) G (.ref (w.1 46)) ⟨by decide, by decide⟩ (ce36 w) rfl clX6 (by decide) qw772 rfl dX6_write_47 ?_
      refine s_bipush (v := 40) G dX6_write_50 (by decide) ?_
      refine s_iload_n G dX6_write_52 rfl ?_
      refine s_imul G dX6_write_53 ?_
      refine s_iload_n G dX6_write_54 rfl ?_
      refine s_iadd G dX6_write_55 ?_
      refine s_lald (k := 46) (n := 160) G ⟨by decide, by decide⟩ (ce46 w) dX6_write_56 ?_
      refine s_name (f := Value.long) (fun v57 => ?_)
      refine s_lstore (lv2 := [some (.ref (w.1 36)), some (.int a1), some (.int a2), some (.long a3), none, some (.int r2), some (.long v57), none]) G dX6_write_57 (by decide) rfl rfl ?_
      refine s_aload_n G dX6_write_59 rfl ?_
      refine s_get (k := 36) (j := 17) G (.ref (w.1 46)) ⟨by decide, by decide⟩ (ce36 w) rfl clX6 (by decide) qw772 rfl dX6_write_60 ?_
      refine s_bipush (v := 40) G dX6_write_63 (by decide) ?_
      refine s_iload_n G dX6_write_65 rfl ?_
      refine s_imul G dX6_write_66 ?_
      refine s_iload_n G dX6_write_67 rfl ?_
      refine s_iadd G dX6_write_68 ?_
      refine s_aload_n G dX6_write_69 rfl ?_
      refine s_get (k := 36) (j := 15) G (.ref (w.1 44)) ⟨by decide, by decide⟩ (ce36 w) rfl clX6 (by decide) qw770 rfl dX6_write_70 ?_
      refine s_iload_n G dX6_write_73 rfl ?_
      refine s_iald (k := 44) (n := 4) G ⟨by decide, by decide⟩ (ce44 w) dX6_write_74 ?_
      refine s_lload_n G dX6_write_75 rfl ?_
      refine s_callSl (as := [.int (gI M 44 a1.toNatClampNeg), .long a3]) (st := [.int ((40 * a1) + a2), .ref (w.1 46)]) G aw_self mdX6_narrowed (fun _ h => c_X6_narrowed w O l (gI M 44 a1.toNatClampNeg) a3 M _ h) qw1182 rfl rfl (Nat.le_of_ble_eq_true rfl) (by decide) dX6_write_76 (fun r76 => ?_)
      refine s_last (k := 46) (n := 160) G ⟨by decide, by decide⟩ (ce46 w) dX6_write_79 (fun m79 => ?_)
      refine s_lload G dX6_write_80 rfl ?_
      exact s_lret G rfl rfl dX6_write_82
  · refine s_aload_n G dX6_write_12 rfl ?_
    refine s_iload G dX6_write_13 rfl ?_
    refine s_callVI (as := [.int r2]) (st := []) (k := 36) G aw_self mdX6_finds (fun _ h => c_X6_finds w O l r2 M _ h) ⟨by decide, by decide⟩ (ce36 w) clX6 rfl qw825 rfl rfl (Nat.le_of_ble_eq_true rfl) (by decide) dX6_write_15 (fun r15 => ?_)
    refine s_i2l G dX6_write_18 ?_
    exact s_lret G rfl rfl dX6_write_19

set_option maxRecDepth 100000 in
set_option maxHeartbeats 4000000 in
theorem c_X6_copy (w : Wx) (O : Mem) (l : Launch) (a1 : Int32) (a2 : Int32) (a3 : Int32) (a4 : Int32) (a5 : Int32) (M : Mem)  (z : Int32 × Mem) (hz : f_X6_copy a1 a2 a3 a4 a5 M = some z) : Ct w 36 48 O l 2 muX6_copy [.ref (w.1 36), .int a1, .int a2, .int a3, .int a4, .int a5] M (some (.int z.1), z.2) := by
  refine ct_of (X := f_X6_copy a1 a2 a3 a4 a5 M) (K := fun v => some (some (.int v.1), v.2)) [some (.ref (w.1 36)), some (.int a1), some (.int a2), some (.int a3), some (.int a4), some (.int a5), none] rfl rfl (Nat.le_of_ble_eq_true rfl) (by rw [hz]; rfl) ?_
  intro p e s m args below meth c G
  unfold f_X6_copy
  refine s_iload_n G dX6_copy_0 rfl ?_
  refine s_callSi (as := [.int a1]) (st := []) G aw_self mdX6_isOne (fun _ h => c_X6_isOne w O l a1 M _ h) qw1168 rfl rfl (Nat.le_of_ble_eq_true rfl) (by decide) dX6_copy_1 (fun r1 => ?_)
  refine s_if_eq (tgt := 14) G dX6_copy_4 (by decide) ?_ ?_
  · refine s_aload_n G dX6_copy_14 rfl ?_
    refine s_ldc (v := (-1000000001)) G dX6_copy_15 qw824 ?_
    refine s_callVI (as := [.int (-1000000001)]) (st := []) (k := 36) G aw_self mdX6_finds (fun _ h => c_X6_finds w O l (-1000000001) M _ h) ⟨by decide, by decide⟩ (ce36 w) clX6 rfl qw825 rfl rfl (Nat.le_of_ble_eq_true rfl) (by decide) dX6_copy_17 (fun r17 => ?_)
    exact s_iret G rfl rfl dX6_copy_20
  · refine s_iload_n G dX6_copy_7 rfl ?_
    refine s_callSi (as := [.int a3]) (st := []) G aw_self mdX6_isOne (fun _ h => c_X6_isOne w O l a3 M _ h) qw1168 rfl rfl (Nat.le_of_ble_eq_true rfl) (by decide) dX6_copy_8 (fun r8 => ?_)
    refine s_if_ne (tgt := 21) G dX6_copy_11 (by decide) ?_ ?_
    · refine s_aload_n G dX6_copy_14 rfl ?_
      refine s_ldc (v := (-1000000001)) G dX6_copy_15 qw824 ?_
      refine s_callVI (as := [.int (-1000000001)]) (st := []) (k := 36) G aw_self mdX6_finds (fun _ h => c_X6_finds w O l (-1000000001) M _ h) ⟨by decide, by decide⟩ (ce36 w) clX6 rfl qw825 rfl rfl (Nat.le_of_ble_eq_true rfl) (by decide) dX6_copy_17 (fun r17 => ?_)
      exact s_iret G rfl rfl dX6_copy_20
    · refine s_aload_n G dX6_copy_21 rfl ?_
      refine s_get (k := 36) (j := 15) G (.ref (w.1 44)) ⟨by decide, by decide⟩ (ce36 w) rfl clX6 (by decide) qw770 rfl dX6_copy_22 ?_
      refine s_iload_n G dX6_copy_25 rfl ?_
      refine s_iald (k := 44) (n := 4) G ⟨by decide, by decide⟩ (ce44 w) dX6_copy_26 ?_
      refine s_if_eq (tgt := 39) G dX6_copy_27 (by decide) ?_ ?_
      · refine s_aload_n G dX6_copy_39 rfl ?_
        refine s_ldcw (v := (-1000000006)) G dX6_copy_40 qw1181 ?_
        refine s_callVI (as := [.int (-1000000006)]) (st := []) (k := 36) G aw_self mdX6_finds (fun _ h => c_X6_finds w O l (-1000000006) M _ h) ⟨by decide, by decide⟩ (ce36 w) clX6 rfl qw825 rfl rfl (Nat.le_of_ble_eq_true rfl) (by decide) dX6_copy_43 (fun r43 => ?_)
        exact s_iret G rfl rfl dX6_copy_46
      · refine s_aload_n G dX6_copy_30 rfl ?_
        refine s_get (k := 36) (j := 15) G (.ref (w.1 44)) ⟨by decide, by decide⟩ (ce36 w) rfl clX6 (by decide) qw770 rfl dX6_copy_31 ?_
        refine s_iload_n G dX6_copy_34 rfl ?_
        refine s_iald (k := 44) (n := 4) G ⟨by decide, by decide⟩ (ce44 w) dX6_copy_35 ?_
        refine s_if_ne (tgt := 47) G dX6_copy_36 (by decide) ?_ ?_
        · refine s_aload_n G dX6_copy_39 rfl ?_
          refine s_ldcw (v := (-1000000006)) G dX6_copy_40 qw1181 ?_
          refine s_callVI (as := [.int (-1000000006)]) (st := []) (k := 36) G aw_self mdX6_finds (fun _ h => c_X6_finds w O l (-1000000006) M _ h) ⟨by decide, by decide⟩ (ce36 w) clX6 rfl qw825 rfl rfl (Nat.le_of_ble_eq_true rfl) (by decide) dX6_copy_43 (fun r43 => ?_)
          exact s_iret G rfl rfl dX6_copy_46
        · refine s_aload_n G dX6_copy_47 rfl ?_
          refine s_get (k := 36) (j := 15) G (.ref (w.1 44)) ⟨by decide, by decide⟩ (ce36 w) rfl clX6 (by decide) qw770 rfl dX6_copy_48 ?_
          refine s_iload_n G dX6_copy_51 rfl ?_
          refine s_iald (k := 44) (n := 4) G ⟨by decide, by decide⟩ (ce44 w) dX6_copy_52 ?_
          refine s_aload_n G dX6_copy_53 rfl ?_
          refine s_get (k := 36) (j := 15) G (.ref (w.1 44)) ⟨by decide, by decide⟩ (ce36 w) rfl clX6 (by decide) qw770 rfl dX6_copy_54 ?_
          refine s_iload_n G dX6_copy_57 rfl ?_
          refine s_iald (k := 44) (n := 4) G ⟨by decide, by decide⟩ (ce44 w) dX6_copy_58 ?_
          refine s_icmp_eq (tgt := 69) G dX6_copy_59 (by decide) ?_ ?_
          · refine s_iload_n G dX6_copy_69 rfl ?_
            refine s_if_lt (tgt := 110) G dX6_copy_70 (by decide) ?_ ?_
            · refine s_aload_n G dX6_copy_110 rfl ?_
              refine s_ldc (v := (-1000000001)) G dX6_copy_111 qw824 ?_
              refine s_callVI (as := [.int (-1000000001)]) (st := []) (k := 36) G aw_self mdX6_finds (fun _ h => c_X6_finds w O l (-1000000001) M _ h) ⟨by decide, by decide⟩ (ce36 w) clX6 rfl qw825 rfl rfl (Nat.le_of_ble_eq_true rfl) (by decide) dX6_copy_113 (fun r113 => ?_)
              exact s_iret G rfl rfl dX6_copy_116
            · refine s_iload G dX6_copy_73 rfl ?_
              refine s_if_lt (tgt := 110) G dX6_copy_75 (by decide) ?_ ?_
              · refine s_aload_n G dX6_copy_110 rfl ?_
                refine s_ldc (v := (-1000000001)) G dX6_copy_111 qw824 ?_
                refine s_callVI (as := [.int (-1000000001)]) (st := []) (k := 36) G aw_self mdX6_finds (fun _ h => c_X6_finds w O l (-1000000001) M _ h) ⟨by decide, by decide⟩ (ce36 w) clX6 rfl qw825 rfl rfl (Nat.le_of_ble_eq_true rfl) (by decide) dX6_copy_113 (fun r113 => ?_)
                exact s_iret G rfl rfl dX6_copy_116
              · refine s_iload G dX6_copy_78 rfl ?_
                refine s_if_lt (tgt := 110) G dX6_copy_80 (by decide) ?_ ?_
                · refine s_aload_n G dX6_copy_110 rfl ?_
                  refine s_ldc (v := (-1000000001)) G dX6_copy_111 qw824 ?_
                  refine s_callVI (as := [.int (-1000000001)]) (st := []) (k := 36) G aw_self mdX6_finds (fun _ h => c_X6_finds w O l (-1000000001) M _ h) ⟨by decide, by decide⟩ (ce36 w) clX6 rfl qw825 rfl rfl (Nat.le_of_ble_eq_true rfl) (by decide) dX6_copy_113 (fun r113 => ?_)
                  exact s_iret G rfl rfl dX6_copy_116
                · refine s_iload G dX6_copy_83 rfl ?_
                  refine s_aload_n G dX6_copy_85 rfl ?_
                  refine s_get (k := 36) (j := 16) G (.ref (w.1 45)) ⟨by decide, by decide⟩ (ce36 w) rfl clX6 (by decide) qw771 rfl dX6_copy_86 ?_
                  refine s_iload_n G dX6_copy_89 rfl ?_
                  refine s_iald (k := 45) (n := 4) G ⟨by decide, by decide⟩ (ce45 w) dX6_copy_90 ?_
                  refine s_iload_n G dX6_copy_91 rfl ?_
                  refine s_isub G dX6_copy_92 ?_
                  refine s_icmp_gt (tgt := 110) G dX6_copy_93 (by decide) ?_ ?_
                  · refine s_aload_n G dX6_copy_110 rfl ?_
                    refine s_ldc (v := (-1000000001)) G dX6_copy_111 qw824 ?_
                    refine s_callVI (as := [.int (-1000000001)]) (st := []) (k := 36) G aw_self mdX6_finds (fun _ h => c_X6_finds w O l (-1000000001) M _ h) ⟨by decide, by decide⟩ (ce36 w) clX6 rfl qw825 rfl rfl (Nat.le_of_ble_eq_true rfl) (by decide) dX6_copy_113 (fun r113 => ?_)
                    exact s_iret G rfl rfl dX6_copy_116
                  · refine s_iload G dX6_copy_96 rfl ?_
                    refine s_aload_n G dX6_copy_98 rfl ?_
                    refine s_get (k := 36) (j := 16) G (.ref (w.1 45)) ⟨by decide, by decide⟩ (ce36 w) rfl clX6 (by decide) qw771 rfl dX6_copy_99 ?_
                    refine s_iload_n G dX6_copy_102 rfl ?_
                    refine s_iald (k := 45) (n := 4) G ⟨by decide, by decide⟩ (ce45 w) dX6_copy_103 ?_
                    refine s_iload G dX6_copy_104 rfl ?_
                    refine s_isub G dX6_copy_106 ?_
                    refine s_icmp_le (tgt := 117) G dX6_copy_107 (by decide) ?_ ?_
                    · refine s_iconst (v := 0) G dX6_copy_117 (by decide) ?_
                      refine s_istore (lv2 := [some (.ref (w.1 36)), some (.int a1), some (.int a2), some (.int a3), some (.int a4), some (.int a5), some (.int 0)]) G dX6_copy_118 (by decide) rfl rfl ?_
                      refine s_loopG (lvf := fun z120 : Int32 × Mem => [some (.ref (w.1 36)), some (.int a1), some (.int a2), some (.int a3), some (.int a4), some (.int a5), some (.int z120.1)]) (Mf := fun z120 : Int32 × Mem => z120.2) (ex := (fun x120_154 : Mem => (154, [some (.ref (w.1 36)), none, none, some (.int a3), some (.int a4), some (.int a5), none], x120_154))) (el_one 154 (fun x120_154 : Mem => [some (.ref (w.1 36)), none, none, some (.int a3), some (.int a4), some (.int a5), none]) (fun x120_154 : Mem => x120_154) (fun x120_154 => ?_)) (fun z120 K120 hB120 hE120 => ?_)
                      · refine s_iconst (v := 0) G dX6_copy_154 (by decide) ?_
                        refine s_istore (lv2 := [some (.ref (w.1 36)), none, none, some (.int a3), some (.int a4), some (.int a5), some (.int 0)]) G dX6_copy_155 (by decide) rfl rfl ?_
                        refine s_loopG (lvf := fun z157 : Int32 × Mem => [some (.ref (w.1 36)), none, none, some (.int a3), some (.int a4), some (.int a5), some (.int z157.1)]) (Mf := fun z157 : Int32 × Mem => z157.2) (ex := (fun x157_192 : Mem => (192, [none, none, none, none, none, some (.int a5), none], x157_192))) (el_one 192 (fun x157_192 : Mem => [none, none, none, none, none, some (.int a5), none]) (fun x157_192 : Mem => x157_192) (fun x157_192 => ?_)) (fun z157 K157 hB157 hE157 => ?_)
                        · refine s_iload G dX6_copy_192 rfl ?_
                          exact s_iret G rfl rfl dX6_copy_194
                        · unfold f_X6_copy_L157
                          refine s_iload G dX6_copy_157 rfl ?_
                          refine s_iload G dX6_copy_159 rfl ?_
                          refine s_icmp_ge (tgt := 192) G dX6_copy_161 (by decide) ?_ ?_
                          · refine s_keep [false, false, false, false, false, true, false] (lv2 := [none, none, none, none, none, some (.int a5), none]) rfl ?_
                            exact fun hx => hE157 z157.2 hx
                          · refine s_aload_n G dX6_copy_164 rfl ?_
                            refine s_get (k := 36) (j := 17) G (.ref (w.1 46)) ⟨by decide, by decide⟩ (ce36 w) rfl clX6 (by decide) qw772 rfl dX6_copy_165 ?_
                            refine s_bipush (v := 40) G dX6_copy_168 (by decide) ?_
                            refine s_iload_n G dX6_copy_170 rfl ?_
                            refine s_imul G dX6_copy_171 ?_
                            refine s_iload G dX6_copy_172 rfl ?_
                            refine s_iadd G dX6_copy_174 ?_
                            refine s_iload G dX6_copy_175 rfl ?_
                            refine s_iadd G dX6_copy_177 ?_
                            refine s_aload_n G dX6_copy_178 rfl ?_
                            refine s_get (k := 36) (j := 18) G (.ref (w.1 47)) ⟨by decide, by decide⟩ (ce36 w) rfl clX6 (by decide) qw773 rfl dX6_copy_179 ?_
                            refine s_iload G dX6_copy_182 rfl ?_
                            refine s_lald (k := 47) (n := 40) G ⟨by decide, by decide⟩ (ce47 w) dX6_copy_184 ?_
                            refine s_last (k := 46) (n := 160) G ⟨by decide, by decide⟩ (ce46 w) dX6_copy_185 (fun m185 => ?_)
                            refine s_iinc (v := (z157.1 + 1)) (lv2 := [some (.ref (w.1 36)), none, none, some (.int a3), some (.int a4), some (.int a5), some (.int (z157.1 + 1))]) G dX6_copy_186 rfl rfl (by decide) rfl rfl ?_
                            refine s_goto (tgt := 157) G dX6_copy_189 (by decide) ?_
                            exact fun hx => hB157 ((z157.1 + 1), m185) hx
                      · unfold f_X6_copy_L120
                        refine s_iload G dX6_copy_120 rfl ?_
                        refine s_iload G dX6_copy_122 rfl ?_
                        refine s_icmp_ge (tgt := 154) G dX6_copy_124 (by decide) ?_ ?_
                        · refine s_keep [true, false, false, true, true, true, false] (lv2 := [some (.ref (w.1 36)), none, none, some (.int a3), some (.int a4), some (.int a5), none]) rfl ?_
                          exact fun hx => hE120 z120.2 hx
                        · refine s_aload_n G dX6_copy_127 rfl ?_
                          refine s_get (k := 36) (j := 18) G (.ref (w.1 47)) ⟨by decide, by decide⟩ (ce36 w) rfl clX6 (by decide) qw773 rfl dX6_copy_128 ?_
                          refine s_iload G dX6_copy_131 rfl ?_
                          refine s_aload_n G dX6_copy_133 rfl ?_
                          refine s_get (k := 36) (j := 17) G (.ref (w.1 46)) ⟨by decide, by decide⟩ (ce36 w) rfl clX6 (by decide) qw772 rfl dX6_copy_134 ?_
                          refine s_bipush (v := 40) G dX6_copy_137 (by decide) ?_
                          refine s_iload_n G dX6_copy_139 rfl ?_
                          refine s_imul G dX6_copy_140 ?_
                          refine s_iload_n G dX6_copy_141 rfl ?_
                          refine s_iadd G dX6_copy_142 ?_
                          refine s_iload G dX6_copy_143 rfl ?_
                          refine s_iadd G dX6_copy_145 ?_
                          refine s_lald (k := 46) (n := 160) G ⟨by decide, by decide⟩ (ce46 w) dX6_copy_146 ?_
                          refine s_last (k := 47) (n := 40) G ⟨by decide, by decide⟩ (ce47 w) dX6_copy_147 (fun m147 => ?_)
                          refine s_iinc (v := (z120.1 + 1)) (lv2 := [some (.ref (w.1 36)), some (.int a1), some (.int a2), some (.int a3), some (.int a4), some (.int a5), some (.int (z120.1 + 1))]) G dX6_copy_148 rfl rfl (by decide) rfl rfl ?_
                          refine s_goto (tgt := 120) G dX6_copy_151 (by decide) ?_
                          exact fun hx => hB120 ((z120.1 + 1), m147) hx
                    · refine s_aload_n G dX6_copy_110 rfl ?_
                      refine s_ldc (v := (-1000000001)) G dX6_copy_111 qw824 ?_
                      refine s_callVI (as := [.int (-1000000001)]) (st := []) (k := 36) G aw_self mdX6_finds (fun _ h => c_X6_finds w O l (-1000000001) M _ h) ⟨by decide, by decide⟩ (ce36 w) clX6 rfl qw825 rfl rfl (Nat.le_of_ble_eq_true rfl) (by decide) dX6_copy_113 (fun r113 => ?_)
                      exact s_iret G rfl rfl dX6_copy_116
          · refine s_aload_n G dX6_copy_62 rfl ?_
            refine s_ldc (v := (-1000000003)) G dX6_copy_63 qw879 ?_
            refine s_callVI (as := [.int (-1000000003)]) (st := []) (k := 36) G aw_self mdX6_finds (fun _ h => c_X6_finds w O l (-1000000003) M _ h) ⟨by decide, by decide⟩ (ce36 w) clX6 rfl qw825 rfl rfl (Nat.le_of_ble_eq_true rfl) (by decide) dX6_copy_65 (fun r65 => ?_)
            exact s_iret G rfl rfl dX6_copy_68

set_option maxRecDepth 100000 in
set_option maxHeartbeats 4000000 in
theorem c_X6_lays (w : Wx) (O : Mem) (l : Launch) (a1 : Int32) (M : Mem)  (z : Int32 × Mem) (hz : f_X6_lays a1 M = some z) : Ct w 36 48 O l 4 muX6_lays [.ref (w.1 36), .int a1] M (some (.int z.1), z.2) := by
  refine ct_of (X := f_X6_lays a1 M) (K := fun v => some (some (.int v.1), v.2)) [some (.ref (w.1 36)), some (.int a1), none, none, none, none, none] rfl rfl (Nat.le_of_ble_eq_true rfl) (by rw [hz]; rfl) ?_
  intro p e s m args below meth c G
  unfold f_X6_lays
  refine s_aload_n G dX6_lays_0 rfl ?_
  refine s_iload_n G dX6_lays_1 rfl ?_
  refine s_callVi (as := [.int a1]) (st := []) (k := 36) G aw_self mdX6_wrongSheet (fun _ h => c_X6_wrongSheet w O l a1 M _ h) ⟨by decide, by decide⟩ (ce36 w) clX6 rfl qw1177 rfl rfl (Nat.le_of_ble_eq_true rfl) (by decide) dX6_lays_2 (fun r2 => ?_)
  refine s_istore_n (lv2 := [some (.ref (w.1 36)), some (.int a1), some (.int r2), none, none, none, none]) G dX6_lays_5 (by decide) rfl rfl ?_
  refine s_iload_n G dX6_lays_6 rfl ?_
  refine s_if_eq (tgt := 16) G dX6_lays_7 (by decide) ?_ ?_
  · refine s_iconst (v := 0) G dX6_lays_16 (by decide) ?_
    refine s_istore_n (lv2 := [some (.ref (w.1 36)), some (.int a1), some (.int r2), some (.int 0), none, none, none]) G dX6_lays_17 (by decide) rfl rfl ?_
    refine s_iconst (v := 0) G dX6_lays_18 (by decide) ?_
    refine s_istore (lv2 := [some (.ref (w.1 36)), some (.int a1), some (.int r2), some (.int 0), some (.int 0), none, none]) G dX6_lays_19 (by decide) rfl rfl ?_
    refine s_keep [true, true, false, true, true, false, false] (lv2 := [some (.ref (w.1 36)), some (.int a1), none, some (.int 0), some (.int 0), none, none]) rfl ?_
    refine s_loopG (lvf := fun z21 : Int32 × Int32 × Mem => [some (.ref (w.1 36)), some (.int a1), none, some (.int z21.1), some (.int z21.2.1), none, none]) (Mf := fun z21 : Int32 × Int32 × Mem => z21.2.2) (ex := (fun x21_106 : Int32 × Mem => (106, [none, none, none, some (.int x21_106.1), none, none, none], x21_106.2))) (el_one 106 (fun x21_106 : Int32 × Mem => [none, none, none, some (.int x21_106.1), none, none, none]) (fun x21_106 : Int32 × Mem => x21_106.2) (fun x21_106 => ?_)) (fun z21 K21 hB21 hE21 => ?_)
    · refine s_iload_n G dX6_lays_106 rfl ?_
      exact s_iret G rfl rfl dX6_lays_107
    · unfold f_X6_lays_L21
      refine s_iload G dX6_lays_21 rfl ?_
      refine s_aload_n G dX6_lays_23 rfl ?_
      refine s_get (k := 36) (j := 16) G (.ref (w.1 45)) ⟨by decide, by decide⟩ (ce36 w) rfl clX6 (by decide) qw771 rfl dX6_lays_24 ?_
      refine s_iload_n G dX6_lays_27 rfl ?_
      refine s_iald (k := 45) (n := 4) G ⟨by decide, by decide⟩ (ce45 w) dX6_lays_28 ?_
      refine s_icmp_ge (tgt := 106) G dX6_lays_29 (by decide) ?_ ?_
      · refine s_keep [false, false, false, true, false, false, false] (lv2 := [none, none, none, some (.int z21.1), none, none, none]) rfl ?_
        exact fun hx => hE21 (z21.1, z21.2.2) hx
      · refine s_iload G dX6_lays_32 rfl ?_
        refine s_aload_n G dX6_lays_34 rfl ?_
        refine s_get (k := 36) (j := 0) G (.ref (w.1 37)) ⟨by decide, by decide⟩ (ce36 w) rfl clX6 (by decide) qw755 rfl dX6_lays_35 ?_
        refine s_iconst (v := 0) G dX6_lays_38 (by decide) ?_
        refine s_ialdC (k := 37) (n := 63) (j := 0) G ⟨by decide, by decide⟩ (ce37 w) (by decide) (by decide) dX6_lays_39 ?_
        refine s_icmp_ge (tgt := 106) G dX6_lays_40 (by decide) ?_ ?_
        · refine s_keep [false, false, false, true, false, false, false] (lv2 := [none, none, none, some (.int z21.1), none, none, none]) rfl ?_
          exact fun hx => hE21 (z21.1, z21.2.2) hx
        · refine s_aload_n G dX6_lays_43 rfl ?_
          refine s_get (k := 36) (j := 17) G (.ref (w.1 46)) ⟨by decide, by decide⟩ (ce36 w) rfl clX6 (by decide) qw772 rfl dX6_lays_44 ?_
          refine s_bipush (v := 40) G dX6_lays_47 (by decide) ?_
          refine s_iload_n G dX6_lays_49 rfl ?_
          refine s_imul G dX6_lays_50 ?_
          refine s_iload G dX6_lays_51 rfl ?_
          refine s_iadd G dX6_lays_53 ?_
          refine s_lald (k := 46) (n := 160) G ⟨by decide, by decide⟩ (ce46 w) dX6_lays_54 ?_
          refine s_name (f := Value.long) (fun v55 => ?_)
          refine s_lstore (lv2 := [some (.ref (w.1 36)), some (.int a1), none, some (.int z21.1), some (.int z21.2.1), some (.long v55), none]) G dX6_lays_55 (by decide) rfl rfl ?_
          refine s_aload_n G dX6_lays_57 rfl ?_
          refine s_iload G dX6_lays_58 rfl ?_
          refine s_callVi (as := [.int z21.2.1]) (st := []) (k := 36) G aw_self mdX6_isOn (fun _ h => c_X6_isOn w O l z21.2.1 z21.2.2 _ h) ⟨by decide, by decide⟩ (ce36 w) clX6 rfl qw902 rfl rfl (Nat.le_of_ble_eq_true rfl) (by decide) dX6_lays_60 (fun r60 => ?_)
          refine s_join 100 (fun y63 : Int32 × Mem => [some (.ref (w.1 36)), some (.int a1), none, some (.int y63.1), some (.int z21.2.1), none, none]) (fun y63 => []) (fun y63 => y63.2) (fun y63 => ?_) (fun K63 hB63 => ?_)
          · refine s_iinc (v := (z21.2.1 + 1)) (lv2 := [some (.ref (w.1 36)), some (.int a1), none, some (.int y63.1), some (.int (z21.2.1 + 1)), none, none]) G dX6_lays_100 rfl rfl (by decide) rfl rfl ?_
            refine s_goto (tgt := 21) G dX6_lays_103 (by decide) ?_
            exact fun hx => hB21 (y63.1, (z21.2.1 + 1), y63.2) hx
          · refine s_if_ne (tgt := 100) G dX6_lays_63 (by decide) ?_ ?_
            · refine s_lload G dX6_lays_66 rfl ?_
              refine s_lconst (v := 0) G dX6_lays_68 (by decide) ?_
              refine s_ldc2 (v := 23) G dX6_lays_69 qw892 ?_
              refine s_callSi (as := [.long v55, .long 0, .long 23]) (st := []) G aw_self mdX6_in (fun _ h => c_X6_in w O l v55 0 23 z21.2.2 _ h) qw821 rfl rfl (Nat.le_of_ble_eq_true rfl) (by decide) dX6_lays_72 (fun r72 => ?_)
              refine s_if_eq (tgt := 100) G dX6_lays_75 (by decide) ?_ ?_
              · refine s_keep [true, true, false, true, true, false, false] (lv2 := [some (.ref (w.1 36)), some (.int a1), none, some (.int z21.1), some (.int z21.2.1), none, none]) rfl ?_
                exact fun hx => hB63 (z21.1, z21.2.2) hx
              · refine s_aload_n G dX6_lays_78 rfl ?_
                refine s_lload G dX6_lays_79 rfl ?_
                refine s_l2i G dX6_lays_81 ?_
                refine s_callVi (as := [.int v55.toInt32]) (st := []) (k := 36) G aw_self mdX6_isFree (fun _ h => c_X6_isFree w O l v55.toInt32 z21.2.2 _ h) ⟨by decide, by decide⟩ (ce36 w) clX6 rfl qw906 rfl rfl (Nat.le_of_ble_eq_true rfl) (by decide) dX6_lays_82 (fun r82 => ?_)
                refine s_if_eq (tgt := 100) G dX6_lays_85 (by decide) ?_ ?_
                · refine s_keep [true, true, false, true, true, false, false] (lv2 := [some (.ref (w.1 36)), some (.int a1), none, some (.int z21.1), some (.int z21.2.1), none, none]) rfl ?_
                  exact fun hx => hB63 (z21.1, z21.2.2) hx
                · refine s_aload_n G dX6_lays_88 rfl ?_
                  refine s_iload G dX6_lays_89 rfl ?_
                  refine s_lload G dX6_lays_91 rfl ?_
                  refine s_l2i G dX6_lays_93 ?_
                  refine s_callVv (as := [.int z21.2.1, .int v55.toInt32]) (st := []) (k := 36) G aw_self mdX6_hangs (fun _ h => c_X6_hangs w O l z21.2.1 v55.toInt32 z21.2.2 _ h) ⟨by decide, by decide⟩ (ce36 w) clX6 rfl qw911 rfl rfl (Nat.le_of_ble_eq_true rfl) (by decide) dX6_lays_94 (fun r94 => ?_)
                  refine s_iinc (v := (z21.1 + 1)) (lv2 := [some (.ref (w.1 36)), some (.int a1), none, some (.int (z21.1 + 1)), some (.int z21.2.1), some (.long v55), none]) G dX6_lays_97 rfl rfl (by decide) rfl rfl ?_
                  refine s_keep [true, true, false, true, true, false, false] (lv2 := [some (.ref (w.1 36)), some (.int a1), none, some (.int (z21.1 + 1)), some (.int z21.2.1), none, none]) rfl ?_
                  exact fun hx => hB63 ((z21.1 + 1), r94) hx
            · refine s_keep [true, true, false, true, true, false, false] (lv2 := [some (.ref (w.1 36)), some (.int a1), none, some (.int z21.1), some (.int z21.2.1), none, none]) rfl ?_
              exact fun hx => hB63 (z21.1, z21.2.2) hx
  · refine s_aload_n G dX6_lays_10 rfl ?_
    refine s_iload_n G dX6_lays_11 rfl ?_
    refine s_callVI (as := [.int r2]) (st := []) (k := 36) G aw_self mdX6_finds (fun _ h => c_X6_finds w O l r2 M _ h) ⟨by decide, by decide⟩ (ce36 w) clX6 rfl qw825 rfl rfl (Nat.le_of_ble_eq_true rfl) (by decide) dX6_lays_12 (fun r12 => ?_)
    exact s_iret G rfl rfl dX6_lays_15

set_option maxRecDepth 100000 in
set_option maxHeartbeats 4000000 in
theorem c_X6_book (w : Wx) (O : Mem) (l : Launch) (a1 : Int32) (M : Mem)  (z : Int32 × Mem) (hz : f_X6_book a1 M = some z) : Ct w 36 48 O l 3 muX6_book [.ref (w.1 36), .int a1] M (some (.int z.1), z.2) := by
  refine ct_of (X := f_X6_book a1 M) (K := fun v => some (some (.int v.1), v.2)) [some (.ref (w.1 36)), some (.int a1), none, none, none, none] rfl rfl (Nat.le_of_ble_eq_true rfl) (by rw [hz]; rfl) ?_
  intro p e s m args below meth c G
  unfold f_X6_book
  refine s_aload_n G dX6_book_0 rfl ?_
  refine s_iload_n G dX6_book_1 rfl ?_
  refine s_callVi (as := [.int a1]) (st := []) (k := 36) G aw_self mdX6_wrongSheet (fun _ h => c_X6_wrongSheet w O l a1 M _ h) ⟨by decide, by decide⟩ (ce36 w) clX6 rfl qw1177 rfl rfl (Nat.le_of_ble_eq_true rfl) (by decide) dX6_book_2 (fun r2 => ?_)
  refine s_istore_n (lv2 := [some (.ref (w.1 36)), some (.int a1), some (.int r2), none, none, none]) G dX6_book_5 (by decide) rfl rfl ?_
  refine s_iload_n G dX6_book_6 rfl ?_
  refine s_if_eq (tgt := 16) G dX6_book_7 (by decide) ?_ ?_
  · refine s_iconst (v := 0) G dX6_book_16 (by decide) ?_
    refine s_istore_n (lv2 := [some (.ref (w.1 36)), some (.int a1), some (.int r2), some (.int 0), none, none]) G dX6_book_17 (by decide) rfl rfl ?_
    refine s_iconst (v := 0) G dX6_book_18 (by decide) ?_
    refine s_istore (lv2 := [some (.ref (w.1 36)), some (.int a1), some (.int r2), some (.int 0), some (.int 0), none]) G dX6_book_19 (by decide) rfl rfl ?_
    refine s_keep [true, true, false, true, true, false] (lv2 := [some (.ref (w.1 36)), some (.int a1), none, some (.int 0), some (.int 0), none]) rfl ?_
    refine s_loopG (lvf := fun z21 : Int32 × Int32 × Mem => [some (.ref (w.1 36)), some (.int a1), none, some (.int z21.1), some (.int z21.2.1), none]) (Mf := fun z21 : Int32 × Int32 × Mem => z21.2.2) (ex := (fun x21_84 : Int32 × Mem => (84, [some (.ref (w.1 36)), some (.int a1), none, some (.int x21_84.1), none, none], x21_84.2))) (el_one 84 (fun x21_84 : Int32 × Mem => [some (.ref (w.1 36)), some (.int a1), none, some (.int x21_84.1), none, none]) (fun x21_84 : Int32 × Mem => x21_84.2) (fun x21_84 => ?_)) (fun z21 K21 hB21 hE21 => ?_)
    · refine s_iload_n G dX6_book_84 rfl ?_
      refine s_istore (lv2 := [some (.ref (w.1 36)), some (.int a1), none, some (.int x21_84.1), some (.int x21_84.1), none]) G dX6_book_85 (by decide) rfl rfl ?_
      refine s_loopG (lvf := fun z87 : Int32 × Mem => [some (.ref (w.1 36)), some (.int a1), none, some (.int x21_84.1), some (.int z87.1), none]) (Mf := fun z87 : Int32 × Mem => z87.2) (ex := (fun x87_119 : Mem => (119, [none, none, none, some (.int x21_84.1), none, none], x87_119))) (el_one 119 (fun x87_119 : Mem => [none, none, none, some (.int x21_84.1), none, none]) (fun x87_119 : Mem => x87_119) (fun x87_119 => ?_)) (fun z87 K87 hB87 hE87 => ?_)
      · refine s_iload_n G dX6_book_119 rfl ?_
        exact s_iret G rfl rfl dX6_book_120
      · unfold f_X6_book_L87
        refine s_iload G dX6_book_87 rfl ?_
        refine s_aload_n G dX6_book_89 rfl ?_
        refine s_get (k := 36) (j := 16) G (.ref (w.1 45)) ⟨by decide, by decide⟩ (ce36 w) rfl clX6 (by decide) qw771 rfl dX6_book_90 ?_
        refine s_iload_n G dX6_book_93 rfl ?_
        refine s_iald (k := 45) (n := 4) G ⟨by decide, by decide⟩ (ce45 w) dX6_book_94 ?_
        refine s_icmp_ge (tgt := 119) G dX6_book_95 (by decide) ?_ ?_
        · refine s_keep [false, false, false, true, false, false] (lv2 := [none, none, none, some (.int x21_84.1), none, none]) rfl ?_
          exact fun hx => hE87 z87.2 hx
        · refine s_aload_n G dX6_book_98 rfl ?_
          refine s_get (k := 36) (j := 17) G (.ref (w.1 46)) ⟨by decide, by decide⟩ (ce36 w) rfl clX6 (by decide) qw772 rfl dX6_book_99 ?_
          refine s_bipush (v := 40) G dX6_book_102 (by decide) ?_
          refine s_iload_n G dX6_book_104 rfl ?_
          refine s_imul G dX6_book_105 ?_
          refine s_iload G dX6_book_106 rfl ?_
          refine s_iadd G dX6_book_108 ?_
          refine s_ldc2 (v := (-1)) G dX6_book_109 qw1197 ?_
          refine s_last (k := 46) (n := 160) G ⟨by decide, by decide⟩ (ce46 w) dX6_book_112 (fun m112 => ?_)
          refine s_iinc (v := (z87.1 + 1)) (lv2 := [some (.ref (w.1 36)), some (.int a1), none, some (.int x21_84.1), some (.int (z87.1 + 1)), none]) G dX6_book_113 rfl rfl (by decide) rfl rfl ?_
          refine s_goto (tgt := 87) G dX6_book_116 (by decide) ?_
          exact fun hx => hB87 ((z87.1 + 1), m112) hx
    · unfold f_X6_book_L21
      refine s_iload G dX6_book_21 rfl ?_
      refine s_bipush (v := 24) G dX6_book_23 (by decide) ?_
      refine s_icmp_ge (tgt := 84) G dX6_book_25 (by decide) ?_ ?_
      · refine s_keep [true, true, false, true, false, false] (lv2 := [some (.ref (w.1 36)), some (.int a1), none, some (.int z21.1), none, none]) rfl ?_
        exact fun hx => hE21 (z21.1, z21.2.2) hx
      · refine s_aload_n G dX6_book_28 rfl ?_
        refine s_iload G dX6_book_29 rfl ?_
        refine s_callVi (as := [.int z21.2.1]) (st := []) (k := 36) G aw_self mdX6_who (fun _ h => c_X6_who w O l z21.2.1 z21.2.2 _ h) ⟨by decide, by decide⟩ (ce36 w) clX6 rfl qw893 rfl rfl (Nat.le_of_ble_eq_true rfl) (by decide) dX6_book_31 (fun r31 => ?_)
        refine s_istore (lv2 := [some (.ref (w.1 36)), some (.int a1), none, some (.int z21.1), some (.int z21.2.1), some (.int r31)]) G dX6_book_34 (by decide) rfl rfl ?_
        refine s_iload G dX6_book_36 rfl ?_
        refine s_join 65 (fun y38 : Mem => [some (.ref (w.1 36)), some (.int a1), none, some (.int z21.1), some (.int z21.2.1), some (.int r31)]) (fun y38 => []) (fun y38 => y38) (fun y38 => ?_) (fun K38 hB38 => ?_)
        · refine s_iload_n G dX6_book_65 rfl ?_
          refine s_iload G dX6_book_66 rfl ?_
          refine s_join 76 (fun y68 : Int32 => [some (.ref (w.1 36)), some (.int a1), none, none, some (.int z21.2.1), none]) (fun y68 => [.int y68, .int z21.1]) (fun y68 => y38) (fun y68 => ?_) (fun K68 hB68 => ?_)
          · refine s_iadd G dX6_book_76 ?_
            refine s_name (f := Value.int) (fun v77 => ?_)
            refine s_istore_n (lv2 := [some (.ref (w.1 36)), some (.int a1), none, some (.int v77), some (.int z21.2.1), none]) G dX6_book_77 (by decide) rfl rfl ?_
            refine s_iinc (v := (z21.2.1 + 1)) (lv2 := [some (.ref (w.1 36)), some (.int a1), none, some (.int v77), some (.int (z21.2.1 + 1)), none]) G dX6_book_78 rfl rfl (by decide) rfl rfl ?_
            refine s_goto (tgt := 21) G dX6_book_81 (by decide) ?_
            exact fun hx => hB21 (v77, (z21.2.1 + 1), y38) hx
          · refine s_if_lt (tgt := 75) G dX6_book_68 (by decide) ?_ ?_
            · refine s_iconst (v := 0) G dX6_book_75 (by decide) ?_
              refine s_keep [true, true, false, false, true, false] (lv2 := [some (.ref (w.1 36)), some (.int a1), none, none, some (.int z21.2.1), none]) rfl ?_
              exact fun hx => hB68 0 hx
            · refine s_iconst (v := 1) G dX6_book_71 (by decide) ?_
              refine s_goto (tgt := 76) G dX6_book_72 (by decide) ?_
              refine s_keep [true, true, false, false, true, false] (lv2 := [some (.ref (w.1 36)), some (.int a1), none, none, some (.int z21.2.1), none]) rfl ?_
              exact fun hx => hB68 1 hx
        · refine s_if_lt (tgt := 65) G dX6_book_38 (by decide) ?_ ?_
          · exact fun hx => hB38 z21.2.2 hx
          · refine s_iload_n G dX6_book_41 rfl ?_
            refine s_aload_n G dX6_book_42 rfl ?_
            refine s_get (k := 36) (j := 16) G (.ref (w.1 45)) ⟨by decide, by decide⟩ (ce36 w) rfl clX6 (by decide) qw771 rfl dX6_book_43 ?_
            refine s_iload_n G dX6_book_46 rfl ?_
            refine s_iald (k := 45) (n := 4) G ⟨by decide, by decide⟩ (ce45 w) dX6_book_47 ?_
            refine s_icmp_ge (tgt := 65) G dX6_book_48 (by decide) ?_ ?_
            · exact fun hx => hB38 z21.2.2 hx
            · refine s_aload_n G dX6_book_51 rfl ?_
              refine s_get (k := 36) (j := 17) G (.ref (w.1 46)) ⟨by decide, by decide⟩ (ce36 w) rfl clX6 (by decide) qw772 rfl dX6_book_52 ?_
              refine s_bipush (v := 40) G dX6_book_55 (by decide) ?_
              refine s_iload_n G dX6_book_57 rfl ?_
              refine s_imul G dX6_book_58 ?_
              refine s_iload_n G dX6_book_59 rfl ?_
              refine s_iadd G dX6_book_60 ?_
              refine s_iload G dX6_book_61 rfl ?_
              refine s_i2l G dX6_book_63 ?_
              refine s_last (k := 46) (n := 160) G ⟨by decide, by decide⟩ (ce46 w) dX6_book_64 (fun m64 => ?_)
              exact fun hx => hB38 m64 hx
  · refine s_aload_n G dX6_book_10 rfl ?_
    refine s_iload_n G dX6_book_11 rfl ?_
    refine s_callVI (as := [.int r2]) (st := []) (k := 36) G aw_self mdX6_finds (fun _ h => c_X6_finds w O l r2 M _ h) ⟨by decide, by decide⟩ (ce36 w) clX6 rfl qw825 rfl rfl (Nat.le_of_ble_eq_true rfl) (by decide) dX6_book_12 (fun r12 => ?_)
    exact s_iret G rfl rfl dX6_book_15

set_option maxRecDepth 100000 in
set_option maxHeartbeats 4000000 in
theorem c_X6_read (w : Wx) (O : Mem) (l : Launch) (a1 : Int32) (M : Mem)  (z : Int32 × Mem) (hz : f_X6_read a1 M = some z) : Ct w 36 48 O l 9 muX6_read [.ref (w.1 36), .int a1] M (some (.int z.1), z.2) := by
  refine ct_of (X := f_X6_read a1 M) (K := fun v => some (some (.int v.1), v.2)) [some (.ref (w.1 36)), some (.int a1), none, none, none, none, none, none, none, none] rfl rfl (Nat.le_of_ble_eq_true rfl) (by rw [hz]; rfl) ?_
  intro p e s m args below meth c G
  unfold f_X6_read
  refine s_aload_n G dX6_read_0 rfl ?_
  refine s_iload_n G dX6_read_1 rfl ?_
  refine s_callVi (as := [.int a1]) (st := []) (k := 36) G aw_self mdX6_wrongSheet (fun _ h => c_X6_wrongSheet w O l a1 M _ h) ⟨by decide, by decide⟩ (ce36 w) clX6 rfl qw1177 rfl rfl (Nat.le_of_ble_eq_true rfl) (by decide) dX6_read_2 (fun r2 => ?_)
  refine s_istore_n (lv2 := [some (.ref (w.1 36)), some (.int a1), some (.int r2), none, none, none, none, none, none, none]) G dX6_read_5 (by decide) rfl rfl ?_
  refine s_iload_n G dX6_read_6 rfl ?_
  refine s_if_eq (tgt := 16) G dX6_read_7 (by decide) ?_ ?_
  · refine s_aload_n G dX6_read_16 rfl ?_
    refine s_callVv (as := []) (st := []) (k := 36) G aw_self mdX6_laysAside (fun _ h => c_X6_laysAside w O l M _ h) ⟨by decide, by decide⟩ (ce36 w) clX6 rfl qw1048 rfl rfl (Nat.le_of_ble_eq_true rfl) (by decide) dX6_read_17 (fun r17 => ?_)
    refine s_iconst (v := 0) G dX6_read_20 (by decide) ?_
    refine s_istore_n (lv2 := [some (.ref (w.1 36)), some (.int a1), some (.int r2), some (.int 0), none, none, none, none, none, none]) G dX6_read_21 (by decide) rfl rfl ?_
    refine s_iconst (v := 0) G dX6_read_22 (by decide) ?_
    refine s_istore (lv2 := [some (.ref (w.1 36)), some (.int a1), some (.int r2), some (.int 0), some (.int 0), none, none, none, none, none]) G dX6_read_23 (by decide) rfl rfl ?_
    refine s_keep [true, true, false, true, true, false, false, false, false, false] (lv2 := [some (.ref (w.1 36)), some (.int a1), none, some (.int 0), some (.int 0), none, none, none, none, none]) rfl ?_
    refine s_loopG (lvf := fun z25 : Int32 × Int32 × Mem => [some (.ref (w.1 36)), some (.int a1), none, some (.int z25.1), some (.int z25.2.1), none, none, none, none, none]) (Mf := fun z25 : Int32 × Int32 × Mem => z25.2.2) (ex := (fun x25_149 : Int32 × Mem => (149, [some (.ref (w.1 36)), none, none, some (.int x25_149.1), none, none, none, none, none, none], x25_149.2))) (el_one 149 (fun x25_149 : Int32 × Mem => [some (.ref (w.1 36)), none, none, some (.int x25_149.1), none, none, none, none, none, none]) (fun x25_149 : Int32 × Mem => x25_149.2) (fun x25_149 => ?_)) (fun z25 K25 hB25 hE25 => ?_)
    · refine s_aload_n G dX6_read_149 rfl ?_
      refine s_iload_n G dX6_read_150 rfl ?_
      refine s_callVI (as := [.int x25_149.1]) (st := []) (k := 36) G aw_self mdX6_takesBack (fun _ h => c_X6_takesBack w O l x25_149.1 x25_149.2 _ h) ⟨by decide, by decide⟩ (ce36 w) clX6 rfl qw1052 rfl rfl (Nat.le_of_ble_eq_true rfl) (by decide) dX6_read_151 (fun r151 => ?_)
      exact s_iret G rfl rfl dX6_read_154
    · unfold f_X6_read_L25
      refine s_iload G dX6_read_25 rfl ?_
      refine s_aload_n G dX6_read_27 rfl ?_
      refine s_get (k := 36) (j := 16) G (.ref (w.1 45)) ⟨by decide, by decide⟩ (ce36 w) rfl clX6 (by decide) qw771 rfl dX6_read_28 ?_
      refine s_iload_n G dX6_read_31 rfl ?_
      refine s_iald (k := 45) (n := 4) G ⟨by decide, by decide⟩ (ce45 w) dX6_read_32 ?_
      refine s_icmp_ge (tgt := 149) G dX6_read_33 (by decide) ?_ ?_
      · refine s_keep [true, false, false, true, false, false, false, false, false, false] (lv2 := [some (.ref (w.1 36)), none, none, some (.int z25.1), none, none, none, none, none, none]) rfl ?_
        exact fun hx => hE25 (z25.1, z25.2.2) hx
      · refine s_iload_n G dX6_read_36 rfl ?_
        refine s_if_ne (tgt := 149) G dX6_read_37 (by decide) ?_ ?_
        · refine s_aload_n G dX6_read_40 rfl ?_
          refine s_get (k := 36) (j := 17) G (.ref (w.1 46)) ⟨by decide, by decide⟩ (ce36 w) rfl clX6 (by decide) qw772 rfl dX6_read_41 ?_
          refine s_bipush (v := 40) G dX6_read_44 (by decide) ?_
          refine s_iload_n G dX6_read_46 rfl ?_
          refine s_imul G dX6_read_47 ?_
          refine s_iload G dX6_read_48 rfl ?_
          refine s_iadd G dX6_read_50 ?_
          refine s_lald (k := 46) (n := 160) G ⟨by decide, by decide⟩ (ce46 w) dX6_read_51 ?_
          refine s_name (f := Value.long) (fun v52 => ?_)
          refine s_lstore (lv2 := [some (.ref (w.1 36)), some (.int a1), none, some (.int z25.1), some (.int z25.2.1), some (.long v52), none, none, none, none]) G dX6_read_52 (by decide) rfl rfl ?_
          refine s_lload G dX6_read_54 rfl ?_
          refine s_lconst (v := 0) G dX6_read_56 (by decide) ?_
          refine s_aload_n G dX6_read_57 rfl ?_
          refine s_get (k := 36) (j := 0) G (.ref (w.1 37)) ⟨by decide, by decide⟩ (ce36 w) rfl clX6 (by decide) qw755 rfl dX6_read_58 ?_
          refine s_iconst (v := 0) G dX6_read_61 (by decide) ?_
          refine s_ialdC (k := 37) (n := 63) (j := 0) G ⟨by decide, by decide⟩ (ce37 w) (by decide) (by decide) dX6_read_62 ?_
          refine s_iconst (v := 1) G dX6_read_63 (by decide) ?_
          refine s_isub G dX6_read_64 ?_
          refine s_i2l G dX6_read_65 ?_
          refine s_callSi (as := [.long v52, .long 0, .long ((gI z25.2.2 37 0) - 1).toInt64]) (st := []) G aw_self mdX6_in (fun _ h => c_X6_in w O l v52 0 ((gI z25.2.2 37 0) - 1).toInt64 z25.2.2 _ h) qw821 rfl rfl (Nat.le_of_ble_eq_true rfl) (by decide) dX6_read_66 (fun r66 => ?_)
          refine s_join 79 (fun y69 : Int32 => [some (.ref (w.1 36)), some (.int a1), none, none, some (.int z25.2.1), none, none, none, none, none]) (fun y69 => [.int y69]) (fun y69 => z25.2.2) (fun y69 => ?_) (fun K69 hB69 => ?_)
          · refine s_istore (lv2 := [some (.ref (w.1 36)), some (.int a1), none, none, some (.int z25.2.1), none, none, some (.int y69), none, none]) G dX6_read_79 (by decide) rfl rfl ?_
            refine s_iload G dX6_read_81 rfl ?_
            refine s_join 109 (fun y83 : Int32 => [some (.ref (w.1 36)), some (.int a1), none, none, some (.int z25.2.1), none, none, some (.int y69), none, none]) (fun y83 => [.int y83]) (fun y83 => z25.2.2) (fun y83 => ?_) (fun K83 hB83 => ?_)
            · refine s_istore (lv2 := [some (.ref (w.1 36)), some (.int a1), none, none, some (.int z25.2.1), none, none, some (.int y69), some (.int y83), none]) G dX6_read_109 (by decide) rfl rfl ?_
              refine s_iload G dX6_read_111 rfl ?_
              refine s_join 127 (fun y113 : Int32 × Mem => [some (.ref (w.1 36)), some (.int a1), none, none, some (.int z25.2.1), none, none, none, some (.int y83), none]) (fun y113 => [.int y113.1]) (fun y113 => y113.2) (fun y113 => ?_) (fun K113 hB113 => ?_)
              · refine s_istore (lv2 := [some (.ref (w.1 36)), some (.int a1), none, none, some (.int z25.2.1), none, none, none, some (.int y83), some (.int y113.1)]) G dX6_read_127 (by decide) rfl rfl ?_
                refine s_iload G dX6_read_129 rfl ?_
                refine s_join 142 (fun y131 : Int32 => [some (.ref (w.1 36)), some (.int a1), none, none, some (.int z25.2.1), none, none, none, none, none]) (fun y131 => [.int y131]) (fun y131 => y113.2) (fun y131 => ?_) (fun K131 hB131 => ?_)
                · refine s_istore_n (lv2 := [some (.ref (w.1 36)), some (.int a1), none, some (.int y131), some (.int z25.2.1), none, none, none, none, none]) G dX6_read_142 (by decide) rfl rfl ?_
                  refine s_iinc (v := (z25.2.1 + 1)) (lv2 := [some (.ref (w.1 36)), some (.int a1), none, some (.int y131), some (.int (z25.2.1 + 1)), none, none, none, none, none]) G dX6_read_143 rfl rfl (by decide) rfl rfl ?_
                  refine s_goto (tgt := 25) G dX6_read_146 (by decide) ?_
                  exact fun hx => hB25 (y131, (z25.2.1 + 1), y113.2) hx
                · refine s_if_eq (tgt := 138) G dX6_read_131 (by decide) ?_ ?_
                  · refine s_iconst (v := 1) G dX6_read_138 (by decide) ?_
                    refine s_iload G dX6_read_139 rfl ?_
                    refine s_iadd G dX6_read_141 ?_
                    refine s_keep [true, true, false, false, true, false, false, false, false, false] (lv2 := [some (.ref (w.1 36)), some (.int a1), none, none, some (.int z25.2.1), none, none, none, none, none]) rfl ?_
                    exact fun hx => hB131 (1 + z25.2.1) hx
                  · refine s_iconst (v := 0) G dX6_read_134 (by decide) ?_
                    refine s_goto (tgt := 142) G dX6_read_135 (by decide) ?_
                    refine s_keep [true, true, false, false, true, false, false, false, false, false] (lv2 := [some (.ref (w.1 36)), some (.int a1), none, none, some (.int z25.2.1), none, none, none, none, none]) rfl ?_
                    exact fun hx => hB131 0 hx
              · refine s_if_eq (tgt := 126) G dX6_read_113 (by decide) ?_ ?_
                · refine s_iconst (v := 0) G dX6_read_126 (by decide) ?_
                  refine s_keep [true, true, false, false, true, false, false, false, true, false] (lv2 := [some (.ref (w.1 36)), some (.int a1), none, none, some (.int z25.2.1), none, none, none, some (.int y83), none]) rfl ?_
                  exact fun hx => hB113 (0, z25.2.2) hx
                · refine s_aload_n G dX6_read_116 rfl ?_
                  refine s_iload G dX6_read_117 rfl ?_
                  refine s_iconst (v := 0) G dX6_read_119 (by decide) ?_
                  refine s_callVI (as := [.int y69, .int 0]) (st := []) (k := 36) G aw_self mdX6_takes (fun _ h => c_X6_takes w O l y69 0 z25.2.2 _ h) ⟨by decide, by decide⟩ (ce36 w) clX6 rfl qw952 rfl rfl (Nat.le_of_ble_eq_true rfl) (by decide) dX6_read_120 (fun r120 => ?_)
                  refine s_goto (tgt := 127) G dX6_read_123 (by decide) ?_
                  refine s_keep [true, true, false, false, true, false, false, false, true, false] (lv2 := [some (.ref (w.1 36)), some (.int a1), none, none, some (.int z25.2.1), none, none, none, some (.int y83), none]) rfl ?_
                  exact fun hx => hB113 (r120.1, r120.2) hx
            · refine s_if_lt (tgt := 108) G dX6_read_83 (by decide) ?_ ?_
              · refine s_iconst (v := 0) G dX6_read_108 (by decide) ?_
                exact fun hx => hB83 0 hx
              · refine s_aload_n G dX6_read_86 rfl ?_
                refine s_iload G dX6_read_87 rfl ?_
                refine s_callVi (as := [.int y69]) (st := []) (k := 36) G aw_self mdX6_isOn (fun _ h => c_X6_isOn w O l y69 z25.2.2 _ h) ⟨by decide, by decide⟩ (ce36 w) clX6 rfl qw902 rfl rfl (Nat.le_of_ble_eq_true rfl) (by decide) dX6_read_89 (fun r89 => ?_)
                refine s_if_eq (tgt := 108) G dX6_read_92 (by decide) ?_ ?_
                · refine s_iconst (v := 0) G dX6_read_108 (by decide) ?_
                  exact fun hx => hB83 0 hx
                · refine s_aload_n G dX6_read_95 rfl ?_
                  refine s_iload G dX6_read_96 rfl ?_
                  refine s_callVi (as := [.int y69]) (st := []) (k := 36) G aw_self mdX6_tangledWith (fun _ h => c_X6_tangledWith w O l y69 z25.2.2 _ h) ⟨by decide, by decide⟩ (ce36 w) clX6 rfl qw964 rfl rfl (Nat.le_of_ble_eq_true rfl) (by decide) dX6_read_98 (fun r98 => ?_)
                  refine s_if_ne (tgt := 108) G dX6_read_101 (by decide) ?_ ?_
                  · refine s_iconst (v := 1) G dX6_read_104 (by decide) ?_
                    refine s_goto (tgt := 109) G dX6_read_105 (by decide) ?_
                    exact fun hx => hB83 1 hx
                  · refine s_iconst (v := 0) G dX6_read_108 (by decide) ?_
                    exact fun hx => hB83 0 hx
          · refine s_if_eq (tgt := 78) G dX6_read_69 (by decide) ?_ ?_
            · refine s_iconst (v := (-1)) G dX6_read_78 (by decide) ?_
              refine s_keep [true, true, false, false, true, false, false, false, false, false] (lv2 := [some (.ref (w.1 36)), some (.int a1), none, none, some (.int z25.2.1), none, none, none, none, none]) rfl ?_
              exact fun hx => hB69 (-1) hx
            · refine s_lload G dX6_read_72 rfl ?_
              refine s_l2i G dX6_read_74 ?_
              refine s_goto (tgt := 79) G dX6_read_75 (by decide) ?_
              refine s_keep [true, true, false, false, true, false, false, false, false, false] (lv2 := [some (.ref (w.1 36)), some (.int a1), none, none, some (.int z25.2.1), none, none, none, none, none]) rfl ?_
              exact fun hx => hB69 v52.toInt32 hx
        · refine s_keep [true, false, false, true, false, false, false, false, false, false] (lv2 := [some (.ref (w.1 36)), none, none, some (.int z25.1), none, none, none, none, none, none]) rfl ?_
          exact fun hx => hE25 (z25.1, z25.2.2) hx
  · refine s_aload_n G dX6_read_10 rfl ?_
    refine s_iload_n G dX6_read_11 rfl ?_
    refine s_callVI (as := [.int r2]) (st := []) (k := 36) G aw_self mdX6_finds (fun _ h => c_X6_finds w O l r2 M _ h) ⟨by decide, by decide⟩ (ce36 w) clX6 rfl qw825 rfl rfl (Nat.le_of_ble_eq_true rfl) (by decide) dX6_read_12 (fun r12 => ?_)
    exact s_iret G rfl rfl dX6_read_15

set_option maxRecDepth 100000 in
set_option maxHeartbeats 4000000 in
theorem c_X6_image (w : Wx) (O : Mem) (l : Launch)  (M : Mem)  (z : Int32 × Mem) (hz : f_X6_image  M = some z) : Ct w 36 48 O l 0 muX6_image [.ref (w.1 36)] M (some (.int z.1), z.2) := by
  refine ct_of (X := f_X6_image  M) (K := fun v => some (some (.int v.1), v.2)) [some (.ref (w.1 36)), none] rfl rfl (Nat.le_of_ble_eq_true rfl) (by rw [hz]; rfl) ?_
  intro p e s m args below meth c G
  unfold f_X6_image
  refine s_iconst (v := 0) G dX6_image_0 (by decide) ?_
  refine s_istore_n (lv2 := [some (.ref (w.1 36)), some (.int 0)]) G dX6_image_1 (by decide) rfl rfl ?_
  refine s_loopG (lvf := fun z2 : Int32 × Mem => [some (.ref (w.1 36)), some (.int z2.1)]) (Mf := fun z2 : Int32 × Mem => z2.2) (ex := (fun x2_26 : Mem => (26, [some (.ref (w.1 36)), none], x2_26))) (el_one 26 (fun x2_26 : Mem => [some (.ref (w.1 36)), none]) (fun x2_26 : Mem => x2_26) (fun x2_26 => ?_)) (fun z2 K2 hB2 hE2 => ?_)
  · refine s_aload_n G dX6_image_26 rfl ?_
    refine s_iconst (v := 1) G dX6_image_27 (by decide) ?_
    refine s_put (k := 36) (j := 5) G ⟨by decide, by decide⟩ (ce36 w) (fun _ => rfl) clX6 (by decide) (fun _ => (by decide : 5 < 19)) qw760 rfl rfl rfl rfl dX6_image_28 (fun m28 => ?_)
    refine s_iconst (v := 1) G dX6_image_31 (by decide) ?_
    exact s_iret G rfl rfl dX6_image_32
  · unfold f_X6_image_L2
    refine s_iload_n G dX6_image_2 rfl ?_
    refine s_bipush (v := 63) G dX6_image_3 (by decide) ?_
    refine s_icmp_ge (tgt := 26) G dX6_image_5 (by decide) ?_ ?_
    · refine s_keep [true, false] (lv2 := [some (.ref (w.1 36)), none]) rfl ?_
      exact fun hx => hE2 z2.2 hx
    · refine s_aload_n G dX6_image_8 rfl ?_
      refine s_get (k := 36) (j := 1) G (.ref (w.1 38)) ⟨by decide, by decide⟩ (ce36 w) rfl clX6 (by decide) qw756 rfl dX6_image_9 ?_
      refine s_iload_n G dX6_image_12 rfl ?_
      refine s_aload_n G dX6_image_13 rfl ?_
      refine s_get (k := 36) (j := 0) G (.ref (w.1 37)) ⟨by decide, by decide⟩ (ce36 w) rfl clX6 (by decide) qw755 rfl dX6_image_14 ?_
      refine s_iload_n G dX6_image_17 rfl ?_
      refine s_iald (k := 37) (n := 63) G ⟨by decide, by decide⟩ (ce37 w) dX6_image_18 ?_
      refine s_iast (k := 38) (n := 63) G ⟨by decide, by decide⟩ (ce38 w) dX6_image_19 (fun m19 => ?_)
      refine s_iinc (v := (z2.1 + 1)) (lv2 := [some (.ref (w.1 36)), some (.int (z2.1 + 1))]) G dX6_image_20 rfl rfl (by decide) rfl rfl ?_
      refine s_goto (tgt := 2) G dX6_image_23 (by decide) ?_
      exact fun hx => hB2 ((z2.1 + 1), m19) hx

set_option maxRecDepth 100000 in
set_option maxHeartbeats 4000000 in
theorem c_X6_undo (w : Wx) (O : Mem) (l : Launch)  (M : Mem)  (z : Int32 × Mem) (hz : f_X6_undo  M = some z) : Ct w 36 48 O l 1 muX6_undo [.ref (w.1 36)] M (some (.int z.1), z.2) := by
  refine ct_of (X := f_X6_undo  M) (K := fun v => some (some (.int v.1), v.2)) [some (.ref (w.1 36)), none] rfl rfl (Nat.le_of_ble_eq_true rfl) (by rw [hz]; rfl) ?_
  intro p e s m args below meth c G
  unfold f_X6_undo
  refine s_aload_n G dX6_undo_0 rfl ?_
  refine s_get (k := 36) (j := 5) G (.int (gI M 36 5)) ⟨by decide, by decide⟩ (ce36 w) rfl clX6 (by decide) qw760 rfl dX6_undo_1 ?_
  refine s_if_ne (tgt := 14) G dX6_undo_4 (by decide) ?_ ?_
  · refine s_aload_n G dX6_undo_7 rfl ?_
    refine s_ldc (v := (-1000000004)) G dX6_undo_8 qw897 ?_
    refine s_callVI (as := [.int (-1000000004)]) (st := []) (k := 36) G aw_self mdX6_finds (fun _ h => c_X6_finds w O l (-1000000004) M _ h) ⟨by decide, by decide⟩ (ce36 w) clX6 rfl qw825 rfl rfl (Nat.le_of_ble_eq_true rfl) (by decide) dX6_undo_10 (fun r10 => ?_)
    exact s_iret G rfl rfl dX6_undo_13
  · refine s_iconst (v := 0) G dX6_undo_14 (by decide) ?_
    refine s_istore_n (lv2 := [some (.ref (w.1 36)), some (.int 0)]) G dX6_undo_15 (by decide) rfl rfl ?_
    refine s_loopG (lvf := fun z16 : Int32 × Mem => [some (.ref (w.1 36)), some (.int z16.1)]) (Mf := fun z16 : Int32 × Mem => z16.2) (ex := (fun x16_40 : Mem => (40, [some (.ref (w.1 36)), none], x16_40))) (el_one 40 (fun x16_40 : Mem => [some (.ref (w.1 36)), none]) (fun x16_40 : Mem => x16_40) (fun x16_40 => ?_)) (fun z16 K16 hB16 hE16 => ?_)
    · refine s_aload_n G dX6_undo_40 rfl ?_
      refine s_get (k := 36) (j := 0) G (.ref (w.1 37)) ⟨by decide, by decide⟩ (ce36 w) rfl clX6 (by decide) qw755 rfl dX6_undo_41 ?_
      refine s_iconst (v := 0) G dX6_undo_44 (by decide) ?_
      refine s_ialdC (k := 37) (n := 63) (j := 0) G ⟨by decide, by decide⟩ (ce37 w) (by decide) (by decide) dX6_undo_45 ?_
      exact s_iret G rfl rfl dX6_undo_46
    · unfold f_X6_undo_L16
      refine s_iload_n G dX6_undo_16 rfl ?_
      refine s_bipush (v := 63) G dX6_undo_17 (by decide) ?_
      refine s_icmp_ge (tgt := 40) G dX6_undo_19 (by decide) ?_ ?_
      · refine s_keep [true, false] (lv2 := [some (.ref (w.1 36)), none]) rfl ?_
        exact fun hx => hE16 z16.2 hx
      · refine s_aload_n G dX6_undo_22 rfl ?_
        refine s_get (k := 36) (j := 0) G (.ref (w.1 37)) ⟨by decide, by decide⟩ (ce36 w) rfl clX6 (by decide) qw755 rfl dX6_undo_23 ?_
        refine s_iload_n G dX6_undo_26 rfl ?_
        refine s_aload_n G dX6_undo_27 rfl ?_
        refine s_get (k := 36) (j := 1) G (.ref (w.1 38)) ⟨by decide, by decide⟩ (ce36 w) rfl clX6 (by decide) qw756 rfl dX6_undo_28 ?_
        refine s_iload_n G dX6_undo_31 rfl ?_
        refine s_iald (k := 38) (n := 63) G ⟨by decide, by decide⟩ (ce38 w) dX6_undo_32 ?_
        refine s_iast (k := 37) (n := 63) G ⟨by decide, by decide⟩ (ce37 w) dX6_undo_33 (fun m33 => ?_)
        refine s_iinc (v := (z16.1 + 1)) (lv2 := [some (.ref (w.1 36)), some (.int (z16.1 + 1))]) G dX6_undo_34 rfl rfl (by decide) rfl rfl ?_
        refine s_goto (tgt := 16) G dX6_undo_37 (by decide) ?_
        exact fun hx => hB16 ((z16.1 + 1), m33) hx

set_option maxRecDepth 100000 in
set_option maxHeartbeats 4000000 in
theorem c_X6_tear (w : Wx) (O : Mem) (l : Launch)  (M : Mem)  (z : Int32 × Mem) (hz : f_X6_tear  M = some z) : Ct w 36 48 O l 0 muX6_tear [.ref (w.1 36)] M (some (.int z.1), z.2) := by
  refine ct_of (X := f_X6_tear  M) (K := fun v => some (some (.int v.1), v.2)) [some (.ref (w.1 36)), none] rfl rfl (Nat.le_of_ble_eq_true rfl) (by rw [hz]; rfl) ?_
  intro p e s m args below meth c G
  unfold f_X6_tear
  refine s_aload_n G dX6_tear_0 rfl ?_
  refine s_get (k := 36) (j := 5) G (.int (gI M 36 5)) ⟨by decide, by decide⟩ (ce36 w) rfl clX6 (by decide) qw760 rfl dX6_tear_1 ?_
  refine s_join 12 (fun y4 : Int32 => [some (.ref (w.1 36)), none]) (fun y4 => [.int y4]) (fun y4 => M) (fun y4 => ?_) (fun K4 hB4 => ?_)
  · refine s_istore_n (lv2 := [some (.ref (w.1 36)), some (.int y4)]) G dX6_tear_12 (by decide) rfl rfl ?_
    refine s_aload_n G dX6_tear_13 rfl ?_
    refine s_iconst (v := 0) G dX6_tear_14 (by decide) ?_
    refine s_put (k := 36) (j := 5) G ⟨by decide, by decide⟩ (ce36 w) (fun _ => rfl) clX6 (by decide) (fun _ => (by decide : 5 < 19)) qw760 rfl rfl rfl rfl dX6_tear_15 (fun m15 => ?_)
    refine s_iload_n G dX6_tear_18 rfl ?_
    exact s_iret G rfl rfl dX6_tear_19
  · refine s_if_eq (tgt := 11) G dX6_tear_4 (by decide) ?_ ?_
    · refine s_iconst (v := 0) G dX6_tear_11 (by decide) ?_
      exact fun hx => hB4 0 hx
    · refine s_iconst (v := 1) G dX6_tear_7 (by decide) ?_
      refine s_goto (tgt := 12) G dX6_tear_8 (by decide) ?_
      exact fun hx => hB4 1 hx

set_option maxRecDepth 100000 in
set_option maxHeartbeats 4000000 in
theorem c_X6_count (w : Wx) (O : Mem) (l : Launch) (a1 : Int32) (M : Mem)  (z : Int32 × Mem) (hz : f_X6_count a1 M = some z) : Ct w 36 48 O l 4 muX6_count [.ref (w.1 36), .int a1] M (some (.int z.1), z.2) := by
  refine ct_of (X := f_X6_count a1 M) (K := fun v => some (some (.int v.1), v.2)) [some (.ref (w.1 36)), some (.int a1)] rfl rfl (Nat.le_of_ble_eq_true rfl) (by rw [hz]; rfl) ?_
  intro p e s m args below meth c G
  unfold f_X6_count
  refine s_iload_n G dX6_count_0 rfl ?_
  refine s_tabIn (v := 0) (off := 31) (tgt := 32) G dX6_count_1 (by decide) (by decide) (by decide) (by decide) ?_ (fun h1_0 => ?_)
  · refine s_aload_n G dX6_count_32 rfl ?_
    refine s_get (k := 36) (j := 0) G (.ref (w.1 37)) ⟨by decide, by decide⟩ (ce36 w) rfl clX6 (by decide) qw755 rfl dX6_count_33 ?_
    refine s_iconst (v := 0) G dX6_count_36 (by decide) ?_
    refine s_ialdC (k := 37) (n := 63) (j := 0) G ⟨by decide, by decide⟩ (ce37 w) (by decide) (by decide) dX6_count_37 ?_
    exact s_iret G rfl rfl dX6_count_38
  · refine s_tabIn (v := 1) (off := 38) (tgt := 39) G dX6_count_1 (by decide) (by decide) (by decide) (by decide) ?_ (fun h1_1 => ?_)
    · refine s_aload_n G dX6_count_39 rfl ?_
      refine s_get (k := 36) (j := 10) G (.int (gI M 36 10)) ⟨by decide, by decide⟩ (ce36 w) rfl clX6 (by decide) qw765 rfl dX6_count_40 ?_
      exact s_iret G rfl rfl dX6_count_43
    · refine s_tabIn (v := 2) (off := 43) (tgt := 44) G dX6_count_1 (by decide) (by decide) (by decide) (by decide) ?_ (fun h1_2 => ?_)
      · refine s_aload_n G dX6_count_44 rfl ?_
        refine s_callVi (as := []) (st := []) (k := 36) G aw_self mdX6_onRail (fun _ h => c_X6_onRail w O l M _ h) ⟨by decide, by decide⟩ (ce36 w) clX6 rfl qw919 rfl rfl (Nat.le_of_ble_eq_true rfl) (by decide) dX6_count_45 (fun r45 => ?_)
        refine s_callSi (as := [.int r45]) (st := []) G aw_self mdX6_ones (fun _ h => c_X6_ones w O l r45 M _ h) qw923 rfl rfl (Nat.le_of_ble_eq_true rfl) (by decide) dX6_count_48 (fun r48 => ?_)
        exact s_iret G rfl rfl dX6_count_51
      · refine s_tabIn (v := 3) (off := 51) (tgt := 52) G dX6_count_1 (by decide) (by decide) (by decide) (by decide) ?_ (fun h1_3 => ?_)
        · refine s_aload_n G dX6_count_52 rfl ?_
          refine s_iconst (v := 2) G dX6_count_53 (by decide) ?_
          refine s_callVi (as := [.int 2]) (st := []) (k := 36) G aw_self mdX6_together (fun _ h => c_X6_together w O l 2 M _ h) ⟨by decide, by decide⟩ (ce36 w) clX6 rfl qw992 rfl rfl (Nat.le_of_ble_eq_true rfl) (by decide) dX6_count_54 (fun r54 => ?_)
          exact s_iret G rfl rfl dX6_count_57
        · refine s_tabOut (tgt := 58) G dX6_count_1 (by have e0 := lv_neT (a := 0) h1_0 (by decide); have e1 := lv_neT (a := 1) h1_1 (by decide); have e2 := lv_neT (a := 2) h1_2 (by decide); have e3 := lv_neT (a := 3) h1_3 (by decide); omega) (by decide) ?_
          refine s_aload_n G dX6_count_58 rfl ?_
          refine s_ldc (v := (-1000000001)) G dX6_count_59 qw824 ?_
          refine s_callVI (as := [.int (-1000000001)]) (st := []) (k := 36) G aw_self mdX6_finds (fun _ h => c_X6_finds w O l (-1000000001) M _ h) ⟨by decide, by decide⟩ (ce36 w) clX6 rfl qw825 rfl rfl (Nat.le_of_ble_eq_true rfl) (by decide) dX6_count_61 (fun r61 => ?_)
          exact s_iret G rfl rfl dX6_count_64

set_option maxRecDepth 100000 in
set_option maxHeartbeats 4000000 in
theorem c_X6_status (w : Wx) (O : Mem) (l : Launch) (a1 : Int32) (M : Mem)  (z : Int32 × Mem) (hz : f_X6_status a1 M = some z) : Ct w 36 48 O l 1 muX6_status [.ref (w.1 36), .int a1] M (some (.int z.1), z.2) := by
  refine ct_of (X := f_X6_status a1 M) (K := fun v => some (some (.int v.1), v.2)) [some (.ref (w.1 36)), some (.int a1), none, none] rfl rfl (Nat.le_of_ble_eq_true rfl) (by rw [hz]; rfl) ?_
  intro p e s m args below meth c G
  unfold f_X6_status
  refine s_iload_n G dX6_status_0 rfl ?_
  refine s_i2l G dX6_status_1 ?_
  refine s_ldc2 (v := (-1)) G dX6_status_2 qw1197 ?_
  refine s_ldc2 (v := 6) G dX6_status_5 qw845 ?_
  refine s_callSi (as := [.long a1.toInt64, .long (-1), .long 6]) (st := []) G aw_self mdX6_in (fun _ h => c_X6_in w O l a1.toInt64 (-1) 6 M _ h) qw821 rfl rfl (Nat.le_of_ble_eq_true rfl) (by decide) dX6_status_8 (fun r8 => ?_)
  refine s_if_ne (tgt := 21) G dX6_status_11 (by decide) ?_ ?_
  · refine s_aload_n G dX6_status_14 rfl ?_
    refine s_ldc (v := (-1000000001)) G dX6_status_15 qw824 ?_
    refine s_callVI (as := [.int (-1000000001)]) (st := []) (k := 36) G aw_self mdX6_finds (fun _ h => c_X6_finds w O l (-1000000001) M _ h) ⟨by decide, by decide⟩ (ce36 w) clX6 rfl qw825 rfl rfl (Nat.le_of_ble_eq_true rfl) (by decide) dX6_status_17 (fun r17 => ?_)
    exact s_iret G rfl rfl dX6_status_20
  · refine s_iconst (v := 0) G dX6_status_21 (by decide) ?_
    refine s_istore_n (lv2 := [some (.ref (w.1 36)), some (.int a1), some (.int 0), none]) G dX6_status_22 (by decide) rfl rfl ?_
    refine s_iconst (v := 0) G dX6_status_23 (by decide) ?_
    refine s_istore_n (lv2 := [some (.ref (w.1 36)), some (.int a1), some (.int 0), some (.int 0)]) G dX6_status_24 (by decide) rfl rfl ?_
    refine s_loopG (lvf := fun z25 : Int32 × Int32 => [some (.ref (w.1 36)), some (.int a1), some (.int z25.1), some (.int z25.2)]) (Mf := fun z25 : Int32 × Int32 => M) (ex := (fun x25_59 : Int32 => (59, [none, none, some (.int x25_59), none], M))) (el_one 59 (fun x25_59 : Int32 => [none, none, some (.int x25_59), none]) (fun x25_59 : Int32 => M) (fun x25_59 => ?_)) (fun z25 K25 hB25 hE25 => ?_)
    · refine s_iload_n G dX6_status_59 rfl ?_
      exact s_iret G rfl rfl dX6_status_60
    · unfold f_X6_status_L25
      refine s_iload_n G dX6_status_25 rfl ?_
      refine s_bipush (v := 7) G dX6_status_26 (by decide) ?_
      refine s_icmp_ge (tgt := 59) G dX6_status_28 (by decide) ?_ ?_
      · refine s_keep [false, false, true, false] (lv2 := [none, none, some (.int z25.1), none]) rfl ?_
        exact fun hx => hE25 z25.1 hx
      · refine s_iload_n G dX6_status_31 rfl ?_
        refine s_iload_n G dX6_status_32 rfl ?_
        refine s_join 51 (fun y33 : Int32 => [some (.ref (w.1 36)), some (.int a1), none, some (.int z25.2)]) (fun y33 => [.int y33, .int z25.1]) (fun y33 => M) (fun y33 => ?_) (fun K33 hB33 => ?_)
        · refine s_iadd G dX6_status_51 ?_
          refine s_name (f := Value.int) (fun v52 => ?_)
          refine s_istore_n (lv2 := [some (.ref (w.1 36)), some (.int a1), some (.int v52), some (.int z25.2)]) G dX6_status_52 (by decide) rfl rfl ?_
          refine s_iinc (v := (z25.2 + 1)) (lv2 := [some (.ref (w.1 36)), some (.int a1), some (.int v52), some (.int (z25.2 + 1))]) G dX6_status_53 rfl rfl (by decide) rfl rfl ?_
          refine s_goto (tgt := 25) G dX6_status_56 (by decide) ?_
          exact fun hx => hB25 (v52, (z25.2 + 1)) hx
        · refine s_if_lt (tgt := 41) G dX6_status_33 (by decide) ?_ ?_
          · refine s_aload_n G dX6_status_41 rfl ?_
            refine s_get (k := 36) (j := 4) G (.ref (w.1 41)) ⟨by decide, by decide⟩ (ce36 w) rfl clX6 (by decide) qw759 rfl dX6_status_42 ?_
            refine s_iload_n G dX6_status_45 rfl ?_
            refine s_iald (k := 41) (n := 7) G ⟨by decide, by decide⟩ (ce41 w) dX6_status_46 ?_
            refine s_goto (tgt := 51) G dX6_status_47 (by decide) ?_
            refine s_keep [true, true, false, true] (lv2 := [some (.ref (w.1 36)), some (.int a1), none, some (.int z25.2)]) rfl ?_
            exact fun hx => hB33 (gI M 41 z25.2.toNatClampNeg) hx
          · refine s_iload_n G dX6_status_36 rfl ?_
            refine s_iload_n G dX6_status_37 rfl ?_
            refine s_icmp_ne (tgt := 50) G dX6_status_38 (by decide) ?_ ?_
            · refine s_aload_n G dX6_status_41 rfl ?_
              refine s_get (k := 36) (j := 4) G (.ref (w.1 41)) ⟨by decide, by decide⟩ (ce36 w) rfl clX6 (by decide) qw759 rfl dX6_status_42 ?_
              refine s_iload_n G dX6_status_45 rfl ?_
              refine s_iald (k := 41) (n := 7) G ⟨by decide, by decide⟩ (ce41 w) dX6_status_46 ?_
              refine s_goto (tgt := 51) G dX6_status_47 (by decide) ?_
              refine s_keep [true, true, false, true] (lv2 := [some (.ref (w.1 36)), some (.int a1), none, some (.int z25.2)]) rfl ?_
              exact fun hx => hB33 (gI M 41 z25.2.toNatClampNeg) hx
            · refine s_iconst (v := 0) G dX6_status_50 (by decide) ?_
              refine s_keep [true, true, false, true] (lv2 := [some (.ref (w.1 36)), some (.int a1), none, some (.int z25.2)]) rfl ?_
              exact fun hx => hB33 0 hx
