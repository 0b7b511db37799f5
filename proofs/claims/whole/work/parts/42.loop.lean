/-! THE LAW: its loop -/
section LOOP
variable {p : Program} {l : Launch} {e : Env} {s : State} {m : MethodId} {below : List Frame} {meth : Method} {c : Code} {w : Wx} {b L : Nat} {xs : Nat → Int32} {cs sl : Nat} {Q : State → Prop} {M N : Mem}
set_option maxRecDepth 100000 in
set_option maxHeartbeats 4000000 in
theorem lw_sw (G36 : LG p s m meth c w b 36 cs sl) (G48 : LG p s m meth c w b 48 cs sl) (hX : va_X b L xs s s.heap) (hbl : b < s.heap.size) (hL : L ≤ 3072) {j : Nat} (hj : j + 6 ≤ L) (R : Rel M N) (k : ∀ M2 N2, Rel M2 N2 → LwP p l e s m below meth c w b cs sl Q 0 36 N2 1276 (lvw w b j) [] M2) {t : Nat} (ht : t < 64) : LwP p l e s m below meth c w b cs sl Q 0 36 N 33 (lvw w b j) [.int (nI t)] M := by
  by_cases q : t < 41
  · match t, q with
    | 0, _ => exact a_tab G36 (tgt := 212) dL_law_33 (by decide) (by decide) rfl (by decide) (lc_0 G36 G48 hX hbl hL hj R k)
    | 1, _ => exact a_tab G36 (tgt := 235) dL_law_33 (by decide) (by decide) rfl (by decide) (lc_1 G36 G48 hX hbl hL hj R k)
    | 2, _ => exact a_tab G36 (tgt := 268) dL_law_33 (by decide) (by decide) rfl (by decide) (lc_2 G36 G48 hX hbl hL hj R k)
    | 3, _ => exact a_tab G36 (tgt := 311) dL_law_33 (by decide) (by decide) rfl (by decide) (lc_3 G36 G48 hX hbl hL hj R k)
    | 4, _ => exact a_tab G36 (tgt := 344) dL_law_33 (by decide) (by decide) rfl (by decide) (lc_4 G36 G48 hX hbl hL hj R k)
    | 5, _ => exact a_tab G36 (tgt := 377) dL_law_33 (by decide) (by decide) rfl (by decide) (lc_5 G36 G48 hX hbl hL hj R k)
    | 6, _ => exact a_tab G36 (tgt := 400) dL_law_33 (by decide) (by decide) rfl (by decide) (lc_6 G36 G48 hX hbl hL hj R k)
    | 7, _ => exact a_tab G36 (tgt := 423) dL_law_33 (by decide) (by decide) rfl (by decide) (lc_7 G36 G48 hX hbl hL hj R k)
    | 8, _ => exact a_tab G36 (tgt := 456) dL_law_33 (by decide) (by decide) rfl (by decide) (lc_8 G36 G48 hX hbl hL hj R k)
    | 9, _ => exact a_tab G36 (tgt := 479) dL_law_33 (by decide) (by decide) rfl (by decide) (lc_9 G36 G48 hX hbl hL hj R k)
    | 10, _ => exact a_tab G36 (tgt := 512) dL_law_33 (by decide) (by decide) rfl (by decide) (lc_10 G36 G48 hX hbl hL hj R k)
    | 11, _ => exact a_tab G36 (tgt := 545) dL_law_33 (by decide) (by decide) rfl (by decide) (lc_11 G36 G48 hX hbl hL hj R k)
    | 12, _ => exact a_tab G36 (tgt := 568) dL_law_33 (by decide) (by decide) rfl (by decide) (lc_12 G36 G48 hX hbl hL hj R k)
    | 13, _ => exact a_tab G36 (tgt := 591) dL_law_33 (by decide) (by decide) rfl (by decide) (lc_13 G36 G48 hX hbl hL hj R k)
    | 14, _ => exact a_tab G36 (tgt := 624) dL_law_33 (by decide) (by decide) rfl (by decide) (lc_14 G36 G48 hX hbl hL hj R k)
    | 15, _ => exact a_tab G36 (tgt := 657) dL_law_33 (by decide) (by decide) rfl (by decide) (lc_15 G36 G48 hX hbl hL hj R k)
    | 16, _ => exact a_tab G36 (tgt := 690) dL_law_33 (by decide) (by decide) rfl (by decide) (lc_16 G36 G48 hX hbl hL hj R k)
    | 17, _ => exact a_tab G36 (tgt := 703) dL_law_33 (by decide) (by decide) rfl (by decide) (lc_17 G36 G48 hX hbl hL hj R k)
    | 18, _ => exact a_tab G36 (tgt := 716) dL_law_33 (by decide) (by decide) rfl (by decide) (lc_18 G36 G48 hX hbl hL hj R k)
    | 19, _ => exact a_tab G36 (tgt := 739) dL_law_33 (by decide) (by decide) rfl (by decide) (lc_19 G36 G48 hX hbl hL hj R k)
    | 20, _ => exact a_tab G36 (tgt := 752) dL_law_33 (by decide) (by decide) rfl (by decide) (lc_20 G36 G48 hX hbl hL hj R k)
    | 21, _ => exact a_tab G36 (tgt := 775) dL_law_33 (by decide) (by decide) rfl (by decide) (lc_21 G36 G48 hX hbl hL hj R k)
    | 22, _ => exact a_tab G36 (tgt := 788) dL_law_33 (by decide) (by decide) rfl (by decide) (lc_22 G36 G48 hX hbl hL hj R k)
    | 23, _ => exact a_tab G36 (tgt := 811) dL_law_33 (by decide) (by decide) rfl (by decide) (lc_23 G36 G48 hX hbl hL hj R k)
    | 24, _ => exact a_tab G36 (tgt := 824) dL_law_33 (by decide) (by decide) rfl (by decide) (lc_24 G36 G48 hX hbl hL hj R k)
    | 25, _ => exact a_tab G36 (tgt := 837) dL_law_33 (by decide) (by decide) rfl (by decide) (lc_25 G36 G48 hX hbl hL hj R k)
    | 26, _ => exact a_tab G36 (tgt := 860) dL_law_33 (by decide) (by decide) rfl (by decide) (lc_26 G36 G48 hX hbl hL hj R k)
    | 27, _ => exact a_tab G36 (tgt := 883) dL_law_33 (by decide) (by decide) rfl (by decide) (lc_27 G36 G48 hX hbl hL hj R k)
    | 28, _ => exact a_tab G36 (tgt := 916) dL_law_33 (by decide) (by decide) rfl (by decide) (lc_28 G36 G48 hX hbl hL hj R k)
    | 29, _ => exact a_tab G36 (tgt := 929) dL_law_33 (by decide) (by decide) rfl (by decide) (lc_29 G36 G48 hX hbl hL hj R k)
    | 30, _ => exact a_tab G36 (tgt := 942) dL_law_33 (by decide) (by decide) rfl (by decide) (lc_30 G36 G48 hX hbl hL hj R k)
    | 31, _ => exact a_tab G36 (tgt := 985) dL_law_33 (by decide) (by decide) rfl (by decide) (lc_31 G36 G48 hX hbl hL hj R k)
    | 32, _ => exact a_tab G36 (tgt := 1059) dL_law_33 (by decide) (by decide) rfl (by decide) (lc_32 G36 G48 hX hbl hL hj R k)
    | 33, _ => exact a_tab G36 (tgt := 1122) dL_law_33 (by decide) (by decide) rfl (by decide) (lc_33 G36 G48 hX hbl hL hj R k)
    | 34, _ => exact a_tab G36 (tgt := 1145) dL_law_33 (by decide) (by decide) rfl (by decide) (lc_34 G36 G48 hX hbl hL hj R k)
    | 35, _ => exact a_tab G36 (tgt := 1168) dL_law_33 (by decide) (by decide) rfl (by decide) (lc_35 G36 G48 hX hbl hL hj R k)
    | 36, _ => exact a_tab G36 (tgt := 1191) dL_law_33 (by decide) (by decide) rfl (by decide) (lc_36 G36 G48 hX hbl hL hj R k)
    | 37, _ => exact a_tab G36 (tgt := 1204) dL_law_33 (by decide) (by decide) rfl (by decide) (lc_37 G36 G48 hX hbl hL hj R k)
    | 38, _ => exact a_tab G36 (tgt := 1217) dL_law_33 (by decide) (by decide) rfl (by decide) (lc_38 G36 G48 hX hbl hL hj R k)
    | 39, _ => exact a_tab G36 (tgt := 1230) dL_law_33 (by decide) (by decide) rfl (by decide) (lc_39 G36 G48 hX hbl hL hj R k)
    | 40, _ => exact a_tab G36 (tgt := 1253) dL_law_33 (by decide) (by decide) rfl (by decide) (lc_40 G36 G48 hX hbl hL hj R k)
    | t + 41, q => exact absurd q (by omega)
  · refine a_tabO G36 (tgt := 1276) dL_law_33 (Or.inr ?_) (by decide) (k M N R)
    rw [nI_t (by omega)]
    omega
set_option maxRecDepth 100000 in
set_option maxHeartbeats 4000000 in
theorem lw_loop (G36 : LG p s m meth c w b 36 cs sl) (G48 : LG p s m meth c w b 48 cs sl) (hX : va_X b L xs s s.heap) (hbl : b < s.heap.size) (hL : L ≤ 3072) (hend : ∀ lv M N, LwP p l e s m below meth c w b cs sl Q 0 36 N 1282 lv [] M) : ∀ (n j : Nat) (M N : Mem), L ≤ j + n → j ≤ L + 6 → Rel M N → LwP p l e s m below meth c w b cs sl Q 0 36 N 18 (lvw w b j) [] M := by
  have hlen : ∀ j, j ≤ L + 6 → ((Int32.ofNat L - 6 < nI j) ↔ ¬ j + 6 ≤ L) := by
    intro j hj
    rw [i_lt, show (Int32.ofNat L - 6).toInt = (L : Int) - 6 from pk_sub_toInt (a := L) (b := 6) (by omega) (by decide), nI_t (by omega)]
    omega
  have hd : ∀ (j : Nat) (M N : Mem), j ≤ L + 6 → (j + 6 ≤ L → LwP p l e s m below meth c w b cs sl Q 0 36 N 27 (lvw w b j) [] M) → LwP p l e s m below meth c w b cs sl Q 0 36 N 18 (lvw w b j) [] M := by
    intro j M N hj k
    refine a_il G36 dL_law_18 rfl ?_
    refine a_al G36 (i := 0) dL_law_19 rfl ?_
    refine a_slen G36 hX hbl dL_law_20 ?_
    refine a_bip G36 (v := 6) dL_law_21 (by decide) ?_
    refine a_isub G36 dL_law_23 ?_
    refine a_gt G36 (tgt := 1282) dL_law_24 (by decide) (fun _ => hend _ M N) (fun h => k ?_)
    exact Classical.byContradiction fun z => h ((hlen j hj).mpr z)
  intro n
  induction n with
  | zero => intro j M N h1 h2 R; exact hd j M N h2 (fun z => by omega)
  | succ n ih =>
    intro j M N h1 h2 R
    refine hd j M N h2 (fun hj => ?_)
    refine a_al G36 (i := 0) dL_law_27 rfl ?_
    refine a_il G36 dL_law_28 rfl ?_
    refine a_sld G36 hX hbl (vp_in_nI (show j < L by omega) (by omega)) dL_law_29 ?_
    refine a_bip G36 (v := 63) dL_law_30 (by decide) ?_
    refine a_iand G36 dL_law_32 ?_
    obtain ⟨t, t1, t2⟩ := pk_andE (xs (nI j).toNatClampNeg) (m := 63) 6 (by decide)
    rw [t2]
    refine lw_sw G36 G48 hX hbl hL hj R (fun M2 N2 R2 => ?_) t1
    refine a_inc G36 dL_law_1276 ?_
    refine a_goto G36 (tgt := 18) dL_law_1279 (by decide) ?_
    exact ih (j + 6) M2 N2 (by omega) (by omega) R2
end LOOP
