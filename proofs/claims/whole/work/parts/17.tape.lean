/-! PURE: count, status, feed -/
section TAPE
variable {M N M2 N2 : Mem} {a : AR}
theorem Rel.tape (h : Rel M N) (hC : ∀ k j, k ≠ 23 → k ≠ 24 → gI M2 k j = gI M k j) (hCJ : ∀ k j, gJ M2 k j = gJ M k j) (hN : ∀ k j, k ≠ 43 → (k = 36 → j ≠ 10) → gI N2 k j = gI N k j) (hNJ : ∀ k j, gJ N2 k j = gJ N k j) (ht : TPR M2 N2) : Rel M2 N2 := by
  obtain ⟨⟨a, hw, hc, hm⟩, ⟨k1, k2, k3⟩, hst, -, hsh⟩ := h
  refine ⟨⟨a, hw, hc.of (fun k j q1 q2 => hC k j (by omega) (by omega)), hm.of (fun j => hN 37 j (by decide) (by omega))⟩, ⟨?_, ?_, ?_⟩, ?_, ht, ?_⟩
  · rw [hC _ _ (by decide) (by decide)]; exact k1
  · rw [hC _ _ (by decide) (by decide), hN 36 5 (by decide) (by decide)]; exact k2
  · rw [hC _ _ (by decide) (by decide)]
    intro q
    obtain ⟨b, b1, b2, b3⟩ := k3 q
    exact ⟨b, b1, b2.of (fun k j c1 c2 => hC k j (by omega) (by omega)), b3.of (fun j => hN 38 j (by decide) (by omega))⟩
  · intro i hi; rw [hC _ _ (by decide) (by decide), hN 41 i (by decide) (by omega)]; exact hst i hi
  · intro s hs
    obtain ⟨b, z, q1, q2, q3, q4, q5, q6, q7, q8⟩ := hsh s hs
    refine ⟨b, z, ?_, ?_, q3, ?_, ?_, q6, q7, fun i hi => ?_⟩
    · rw [hC _ _ (by omega) (by omega)]; exact q1
    · rw [hN 44 _ (by decide) (by omega)]; exact q2
    · rw [hC _ _ (by omega) (by omega)]; exact q4
    · rw [hN 45 _ (by decide) (by omega)]; exact q5
    · rw [hCJ, hNJ]; exact q8 i hi
theorem Rel.sheet (h : Rel M N) (hC : ∀ k j, ¬ (27 ≤ k ∧ k < 35) → gI M2 k j = gI M k j) (hN : ∀ k j, k ≠ 44 → k ≠ 45 → gI N2 k j = gI N k j) (hs : SHR M2 N2) : Rel M2 N2 := by
  obtain ⟨⟨a, hw, hc, hm⟩, ⟨k1, k2, k3⟩, hst, ⟨t, t0, t1, t2, t3⟩, -⟩ := h
  refine ⟨⟨a, hw, hc.of (fun k j q1 q2 => hC k j (by omega)), hm.of (fun j => hN 37 j (by decide) (by decide))⟩, ⟨?_, ?_, ?_⟩, ?_, ⟨t, t0, ?_, ?_, ?_⟩, hs⟩
  · rw [hC _ _ (by decide)]; exact k1
  · rw [hC _ _ (by decide), hN 36 5 (by decide) (by decide)]; exact k2
  · rw [hC _ _ (by decide)]
    intro q
    obtain ⟨b, b1, b2, b3⟩ := k3 q
    exact ⟨b, b1, b2.of (fun k j c1 c2 => hC k j (by omega)), b3.of (fun j => hN 38 j (by decide) (by decide))⟩
  · intro i hi; rw [hC _ _ (by decide), hN 41 i (by decide) (by decide)]; exact hst i hi
  · rw [hC _ _ (by decide)]; exact t1
  · rw [hN 36 10 (by decide) (by decide)]; exact t2
  · intro j hj; rw [hC _ _ (by decide), hN 43 j (by decide) (by decide)]; exact t3 j hj
def sm (f : Nat → Nat) : Nat → Nat
  | 0 => 0
  | k + 1 => sm f k + f k
theorem sm_ct (S : Nat → Bool) : ∀ k, sm (fun h => if S h then 1 else 0) k = ct S k := by
  intro k
  induction k with
  | zero => rfl
  | succ k ih => rw [sm, ct, ih]
theorem sm_ext {f g : Nat → Nat} : ∀ {k : Nat}, (∀ i, i < k → f i = g i) → sm f k = sm g k := by
  intro k
  induction k with
  | zero => intro _; rfl
  | succ k ih => intro h; rw [sm, sm, ih (fun i hi => h i (by omega)), h k (by omega)]
theorem ct_widen {S : Nat → Bool} {k : Nat} : ∀ {n : Nat}, k ≤ n → (∀ i, k ≤ i → S i = false) → ct S n = ct S k := by
  intro n
  induction n with
  | zero => intro hk h; rw [show k = 0 by omega]
  | succ n ih =>
    intro hk h
    by_cases e : k = n + 1
    · rw [e]
    · rw [ct, ih (by omega) h, h n (by omega)]; rfl
theorem X6_together (hw : WF a) (hm : MR N 37 a) {w : Int32} {f : Nat → Nat} (hf : ∀ h, h < aN a → f_X6_its (nI h) w N = some (nI (f h))) : f_X6_together w N = some (nI (sm f (aN a))) := by
  unfold f_X6_together
  have hn := hw.1
  refine (lp_go (r := nI (sm f (aN a))) (fun k => (nI (sm f k), nI k)) (aN a) rfl ?_ ?_ (by rw [FU_v]; omega)).trans rfl
  · intro k hk
    unfold f_X6_together_L4
    dsimp only
    rw [hm.1, if_neg (nI_ge hk (by omega)), hf k hk]
    simp only [Option.bind_some, bn_e]
    rw [nI_add, nI_1]; rfl
  · unfold f_X6_together_L4
    dsimp only
    rw [hm.1, if_pos (nI_le (Nat.le_refl _) (by omega))]
theorem p_count (h : Rel M N) (x : Int32) : Same (f_X5_count x M) (f_X6_count x N) := by
  obtain ⟨a, hw, hc, hm⟩ := h.1
  obtain ⟨t, t0, t1, t2, t3⟩ := h.2.2.2.1
  unfold f_X5_count f_X6_count
  simp only [bnd_eta]
  by_cases x0 : x = 0
  · rw [if_pos x0, if_pos x0, hc.1, hm.1]; exact same_rd h _
  · rw [if_neg x0, if_neg x0]
    by_cases x1 : x = 1
    · rw [if_pos x1, if_pos x1, t1, t2]; exact same_rd h _
    · rw [if_neg x1, if_neg x1]
      by_cases x2 : x = 2
      · rw [if_pos x2, if_pos x2, X0_up hw hc, X6_onRail hw hm]
        simp only [Option.bind_some]
        rw [bc_spec _ (ms12 _), ones_spec _ (ms12 _)]
        exact same_rd h _
      · rw [if_neg x2, if_neg x2]
        by_cases x3 : x = 3
        · have hT := X6_together (w := 2) hw hm (f := fun g => if aFc a g then 1 else 0) (fun g hg => by
            rw [N_fc hw hm hg]
            cases aFc a g <;> rfl)
          rw [if_pos x3, if_pos x3, C_bk hc, bc_spec _ (ms12 _), hT, sm_ct, pc_ms, ct_widen hw.1 (fun i hi => fc_none hw hi)]
          exact same_rd h _
        · rw [if_neg x3, if_neg x3]
          exact same_find h 0 (by decide) (by decide)
theorem p_status (h : Rel M N) (x : Int32) : Same (f_X5_status x M) (f_X6_status x N) := by
  have hst := h.2.2.1
  unfold f_X5_status f_X6_status
  simp only [bnd_eta]
  rw [in_spec, i_j]
  simp only [Option.bind_some, b2_0]
  have em1 : (-1 : Int32).toInt = -1 := rfl
  have e7 : (7 : Int32).toInt = 7 := rfl
  have e0 : (0 : Int32).toInt = 0 := rfl
  have jm1 : (-1 : Int64).toInt = -1 := rfl
  have j6 : (6 : Int64).toInt = 6 := rfl
  rw [jm1, j6]
  by_cases hx : -1 ≤ x.toInt ∧ x.toInt ≤ 6
  · have g1 : ¬ x < (-1) := by rw [i_lt]; omega
    have g2 : x < 7 := by rw [i_lt]; omega
    rw [if_neg (not_not_intro hx), if_neg g1, if_pos g2]
    by_cases h0 : x < 0
    · rw [if_pos h0]
      have key : ∀ k, k ≤ 7 → ∃ v : Nat → Int32, v 0 = 0 ∧ ∀ i, i < 7 → v (i + 1) = v i + gI M 35 i := fun k _ => ⟨fun n => Nat.rec 0 (fun i r => r + gI M 35 i) n, rfl, fun i _ => rfl⟩
      obtain ⟨v, v0, vs⟩ := key 7 (by decide)
      have l1 := lp_go (f := f_X5_status_L33 M) (F := FU) (s0 := (0, 0)) (k := fun x33_54 : Int32 => some (x33_54, M)) (r := v 7) (fun k => (v k, nI k)) 7 (by rw [v0]; rfl) (fun k hk => by
        unfold f_X5_status_L33
        dsimp only
        have g : ¬ (7 : Int32) ≤ nI k := nI_ge (a := k) (b := 7) hk (by decide)
        rw [if_neg g, if_pos (inR_nI hk (by decide)), cl_nI (by omega), nI_1, vs k hk]; rfl) (by rfl) (by rw [FU_v]; omega)
      have l2 := lp_go (f := f_X6_status_L25 x N) (F := FU) (s0 := (0, 0)) (k := fun x25_59 : Int32 => some (x25_59, N)) (r := v 7) (fun k => (v k, nI k)) 7 (by rw [v0]; rfl) (fun k hk => by
        unfold f_X6_status_L25
        dsimp only
        have g : ¬ (7 : Int32) ≤ nI k := nI_ge (a := k) (b := 7) hk (by decide)
        rw [if_neg g, if_pos h0, if_pos (inR_nI hk (by decide)), cl_nI (by omega), nI_1, vs k hk, hst k hk]; rfl) (by rfl) (by rw [FU_v]; omega)
      rw [l1, l2]
      exact same_rd h _
    · rw [if_neg h0]
      rw [i_lt] at h0
      obtain ⟨q, hq, rfl⟩ := ix_of (x := x) (n := 7) ⟨by omega, by omega⟩ (by decide)
      rw [if_pos (inR_nI hq (by decide)), cl_nI (by omega)]
      have l2 := lp_go (f := f_X6_status_L25 (nI q) N) (F := FU) (s0 := (0, 0)) (k := fun x25_59 : Int32 => some (x25_59, N)) (r := gI N 41 q) (fun k => (if q < k then gI N 41 q else 0, nI k)) 7 rfl (fun k hk => by
        unfold f_X6_status_L25
        dsimp only
        have g : ¬ (7 : Int32) ≤ nI k := nI_ge (a := k) (b := 7) hk (by decide)
        rw [if_neg g, if_neg (nI_pos (by omega))]
        by_cases e : k = q
        · subst e
          rw [if_pos rfl, if_pos (inR_nI hk (by decide)), cl_nI (by omega), nI_1, if_neg (Nat.lt_irrefl k), if_pos (Nat.lt_succ_self k)]
          show some (Sum.inl (0 + gI N 41 k, _)) = _
          rw [Int32.zero_add]
        · rw [if_neg (fun z => e ((nI_eq (by omega) (by omega)).mp z)), nI_1]
          show some (Sum.inl ((if q < k then gI N 41 q else 0) + 0, _)) = _
          rw [Int32.add_zero, if_c (show q < k + 1 ↔ q < k by omega)]) (by
        unfold f_X6_status_L25
        dsimp only
        rw [if_pos (by decide), if_pos hq]) (by rw [FU_v]; omega)
      rw [l2, hst q hq]
      exact same_rd h _
  · rw [if_pos hx]
    by_cases g1 : x < (-1)
    · rw [if_pos g1]; exact same_find h 0 (by decide) (by decide)
    · have g2 : ¬ x < 7 := by rw [i_lt] at g1 ⊢; omega
      rw [if_neg g1, if_neg g2]; exact same_find h 0 (by decide) (by decide)
theorem byte_of (v : Int32) : ∃ c, c < 256 ∧ v &&& 255 = nI c ∧ v.toInt8.toInt32.toInt8.toInt32 = (nI c).toInt8.toInt32 := by
  obtain ⟨c, hc, e⟩ := pk_andE v (m := 255) 8 rfl
  refine ⟨c, hc, e, ?_⟩
  rw [← e]
  have h1 : (v &&& 255).toInt8 = v.toInt8 := by
    apply Int8.toBitVec_inj.1
    show (v &&& 255).toBitVec.signExtend 8 = v.toBitVec.signExtend 8
    apply BitVec.eq_of_getLsbD_eq
    intro i hi
    have h2 : (255#32).getLsbD i = true := (by decide +kernel : ∀ i, i < 8 → (255#32).getLsbD i = true) i hi
    have h3 : (v &&& 255).toBitVec = v.toBitVec &&& 255#32 := rfl
    rw [h3, BitVec.getLsbD_signExtend, BitVec.getLsbD_signExtend]
    simp [hi, h2, show i < 32 by omega]
  rw [h1]
  simp
/-- a byte comes behind the tape -/
theorem Rel.byte (h : Rel M N) {t : Nat} (t1 : gI M 23 1 = nI t) (ht : t < 120) (v : Int32) : Rel (sI (sI M 24 t (v.toInt8.toInt32.toInt8.toInt32)) 23 1 (nI (t + 1))) (sI (sI N 43 t (v &&& 255)) 36 10 (nI (t + 1))) := by
  obtain ⟨t', t0, t1', t2, t3⟩ := h.2.2.2.1
  have e : t' = t := (nI_eq (by omega) (by omega)).mp (t1'.symm.trans t1)
  subst e
  obtain ⟨c, hc, e1, e2⟩ := byte_of v
  refine h.tape (fun k j q1 q2 => by rw [gI_sI, if_neg (fun z => q1 z.1), gI_sI, if_neg (fun z => q2 z.1)]) (fun _ _ => rfl) (fun k j q1 q2 => by rw [gI_sI, if_neg (fun z => q2 z.1 z.2), gI_sI, if_neg (fun z => q1 z.1)]) (fun _ _ => rfl) ⟨t' + 1, ht, ?_, ?_, fun j hj => ?_⟩
  · rw [gI_sI, if_pos ⟨rfl, rfl⟩]
  · rw [gI_sI, if_pos ⟨rfl, rfl⟩]
  · by_cases ej : j = t'
    · subst ej
      refine ⟨c, hc, ?_, ?_⟩
      · rw [gI_sI, if_neg (by omega), gI_sI, if_pos ⟨rfl, rfl⟩, e1]
      · rw [gI_sI, if_neg (by omega), gI_sI, if_pos ⟨rfl, rfl⟩, e2]
    · obtain ⟨c', hc', q1, q2⟩ := t3 j (by omega)
      refine ⟨c', hc', ?_, ?_⟩
      · rw [gI_sI, if_neg (by omega), gI_sI, if_neg (fun z => ej z.2)]; exact q1
      · rw [gI_sI, if_neg (by omega), gI_sI, if_neg (fun z => ej z.2)]; exact q2
theorem feed_loop (x : Int32) : ∀ (j : Nat) (M N : Mem) (t : Nat), Rel M N → gI M 23 1 = nI t → t + j ≤ 120 → ∃ M2 N2, (∀ F, j < F → lp (f_X5_feed_L42 x) F (nI j + (-1), M) = some M2) ∧ (∀ F, j < F → lp (f_X6_feed_L41 x) F (nI j + (-1), N) = some N2) ∧ Rel M2 N2 ∧ gI M2 23 1 = nI (t + j) ∧ gI N2 36 10 = nI (t + j) := by
  intro j
  induction j with
  | zero =>
    intro M N t h t1 ht
    obtain ⟨t', t0, t1', t2, t3⟩ := h.2.2.2.1
    have e : t' = t := (nI_eq (by omega) (by omega)).mp (t1'.symm.trans t1)
    subst e
    refine ⟨M, N, fun F hF => ?_, fun F hF => ?_, h, t1, t2⟩
    · obtain ⟨F, rfl⟩ : ∃ G, F = G + 1 := ⟨F - 1, by omega⟩
      exact lp_end rfl
    · obtain ⟨F, rfl⟩ : ∃ G, F = G + 1 := ⟨F - 1, by omega⟩
      exact lp_end rfl
  | succ j ih =>
    intro M N t h t1 ht
    obtain ⟨t', t0, t1', t2, t3⟩ := h.2.2.2.1
    have e : t' = t := (nI_eq (by omega) (by omega)).mp (t1'.symm.trans t1)
    subst e
    have hR := h.byte t1 (by omega) (x >>> ((8 * nI j) &&& 31))
    obtain ⟨M2, N2, l1, l2, hR2, e1, e2⟩ := ih _ _ (t' + 1) hR (by rw [gI_sI, if_pos ⟨rfl, rfl⟩]) (by omega)
    refine ⟨M2, N2, fun F hF => ?_, fun F hF => ?_, hR2, by rw [e1]; congr 1; omega, by rw [e2]; congr 1; omega⟩
    · obtain ⟨F, rfl⟩ : ∃ G, F = G + 1 := ⟨F - 1, by omega⟩
      rw [pk_m1, lp_step (t := (nI j + (-1), sI (sI M 24 t' ((x >>> ((8 * nI j) &&& 31)).toInt8.toInt32.toInt8.toInt32)) 23 1 (nI (t' + 1))))]
      · exact l1 F (by omega)
      · unfold f_X5_feed_L42 f_X4_add
        dsimp only
        have g : ¬ (120 : Int32) ≤ nI t' := nI_ge (a := t') (b := 120) (by omega) (by decide)
        simp only [bn_e, bnd_id]
        rw [if_neg (nI_pos (by omega)), t1, if_neg g, if_pos (inR_nI (by omega) (by decide)), cl_nI (by omega), gI_sI, if_neg (by omega), t1, nI_1]
        rfl
    · obtain ⟨F, rfl⟩ : ∃ G, F = G + 1 := ⟨F - 1, by omega⟩
      rw [pk_m1, lp_step (t := (nI j + (-1), sI (sI N 43 t' ((x >>> ((8 * nI j) &&& 31)) &&& 255)) 36 10 (nI (t' + 1))))]
      · exact l2 F (by omega)
      · unfold f_X6_feed_L41
        dsimp only
        simp only [bn_e]
        rw [if_neg (nI_pos (by omega)), t2, if_pos (inR_nI (by omega) (by decide)), cl_nI (by omega), gI_sI, if_neg (by omega), t2, nI_1]
theorem p_feed (h : Rel M N) (x y : Int32) : Same (f_X5_feed x y M) (f_X6_feed x y N) := by
  obtain ⟨t, t0, t1, t2, t3⟩ := h.2.2.2.1
  unfold f_X5_feed f_X6_feed
  simp only [bnd_eta, bn_e]
  rw [in_spec, i_j]
  simp only [Option.bind_some, b2_0]
  have e1 : (1 : Int32).toInt = 1 := rfl
  have e4 : (4 : Int32).toInt = 4 := rfl
  have j1 : (1 : Int64).toInt = 1 := rfl
  have j4 : (4 : Int64).toInt = 4 := rfl
  rw [j1, j4]
  by_cases hy : 1 ≤ y.toInt ∧ y.toInt ≤ 4
  · have g1 : ¬ y < 1 := by rw [i_lt]; omega
    have g2 : y ≤ 4 := by rw [i_le]; omega
    rw [if_neg (not_not_intro hy), if_neg g1, if_pos g2]
    obtain ⟨q, hq, rfl⟩ := ix_of (x := y) (n := 5) ⟨by omega, by omega⟩ (by decide)
    rw [t1, t2, nI_add]
    by_cases g3 : t + q ≤ 120
    · have g4 : nI (t + q) ≤ 120 := nI_le (b := 120) g3 (by decide)
      rw [if_pos g4, if_pos g4]
      obtain ⟨M2, N2, l1, l2, hR, r1, r2⟩ := feed_loop x q M N t h t1 g3
      have es : nI q - 1 = nI q + (-1) := by rw [Int32.sub_eq_add_neg]
      rw [es, l1 FU (by rw [FU_v]; omega), l2 FU (by rw [FU_v]; omega)]
      simp only [Option.bind_some]
      rw [r1, r2]
      exact ⟨_, _, _, rfl, rfl, hR⟩
    · have g4 : ¬ nI (t + q) ≤ 120 := nI_ge (a := 120) (b := t + q) (by omega) (by omega)
      rw [if_neg g4, if_neg g4]
      exact same_find h 1 (by decide) (by decide)
  · rw [if_pos hy]
    by_cases g1 : y < 1
    · rw [if_pos g1]; exact same_find h 0 (by decide) (by decide)
    · have g2 : ¬ y ≤ 4 := by rw [i_lt] at g1; rw [i_le]; omega
      rw [if_neg g1, if_neg g2]; exact same_find h 0 (by decide) (by decide)
end TAPE
