/-! PURE: feels, spot -/
section FEELS
variable {M N : Mem} {a : AR}
def uf (a : AR) (q k : Nat) : Nat := pc (aFe a k ^^^ q)
theorem xor16 : ∀ x, x < 16 → ∀ y, y < 16 → x ^^^ y < 16 ∧ pc (x ^^^ y) ≤ 4 := by decide +kernel
/-- the set, and how unlike its members are, of the first k -/
def fb (a : AR) (q : Nat) : Nat → Nat × Nat
  | 0 => (0, 5)
  | k + 1 => if onA a k then (if uf a q k < (fb a q k).2 then (2 ^ k, uf a q k) else if uf a q k = (fb a q k).2 then ((fb a q k).1 ||| 2 ^ k, (fb a q k).2) else fb a q k) else fb a q k
theorem fe15 (hw : WF a) (h : Nat) : aFe a h ≤ 15 := by
  by_cases e : h < aN a
  · exact (hw.2.2.2.1 h e).2.2
  · rw [(hw.2.2.2.2.2.2.2 h (by omega)).2]; omega
theorem uf_le (hw : WF a) {q : Nat} (hq : q < 16) (k : Nat) : uf a q k ≤ 4 := (xor16 (aFe a k) (by have := fe15 hw k; omega) q hq).2
theorem fb_le (hw : WF a) {q : Nat} (hq : q < 16) : ∀ k, (fb a q k).2 ≤ 5 := by
  intro k
  induction k with
  | zero => exact Nat.le_refl 5
  | succ k ih =>
    have := uf_le hw hq k
    rw [fb]
    split
    · split
      · show uf a q k ≤ 5; omega
      · split
        · exact ih
        · exact ih
    · exact ih
theorem fb_5 (hw : WF a) {q : Nat} (hq : q < 16) : ∀ k, ((fb a q k).2 = 5 ↔ ∀ i, i < k → onA a i = false) := by
  intro k
  induction k with
  | zero => exact ⟨fun _ i hi => by omega, fun _ => rfl⟩
  | succ k ih =>
    have h4 := uf_le hw hq k
    rw [fb]
    by_cases e : onA a k = true
    · rw [if_pos e]
      constructor
      · intro z
        exfalso
        by_cases c : uf a q k < (fb a q k).2
        · rw [if_pos c] at z
          have z : uf a q k = 5 := z
          omega
        · rw [if_neg c] at z
          have h5 := fb_le hw hq k
          by_cases c2 : uf a q k = (fb a q k).2
          · rw [if_pos c2] at z
            have z : (fb a q k).2 = 5 := z
            omega
          · rw [if_neg c2] at z; omega
      · intro z
        have := z k (Nat.lt_succ_self k)
        rw [this] at e; cases e
    · rw [if_neg e, ih]
      constructor
      · intro z i hi
        rcases Nat.lt_succ_iff_lt_or_eq.mp hi with y | y
        · exact z i y
        · rw [y]; simpa using e
      · intro z i hi; exact z i (by omega)
theorem feels_C (hw : WF a) (hc : CR M 1 a) {q : Nat} (hq : q < 16) {β : Type} (K : Int32 → Option β) : Option.bind (lp (f_X5_feels_L41 M (nI q)) FU (0, 5, 0)) K = K (nI (fb a q (aN a)).1) := by
  have hn := hw.1
  refine lp_go (r := nI (fb a q (aN a)).1) (fun k => (nI (fb a q k).1, nI (fb a q k).2, nI k)) (aN a) rfl (fun k hk => ?_) ?_ (by rw [FU_v]; omega)
  · unfold f_X5_feels_L41
    dsimp only
    have hx := xor16 (aFe a k) (by have := fe15 hw k; omega) q hq
    rw [hc.1, if_neg (nI_ge hk (by omega)), if_pos (inR_nI (by omega) (by decide)), cl_nI (by omega), C_fe hc (by omega), nI_xor, bc_spec _ (by omega), X0_isUp hw hc (by omega)]
    simp only [Option.bind_some, b2_0, bn_e]
    rw [sh1 k (by omega), nI_or, nI_1]
    have h4 := uf_le hw hq k
    have h5 := fb_le hw hq k
    rw [fb]
    show Option.bind (if ¬ onA a k = true then if ¬ onA a k = true then some (nI (fb a q k).1, nI (fb a q k).2) else if nI (uf a q k) = nI (fb a q k).2 then some (nI ((fb a q k).1 ||| 2 ^ k), nI (fb a q k).2) else some (nI (fb a q k).1, nI (fb a q k).2) else if nI (fb a q k).2 ≤ nI (uf a q k) then if ¬ onA a k = true then some (nI (fb a q k).1, nI (fb a q k).2) else if nI (uf a q k) = nI (fb a q k).2 then some (nI ((fb a q k).1 ||| 2 ^ k), nI (fb a q k).2) else some (nI (fb a q k).1, nI (fb a q k).2) else some (nI (2 ^ k), nI (uf a q k))) _ = _
    by_cases e : onA a k = true
    · rw [if_neg (not_not_intro e), if_neg (not_not_intro e), if_pos e]
      by_cases c : uf a q k < (fb a q k).2
      · rw [if_neg (nI_ge c (by omega)), if_pos c]; rfl
      · rw [if_pos (nI_le (by omega) (by omega)), if_neg c]
        by_cases c2 : uf a q k = (fb a q k).2
        · rw [if_pos (show nI (uf a q k) = nI (fb a q k).2 by rw [c2]), if_pos c2]; rfl
        · rw [if_neg (fun z => c2 ((nI_eq (by omega) (by omega)).mp z)), if_neg c2]; rfl
    · rw [if_pos e, if_pos e, if_neg e]; rfl
  · unfold f_X5_feels_L41
    dsimp only
    rw [hc.1, if_pos (nI_le (Nat.le_refl _) (by omega))]
theorem f4 : ∀ u, u < 5 → ∀ f, f < 6 → (((4 : Int32) - nI u ≤ 4 - nI f) ↔ f ≤ u) ∧ (((4 : Int32) - nI u = 4 - nI f) ↔ f = u) := by decide +kernel
theorem f4b : ∀ f, f < 6 → ((0 : Int32) ≤ 4 - nI f ↔ f ≠ 5) := by decide +kernel
theorem feels_N (hw : WF a) (hm : MR N 37 a) {q : Nat} (hq : q < 16) {β : Type} (K : Int32 × Int32 → Option β) : Option.bind (lp (f_X6_feels_L26 N (nI q)) FU (-1, 0, 0)) K = K (4 - nI (fb a q (aN a)).2, nI (fb a q (aN a)).1) := by
  have hn := hw.1
  refine lp_go (r := (4 - nI (fb a q (aN a)).2, nI (fb a q (aN a)).1)) (fun k => (4 - nI (fb a q k).2, nI (fb a q k).1, nI k)) (aN a) rfl (fun k hk => ?_) ?_ (by rw [FU_v]; omega)
  · unfold f_X6_feels_L26
    dsimp only
    have hx := xor16 (aFe a k) (by have := fe15 hw k; omega) q hq
    rw [hm.1, if_neg (nI_ge hk (by omega)), X6_isOn hw hm hk, N_fe hw hm hk]
    simp only [Option.bind_some, b2_0, nI_xor, ones_spec _ (show aFe a k ^^^ q < 4096 by omega), bn_e]
    rw [sh1 k (by omega), nI_or, nI_1]
    have h4 := uf_le hw hq k
    have h5 := fb_le hw hq k
    obtain ⟨g1, g2⟩ := f4 (uf a q k) (by omega) (fb a q k).2 (by omega)
    rw [fb]
    show Option.bind (if ¬ onA a k = true then some (4 - nI (fb a q k).2, nI (fb a q k).1) else Option.bind (if (4 : Int32) - nI (uf a q k) ≤ 4 - nI (fb a q k).2 then if (4 : Int32) - nI (uf a q k) = 4 - nI (fb a q k).2 then some (nI ((fb a q k).1 ||| 2 ^ k)) else some (nI (fb a q k).1) else some (nI (2 ^ k))) (fun y65 : Int32 => Option.bind (if (4 : Int32) - nI (uf a q k) ≤ 4 - nI (fb a q k).2 then some (4 - nI (fb a q k).2) else some (4 - nI (uf a q k))) (fun y95 : Int32 => some (y95, y65)))) _ = _
    by_cases e : onA a k = true
    · rw [if_neg (not_not_intro e), if_pos e]
      by_cases c : uf a q k < (fb a q k).2
      · have c1 : ¬ (4 : Int32) - nI (uf a q k) ≤ 4 - nI (fb a q k).2 := fun z => by have := g1.mp z; omega
        rw [if_neg c1, if_neg c1, if_pos c]; rfl
      · have c1 : (4 : Int32) - nI (uf a q k) ≤ 4 - nI (fb a q k).2 := g1.mpr (by omega)
        rw [if_pos c1, if_pos c1, if_neg c]
        by_cases c2 : uf a q k = (fb a q k).2
        · rw [if_pos (g2.mpr c2.symm), if_pos c2]; rfl
        · rw [if_neg (fun z => c2 (g2.mp z).symm), if_neg c2]; rfl
    · rw [if_pos e, if_neg e]; rfl
  · unfold f_X6_feels_L26
    dsimp only
    rw [hm.1, if_pos (nI_le (Nat.le_refl _) (by omega))]
theorem ms_zero {S : Nat → Bool} {n : Nat} : ms S n = 0 ↔ ∀ i, i < n → S i = false := by
  constructor
  · intro h i hi
    have := tb_ms S n i
    rw [h] at this
    simp [hi] at this
    exact this
  · intro h
    have : ms S n = ms (fun _ => false) n := ms_ext h
    rw [this]
    refine Nat.eq_of_testBit_eq fun i => ?_
    rw [tb_ms]; simp
theorem p_feels (h : Rel M N) (x : Int32) : Same (f_X5_feels x M) (f_X6_feels x N) := by
  obtain ⟨a, hw, hc, hm⟩ := h.1
  have hn := hw.1
  unfold f_X5_feels f_X6_feels
  rw [in_ix x 16 15 (by decide)]
  simp only [Option.bind_some, bnd_eta, b2_0]
  have e0 : (0 : Int32).toInt = 0 := rfl
  have e15 : (15 : Int32).toInt = 15 := rfl
  by_cases hx : IX x 16
  · obtain ⟨q, hq, rfl⟩ := ix_of hx (by decide)
    have g1 : ¬ nI q < 0 := nI_pos (by omega)
    have g2 : nI q ≤ 15 := nI_le (b := 15) (by omega) (by decide)
    rw [if_neg (not_not_intro hx), if_neg g1, if_pos g2, X0_up hw hc, feels_N hw hm hq]
    simp only [Option.bind_some]
    have h5 := fb_le hw hq (aN a)
    have g3 := f4b (fb a q (aN a)).2 (by omega)
    have g4 := fb_5 hw hq (aN a)
    by_cases e : ms (onA a) 12 = 0
    · have e1 : nI (ms (onA a) 12) = 0 := by rw [e]; rfl
      have e2 : (fb a q (aN a)).2 = 5 := g4.mpr fun i hi => ms_zero.mp e i (by omega)
      rw [if_pos e1, if_neg (fun z => g3.mp z e2)]
      exact same_find h 3 (by decide) (by decide)
    · have e1 : ¬ nI (ms (onA a) 12) = 0 := nI_ne0 (by omega) (Nat.lt_trans (ms12 _) (by decide))
      have e2 : (fb a q (aN a)).2 ≠ 5 := fun z => e (ms_zero.mpr fun i hi => by
        by_cases y : i < aN a
        · exact g4.mp z i y
        · exact Bool.eq_false_iff.mpr fun w => y (on_lt hw w))
      rw [if_neg e1, if_pos (g3.mpr e2), feels_C hw hc hq]
      exact same_rd h _
  · rw [if_pos hx]
    by_cases g1 : x < 0
    · rw [if_pos g1]; exact same_find h 0 (by decide) m1_1
    · have g2 : ¬ x ≤ 15 := by rw [i_lt] at g1; rw [i_le]; unfold IX at hx; omega
      rw [if_neg g1, if_neg g2]; exact same_find h 0 (by decide) m1_1
end FEELS
