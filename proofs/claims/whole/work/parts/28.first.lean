/-! PURE: first -/
section FIRST
variable {M N : Mem} {a : AR}
theorem bl_st (v : Nat → Nat) (i : Nat) : ∀ k, (bl v i k).2 = i ∨ (bl v i k).1 < k := by
  intro k
  induction k with
  | zero => exact Or.inl rfl
  | succ k ih =>
    rw [bl]
    split
    · rcases ih with y | y
      · exact Or.inl y
      · exact Or.inr (by omega)
    · exact Or.inr (Nat.lt_succ_self k)
theorem bl_min (v : Nat → Nat) (c : Nat) : ∀ k i, i < k → (bl v c k).2 ≤ v i := by
  intro k
  induction k with
  | zero => intro i hi; omega
  | succ k ih =>
    intro i hi
    rw [bl]
    rcases Nat.lt_succ_iff_lt_or_eq.mp hi with y | y
    · have := ih i y
      split
      · exact this
      · show v k ≤ v i; omega
    · subst y
      split
      · assumption
      · exact Nat.le_refl _
theorem bl_same (v : Nat → Nat) (c n : Nat) (hv : ∀ i, n ≤ i → c ≤ v i) : ∀ d, (∀ k, (bl v c k).2 ≤ c) → bl v c (n + d) = bl v c n := by
  intro d hc
  induction d with
  | zero => rfl
  | succ d ih =>
    show (if (bl v c (n + d)).2 ≤ v (n + d) then bl v c (n + d) else (n + d, v (n + d))) = _
    rw [if_pos (Nat.le_trans (hc _) (hv _ (by omega))), ih]
def fv (a : AR) (i : Nat) : Nat := if onA a i = true then fN a i 0 else 13
theorem fv_le (a : AR) (i : Nat) : fv a i ≤ 13 := by
  unfold fv fN
  have := pc_le (fa a (cm a i 0) i 0)
  split <;> omega
theorem first_C (hw : WF a) (hc : CR M 1 a) {β : Type} (K : Int32 → Option β) : Option.bind (lp (f_X5_first_L38 (LK a M) (nI (ms (onA a) 12))) FU (0, 13, 0)) K = K (nI (bl (fv a) 13 12).1) := by
  refine (lp_go (r := nI (bl (fv a) 13 12).1) (fun k => (nI (bl (fv a) 13 k).1, nI (bl (fv a) 13 k).2, nI k)) 12 rfl ?_ rfl (by rw [FU_v]; omega))
  intro k hk
  unfold f_X5_first_L38
  dsimp only
  have g : ¬ (12 : Int32) ≤ nI k := nI_ge (a := k) (b := 12) hk (by decide)
  have hl := ms12 (onA a)
  have hb := (bl_le (fv a) (Nat.le_refl 13) (fv_le a) k).1
  have hp := pc_le (fa a (cm a k 0) k 0)
  rw [if_neg g, show (0 : Int32) = nI 0 from rfl, X5_howMany hw hc hk (by decide), X5_contains (by omega) (by omega)]
  simp only [Option.bind_some, nI_1]
  rw [bl, tb_ms]
  by_cases q : onA a k = true
  · have e : fv a k = pc (fa a (cm a k 0) k 0) := by unfold fv; rw [if_pos q]; rfl
    rw [b2_t (by simp [q, hk]), if_neg (by decide), e]
    by_cases z : (bl (fv a) 13 k).2 ≤ pc (fa a (cm a k 0) k 0)
    · rw [if_pos (nI_le z (by omega)), if_pos z]; rfl
    · rw [if_neg (nI_ge (by omega) (by omega)), if_neg z]; rfl
  · have e : fv a k = 13 := by unfold fv; rw [if_neg q]
    rw [b2_f (by simp [q]), if_pos (by decide), e, if_pos hb]; rfl
def f1 (x : Nat × Nat) : Int32 := if x.2 = 13 then -1 else nI x.1
def f2 (x : Nat × Nat) : Int32 := if x.2 = 13 then 0 else nI x.2
theorem first_N (hw : WF a) (hm : MR N 37 a) {β : Type} (K : Int32 → Option β) : Option.bind (lp (f_X6_first_L6 N) FU ((-1), 0, 0)) K = K (f1 (bl (fv a) 13 (aN a))) := by
  have hn := hw.1
  refine (lp_go (r := f1 (bl (fv a) 13 (aN a))) (fun k => (f1 (bl (fv a) 13 k), f2 (bl (fv a) 13 k), nI k)) (aN a) rfl ?_ ?_ (by rw [FU_v]; omega))
  · intro k hk
    unfold f_X6_first_L6
    dsimp only
    have hb := (bl_le (fv a) (Nat.le_refl 13) (fv_le a) k).1
    have hb2 := (bl_le (fv a) (Nat.le_refl 13) (fv_le a) k).2
    have hs := bl_st (fv a) 13 k
    have hp := pc_le (fa a (cm a k 0) k 0)
    rw [hm.1, if_neg (nI_ge hk (by omega)), X6_isOn hw hm hk, Option.bind_some, show f_X6_fallers (nI k) 0 N = f_X6_fallers (nI k) (nI 0) N from rfl, X6_fallers hw hm hk (by decide), Option.bind_some, ones_spec _ (fa_lt hw _ _ _), Option.bind_some, nI_1, bl]
    by_cases q : onA a k = true
    · have e : fv a k = pc (fa a (cm a k 0) k 0) := by unfold fv; rw [if_pos q]; rfl
      have g1 : b2 ((aPl a k).isSome = true) = 1 := b2_t q
      rw [g1, if_neg (by decide), e]
      by_cases y : (bl (fv a) 13 k).2 = 13
      · have e1 : f1 (bl (fv a) 13 k) = -1 := by unfold f1; rw [if_pos y]
        rw [e1, if_pos (by decide), Option.bind_some, if_pos rfl, if_neg (by omega)]
        show some (Sum.inl (nI k, _, _)) = some (Sum.inl (f1 (k, _), f2 (k, _), _))
        unfold f1 f2
        rw [if_neg (by show ¬ _ = 13; omega), if_neg (by show ¬ _ = 13; omega)]
      · have e1 : f1 (bl (fv a) 13 k) = nI (bl (fv a) 13 k).1 := by unfold f1; rw [if_neg y]
        have e2 : f2 (bl (fv a) 13 k) = nI (bl (fv a) 13 k).2 := by unfold f2; rw [if_neg y]
        have hs2 : (bl (fv a) 13 k).1 < k := by rcases hs with w | w; exact absurd w y; exact w
        rw [e1, e2, if_neg (lt0_nI (by omega))]
        by_cases z : (bl (fv a) 13 k).2 ≤ pc (fa a (cm a k 0) k 0)
        · rw [if_pos (nI_le z (by omega)), if_pos z, Option.bind_some, if_neg (fun w => by have := (nI_eq (by omega) (by omega)).mp w; omega), e1, e2]; rfl
        · rw [if_neg (nI_ge (by omega) (by omega)), if_neg z, Option.bind_some, if_pos rfl]
          show some (Sum.inl (nI k, _, _)) = some (Sum.inl (f1 (k, _), f2 (k, _), _))
          unfold f1 f2
          rw [if_neg (by show ¬ _ = 13; omega), if_neg (by show ¬ _ = 13; omega)]
    · have e : fv a k = 13 := by unfold fv; rw [if_neg q]
      have g1 : b2 ((aPl a k).isSome = true) = 0 := b2_f q
      rw [g1, if_pos rfl, e, if_pos hb]; rfl
  · unfold f_X6_first_L6
    dsimp only
    rw [hm.1, if_pos (nI_le (Nat.le_refl _) (by omega))]
theorem up_0 (a : AR) : ms (onA a) 12 = 0 ↔ ∀ i, i < 12 → onA a i = false := by
  constructor
  · intro q i hi
    cases o : onA a i with
    | false => rfl
    | true =>
      have : (ms (onA a) 12).testBit i = true := by rw [tb_ms, o]; simp [hi]
      rw [q] at this
      simp at this
  · intro q
    refine Nat.eq_of_testBit_eq fun i => ?_
    rw [tb_ms, Nat.zero_testBit]
    by_cases hi : i < 12
    · rw [q i hi]; simp
    · simp [hi]
theorem p_first (h : Rel M N) : Same (f_X5_first M) (f_X6_first N) := by
  obtain ⟨a, hw, hc, hm⟩ := h.1
  have hn := hw.1
  have hl := ms12 (onA a)
  have hc13 : ∀ k, (bl (fv a) 13 k).2 ≤ 13 := fun k => (bl_le (fv a) (Nat.le_refl 13) (fv_le a) k).1
  have e : bl (fv a) 13 12 = bl (fv a) 13 (aN a) := by
    have := bl_same (fv a) 13 (aN a) (fun i hi => by
      unfold fv
      rw [if_neg (fun z => by have := on_lt hw z; omega)]
      exact Nat.le_refl 13) (12 - aN a) hc13
    rw [show aN a + (12 - aN a) = 12 by omega] at this
    exact this
  unfold f_X5_first f_X6_first
  simp only [bnd_eta]
  rw [X0_up hw hc, Option.bind_some, first_N hw hm, ← e]
  by_cases q : ms (onA a) 12 = 0
  · have z : ∀ k, k ≤ 12 → (bl (fv a) 13 k).2 = 13 := by
      intro k
      induction k with
      | zero => intro _; rfl
      | succ k ih =>
        intro hk
        have e : fv a k = 13 := by unfold fv; rw [if_neg (by rw [(up_0 a).mp q k (by omega)]; decide)]
        rw [bl, e, if_pos (hc13 k), ih (by omega)]
    have e1 : f1 (bl (fv a) 13 12) = -1 := by unfold f1; rw [if_pos (z 12 (Nat.le_refl 12))]
    rw [q, e1, if_pos (by decide), if_neg (by decide)]
    exact same_find h 3 (by decide) (by decide)
  · have z : (bl (fv a) 13 12).2 ≤ 12 := by
      refine Classical.byContradiction fun y => q ((up_0 a).mpr fun i hi => ?_)
      cases o : onA a i with
      | false => rfl
      | true =>
        have h1 := bl_min (fv a) 13 12 i hi
        have h2 : fv a i ≤ 12 := by unfold fv; rw [if_pos o]; exact pc_le _
        omega
    have hb2 := (bl_le (fv a) (Nat.le_refl 13) (fv_le a) 12).2
    have e1 : f1 (bl (fv a) 13 12) = nI (bl (fv a) 13 12).1 := by unfold f1; rw [if_neg (by omega)]
    have g : (0 : Int32) ≤ nI (bl (fv a) 13 12).1 := nI_le (a := 0) (Nat.zero_le _) (by omega)
    rw [if_neg (nI_ne0 (by omega) (by omega)), X3_look hw hc, Option.bind_some, first_C hw hc, e1, if_pos g]
    exact same_rd (h.look hw hc hm) _
end FIRST
