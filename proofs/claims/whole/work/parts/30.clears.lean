/-! PURE: a rail of which some were taken; clears, read -/
section CLEARS
variable {M N : Mem} {a b : AR}
theorem tan_sym (a : AR) (h o : Nat) : tan a h o = tan a o h := by
  unfold tan tanW
  cases e1 : aPl a h with
  | none => cases e2 : aPl a o <;> simp
  | some p =>
    cases e2 : aPl a o with
    | none => simp
    | some q =>
      dsimp only
      rw [ds_comm p q, show (o != h) = (h != o) by rw [bne_comm], show (aFc a h == aFc a o) = (aFc a o == aFc a h) by rw [BEq.comm], Bool.or_comm]
/-- b is a of which those outside L were taken -/
def Jr (a b : AR) (L : Nat) : Prop := aN b = aN a ∧ aKd b = aKd a ∧ aFc b = aFc a ∧ (∀ i, aPl b i = if L.testBit i = true then aPl a i else none) ∧ (∀ i, L.testBit i = true → aSl b i = aSl a i) ∧ SS L (ms (onA a) 12)
theorem Jr_on {L : Nat} (j : Jr a b L) (i : Nat) : onA b i = L.testBit i := by
  unfold onA
  rw [j.2.2.2.1 i]
  by_cases q : L.testBit i = true
  · rw [if_pos q, q]
    have := j.2.2.2.2.2 i q
    rw [tb_ms] at this
    have h2 : onA a i = true := by
      cases e : onA a i with
      | true => rfl
      | false => rw [e] at this; simp at this
    exact h2
  · rw [if_neg q]
    have : L.testBit i = false := by simpa using q
    rw [this]; rfl
theorem Jr_tan {L : Nat} (j : Jr a b L) {i : Nat} (hi : L.testBit i = true) (o : Nat) : tan b i o = (L.testBit o && tan a i o) := by
  obtain ⟨j1, j2, j3, j4, j5, j6⟩ := j
  show (match aPl b i with | none => false | some p => tanW b i (aKd b i) p o) = (L.testBit o && (match aPl a i with | none => false | some p => tanW a i (aKd a i) p o))
  unfold tanW
  rw [j4 i, if_pos hi, j2, j3, j5 i hi, j4 o]
  by_cases q : L.testBit o = true
  · rw [if_pos q, j5 o q, q]; simp
  · rw [if_neg q]
    have : L.testBit o = false := by simpa using q
    rw [this]
    cases aPl a i <;> simp
end CLEARS
