/-! PURE: heaps, all that is come to from one -/
def SS (m c : Nat) : Prop := ∀ i, m.testBit i = true → c.testBit i = true
theorem SS.rf (m : Nat) : SS m m := fun _ h => h
theorem SS.tr {m c d : Nat} (h : SS m c) (h2 : SS c d) : SS m d := fun i q => h2 i (h i q)
theorem SS.anti {m c : Nat} (h : SS m c) (h2 : SS c m) : m = c := Nat.eq_of_testBit_eq fun i => by
  cases e : m.testBit i with
  | true => exact (h i e).symm
  | false =>
    cases e2 : c.testBit i with
    | true => rw [h2 i e2] at e; cases e
    | false => rfl
theorem SS.or {m n c : Nat} (h : SS m c) (h2 : SS n c) : SS (m ||| n) c := fun i q => by
  rw [Nat.testBit_or] at q
  cases e : m.testBit i with
  | true => exact h i e
  | false => rw [e] at q; exact h2 i q
theorem SS.orL (m n : Nat) : SS m (m ||| n) := fun i q => by rw [Nat.testBit_or, q]; rfl
theorem SS.orR (m n : Nat) : SS n (m ||| n) := fun i q => by rw [Nat.testBit_or, q]; simp
theorem SS.zero (c : Nat) : SS 0 c := fun i q => by simp at q
theorem or_lt {m n : Nat} (h : m < 4096) (h2 : n < 4096) : m ||| n < 4096 := Nat.or_lt_two_pow (n := 12) h h2
theorem tb_big {m i : Nat} (h : m < 4096) (hi : 12 ≤ i) : m.testBit i = false := Nat.testBit_lt_two_pow (Nat.lt_of_lt_of_le h (Nat.pow_le_pow_right (by decide) hi : 2 ^ 12 ≤ 2 ^ i))
theorem ct_mono {S T : Nat → Bool} (h : ∀ i, S i = true → T i = true) : ∀ k, ct S k ≤ ct T k := by
  intro k
  induction k with
  | zero => exact Nat.le_refl 0
  | succ k ih =>
    rw [ct, ct]
    cases e : S k with
    | true => rw [h k e]; simpa using ih
    | false => cases T k <;> simp <;> omega
theorem ct_strict {S T : Nat → Bool} (h : ∀ i, S i = true → T i = true) {j : Nat} (hj : S j = false) (hj2 : T j = true) : ∀ k, j < k → ct S k < ct T k := by
  intro k
  induction k with
  | zero => intro q; omega
  | succ k ih =>
    intro q
    rw [ct, ct]
    by_cases e : j = k
    · subst e
      rw [hj, hj2]
      have := ct_mono h j
      simp; omega
    · have := ih (by omega)
      cases e2 : S k with
      | true => rw [h k e2]; simpa using this
      | false => cases T k <;> simp <;> omega
theorem pc_lt {m c : Nat} (h : SS m c) (hm : m < 4096) (hc : c < 4096) (hne : m ≠ c) : pc m < pc c := by
  have : ∃ i, c.testBit i = true ∧ m.testBit i = false := by
    refine Classical.byContradiction fun z => hne (h.anti fun i q => ?_)
    cases e : m.testBit i with
    | true => rfl
    | false => exact absurd ⟨i, q, e⟩ z
  obtain ⟨i, h1, h2⟩ := this
  have hi : i < 12 := by
    rcases Nat.lt_or_ge i 12 with y | y
    · exact y
    · rw [tb_big hc y] at h1; cases h1
  exact ct_strict h h2 h1 12 hi
section HEAP
variable {M N : Mem} {a : AR}
def Clo (a : AR) (c : Nat) : Prop := ∀ i, i < 12 → c.testBit i = true → SS (tm a i) c
/-- c is the heap of h -/
def IsCl (a : AR) (h c : Nat) : Prop := c < 4096 ∧ SS (2 ^ h) c ∧ Clo a c ∧ ∀ d, Clo a d → SS (2 ^ h) d → SS c d
theorem IsCl.one {h c d : Nat} (hc : IsCl a h c) (hd : IsCl a h d) : c = d := SS.anti (hc.2.2.2 d hd.2.2.1 hd.2.1) (hd.2.2.2 c hc.2.2.1 hc.2.1)
/-- one step of the class: those that are tangled with any come too -/
def gC (a : AR) (m : Nat) : Nat → Nat
  | 0 => m
  | i + 1 => gC a m i ||| (if m.testBit i then tm a i else 0)
theorem gC_lt (a : AR) {m : Nat} (hm : m < 4096) : ∀ k, gC a m k < 4096 := by
  intro k
  induction k with
  | zero => exact hm
  | succ k ih =>
    rw [gC]
    refine or_lt ih ?_
    split
    · exact tm_lt a k
    · decide
theorem gC_up (a : AR) (m : Nat) : ∀ k, SS m (gC a m k) := by
  intro k
  induction k with
  | zero => exact SS.rf m
  | succ k ih => exact ih.tr (SS.orL _ _)
theorem gC_in (a : AR) (m : Nat) : ∀ k i, i < k → m.testBit i = true → SS (tm a i) (gC a m k) := by
  intro k
  induction k with
  | zero => intro i hi; omega
  | succ k ih =>
    intro i hi q
    rw [gC]
    rcases Nat.lt_succ_iff_lt_or_eq.mp hi with y | y
    · exact (ih i y q).tr (SS.orL _ _)
    · subst y; rw [q]; exact SS.orR _ _
theorem gC_le {m d : Nat} (hd : Clo a d) (hm : SS m d) : ∀ k, k ≤ 12 → SS (gC a m k) d := by
  intro k
  induction k with
  | zero => intro _; exact hm
  | succ k ih =>
    intro hk
    rw [gC]
    refine (ih (by omega)).or ?_
    split
    · rename_i q
      exact hd k (by omega) (hm k q)
    · exact SS.zero d
theorem pow_lt {h : Nat} (hh : h < 12) : 2 ^ h < 4096 := (Nat.pow_lt_pow_right (by decide) hh : 2 ^ h < 2 ^ 12)
theorem pc_pow : ∀ h, h < 12 → pc (2 ^ h) = 1 := by decide +kernel
theorem SS_pow {h c : Nat} : SS (2 ^ h) c ↔ c.testBit h = true := by
  constructor
  · intro q; exact q h (by rw [tb_pow]; simp)
  · intro q i z
    rw [tb_pow] at z
    have : h = i := by simpa using z
    rw [← this]; exact q
theorem heap_in {m : Nat} (hm : m < 4096) {β : Type} (K : Int32 → Option β) : Option.bind (lp (f_X3_heapOf_L18 (LK a M) (nI m, (0 : Int32))) FU (nI m, 0)) K = K (nI (gC a m 12)) := by
  sorry
end HEAP
