/-! PURE: heaps, all that is come to from one -/
def SS (m c : Nat) : Prop := ∀ i, m.testBit i = true → c.testBit i = true
theorem SS.rf (m : Nat) : SS m m := fun _ h => h
theorem SS.tr {m c d : Nat} (h : SS m c) (h2 : SS c d) : SS m d := fun i q => h2 i (h i q)
theorem SS.anti {m c : Nat} (h : SS m c) (h2 : SS c m) : m = c := Nat.eq_of_testBit_eq fun i => by
  cases e : m.testBit i with
  | true => exact (h i e).symm
  | false =>
    cases e2 : c.testBit i with
    | true => rw [h2 i e2] at e; cases e
    | false => rfl
theorem SS.or {m n c : Nat} (h : SS m c) (h2 : SS n c) : SS (m ||| n) c := fun i q => by
  rw [Nat.testBit_or] at q
  cases e : m.testBit i with
  | true => exact h i e
  | false => rw [e] at q; exact h2 i q
theorem SS.orL (m n : Nat) : SS m (m ||| n) := fun i q => by rw [Nat.testBit_or, q]; rfl
theorem SS.orR (m n : Nat) : SS n (m ||| n) := fun i q => by rw [Nat.testBit_or, q]; simp
theorem SS.zero (c : Nat) : SS 0 c := fun i q => by simp at q
theorem or_lt {m n : Nat} (h : m < 4096) (h2 : n < 4096) : m ||| n < 4096 := Nat.or_lt_two_pow (n := 12) h h2
theorem tb_big {m i : Nat} (h : m < 4096) (hi : 12 ≤ i) : m.testBit i = false := Nat.testBit_lt_two_pow (Nat.lt_of_lt_of_le h (Nat.pow_le_pow_right (by decide) hi : 2 ^ 12 ≤ 2 ^ i))
theorem ct_mono {S T : Nat → Bool} (h : ∀ i, S i = true → T i = true) : ∀ k, ct S k ≤ ct T k := by
  intro k
  induction k with
  | zero => exact Nat.le_refl 0
  | succ k ih =>
    rw [ct, ct]
    cases e : S k with
    | true => rw [h k e]; simpa using ih
    | false => cases T k <;> simp <;> omega
theorem ct_strict {S T : Nat → Bool} (h : ∀ i, S i = true → T i = true) {j : Nat} (hj : S j = false) (hj2 : T j = true) : ∀ k, j < k → ct S k < ct T k := by
  intro k
  induction k with
  | zero => intro q; omega
  | succ k ih =>
    intro q
    rw [ct, ct]
    by_cases e : j = k
    · subst e
      rw [hj, hj2]
      have := ct_mono h j
      simp; omega
    · have := ih (by omega)
      cases e2 : S k with
      | true => rw [h k e2]; simpa using this
      | false => cases T k <;> simp <;> omega
theorem pc_lt {m c : Nat} (h : SS m c) (hm : m < 4096) (hc : c < 4096) (hne : m ≠ c) : pc m < pc c := by
  have : ∃ i, c.testBit i = true ∧ m.testBit i = false := by
    refine Classical.byContradiction fun z => hne (h.anti fun i q => ?_)
    cases e : m.testBit i with
    | true => rfl
    | false => exact absurd ⟨i, q, e⟩ z
  obtain ⟨i, h1, h2⟩ := this
  have hi : i < 12 := by
    rcases Nat.lt_or_ge i 12 with y | y
    · exact y
    · rw [tb_big hc y] at h1; cases h1
  exact ct_strict h h2 h1 12 hi
section HEAP
variable {M N : Mem} {a : AR}
def Clo (a : AR) (c : Nat) : Prop := ∀ i, i < 12 → c.testBit i = true → SS (tm a i) c
/-- c is the heap of h -/
def IsCl (a : AR) (h c : Nat) : Prop := c < 4096 ∧ SS (2 ^ h) c ∧ Clo a c ∧ ∀ d, Clo a d → SS (2 ^ h) d → SS c d
theorem IsCl.one {h c d : Nat} (hc : IsCl a h c) (hd : IsCl a h d) : c = d := SS.anti (hc.2.2.2 d hd.2.2.1 hd.2.1) (hd.2.2.2 c hc.2.2.1 hc.2.1)
/-- one step of the class: those that are tangled with any come too -/
def gC (a : AR) (m : Nat) : Nat → Nat
  | 0 => m
  | i + 1 => gC a m i ||| (if m.testBit i then tm a i else 0)
theorem gC_lt (a : AR) {m : Nat} (hm : m < 4096) : ∀ k, gC a m k < 4096 := by
  intro k
  induction k with
  | zero => exact hm
  | succ k ih =>
    rw [gC]
    refine or_lt ih ?_
    split
    · exact tm_lt a k
    · decide
theorem gC_up (a : AR) (m : Nat) : ∀ k, SS m (gC a m k) := by
  intro k
  induction k with
  | zero => exact SS.rf m
  | succ k ih => exact ih.tr (SS.orL _ _)
theorem gC_in (a : AR) (m : Nat) : ∀ k i, i < k → m.testBit i = true → SS (tm a i) (gC a m k) := by
  intro k
  induction k with
  | zero => intro i hi; omega
  | succ k ih =>
    intro i hi q
    rw [gC]
    rcases Nat.lt_succ_iff_lt_or_eq.mp hi with y | y
    · exact (ih i y q).tr (SS.orL _ _)
    · subst y; rw [q]; exact SS.orR _ _
theorem gC_le {m d : Nat} (hd : Clo a d) (hm : SS m d) : ∀ k, k ≤ 12 → SS (gC a m k) d := by
  intro k
  induction k with
  | zero => intro _; exact hm
  | succ k ih =>
    intro hk
    rw [gC]
    refine (ih (by omega)).or ?_
    split
    · rename_i q
      exact hd k (by omega) (hm k q)
    · exact SS.zero d
theorem pow_lt {h : Nat} (hh : h < 12) : 2 ^ h < 4096 := (Nat.pow_lt_pow_right (by decide) hh : 2 ^ h < 2 ^ 12)
theorem pc_pow : ∀ h, h < 12 → pc (2 ^ h) = 1 := by decide +kernel
theorem SS_pow {h c : Nat} : SS (2 ^ h) c ↔ c.testBit h = true := by
  constructor
  · intro q; exact q h (by rw [tb_pow]; simp)
  · intro q i z
    rw [tb_pow] at z
    have : h = i := by simpa using z
    rw [← this]; exact q
theorem least {P : Nat → Prop} : ∀ n, (∃ j, j < n ∧ P j) → ∃ k, k < n ∧ P k ∧ ∀ j, j < k → ¬ P j := by
  intro n
  induction n with
  | zero => rintro ⟨j, hj, _⟩; omega
  | succ n ih =>
    intro hx
    by_cases e : ∃ j, j < n ∧ P j
    · obtain ⟨k, h1, h2, h3⟩ := ih e
      exact ⟨k, by omega, h2, h3⟩
    · obtain ⟨j, h1, h2⟩ := hx
      have : j = n := by
        rcases Nat.lt_succ_iff_lt_or_eq.mp h1 with y | y
        · exact absurd ⟨j, y, h2⟩ e
        · exact y
      subst this
      exact ⟨j, h1, h2, fun i hi q => e ⟨i, hi, q⟩⟩
def it (G : Nat → Nat) (m : Nat) : Nat → Nat
  | 0 => m
  | k + 1 => G (it G m k)
def Gst (a : AR) (G : Nat → Nat) : Prop := (∀ m, m < 4096 → G m < 4096) ∧ (∀ m, SS m (G m)) ∧ (∀ m d, Clo a d → SS m d → SS (G m) d) ∧ (∀ m, m < 4096 → G m = m → Clo a m)
theorem Gst.lt {G : Nat → Nat} (g : Gst a G) : ∀ m, m < 4096 → G m < 4096 := g.1
theorem Gst.up {G : Nat → Nat} (g : Gst a G) : ∀ m, SS m (G m) := g.2.1
theorem Gst.le {G : Nat → Nat} (g : Gst a G) : ∀ m d, Clo a d → SS m d → SS (G m) d := g.2.2.1
theorem Gst.fx {G : Nat → Nat} (g : Gst a G) : ∀ m, m < 4096 → G m = m → Clo a m := g.2.2.2
theorem it_lt {G : Nat → Nat} (g : Gst a G) {m : Nat} (hm : m < 4096) : ∀ k, it G m k < 4096 := by
  intro k
  induction k with
  | zero => exact hm
  | succ k ih => exact g.lt _ ih
theorem it_pc {G : Nat → Nat} (g : Gst a G) {m : Nat} (hm : m < 4096) (h1 : 1 ≤ pc m) : ∀ k, (∀ j, j < k → it G m (j + 1) ≠ it G m j) → k + 1 ≤ pc (it G m k) := by
  intro k
  induction k with
  | zero => intro _; exact h1
  | succ k ih =>
    intro q
    have y := ih (fun j hj => q j (by omega))
    have z := pc_lt (g.up (it G m k)) (it_lt g hm k) (it_lt g hm (k + 1)) (fun e => q k (by omega) e.symm)
    have e : pc (G (it G m k)) = pc (it G m (k + 1)) := rfl
    omega
theorem it_ex {G : Nat → Nat} (g : Gst a G) {h : Nat} (hh : h < 12) : ∃ k, k < 12 ∧ it G (2 ^ h) (k + 1) = it G (2 ^ h) k ∧ (∀ j, j < k → it G (2 ^ h) (j + 1) ≠ it G (2 ^ h) j) ∧ IsCl a h (it G (2 ^ h) k) := by
  have hp := pow_lt hh
  have : ∃ j, j < 12 ∧ it G (2 ^ h) (j + 1) = it G (2 ^ h) j := by
    refine Classical.byContradiction fun z => ?_
    have y := it_pc g hp (by rw [pc_pow h hh]; exact Nat.le_refl 1) 12 (fun j hj e => z ⟨j, hj, e⟩)
    have := ct_le (fun i => (it G (2 ^ h) 12).testBit i) 12
    have e : pc (it G (2 ^ h) 12) = ct (fun i => (it G (2 ^ h) 12).testBit i) 12 := rfl
    omega
  obtain ⟨k, k1, k2, k3⟩ := least 12 this
  refine ⟨k, k1, k2, k3, it_lt g hp k, ?_, g.fx _ (it_lt g hp k) k2, ?_⟩
  · have : ∀ k, SS (2 ^ h) (it G (2 ^ h) k) := by
      intro k
      induction k with
      | zero => exact SS.rf _
      | succ k ih => exact ih.tr (g.up _)
    exact this k
  · intro d hd hs
    have : ∀ k, SS (it G (2 ^ h) k) d := by
      intro k
      induction k with
      | zero => exact hs
      | succ k ih => exact g.le _ d hd ih
    exact this k
theorem gC_stp (a : AR) : Gst a (fun m => gC a m 12) := by
  refine ⟨fun m hm => gC_lt a hm 12, fun m => gC_up a m 12, fun m d hd hs => gC_le hd hs 12 (Nat.le_refl 12), ?_⟩
  exact fun m hm e i hi q => by
    have := gC_in a m 12 i hi q
    have e2 : gC a m 12 = m := e
    rw [e2] at this; exact this
/-- one step of the reference: the same, but each that came counts at once -/
def gM (a : AR) (m : Nat) : Nat → Nat
  | 0 => m
  | i + 1 => gM a m i ||| (if (gM a m i).testBit i then tm a i else 0)
theorem gM_lt (a : AR) {m : Nat} (hm : m < 4096) : ∀ k, gM a m k < 4096 := by
  intro k
  induction k with
  | zero => exact hm
  | succ k ih =>
    rw [gM]
    refine or_lt ih ?_
    split
    · exact tm_lt a k
    · decide
theorem gM_up (a : AR) (m : Nat) : ∀ k, SS m (gM a m k) := by
  intro k
  induction k with
  | zero => exact SS.rf m
  | succ k ih => exact ih.tr (SS.orL _ _)
theorem gM_in (a : AR) (m : Nat) : ∀ k i, i < k → m.testBit i = true → SS (tm a i) (gM a m k) := by
  intro k
  induction k with
  | zero => intro i hi; omega
  | succ k ih =>
    intro i hi q
    rw [gM]
    rcases Nat.lt_succ_iff_lt_or_eq.mp hi with y | y
    · exact (ih i y q).tr (SS.orL _ _)
    · subst y; rw [gM_up a m i i q]; exact SS.orR _ _
theorem gM_le {m d : Nat} (hd : Clo a d) (hm : SS m d) : ∀ k, k ≤ 12 → SS (gM a m k) d := by
  intro k
  induction k with
  | zero => intro _; exact hm
  | succ k ih =>
    intro hk
    rw [gM]
    refine (ih (by omega)).or ?_
    split
    · rename_i q
      exact hd k (by omega) (ih (by omega) k q)
    · exact SS.zero d
theorem gM_stp (hw : WF a) (hn : aN a ≤ 12) : Gst a (fun m => gM a m (aN a)) := by
  refine ⟨fun m hm => gM_lt a hm _, fun m => gM_up a m _, fun m d hd hs => gM_le hd hs _ hn, ?_⟩
  exact fun m hm e i hi q => by
    rcases Nat.lt_or_ge i (aN a) with y | y
    · have := gM_in a m (aN a) i y q
      have e2 : gM a m (aN a) = m := e
      rw [e2] at this; exact this
    · rw [tm_out hw y]; exact SS.zero m
/-- the heap of h -/
def cl (a : AR) (h : Nat) : Nat := it (fun m => gC a m 12) (2 ^ h) 12
theorem it_stay {G : Nat → Nat} {m k : Nat} (e : it G m (k + 1) = it G m k) : ∀ j, it G m (k + j) = it G m k := by
  intro j
  induction j with
  | zero => rfl
  | succ j ih =>
    show G (it G m (k + j)) = it G m k
    rw [ih]; exact e
theorem cl_is (a : AR) {h : Nat} (hh : h < 12) : IsCl a h (cl a h) := by
  obtain ⟨k, k1, k2, _, k4⟩ := it_ex (gC_stp a) hh
  have := it_stay k2 (12 - k)
  rw [show k + (12 - k) = 12 by omega] at this
  rw [cl, this]; exact k4
theorem heap_in {m : Nat} (hm : m < 4096) (s : Int32) {β : Type} (K : Int32 → Option β) : Option.bind (lp (f_X3_heapOf_L18 (nI m, s) (LK a M)) FU (nI m, 0)) K = K (nI (gC a m 12)) := by
  refine (lp_go (r := nI (gC a m 12)) (fun k => (nI (gC a m k), nI k)) 12 rfl ?_ ?_ (by rw [FU_v]; omega))
  · intro k hk
    have g : ¬ (12 : Int32) ≤ nI k := nI_ge (a := k) (b := 12) hk (by decide)
    unfold f_X3_heapOf_L18
    dsimp only
    rw [if_neg g, X5_contains (by omega) (by omega), Option.bind_some]
    cases e : m.testBit k with
    | true =>
      rw [if_neg (by decide), if_pos (inR_nI hk (by decide)), cl_nI (by omega), LK_22 a M hk, Option.bind_some, bn_e, nI_or, nI_1, gC, e]
      rfl
    | false =>
      rw [if_pos (by decide), Option.bind_some, bn_e, nI_1, gC, e]
      exact congrArg (fun y => some (Sum.inl (y, nI (k + 1)))) (nI_or (gC a m k) 0)
  · rfl
theorem X3_heapOf {h : Nat} (hh : h < 12) : f_X3_heapOf (nI h) (LK a M) = some (nI (cl a h)) := by
  obtain ⟨k, k1, k2, k3, k4⟩ := it_ex (gC_stp a) hh
  have hl := it_lt (gC_stp a) (pow_lt hh)
  rw [f_X3_heapOf, sh1 h (by omega), bn_e, IsCl.one (cl_is a hh) k4]
  have st : ∀ j, j < 12 → f_X3_heapOf_L6 (LK a M) (nI (it (fun m => gC a m 12) (2 ^ h) j), nI j) = if nI (it (fun m => gC a m 12) (2 ^ h) (j + 1)) = nI (it (fun m => gC a m 12) (2 ^ h) j) then some (.inr (.inl (nI (it (fun m => gC a m 12) (2 ^ h) j)))) else some (.inl (nI (it (fun m => gC a m 12) (2 ^ h) (j + 1)), nI (j + 1))) := by
    intro j hj
    have g : ¬ (12 : Int32) ≤ nI j := nI_ge (a := j) (b := 12) hj (by decide)
    unfold f_X3_heapOf_L6
    dsimp only
    rw [if_neg g]
    refine (heap_in (hl j) (nI j) _).trans ?_
    rw [nI_1]
    rfl
  refine (lp_go (r := .inl (nI (it (fun m => gC a m 12) (2 ^ h) k))) (fun j => (nI (it (fun m => gC a m 12) (2 ^ h) j), nI j)) k rfl ?_ ?_ (by rw [FU_v]; omega)).trans ?_
  · intro j hj
    rw [st j (by omega), if_neg]
    intro q
    have z1 := hl (j + 1)
    have z2 := hl j
    exact k3 j hj ((nI_eq (by omega) (by omega)).mp q)
  · rw [st k k1, k2, if_pos rfl]
  · rfl
theorem heap_inM (hw : WF a) (hm : MR N 37 a) {m : Nat} (h4 : m < 4096) {β : Type} (K : Int32 → Option β) : Option.bind (lp (f_X6_heapOf_L16 N) FU (nI m, 0)) K = K (nI (gM a m (aN a))) := by
  have hn : aN a ≤ 12 := hw.1
  refine (lp_go (r := nI (gM a m (aN a))) (fun k => (nI (gM a m k), nI k)) (aN a) rfl ?_ ?_ (by rw [FU_v]; omega))
  · intro k hk
    have g : ¬ gI N 37 0 ≤ nI k := by rw [hm.1]; exact nI_ge hk (by omega)
    have hl := gM_lt a h4 k
    unfold f_X6_heapOf_L16
    dsimp only
    rw [if_neg g, bit_at (by omega) (by omega)]
    cases e : (gM a m k).testBit k with
    | true =>
      rw [if_pos (by decide), X6_tangledWith hw hm hk, Option.bind_some, Option.bind_some, bn_e, nI_or, nI_1, gM, e]
      rfl
    | false =>
      rw [if_neg (by decide), Option.bind_some, bn_e, nI_1, gM, e]
      exact congrArg (fun y => some (Sum.inl (y, nI (k + 1)))) (nI_or (gM a m k) 0)
  · unfold f_X6_heapOf_L16
    dsimp only
    rw [hm.1, if_pos (nI_le (Nat.le_refl _) (by omega))]
theorem X6_heapOf (hw : WF a) (hm : MR N 37 a) {h : Nat} (hh : h < 12) : f_X6_heapOf (nI h) N = some (nI (cl a h)) := by
  obtain ⟨k, k1, k2, k3, k4⟩ := it_ex (gM_stp hw hw.1) hh
  have hl := it_lt (gM_stp hw hw.1) (pow_lt hh)
  rw [f_X6_heapOf, sh1 h (by omega), bn_e, IsCl.one (cl_is a hh) k4]
  have st : ∀ j c, f_X6_heapOf_L6 N (nI (it (fun m => gM a m (aN a)) (2 ^ h) j), c) = if c = nI (it (fun m => gM a m (aN a)) (2 ^ h) j) then some (.inr (nI (it (fun m => gM a m (aN a)) (2 ^ h) j))) else some (.inl (nI (it (fun m => gM a m (aN a)) (2 ^ h) (j + 1)), nI (it (fun m => gM a m (aN a)) (2 ^ h) j))) := by
    intro j c
    unfold f_X6_heapOf_L6
    dsimp only
    split
    · rfl
    · exact heap_inM hw hm (hl j) _
  refine (lp_go (r := nI (it (fun m => gM a m (aN a)) (2 ^ h) k)) (fun j => (nI (it (fun m => gM a m (aN a)) (2 ^ h) j), if j = 0 then 0 else nI (it (fun m => gM a m (aN a)) (2 ^ h) (j - 1)))) (k + 1) rfl ?_ ?_ (by rw [FU_v]; omega)).trans ?_
  · intro j hj
    have z2 := hl j
    rw [st j, if_neg, if_neg (by omega), Nat.add_sub_cancel]
    intro q
    by_cases e : j = 0
    · subst e
      rw [if_pos rfl] at q
      have : (0 : Nat) = it (fun m => gM a m (aN a)) (2 ^ h) 0 := (nI_eq (a := 0) (by omega) (by omega)).mp q
      have z : it (fun m => gM a m (aN a)) (2 ^ h) 0 = 2 ^ h := rfl
      have : 0 < 2 ^ h := Nat.two_pow_pos h
      omega
    · rw [if_neg e] at q
      have z1 := hl (j - 1)
      have y := k3 (j - 1) (by omega)
      rw [Nat.sub_add_cancel (by omega)] at y
      exact y ((nI_eq (by omega) (by omega)).mp q).symm
  · rw [st (k + 1), if_pos, k2]
    rw [if_neg (by omega), Nat.add_sub_cancel, k2]
  · rfl
end HEAP
