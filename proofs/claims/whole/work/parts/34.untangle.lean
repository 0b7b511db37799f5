/-! PURE: untangle, saves -/
section UNTANGLE
variable {M N : Mem} {a : AR}
theorem lt_bit {x y n : Nat} (hx : x.testBit n = false) (hy : y.testBit n = true) (h : ∀ j, n < j → x.testBit j = y.testBit j) : x < y := by
  have e : x / 2 ^ (n + 1) = y / 2 ^ (n + 1) := Nat.eq_of_testBit_eq fun j => by
    rw [Nat.testBit_div_two_pow, Nat.testBit_div_two_pow]; exact h _ (by omega)
  rw [Nat.testBit_eq_decide_div_mod_eq] at hx hy
  have hx : ¬ x / 2 ^ n % 2 = 1 := by simpa using hx
  have hy : y / 2 ^ n % 2 = 1 := by simpa using hy
  rw [Nat.pow_succ, ← Nat.div_div_eq_div_mul, ← Nat.div_div_eq_div_mul] at e
  refine Classical.byContradiction fun z => ?_
  have := Nat.div_le_div_right (c := 2 ^ n) (Nat.le_of_not_lt z)
  omega
theorem tb_tm (a : AR) (h i : Nat) : (tm a h).testBit i = (decide (i < 12) && tan a h i) := tb_ms _ _ _
theorem tm_sym {h i : Nat} (hh : h < 12) (q : (tm a h).testBit i = true) : (tm a i).testBit h = true := by
  rw [tb_tm] at q ⊢
  rw [tan_sym]
  simp at q
  simp [hh, q.2]
theorem tm_12 {h i : Nat} (q : (tm a h).testBit i = true) : i < 12 := by
  rw [tb_tm] at q
  simp at q
  exact q.1
theorem tm_on {h i : Nat} (q : (tm a h).testBit i = true) : onA a h = true ∧ onA a i = true := by
  rw [tb_tm] at q
  have q2 : tan a h i = true := by simp at q; exact q.2
  have key : ∀ x y, tan a x y = true → onA a x = true := fun x y z => by
    unfold tan at z
    unfold onA
    cases e : aPl a x with
    | none => rw [e] at z; cases z
    | some p => rfl
  exact ⟨key h i q2, key i h (by rw [tan_sym]; exact q2)⟩
theorem tm_irr (h : Nat) : (tm a h).testBit h = false := by
  rw [tb_tm]
  have : tan a h h = false := by
    unfold tan tanW
    cases aPl a h <;> simp
  rw [this]; simp
/-- C takes one of every tangled pair -/
def Cov (a : AR) (C : Nat) : Prop := ∀ i j, i < 12 → (tm a i).testBit j = true → C.testBit i = true ∨ C.testBit j = true
def Fm (a : AR) (n t C : Nat) : Prop := C < 4096 ∧ Cov a C ∧ SS t C ∧ ∀ i, n ≤ i → C.testBit i = t.testBit i
def Stl (a : AR) (n t : Nat) : Prop := ∀ i, n ≤ i → i < 12 → t.testBit i = false → SS (tm a i) t
def cK (C : Nat) : Nat := pc C * 4096 + C
def Spc (a : AR) (n t : Nat) (bv : Int32) (cb : Nat) (rv : Int32) (cr : Nat) : Prop := (rv = bv ∧ cr = cb ∧ ∀ C, Fm a n t C → cb ≤ pc C) ∨ ∃ r, rv = nI r ∧ cr = pc r ∧ Fm a n t r ∧ pc r < cb ∧ ∀ C, Fm a n t C → cK r ≤ cK C
theorem Fm_has {n t C : Nat} (h : t.testBit n = true) : Fm a (n + 1) t C ↔ Fm a n t C := by
  constructor
  · rintro ⟨h1, h2, h3, h4⟩
    refine ⟨h1, h2, h3, fun i hi => ?_⟩
    by_cases e : i = n
    · rw [e, h, h3 n h]
    · exact h4 i (by omega)
  · rintro ⟨h1, h2, h3, h4⟩
    exact ⟨h1, h2, h3, fun i hi => h4 i (by omega)⟩
theorem must_hi {n t i : Nat} (hs : Stl a (n + 1) t) (hn : n < 12) (h : t.testBit n = false) (hi : n < i) (q : (tm a n).testBit i = true) : t.testBit i = true := by
  cases e : t.testBit i with
  | true => rfl
  | false =>
    have := hs i (by omega) (tm_12 q) e n (tm_sym hn q)
    rw [h] at this; cases this
/-- without n: all that are tangled with it are taken -/
theorem Fm_out {n t C : Nat} (hs : Stl a (n + 1) t) (hn : n < 12) (h : t.testBit n = false) : Fm a n (t ||| df (tm a n) t) C ↔ (Fm a (n + 1) t C ∧ C.testBit n = false) := by
  have hb : ∀ i, n ≤ i → (t ||| df (tm a n) t).testBit i = t.testBit i := fun i hi => by
    rw [Nat.testBit_or, tb_df]
    by_cases e : i = n
    · rw [e, h, tm_irr]; rfl
    · cases e2 : (tm a n).testBit i with
      | false => simp
      | true => rw [must_hi hs hn h (by omega) e2]; rfl
  constructor
  · rintro ⟨h1, h2, h3, h4⟩
    refine ⟨⟨h1, h2, (SS.orL _ _).tr h3, fun i hi => ?_⟩, ?_⟩
    · rw [h4 i (by omega), hb i (by omega)]
    · rw [h4 n (Nat.le_refl n), hb n (Nat.le_refl n), h]
  · rintro ⟨⟨h1, h2, h3, h4⟩, h5⟩
    refine ⟨h1, h2, h3.or fun i q => ?_, fun i hi => ?_⟩
    · rw [tb_df] at q
      have q1 : (tm a n).testBit i = true := by
        cases e : (tm a n).testBit i with
        | true => rfl
        | false => rw [e] at q; cases q
      rcases h2 n i hn q1 with y | y
      · rw [h5] at y; cases y
      · exact y
    · rw [hb i hi]
      by_cases e : i = n
      · rw [e, h5, h]
      · exact h4 i (by omega)
theorem Fm_in {n t C : Nat} (h : t.testBit n = false) : Fm a n (t ||| 2 ^ n) C ↔ (Fm a (n + 1) t C ∧ C.testBit n = true) := by
  constructor
  · rintro ⟨h1, h2, h3, h4⟩
    refine ⟨⟨h1, h2, (SS.orL _ _).tr h3, fun i hi => ?_⟩, ?_⟩
    · rw [h4 i (by omega), Nat.testBit_or, tb_pow]
      have : decide (n = i) = false := by simp; omega
      rw [this, Bool.or_false]
    · exact h3 n (by rw [Nat.testBit_or, tb_pow]; simp)
  · rintro ⟨⟨h1, h2, h3, h4⟩, h5⟩
    refine ⟨h1, h2, h3.or (SS_pow.mpr h5), fun i hi => ?_⟩
    rw [Nat.testBit_or, tb_pow]
    by_cases e : n = i
    · subst e; rw [h5]; simp
    · have : decide (n = i) = false := by simpa using e
      rw [this, Bool.or_false]
      exact h4 i (by omega)
theorem Stl_has {n t : Nat} (hs : Stl a (n + 1) t) (h : t.testBit n = true) : Stl a n t := fun i hi h12 q => by
  by_cases e : i = n
  · rw [e, h] at q; cases q
  · exact hs i (by omega) h12 q
theorem Stl_out {n t : Nat} (hs : Stl a (n + 1) t) : Stl a n (t ||| df (tm a n) t) := fun i hi h12 q => by
  have q1 : t.testBit i = false := by
    rw [Nat.testBit_or] at q
    cases e : t.testBit i with
    | false => rfl
    | true => rw [e] at q; cases q
  by_cases e : i = n
  · intro j hj
    rw [e] at hj
    rw [Nat.testBit_or, tb_df, hj]
    cases t.testBit j <;> rfl
  · exact (hs i (by omega) h12 q1).tr (SS.orL _ _)
theorem Stl_in {n t : Nat} (hs : Stl a (n + 1) t) : Stl a n (t ||| 2 ^ n) := fun i hi h12 q => by
  rw [Nat.testBit_or, tb_pow] at q
  have q1 : t.testBit i = false := by
    cases e : t.testBit i with
    | false => rfl
    | true => rw [e] at q; cases q
  by_cases e : i = n
  · rw [e] at q; simp at q
  · exact (hs i (by omega) h12 q1).tr (SS.orL _ _)
/-- n isn't needed: without it there is a smaller one -/
theorem Fm_drop {n t C : Nat} (hn : n < 12) (h : t.testBit n = false) (hm : df (tm a n) t = 0) (hC : Fm a (n + 1) t C) (hb : C.testBit n = true) : Fm a (n + 1) t (df C (2 ^ n)) ∧ (df C (2 ^ n)).testBit n = false ∧ pc (df C (2 ^ n)) < pc C := by
  obtain ⟨h1, h2, h3, h4⟩ := hC
  have hms := df_zero.mp hm
  have ne : ∀ i, i ≠ n → (df C (2 ^ n)).testBit i = C.testBit i := fun i hi => by
    rw [tb_df, tb_pow]
    have : decide (n = i) = false := by simp; omega
    rw [this]; simp
  have ee : (df C (2 ^ n)).testBit n = false := by rw [tb_df, tb_pow]; simp
  have hlt : df C (2 ^ n) < 4096 := SS_lt (df_sub _ _) h1
  refine ⟨⟨hlt, fun i j hi q => ?_, fun i q => ?_, fun i hi => ?_⟩, ee, pc_lt (df_sub _ _) hlt h1 (fun z => ?_)⟩
  · by_cases e1 : i = n
    · rw [e1] at q
      have := hms j q
      have hj : j ≠ n := fun z => by rw [z, h] at this; cases this
      rw [ne j hj]
      exact Or.inr (h3 j this)
    · by_cases e2 : j = n
      · rw [e2] at q
        have := hms i (tm_sym hi q)
        rw [ne i e1]
        exact Or.inl (h3 i this)
      · rw [ne i e1, ne j e2]
        exact h2 i j hi q
  · have : i ≠ n := fun z => by rw [z, h] at q; cases q
    rw [ne i this]; exact h3 i q
  · rw [ne i (by omega)]; exact h4 i hi
  · rw [z, hb] at ee; cases ee
theorem cK_lt {r C : Nat} (hr : r < 4096) (h : pc r < pc C) : cK r < cK C := by unfold cK; omega
theorem lc_spec : ∀ n F t bv cb, n ≤ 12 → n < F → t < 4096 → Stl a n t → f_J6_bitCount_0f7a4 bv = some (nI cb) → cb ≤ 32 → ∃ rv cr, f_X3_leastCover__22 F (nI n - 1) (nI t) bv (LK a M) = some rv ∧ f_J6_bitCount_0f7a4 rv = some (nI cr) ∧ cr ≤ 32 ∧ Spc a n t bv cb rv cr := by
  intro n
  induction n with
  | zero =>
    intro F t bv cb hn hF ht hs hb hc
    obtain ⟨F, rfl⟩ : ∃ G, F = G + 1 := ⟨F - 1, by omega⟩
    have hp := pc_le t
    rw [f_X3_leastCover__22, bc_spec t ht, Option.bind_some, hb, Option.bind_some]
    by_cases q : pc t < cb
    · rw [if_pos (nI_lt q (by omega)), if_pos (by decide)]
      have hF : Fm a 0 t t := ⟨ht, fun i j hi q => by
        cases e : t.testBit i with
        | true => exact Or.inl rfl
        | false => exact Or.inr (hs i (Nat.zero_le i) hi e j q), SS.rf t, fun _ _ => rfl⟩
      refine ⟨nI t, pc t, rfl, bc_spec t ht, by omega, Or.inr ⟨t, rfl, rfl, hF, q, fun C hC => ?_⟩⟩
      have : C = t := Nat.eq_of_testBit_eq fun i => hC.2.2.2 i (Nat.zero_le i)
      rw [this]; exact Nat.le_refl _
    · rw [if_neg (nI_nlt (by omega) (by omega))]
      exact ⟨bv, cb, rfl, hb, hc, Or.inl ⟨rfl, rfl, fun C hC => by have := pc_mono hC.2.2.1; omega⟩⟩
  | succ n ih =>
    intro F t bv cb hn hF ht hs hb hc
    obtain ⟨F, rfl⟩ : ∃ G, F = G + 1 := ⟨F - 1, by omega⟩
    have hp := pc_le t
    have g12 : nI n < 12 := nI_lt (b := 12) (by omega) (by decide)
    rw [f_X3_leastCover__22, bc_spec t ht, Option.bind_some, hb, Option.bind_some, nI_pred]
    by_cases q : pc t < cb
    · rw [if_pos (nI_lt q (by omega)), if_neg (nI_pos (by omega)), if_pos g12, X5_contains (by omega) (by omega), Option.bind_some]
      cases e : t.testBit n with
      | true =>
        obtain ⟨rv, cr, i1, i2, i3, i4⟩ := ih F t bv cb (by omega) (by omega) ht (Stl_has hs e) hb hc
        rw [b2_t rfl, if_neg (by decide), i1, Option.bind_some]
        refine ⟨rv, cr, rfl, i2, i3, ?_⟩
        rcases i4 with ⟨j1, j2, j3⟩ | ⟨r, j1, j2, j3, j4, j5⟩
        · exact Or.inl ⟨j1, j2, fun C hC => j3 C ((Fm_has e).mp hC)⟩
        · exact Or.inr ⟨r, j1, j2, (Fm_has e).mpr j3, j4, fun C hC => j5 C ((Fm_has e).mp hC)⟩
      | false =>
        have hl1 : t ||| df (tm a n) t < 4096 := or_lt ht (SS_lt (df_sub _ _) (tm_lt a n))
        have hl2 : t ||| 2 ^ n < 4096 := or_lt ht (pow_lt (by omega))
        have hdl : df (tm a n) t < 4096 := SS_lt (df_sub _ _) (tm_lt a n)
        obtain ⟨bv1, cb1, i1, i2, i3, i4⟩ := ih F _ bv cb (by omega) (by omega) hl1 (Stl_out hs) hb hc
        have sp : ∀ C, Fm a (n + 1) t C → C.testBit n = false → Fm a n (t ||| df (tm a n) t) C := fun C h1 h2 => (Fm_out hs (by omega) e).mpr ⟨h1, h2⟩
        rw [b2_f (by decide), if_pos rfl, if_pos (inR_nI (show n < 12 by omega) (by decide)), cl_nI (by omega), LK_22 a M (by omega), nI_df, bn_e, nI_or, i1, Option.bind_some]
        by_cases z : df (tm a n) t = 0
        · have g0 : nI (df (tm a n) t) = 0 := by rw [z]; rfl
          rw [if_pos g0, Option.bind_some]
          refine ⟨bv1, cb1, rfl, i2, i3, ?_⟩
          rcases i4 with ⟨j1, j2, j3⟩ | ⟨r, j1, j2, j3, j4, j5⟩
          · refine Or.inl ⟨j1, j2, fun C hC => ?_⟩
            cases eC : C.testBit n with
            | false => exact j3 C (sp C hC eC)
            | true =>
              obtain ⟨d1, d2, d3⟩ := Fm_drop (by omega) e z hC eC
              have := j3 _ (sp _ d1 d2)
              omega
          · have hr := (Fm_out hs (by omega) e).mp j3
            refine Or.inr ⟨r, j1, j2, hr.1, j4, fun C hC => ?_⟩
            cases eC : C.testBit n with
            | false => exact j5 C (sp C hC eC)
            | true =>
              obtain ⟨d1, d2, d3⟩ := Fm_drop (by omega) e z hC eC
              have x1 := j5 _ (sp _ d1 d2)
              have x2 := cK_lt d1.1 d3
              omega
        · have g0 : ¬ nI (df (tm a n) t) = 0 := nI_ne0 (by omega) (by omega)
          obtain ⟨rv, cr, k1, k2, k3, k4⟩ := ih F _ bv1 cb1 (by omega) (by omega) hl2 (Stl_in hs) i2 i3
          rw [if_neg g0, sh1 n (by omega), nI_or, k1, Option.bind_some, Option.bind_some]
          have si : ∀ C, Fm a (n + 1) t C → C.testBit n = true → Fm a n (t ||| 2 ^ n) C := fun C h1 h2 => (Fm_in e).mpr ⟨h1, h2⟩
          refine ⟨rv, cr, rfl, k2, k3, ?_⟩
          rcases i4 with ⟨j1, j2, j3⟩ | ⟨b, j1, j2, j3, j4, j5⟩
          · rcases k4 with ⟨l1, l2, l3⟩ | ⟨r, l1, l2, l3, l4, l5⟩
            · refine Or.inl ⟨l1.trans j1, l2.trans j2, fun C hC => ?_⟩
              cases eC : C.testBit n with
              | false => exact j3 C (sp C hC eC)
              | true => have := l3 C (si C hC eC); omega
            · refine Or.inr ⟨r, l1, l2, ((Fm_in e).mp l3).1, by omega, fun C hC => ?_⟩
              cases eC : C.testBit n with
              | false =>
                have x1 := j3 C (sp C hC eC)
                exact Nat.le_of_lt (cK_lt l3.1 (by omega))
              | true => exact l5 C (si C hC eC)
          · have hb2 := (Fm_out hs (by omega) e).mp j3
            rcases k4 with ⟨l1, l2, l3⟩ | ⟨r, l1, l2, l3, l4, l5⟩
            · refine Or.inr ⟨b, l1.trans j1, l2.trans j2, hb2.1, j4, fun C hC => ?_⟩
              cases eC : C.testBit n with
              | false => exact j5 C (sp C hC eC)
              | true =>
                have x1 := l3 C (si C hC eC)
                have x2 : b < C := lt_bit hb2.2 eC (fun j hj => by rw [hb2.1.2.2.2 j (by omega), hC.2.2.2 j (by omega)])
                unfold cK
                omega
            · refine Or.inr ⟨r, l1, l2, ((Fm_in e).mp l3).1, by omega, fun C hC => ?_⟩
              cases eC : C.testBit n with
              | false =>
                have x1 := j5 C (sp C hC eC)
                have x2 := cK_lt l3.1 (show pc r < pc b by omega)
                omega
              | true => exact l5 C (si C hC eC)
    · rw [if_neg (nI_nlt (by omega) (by omega))]
      exact ⟨bv, cb, rfl, hb, hc, Or.inl ⟨rfl, rfl, fun C hC => by have := pc_mono hC.2.2.1; omega⟩⟩
/-- the least of the smallest -/
def LC (a : AR) (r : Nat) : Prop := r < 4096 ∧ Cov a r ∧ ∀ C, C < 4096 → Cov a C → cK r ≤ cK C
theorem X3_leastCover (a : AR) (M : Mem) : ∃ r, f_X3_leastCover (LK a M) = some (nI r) ∧ LC a r := by
  obtain ⟨rv, cr, h1, h2, h3, h4⟩ := lc_spec (a := a) (M := M) 12 14 0 (-1) 32 (by decide) (by decide) (by decide) (fun i hi h12 => by omega) (by decide +kernel) (by decide)
  have h1' : f_X3_leastCover__22 14 11 0 (-1) (LK a M) = some rv := h1
  have all : ∀ C, C < 4096 → Cov a C → Fm a 12 0 C := fun C hC hv => ⟨hC, hv, SS.zero C, fun i hi => by rw [tb_big hC hi, Nat.zero_testBit]⟩
  rcases h4 with ⟨j1, j2, j3⟩ | ⟨r, j1, j2, j3, j4, j5⟩
  · have hv : Cov a 4095 := fun i j hi _ => Or.inl ((by decide : ∀ i, i < 12 → (4095 : Nat).testBit i = true) i hi)
    have := j3 4095 (all 4095 (by decide) hv)
    have := pc_le 4095
    omega
  · refine ⟨r, ?_, j3.1, j3.2.1, fun C hC hv => j5 C (all C hC hv)⟩
    unfold f_X3_leastCover
    rw [h1', j1]
    rfl
def iu (a : AR) (l : Nat) : Nat → Bool
  | 0 => true
  | k + 1 => iu a l k && (!l.testBit k || decide (tm a k &&& l = 0))
theorem iu_iff (a : AR) (l : Nat) : ∀ k, iu a l k = true ↔ ∀ h, h < k → l.testBit h = true → tm a h &&& l = 0 := by
  intro k
  induction k with
  | zero => exact ⟨fun _ h hh => absurd hh (Nat.not_lt_zero h), fun _ => rfl⟩
  | succ k ih =>
    rw [iu]
    simp only [Bool.and_eq_true, ih, Bool.or_eq_true, Bool.not_eq_true', decide_eq_true_eq]
    constructor
    · rintro ⟨h1, h2⟩ h hh q
      rcases Nat.lt_succ_iff_lt_or_eq.mp hh with y | y
      · exact h1 h y q
      · subst y
        rcases h2 with z | z
        · rw [z] at q; cases q
        · exact z
    · intro h1
      refine ⟨fun h hh q => h1 h (by omega) q, ?_⟩
      cases e : l.testBit k with
      | false => exact Or.inl rfl
      | true => exact Or.inr (h1 k (Nat.lt_succ_self k) e)
/-- the reference's row of who is tangled with whom -/
def WT (a : AR) (N : Mem) : Prop := ∀ h, h < aN a → gI N 42 h = nI (tm a h)
theorem X6_isUntangled (hw : WF a) (hm : MR N 37 a) (ht : WT a N) {l : Nat} (hl : l < 4096) : f_X6_isUntangled (nI l) N = some (b2 (iu a l (aN a) = true)) := by
  have hn := hw.1
  unfold f_X6_isUntangled
  refine (lp_go (r := b2 (iu a l (aN a) = true)) (fun k => (b2 (iu a l k = true), nI k)) (aN a) rfl ?_ ?_ (by rw [FU_v]; omega)).trans (by rw [if_pos (b2_z _)])
  · intro k hk
    have hal : tm a k &&& l < 4096 := and_lt hl
    unfold f_X6_isUntangled_L4
    dsimp only
    rw [hm.1, if_neg (nI_ge hk (by omega)), bit_at (by omega) (by omega), if_pos (inR_nI (show k < 12 by omega) (by decide)), cl_nI (by omega), ht k hk, nI_and, nI_1, iu]
    cases e1 : iu a l k with
    | false => rfl
    | true =>
      rw [b2_t rfl, if_neg (by decide)]
      cases e2 : l.testBit k with
      | false => rfl
      | true =>
        rw [b2_t rfl, if_neg (by decide)]
        by_cases q : tm a k &&& l = 0
        · have g : nI (tm a k &&& l) = 0 := by rw [q]; rfl
          rw [if_pos g, b2_t (by simp [q])]; rfl
        · have g : ¬ nI (tm a k &&& l) = 0 := nI_ne0 (by omega) (by omega)
          rw [if_neg g, b2_f (by simp [q])]; rfl
  · unfold f_X6_isUntangled_L4
    dsimp only
    rw [hm.1, if_pos (nI_le (Nat.le_refl _) (by omega))]
theorem iu_cov (hw : WF a) {s : Nat} : iu a (df (ms (onA a) 12) s) (aN a) = true ↔ Cov a s := by
  have hn := hw.1
  have bt : ∀ i, onA a i = true → (df (ms (onA a) 12) s).testBit i = !s.testBit i := fun i o => by
    have hi : i < 12 := by have := on_lt hw o; omega
    rw [tb_df, tb_ms, o]; simp [hi]
  rw [iu_iff]
  constructor
  · intro h i j hi q
    obtain ⟨o1, o2⟩ := tm_on q
    cases e1 : s.testBit i with
    | true => exact Or.inl rfl
    | false =>
      cases e2 : s.testBit j with
      | true => exact Or.inr rfl
      | false =>
        exfalso
        have h1 := h i (on_lt hw o1) (by rw [bt i o1, e1]; rfl)
        have : (tm a i &&& df (ms (onA a) 12) s).testBit j = true := by rw [Nat.testBit_and, q, bt j o2, e2]; rfl
        rw [h1] at this
        simp at this
  · intro hc h hh q
    refine Nat.eq_of_testBit_eq fun j => ?_
    rw [Nat.testBit_and, Nat.zero_testBit]
    cases e : (tm a h).testBit j with
    | false => rfl
    | true =>
      obtain ⟨o1, o2⟩ := tm_on e
      rw [bt h o1] at q
      rw [bt j o2]
      rcases hc h j (by omega) e with y | y
      · rw [y] at q; cases q
      · rw [y]; rfl
theorem away_1 (hw : WF a) (hm : MR N 37 a) : ∃ N2, lp (f_X6_fewestAway_L7) FU (0, N) = some N2 ∧ WT a N2 ∧ MR N2 37 a ∧ NO N N2 := by
  have hn := hw.1
  have := lp_inv (f := f_X6_fewestAway_L7) (fun k (s : Int32 × Mem) => s.1 = nI k ∧ (∀ h, h < k → gI s.2 42 h = nI (tm a h)) ∧ MR s.2 37 a ∧ NO N s.2) (fun N2 => WT a N2 ∧ MR N2 37 a ∧ NO N N2) (aN a) (F := FU) ?_ ?_ (by rw [FU_v]; omega) (s0 := (0, N)) ⟨rfl, fun h hh => absurd hh (Nat.not_lt_zero h), hm, NO.rf N⟩
  · exact this
  · rintro k hk ⟨i, N2⟩ ⟨rfl, h1, h2, h3⟩
    dsimp only at h1 h2 h3
    unfold f_X6_fewestAway_L7
    dsimp only
    rw [h2.1, if_neg (nI_ge hk (by omega)), X6_tangledWith hw h2 hk, Option.bind_some, if_pos (inR_nI (show k < 12 by omega) (by decide)), cl_nI (by omega), bn_e, nI_1]
    refine ⟨_, rfl, rfl, fun h hh => ?_, h2.of (fun j => by rw [gI_sI, if_neg (by omega)]), h3.sI (by decide) (fun z => absurd z (by decide))⟩
    dsimp only
    rw [gI_sI]
    by_cases e : h = k
    · rw [if_pos ⟨rfl, e⟩, e]
    · rw [if_neg (fun z => e z.2)]; exact h1 h (by omega)
  · rintro ⟨i, N2⟩ ⟨rfl, h1, h2, h3⟩
    dsimp only at h1 h2 h3
    unfold f_X6_fewestAway_L7
    dsimp only
    rw [h2.1, if_pos (nI_le (Nat.le_refl _) (by omega))]
    exact ⟨_, rfl, h1, h2, h3⟩
theorem cov_on (hw : WF a) : Cov a (ms (onA a) 12) := fun i j hi q => by
  have o := (tm_on q).1
  refine Or.inl ?_
  rw [tb_ms, o]; simp [hi]
theorem away_2 (hw : WF a) (hm : MR N 37 a) (ht : WT a N) : ∃ B, lp (f_X6_fewestAway_L38 (nI (ms (onA a) 12)) N) FU (nI (ms (onA a) 12), 0) = some (nI B) ∧ B < 4096 ∧ Cov a B ∧ ∀ C, SS C (ms (onA a) 12) → Cov a C → cK B ≤ cK C := by
  have hl := ms12 (onA a)
  generalize hon : ms (onA a) 12 = on at hl
  have := lp_inv (f := f_X6_fewestAway_L38 (nI on) N) (fun k (s : Int32 × Int32) => ∃ B, s = (nI B, nI k) ∧ SS B on ∧ Cov a B ∧ (B < k ∨ B = on) ∧ ∀ C, C < k → SS C on → Cov a C → cK B ≤ cK C) (fun r => ∃ B, r = nI B ∧ B < 4096 ∧ Cov a B ∧ ∀ C, SS C on → Cov a C → cK B ≤ cK C) (on + 1) (F := FU) ?_ ?_ (by rw [FU_v]; omega) (s0 := (nI on, 0)) ⟨on, rfl, SS.rf _, by rw [← hon]; exact cov_on hw, Or.inr rfl, fun C hC => absurd hC (Nat.not_lt_zero C)⟩
  · obtain ⟨r, h1, B, rfl, h2⟩ := this
    exact ⟨B, h1, h2⟩
  · rintro k hk s ⟨B, rfl, h1, h2, h3, h4⟩
    have hB := SS_lt h1 hl
    have hdl : df k on < 4096 := SS_lt (df_sub _ _) (by omega)
    have hdl2 : df on k < 4096 := SS_lt (df_sub _ _) hl
    have pB := pc_le B
    have pk := pc_le k
    have nxt : ∀ B2, SS B2 on → Cov a B2 → (B2 < k + 1 ∨ B2 = on) → (SS k on → Cov a k → cK B2 ≤ cK k) → (∀ C, C < k → SS C on → Cov a C → cK B2 ≤ cK C) → ∃ B, ((nI B2, nI (k + 1)) : Int32 × Int32) = (nI B, nI (k + 1)) ∧ SS B on ∧ Cov a B ∧ (B < k + 1 ∨ B = on) ∧ ∀ C, C < k + 1 → SS C on → Cov a C → cK B ≤ cK C := fun B2 x1 x2 x3 x4 x5 => ⟨B2, rfl, x1, x2, x3, fun C hC hs hv => by
      rcases Nat.lt_succ_iff_lt_or_eq.mp hC with y | y
      · exact x5 C y hs hv
      · rw [y] at hs hv ⊢; exact x4 hs hv⟩
    unfold f_X6_fewestAway_L38
    dsimp only
    rw [if_neg (nI_nlt (by omega) (by omega)), nI_df, nI_df, nI_1, ones_spec k (by omega), ones_spec B hB, Option.bind_some, Option.bind_some, X6_isUntangled hw hm ht hdl2, Option.bind_some]
    by_cases q : SS k on
    · have g : nI (df k on) = 0 := by rw [df_zero.mpr q]; rfl
      rw [if_pos g]
      by_cases q2 : pc B ≤ pc k
      · rw [if_pos (nI_le q2 (by omega)), Option.bind_some]
        refine ⟨_, rfl, nxt B h1 h2 (by omega) (fun _ _ => ?_) h4⟩
        unfold cK
        rcases h3 with y | y
        · omega
        · by_cases e : k = B
          · rw [e]; exact Nat.le_refl _
          · have : pc k < pc B := pc_lt (by rw [y]; exact q) (by omega) hB e
            omega
      · have iuc := iu_cov hw (s := k)
        rw [hon] at iuc
        rw [if_neg (nI_ge (by omega) (by omega))]
        by_cases q3 : Cov a k
        · rw [b2_t (iuc.mpr q3), if_neg (by decide), Option.bind_some]
          refine ⟨_, rfl, nxt k q q3 (by omega) (fun _ _ => Nat.le_refl _) (fun C hC hs hv => ?_)⟩
          exact Nat.le_trans (Nat.le_of_lt (cK_lt (by omega) (by omega))) (h4 C hC hs hv)
        · rw [b2_f (fun z => q3 (iuc.mp z)), if_pos rfl, Option.bind_some]
          exact ⟨_, rfl, nxt B h1 h2 (by omega) (fun _ z => absurd z q3) h4⟩
    · have g : ¬ nI (df k on) = 0 := nI_ne0 (by
        rcases Nat.eq_zero_or_pos (df k on) with z | z
        · exact absurd (df_zero.mp z) q
        · exact z) (by omega)
      rw [if_neg g, Option.bind_some]
      exact ⟨_, rfl, nxt B h1 h2 (by omega) (fun z _ => absurd z q) h4⟩
  · rintro s ⟨B, rfl, h1, h2, h3, h4⟩
    unfold f_X6_fewestAway_L38
    dsimp only
    rw [if_pos (nI_lt (by omega) (by omega))]
    refine ⟨_, rfl, B, rfl, SS_lt h1 hl, h2, fun C hs hv => h4 C ?_ hs hv⟩
    have : C ≤ on := Nat.le_of_testBit hs
    omega
theorem cK_inj {m c : Nat} (hm : m < 4096) (hc : c < 4096) (h : cK m = cK c) : m = c := by
  unfold cK at h
  omega
theorem X6_fewestAway (hw : WF a) (hm : MR N 37 a) {r : Nat} (hr : LC a r) : ∃ N2, f_X6_fewestAway N = some (nI r, N2) ∧ MR N2 37 a ∧ NO N N2 := by
  obtain ⟨N2, e1, e2, e3, e4⟩ := away_1 hw hm
  obtain ⟨B, k1, k2, k3, k4⟩ := away_2 hw e3 e2
  have cv : Cov a (r &&& ms (onA a) 12) := fun i j hi q => by
    obtain ⟨o1, o2⟩ := tm_on q
    have hj := tm_12 q
    rw [Nat.testBit_and, Nat.testBit_and, tb_ms, tb_ms, o1, o2]
    rcases hr.2.1 i j hi q with y | y
    · exact Or.inl (by rw [y]; simp [hi])
    · exact Or.inr (by rw [y]; simp [hj])
  have e : r = B := by
    refine cK_inj hr.1 k2 (Nat.le_antisymm (hr.2.2 B k2 k3) ?_)
    refine Nat.le_trans (k4 _ (SS_and.mp (SS.rf _)).2 cv) ?_
    have h1 : pc (r &&& ms (onA a) 12) ≤ pc r := pc_mono (SS_and.mp (SS.rf _)).1
    have h2 : r &&& ms (onA a) 12 ≤ r := Nat.and_le_left
    unfold cK
    omega
  unfold f_X6_fewestAway
  rw [X6_onRail hw hm, Option.bind_some, e1, Option.bind_some, k1, Option.bind_some, ← e]
  exact ⟨N2, rfl, e3, e4⟩
theorem p_untangle (h : Rel M N) : Same (f_X5_untangle M) (f_X6_untangle N) := by
  obtain ⟨a, hw, hc, hm⟩ := h.1
  obtain ⟨r, c1, c2⟩ := X3_leastCover a M
  obtain ⟨N2, n1, n2, n3⟩ := X6_fewestAway hw hm c2
  unfold f_X5_untangle f_X6_untangle
  rw [X3_look hw hc, Option.bind_some, c1, Option.bind_some, n1, Option.bind_some]
  exact ⟨_, _, _, rfl, rfl, h.rail a hw (C_lkm hc 12) n2 (CO_lkm a M 12) n3⟩
def orA (a : AR) : Nat → Nat
  | 0 => 0
  | k + 1 => orA a k ||| tm a k
theorem orA_tb (a : AR) (i : Nat) : ∀ k, k ≤ 12 → ((orA a k).testBit i = true ↔ ∃ h, h < k ∧ (tm a h).testBit i = true) := by
  intro k
  induction k with
  | zero => intro _; exact ⟨fun q => by simp [orA] at q, fun ⟨h, hh, _⟩ => absurd hh (Nat.not_lt_zero h)⟩
  | succ k ih =>
    intro hk
    rw [orA, Nat.testBit_or, Bool.or_eq_true, ih (by omega)]
    constructor
    · rintro (⟨h, h1, h2⟩ | h1)
      · exact ⟨h, by omega, h2⟩
      · exact ⟨k, by omega, h1⟩
    · rintro ⟨h, h1, h2⟩
      rcases Nat.lt_succ_iff_lt_or_eq.mp h1 with y | y
      · exact Or.inl ⟨h, y, h2⟩
      · subst y; exact Or.inr h2
theorem orA_lt (a : AR) : ∀ k, orA a k < 4096 := by
  intro k
  induction k with
  | zero => exact (by decide : 0 < 4096)
  | succ k ih => exact or_lt ih (tm_lt a k)
theorem orA_pc (a : AR) : pc (orA a 12) = ct (fun h => decide (tm a h ≠ 0)) 12 := by
  unfold pc
  refine ct_ext fun i hi => ?_
  have h1 := orA_tb a i 12 (Nat.le_refl 12)
  by_cases q : tm a i = 0
  · have : (orA a 12).testBit i = false := by
      cases e : (orA a 12).testBit i with
      | false => rfl
      | true =>
        obtain ⟨h, h2, h3⟩ := h1.mp e
        have := tm_sym h2 h3
        rw [q] at this
        simp at this
    rw [this]; simp [q]
  · obtain ⟨j, hj⟩ := Nat.exists_testBit_of_ne_zero q
    have := h1.mpr ⟨j, tm_12 hj, tm_sym hi hj⟩
    rw [this]; simp [q]
theorem X3_all (a : AR) (M : Mem) : f_X3_all (LK a M) = some (nI (orA a 12)) := by
  unfold f_X3_all
  refine (lp_go (r := nI (orA a 12)) (fun k => (nI (orA a k), nI k)) 12 rfl (fun k hk => ?_) rfl (by rw [FU_v]; omega)).trans rfl
  have g : ¬ (12 : Int32) ≤ nI k := nI_ge (a := k) (b := 12) hk (by decide)
  unfold f_X3_all_L4
  dsimp only
  rw [if_neg g, if_pos (inR_nI hk (by decide)), cl_nI (by omega), LK_22 a M hk, bn_e, nI_or, nI_1]
  rfl
theorem saves_N (hw : WF a) (hm : MR N 37 a) {β : Type} (K : Int32 → Option β) : Option.bind (lp (f_X6_saves_L4 N) FU (0, 0)) K = K (nI (ct (fun h => decide (tm a h ≠ 0)) (aN a))) := by
  have hn := hw.1
  refine lp_go (r := nI (ct (fun h => decide (tm a h ≠ 0)) (aN a))) (fun k => (nI (ct (fun h => decide (tm a h ≠ 0)) k), nI k)) (aN a) rfl (fun k hk => ?_) ?_ (by rw [FU_v]; omega)
  · have hl := tm_lt a k
    unfold f_X6_saves_L4
    dsimp only
    rw [hm.1, if_neg (nI_ge hk (by omega)), X6_tangledWith hw hm hk, Option.bind_some, nI_1, ct]
    by_cases q : tm a k = 0
    · have g : nI (tm a k) = 0 := by rw [q]; rfl
      rw [if_pos g, Option.bind_some, bn_e, if_neg (by simp [q])]
      exact congrArg (fun y => some (Sum.inl (y, nI (k + 1)))) (nI_add _ 0)
    · have g : ¬ nI (tm a k) = 0 := nI_ne0 (by omega) (by omega)
      rw [if_neg g, Option.bind_some, bn_e, if_pos (by simp [q]), nI_1]
  · unfold f_X6_saves_L4
    dsimp only
    rw [hm.1, if_pos (nI_le (Nat.le_refl _) (by omega))]
theorem p_saves (h : Rel M N) : Same (f_X5_saves M) (f_X6_saves N) := by
  obtain ⟨a, hw, hc, hm⟩ := h.1
  have hn := hw.1
  obtain ⟨r, c1, c2⟩ := X3_leastCover a M
  obtain ⟨N2, n1, n2, n3⟩ := X6_fewestAway hw hm c2
  have ew : ct (fun h => decide (tm a h ≠ 0)) 12 = ct (fun h => decide (tm a h ≠ 0)) (aN a) := ct_widen hn (fun i hi => by simp [tm_out hw hi])
  unfold f_X5_saves f_X6_saves
  rw [X3_look hw hc, Option.bind_some, c1, Option.bind_some, bc_spec r c2.1, Option.bind_some, X3_all, Option.bind_some, bc_spec _ (orA_lt a 12), Option.bind_some, orA_pc, ew, saves_N hw hm, n1, Option.bind_some, ones_spec r c2.1, Option.bind_some, hm.2.2.1, show gI (LK a M) 1 2 = nI (aPr a) from C_pr (C_lkm hc 12)]
  exact ⟨_, _, _, rfl, rfl, h.rail a hw (C_lkm hc 12) n2 (CO_lkm a M 12) n3⟩
end UNTANGLE
