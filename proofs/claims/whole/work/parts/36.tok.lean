/-! PURE: the tape's tokens, both sides -/
theorem mem_ext {M N : Mem} (h1 : ∀ c j, gI M c j = gI N c j) (h2 : ∀ c j, gJ M c j = gJ N c j) : M = N := Prod.ext (funext fun c => funext fun j => h1 c j) (funext fun c => funext fun j => h2 c j)
def isL (x : Nat) : Bool := decide (97 ≤ x ∧ x ≤ 122)
def isD (x : Nat) : Bool := decide (48 ≤ x ∧ x ≤ 57)
def isS (x : Nat) : Bool := decide (x = 32)
abbrev bv (x : Nat) : Int32 := (nI x).toInt8.toInt32
theorem bv_lo : ∀ x, x < 128 → bv x = nI x := by decide +kernel
theorem bv_L : ∀ x, x < 256 → f_X1_isLetter (bv x) = some (b2 (isL x = true)) := by decide +kernel
theorem bv_D : ∀ x, x < 256 → f_X1_isDigit (bv x) = some (b2 (isD x = true)) := by decide +kernel
theorem bv_32 : ∀ x, x < 256 → (bv x = 32 ↔ x = 32) := by decide +kernel
theorem bv_59 : ∀ x, x < 256 → (bv x = 59 ↔ x = 59) := by decide +kernel
theorem bv_w : ∀ x, x < 256 → ∀ w, w < 128 → (bv x = nI w ↔ x = w) := by decide +kernel
theorem nb_L : ∀ x, x < 256 → f_X6_isLetter (nI x) = some (b2 (isL x = true)) := by decide +kernel
theorem nb_D : ∀ x, x < 256 → f_X6_isDigit (nI x) = some (b2 (isD x = true)) := by decide +kernel
theorem isL_lt {x : Nat} (h : isL x = true) : 97 ≤ x ∧ x ≤ 122 := by unfold isL at h; simpa using h
theorem isD_lt {x : Nat} (h : isD x = true) : 48 ≤ x ∧ x ≤ 57 := by unfold isD at h; simpa using h
theorem isLD {x : Nat} (h : isL x = true) : isD x = false := by
  have := isL_lt h
  unfold isD
  simp; omega
def sc (P : Nat → Bool) (t : Nat) (c : Nat → Nat) : Nat → Nat → Nat
  | 0, f => f
  | n + 1, f => if f < t ∧ P (c f) = true then sc P t c n (f + 1) else f
def sT (P : Nat → Bool) (t : Nat) (c : Nat → Nat) (f : Nat) : Nat := sc P t c (t - f) f
section TOK
variable {t : Nat} {c : Nat → Nat} {P : Nat → Bool} {M N : Mem} {a : AR}
theorem sT_in {f : Nat} (h : f < t) (hp : P (c f) = true) : sT P t c f = sT P t c (f + 1) := by
  unfold sT
  rw [show t - f = (t - (f + 1)) + 1 by omega, sc, if_pos ⟨h, hp⟩]
theorem sT_out {f : Nat} (h : ¬ (f < t ∧ P (c f) = true)) : sT P t c f = f := by
  unfold sT
  cases e : t - f with
  | zero => rfl
  | succ n => rw [sc, if_neg h]
theorem sT_spec : ∀ n f, t - f = n → f ≤ t → f ≤ sT P t c f ∧ sT P t c f ≤ t ∧ (∀ j, f ≤ j → j < sT P t c f → P (c j) = true) ∧ ¬ (sT P t c f < t ∧ P (c (sT P t c f)) = true) := by
  intro n
  induction n with
  | zero =>
    intro f hn hf
    have e : ¬ (f < t ∧ P (c f) = true) := fun z => by omega
    rw [sT_out e]
    exact ⟨Nat.le_refl _, hf, fun j h1 h2 => by omega, e⟩
  | succ n ih =>
    intro f hn hf
    by_cases e : f < t ∧ P (c f) = true
    · rw [sT_in e.1 e.2]
      obtain ⟨h1, h2, h3, h4⟩ := ih (f + 1) (by omega) (by omega)
      refine ⟨by omega, h2, fun j j1 j2 => ?_, h4⟩
      by_cases q : j = f
      · rw [q]; exact e.2
      · exact h3 j (by omega) j2
    · rw [sT_out e]
      exact ⟨Nat.le_refl _, hf, fun j h1 h2 => by omega, e⟩
theorem sT_sp {f : Nat} (h : f ≤ t) : f ≤ sT P t c f ∧ sT P t c f ≤ t ∧ (∀ j, f ≤ j → j < sT P t c f → P (c j) = true) ∧ ¬ (sT P t c f < t ∧ P (c (sT P t c f)) = true) := sT_spec (t - f) f rfl h
/-- a loop that goes on while P holds -/
theorem scan_lp {σ ε : Type} {F0 : σ → Option (σ ⊕ ε)} (st : Nat → σ) (rr : Nat → ε) (f0 : Nat) (hin : ∀ g, f0 ≤ g → g < t → P (c g) = true → F0 (st g) = some (.inl (st (g + 1)))) (hout : ∀ g, f0 ≤ g → g ≤ t → ¬ (g < t ∧ P (c g) = true) → F0 (st g) = some (.inr (rr g))) : ∀ n f F, t - f = n → f0 ≤ f → f ≤ t → n < F → lp F0 F (st f) = some (rr (sT P t c f)) := by
  intro n
  induction n with
  | zero =>
    intro f F hn h0 hf hF
    obtain ⟨F, rfl⟩ : ∃ G, F = G + 1 := ⟨F - 1, by omega⟩
    have e : ¬ (f < t ∧ P (c f) = true) := fun z => by omega
    rw [sT_out e, lp_end (hout f h0 hf e)]
  | succ n ih =>
    intro f F hn h0 hf hF
    obtain ⟨F, rfl⟩ : ∃ G, F = G + 1 := ⟨F - 1, by omega⟩
    by_cases e : f < t ∧ P (c f) = true
    · rw [sT_in e.1 e.2, lp_step (hin f h0 e.1 e.2)]
      exact ih (f + 1) F (by omega) (by omega) (by omega) (by omega)
    · rw [sT_out e, lp_end (hout f h0 hf e)]
/-- the tape as the class holds it, as the reference does -/
def TC (t : Nat) (c : Nat → Nat) (M : Mem) : Prop := t ≤ 120 ∧ gI M 23 1 = nI t ∧ ∀ j, j < t → c j < 256 ∧ gI M 24 j = bv (c j)
def TN (t : Nat) (c : Nat → Nat) (N : Mem) : Prop := t ≤ 120 ∧ gI N 36 10 = nI t ∧ ∀ j, j < t → c j < 256 ∧ gI N 43 j = nI (c j)
def O25 (M M2 : Mem) : Prop := (∀ k j, k ≠ 25 → gI M2 k j = gI M k j) ∧ ∀ k j, gJ M2 k j = gJ M k j
def O36 (N N2 : Mem) : Prop := (∀ k j, (k = 36 → j ≠ 11 ∧ j ≠ 12) → gI N2 k j = gI N k j) ∧ ∀ k j, gJ N2 k j = gJ N k j
theorem O25.rf (M : Mem) : O25 M M := ⟨fun _ _ _ => rfl, fun _ _ => rfl⟩
theorem O25.sI {M M2 : Mem} (h : O25 M M2) (i : Nat) (v : Int32) : O25 M (sI M2 25 i v) := ⟨fun k j hk => by rw [gI_sI, if_neg (fun z => hk z.1)]; exact h.1 k j hk, h.2⟩
theorem TC.o {M M2 : Mem} (h : TC t c M) (o : O25 M M2) : TC t c M2 := ⟨h.1, by rw [o.1 23 1 (by decide)]; exact h.2.1, fun j hj => by rw [o.1 24 j (by decide)]; exact h.2.2 j hj⟩
theorem O36.rf (N : Mem) : O36 N N := ⟨fun _ _ _ => rfl, fun _ _ => rfl⟩
theorem O36.tr {N N2 N3 : Mem} (h : O36 N N2) (h2 : O36 N2 N3) : O36 N N3 := ⟨fun k j q => (h2.1 k j q).trans (h.1 k j q), fun k j => (h2.2 k j).trans (h.2 k j)⟩
theorem O36.sI {N N2 : Mem} (h : O36 N N2) {i : Nat} (hi : i = 11 ∨ i = 12) (v : Int32) : O36 N (sI N2 36 i v) := ⟨fun k j hk => by
  rw [gI_sI, if_neg (fun z => by have := hk z.1; omega)]; exact h.1 k j hk, h.2⟩
theorem TN.o {N N2 : Mem} (h : TN t c N) (o : O36 N N2) : TN t c N2 := ⟨h.1, by rw [o.1 36 10 (fun _ => by decide)]; exact h.2.1, fun j hj => by rw [o.1 43 j (fun z => absurd z (by decide))]; exact h.2.2 j hj⟩
/-- where the token that begins at f ends, which it is, its number -/
def tE (t : Nat) (c : Nat → Nat) (f : Nat) : Nat := if f < t then (if isL (c f) = true then sT isL t c f else if isD (c f) = true then sT isD t c f else f + 1) else f
def tkn (t : Nat) (c : Nat → Nat) (f : Nat) : Nat := if f < t then (if isL (c f) = true then 1 else if isD (c f) = true then 2 else if c f = 59 then 3 else 4) else 0
def nC (c : Nat → Nat) (f : Nat) : Nat → Nat
  | 0 => 0
  | n + 1 => min (10 * nC c f n + (c (f + n) - 48)) 1000
theorem nC_le (c : Nat → Nat) (f : Nat) : ∀ n, nC c f n ≤ 1000 := by
  intro n
  cases n with
  | zero => exact Nat.zero_le _
  | succ n => exact Nat.min_le_right _ _
def RdC (t : Nat) (c : Nat → Nat) (M : Mem) (f : Nat) : Prop := gI M 25 2 = nI f ∧ gI M 25 3 = nI (tE t c f) ∧ gI M 25 1 = nI (tkn t c f) ∧ (tkn t c f = 2 → gI M 25 4 = nI (nC c f (tE t c f - f)))
def RdN (t : Nat) (c : Nat → Nat) (N : Mem) (f : Nat) : Prop := gI N 36 11 = nI f ∧ gI N 36 12 = nI (tE t c f)
theorem tE_b {f : Nat} (h : f ≤ t) : f ≤ tE t c f ∧ tE t c f ≤ t := by
  unfold tE
  by_cases q : f < t
  · rw [if_pos q]
    by_cases q1 : isL (c f) = true
    · rw [if_pos q1]; have := sT_sp (P := isL) (c := c) h; exact ⟨this.1, this.2.1⟩
    · rw [if_neg q1]
      by_cases q2 : isD (c f) = true
      · rw [if_pos q2]; have := sT_sp (P := isD) (c := c) h; exact ⟨this.1, this.2.1⟩
      · rw [if_neg q2]; omega
  · rw [if_neg q]; omega
theorem tE_s {f : Nat} (h : f < t) : f + 1 ≤ tE t c f := by
  unfold tE
  rw [if_pos h]
  by_cases q1 : isL (c f) = true
  · rw [if_pos q1, sT_in h q1]; exact (sT_sp (P := isL) (c := c) (show f + 1 ≤ t by omega)).1
  · rw [if_neg q1]
    by_cases q2 : isD (c f) = true
    · rw [if_pos q2, sT_in h q2]; exact (sT_sp (P := isD) (c := c) (show f + 1 ≤ t by omega)).1
    · rw [if_neg q2]; omega
theorem X1_stepWord {f : Nat} (hT : TC t c M) (hf : f ≤ t) (h3 : gI M 25 3 = nI f) : f_X1_stepWord M = some (sI (sI M 25 1 1) 25 3 (nI (sT isL t c f))) := by
  have ht := hT.1
  unfold f_X1_stepWord
  rw [bn_e]
  have e0 : sI M 25 1 1 = sI (sI M 25 1 1) 25 3 (nI f) := (sI_same _ (by rw [gI_sI, if_neg (by decide)]; exact h3)).symm
  have T : TC t c (sI M 25 1 1) := hT.o ((O25.rf M).sI 1 1)
  have := scan_lp (t := t) (c := c) (P := isL) (F0 := f_X1_stepWord_L5) (fun g => sI (sI M 25 1 1) 25 3 (nI g)) (fun g => sI (sI M 25 1 1) 25 3 (nI g)) f ?_ ?_ (t - f) f FU rfl (Nat.le_refl f) hf (by rw [FU_v]; omega)
  · rw [show lp f_X1_stepWord_L5 FU (sI M 25 1 1) = lp f_X1_stepWord_L5 FU (sI (sI M 25 1 1) 25 3 (nI f)) from congrArg _ e0, this]; rfl
  · intro g h0 hg hp
    have T2 := T.o ((O25.rf _).sI 3 (nI g))
    have e3 : gI (sI (sI M 25 1 1) 25 3 (nI g)) 25 3 = nI g := by rw [gI_sI, if_pos ⟨rfl, rfl⟩]
    unfold f_X1_stepWord_L5
    rw [T2.2.1, e3, if_neg (nI_ge hg (by omega)), if_pos (inR_nI (show g < 120 by omega) (by decide)), cl_nI (by omega), (T2.2.2 g hg).2, bv_L _ (T2.2.2 g hg).1, Option.bind_some, b2_t hp, if_neg (by decide), bn_e, sI_sI, nI_1]
  · intro g h0 hg hp
    have T2 := T.o ((O25.rf _).sI 3 (nI g))
    have e3 : gI (sI (sI M 25 1 1) 25 3 (nI g)) 25 3 = nI g := by rw [gI_sI, if_pos ⟨rfl, rfl⟩]
    unfold f_X1_stepWord_L5
    rw [T2.2.1, e3]
    by_cases q : t ≤ g
    · rw [if_pos (nI_le q (by omega))]
    · have hg2 : g < t := by omega
      rw [if_neg (nI_ge hg2 (by omega)), if_pos (inR_nI (show g < 120 by omega) (by decide)), cl_nI (by omega), (T2.2.2 g hg2).2, bv_L _ (T2.2.2 g hg2).1, Option.bind_some, b2_f (fun z => hp ⟨hg2, z⟩), if_pos rfl]
theorem num_eq {n x : Nat} (hn : n ≤ 1000) (hx : 48 ≤ x) (hx2 : x ≤ 57) : (if (1000 : Int32) < nI n * 10 + bv x - 48 then 1000 else nI n * 10 + bv x - 48) = nI (min (10 * n + (x - 48)) 1000) := by
  rw [bv_lo x (by omega), show (10 : Int32) = nI 10 from rfl, pk_mul, nI_add, show (48 : Int32) = nI 48 from rfl, pk_sub (by omega), show n * 10 + x - 48 = 10 * n + (x - 48) by omega]
  by_cases q : 1000 < 10 * n + (x - 48)
  · have g : (1000 : Int32) < nI (10 * n + (x - 48)) := nI_lt (a := 1000) q (by omega)
    rw [if_pos g, show min (10 * n + (x - 48)) 1000 = 1000 by omega]; rfl
  · have g : ¬ (1000 : Int32) < nI (10 * n + (x - 48)) := nI_nlt (a := 1000) (by omega) (by decide)
    rw [if_neg g, show min (10 * n + (x - 48)) 1000 = 10 * n + (x - 48) by omega]
theorem X1_stepNumber {f : Nat} (hT : TC t c M) (hf : f ≤ t) (h3 : gI M 25 3 = nI f) : f_X1_stepNumber M = some (sI (sI (sI M 25 1 2) 25 4 (nI (nC c f (sT isD t c f - f)))) 25 3 (nI (sT isD t c f))) := by
  have ht := hT.1
  unfold f_X1_stepNumber
  rw [bn_e, bn_e]
  have e0 : sI (sI M 25 1 2) 25 4 0 = sI (sI (sI M 25 1 2) 25 4 (nI (nC c f (f - f)))) 25 3 (nI f) := by
    rw [Nat.sub_self]
    exact (sI_same _ (by rw [gI_sI, if_neg (by decide), gI_sI, if_neg (by decide)]; exact h3)).symm
  have T : ∀ v w, TC t c (sI (sI (sI M 25 1 2) 25 4 v) 25 3 w) := fun v w => hT.o ((((O25.rf M).sI 1 2).sI 4 v).sI 3 w)
  have := scan_lp (t := t) (c := c) (P := isD) (F0 := f_X1_stepNumber_L10) (fun g => sI (sI (sI M 25 1 2) 25 4 (nI (nC c f (g - f)))) 25 3 (nI g)) (fun g => sI (sI (sI M 25 1 2) 25 4 (nI (nC c f (g - f)))) 25 3 (nI g)) f ?_ ?_ (t - f) f FU rfl (Nat.le_refl f) hf (by rw [FU_v]; omega)
  · rw [show lp f_X1_stepNumber_L10 FU (sI (sI M 25 1 2) 25 4 0) = lp f_X1_stepNumber_L10 FU (sI (sI (sI M 25 1 2) 25 4 (nI (nC c f (f - f)))) 25 3 (nI f)) from congrArg _ e0, this]; rfl
  · intro g h0 hg hp
    have T2 := T (nI (nC c f (g - f))) (nI g)
    have e3 : gI (sI (sI (sI M 25 1 2) 25 4 (nI (nC c f (g - f)))) 25 3 (nI g)) 25 3 = nI g := by rw [gI_sI, if_pos ⟨rfl, rfl⟩]
    have e4 : gI (sI (sI (sI M 25 1 2) 25 4 (nI (nC c f (g - f)))) 25 3 (nI g)) 25 4 = nI (nC c f (g - f)) := by rw [gI_sI, if_neg (by decide), gI_sI, if_pos ⟨rfl, rfl⟩]
    have hd := isD_lt hp
    unfold f_X1_stepNumber_L10
    rw [T2.2.1, e3, if_neg (nI_ge hg (by omega)), if_pos (inR_nI (show g < 120 by omega) (by decide))]
    simp only [cl_nI (show g < 2147483648 by omega), (T2.2.2 g hg).2, bv_D _ (T2.2.2 g hg).1, Option.bind_some, if_pos (inR_nI (show g < 120 by omega) (show 120 < 2147483648 by decide)), e4, bn_e]
    rw [b2_t hp, if_neg (by decide), num_eq (nC_le c f _) hd.1 hd.2]
    rw [gI_sI _ 25 4 25 3, if_neg (by decide), e3, nI_1]
    have en : nC c f (g + 1 - f) = min (10 * nC c f (g - f) + (c g - 48)) 1000 := by
      rw [show g + 1 - f = (g - f) + 1 by omega, nC, show f + (g - f) = g by omega]
    rw [← en]
    refine congrArg (fun y => some (Sum.inl y)) (mem_ext (fun k j => ?_) (fun _ _ => rfl))
    simp only [gI_sI]
    by_cases k1 : k = 25 ∧ j = 3
    · rw [if_pos k1, if_pos k1]
    · by_cases k2 : k = 25 ∧ j = 4
      · simp only [if_neg k1, if_pos k2]
      · simp only [if_neg k1, if_neg k2]
  · intro g h0 hg hp
    have T2 := T (nI (nC c f (g - f))) (nI g)
    have e3 : gI (sI (sI (sI M 25 1 2) 25 4 (nI (nC c f (g - f)))) 25 3 (nI g)) 25 3 = nI g := by rw [gI_sI, if_pos ⟨rfl, rfl⟩]
    unfold f_X1_stepNumber_L10
    rw [T2.2.1, e3]
    by_cases q : t ≤ g
    · rw [if_pos (nI_le q (by omega))]
    · have hg2 : g < t := by omega
      rw [if_neg (nI_ge hg2 (by omega)), if_pos (inR_nI (show g < 120 by omega) (by decide))]
      simp only [cl_nI (show g < 2147483648 by omega), (T2.2.2 g hg2).2, bv_D _ (T2.2.2 g hg2).1, Option.bind_some]
      rw [b2_f (fun z => hp ⟨hg2, z⟩), if_pos rfl]
theorem X1_skip {e : Nat} (hT : TC t c M) (he : e ≤ t) : lp f_X1_step_L8 FU (sI M 25 2 (nI e)) = some (sI M 25 2 (nI (sT isS t c e))) := by
  have ht := hT.1
  have T : ∀ w, TC t c (sI M 25 2 w) := fun w => hT.o ((O25.rf M).sI 2 w)
  refine scan_lp (t := t) (c := c) (P := isS) (F0 := f_X1_step_L8) (fun g => sI M 25 2 (nI g)) (fun g => sI M 25 2 (nI g)) e ?_ ?_ (t - e) e FU rfl (Nat.le_refl e) he (by rw [FU_v]; omega)
  · intro g h0 hg hp
    have T2 := T (nI g)
    have e3 : gI (sI M 25 2 (nI g)) 25 2 = nI g := by rw [gI_sI, if_pos ⟨rfl, rfl⟩]
    unfold f_X1_step_L8
    have h32 : c g = 32 := by unfold isS at hp; simpa using hp
    rw [T2.2.1, e3, if_neg (nI_ge hg (by omega)), if_pos (inR_nI (show g < 120 by omega) (by decide)), cl_nI (by omega), (T2.2.2 g hg).2, if_pos ((bv_32 _ (T2.2.2 g hg).1).mpr h32), bn_e, sI_sI, nI_1]
  · intro g h0 hg hp
    have T2 := T (nI g)
    have e3 : gI (sI M 25 2 (nI g)) 25 2 = nI g := by rw [gI_sI, if_pos ⟨rfl, rfl⟩]
    unfold f_X1_step_L8
    rw [T2.2.1, e3]
    by_cases q : t ≤ g
    · rw [if_pos (nI_le q (by omega))]
    · have hg2 : g < t := by omega
      have h32 : ¬ c g = 32 := fun z => hp ⟨hg2, by unfold isS; simpa using z⟩
      rw [if_neg (nI_ge hg2 (by omega)), if_pos (inR_nI (show g < 120 by omega) (by decide)), cl_nI (by omega), (T2.2.2 g hg2).2, if_neg (fun z => h32 ((bv_32 _ (T2.2.2 g hg2).1).mp z))]
theorem X1_step {e : Nat} (hT : TC t c M) (h3 : gI M 25 3 = nI e) (he : e ≤ t) : ∃ M2, f_X1_step M = some M2 ∧ RdC t c M2 (sT isS t c e) ∧ O25 M M2 := by
  have ht := hT.1
  unfold f_X1_step
  rw [bn_e, h3, X1_skip hT he, Option.bind_some, bn_e]
  have hF := (sT_sp (P := isS) (c := c) he).2.1
  generalize sT isS t c e = f at hF
  have e2 : gI (sI M 25 2 (nI f)) 25 2 = nI f := by rw [gI_sI, if_pos ⟨rfl, rfl⟩]
  rw [e2]
  have oX : O25 M (sI (sI M 25 2 (nI f)) 25 3 (nI f)) := ((O25.rf M).sI 2 _).sI 3 _
  have x2 : gI (sI (sI M 25 2 (nI f)) 25 3 (nI f)) 25 2 = nI f := by rw [gI_sI, if_neg (by decide)]; exact e2
  have x3 : gI (sI (sI M 25 2 (nI f)) 25 3 (nI f)) 25 3 = nI f := by rw [gI_sI, if_pos ⟨rfl, rfl⟩]
  generalize sI (sI M 25 2 (nI f)) 25 3 (nI f) = X at oX x2 x3
  have TX := hT.o oX
  rw [x2, TX.2.1]
  by_cases q : f < t
  · obtain ⟨c1, c2⟩ := TX.2.2 f q
    rw [if_pos (nI_lt q (by omega))]
    simp only [if_pos (inR_nI (show f < 120 by omega) (show 120 < 2147483648 by decide)), cl_nI (show f < 2147483648 by omega), c2, bv_L _ c1, bv_D _ c1, Option.bind_some, bnd_id]
    by_cases q1 : isL (c f) = true
    · have eE : tE t c f = sT isL t c f := by unfold tE; rw [if_pos q, if_pos q1]
      have eK : tkn t c f = 1 := by unfold tkn; rw [if_pos q, if_pos q1]
      rw [b2_t q1, if_neg (by decide), X1_stepWord TX hF x3]
      refine ⟨_, rfl, ⟨?_, ?_, ?_, ?_⟩, (oX.sI 1 1).sI 3 _⟩
      · rw [gI_sI, if_neg (by decide), gI_sI, if_neg (by decide)]; exact x2
      · rw [gI_sI, if_pos ⟨rfl, rfl⟩, eE]
      · rw [gI_sI, if_neg (by decide), gI_sI, if_pos ⟨rfl, rfl⟩, eK]; rfl
      · intro z; omega
    · rw [b2_f q1, if_pos rfl]
      by_cases q2 : isD (c f) = true
      · have eE : tE t c f = sT isD t c f := by unfold tE; rw [if_pos q, if_neg q1, if_pos q2]
        have eK : tkn t c f = 2 := by unfold tkn; rw [if_pos q, if_neg q1, if_pos q2]
        rw [b2_t q2, if_neg (by decide), X1_stepNumber TX hF x3]
        refine ⟨_, rfl, ⟨?_, ?_, ?_, ?_⟩, ((oX.sI 1 2).sI 4 _).sI 3 _⟩
        · rw [gI_sI, if_neg (by decide), gI_sI, if_neg (by decide), gI_sI, if_neg (by decide)]; exact x2
        · rw [gI_sI, if_pos ⟨rfl, rfl⟩, eE]
        · rw [gI_sI, if_neg (by decide), gI_sI, if_neg (by decide), gI_sI, if_pos ⟨rfl, rfl⟩, eK]; rfl
        · intro _
          rw [gI_sI, if_neg (by decide), gI_sI, if_pos ⟨rfl, rfl⟩, eE]
      · have eE : tE t c f = f + 1 := by unfold tE; rw [if_pos q, if_neg q1, if_neg q2]
        have eK : tkn t c f = if c f = 59 then 3 else 4 := by unfold tkn; rw [if_pos q, if_neg q1, if_neg q2]
        have e5 : (if bv (c f) = 59 then some (3 : Int32) else some 4) = some (nI (tkn t c f)) := by
          rw [eK]
          by_cases z : c f = 59
          · rw [if_pos ((bv_59 _ c1).mpr z), if_pos z]; rfl
          · rw [if_neg (fun y => z ((bv_59 _ c1).mp y)), if_neg z]; rfl
        rw [b2_f q2, if_pos rfl, e5, Option.bind_some, bn_e, bn_e]
        refine ⟨_, rfl, ⟨?_, ?_, ?_, ?_⟩, (oX.sI 1 _).sI 3 _⟩
        · rw [gI_sI, if_neg (by decide), gI_sI, if_neg (by decide)]; exact x2
        · rw [gI_sI, if_pos ⟨rfl, rfl⟩, gI_sI, if_neg (by decide), x2, nI_1, eE]
        · rw [gI_sI, if_neg (by decide), gI_sI, if_pos ⟨rfl, rfl⟩]
        · intro z
          rw [eK] at z
          split at z <;> omega
  · have eE : tE t c f = f := by unfold tE; rw [if_neg q]
    have eK : tkn t c f = 0 := by unfold tkn; rw [if_neg q]
    rw [if_neg (nI_nlt (by omega) (by omega)), bn_e]
    refine ⟨_, rfl, ⟨?_, ?_, ?_, ?_⟩, oX.sI 1 _⟩
    · rw [gI_sI, if_neg (by decide)]; exact x2
    · rw [gI_sI, if_neg (by decide), eE]; exact x3
    · rw [gI_sI, if_pos ⟨rfl, rfl⟩, eK]; rfl
    · intro z; omega
/-! the reference's token -/
theorem X6_byteAt {k : Nat} (hT : TN t c N) (hk : k ≤ 120) : f_X6_byteAt (nI k) N = some (if k < t then nI (c k) else -1) := by
  have ht := hT.1
  unfold f_X6_byteAt
  rw [hT.2.1]
  by_cases q : k < t
  · rw [if_neg (nI_ge q (by omega)), if_pos (inR_nI (show k < 120 by omega) (by decide)), cl_nI (by omega), (hT.2.2 k q).2, if_pos q]; rfl
  · rw [if_pos (nI_le (by omega) (by omega)), if_neg q]; rfl
theorem B_L {k : Nat} (hT : TN t c N) : f_X6_isLetter (if k < t then nI (c k) else -1) = some (b2 (k < t ∧ isL (c k) = true)) := by
  by_cases q : k < t
  · rw [if_pos q, nb_L _ (hT.2.2 k q).1]
    exact congrArg some (b2_c ⟨fun z => ⟨q, z⟩, fun z => z.2⟩)
  · rw [if_neg q, b2_f (fun z => q z.1)]; decide +kernel
theorem B_D {k : Nat} (hT : TN t c N) : f_X6_isDigit (if k < t then nI (c k) else -1) = some (b2 (k < t ∧ isD (c k) = true)) := by
  by_cases q : k < t
  · rw [if_pos q, nb_D _ (hT.2.2 k q).1]
    exact congrArg some (b2_c ⟨fun z => ⟨q, z⟩, fun z => z.2⟩)
  · rw [if_neg q, b2_f (fun z => q z.1)]; decide +kernel
theorem B_eq {k w : Nat} (hT : TN t c N) (hw : w < 256) : ((if k < t then nI (c k) else -1) = nI w) ↔ (k < t ∧ c k = w) := by
  by_cases q : k < t
  · rw [if_pos q, nI_eq (by have := (hT.2.2 k q).1; omega) (by omega)]
    exact ⟨fun z => ⟨q, z⟩, fun z => z.2⟩
  · rw [if_neg q]
    constructor
    · intro z
      rw [i_eq, nI_t (by omega)] at z
      have e : (-1 : Int32).toInt = -1 := rfl
      omega
    · intro z; exact absurd z.1 q
theorem X6_skip {e : Nat} (hT : TN t c N) (he : e ≤ t) : lp f_X6_token_L8 FU (sI N 36 11 (nI e)) = some (sI N 36 11 (nI (sT isS t c e))) := by
  have ht := hT.1
  have T : ∀ w, TN t c (sI N 36 11 w) := fun w => hT.o ((O36.rf N).sI (Or.inl rfl) w)
  refine scan_lp (t := t) (c := c) (P := isS) (F0 := f_X6_token_L8) (fun g => sI N 36 11 (nI g)) (fun g => sI N 36 11 (nI g)) e ?_ ?_ (t - e) e FU rfl (Nat.le_refl e) he (by rw [FU_v]; omega)
  · intro g h0 hg hp
    have e3 : gI (sI N 36 11 (nI g)) 36 11 = nI g := by rw [gI_sI, if_pos ⟨rfl, rfl⟩]
    have h32 : c g = 32 := by unfold isS at hp; simpa using hp
    unfold f_X6_token_L8
    have hB : (if g < t then nI (c g) else -1) = (32 : Int32) := (B_eq (T (nI g)) (w := 32) (by decide)).mpr ⟨hg, h32⟩
    rw [e3, X6_byteAt (T _) (by omega), Option.bind_some, if_pos hB, bn_e, sI_sI, nI_1]
  · intro g h0 hg hp
    have e3 : gI (sI N 36 11 (nI g)) 36 11 = nI g := by rw [gI_sI, if_pos ⟨rfl, rfl⟩]
    unfold f_X6_token_L8
    rw [e3, X6_byteAt (T _) (by omega), Option.bind_some, if_neg]
    intro z
    have z2 := (B_eq (T (nI g)) (w := 32) (by decide)).mp z
    exact hp ⟨z2.1, by unfold isS; simpa using z2.2⟩
theorem X6_token {e : Nat} (hT : TN t c N) (h3 : gI N 36 12 = nI e) (he : e ≤ t) : ∃ N2, f_X6_token N = some N2 ∧ RdN t c N2 (sT isS t c e) ∧ O36 N N2 := by
  have ht := hT.1
  unfold f_X6_token
  rw [bn_e, h3, X6_skip hT he, Option.bind_some]
  have hF := (sT_sp (P := isS) (c := c) he).2.1
  generalize sT isS t c e = f at hF
  have oX : O36 N (sI N 36 11 (nI f)) := (O36.rf N).sI (Or.inl rfl) _
  have x2 : gI (sI N 36 11 (nI f)) 36 11 = nI f := by rw [gI_sI, if_pos ⟨rfl, rfl⟩]
  generalize sI N 36 11 (nI f) = X at oX x2
  have TX := hT.o oX
  have T : ∀ w, TN t c (sI X 36 12 w) := fun w => TX.o ((O36.rf X).sI (Or.inr rfl) w)
  have fin : ∀ (P : Nat → Bool) (r42 r54 : Int32) (s0 g0 : Nat), (∀ g, g ≤ t → f_X6_token_L86 r42 r54 (sI X 36 12 (nI g)) = if g < t ∧ P (c g) = true then some (.inl (sI X 36 12 (nI (g + 1)))) else some (.inr (sI X 36 12 (nI g)))) → g0 ≤ t → sT P t c g0 = tE t c f → ∃ N2, Option.bind (lp (f_X6_token_L86 r42 r54) FU (sI X 36 12 (nI g0))) (fun x86_135 : Mem => some x86_135) = some N2 ∧ RdN t c N2 f ∧ O36 N N2 := by
    intro P r42 r54 s0 g0 hst hg0 hE
    have := scan_lp (t := t) (c := c) (P := P) (F0 := f_X6_token_L86 r42 r54) (fun g => sI X 36 12 (nI g)) (fun g => sI X 36 12 (nI g)) g0 (fun g _ h1 h2 => by rw [hst g (by omega), if_pos ⟨h1, h2⟩]) (fun g _ h1 h2 => by rw [hst g h1, if_neg h2]) (t - g0) g0 FU rfl (Nat.le_refl g0) hg0 (by rw [FU_v]; omega)
    refine ⟨_, by rw [this]; rfl, ⟨?_, ?_⟩, oX.sI (Or.inr rfl) _⟩
    · rw [gI_sI, if_neg (by decide)]; exact x2
    · rw [gI_sI, if_pos ⟨rfl, rfl⟩, hE]
  have e12 : ∀ g, gI (sI X 36 12 (nI g)) 36 12 = nI g := fun g => by rw [gI_sI, if_pos ⟨rfl, rfl⟩]
  rw [x2, X6_byteAt TX (by omega), Option.bind_some, B_L TX, Option.bind_some, Option.bind_some, B_D TX, Option.bind_some, TX.2.1]
  by_cases q : f < t
  · rw [if_neg (nI_ge q (by omega)), Option.bind_some, bn_e, nI_1]
    by_cases q1 : isL (c f) = true
    · rw [b2_t ⟨q, q1⟩, b2_f (show ¬ (f < t ∧ isD (c f) = true) from fun z => by rw [isLD q1] at z; cases z.2)]
      refine fin isL 1 0 0 (f + 1) (fun g hg => ?_) (by omega) (by unfold tE; rw [if_pos q, if_pos q1, sT_in q q1])
      unfold f_X6_token_L86
      rw [if_neg (by decide), e12, X6_byteAt (T _) (by omega), Option.bind_some, B_L (T (nI g)), Option.bind_some]
      by_cases z : g < t ∧ isL (c g) = true
      · rw [b2_t z, if_neg (by decide), if_pos z, bn_e, sI_sI, nI_1]
      · rw [b2_f z, if_pos rfl, if_pos rfl, if_neg z]
    · rw [b2_f (show ¬ (f < t ∧ isL (c f) = true) from fun z => q1 z.2)]
      by_cases q2 : isD (c f) = true
      · rw [b2_t ⟨q, q2⟩]
        refine fin isD 0 1 0 (f + 1) (fun g hg => ?_) (by omega) (by unfold tE; rw [if_pos q, if_neg q1, if_pos q2, sT_in q q2])
        unfold f_X6_token_L86
        rw [if_pos rfl, if_neg (by decide), e12, X6_byteAt (T _) (by omega), Option.bind_some, B_D (T (nI g)), Option.bind_some]
        by_cases z : g < t ∧ isD (c g) = true
        · rw [b2_t z, if_neg (by decide), if_pos z, bn_e, sI_sI, nI_1]
        · rw [b2_f z, if_pos rfl, if_neg z]
      · rw [b2_f (show ¬ (f < t ∧ isD (c f) = true) from fun z => q2 z.2)]
        refine fin (fun _ => false) 0 0 0 (f + 1) (fun g hg => ?_) (by omega) (by unfold tE; rw [if_pos q, if_neg q1, if_neg q2, sT_out (fun z => by cases z.2)])
        unfold f_X6_token_L86
        rw [if_pos rfl, if_pos rfl, if_neg (fun z => by cases z.2)]
  · rw [if_pos (nI_le (by omega) (by omega)), Option.bind_some, bn_e, b2_f (fun z => q z.1), b2_f (fun z => q z.1)]
    refine fin (fun _ => false) 0 0 0 f (fun g hg => ?_) hF (by unfold tE; rw [if_neg q, sT_out (fun z => by cases z.2)])
    unfold f_X6_token_L86
    rw [if_pos rfl, if_pos rfl, if_neg (fun z => by cases z.2)]
end TOK
