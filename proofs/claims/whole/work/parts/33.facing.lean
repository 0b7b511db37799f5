/-! PURE: facing -/
section FACING
variable {M N : Mem} {a : AR}
theorem sA_on {s : Bool} {h i : Nat} (q : (sA a s h).testBit i = true) : onA a i = true := by
  unfold sA at q
  cases e : aPl a h with
  | none => rw [e] at q; simp at q
  | some p =>
    rw [e] at q
    dsimp only at q
    rw [tb_ms] at q
    unfold onA
    cases e2 : aPl a i with
    | some r => rfl
    | none =>
      have : tIf a h (aKd a h) p s i = false := by unfold tIf; rw [e2]; simp
      rw [this] at q; simp at q
theorem nr_on {m m2 h : Nat} (hh : ∀ i, onA a i = true → m.testBit i = m2.testBit i) : nr a m h = nr a m2 h := by
  unfold nr
  refine Nat.eq_of_testBit_eq fun i => ?_
  rw [tb_nf, tb_nf]
  have hs : ∀ s, onA a i = false → (sA a s h).testBit i = false := fun s o => by
    cases e : (sA a s h).testBit i with
    | false => rfl
    | true => rw [sA_on e] at o; cases o
  have hz : ∀ s, onA a h = false → (sA a s h).testBit i = false := fun s o => by
    unfold onA at o
    unfold sA
    cases e : aPl a h with
    | none => simp
    | some p => rw [e] at o; cases o
  cases o : onA a i with
  | false => rw [hs true o, hs false o]; simp
  | true =>
    cases o2 : onA a h with
    | false => rw [hz true o2, hz false o2]; simp
    | true => rw [hh i o, hh h o2]
/-- pairs, if those of m turn -/
def fV (a : AR) (m : Nat) : Nat := en a (ms (aFc a) 12 ^^^ m) / 2
theorem fV_le (a : AR) (m : Nat) : fV a m ≤ 72 := by
  unfold fV
  have := en_le a (ms (aFc a) 12 ^^^ m)
  omega
def fK (a : AR) (m : Nat) : Nat := (fV a m * 16 + pc m) * 4096 + m
theorem xor_lt {m c : Nat} (h : m < 4096) (h2 : c < 4096) : m ^^^ c < 4096 := Nat.xor_lt_two_pow (n := 12) h h2
theorem fV_on (hw : WF a) (m : Nat) : fV a (m &&& ms (onA a) 12) = fV a m := by
  unfold fV en
  have e : sm (fun h => pc (nr a (ms (aFc a) 12 ^^^ (m &&& ms (onA a) 12)) h)) 12 = sm (fun h => pc (nr a (ms (aFc a) 12 ^^^ m) h)) 12 := sm_ext fun h hh => by
    refine congrArg pc (nr_on fun i o => ?_)
    have hi : i < 12 := by have := on_lt hw o; have := hw.1; omega
    rw [Nat.testBit_xor, Nat.testBit_xor, Nat.testBit_and, tb_ms (onA a), o]
    simp [hi]
  rw [e]
theorem fK_on (hw : WF a) (m : Nat) : fK a (m &&& ms (onA a) 12) ≤ fK a m := by
  unfold fK
  rw [fV_on hw]
  have h1 : pc (m &&& ms (onA a) 12) ≤ pc m := pc_mono (SS_and.mp (SS.rf _)).1
  have h2 : m &&& ms (onA a) 12 ≤ m := Nat.and_le_left
  omega
theorem X5_better (hc : CR M 1 a) {b s : Nat} (hb : b < 4096) (hs : s < 4096) : f_X5_betterFacing (nI b) (nI s) (LK a M) = some (nI (if fV a b ≤ fV a s then b else s)) := by
  unfold f_X5_betterFacing
  have x1 := xor_lt (ms12 (aFc a)) hs
  have x2 := xor_lt (ms12 (aFc a)) hb
  have v1 := fV_le a b
  have v2 := fV_le a s
  rw [show gI (LK a M) 1 3 = nI (ms (aFc a) 12) from C_bk (C_lkm hc 12), nI_xor, nI_xor, X3_pairs a M (by omega), Option.bind_some, X3_pairs a M (by omega), Option.bind_some]
  show Option.bind (if nI (fV a b) ≤ nI (fV a s) then some (nI b) else some (nI s)) _ = _
  by_cases q : fV a b ≤ fV a s
  · rw [if_pos (nI_le q (by omega)), if_pos q]; rfl
  · rw [if_neg (nI_ge (by omega) (by omega)), if_neg q]; rfl
theorem pc_two : ∀ i, i < 12 → ∀ j, j < i → pc (2 ^ i + 2 ^ j) = 2 ∧ 2 ^ i ||| 2 ^ j = 2 ^ i + 2 ^ j ∧ 2 ^ i + 2 ^ j < 4096 := by decide +kernel
theorem pc_few0 : ∀ x, x < 64 → ∀ y, y < 64 → pc (64 * x + y) ≤ 2 → (64 * x + y = 0 ∨ (∃ j, j < 12 ∧ 64 * x + y = 2 ^ j) ∨ ∃ i, i < 12 ∧ ∃ j, j < i ∧ 64 * x + y = 2 ^ i + 2 ^ j) := by decide +kernel
theorem pc_few : ∀ m, m < 4096 → pc m ≤ 2 → (m = 0 ∨ (∃ j, j < 12 ∧ m = 2 ^ j) ∨ ∃ i, i < 12 ∧ ∃ j, j < i ∧ m = 2 ^ i + 2 ^ j) := by64 pc_few0
theorem k_lt {v w p q m c : Nat} (h : v < w) (hp : p ≤ 12) (hm : m < 4096) : (v * 16 + p) * 4096 + m < (w * 16 + q) * 4096 + c := by omega
theorem k_le {v w p q m c : Nat} (h : v ≤ w) (ho : p < q ∨ (p = q ∧ m < c)) (hm : m < 4096) : (v * 16 + p) * 4096 + m ≤ (w * 16 + q) * 4096 + c := by omega
theorem fK_lt {m c : Nat} (h : fV a m < fV a c) (hm : m < 4096) : fK a m < fK a c := k_lt h (pc_le m) hm
theorem fK_le {m c : Nat} (h : fV a m ≤ fV a c) (ho : pc m < pc c ∨ (pc m = pc c ∧ m < c)) (hm : m < 4096) : fK a m ≤ fK a c := k_le h ho hm
/-- what the class's best has, so far -/
def fI (a : AR) (B : Nat) (S : Nat → Prop) : Prop := B < 4096 ∧ B < 2 ^ aN a ∧ pc B ≤ 2 ∧ fK a B ≤ fK a 0 ∧ ∀ m, S m → fK a B ≤ fK a m
theorem fI_step {B s : Nat} {S S2 : Nat → Prop} (h : fI a B S) (hs : s < 4096) (hs2 : s < 2 ^ aN a) (hp : pc s ≤ 2) (ho : pc B < pc s ∨ (pc B = pc s ∧ B < s)) (hS : ∀ m, S2 m → S m ∨ m = s) : fI a (if fV a B ≤ fV a s then B else s) S2 := by
  obtain ⟨h1, h2, h3, h4, h5⟩ := h
  by_cases q : fV a B ≤ fV a s
  · rw [if_pos q]
    refine ⟨h1, h2, h3, h4, fun m hm => ?_⟩
    rcases hS m hm with y | y
    · exact h5 m y
    · rw [y]; exact fK_le q ho h1
  · rw [if_neg q]
    have hlt : fK a s ≤ fK a B := Nat.le_of_lt (fK_lt (Nat.lt_of_not_le q) hs)
    refine ⟨hs, hs2, hp, Nat.le_trans hlt h4, fun m hm => ?_⟩
    rcases hS m hm with y | y
    · exact Nat.le_trans hlt (h5 m y)
    · rw [y]; exact Nat.le_refl _
theorem facing_1 (hw : WF a) (hc : CR M 1 a) : ∃ B, lp (f_X5_facing_L15 (LK a M)) FU (0, 0) = some (nI B) ∧ pc B ≤ 1 ∧ fI a B (fun m => ∃ j, j < aN a ∧ m = 2 ^ j) := by
  have hn := hw.1
  have hL := C_lkm hc 12
  have := lp_inv (f := f_X5_facing_L15 (LK a M)) (fun k (s : Int32 × Int32) => ∃ B, s = (nI B, nI k) ∧ pc B ≤ 1 ∧ B < 2 ^ k ∧ fI a B (fun m => ∃ j, j < k ∧ m = 2 ^ j)) (fun r => ∃ B, r = nI B ∧ pc B ≤ 1 ∧ fI a B (fun m => ∃ j, j < aN a ∧ m = 2 ^ j)) (aN a) (F := FU) ?_ ?_ (by rw [FU_v]; omega) (s0 := (0, 0)) ⟨0, rfl, by decide, by decide, by decide, Nat.two_pow_pos _, by decide, Nat.le_refl _, fun m ⟨j, hj, _⟩ => absurd hj (Nat.not_lt_zero j)⟩
  · obtain ⟨r, h1, B, rfl, h2, h3⟩ := this
    exact ⟨B, h1, h2, h3⟩
  · rintro k hk s ⟨B, rfl, h1, h2, h3⟩
    have hp := pow_lt (show k < 12 by omega)
    have hp2 : 2 ^ k < 2 ^ aN a := Nat.pow_lt_pow_right (by decide) hk
    have p1 := pc_pow k (by omega)
    unfold f_X5_facing_L15
    dsimp only
    rw [hL.1, if_neg (nI_ge hk (by omega)), sh1 k (by omega), X5_better hc h3.1 hp, Option.bind_some, nI_1]
    refine ⟨_, rfl, _, rfl, ?_, ?_, fI_step h3 hp hp2 (by omega) (by omega) ?_⟩
    · split <;> omega
    · have : 2 ^ (k + 1) = 2 ^ k * 2 := Nat.pow_succ 2 k
      split <;> omega
    · rintro m ⟨j, hj, rfl⟩
      rcases Nat.lt_succ_iff_lt_or_eq.mp hj with y | y
      · exact Or.inl ⟨j, y, rfl⟩
      · exact Or.inr (by rw [y])
  · rintro s ⟨B, rfl, h1, h2, h3⟩
    unfold f_X5_facing_L15
    dsimp only
    rw [hL.1, if_pos (nI_le (Nat.le_refl _) (by omega))]
    exact ⟨_, rfl, B, rfl, h1, h3⟩
abbrev fS2 (n i j m : Nat) : Prop := (∃ t, t < n ∧ m = 2 ^ t) ∨ ∃ u v, v < u ∧ (u < i ∨ (u = i ∧ v < j)) ∧ m = 2 ^ u + 2 ^ v
theorem facing_in (hw : WF a) (hc : CR M 1 a) {i B : Nat} (hi : i < aN a) (h1 : pc B = 2 → B < 2 ^ i) (h2 : fI a B (fS2 (aN a) i 0)) : ∃ B2, lp (f_X5_facing_L56 (nI B, nI i) (LK a M)) FU (nI B, 0) = some (nI B2) ∧ (pc B2 = 2 → B2 < 2 ^ (i + 1)) ∧ fI a B2 (fS2 (aN a) (i + 1) 0) := by
  have hn := hw.1
  have := lp_inv (f := f_X5_facing_L56 (nI B, nI i) (LK a M)) (fun k (s : Int32 × Int32) => ∃ B, s = (nI B, nI k) ∧ (pc B = 2 → B < 2 ^ i + 2 ^ k) ∧ fI a B (fS2 (aN a) i k)) (fun r => ∃ B, r = nI B ∧ (pc B = 2 → B < 2 ^ (i + 1)) ∧ fI a B (fS2 (aN a) (i + 1) 0)) i (F := FU) ?_ ?_ (by rw [FU_v]; omega) (s0 := (nI B, 0)) ⟨B, rfl, fun z => by have := h1 z; omega, h2⟩
  · obtain ⟨r, h1, B, rfl, h2, h3⟩ := this
    exact ⟨B, h1, h2, h3⟩
  · rintro k hk s ⟨B, rfl, h1, h3⟩
    obtain ⟨p1, p2, p3⟩ := pc_two i (by omega) k hk
    have hp2 : 2 ^ i + 2 ^ k < 2 ^ aN a := by
      have e1 : 2 ^ (i + 1) = 2 ^ i * 2 := Nat.pow_succ 2 i
      have e2 : 2 ^ k < 2 ^ i := Nat.pow_lt_pow_right (by decide) hk
      have e3 : 2 ^ (i + 1) ≤ 2 ^ aN a := Nat.pow_le_pow_right (by decide) hi
      omega
    unfold f_X5_facing_L56
    dsimp only
    have hb := h3.2.2.1
    rw [if_neg (nI_ge hk (by omega)), sh1 k (by omega), sh1 i (by omega), nI_or, p2, X5_better hc h3.1 p3, Option.bind_some, nI_1]
    refine ⟨_, rfl, _, rfl, fun z => ?_, fI_step h3 p3 hp2 (by omega) (by omega) ?_⟩
    · have e4 : 2 ^ (k + 1) = 2 ^ k * 2 := Nat.pow_succ 2 k
      have e5 := Nat.two_pow_pos k
      by_cases q : fV a B ≤ fV a (2 ^ i + 2 ^ k)
      · rw [if_pos q] at z ⊢
        have := h1 z
        omega
      · rw [if_neg q]; omega
    · rintro m (y | ⟨u, v, y1, y2, rfl⟩)
      · exact Or.inl (Or.inl y)
      · by_cases z : u = i ∧ v = k
        · exact Or.inr (by rw [z.1, z.2])
        · exact Or.inl (Or.inr ⟨u, v, y1, by omega, rfl⟩)
  · rintro s ⟨B, rfl, h1, h3⟩
    unfold f_X5_facing_L56
    dsimp only
    rw [if_pos (nI_le (Nat.le_refl _) (by omega))]
    have e4 : 2 ^ (i + 1) = 2 ^ i * 2 := Nat.pow_succ 2 i
    refine ⟨_, rfl, B, rfl, fun z => by have := h1 z; omega, h3.1, h3.2.1, h3.2.2.1, h3.2.2.2.1, ?_⟩
    rintro m (y | ⟨u, v, y1, y2, rfl⟩)
    · exact h3.2.2.2.2 m (Or.inl y)
    · exact h3.2.2.2.2 _ (Or.inr ⟨u, v, y1, by omega, rfl⟩)
theorem facing_2 (hw : WF a) (hc : CR M 1 a) {B : Nat} (h1 : pc B ≤ 1) (h2 : fI a B (fun m => ∃ j, j < aN a ∧ m = 2 ^ j)) : ∃ B2, lp (f_X5_facing_L43 (LK a M)) FU (nI B, 1) = some (nI B2) ∧ fI a B2 (fun m => m < 2 ^ aN a ∧ pc m ≤ 2) := by
  have hn := hw.1
  have hL := C_lkm hc 12
  have := lp_inv (f := f_X5_facing_L43 (LK a M)) (fun k (s : Int32 × Int32) => ∃ B, s = (nI B, nI (k + 1)) ∧ (pc B = 2 → B < 2 ^ (k + 1)) ∧ fI a B (fS2 (aN a) (k + 1) 0)) (fun r => ∃ B, r = nI B ∧ fI a B (fun m => m < 2 ^ aN a ∧ pc m ≤ 2)) (aN a - 1) (F := FU) ?_ ?_ (by rw [FU_v]; omega) (s0 := (nI B, 1)) ⟨B, rfl, fun z => by omega, h2.1, h2.2.1, h2.2.2.1, h2.2.2.2.1, ?_⟩
  · obtain ⟨r, h1, B, rfl, h2⟩ := this
    exact ⟨B, h1, h2⟩
  · rintro k hk s ⟨B, rfl, h1, h3⟩
    unfold f_X5_facing_L43
    dsimp only
    obtain ⟨B2, e1, e2, e3⟩ := facing_in hw hc (show k + 1 < aN a by omega) h1 h3
    rw [hL.1, if_neg (nI_ge (show k + 1 < aN a by omega) (by omega)), e1, Option.bind_some, nI_1]
    exact ⟨_, rfl, B2, rfl, e2, e3⟩
  · rintro s ⟨B, rfl, h1, h3⟩
    unfold f_X5_facing_L43
    dsimp only
    rw [hL.1, if_pos (nI_le (by omega) (by omega))]
    refine ⟨_, rfl, B, rfl, h3.1, h3.2.1, h3.2.2.1, h3.2.2.2.1, ?_⟩
    rintro m ⟨m1, m2⟩
    have m3 : m < 4096 := Nat.lt_of_lt_of_le m1 (Nat.pow_le_pow_right (by decide) hn : 2 ^ aN a ≤ 2 ^ 12)
    rcases pc_few m m3 m2 with y | ⟨j, hj, y⟩ | ⟨i, hi, j, hj, y⟩
    · rw [y]; exact h3.2.2.2.1
    · refine h3.2.2.2.2 m (Or.inl ⟨j, ?_, y⟩)
      rw [y] at m1
      exact (Nat.pow_lt_pow_iff_right (by decide)).mp m1
    · refine h3.2.2.2.2 m (Or.inr ⟨i, j, hj, ?_, y⟩)
      have : 2 ^ i < 2 ^ aN a := by have := Nat.two_pow_pos j; omega
      have := (Nat.pow_lt_pow_iff_right (by decide)).mp this
      omega
  · rintro m (y | ⟨u, v, y1, y2, rfl⟩)
    · exact h2.2.2.2.2 m y
    · omega
/-- facings, those of t among the first k turned -/
def fS (a : AR) (t k i : Nat) : Bool := if i < k ∧ t.testBit i = true then !aFc a i else aFc a i
theorem W_wF (hw : WF a) {S : Nat → Bool} (h : ∀ i, S i = true → i < aN a) : WF (wF a S) := by
  obtain ⟨h0, h1, h2, h3, h4, h5, h6, h7⟩ := hw
  exact ⟨h0, h1, h2, h3, h4, h5, h, h7⟩
theorem W_fS (hw : WF a) (t : Nat) {k : Nat} (hk : k ≤ aN a) : WF (wF a (fS a t k)) := W_wF hw fun i hi => by
  unfold fS at hi
  by_cases q : i < k ∧ t.testBit i = true
  · omega
  · rw [if_neg q] at hi; exact hw.2.2.2.2.2.2.1 i hi
theorem fS_u (a : AR) (t k : Nat) : wF a (fS a t (k + 1)) = uFc (wF a (fS a t k)) k (fS a t (k + 1) k) := by
  refine ar_ext rfl rfl rfl rfl rfl (funext fun i => ?_) rfl rfl
  show fS a t (k + 1) i = if i = k then fS a t (k + 1) k else fS a t k i
  by_cases q : i = k
  · rw [if_pos q, q]
  · rw [if_neg q]
    unfold fS
    exact if_c ⟨fun z => ⟨by omega, z.2⟩, fun z => ⟨by omega, z.2⟩⟩ _ _
theorem not_b2 (x : Bool) : (1 : Int32) - b2 (x = true) = b2 ((!x) = true) := by cases x <;> decide
theorem X6_facesAll (hw : WF a) (hm : MR N 37 a) {t : Nat} (ht : t < 4096) : ∃ N2, f_X6_facesAll (nI t) N = some N2 ∧ MR N2 37 (wF a (fS a t (aN a))) ∧ NO N N2 := by
  have hn := hw.1
  have := lp_inv (f := f_X6_facesAll_L2 (nI t)) (fun k (s : Int32 × Mem) => s.1 = nI k ∧ MR s.2 37 (wF a (fS a t k)) ∧ NO N s.2) (fun N2 => MR N2 37 (wF a (fS a t (aN a))) ∧ NO N N2) (aN a) (F := FU) ?_ ?_ (by rw [FU_v]; omega) (s0 := (0, N)) ⟨rfl, ?_, NO.rf N⟩
  · obtain ⟨r, h1, h2⟩ := this
    exact ⟨r, by unfold f_X6_facesAll; rw [h1]; rfl, h2⟩
  · rintro k hk ⟨i, N2⟩ ⟨rfl, h1, h2⟩
    dsimp only at h1 h2
    have hwk := W_fS hw t (show k ≤ aN a by omega)
    unfold f_X6_facesAll_L2
    dsimp only
    rw [h1.1, if_neg (nI_ge (show k < aN (wF a (fS a t k)) from hk) (show aN a < _ by omega)), X6_sp2, N_fc hwk h1 (show k < aN a from hk), bit_at (by omega) (by omega)]
    simp only [Option.bind_some, b2_1, nI_1, not_b2, if_pos (inR_nI (show 3 + 5 * k + 2 < 63 by omega) (show 63 < 2147483648 by decide)), cl_nI (show 3 + 5 * k + 2 < 2147483648 by omega), bn_e]
    have e : (if t.testBit k = true then some (b2 ((!aFc (wF a (fS a t k)) k) = true)) else some (b2 (aFc (wF a (fS a t k)) k = true))) = some (b2 (fS a t (k + 1) k = true)) := by
      have e0 : aFc (wF a (fS a t k)) k = aFc a k := by
        show fS a t k k = _
        unfold fS
        rw [if_neg (by omega)]
      rw [e0]
      unfold fS
      by_cases q : t.testBit k = true
      · rw [if_pos q, if_pos ⟨by omega, q⟩]
      · rw [if_neg q, if_neg (fun z => q z.2)]
    rw [e]
    simp only [Option.bind_some]
    refine ⟨_, rfl, rfl, ?_, no37 h2⟩
    dsimp only
    rw [fS_u]
    exact M_uFc h1 k _
  · rintro ⟨i, N2⟩ ⟨rfl, h1, h2⟩
    dsimp only at h1 h2
    unfold f_X6_facesAll_L2
    dsimp only
    rw [h1.1, if_pos (nI_le (show aN (wF a (fS a t (aN a))) ≤ aN a from Nat.le_refl _) (show aN a < _ by omega))]
    exact ⟨_, rfl, h1, h2⟩
  · have : wF a (fS a t 0) = a := ar_ext rfl rfl rfl rfl rfl (funext fun i => by
      show fS a t 0 i = aFc a i
      unfold fS
      rw [if_neg (by omega)]) rfl rfl
    rw [this]; exact hm
theorem fS_twice (a : AR) (t : Nat) : wF (wF a (fS a t (aN a))) (fS (wF a (fS a t (aN a))) t (aN (wF a (fS a t (aN a))))) = a := by
  refine ar_ext rfl rfl rfl rfl rfl (funext fun i => ?_) rfl rfl
  show (if i < aN a ∧ t.testBit i = true then !(if i < aN a ∧ t.testBit i = true then !aFc a i else aFc a i) else if i < aN a ∧ t.testBit i = true then !aFc a i else aFc a i) = aFc a i
  by_cases q : i < aN a ∧ t.testBit i = true
  · rw [if_pos q, if_pos q]; simp
  · rw [if_neg q, if_neg q]
theorem fS_pairs (hw : WF a) {t : Nat} (ht : t < 2 ^ aN a) : sm (fun h => pc (tm (wF a (fS a t (aN a))) h)) 12 / 2 = fV a t := by
  have hn := hw.1
  unfold fV
  rw [← en_tm hw]
  have : ms (fS a t (aN a)) 12 = ms (aFc a) 12 ^^^ t := by
    refine Nat.eq_of_testBit_eq fun i => ?_
    rw [tb_ms, Nat.testBit_xor, tb_ms]
    unfold fS
    by_cases q : i < aN a
    · have : i < 12 := by omega
      cases e : t.testBit i <;> simp [q, this]
    · have e : t.testBit i = false := Nat.testBit_lt_two_pow (Nat.lt_of_lt_of_le ht (Nat.pow_le_pow_right (by decide) (by omega)))
      rw [e]
      simp
  rw [this]
theorem df_zero {m c : Nat} : df m c = 0 ↔ SS m c := by
  constructor
  · intro h i q
    have : (df m c).testBit i = false := by rw [h]; simp
    rw [tb_df, q] at this
    simpa using this
  · intro h
    refine Nat.eq_of_testBit_eq fun i => ?_
    rw [tb_df, Nat.zero_testBit]
    cases e : m.testBit i with
    | false => rfl
    | true => rw [h i e]; rfl
theorem facing_N (hw : WF a) (hm : MR N 37 a) : ∃ B N2, lp (f_X6_facing_L15 (nI (ms (onA a) 12))) FU (0, nI (fV a 0), 1, N) = some (nI B, N2) ∧ MR N2 37 a ∧ NO N N2 ∧ B < 2 ^ aN a ∧ pc B ≤ 2 ∧ ∀ m, m < 2 ^ aN a → SS m (ms (onA a) 12) → pc m ≤ 2 → fK a B ≤ fK a m := by
  have hn := hw.1
  have h4 : 2 ^ aN a ≤ 2 ^ 12 := Nat.pow_le_pow_right (by decide) hn
  have h4 : 2 ^ aN a ≤ 4096 := h4
  have h5 := Nat.two_pow_pos (aN a)
  have := lp_inv (f := f_X6_facing_L15 (nI (ms (onA a) 12))) (fun k (s : Int32 × Int32 × Int32 × Mem) => ∃ B N2, s = (nI B, nI (fV a B), nI (k + 1), N2) ∧ MR N2 37 a ∧ NO N N2 ∧ B ≤ k ∧ B < 2 ^ aN a ∧ pc B ≤ 2 ∧ ∀ m, m ≤ k → SS m (ms (onA a) 12) → pc m ≤ 2 → fK a B ≤ fK a m) (fun r => ∃ B N2, r = (nI B, N2) ∧ MR N2 37 a ∧ NO N N2 ∧ B < 2 ^ aN a ∧ pc B ≤ 2 ∧ ∀ m, m < 2 ^ aN a → SS m (ms (onA a) 12) → pc m ≤ 2 → fK a B ≤ fK a m) (2 ^ aN a - 1) (F := FU) ?_ ?_ (by rw [FU_v]; omega) (s0 := (0, nI (fV a 0), 1, N)) ⟨0, N, rfl, hm, NO.rf N, Nat.le_refl 0, h5, by decide, fun m h _ _ => by rw [Nat.le_zero.mp h]; exact Nat.le_refl _⟩
  · obtain ⟨r, h1, B, N2, rfl, h2⟩ := this
    exact ⟨B, N2, h1, h2⟩
  · rintro k hk s ⟨B, N2, rfl, h1, h2, h3, h6, h7, h8⟩
    have ht : k + 1 < 2 ^ aN a := by omega
    have hl := ms12 (onA a)
    have hdl : df (k + 1) (ms (onA a) 12) < 4096 := SS_lt (df_sub _ _) (by omega)
    have vB := fV_le a B
    have vt := fV_le a (k + 1)
    unfold f_X6_facing_L15
    dsimp only
    rw [h1.1, sh1 (aN a) (by omega), if_neg (nI_ge ht (by omega)), nI_df, nI_1]
    by_cases q : SS (k + 1) (ms (onA a) 12)
    · have g : nI (df (k + 1) (ms (onA a) 12)) = 0 := by rw [df_zero.mpr q]; rfl
      have pl := pc_le (k + 1)
      rw [if_pos g, ones_spec _ (by omega), ones_spec B (by omega), Option.bind_some, Option.bind_some]
      by_cases q2 : 2 < pc (k + 1)
      · have g2 : (2 : Int32) < nI (pc (k + 1)) := nI_lt (a := 2) q2 (by omega)
        rw [if_pos g2]
        refine ⟨_, rfl, B, N2, rfl, h1, h2, by omega, h6, h7, fun m hm hs hp => ?_⟩
        by_cases e : m = k + 1
        · rw [e] at hp; omega
        · exact h8 m (by omega) hs hp
      · have g2 : ¬ (2 : Int32) < nI (pc (k + 1)) := nI_nlt (b := pc (k + 1)) (a := 2) (by omega) (by decide)
        obtain ⟨N3, e1, e2, e3⟩ := X6_facesAll hw h1 (show k + 1 < 4096 by omega)
        have hw3 := W_fS hw (k + 1) (Nat.le_refl (aN a))
        obtain ⟨N4, e4, e5, e6⟩ := X6_facesAll hw3 e2 (show k + 1 < 4096 by omega)
        rw [fS_twice] at e5
        rw [if_neg g2, e1, Option.bind_some, X6_pairs hw3 e2, fS_pairs hw ht, Option.bind_some, e4, Option.bind_some]
        have e7 : (if nI (fV a (k + 1)) < nI (fV a B) then some (1 : Int32) else if nI (fV a (k + 1)) = nI (fV a B) then Option.bind (some (nI (pc (k + 1)))) (fun r78 : Int32 => Option.bind (some (nI (pc B))) (fun r82 : Int32 => if r82 ≤ r78 then some 0 else some 1)) else some 0) = some (b2 (fV a (k + 1) < fV a B ∨ (fV a (k + 1) = fV a B ∧ pc (k + 1) < pc B))) := by
          by_cases c1 : fV a (k + 1) < fV a B
          · rw [if_pos (nI_lt c1 (by omega)), b2_t (Or.inl c1)]
          · rw [if_neg (nI_nlt (by omega) (by omega))]
            by_cases c2 : fV a (k + 1) = fV a B
            · rw [if_pos (by rw [c2]), Option.bind_some, Option.bind_some]
              by_cases c3 : pc B ≤ pc (k + 1)
              · rw [if_pos (nI_le c3 (by omega)), b2_f (by omega)]
              · rw [if_neg (nI_ge (by omega) (by omega)), b2_t (Or.inr ⟨c2, by omega⟩)]
            · rw [if_neg (fun z => c2 ((nI_eq (by omega) (by omega)).mp z)), b2_f (by omega)]
        simp only [Option.bind_some] at e7 ⊢
        rw [e7]
        simp only [Option.bind_some, b2_0]
        by_cases c : fV a (k + 1) < fV a B ∨ (fV a (k + 1) = fV a B ∧ pc (k + 1) < pc B)
        · rw [if_neg (not_not_intro c), if_neg (not_not_intro c)]
          refine ⟨_, rfl, k + 1, N4, rfl, e5, h2.tr (e3.tr e6), Nat.le_refl _, ht, by omega, fun m hm hs hp => ?_⟩
          by_cases e : m = k + 1
          · rw [e]; exact Nat.le_refl _
          · have := h8 m (by omega) hs hp
            refine Nat.le_trans ?_ this
            rcases c with y | y
            · exact Nat.le_of_lt (fK_lt y (by omega))
            · exact fK_le (Nat.le_of_eq y.1) (Or.inl y.2) (by omega)
        · rw [if_pos c, if_pos c]
          refine ⟨_, rfl, B, N4, rfl, e5, h2.tr (e3.tr e6), by omega, h6, h7, fun m hm hs hp => ?_⟩
          by_cases e : m = k + 1
          · rw [e]
            by_cases y : fV a B < fV a (k + 1)
            · exact Nat.le_of_lt (fK_lt y (by omega))
            · exact fK_le (by omega) (by omega) (by omega)
          · exact h8 m (by omega) hs hp
    · have g : ¬ nI (df (k + 1) (ms (onA a) 12)) = 0 := nI_ne0 (by
        rcases Nat.eq_zero_or_pos (df (k + 1) (ms (onA a) 12)) with z | z
        · exact absurd (df_zero.mp z) q
        · exact z) (by omega)
      rw [if_neg g]
      refine ⟨_, rfl, B, N2, rfl, h1, h2, by omega, h6, h7, fun m hm hs hp => ?_⟩
      by_cases e : m = k + 1
      · rw [e] at hs; exact absurd hs q
      · exact h8 m (by omega) hs hp
  · rintro s ⟨B, N2, rfl, h1, h2, h3, h6, h7, h8⟩
    unfold f_X6_facing_L15
    dsimp only
    rw [h1.1, sh1 (aN a) (by omega), if_pos (nI_le (by omega) (by omega))]
    exact ⟨_, rfl, B, N2, rfl, h1, h2, h6, h7, fun m hm hs hp => h8 m (by omega) hs hp⟩
theorem fK_inj {m c : Nat} (hm : m < 4096) (hc : c < 4096) (h : fK a m = fK a c) : m = c := by
  unfold fK at h
  omega
theorem p_facing (h : Rel M N) : Same (f_X5_facing M) (f_X6_facing N) := by
  obtain ⟨a, hw, hc, hm⟩ := h.1
  have hn := hw.1
  obtain ⟨B1, c1, c2, c3⟩ := facing_1 hw hc
  obtain ⟨C, d1, d2⟩ := facing_2 hw hc c2 c3
  obtain ⟨B, N2, n1, n2, n3, n4, n5, n6⟩ := facing_N hw hm
  have h4 : 2 ^ aN a ≤ 2 ^ 12 := Nat.pow_le_pow_right (by decide) hn
  have h4 : 2 ^ aN a ≤ 4096 := h4
  have e : C = B := by
    refine fK_inj (a := a) d2.1 (by omega) (Nat.le_antisymm (d2.2.2.2.2 B ⟨n4, n5⟩) ?_)
    refine Nat.le_trans (n6 (C &&& ms (onA a) 12) ?_ (SS_and.mp (SS.rf _)).2 ?_) (fK_on hw C)
    · exact Nat.lt_of_le_of_lt Nat.and_le_left d2.2.1
    · exact Nat.le_trans (pc_mono (SS_and.mp (SS.rf _)).1) d2.2.2.1
  have e0 : fV a 0 = sm (fun h => pc (tm a h)) 12 / 2 := by
    unfold fV
    rw [Nat.xor_zero, pairs_now hw]
  unfold f_X5_facing f_X6_facing
  rw [X3_look hw hc, Option.bind_some, c1, Option.bind_some, d1, Option.bind_some, X6_onRail hw hm, Option.bind_some, X6_pairs hw hm, Option.bind_some, ← e0, n1, Option.bind_some, e]
  exact ⟨_, _, _, rfl, rfl, h.rail a hw (C_lkm hc 12) n2 (CO_lkm a M 12) n3⟩
end FACING
