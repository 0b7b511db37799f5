/-! PURE: the tape's words and numbers, both sides -/
def wl : List (List Nat) := [[104, 97, 110, 103, 101, 114], [119, 105, 114, 101], [119, 111, 111, 100], [98, 101, 110, 116], [115, 116, 114, 97, 112], [98, 97, 114], [112, 114, 105, 99, 101], [97, 116], [98, 97, 99, 107], [115, 104, 105, 114, 116], [102, 101, 101, 108]]
def wB (i j : Nat) : Nat := (wl.getD i []).getD j 0
def wN (i : Nat) : Nat := (wl.getD i []).length
theorem wf1 : ∀ i, i < 11 → stN.getD i 0 = wN i ∧ wN i ≤ 6 := by decide +kernel
theorem wf2 : ∀ i, i < 11 → ∀ j, j < wN i → (stB.getD i []).getD j 0 = nI (wB i j) ∧ 97 ≤ wB i j ∧ wB i j ≤ 122 := by decide +kernel
def vW (i : Nat) : Nat → Nat
  | 0 => 0
  | k + 1 => 32 * vW i k + (wB i k - 96)
theorem vW_le : ∀ i, i < 11 → ∀ k, k < 7 → vW i k ≤ 36028797018963967 := by decide +kernel
theorem vW_pos : ∀ i, i < 11 → 0 < vW i (wN i) := by decide +kernel
def wm (c : Nat → Nat) (f i : Nat) : Nat → Bool
  | 0 => true
  | k + 1 => wm c f i k && decide (c (f + k) = wB i k)
theorem wm_iff (c : Nat → Nat) (f i : Nat) : ∀ k, wm c f i k = true ↔ ∀ j, j < k → c (f + j) = wB i j := by
  intro k
  induction k with
  | zero => exact ⟨fun _ j hj => absurd hj (Nat.not_lt_zero j), fun _ => rfl⟩
  | succ k ih =>
    rw [wm, Bool.and_eq_true, ih, decide_eq_true_eq]
    constructor
    · rintro ⟨h1, h2⟩ j hj
      rcases Nat.lt_succ_iff_lt_or_eq.mp hj with y | y
      · exact h1 j y
      · rw [y]; exact h2
    · intro h
      exact ⟨fun j hj => h j (by omega), h k (Nat.lt_succ_self k)⟩
/-- word i stands at f -/
def wI (t : Nat) (c : Nat → Nat) (f i : Nat) : Bool := decide (tkn t c f = 1 ∧ tE t c f = f + wN i) && wm c f i (wN i)
theorem wI_iff (t : Nat) (c : Nat → Nat) (f i : Nat) : wI t c f i = true ↔ (tkn t c f = 1 ∧ tE t c f = f + wN i) ∧ ∀ j, j < wN i → c (f + j) = wB i j := by
  unfold wI
  rw [Bool.and_eq_true, decide_eq_true_eq, wm_iff]
/-- the word as a number, to the base 32 -/
def hs (c : Nat → Nat) (f : Nat) : Nat → Nat
  | 0 => 0
  | n + 1 => if hs c f n ≤ 36028797018963967 then 32 * hs c f n + (c (f + n) - 96) else hs c f n
theorem hs_lt {c : Nat → Nat} {f : Nat} : ∀ n, (∀ j, j < n → c (f + j) < 256) → hs c f n < 2305843009213693952 := by
  intro n
  induction n with
  | zero => intro _; rw [hs]; omega
  | succ n ih =>
    intro h
    have h1 := ih (fun j hj => h j (by omega))
    have h2 := h n (Nat.lt_succ_self n)
    rw [hs]
    split <;> omega
theorem hs_vW {c : Nat → Nat} {f i : Nat} (hi : i < 11) : ∀ m, m ≤ wN i → ∀ n, (∀ j, j < n → isL (c (f + j)) = true) → hs c f n = vW i m → n = m ∧ ∀ j, j < m → c (f + j) = wB i j := by
  have hN := (wf1 i hi).2
  intro m
  induction m with
  | zero =>
    intro _ n hl h
    cases n with
    | zero => exact ⟨rfl, fun j hj => absurd hj (Nat.not_lt_zero j)⟩
    | succ n =>
      have h1 := isL_lt (hl n (Nat.lt_succ_self n))
      rw [hs, vW] at h
      split at h <;> omega
  | succ m ih =>
    intro hm n hl h
    have hw := (wf2 i hi m (by omega)).2
    have hv := vW_le i hi (m + 1) (by omega)
    cases n with
    | zero => rw [hs, vW] at h; omega
    | succ n =>
      have h1 := isL_lt (hl n (Nat.lt_succ_self n))
      rw [hs] at h
      by_cases q : hs c f n ≤ 36028797018963967
      · rw [if_pos q, vW] at h
        have e1 : hs c f n = vW i m := by omega
        have e2 : c (f + n) = wB i m := by omega
        obtain ⟨e3, e4⟩ := ih (by omega) n (fun j hj => hl j (by omega)) e1
        subst e3
        refine ⟨rfl, fun j hj => ?_⟩
        rcases Nat.lt_succ_iff_lt_or_eq.mp hj with y | y
        · exact e4 j y
        · rw [y]; exact e2
      · rw [if_neg q] at h; omega
theorem vW_hs {c : Nat → Nat} {f i : Nat} (hi : i < 11) (h : ∀ j, j < wN i → c (f + j) = wB i j) : ∀ m, m ≤ wN i → hs c f m = vW i m := by
  have hN := (wf1 i hi).2
  intro m
  induction m with
  | zero => intro _; rfl
  | succ m ih =>
    intro hm
    have hv := vW_le i hi m (by omega)
    rw [hs, vW, ih (by omega), if_pos hv, h m (by omega)]
section WORDS
variable {t : Nat} {c : Nat → Nat} {M N : Mem} {a : AR}
theorem tkn_1 {f : Nat} : tkn t c f = 1 ↔ (f < t ∧ isL (c f) = true) := by
  unfold tkn
  by_cases q : f < t
  · rw [if_pos q]
    by_cases q1 : isL (c f) = true
    · rw [if_pos q1]; exact ⟨fun _ => ⟨q, q1⟩, fun _ => rfl⟩
    · rw [if_neg q1]
      refine ⟨fun z => ?_, fun z => absurd z.2 q1⟩
      split at z
      · omega
      · split at z <;> omega
  · rw [if_neg q]; exact ⟨fun z => by omega, fun z => absurd z.1 q⟩
theorem tkn_2 {f : Nat} : tkn t c f = 2 ↔ (f < t ∧ isD (c f) = true) := by
  unfold tkn
  by_cases q : f < t
  · rw [if_pos q]
    by_cases q1 : isL (c f) = true
    · rw [if_pos q1]; exact ⟨fun z => by omega, fun z => by rw [isLD q1] at z; cases z.2⟩
    · rw [if_neg q1]
      by_cases q2 : isD (c f) = true
      · rw [if_pos q2]; exact ⟨fun _ => ⟨q, q2⟩, fun _ => rfl⟩
      · rw [if_neg q2]
        refine ⟨fun z => ?_, fun z => absurd z.2 q2⟩
        split at z <;> omega
  · rw [if_neg q]; exact ⟨fun z => by omega, fun z => absurd z.1 q⟩
theorem tkn_le (f : Nat) : tkn t c f ≤ 4 := by
  unfold tkn
  split
  · split
    · omega
    · split
      · omega
      · split <;> omega
  · omega
theorem tE_L {f : Nat} (h : f ≤ t) (hk : tkn t c f = 1) : ∀ j, j < tE t c f - f → isL (c (f + j)) = true := by
  obtain ⟨h1, h2⟩ := tkn_1.mp hk
  have e : tE t c f = sT isL t c f := by unfold tE; rw [if_pos h1, if_pos h2]
  intro j hj
  rw [e] at hj
  exact (sT_sp (P := isL) (c := c) h).2.2.1 (f + j) (by omega) (by omega)
theorem tE_D {f : Nat} (h : f ≤ t) (hk : tkn t c f = 2) : ∀ j, j < tE t c f - f → isD (c (f + j)) = true := by
  obtain ⟨h1, h2⟩ := tkn_2.mp hk
  have e : tE t c f = sT isD t c f := by
    unfold tE
    rw [if_pos h1, if_neg (fun z => by rw [isLD z] at h2; cases h2), if_pos h2]
  intro j hj
  rw [e] at hj
  exact (sT_sp (P := isD) (c := c) h).2.2.1 (f + j) (by omega) (by omega)
theorem isWord_lp {f i : Nat} (hT : TC t c M) (h2 : gI M 25 2 = nI f) (hi : i < 11) (hL : f + wN i ≤ t) : ∀ n k F, k + n = wN i → n < F → wm c f i k = true → lp (f_X1_isWord_L28 i M) F (nI k) = some (if wm c f i (wN i) = true then .inr () else .inl ()) := by
  have ht := hT.1
  obtain ⟨w1, w2⟩ := wf1 i hi
  have es : f_slen i = some (nI (wN i)) := by unfold f_slen; rw [if_pos hi, w1]
  intro n
  induction n with
  | zero =>
    intro k F hk hF hm
    obtain ⟨F, rfl⟩ : ∃ G, F = G + 1 := ⟨F - 1, by omega⟩
    have : k = wN i := by omega
    subst this
    rw [if_pos hm]
    refine lp_end ?_
    unfold f_X1_isWord_L28
    rw [es, Option.bind_some, if_pos (nI_le (Nat.le_refl _) (by omega))]
  | succ n ih =>
    intro k F hk hF hm
    obtain ⟨F, rfl⟩ : ∃ G, F = G + 1 := ⟨F - 1, by omega⟩
    obtain ⟨x1, x2, x3⟩ := wf2 i hi k (by omega)
    obtain ⟨c1, c2⟩ := hT.2.2 (f + k) (by omega)
    have ec : f_scat i (nI k) = some (nI (wB i k)) := by
      unfold f_scat
      rw [w1, if_pos ⟨hi, inR_nI (by omega) (by omega)⟩, cl_nI (by omega), x1]
    have st : f_X1_isWord_L28 i M (nI k) = if c (f + k) = wB i k then some (.inl (nI (k + 1))) else some (.inr (.inl ())) := by
      unfold f_X1_isWord_L28
      rw [es, Option.bind_some, if_neg (nI_ge (by omega) (by omega)), h2, nI_add, if_pos (inR_nI (show f + k < 120 by omega) (by decide)), ec, Option.bind_some, cl_nI (by omega), c2, nI_1]
      exact if_c (bv_w _ c1 _ (by omega)) _ _
    by_cases q : c (f + k) = wB i k
    · rw [if_pos q] at st
      rw [lp_step st]
      exact ih (k + 1) F (by omega) (by omega) (by rw [wm, hm]; simpa using q)
    · rw [if_neg q] at st
      rw [lp_end st, if_neg]
      intro z
      exact q ((wm_iff c f i _).mp z k (by omega))
theorem X1_isWord {f i : Nat} (hT : TC t c M) (hR : RdC t c M f) (hf : f ≤ t) (hi : i < 11) : f_X1_isWord i M = some (b2 (wI t c f i = true)) := by
  have ht := hT.1
  obtain ⟨w1, w2⟩ := wf1 i hi
  have es : f_slen i = some (nI (wN i)) := by unfold f_slen; rw [if_pos hi, w1]
  have hb := tE_b (c := c) hf
  have hk := tkn_le (t := t) (c := c) f
  have hw := wI_iff t c f i
  unfold f_X1_isWord
  rw [hR.2.2.1, es, Option.bind_some, hR.2.1, hR.1, pk_sub hb.1]
  by_cases q : tkn t c f = 1
  · have g : nI (tkn t c f) = 1 := by rw [q]; rfl
    rw [if_pos g]
    by_cases q2 : tE t c f = f + wN i
    · have g2 : nI (tE t c f - f) = nI (wN i) := by rw [q2]; congr 1; omega
      have L : lp (f_X1_isWord_L28 i M) FU 0 = _ := isWord_lp hT hR.1 hi (by omega) (wN i) 0 FU (by omega) (by rw [FU_v]; omega) rfl
      rw [if_pos g2, L, Option.bind_some]
      by_cases q3 : wm c f i (wN i) = true
      · rw [if_pos q3, b2_t (hw.mpr ⟨⟨q, q2⟩, (wm_iff c f i _).mp q3⟩)]; rfl
      · rw [if_neg q3, b2_f (fun z => q3 ((wm_iff c f i _).mpr (hw.mp z).2))]; rfl
    · have g2 : ¬ nI (tE t c f - f) = nI (wN i) := fun z => q2 (by have := (nI_eq (by omega) (by omega)).mp z; omega)
      rw [if_neg g2, b2_f (fun z => q2 (hw.mp z).1.2)]
  · have g : ¬ nI (tkn t c f) = 1 := fun z => q ((nI_eq (b := 1) (by omega) (by decide)).mp z)
    rw [if_neg g, b2_f (fun z => q (hw.mp z).1.1)]
def kn (t : Nat) (c : Nat → Nat) (f : Nat) : Nat → Nat → Option Nat
  | 0, _ => none
  | n + 1, k => if wI t c f k = true then some k else kn t c f n (k + 1)
theorem kn_lt (f : Nat) : ∀ n k m, kn t c f n k = some m → m < k + n := by
  intro n
  induction n with
  | zero => intro k m h; cases h
  | succ n ih =>
    intro k m h
    rw [kn] at h
    split at h
    · cases h; omega
    · have := ih _ _ h; omega
theorem kName : ∀ k, k < 6 → f_X5_kindName (nI k) = some k := by decide +kernel
theorem X1_namedKind {f : Nat} (hT : TC t c M) (hR : RdC t c M f) (hf : f ≤ t) : f_X1_namedKind M = some (pv (kn t c f 6 0)) := by
  have key : ∀ n k F, k + n = 6 → n < F → lp (f_X1_namedKind_L2 M) F (nI k) = some (match kn t c f n k with | none => .inr () | some m => .inl (nI m)) := by
    intro n
    induction n with
    | zero =>
      intro k F hk hF
      obtain ⟨F, rfl⟩ : ∃ G, F = G + 1 := ⟨F - 1, by omega⟩
      have : k = 6 := by omega
      subst this
      refine lp_end ?_
      unfold f_X1_namedKind_L2
      rw [if_pos (by decide)]; rfl
    | succ n ih =>
      intro k F hk hF
      obtain ⟨F, rfl⟩ : ∃ G, F = G + 1 := ⟨F - 1, by omega⟩
      have g : ¬ (6 : Int32) ≤ nI k := nI_ge (a := k) (b := 6) (by omega) (by decide)
      have st : f_X1_namedKind_L2 M (nI k) = if wI t c f k = true then some (.inr (.inl (nI k))) else some (.inl (nI (k + 1))) := by
        unfold f_X1_namedKind_L2
        rw [if_neg g, kName k (by omega), Option.bind_some, X1_isWord hT hR hf (by omega), Option.bind_some, nI_1]
        by_cases q : wI t c f k = true
        · rw [b2_t q, if_neg (by decide), if_pos q]
        · rw [b2_f q, if_pos rfl, if_neg q]
      rw [kn]
      by_cases q : wI t c f k = true
      · rw [if_pos q] at st
        rw [lp_end st, if_pos q]
      · rw [if_neg q] at st
        rw [lp_step st, if_neg q]
        exact ih (k + 1) F (by omega) (by omega)
  have L : lp (f_X1_namedKind_L2 M) FU 0 = _ := key 6 0 FU (by omega) (by rw [FU_v]; omega)
  unfold f_X1_namedKind
  rw [L]
  cases kn t c f 6 0 <;> rfl
/-! the reference's words -/
theorem cap_le {x : Nat} (h : x < 2305843009213693952) : (lg_cmp (lN x) 36028797018963967 ≤ 0) ↔ x ≤ 36028797018963967 := by
  rw [cmp_le, pk_lT (by omega), show (36028797018963967 : Int64).toInt = 36028797018963967 from rfl]
  omega
theorem word_lp {f : Nat} (hT : TN t c N) (hR : RdN t c N f) (hf : f ≤ t) (hk : tkn t c f = 1) : lp (f_X6_word_L7 N) FU (0, nI f) = some (lN (hs c f (tE t c f - f))) := by
  have ht := hT.1
  have hb := tE_b (c := c) hf
  have hL := tE_L hf hk
  refine lp_run (fun n => (lN (hs c f n), nI (f + n))) (tE t c f - f) (fun n hn => ?_) ?_ (by rw [FU_v]; omega)
  · have c1 := (hT.2.2 (f + n) (by omega)).2
    have l1 := isL_lt (hL n hn)
    have hl := hs_lt (c := c) (f := f) n (fun j hj => (hT.2.2 (f + j) (by omega)).1)
    unfold f_X6_word_L7
    dsimp only
    rw [hR.2, if_neg (nI_ge (by omega) (by omega)), if_pos (inR_nI (show f + n < 120 by omega) (by decide)), cl_nI (by omega), c1, hs, nI_1]
    by_cases q : hs c f n ≤ 36028797018963967
    · rw [if_pos ((cap_le hl).mpr q), if_pos q, show (96 : Int32) = nI 96 from rfl, pk_sub (by omega), nI_l (by omega), show (32 : Int64) = lN 32 from rfl, lN_mul, lN_add]
      rfl
    · rw [if_neg (fun z => q ((cap_le hl).mp z)), if_neg q]
      rfl
  · unfold f_X6_word_L7
    dsimp only
    rw [hR.2, if_pos (nI_le (by omega) (by omega))]
theorem word_any {f : Nat} (hT : TN t c N) (hR : RdN t c N f) (hf : f ≤ t) : ∃ x, lp (f_X6_word_L7 N) FU (0, nI f) = some x := by
  have ht := hT.1
  have hb := tE_b (c := c) hf
  have := lp_inv (f := f_X6_word_L7 N) (fun k (s : Int64 × Int32) => s.2 = nI (f + k)) (fun _ => True) (tE t c f - f) (F := FU) ?_ ?_ (by rw [FU_v]; omega) (s0 := (0, nI f)) rfl
  · obtain ⟨r, h1, _⟩ := this
    exact ⟨r, h1⟩
  · rintro k hk ⟨x, i⟩ rfl
    unfold f_X6_word_L7
    dsimp only
    rw [hR.2, if_neg (nI_ge (by omega) (by omega)), if_pos (inR_nI (show f + k < 120 by omega) (by decide)), nI_1]
    by_cases q : lg_cmp x 36028797018963967 ≤ 0
    · rw [if_pos q]; exact ⟨_, rfl, rfl⟩
    · rw [if_neg q]; exact ⟨_, rfl, rfl⟩
  · rintro ⟨x, i⟩ rfl
    unfold f_X6_word_L7
    dsimp only
    rw [hR.2, if_pos (nI_le (by omega) (by omega))]
    exact ⟨_, rfl, trivial⟩
theorem X6_word_wrong {f : Nat} (hT : TN t c N) (hR : RdN t c N f) (hf : f ≤ t) (h14 : gI N 36 14 = 1) : f_X6_word N = some 0 := by
  obtain ⟨x, hx⟩ := word_any hT hR hf
  unfold f_X6_word
  rw [bn_e, hR.1, hx, Option.bind_some, h14, if_neg (by decide)]
  rfl
theorem X6_word {f : Nat} (hT : TN t c N) (hR : RdN t c N f) (hf : f ≤ t) (h14 : gI N 36 14 = 0) : ∃ x, f_X6_word N = some x ∧ ∀ i, i < 11 → (lg_cmp x (lN (vW i (wN i))) = 0 ↔ wI t c f i = true) := by
  have ht := hT.1
  have hb := tE_b (c := c) hf
  by_cases q : tkn t c f = 1
  · refine ⟨lN (hs c f (tE t c f - f)), ?_, fun i hi => ?_⟩
    · unfold f_X6_word
      rw [bn_e, hR.1, word_lp hT hR hf q, Option.bind_some, h14, if_pos rfl, X6_byteAt hT (by omega), Option.bind_some, B_L hT, Option.bind_some, b2_t (tkn_1.mp q), if_neg (by decide)]
      rfl
    · obtain ⟨w1, w2⟩ := wf1 i hi
      have hl := hs_lt (c := c) (f := f) (tE t c f - f) (fun j hj => (hT.2.2 (f + j) (by omega)).1)
      have hv := vW_le i hi (wN i) (by omega)
      rw [cmp_eq, pk_lEQ (by omega) (by omega), wI_iff]
      constructor
      · intro h
        obtain ⟨h1, h2⟩ := hs_vW hi (wN i) (Nat.le_refl _) _ (tE_L hf q) h
        exact ⟨⟨q, by omega⟩, h2⟩
      · rintro ⟨⟨_, h1⟩, h2⟩
        rw [h1, show f + wN i - f = wN i by omega]
        exact vW_hs hi h2 (wN i) (Nat.le_refl _)
  · obtain ⟨x, hx⟩ := word_any hT hR hf
    refine ⟨0, ?_, fun i hi => ?_⟩
    · unfold f_X6_word
      rw [bn_e, hR.1, hx, Option.bind_some, h14, if_pos rfl, X6_byteAt hT (by omega), Option.bind_some, B_L hT, Option.bind_some, b2_f (fun z => q (tkn_1.mpr z)), if_pos rfl]
      rfl
    · have hv := vW_le i hi (wN i) (by have := (wf1 i hi).2; omega)
      have hp := vW_pos i hi
      rw [cmp_eq, show (0 : Int64) = lN 0 from rfl, pk_lEQ (by omega) (by omega), wI_iff]
      exact ⟨fun z => by omega, fun z => absurd z.1.1 q⟩
theorem X6_kindHere {f : Nat} (hT : TN t c N) (hR : RdN t c N f) (hf : f ≤ t) (h14 : gI N 36 14 = 0) : f_X6_kindHere N = some (pv (kn t c f 6 0)) := by
  obtain ⟨x, h1, h2⟩ := X6_word hT hR hf h14
  unfold f_X6_kindHere
  rw [h1, Option.bind_some]
  have k0 : (lg_cmp x 269950130 = 0) ↔ wI t c f 0 = true := h2 0 (by decide)
  have k1 : (lg_cmp x 763461 = 0) ↔ wI t c f 1 = true := h2 1 (by decide)
  have k2 : (lg_cmp x 769508 = 0) ↔ wI t c f 2 = true := h2 2 (by decide)
  have k3 : (lg_cmp x 71124 = 0) ↔ wI t c f 3 = true := h2 3 (by decide)
  have k4 : (lg_cmp x 20596784 = 0) ↔ wI t c f 4 = true := h2 4 (by decide)
  have k5 : (lg_cmp x 2098 = 0) ↔ wI t c f 5 = true := h2 5 (by decide)
  simp only [kn, k0, k1, k2, k3, k4, k5]
  cases wI t c f 0 <;> cases wI t c f 1 <;> cases wI t c f 2 <;> cases wI t c f 3 <;> cases wI t c f 4 <;> cases wI t c f 5 <;> rfl
/-! numbers -/
abbrev nv (t : Nat) (c : Nat → Nat) (f : Nat) : Nat := nC c f (tE t c f - f)
/-- a number from lo to hi stands at f -/
abbrev nIs (t : Nat) (c : Nat → Nat) (f lo hi : Nat) : Prop := tkn t c f = 2 ∧ lo ≤ nv t c f ∧ nv t c f ≤ hi
theorem X1_isNumber {f lo hi : Nat} (hR : RdC t c M f) (hl : lo < 2147483648) (hh : hi < 2147483648) : f_X1_isNumber (nI lo) (nI hi) M = some (b2 (nIs t c f lo hi)) := by
  have hk := tkn_le (t := t) (c := c) f
  have hn := nC_le c f (tE t c f - f)
  have ev : nv t c f = nC c f (tE t c f - f) := rfl
  unfold f_X1_isNumber
  rw [hR.2.2.1]
  by_cases q : tkn t c f = 2
  · have g : nI (tkn t c f) = 2 := by rw [q]; rfl
    rw [if_pos g, hR.2.2.2 q]
    by_cases q1 : nv t c f < lo
    · rw [if_pos (nI_lt q1 (by omega)), b2_f (fun z => by have := z.2.1; omega)]; rfl
    · rw [if_neg (nI_nlt (by omega) (by omega))]
      by_cases q2 : hi < nv t c f
      · rw [if_pos (nI_lt q2 (by omega)), b2_f (fun z => by have := z.2.2; omega)]; rfl
      · rw [if_neg (nI_nlt (by omega) (by omega)), b2_t ⟨q, by omega, by omega⟩]; rfl
  · have g : ¬ nI (tkn t c f) = 2 := fun z => q ((nI_eq (b := 2) (by omega) (by decide)).mp z)
    rw [if_neg g, b2_f (fun z => q z.1)]; rfl
def nN (c : Nat → Nat) (f : Nat) : Nat → Nat
  | 0 => 0
  | n + 1 => if nN c f n ≤ 999 then 10 * nN c f n + (c (f + n) - 48) else nN c f n
theorem nN_nC {c : Nat → Nat} {f : Nat} : ∀ n, (∀ j, j < n → isD (c (f + j)) = true) → nN c f n < 10000 ∧ (nN c f n ≤ 999 → nC c f n = nN c f n) ∧ (999 < nN c f n → nC c f n = 1000) := by
  intro n
  induction n with
  | zero => intro _; exact ⟨by rw [nN]; omega, fun _ => rfl, fun z => by rw [nN] at z; omega⟩
  | succ n ih =>
    intro h
    obtain ⟨h1, h2, h3⟩ := ih (fun j hj => h j (by omega))
    have hd := isD_lt (h n (Nat.lt_succ_self n))
    rw [nN, nC]
    by_cases q : nN c f n ≤ 999
    · have := h2 q
      rw [if_pos q]
      omega
    · have := h3 (by omega)
      rw [if_neg q]
      omega
theorem num_lp {f : Nat} (hT : TN t c N) (hR : RdN t c N f) (hf : f ≤ t) (hk : tkn t c f = 2) : lp (f_X6_number_L29 N 1) FU (0, nI f) = some (nI (nN c f (tE t c f - f))) := by
  have ht := hT.1
  have hb := tE_b (c := c) hf
  have hD := tE_D hf hk
  refine lp_run (fun n => (nI (nN c f n), nI (f + n))) (tE t c f - f) (fun n hn => ?_) ?_ (by rw [FU_v]; omega)
  · have c1 := (hT.2.2 (f + n) (by omega)).2
    have d1 := isD_lt (hD n hn)
    have hl := (nN_nC (c := c) (f := f) n (fun j hj => hD j (by omega))).1
    unfold f_X6_number_L29
    dsimp only
    rw [hR.2, if_neg (nI_ge (by omega) (by omega)), if_neg (by decide), if_pos (inR_nI (show f + n < 120 by omega) (by decide)), cl_nI (by omega), c1, nN, nI_1]
    by_cases q : nN c f n ≤ 999
    · have g : nI (nN c f n) ≤ 999 := nI_le (b := 999) q (by decide)
      rw [if_pos g, if_pos q, show (10 : Int32) = nI 10 from rfl, pk_mul, nI_add, show (48 : Int32) = nI 48 from rfl, pk_sub (by omega), show 10 * nN c f n + c (f + n) - 48 = 10 * nN c f n + (c (f + n) - 48) by omega]
      rfl
    · have g : ¬ nI (nN c f n) ≤ 999 := nI_ge (a := 999) (by omega) (by omega)
      rw [if_neg g, if_neg q]
      rfl
  · unfold f_X6_number_L29
    dsimp only
    rw [hR.2, if_pos (nI_le (by omega) (by omega))]
def On (N N2 : Mem) : Prop := (∀ k j, (k = 36 → j < 11 ∨ 14 < j) → gI N2 k j = gI N k j) ∧ ∀ k j, gJ N2 k j = gJ N k j
theorem On.rf (N : Mem) : On N N := ⟨fun _ _ _ => rfl, fun _ _ => rfl⟩
theorem On.tr {N N2 N3 : Mem} (h : On N N2) (h2 : On N2 N3) : On N N3 := ⟨fun k j q => (h2.1 k j q).trans (h.1 k j q), fun k j => (h2.2 k j).trans (h.2 k j)⟩
theorem O36.on {N N2 : Mem} (h : O36 N N2) : On N N2 := ⟨fun k j q => h.1 k j (fun z => by have := q z; omega), h.2⟩
theorem On.sI {N N2 : Mem} (h : On N N2) {i : Nat} (hi : 11 ≤ i ∧ i ≤ 14) (v : Int32) : On N (sI N2 36 i v) := ⟨fun k j hk => by
  rw [gI_sI, if_neg (fun z => by have := hk z.1; omega)]; exact h.1 k j hk, h.2⟩
theorem TN.on {N N2 : Mem} (h : TN t c N) (o : On N N2) : TN t c N2 := ⟨h.1, by rw [o.1 36 10 (fun _ => by decide)]; exact h.2.1, fun j hj => by rw [o.1 43 j (fun z => absurd z (by decide))]; exact h.2.2 j hj⟩
abbrev nx (t : Nat) (c : Nat → Nat) (f : Nat) : Nat := sT isS t c (tE t c f)
theorem RdN.sI {f i : Nat} {v : Int32} (h : RdN t c N f) (hi : i ≠ 11 ∧ i ≠ 12) : RdN t c (sI N 36 i v) f := ⟨by rw [gI_sI, if_neg (by omega)]; exact h.1, by rw [gI_sI, if_neg (by omega)]; exact h.2⟩
theorem X6_must_t {f : Nat} {x : Int32} (hT : TN t c N) (hR : RdN t c N f) (hf : f ≤ t) (h14 : gI N 36 14 = 0) (hx : x ≠ 0) : ∃ N2, f_X6_must x N = some N2 ∧ RdN t c N2 (nx t c f) ∧ gI N2 36 14 = 0 ∧ gI N2 36 13 = gI N 36 13 ∧ On N N2 := by
  have o1 : On N (sI N 36 14 0) := (On.rf N).sI (by decide) 0
  obtain ⟨N2, e1, e2, e3⟩ := X6_token (hT.on o1) (hR.sI (i := 14) (v := 0) (by decide)).2 (tE_b hf).2
  have g : gI (sI N 36 14 0) 36 14 = 0 := by rw [gI_sI, if_pos ⟨rfl, rfl⟩]
  unfold f_X6_must
  rw [h14, if_pos rfl, if_neg hx, Option.bind_some, if_pos (by decide), bn_e, g, if_pos rfl, e1]
  refine ⟨N2, rfl, e2, ?_, ?_, o1.tr e3.on⟩
  · rw [e3.1 36 14 (fun _ => by decide)]; exact g
  · rw [e3.1 36 13 (fun _ => by decide), gI_sI, if_neg (by decide)]
theorem X6_must_f (h14 : gI N 36 14 = 0) : f_X6_must 0 N = some (sI N 36 14 1) := by
  have g : gI (sI N 36 14 1) 36 14 = 1 := by rw [gI_sI, if_pos ⟨rfl, rfl⟩]
  unfold f_X6_must
  rw [h14, if_pos rfl, if_pos rfl, Option.bind_some, if_pos (by decide), bn_e, g, if_neg (by decide)]
  rfl
/-- the reference's number, right and wrong -/
theorem X6_number {f lo hi : Nat} (hT : TN t c N) (hR : RdN t c N f) (hf : f ≤ t) (h14 : gI N 36 14 = 0) (hlh : lo ≤ 99 ∧ hi ≤ 99) : ∃ N2, f_X6_number (nI lo) (nI hi) N = some N2 ∧ On N N2 ∧ ((nIs t c f lo hi ∧ RdN t c N2 (nx t c f) ∧ gI N2 36 14 = 0 ∧ gI N2 36 13 = nI (nv t c f)) ∨ (¬ nIs t c f lo hi ∧ RdN t c N2 f ∧ gI N2 36 14 = 1)) := by
  have ht := hT.1
  have hb := tE_b (c := c) hf
  have hn := nC_le c f (tE t c f - f)
  have ev : nv t c f = nC c f (tE t c f - f) := rfl
  unfold f_X6_number
  rw [h14, if_pos rfl, hR.1, X6_byteAt hT (by omega), Option.bind_some, B_D hT, Option.bind_some, bn_e]
  by_cases q : tkn t c f = 2
  · obtain ⟨n1, n2, n3⟩ := nN_nC (c := c) (f := f) _ (tE_D hf q)
    rw [b2_t (tkn_2.mp q), num_lp hT hR hf q, Option.bind_some, bn_e, if_neg (by decide), in_spec, i_j, i_j, i_j, nI_t (by omega), nI_t (by omega), nI_t (by omega), Option.bind_some]
    have o1 : On N (sI N 36 13 (nI (nN c f (tE t c f - f)))) := (On.rf N).sI (by decide) _
    have g14 : gI (sI N 36 13 (nI (nN c f (tE t c f - f)))) 36 14 = 0 := by rw [gI_sI, if_neg (by decide)]; exact h14
    have r1 := hR.sI (i := 13) (v := nI (nN c f (tE t c f - f))) (by decide)
    by_cases q2 : (lo : Int) ≤ (nN c f (tE t c f - f) : Nat) ∧ ((nN c f (tE t c f - f) : Nat) : Int) ≤ hi
    · have e : nv t c f = nN c f (tE t c f - f) := n2 (by omega)
      obtain ⟨N2, m1, m2, m3, m4, m5⟩ := X6_must_t (hT.on o1) r1 hf g14 (x := 1) (by decide)
      rw [b2_t q2, if_neg (by decide), Option.bind_some, m1]
      refine ⟨N2, rfl, o1.tr m5, Or.inl ⟨⟨q, by omega, by omega⟩, m2, m3, ?_⟩⟩
      rw [m4, gI_sI, if_pos ⟨rfl, rfl⟩, e]
    · rw [b2_f q2, if_pos rfl, Option.bind_some, X6_must_f g14]
      refine ⟨_, rfl, o1.sI (by decide) 1, Or.inr ⟨fun z => q2 ?_, r1.sI (by decide), by rw [gI_sI, if_pos ⟨rfl, rfl⟩]⟩⟩
      have := z.2
      omega
  · have L : lp (f_X6_number_L29 N 0) FU (0, nI f) = some 0 := by
      refine lp_end (n := 8191) ?_
      unfold f_X6_number_L29
      dsimp only
      by_cases z : gI N 36 12 ≤ nI f
      · rw [if_pos z]
      · rw [if_neg z, if_pos rfl]
    have o1 : On N (sI N 36 13 0) := (On.rf N).sI (by decide) _
    have g14 : gI (sI N 36 13 0) 36 14 = 0 := by rw [gI_sI, if_neg (by decide)]; exact h14
    have r1 := hR.sI (i := 13) (v := 0) (by decide)
    rw [b2_f (fun z => q (tkn_2.mpr z)), L, Option.bind_some, bn_e, if_pos rfl, Option.bind_some, X6_must_f g14]
    exact ⟨_, rfl, o1.sI (by decide) 1, Or.inr ⟨fun z => q z.1, r1.sI (by decide), by rw [gI_sI, if_pos ⟨rfl, rfl⟩]⟩⟩
/-- the number that stands here, or -1 -/
def nH (x : Nat) : Int32 := if x ≤ 999 then nI x else -1
theorem nC_big {c : Nat → Nat} {f k : Nat} (h : nC c f k = 1000) : ∀ d, (∀ j, j < k + d → isD (c (f + j)) = true) → nC c f (k + d) = 1000 := by
  intro d
  induction d with
  | zero => intro _; exact h
  | succ d ih =>
    intro hd
    show min (10 * nC c f (k + d) + (c (f + (k + d)) - 48)) 1000 = 1000
    rw [ih (fun j hj => hd j (by omega))]
    omega
theorem here_lp {f : Nat} (hT : TN t c N) (hR : RdN t c N f) (hf : f ≤ t) (hk : tkn t c f = 2) : lp (f_X6_numberHere_L32 N) FU (0, nI f) = some (nH (nv t c f)) := by
  have ht := hT.1
  have hb := tE_b (c := c) hf
  have hD := tE_D hf hk
  have key : ∀ n k F, k + n = tE t c f - f → n < F → lp (f_X6_numberHere_L32 N) F (nH (nC c f k), nI (f + k)) = some (nH (nv t c f)) := by
    intro n
    induction n with
    | zero =>
      intro k F hk hF
      obtain ⟨F, rfl⟩ : ∃ G, F = G + 1 := ⟨F - 1, by omega⟩
      have : k = tE t c f - f := by omega
      refine lp_end ?_
      unfold f_X6_numberHere_L32
      dsimp only
      rw [hR.2, if_pos (nI_le (by omega) (by omega)), this]
    | succ n ih =>
      intro k F hk hF
      obtain ⟨F, rfl⟩ : ∃ G, F = G + 1 := ⟨F - 1, by omega⟩
      have c1 := (hT.2.2 (f + k) (by omega)).2
      have d1 := isD_lt (hD k (by omega))
      have hn := nC_le c f k
      by_cases q : nC c f k ≤ 999
      · have e1 : nH (nC c f k) = nI (nC c f k) := by unfold nH; rw [if_pos q]
        have e2 : nC c f (k + 1) = min (10 * nC c f k + (c (f + k) - 48)) 1000 := rfl
        have st : f_X6_numberHere_L32 N (nH (nC c f k), nI (f + k)) = some (.inl (nH (nC c f (k + 1)), nI (f + (k + 1)))) := by
          unfold f_X6_numberHere_L32
          dsimp only
          rw [hR.2, if_neg (nI_ge (by omega) (by omega)), e1, if_neg (nI_pos (by omega)), if_pos (inR_nI (show f + k < 120 by omega) (by decide)), cl_nI (by omega), c1, bn_e, show (10 : Int32) = nI 10 from rfl, pk_mul, nI_add, show (48 : Int32) = nI 48 from rfl, pk_sub (by omega), nI_1]
          by_cases z : 10 * nC c f k + c (f + k) - 48 ≤ 999
          · have g : nI (10 * nC c f k + c (f + k) - 48) ≤ 999 := nI_le (b := 999) z (by decide)
            rw [if_pos g, Option.bind_some]
            unfold nH
            rw [if_pos (by omega), e2, show min (10 * nC c f k + (c (f + k) - 48)) 1000 = 10 * nC c f k + c (f + k) - 48 by omega]
            rfl
          · have g : ¬ nI (10 * nC c f k + c (f + k) - 48) ≤ 999 := nI_ge (a := 999) (by omega) (by omega)
            rw [if_neg g, Option.bind_some]
            unfold nH
            rw [if_neg (by omega)]
            rfl
        rw [lp_step st]
        exact ih (k + 1) F (by omega) (by omega)
      · have e0 : nC c f k = 1000 := by omega
        have e1 : nH (nC c f k) = -1 := by unfold nH; rw [if_neg q]
        have e2 : nv t c f = 1000 := by
          have := nC_big e0 (n + 1) (fun j hj => hD j (by omega))
          rwa [hk] at this
        have e3 : nH (nv t c f) = -1 := by unfold nH; rw [if_neg (by omega)]
        rw [e1, e3]
        refine lp_end ?_
        unfold f_X6_numberHere_L32
        dsimp only
        rw [hR.2, if_neg (nI_ge (by omega) (by omega)), if_pos (by decide)]
  exact key (tE t c f - f) 0 FU (by omega) (by rw [FU_v]; omega)
theorem X6_numberHere {f : Nat} (hT : TN t c N) (hR : RdN t c N f) (hf : f ≤ t) (h14 : gI N 36 14 = 0) : f_X6_numberHere N = some (if tkn t c f = 2 then nH (nv t c f) else -1) := by
  have ht := hT.1
  unfold f_X6_numberHere
  rw [h14, if_pos rfl, hR.1, X6_byteAt hT (by omega), Option.bind_some, B_D hT, Option.bind_some]
  by_cases q : tkn t c f = 2
  · rw [b2_t (tkn_2.mp q), if_neg (by decide), Option.bind_some, bn_e, here_lp hT hR hf q, if_pos q]
    rfl
  · have L : lp (f_X6_numberHere_L32 N) FU (-1, nI f) = some (-1) := by
      refine lp_end (n := 8191) ?_
      unfold f_X6_numberHere_L32
      dsimp only
      by_cases z : gI N 36 12 ≤ nI f
      · rw [if_pos z]
      · rw [if_neg z, if_pos (by decide)]
    rw [b2_f (fun z => q (tkn_2.mpr z)), if_pos rfl, Option.bind_some, bn_e, L, if_neg q]
    rfl
end WORDS
