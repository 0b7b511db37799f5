/-! PURE: numbers, masks, memory -/
def b2 (p : Prop) [Decidable p] : Int32 := if p then 1 else 0
theorem b2_0 (p : Prop) [Decidable p] : (b2 p = 0) = ¬ p := by
  unfold b2; by_cases h : p <;> simp [h]
theorem b2_1 (p : Prop) [Decidable p] : (b2 p = 1) = p := by
  unfold b2; by_cases h : p <;> simp [h]
theorem b2_z (p : Prop) [Decidable p] : zb (b2 p) := by
  unfold b2 zb; by_cases h : p <;> simp [h]
theorem b2_c {p q : Prop} [Decidable p] [Decidable q] (h : p ↔ q) : b2 p = b2 q := by
  unfold b2; by_cases hp : p
  · rw [if_pos hp, if_pos (h.mp hp)]
  · rw [if_neg hp, if_neg (fun z => hp (h.mpr z))]
theorem b2_t {p : Prop} [Decidable p] (h : p) : b2 p = 1 := if_pos h
theorem b2_f {p : Prop} [Decidable p] (h : ¬ p) : b2 p = 0 := if_neg h
theorem bnd_ite {α β : Type} (c : Prop) [Decidable c] (x y : Option α) (k : α → Option β) : Option.bind (if c then x else y) k = if c then Option.bind x k else Option.bind y k := by
  by_cases h : c <;> simp [h]
theorem bnd_eta {α β : Type} (x : Option (α × β)) : Option.bind x (fun r => some (r.1, r.2)) = x := by
  cases x <;> rfl
theorem bnd_id {α : Type} (x : Option α) : Option.bind x (fun r => some r) = x := by
  cases x <;> rfl
theorem bn_e {α β : Type} (x : α) (k : α → β) : bn x k = k x := rfl
theorem i_lt (a b : Int32) : a < b ↔ a.toInt < b.toInt := Int32.lt_iff_toInt_lt
theorem i_le (a b : Int32) : a ≤ b ↔ a.toInt ≤ b.toInt := Int32.le_iff_toInt_le
theorem i_eq (a b : Int32) : a = b ↔ a.toInt = b.toInt := Int32.toInt_inj.symm
theorem j_lt (a b : Int64) : a < b ↔ a.toInt < b.toInt := Int64.lt_iff_toInt_lt
theorem j_le (a b : Int64) : a ≤ b ↔ a.toInt ≤ b.toInt := Int64.le_iff_toInt_le
theorem j_eq (a b : Int64) : a = b ↔ a.toInt = b.toInt := Int64.toInt_inj.symm
theorem i_j (a : Int32) : a.toInt64.toInt = a.toInt := by simp
theorem nI_t {n : Nat} (h : n < 2147483648) : (nI n).toInt = n := nI_toInt h
theorem i_rng (x : Int32) : -2147483648 ≤ x.toInt ∧ x.toInt < 2147483648 := ⟨Int32.le_toInt x, Int32.toInt_lt x⟩
theorem cmp_lt (x y : Int64) : (lg_cmp x y < 0) ↔ x.toInt < y.toInt := by
  unfold lg_cmp
  by_cases h1 : y < x
  · rw [if_pos h1]; rw [j_lt] at h1; constructor
    · intro h; exact absurd h (by decide)
    · intro h; omega
  · rw [if_neg h1]; rw [j_lt] at h1
    by_cases h2 : x = y
    · rw [if_pos h2]; rw [j_eq] at h2; constructor
      · intro h; exact absurd h (by decide)
      · intro h; omega
    · rw [if_neg h2]; rw [j_eq] at h2; constructor
      · intro h; omega
      · intro h; decide
theorem cmp_gt (x y : Int64) : (0 < lg_cmp x y) ↔ y.toInt < x.toInt := by
  unfold lg_cmp
  by_cases h1 : y < x
  · rw [if_pos h1]; rw [j_lt] at h1; constructor
    · intro h; exact h1
    · intro h; decide
  · rw [if_neg h1]; rw [j_lt] at h1
    by_cases h2 : x = y
    · rw [if_pos h2]; constructor
      · intro h; exact absurd h (by decide)
      · intro h; omega
    · rw [if_neg h2]; constructor
      · intro h; exact absurd h (by decide)
      · intro h; omega
theorem cmp_ge (x y : Int64) : (0 ≤ lg_cmp x y) ↔ y.toInt ≤ x.toInt := by
  have h1 := cmp_lt x y
  rw [i_lt] at h1; rw [i_le]
  have e : (0 : Int32).toInt = 0 := rfl
  omega
theorem cmp_le (x y : Int64) : (lg_cmp x y ≤ 0) ↔ x.toInt ≤ y.toInt := by
  have h1 := cmp_gt x y
  rw [i_lt] at h1; rw [i_le]
  have e : (0 : Int32).toInt = 0 := rfl
  omega
theorem cmp_eq (x y : Int64) : (lg_cmp x y = 0) ↔ x = y := by
  rw [j_eq, i_eq]
  have h1 := cmp_lt x y
  have h2 := cmp_gt x y
  rw [i_lt] at h1 h2
  have e : (0 : Int32).toInt = 0 := rfl
  omega
/-- an index below n -/
abbrev IX (x : Int32) (n : Nat) : Prop := 0 ≤ x.toInt ∧ x.toInt < n
theorem ix_of {x : Int32} {n : Nat} (h : IX x n) (hn : n < 2147483648) : ∃ k, k < n ∧ x = nI k := by
  refine ⟨x.toInt.toNat, by omega, ?_⟩
  rw [i_eq, nI_t (by omega)]
  omega
theorem ix_nI {k n : Nat} (hk : k < 2147483648) : IX (nI k) n ↔ k < n := by
  unfold IX; rw [nI_t hk]; omega
theorem cl_t (x : Int32) : (x.toNatClampNeg : Int) = max x.toInt 0 := by
  rw [← Int32.toNat_toInt]; omega
theorem cl_nI {n : Nat} (h : n < 2147483648) : (nI n).toNatClampNeg = n := nI_clamp h
theorem inR_ix {x : Int32} {n : Nat} : inR x n ↔ IX x n := by
  have h := cl_t x
  unfold inR IX
  rw [i_lt, show (0 : Int32).toInt = 0 from rfl]
  omega
theorem inR_nI {k n : Nat} (h : k < n) (hn : n < 2147483648) : inR (nI k) n := inR_ix.mpr ((ix_nI (by omega)).mpr h)
theorem in_spec (a b c : Int64) : f_X6_in a b c = some (b2 (b.toInt ≤ a.toInt ∧ a.toInt ≤ c.toInt)) := by
  unfold f_X6_in
  by_cases h1 : a.toInt < b.toInt
  · rw [if_pos ((cmp_lt a b).mpr h1), b2_f (by omega)]; rfl
  · rw [if_neg (fun z => h1 ((cmp_lt a b).mp z))]
    by_cases h2 : c.toInt < a.toInt
    · rw [if_pos ((cmp_gt a c).mpr h2), b2_f (by omega)]; rfl
    · rw [if_neg (fun z => h2 ((cmp_gt a c).mp z)), b2_t (by omega)]; rfl
/-! memory -/
theorem gI_sI (M : Mem) (k i c j : Nat) (v : Int32) : gI (sI M k i v) c j = if c = k ∧ j = i then v else gI M c j := by
  unfold gI sI upd
  by_cases h : c = k
  · subst h
    by_cases h2 : j = i <;> simp [h2]
  · simp [h]
theorem gJ_sI (M : Mem) (k i c j : Nat) (v : Int32) : gJ (sI M k i v) c j = gJ M c j := rfl
theorem gI_sJ (M : Mem) (k i c j : Nat) (v : Int64) : gI (sJ M k i v) c j = gI M c j := rfl
theorem gJ_sJ (M : Mem) (k i c j : Nat) (v : Int64) : gJ (sJ M k i v) c j = if c = k ∧ j = i then v else gJ M c j := by
  unfold gJ sJ vp_updL
  by_cases h : c = k
  · subst h
    by_cases h2 : j = i <;> simp [h2]
  · simp [h]
theorem gI_rI (M : Mem) (k c j : Nat) (f : Nat → Int32) : gI (rI M k f) c j = if c = k then f j else gI M c j := by
  unfold gI rI
  by_cases h : c = k <;> simp [h]
theorem gJ_rI (M : Mem) (k c j : Nat) (f : Nat → Int32) : gJ (rI M k f) c j = gJ M c j := rfl
theorem gI_rJ (M : Mem) (k c j : Nat) (f : Nat → Int64) : gI (rJ M k f) c j = gI M c j := rfl
theorem gJ_rJ (M : Mem) (k c j : Nat) (f : Nat → Int64) : gJ (rJ M k f) c j = if c = k then f j else gJ M c j := by
  unfold gJ rJ
  by_cases h : c = k <;> simp [h]
/-! loops -/
theorem lp_step {σ ε : Type} {f : σ → Option (σ ⊕ ε)} {n : Nat} {s t : σ} (h : f s = some (.inl t)) : lp f (n + 1) s = lp f n t := by
  rw [lp, h]
theorem lp_end {σ ε : Type} {f : σ → Option (σ ⊕ ε)} {n : Nat} {s : σ} {r : ε} (h : f s = some (.inr r)) : lp f (n + 1) s = some r := by
  rw [lp, h]
/-- a loop whose states are known one after the other -/
theorem lp_run {σ ε : Type} {f : σ → Option (σ ⊕ ε)} (st : Nat → σ) (n : Nat) {F : Nat} {r : ε} (hs : ∀ k, k < n → f (st k) = some (.inl (st (k + 1)))) (he : f (st n) = some (.inr r)) (hF : n < F) : lp f F (st 0) = some r := by
  have h : ∀ d k F, k + d = n → d < F → lp f F (st k) = some r := by
    intro d
    induction d with
    | zero =>
      intro k F hk hF
      obtain ⟨F, rfl⟩ : ∃ G, F = G + 1 := ⟨F - 1, by omega⟩
      have hk : k = n := by omega
      subst hk
      exact lp_end he
    | succ d ih =>
      intro k F hk hF
      obtain ⟨F, rfl⟩ : ∃ G, F = G + 1 := ⟨F - 1, by omega⟩
      rw [lp_step (hs k (by omega))]
      exact ih (k + 1) F (by omega) (by omega)
  exact h n 0 F (by omega) hF
theorem lp_go {σ ε β : Type} {f : σ → Option (σ ⊕ ε)} {s0 : σ} {k : ε → Option β} (st : Nat → σ) (n : Nat) {F : Nat} {r : ε} (h0 : s0 = st 0) (hs : ∀ k, k < n → f (st k) = some (.inl (st (k + 1)))) (he : f (st n) = some (.inr r)) (hF : n < F) : Option.bind (lp f F s0) k = k r := by
  rw [h0, lp_run st n hs he hF]; rfl
theorem FU_v : FU = 8192 := rfl
/-! masks -/
def ms (S : Nat → Bool) : Nat → Nat
  | 0 => 0
  | k + 1 => ms S k ||| (if S k then 2 ^ k else 0)
theorem tb_pow (k i : Nat) : (2 ^ k).testBit i = decide (k = i) := Nat.testBit_two_pow
theorem tb_ms (S : Nat → Bool) : ∀ (k i : Nat), (ms S k).testBit i = (decide (i < k) && S i) := by
  intro k
  induction k with
  | zero => intro i; simp [ms]
  | succ k ih =>
    intro i
    rw [ms, Nat.testBit_or, ih]
    by_cases h : i = k
    · subst h
      by_cases hS : S i <;> simp [hS, tb_pow]
    · by_cases hS : S k
      · simp only [hS, if_true, tb_pow]
        have : decide (k = i) = false := by simpa using fun q => h q.symm
        rw [this, Bool.or_false]
        congr 1
        simp
        omega
      · simp only [hS, Bool.false_eq_true, if_false, Nat.zero_testBit, Bool.or_false]
        congr 1
        simp
        omega
theorem ms_lt (S : Nat → Bool) (k : Nat) : ms S k < 2 ^ k := by
  refine Nat.lt_pow_two_of_testBit _ fun i hi => ?_
  rw [tb_ms]
  simp
  omega
theorem ms_ext {S T : Nat → Bool} {k : Nat} (h : ∀ i, i < k → S i = T i) : ms S k = ms T k := by
  refine Nat.eq_of_testBit_eq fun i => ?_
  rw [tb_ms, tb_ms]
  by_cases hi : i < k
  · rw [h i hi]
  · simp [hi]
theorem ms_widen {S : Nat → Bool} {k n : Nat} (hk : k ≤ n) (h : ∀ i, k ≤ i → S i = false) : ms S n = ms S k := by
  refine Nat.eq_of_testBit_eq fun i => ?_
  rw [tb_ms, tb_ms]
  by_cases hi : i < k
  · simp [hi, Nat.lt_of_lt_of_le hi hk]
  · rw [h i (by omega)]; simp
theorem ms_of {m k : Nat} (h : m < 2 ^ k) : ms (fun i => m.testBit i) k = m := by
  refine Nat.eq_of_testBit_eq fun i => ?_
  rw [tb_ms]
  by_cases hi : i < k
  · simp [hi]
  · have : m.testBit i = false := Nat.testBit_lt_two_pow (Nat.lt_of_lt_of_le h (Nat.pow_le_pow_right (by decide) (by omega)))
    simp [hi, this]
theorem nI_or (a b : Nat) : nI a ||| nI b = nI (a ||| b) := by
  apply Int32.toBitVec_inj.1
  show BitVec.ofNat 32 a ||| BitVec.ofNat 32 b = BitVec.ofNat 32 (a ||| b)
  apply BitVec.eq_of_getLsbD_eq
  intro i hi
  simp [hi]
theorem nI_and (a b : Nat) : nI a &&& nI b = nI (a &&& b) := by
  apply Int32.toBitVec_inj.1
  show BitVec.ofNat 32 a &&& BitVec.ofNat 32 b = BitVec.ofNat 32 (a &&& b)
  apply BitVec.eq_of_getLsbD_eq
  intro i hi
  simp [hi]
theorem nI_xor (a b : Nat) : nI a ^^^ nI b = nI (a ^^^ b) := by
  apply Int32.toBitVec_inj.1
  show BitVec.ofNat 32 a ^^^ BitVec.ofNat 32 b = BitVec.ofNat 32 (a ^^^ b)
  apply BitVec.eq_of_getLsbD_eq
  intro i hi
  simp [hi]
theorem sh1 : ∀ h, h < 31 → (1 : Int32) <<< (nI h &&& 31) = nI (2 ^ h) := by decide +kernel
/-- what is in a and not in b -/
def df (a b : Nat) : Nat := a ^^^ (a &&& b)
theorem tb_df (a b i : Nat) : (df a b).testBit i = (a.testBit i && !b.testBit i) := by
  unfold df
  rw [Nat.testBit_xor, Nat.testBit_and]
  cases a.testBit i <;> cases b.testBit i <;> rfl
theorem nI_df (a b : Nat) : nI a &&& (nI b ^^^ (-1)) = nI (df a b) := by
  apply Int32.toBitVec_inj.1
  show BitVec.ofNat 32 a &&& (BitVec.ofNat 32 b ^^^ (-1#32)) = BitVec.ofNat 32 (df a b)
  apply BitVec.eq_of_getLsbD_eq
  intro i hi
  have h1 : (-1#32).getLsbD i = true := (by decide +kernel : ∀ i, i < 32 → (-1#32).getLsbD i = true) i hi
  simp only [BitVec.getLsbD_and, BitVec.getLsbD_xor, BitVec.getLsbD_ofNat, hi, decide_true, Bool.true_and, h1, tb_df, Bool.xor_true]
theorem sm31 : ∀ h, h < 31 → ((nI h &&& 31).toBitVec.smod 32).toNat = h := by decide +kernel
theorem bit_at {m h : Nat} (hm : m < 2147483648) (hh : h < 31) : (nI m >>> (nI h &&& 31)) &&& 1 = b2 (m.testBit h = true) := by
  rw [pk_shrN hm _ h (sm31 h hh), show (1 : Int32) = nI 1 from rfl, nI_and, Nat.and_one_is_mod]
  by_cases hb : m.testBit h = true
  · rw [b2_t hb]
    rw [Nat.testBit_eq_decide_div_mod_eq] at hb
    simp at hb
    rw [hb]; rfl
  · rw [b2_f hb]
    rw [Nat.testBit_eq_decide_div_mod_eq] at hb
    simp at hb
    rw [hb]; rfl
/-- how many of the first k -/
def ct (S : Nat → Bool) : Nat → Nat
  | 0 => 0
  | k + 1 => ct S k + (if S k then 1 else 0)
def pc (m : Nat) : Nat := ct (fun i => m.testBit i) 12
theorem ct_le (S : Nat → Bool) : ∀ k, ct S k ≤ k := by
  intro k
  induction k with
  | zero => exact Nat.le_refl 0
  | succ k ih => rw [ct]; split <;> omega
theorem ct_ext {S T : Nat → Bool} : ∀ {k : Nat}, (∀ i, i < k → S i = T i) → ct S k = ct T k := by
  intro k
  induction k with
  | zero => intro _; rfl
  | succ k ih => intro h; rw [ct, ct, ih (fun i hi => h i (by omega)), h k (by omega)]
theorem pc_le (m : Nat) : pc m ≤ 12 := ct_le _ 12
theorem pc_ms (S : Nat → Bool) : pc (ms S 12) = ct S 12 := ct_ext fun i hi => by rw [tb_ms]; simp [hi]
theorem by64 {P : Nat → Prop} (h : ∀ a, a < 64 → ∀ b, b < 64 → P (64 * a + b)) : ∀ m, m < 4096 → P m := by
  intro m hm
  have := h (m / 64) (by omega) (m % 64) (by omega)
  rwa [Nat.div_add_mod] at this
theorem bc_spec0 : ∀ a, a < 64 → ∀ b, b < 64 → f_J6_bitCount_0f7a4 (nI (64 * a + b)) = some (nI (pc (64 * a + b))) := by decide +kernel
theorem bc_spec : ∀ m, m < 4096 → f_J6_bitCount_0f7a4 (nI m) = some (nI (pc m)) := by64 bc_spec0
theorem ones_spec0 : ∀ a, a < 64 → ∀ b, b < 64 → f_X6_ones (nI (64 * a + b)) = some (nI (pc (64 * a + b))) := by decide +kernel
theorem ones_spec : ∀ m, m < 4096 → f_X6_ones (nI m) = some (nI (pc m)) := by64 ones_spec0
