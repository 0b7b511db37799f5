/-! PURE: write, copy -/
section WRITE
variable {M N M2 N2 : Mem} {a : AR}
def narV (b : Nat) (v : Int64) : Int64 := if b = 8 then v.toInt32.toInt8.toInt32.toInt64 else if b = 16 then v.toInt32.toInt16.toInt32.toInt64 else v
theorem X2_put {s b i : Nat} (hs : s < 4) (hi : i < 40) (hb : gI M (27 + 2 * s) 1 = nI b) (hb2 : b ≤ 64) (v : Int64) : f_X2_put s (nI i) v M = some (sJ M (27 + 2 * s + 1) i (narV b v)) := by
  unfold f_X2_put narV
  have g := inR_nI hi (by decide : 40 < 2147483648)
  simp only [if_pos g, bn_e, cl_nI (show i < 2147483648 by omega), hb, bnd_id]
  by_cases e8 : b = 8
  · have g8 : nI b = 8 := by rw [e8]; rfl
    rw [if_pos g8, if_pos e8]
  · have g8 : ¬ nI b = 8 := fun q => e8 ((nI_eq (b := 8) (by omega) (by decide)).mp q)
    rw [if_neg g8, if_neg e8]
    by_cases e16 : b = 16
    · have g16 : nI b = 16 := by rw [e16]; rfl
      rw [if_pos g16, if_pos e16]
    · have g16 : ¬ nI b = 16 := fun q => e16 ((nI_eq (b := 16) (by omega) (by decide)).mp q)
      rw [if_neg g16, if_neg e16]
theorem X6_narrowed {b : Nat} (hb2 : b ≤ 64) (v : Int64) : f_X6_narrowed (nI b) v = some (narV b v) := by
  unfold f_X6_narrowed narV
  simp only [bnd_id]
  by_cases e8 : b = 8
  · have g8 : nI b = 8 := by rw [e8]; rfl
    rw [if_pos g8, if_pos e8]
  · have g8 : ¬ nI b = 8 := fun q => e8 ((nI_eq (b := 8) (by omega) (by decide)).mp q)
    rw [if_neg g8, if_neg e8]
    by_cases e16 : b = 16
    · have g16 : nI b = 16 := by rw [e16]; rfl
      rw [if_pos g16, if_pos e16]
    · have g16 : ¬ nI b = 16 := fun q => e16 ((nI_eq (b := 16) (by omega) (by decide)).mp q)
      rw [if_neg g16, if_neg e16]
/-- a number of a sheet is changed on both sides -/
theorem Rel.num (h : Rel M N) {s i : Nat} (hs : s < 4) (hi : i < 40) (v : Int64) : Rel (sJ M (27 + 2 * s + 1) i v) (sJ N 46 (40 * s + i) v) := by
  refine h.sheet (fun _ _ _ => rfl) (fun _ _ _ _ => rfl) ?_
  intro r hr
  obtain ⟨b, z, q1, q2, q3, q4, q5, q6, q7, q8⟩ := h.2.2.2.2 r hr
  refine ⟨b, z, q1, q2, q3, q4, q5, q6, q7, fun j hj => ?_⟩
  rw [gJ_sJ, gJ_sJ]
  by_cases e : r = s ∧ j = i
  · rw [if_pos (by omega), if_pos (by omega)]
  · rw [if_neg (by omega), if_neg (by omega)]; exact q8 j hj
theorem sameL_find (h : Rel M N) {v : Int32} (i : Nat) (hi : i < 7) (hv : (-1000000001) - v = nI i) : SameL (Option.bind (f_X5_told v M) (fun r : Int32 × Mem => some (r.1.toInt64, r.2))) (Option.bind (f_X6_finds v N) (fun r : Int32 × Mem => some (r.1.toInt64, r.2))) := by
  rw [told_spec hi hv, finds_spec hi hv]
  exact ⟨_, _, _, rfl, rfl, h.find hi⟩
theorem p_write (h : Rel M N) (x y : Int32) (v : Int64) : SameL (f_X5_write x y v M) (f_X6_write x y v N) := by
  unfold f_X5_write f_X6_write
  by_cases hx : IX x 4
  · obtain ⟨s, hs, rfl⟩ := ix_of hx (by decide)
    have g := inR_nI hs (by decide : 4 < 2147483648)
    obtain ⟨b, z, q1, q2, q3, q4, q5, q6, q7, q8⟩ := h.2.2.2.2 s hs
    have hb : b ≤ 64 := by omega
    rw [fas_yes hs q1 hb, ws_yes hs q2 hb]
    simp only [Option.bind_some]
    by_cases e : b = 0
    · simp only [if_pos e]
      have n : ¬ (-1000000006 : Int32) = 0 := by decide
      rw [if_neg n, if_neg n]
      exact sameL_find h 5 (by decide) m1_6
    · simp only [if_neg e, if_true, if_pos g, bn_e, cl_nI (show s < 2147483648 by omega), q4, q5, q2]
      rw [in_ix y z]
      · simp only [Option.bind_some, b2_0]
        by_cases hy : IX y z
        · obtain ⟨i, hi, rfl⟩ := ix_of hy (by omega)
          have gi : inR (nI i) 40 := inR_nI (by omega) (by decide)
          have g1 : ¬ nI i < 0 := nI_pos (by omega)
          have g2 : nI i < nI z := nI_lt hi (by omega)
          have g3 : inR (nI (40 * s + i)) 160 := inR_nI (by omega) (by decide)
          simp only [if_neg (not_not_intro hy), if_neg g1, if_pos g2, if_pos gi, sh_ix, if_pos g3, cl_nI (show i < 2147483648 by omega), cl_nI (show 40 * s + i < 2147483648 by omega), X2_put hs (show i < 40 by omega) q1 hb, X6_narrowed hb, Option.bind_some]
          exact ⟨_, _, _, rfl, by rw [q8 i (by omega)], h.num hs (by omega) _⟩
        · rw [if_pos hy]
          have key : (if y < 0 then Option.bind (f_X5_told (-1000000001) M) (fun r44 : Int32 × Mem => some (r44.1.toInt64, r44.2)) else if y < nI z then if inR y 40 then Option.bind (f_X2_put s y v M) (fun r62 : Mem => some (gJ M (27 + 2 * s + 1) y.toNatClampNeg, r62)) else none else Option.bind (f_X5_told (-1000000001) M) (fun r44 : Int32 × Mem => some (r44.1.toInt64, r44.2))) = Option.bind (f_X5_told (-1000000001) M) (fun r44 : Int32 × Mem => some (r44.1.toInt64, r44.2)) := by
            by_cases y0 : y < 0
            · rw [if_pos y0]
            · have y1 : ¬ y < nI z := by
                rw [i_lt] at y0 ⊢
                rw [nI_t (by omega)]
                have e0 : (0 : Int32).toInt = 0 := rfl
                unfold IX at hy
                omega
              rw [if_neg y0, if_neg y1]
          rw [key]
          exact sameL_find h 0 (by decide) m1_1
      · rw [i_j]
        rcases Nat.eq_zero_or_pos z with h0 | h0
        · rw [h0]; decide
        · rw [show nI z - 1 = nI (z - 1) from by
            have := nI_pred (z - 1); rwa [show z - 1 + 1 = z by omega] at this, nI_t (by omega)]
          omega
  · rw [fas_no M hx, ws_no N hx]
    simp only [Option.bind_some]
    have n : ¬ (-1000000001 : Int32) = 0 := by decide
    rw [if_neg n, if_neg n]
    exact sameL_find h 0 (by decide) m1_1
theorem X2_isMissing {s b : Nat} (hb : gI M (27 + 2 * s) 1 = nI b) (hb2 : b ≤ 64) : f_X2_isMissing s M = some (b2 (b = 0)) := by
  unfold f_X2_isMissing
  rw [hb]
  by_cases e : b = 0
  · subst e; rfl
  · have g : ¬ nI b = 0 := nI_ne0 (by omega) (by omega)
    rw [if_neg g, b2_f e]; rfl
theorem X2_hasRun {s z : Nat} (hz : gI M (27 + 2 * s) 2 = nI z) (hz2 : z ≤ 40) (x n : Int32) : f_X2_hasRun s x n M = some (b2 (0 ≤ x.toInt ∧ 0 ≤ n.toInt ∧ x.toInt + n.toInt ≤ z)) := by
  unfold f_X2_hasRun
  rw [hz]
  have e0 : (0 : Int32).toInt = 0 := rfl
  have hxr := i_rng x
  have hnr := i_rng n
  by_cases h1 : x < 0
  · rw [if_pos h1, b2_f (by rw [i_lt] at h1; omega)]; rfl
  · rw [if_neg h1]
    by_cases h2 : n < 0
    · rw [if_pos h2, b2_f (by rw [i_lt] at h2; omega)]; rfl
    · rw [if_neg h2]
      rw [i_lt] at h1 h2
      have es : (nI z - n).toInt = (z : Int) - n.toInt := by
        rw [Int32.toInt_sub, nI_t (by omega), Int.bmod_def]
        split <;> omega
      by_cases h3 : nI z - n < x
      · rw [if_pos h3, b2_f (by rw [i_lt, es] at h3; omega)]; rfl
      · rw [if_neg h3, b2_t (by rw [i_lt, es] at h3; omega)]; rfl
/-- the reference's copy: first to the row aside -/
def mvJ (N : Mem) (b : Nat) : Nat → Mem
  | 0 => N
  | k + 1 => sJ (mvJ N b k) 47 k (gJ (mvJ N b k) 46 (b + k))
theorem gJ_mvJ (N : Mem) (b : Nat) : ∀ (k c j : Nat), gJ (mvJ N b k) c j = if c = 47 ∧ j < k then gJ N 46 (b + j) else gJ N c j := by
  intro k
  induction k with
  | zero => intro c j; rw [if_neg (by omega)]; rfl
  | succ k ih =>
    intro c j
    rw [mvJ, gJ_sJ, ih, ih]
    by_cases h1 : c = 47 ∧ j = k
    · rw [if_pos h1, if_neg (by omega), if_pos (by omega), h1.2]
    · rw [if_neg h1]
      exact if_c (by omega) _ _
theorem gI_mvJ (N : Mem) (b : Nat) : ∀ (k c j : Nat), gI (mvJ N b k) c j = gI N c j := by
  intro k
  induction k with
  | zero => intro c j; rfl
  | succ k ih => intro c j; rw [mvJ, gI_sJ, ih]
def bkJ (N : Mem) (b : Nat) : Nat → Mem
  | 0 => N
  | k + 1 => sJ (bkJ N b k) 46 (b + k) (gJ (bkJ N b k) 47 k)
theorem gJ_bkJ (N : Mem) (b : Nat) : ∀ (k c j : Nat), gJ (bkJ N b k) c j = if c = 46 ∧ b ≤ j ∧ j < b + k then gJ N 47 (j - b) else gJ N c j := by
  intro k
  induction k with
  | zero => intro c j; rw [if_neg (by omega)]; rfl
  | succ k ih =>
    intro c j
    rw [bkJ, gJ_sJ, ih, ih]
    by_cases h1 : c = 46 ∧ j = b + k
    · rw [if_pos h1, if_neg (by omega), if_pos (by omega), h1.2]; congr 1; omega
    · rw [if_neg h1]
      exact if_c (by omega) _ _
theorem gI_bkJ (N : Mem) (b : Nat) : ∀ (k c j : Nat), gI (bkJ N b k) c j = gI N c j := by
  intro k
  induction k with
  | zero => intro c j; rfl
  | succ k ih => intro c j; rw [bkJ, gI_sJ, ih]
theorem copy_1 (N : Mem) {s f n : Nat} (hs : s < 4) (hf : f + n ≤ 40) {β : Type} (k : Mem → Option β) : Option.bind (lp (f_X6_copy_L120 (nI n) (nI s) (nI f)) FU (0, N)) k = k (mvJ N (40 * s + f) n) := by
  refine lp_go (r := mvJ N (40 * s + f) n) (fun k => (nI k, mvJ N (40 * s + f) k)) n rfl (fun k hk => ?_) ?_ (by rw [FU_v]; omega)
  · unfold f_X6_copy_L120
    dsimp only
    rw [if_neg (nI_ge hk (by omega)), sh_ix, nI_add, if_pos (inR_nI (by omega) (by decide)), if_pos (inR_nI (by omega) (by decide)), cl_nI (by omega), cl_nI (by omega), nI_1]
    rfl
  · unfold f_X6_copy_L120
    dsimp only
    rw [if_pos (nI_le (Nat.le_refl n) (by omega))]
theorem copy_2 (N : Mem) {s f n : Nat} (hs : s < 4) (hf : f + n ≤ 40) {β : Type} (k : Mem → Option β) : Option.bind (lp (f_X6_copy_L157 (nI n) (nI s) (nI f)) FU (0, N)) k = k (bkJ N (40 * s + f) n) := by
  refine lp_go (r := bkJ N (40 * s + f) n) (fun k => (nI k, bkJ N (40 * s + f) k)) n rfl (fun k hk => ?_) ?_ (by rw [FU_v]; omega)
  · unfold f_X6_copy_L157
    dsimp only
    rw [if_neg (nI_ge hk (by omega)), sh_ix, nI_add, if_pos (inR_nI (by omega) (by decide)), if_pos (inR_nI (by omega) (by decide)), cl_nI (by omega), cl_nI (by omega), nI_1]
    rfl
  · unfold f_X6_copy_L157
    dsimp only
    rw [if_pos (nI_le (Nat.le_refl n) (by omega))]
theorem Rel.copy (h : Rel M N) {s t f o n : Nat} (hs : s < 4) (ht : t < 4) (hf : f + n ≤ 40) (ho : o + n ≤ 40) : Rel (rJ M (27 + 2 * t + 1) (va_cpy (M.2 (27 + 2 * s + 1)) (M.2 (27 + 2 * t + 1)) f o n)) (bkJ (mvJ N (40 * s + f) n) (40 * t + o) n) := by
  refine h.sheet (fun _ _ _ => rfl) (fun k j _ _ => by rw [gI_bkJ, gI_mvJ]) ?_
  intro r hr
  obtain ⟨b, z, q1, q2, q3, q4, q5, q6, q7, q8⟩ := h.2.2.2.2 r hr
  refine ⟨b, z, q1, by rw [gI_bkJ, gI_mvJ]; exact q2, q3, q4, by rw [gI_bkJ, gI_mvJ]; exact q5, q6, q7, fun j hj => ?_⟩
  rw [gJ_rJ, gJ_bkJ]
  by_cases e : r = t
  · subst e
    rw [if_pos rfl]
    unfold va_cpy
    by_cases e2 : o ≤ j ∧ j < o + n
    · rw [if_pos e2, if_pos (by omega), gJ_mvJ, if_pos (by omega)]
      obtain ⟨b', z', p1, p2, p3, p4, p5, p6, p7, p8⟩ := h.2.2.2.2 s hs
      show gJ M (27 + 2 * s + 1) (f + (j - o)) = _
      rw [p8 _ (by omega)]
      congr 1
      omega
    · rw [if_neg e2, if_neg (by omega), gJ_mvJ, if_neg (by omega)]
      exact q8 j hj
  · rw [if_neg (by omega), if_neg (by omega), gJ_mvJ, if_neg (by omega)]
    exact q8 j hj
theorem p_copy (h : Rel M N) (x f y o n : Int32) : Same (f_X5_copy x f y o n M) (f_X6_copy x f y o n N) := by
  unfold f_X5_copy f_X6_copy
  rw [X5_isSheet, X5_isSheet, X6_isOne, X6_isOne]
  simp only [Option.bind_some, bnd_eta, b2_0]
  by_cases hx : IX x 4
  · obtain ⟨s, hs, rfl⟩ := ix_of hx (by decide)
    have g := inR_nI hs (by decide : 4 < 2147483648)
    simp only [if_neg (not_not_intro hx)]
    by_cases hy : IX y 4
    · obtain ⟨t, ht, rfl⟩ := ix_of hy (by decide)
      have gt := inR_nI ht (by decide : 4 < 2147483648)
      obtain ⟨b, z, q1, q2, q3, q4, q5, q6, q7, q8⟩ := h.2.2.2.2 s hs
      obtain ⟨b', z', p1, p2, p3, p4, p5, p6, p7, p8⟩ := h.2.2.2.2 t ht
      simp only [if_neg (not_not_intro hy), if_pos g, if_pos gt, bn_e, cl_nI (show s < 2147483648 by omega), cl_nI (show t < 2147483648 by omega), X2_isMissing q1 (show b ≤ 64 by omega), X2_isMissing p1 (show b' ≤ 64 by omega), Option.bind_some, b2_0, q1, q2, p1, p2, q5, p5, X2_hasRun q4 q6, X2_hasRun p4 p6]
      by_cases eb : b = 0
      · have g1 : nI b = 0 := by rw [eb]; rfl
        rw [if_neg (not_not_intro eb), if_pos g1]
        exact same_find h 5 (by decide) m1_6
      · have g1 : ¬ nI b = 0 := nI_ne0 (by omega) (by omega)
        rw [if_pos eb, if_neg g1]
        by_cases eb' : b' = 0
        · have g2 : nI b' = 0 := by rw [eb']; rfl
          rw [if_neg (not_not_intro eb'), if_pos g2]
          exact same_find h 5 (by decide) m1_6
        · have g2 : ¬ nI b' = 0 := nI_ne0 (by omega) (by omega)
          rw [if_pos eb', if_neg g2]
          by_cases ee : b = b'
          · have g3 : nI b = nI b' := by rw [ee]
            rw [if_pos g3, if_pos g3]
            have e0 : (0 : Int32).toInt = 0 := rfl
            have hfr := i_rng f
            have hor := i_rng o
            have hnr := i_rng n
            by_cases c1 : 0 ≤ f.toInt ∧ 0 ≤ n.toInt ∧ f.toInt + n.toInt ≤ z
            · rw [if_neg (not_not_intro c1)]
              by_cases c2 : 0 ≤ o.toInt ∧ 0 ≤ n.toInt ∧ o.toInt + n.toInt ≤ z'
              · rw [if_neg (not_not_intro c2)]
                obtain ⟨F, hF, rfl⟩ := ix_of (x := f) (n := 41) ⟨by omega, by omega⟩ (by decide)
                obtain ⟨O', hO, rfl⟩ := ix_of (x := o) (n := 41) ⟨by omega, by omega⟩ (by decide)
                obtain ⟨n', hn, rfl⟩ := ix_of (x := n) (n := 41) ⟨by omega, by omega⟩ (by decide)
                rw [nI_t (by omega), nI_t (by omega)] at c1 c2
                have k1 : ¬ nI F < 0 := nI_pos (by omega)
                have k2 : ¬ nI O' < 0 := nI_pos (by omega)
                have k3 : ¬ nI n' < 0 := nI_pos (by omega)
                have k4 : ¬ nI z - nI F < nI n' := by
                  rw [pk_sub (by omega)]; exact nI_nlt (by omega) (by omega)
                have k5 : nI n' ≤ nI z' - nI O' := by
                  rw [pk_sub (by omega)]; exact nI_le (by omega) (by omega)
                have k6 : ¬ nI F < 0 ∧ ¬ nI O' < 0 ∧ ¬ nI n' < 0 ∧ (nI F).toNatClampNeg + (nI n').toNatClampNeg ≤ 40 ∧ (nI O').toNatClampNeg + (nI n').toNatClampNeg ≤ 40 := by
                  rw [cl_nI (by omega), cl_nI (by omega), cl_nI (by omega)]
                  exact ⟨k1, k2, k3, by omega, by omega⟩
                rw [if_neg k1, if_neg k2, if_neg k3, if_neg k4, if_pos k5, if_pos k6, cl_nI (by omega), cl_nI (by omega), cl_nI (by omega), copy_1 N hs (by omega), copy_2 _ ht (by omega)]
                exact ⟨_, _, _, rfl, rfl, h.copy hs ht (by omega) (by omega)⟩
              · rw [if_pos c2]
                by_cases d1 : o < 0
                · have d0 : ¬ f < 0 := by rw [i_lt]; omega
                  rw [if_neg d0, if_pos d1]; exact same_find h 0 (by decide) m1_1
                · have d0 : ¬ f < 0 := by rw [i_lt]; omega
                  have d2 : ¬ n < 0 := by rw [i_lt]; omega
                  rw [i_lt] at d1
                  have es : (nI z - f).toInt = (z : Int) - f.toInt := by
                    rw [Int32.toInt_sub, nI_t (by omega), Int.bmod_def]
                    split <;> omega
                  have es' : (nI z' - o).toInt = (z' : Int) - o.toInt := by
                    rw [Int32.toInt_sub, nI_t (by omega), Int.bmod_def]
                    split <;> omega
                  have d3 : ¬ nI z - f < n := by rw [i_lt, es]; omega
                  have d4 : ¬ n ≤ nI z' - o := by rw [i_le, es']; omega
                  rw [if_neg d0, if_neg (by rw [i_lt]; exact d1), if_neg d2, if_neg d3, if_neg d4]
                  exact same_find h 0 (by decide) m1_1
            · rw [if_pos c1]
              have key : ∀ (A B C D : Prop) [Decidable A] [Decidable B] [Decidable C] [Decidable D] (X Y Z : Option (Int32 × Mem)), (A ∨ B ∨ C ∨ D) → (if A then X else if B then X else if C then X else if D then X else Y) = X := by
                intro A B C D _ _ _ _ X Y Z q
                by_cases a1 : A
                · rw [if_pos a1]
                · rw [if_neg a1]
                  by_cases b1 : B
                  · rw [if_pos b1]
                  · rw [if_neg b1]
                    by_cases c1 : C
                    · rw [if_pos c1]
                    · rw [if_neg c1]
                      by_cases d1 : D
                      · rw [if_pos d1]
                      · exact absurd q (by simp [a1, b1, c1, d1])
              rw [key (f < 0) (o < 0) (n < 0) (nI z - f < n) _ _ none]
              · exact same_find h 0 (by decide) m1_1
              · by_cases d0 : f < 0
                · exact Or.inl d0
                · by_cases d2 : n < 0
                  · exact Or.inr (Or.inr (Or.inl d2))
                  · refine Or.inr (Or.inr (Or.inr ?_))
                    rw [i_lt] at d0 d2
                    have es : (nI z - f).toInt = (z : Int) - f.toInt := by
                      rw [Int32.toInt_sub, nI_t (by omega), Int.bmod_def]
                      split <;> omega
                    rw [i_lt, es]
                    omega
          · have g3 : ¬ nI b = nI b' := fun q => ee ((nI_eq (by omega) (by omega)).mp q)
            rw [if_neg g3, if_neg g3]
            exact same_find h 2 (by decide) (by decide)
    · simp only [if_pos hy]
      exact same_find h 0 (by decide) m1_1
  · simp only [if_pos hx]
    exact same_find h 0 (by decide) m1_1
end WRITE
