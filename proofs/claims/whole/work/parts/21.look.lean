/-! PURE: the class's look at who is tangled with whom -/
section LOOK
variable {M N : Mem} {a : AR}
theorem X5_contains {m h : Nat} (hm : m < 2147483648) (hh : h < 31) : f_X5_contains (nI m) (nI h) = some (b2 (m.testBit h = true)) := by
  unfold f_X5_contains
  rw [bit_at hm hh]
  by_cases e : m.testBit h = true
  · rw [b2_t e]; rfl
  · rw [b2_f e]; rfl
theorem X0_alike {m h : Nat} (hm : m < 2147483648) (hh : h < 31) : f_X0_alike (nI h) (nI m) = some (if m.testBit h = true then nI m else nI m ^^^ (-1)) := by
  unfold f_X0_alike
  rw [X5_contains hm hh]
  simp only [Option.bind_some, b2_0, bnd_id]
  by_cases e : m.testBit h = true
  · rw [if_neg (not_not_intro e), if_pos e]
  · rw [if_pos e, if_neg e]
theorem xx1 (x : Int32) : (x ^^^ (-1)) ^^^ (-1) = x := by
  rw [Int32.xor_assoc, Int32.xor_self, Int32.xor_zero]
/-- those of s that face as h does, those of o that don't (m: who faces 1) -/
def nfM (m s o h : Nat) : Nat := if m.testBit h = true then (s &&& m) ||| df o m else df s m ||| (o &&& m)
theorem tb_nf (m s o h i : Nat) : (nfM m s o h).testBit i = if m.testBit h == m.testBit i then s.testBit i else o.testBit i := by
  unfold nfM
  cases e : m.testBit h with
  | true =>
    rw [if_pos rfl, Nat.testBit_or, Nat.testBit_and, tb_df]
    cases m.testBit i <;> simp
  | false =>
    rw [if_neg (by decide), Nat.testBit_or, Nat.testBit_and, tb_df]
    cases m.testBit i <;> simp
theorem nf_eq {m s o h : Nat} : (nI s &&& (if m.testBit h = true then nI m else nI m ^^^ (-1))) ||| (nI o &&& ((if m.testBit h = true then nI m else nI m ^^^ (-1)) ^^^ (-1))) = nI (nfM m s o h) := by
  unfold nfM
  by_cases e : m.testBit h = true
  · simp only [if_pos e]
    rw [nI_and, nI_df, nI_or]
  · simp only [if_neg e]
    rw [xx1, nI_and, nI_df, nI_or]
theorem X3_nearFacing {m s o h : Nat} (hm : m < 2147483648) (hh : h < 12) (h1 : gI M 20 h = nI s) (h2 : gI M 21 h = nI o) : f_X3_nearFacing (nI h) (nI m) M = some (nI (nfM m s o h)) := by
  unfold f_X3_nearFacing
  rw [X0_alike hm (by omega)]
  simp only [Option.bind_some]
  rw [if_pos (inR_nI hh (by decide)), if_pos (inR_nI hh (by decide)), cl_nI (by omega), h1, h2, nf_eq]
theorem X0_tangledWith (hw : WF a) (hc : CR M 1 a) {h k p : Nat} (hh : h < aN a) (hk : k < 6) (hp : p < 24) : f_X0_tangledWith (nI h) (nI k) (nI p) M = some (nI (ms (tanW a h k p) 12)) := by
  have hn := hw.1
  unfold f_X0_tangledWith
  have E1 : f_X0_tangledIf (nI h) (nI k) (nI p) 1 M = _ := X0_tangledIf hw hc hh hk hp true
  have E0 : f_X0_tangledIf (nI h) (nI k) (nI p) 0 M = _ := X0_tangledIf hw hc hh hk hp false
  rw [C_bk hc, X0_alike (Nat.lt_trans (ms12 _) (by decide)) (by omega), E1, E0]
  simp only [Option.bind_some, bn_e]
  rw [nf_eq]
  refine congrArg some (congrArg nI (Nat.eq_of_testBit_eq fun i => ?_))
  rw [tb_nf, tb_ms, tb_ms, tb_ms, tb_ms, tb_ms]
  by_cases e : i < 12
  · have d1 : decide (i < 12) = true := by simpa using e
    have d2 : decide (h < 12) = true := by simp; omega
    rw [d1, d2, Bool.true_and, Bool.true_and, Bool.true_and, Bool.true_and, Bool.true_and, tanW_tIf]
    cases aFc a h <;> cases aFc a i <;> rfl
  · have d1 : decide (i < 12) = false := by simpa using e
    rw [d1]
    simp
/-- the rows same and other of the class -/
def sA (a : AR) (s : Bool) (h : Nat) : Nat := match aPl a h with
  | none => 0
  | some p => ms (tIf a h (aKd a h) p s) 12
theorem sA_lt (a : AR) (s : Bool) (h : Nat) : sA a s h < 4096 := by
  unfold sA
  cases aPl a h with
  | none => exact (by decide : 0 < 4096)
  | some p => exact ms12 _
/-- who is tangled with h, if those of m face 1 -/
def nr (a : AR) (m h : Nat) : Nat := nfM m (sA a true h) (sA a false h) h
theorem nr_lt (a : AR) (m h : Nat) : nr a m h < 4096 := by
  refine Nat.lt_pow_two_of_testBit (n := 12) _ fun i hi => ?_
  unfold nr
  rw [tb_nf]
  have h1 : (sA a true h).testBit i = false := Nat.testBit_lt_two_pow (Nat.lt_of_lt_of_le (sA_lt a true h) (Nat.pow_le_pow_right (by decide) hi : 2 ^ 12 ≤ 2 ^ i))
  have h2 : (sA a false h).testBit i = false := Nat.testBit_lt_two_pow (Nat.lt_of_lt_of_le (sA_lt a false h) (Nat.pow_le_pow_right (by decide) hi : 2 ^ 12 ≤ 2 ^ i))
  rw [h1, h2]; simp
/-- the same rail with other facings -/
def wF (a : AR) (S : Nat → Bool) : AR := (aN a, aMv a, aPr a, aKd a, aPl a, S, aSl a, aFe a)
theorem nr_tm (hw : WF a) (S : Nat → Bool) {h : Nat} (hh : h < 12) : nr a (ms S 12) h = tm (wF a S) h := by
  unfold nr tm
  refine Nat.eq_of_testBit_eq fun i => ?_
  rw [tb_nf, tb_ms, tb_ms, tb_ms]
  have d2 : decide (h < 12) = true := by simpa using hh
  rw [d2, Bool.true_and]
  unfold tan sA
  show _ = (decide (i < 12) && (match aPl a h with | none => false | some p => tanW (wF a S) h (aKd a h) p i))
  cases aPl a h with
  | none => simp
  | some p =>
    dsimp only
    rw [tb_ms, tb_ms]
    by_cases e : i < 12
    · have d1 : decide (i < 12) = true := by simpa using e
      rw [d1, Bool.true_and, Bool.true_and, Bool.true_and, Bool.true_and, tanW_tIf]
      show _ = tIf a h (aKd a h) p (S h == S i) i
      cases S h <;> cases S i <;> rfl
    · have d1 : decide (i < 12) = false := by simpa using e
      rw [d1]; simp
theorem wF_self (a : AR) : wF a (aFc a) = a := rfl
/-- the class's memory behind look -/
def lkm (a : AR) (M : Mem) : Nat → Mem
  | 0 => M
  | k + 1 => sI (sI (sI (lkm a M k) 20 k (nI (sA a true k))) 21 k (nI (sA a false k))) 22 k (nI (tm a k))
theorem gI_lkm (a : AR) (M : Mem) : ∀ (k c j : Nat), gI (lkm a M k) c j = if c = 20 ∧ j < k then nI (sA a true j) else if c = 21 ∧ j < k then nI (sA a false j) else if c = 22 ∧ j < k then nI (tm a j) else gI M c j := by
  intro k
  induction k with
  | zero => intro c j; rw [if_neg (by omega), if_neg (by omega), if_neg (by omega)]; rfl
  | succ k ih =>
    intro c j
    rw [lkm, gI_sI, gI_sI, gI_sI, ih]
    by_cases hj : j = k
    · subst hj
      by_cases h0 : c = 20
      · subst h0; simp
      · by_cases h1 : c = 21
        · subst h1; simp
        · by_cases h2 : c = 22
          · subst h2; simp
          · simp [h0, h1, h2]
    · have e : j < k + 1 ↔ j < k := by omega
      simp only [hj, and_false, if_false, e]
theorem gJ_lkm (a : AR) (M : Mem) : ∀ (k c j : Nat), gJ (lkm a M k) c j = gJ M c j := by
  intro k
  induction k with
  | zero => intro c j; rfl
  | succ k ih => intro c j; rw [lkm, gJ_sI, gJ_sI, gJ_sI, ih]
theorem lkm_o (a : AR) (M : Mem) {k c j : Nat} (h : c < 20 ∨ 22 < c) : gI (lkm a M k) c j = gI M c j := by
  rw [gI_lkm, if_neg (by omega), if_neg (by omega), if_neg (by omega)]
theorem C_lkm (hc : CR M 1 a) (k : Nat) : CR (lkm a M k) 1 a := hc.of (fun c j q1 q2 => lkm_o a M (by omega))
theorem CO_lkm (a : AR) (M : Mem) (k : Nat) : CO M (lkm a M k) := ⟨fun c j q => lkm_o a M (by omega), fun c j => gJ_lkm a M k c j⟩
abbrev LK (a : AR) (M : Mem) : Mem := lkm a M 12
theorem LK_20 (a : AR) (M : Mem) {h : Nat} (hh : h < 12) : gI (LK a M) 20 h = nI (sA a true h) := by rw [gI_lkm, if_pos ⟨rfl, hh⟩]
theorem LK_21 (a : AR) (M : Mem) {h : Nat} (hh : h < 12) : gI (LK a M) 21 h = nI (sA a false h) := by rw [gI_lkm, if_neg (by omega), if_pos ⟨rfl, hh⟩]
theorem LK_22 (a : AR) (M : Mem) {h : Nat} (hh : h < 12) : gI (LK a M) 22 h = nI (tm a h) := by rw [gI_lkm, if_neg (by omega), if_neg (by omega), if_pos ⟨rfl, hh⟩]
theorem X3_look (hw : WF a) (hc : CR M 1 a) : f_X3_look_1 M = some (LK a M) := by
  unfold f_X3_look_1
  refine (lp_go (r := LK a M) (fun k => (nI k, lkm a M k)) 12 rfl ?_ rfl (by rw [FU_v]; omega)).trans rfl
  intro k hk
  unfold f_X3_look_1_L2
  dsimp only
  have g : ¬ (12 : Int32) ≤ nI k := nI_ge (a := k) (b := 12) hk (by decide)
  have gk : inR (nI k) 12 := inR_nI hk (by decide)
  have hck := C_lkm hc k
  simp only [if_neg g, if_pos gk, cl_nI (show k < 2147483648 by omega), X0_isUp hw hck hk, Option.bind_some, bn_e, b2_0, C_pl hck hk, bnd_id]
  have hck2 : ∀ v, CR (sI (lkm a M k) 20 k v) 1 a := fun v => hck.of (fun c j q1 q2 => by rw [gI_sI, if_neg (by omega)])
  have E : (if ¬ (aPl a k).isSome = true then some 0 else f_X0_tangledIf (nI k) (gI (lkm a M k) 2 k) (pv (aPl a k)) 1 (lkm a M k)) = some (nI (sA a true k)) := by
    unfold sA
    cases e : aPl a k with
    | none => rfl
    | some p =>
      obtain ⟨h1, h2⟩ := hw.2.2.2.2.1 k p e
      have hS : (some p).isSome = true := rfl
      rw [if_neg (not_not_intro hS), C_kd hck h1]
      exact X0_tangledIf hw hck h1 (by have := (hw.2.2.2.1 k h1).1; omega) h2 true
  rw [E]
  simp only [Option.bind_some]
  have E2 : (if ¬ (aPl a k).isSome = true then some 0 else f_X0_tangledIf (nI k) (gI (lkm a M k) 2 k) (pv (aPl a k)) 0 (sI (lkm a M k) 20 k (nI (sA a true k)))) = some (nI (sA a false k)) := by
    unfold sA
    cases e : aPl a k with
    | none => rfl
    | some p =>
      obtain ⟨h1, h2⟩ := hw.2.2.2.2.1 k p e
      have hS : (some p).isSome = true := rfl
      rw [if_neg (not_not_intro hS), C_kd hck h1]
      exact X0_tangledIf hw (hck2 _) h1 (by have := (hw.2.2.2.1 k h1).1; omega) h2 false
  rw [E2]
  simp only [Option.bind_some]
  have E3 : f_X3_nearFacing (nI k) (gI (sI (sI (lkm a M k) 20 k (nI (sA a true k))) 21 k (nI (sA a false k))) 1 3) (sI (sI (lkm a M k) 20 k (nI (sA a true k))) 21 k (nI (sA a false k))) = some (nI (tm a k)) := by
    rw [gI_sI, if_neg (by omega), gI_sI, if_neg (by omega), C_bk hck, X3_nearFacing (s := sA a true k) (o := sA a false k) (Nat.lt_trans (ms12 _) (by decide)) hk]
    · have := nr_tm hw (aFc a) hk
      rw [wF_self] at this
      rw [← this]; rfl
    · rw [gI_sI, if_neg (by omega), gI_sI, if_pos ⟨rfl, rfl⟩]
    · rw [gI_sI, if_pos ⟨rfl, rfl⟩]
  rw [E3]
  simp only [Option.bind_some]
  rw [nI_1]
  rfl
theorem Rel.look (h : Rel M N) (hw : WF a) (hc : CR M 1 a) (hm : MR N 37 a) : Rel (LK a M) N := h.rail a hw (C_lkm hc 12) hm (CO_lkm a M 12) (NO.rf N)
/-- how many ends of pairs there are, if those of m face 1 -/
def en (a : AR) (m : Nat) : Nat := sm (fun h => pc (nr a m h)) 12
theorem en_le (a : AR) (m : Nat) : en a m ≤ 144 := by
  have : ∀ k, sm (fun h => pc (nr a m h)) k ≤ 12 * k := by
    intro k
    induction k with
    | zero => exact Nat.le_refl 0
    | succ k ih => rw [sm]; have := pc_le (nr a m k); omega
  exact this 12
theorem X3_pairs (a : AR) (M : Mem) {m : Nat} (hm : m < 2147483648) : f_X3_pairs (nI m) (LK a M) = some (nI (en a m / 2)) := by
  unfold f_X3_pairs
  have h2 := en_le a m
  refine (lp_go (r := nI (en a m)) (fun k => (nI (sm (fun h => pc (nr a m h)) k), nI k)) 12 rfl ?_ rfl (by rw [FU_v]; omega)).trans ?_
  · intro k hk
    unfold f_X3_pairs_L4
    dsimp only
    have g : ¬ (12 : Int32) ≤ nI k := nI_ge (a := k) (b := 12) hk (by decide)
    rw [if_neg g, X3_nearFacing hm hk (LK_20 a M hk) (LK_21 a M hk)]
    simp only [Option.bind_some]
    rw [show nfM m (sA a true k) (sA a false k) k = nr a m k from rfl, bc_spec _ (nr_lt a m k)]
    simp only [Option.bind_some, bn_e]
    rw [nI_add, nI_1]; rfl
  · show some (nI (en a m) / 2) = _
    rw [show (2 : Int32) = nI 2 from rfl, pk_div (by omega) (by decide) (by decide)]
theorem en_tm (hw : WF a) (S : Nat → Bool) : en a (ms S 12) = sm (fun h => pc (tm (wF a S) h)) 12 := sm_ext fun h hh => by rw [nr_tm hw S hh]
theorem tm_lt (a : AR) (h : Nat) : tm a h < 4096 := ms12 _
theorem tm_out (hw : WF a) {h : Nat} (hh : aN a ≤ h) : tm a h = 0 := by
  unfold tm
  have : ms (tan a h) 12 = ms (fun _ => false) 12 := ms_ext fun i _ => Bool.eq_false_iff.mpr fun q => by have := (tan_lt hw q).1; omega
  rw [this]; rfl
theorem sm_widen {f : Nat → Nat} {k : Nat} : ∀ {n : Nat}, k ≤ n → (∀ i, k ≤ i → f i = 0) → sm f n = sm f k := by
  intro n
  induction n with
  | zero => intro hk h; rw [show k = 0 by omega]
  | succ n ih =>
    intro hk h
    by_cases e : k = n + 1
    · rw [e]
    · rw [sm, ih (by omega) h, h n (by omega)]; rfl
theorem X6_pairs (hw : WF a) (hm : MR N 37 a) : f_X6_pairs N = some (nI (sm (fun h => pc (tm a h)) 12 / 2)) := by
  unfold f_X6_pairs
  have hn := hw.1
  have hle : sm (fun h => pc (tm a h)) 12 ≤ 144 := by
    have : ∀ k, sm (fun h => pc (tm a h)) k ≤ 12 * k := by
      intro k
      induction k with
      | zero => exact Nat.le_refl 0
      | succ k ih => rw [sm]; have := pc_le (tm a k); omega
    exact this 12
  have hwd : sm (fun h => pc (tm a h)) 12 = sm (fun h => pc (tm a h)) (aN a) := sm_widen hn (fun i hi => by show pc (tm a i) = 0; rw [tm_out hw hi]; rfl)
  refine (lp_go (r := nI (sm (fun h => pc (tm a h)) (aN a))) (fun k => (nI (sm (fun h => pc (tm a h)) k), nI k)) (aN a) rfl ?_ ?_ (by rw [FU_v]; omega)).trans ?_
  · intro k hk
    unfold f_X6_pairs_L4
    dsimp only
    rw [hm.1, if_neg (nI_ge hk (by omega)), X6_tangledWith hw hm hk]
    simp only [Option.bind_some]
    rw [ones_spec _ (tm_lt a k)]
    simp only [Option.bind_some, bn_e]
    rw [nI_add, nI_1]; rfl
  · unfold f_X6_pairs_L4
    dsimp only
    rw [hm.1, if_pos (nI_le (Nat.le_refl _) (by omega))]
  · show some (nI (sm (fun h => pc (tm a h)) (aN a)) / 2) = _
    rw [← hwd, show (2 : Int32) = nI 2 from rfl, pk_div (by omega) (by decide) (by decide)]
theorem pairs_now (hw : WF a) : en a (ms (aFc a) 12) = sm (fun h => pc (tm a h)) 12 := by
  rw [en_tm hw, wF_self]
end LOOK
