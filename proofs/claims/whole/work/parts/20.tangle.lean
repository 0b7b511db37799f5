/-! PURE: who catches whom -/
def ds (p q : Nat) : Nat := if p ≤ q then q - p else p - q
theorem ds_comm (p q : Nat) : ds p q = ds q p := by unfold ds; split <;> split <;> omega
def catK (k d : Nat) (s sh : Bool) : Bool :=
  if k = 0 then d == 1 && s
  else if k = 1 then (d == 1 || d == 2) && s
  else if k = 2 then false
  else if k = 3 then ((d == 1 || d == 2) && s) || d == 1
  else if k = 4 then (d == 1 || d == 2) && s && sh
  else if k = 5 then d == 1 && !s
  else false
theorem catK_far {k d : Nat} {s sh : Bool} (h : catK k d s sh = true) : d = 1 ∨ d = 2 := by
  unfold catK at h
  by_cases e1 : d = 1
  · exact Or.inl e1
  · by_cases e2 : d = 2
    · exact Or.inr e2
    · simp [e1, e2] at h
theorem isCatch_tt : ∀ k, k < 6 → ∀ d, d < 24 → f_X5_isCatch (nI k) (nI d) 1 1 = some (b2 (catK k d true true = true)) := by decide +kernel
theorem isCatch_tf : ∀ k, k < 6 → ∀ d, d < 24 → f_X5_isCatch (nI k) (nI d) 1 0 = some (b2 (catK k d true false = true)) := by decide +kernel
theorem isCatch_ft : ∀ k, k < 6 → ∀ d, d < 24 → f_X5_isCatch (nI k) (nI d) 0 1 = some (b2 (catK k d false true = true)) := by decide +kernel
theorem isCatch_ff : ∀ k, k < 6 → ∀ d, d < 24 → f_X5_isCatch (nI k) (nI d) 0 0 = some (b2 (catK k d false false = true)) := by decide +kernel
theorem X5_isCatch {k d : Nat} (hk : k < 6) (hd : d < 24) (s sh : Bool) : f_X5_isCatch (nI k) (nI d) (b2 (s = true)) (b2 (sh = true)) = some (b2 (catK k d s sh = true)) := by
  cases s <;> cases sh
  · exact isCatch_ff k hk d hd
  · exact isCatch_ft k hk d hd
  · exact isCatch_tf k hk d hd
  · exact isCatch_tt k hk d hd
def icX (y15 y38 r51 r144 : Int32) : Option Int32 := if r51 = 1 then Option.bind (if (2 : Int32) < y15 then some 0 else if y38 = 0 then some 0 else some 1) (fun y91 : Int32 => if zb y91 then some y91 else none) else if r51 = 2 then some 0 else if r51 = 3 then Option.bind (if (2 : Int32) < y15 then if y15 = 1 then some 1 else some 0 else if y38 = 0 then if y15 = 1 then some 1 else some 0 else some 1) (fun y110 : Int32 => if zb y110 then some y110 else none) else if r51 = 4 then Option.bind (if (2 : Int32) < y15 then some 0 else if y38 = 0 then some 0 else Option.bind (some r144) (fun r144 : Int32 => if r144 ≤ 0 then some 0 else some 1)) (fun y133 : Int32 => if zb y133 then some y133 else none) else if r51 = 5 then Option.bind (if y15 = 1 then if y38 = 0 then some 1 else some 0 else some 0) (fun y159 : Int32 => if zb y159 then some y159 else none) else Option.bind (if y15 = 1 then if y38 = 0 then some 0 else some 1 else some 0) (fun y176 : Int32 => if zb y176 then some y176 else none)
theorem icX_t : ∀ k, k < 6 → ∀ d, d < 24 → d ≠ 0 → ∀ l, l < 10 → icX (nI d) 1 (nI k) (nI l) = some (b2 (catK k d true (decide (0 < l)) = true)) := by decide +kernel
theorem icX_f : ∀ k, k < 6 → ∀ d, d < 24 → d ≠ 0 → ∀ l, l < 10 → icX (nI d) 0 (nI k) (nI l) = some (b2 (catK k d false (decide (0 < l)) = true)) := by decide +kernel
/-- h as kind k at place p against o -/
def tanW (a : AR) (h k p o : Nat) : Bool := (o != h) && (match aPl a o with
  | none => false
  | some q => catK k (ds p q) (aFc a h == aFc a o) (decide (0 < aSl a h)) || catK (aKd a o) (ds p q) (aFc a h == aFc a o) (decide (0 < aSl a o)))
def tan (a : AR) (h o : Nat) : Bool := match aPl a h with
  | none => false
  | some p => tanW a h (aKd a h) p o
def tIf (a : AR) (h k p : Nat) (s : Bool) (o : Nat) : Bool := (o != h) && (match aPl a o with
  | none => false
  | some q => catK k (ds p q) s (decide (0 < aSl a h)) || catK (aKd a o) (ds p q) s (decide (0 < aSl a o)))
theorem tanW_tIf (a : AR) (h k p o : Nat) : tanW a h k p o = tIf a h k p (aFc a h == aFc a o) o := rfl
section TAN
variable {M N : Mem} {a : AR}
theorem far_eq {p q : Nat} (hp : p < 24) (hq : q < 24) : (if (0 : Int32) ≤ nI p - nI q then some (nI p - nI q) else some (-(nI p - nI q))) = some (nI (ds p q)) := by
  have h1 : (nI p - nI q).toInt = (p : Int) - q := pk_sub_toInt (by omega) (by omega)
  have e0 : (0 : Int32).toInt = 0 := rfl
  unfold ds
  by_cases h : q ≤ p
  · have g : (0 : Int32) ≤ nI p - nI q := by rw [i_le, h1]; omega
    rw [if_pos g, pk_sub h]
    by_cases e : p ≤ q
    · rw [if_pos e]; congr 2; omega
    · rw [if_neg e]
  · have g : ¬ (0 : Int32) ≤ nI p - nI q := by rw [i_le, h1]; omega
    rw [if_neg g, if_pos (by omega)]
    refine congrArg some ?_
    rw [show -(nI p - nI q) = nI q - nI p by rw [Int32.neg_sub], pk_sub (by omega)]
theorem abs_eq {p q : Nat} (hp : p < 24) (hq : q < 24) : (if 0 ≤ (nI p - nI q) then (nI p - nI q) else 0 - (nI p - nI q)) = nI (ds p q) := by
  have h := far_eq hp hq
  by_cases g : (0 : Int32) ≤ nI p - nI q
  · rw [if_pos g] at h ⊢; exact Option.some.inj h
  · rw [if_neg g] at h ⊢
    rw [Int32.zero_sub]
    exact Option.some.inj h
theorem ds_lt {p q : Nat} (hp : p < 24) (hq : q < 24) : ds p q < 24 := by unfold ds; split <;> omega
theorem X6_isCaught (hw : WF a) (hm : MR N 37 a) {h o p q : Nat} (hp : aPl a h = some p) (hq : aPl a o = some q) (hne : h ≠ o) : f_X6_isCaught (nI h) (nI o) N = some (b2 (catK (aKd a h) (ds p q) (aFc a h == aFc a o) (decide (0 < aSl a h)) = true)) := by
  obtain ⟨h1, h2⟩ := hw.2.2.2.2.1 h p hp
  obtain ⟨o1, o2⟩ := hw.2.2.2.2.1 o q hq
  have hd : ds p q ≠ 0 := by
    intro z
    have : p = q := by unfold ds at z; split at z <;> omega
    subst this
    exact hne (hw.2.2.2.2.2.1 h o p hp hq)
  have ep : pv (some p) = nI p := rfl
  have eq : pv (some q) = nI q := rfl
  unfold f_X6_isCaught
  simp only [N_pl hw hm h1, N_pl hw hm o1, N_fc hw hm h1, N_fc hw hm o1, N_kd hw hm h1, N_sl hw hm h1, hp, hq, ep, eq, Option.bind_some, bn_e, far_eq h2 o2]
  obtain ⟨k1, k2, k3⟩ := hw.2.2.2.1 h h1
  cases hb : aFc a h <;> cases hb2 : aFc a o
  · exact icX_t (aKd a h) (by omega) (ds p q) (ds_lt h2 o2) hd (aSl a h) (by omega)
  · exact icX_f (aKd a h) (by omega) (ds p q) (ds_lt h2 o2) hd (aSl a h) (by omega)
  · exact icX_f (aKd a h) (by omega) (ds p q) (ds_lt h2 o2) hd (aSl a h) (by omega)
  · exact icX_t (aKd a h) (by omega) (ds p q) (ds_lt h2 o2) hd (aSl a h) (by omega)
theorem bc_comm (x y : Bool) : (x == y) = (y == x) := by cases x <;> cases y <;> rfl
theorem X6_areTangled (hw : WF a) (hm : MR N 37 a) {h o : Nat} (hh : h < aN a) (ho : o < aN a) : f_X6_areTangled (nI h) (nI o) N = some (b2 (tan a h o = true)) := by
  have hn := hw.1
  unfold f_X6_areTangled
  rw [X6_isOn hw hm hh, X6_isOn hw hm ho]
  simp only [Option.bind_some, b2_0]
  by_cases e : h = o
  · subst e
    rw [if_pos rfl]
    have : tan a h h = false := by
      unfold tan tanW
      cases aPl a h <;> simp
    rw [this]; rfl
  · have e2 : ¬ nI h = nI o := fun q => e ((nI_eq (by omega) (by omega)).mp q)
    rw [if_neg e2]
    cases hp : aPl a h with
    | none =>
      have : tan a h o = false := by unfold tan; rw [hp]
      rw [this]; rfl
    | some p =>
      cases hq : aPl a o with
      | none =>
        have : tan a h o = false := by unfold tan tanW; rw [hp]; simp [hq]
        rw [this]; rfl
      | some q =>
        have h1 : ¬ ¬ (some p).isSome = true := not_not_intro rfl
        have h2 : ¬ ¬ (some q).isSome = true := not_not_intro rfl
        rw [if_neg h1, if_neg h2, X6_isCaught hw hm hp hq e, X6_isCaught hw hm hq hp (fun z => e z.symm)]
        simp only [Option.bind_some, b2_0]
        have : tan a h o = (catK (aKd a h) (ds p q) (aFc a h == aFc a o) (decide (0 < aSl a h)) || catK (aKd a o) (ds q p) (aFc a o == aFc a h) (decide (0 < aSl a o))) := by
          unfold tan tanW
          rw [hp, ds_comm q p, bc_comm (aFc a o) (aFc a h)]
          have : (o != h) = true := by simpa using fun z => e z.symm
          simp only [hq, this, Bool.true_and]
        rw [this]
        cases catK (aKd a h) (ds p q) (aFc a h == aFc a o) (decide (0 < aSl a h)) <;> cases catK (aKd a o) (ds q p) (aFc a o == aFc a h) (decide (0 < aSl a o)) <;> rfl
theorem tan_lt (hw : WF a) {h o : Nat} (q : tan a h o = true) : h < aN a ∧ o < aN a := by
  unfold tan tanW at q
  cases hp : aPl a h with
  | none => rw [hp] at q; cases q
  | some p =>
    rw [hp] at q
    cases hq : aPl a o with
    | none => simp [hq] at q
    | some r => exact ⟨(hw.2.2.2.2.1 h p hp).1, (hw.2.2.2.2.1 o r hq).1⟩
/-- the mask of those that are tangled with h -/
def tm (a : AR) (h : Nat) : Nat := ms (tan a h) 12
theorem X6_tangledWith (hw : WF a) (hm : MR N 37 a) {h : Nat} (hh : h < aN a) : f_X6_tangledWith (nI h) N = some (nI (tm a h)) := by
  unfold f_X6_tangledWith tm
  have hn := hw.1
  refine (lp_go (r := nI (ms (tan a h) (aN a))) (fun k => (nI (ms (tan a h) k), nI k)) (aN a) rfl ?_ ?_ (by rw [FU_v]; omega)).trans (by rw [ms_widen hw.1 (fun i hi => Bool.eq_false_iff.mpr fun q => by have := (tan_lt hw q).2; omega)])
  · intro k hk
    unfold f_X6_tangledWith_L4
    dsimp only
    rw [hm.1, if_neg (nI_ge hk (by omega)), X6_areTangled hw hm hh hk]
    simp only [Option.bind_some, b2_0, bn_e]
    rw [sh1 k (by omega), ms, nI_1]
    by_cases e : tan a h k = true
    · rw [if_pos e, if_neg (not_not_intro e), ← nI_or]; rfl
    · rw [if_neg e, if_pos e, Nat.or_zero]
      show some (Sum.inl (nI (ms (tan a h) k) ||| nI 0, _)) = _
      rw [nI_or, Nat.or_zero]
  · unfold f_X6_tangledWith_L4
    dsimp only
    rw [hm.1, if_pos (nI_le (Nat.le_refl _) (by omega))]
theorem sl_le0 (l : Nat) (hl : l ≤ 9) : (if nI l ≤ 0 then some (0 : Int32) else some 1) = some (b2 (decide (0 < l) = true)) := by
  match l, hl with
  | 0, _ => rfl
  | l + 1, h =>
    have g : ¬ nI (l + 1) ≤ 0 := nI_nle (by omega) (by omega)
    rw [if_neg g]; rfl
theorem sl9 (hw : WF a) (h : Nat) : aSl a h ≤ 9 := by
  by_cases e : h < aN a
  · exact (hw.2.2.2.1 h e).2.1
  · rw [(hw.2.2.2.2.2.2.2 h (by omega)).1]; omega
/-- of tIf those that hang from lo on, ahead of t -/
def sx (a : AR) (h k p : Nat) (s : Bool) (lo t o : Nat) : Bool := tIf a h k p s o && (match aPl a o with
  | none => false
  | some q => decide (lo ≤ q ∧ q < t))
theorem X0_tangledIf (hw : WF a) (hc : CR M 1 a) {h k p : Nat} (hh : h < aN a) (hk : k < 6) (hp : p < 24) (s : Bool) : f_X0_tangledIf (nI h) (nI k) (nI p) (b2 (s = true)) M = some (nI (ms (tIf a h k p s) 12)) := by
  have hn := hw.1
  unfold f_X0_tangledIf
  simp only [bn_e]
  have eh : (if (nI p + 2) < 23 then (nI p + 2) else 23) = nI (min 23 (p + 2)) := by
    rw [show (2 : Int32) = nI 2 from rfl, nI_add]
    by_cases g : p + 2 < 23
    · rw [if_pos (show nI (p + 2) < 23 from nI_lt (b := 23) g (by decide))]; congr 1; omega
    · rw [if_neg (show ¬ nI (p + 2) < 23 from nI_nlt (b := 23) (by omega) (by omega))]
      rw [show min 23 (p + 2) = 23 by omega]; rfl
  have el : (if (0 : Int32) < (nI p - 2) then (nI p - 2) else 0) = nI (p - 2) := by
    by_cases g : 2 ≤ p
    · rw [show (2 : Int32) = nI 2 from rfl, pk_sub g]
      by_cases g2 : p = 2
      · subst g2; rfl
      · rw [if_pos (show (0 : Int32) < nI (p - 2) from nI_lt (a := 0) (by omega) (by omega))]
    · have : p = 0 ∨ p = 1 := by omega
      rcases this with rfl | rfl <;> rfl
  rw [eh, el]
  generalize hlo : p - 2 = lo
  generalize hhi : min 23 (p + 2) = hi
  refine (lp_go (r := nI (ms (sx a h k p s lo (lo + (hi + 1 - lo))) 12)) (fun i => (nI (ms (sx a h k p s lo (lo + i)) 12), nI (lo + i))) (hi + 1 - lo) ?_ ?_ ?_ (by rw [FU_v]; omega)).trans ?_
  · have : ms (sx a h k p s lo (lo + 0)) 12 = ms (fun _ => false) 12 := ms_ext fun o _ => by
      unfold sx
      cases aPl a o with
      | none => simp
      | some q =>
        have : decide (lo ≤ q ∧ q < lo + 0) = false := by simp
        simp [this]
    rw [this]; rfl
  · intro i hi2
    unfold f_X0_tangledIf_L22
    dsimp only
    have ht : lo + i < 24 := by omega
    generalize et : lo + i = t at ht
    rw [if_neg (nI_nlt (by omega) (by omega)), if_pos (inR_nI ht (by decide)), cl_nI (by omega), C_at hw hc ht]
    simp only [bn_e]
    rw [nI_1, show lo + (i + 1) = t + 1 by omega]
    have e1 := pv_neg (whoA a t) (fun g q => by have := whoB hw q; omega)
    cases ew : whoA a t with
    | none =>
      rw [if_pos (show pv none = -1 from rfl)]
      have hno := (whoA_none hw).mp ew
      have : ms (sx a h k p s lo (t + 1)) 12 = ms (sx a h k p s lo t) 12 := ms_ext fun o _ => by
        unfold sx
        cases eo : aPl a o with
        | none => rfl
        | some q =>
          have hqt : q ≠ t := fun z => hno o (by rw [eo, z])
          have : decide (lo ≤ q ∧ q < t + 1) = decide (lo ≤ q ∧ q < t) := by
            apply decide_eq_decide.mpr; omega
          simp only [this]
      rw [this]; rfl
    | some o =>
      have ho := (whoA_some hw).mp ew
      obtain ⟨o1, o2⟩ := hw.2.2.2.2.1 o t ho
      rw [ew] at e1
      rw [if_neg (fun z => by cases e1.mp z), show pv (some o) = nI o from rfl]
      have stepE : ∀ o', o' < 12 → o' ≠ o → sx a h k p s lo (t + 1) o' = sx a h k p s lo t o' := fun o' _ hne => by
        unfold sx
        cases eo : aPl a o' with
        | none => rfl
        | some q =>
          have hqt : q ≠ t := fun z => hne (hw.2.2.2.2.2.1 o' o t (by rw [eo, z]) ho)
          have : decide (lo ≤ q ∧ q < t + 1) = decide (lo ≤ q ∧ q < t) := by
            apply decide_eq_decide.mpr; omega
          simp only [this]
      have oldO : sx a h k p s lo t o = false := by
        unfold sx
        rw [ho]
        have : decide (lo ≤ t ∧ t < t) = false := by simp
        simp only [this, Bool.and_false]
      have newO : sx a h k p s lo (t + 1) o = tIf a h k p s o := by
        unfold sx
        rw [ho]
        have : decide (lo ≤ t ∧ t < t + 1) = true := by simp; omega
        simp only [this, Bool.and_true]
      by_cases eoh : o = h
      · subst eoh
        rw [if_pos rfl]
        have tf : tIf a o k p s o = false := by unfold tIf; simp
        have : ms (sx a o k p s lo (t + 1)) 12 = ms (sx a o k p s lo t) 12 := ms_ext fun o' h12 => by
          by_cases e : o' = o
          · subst e; rw [newO, tf, oldO]
          · exact stepE o' h12 e
        rw [this]; rfl
      · have g : ¬ nI o = nI h := fun z => eoh ((nI_eq (by omega) (by omega)).mp z)
        have hk12 : inR (nI h) 12 := inR_nI (by omega) (by decide)
        have ho12 : inR (nI o) 12 := inR_nI (by omega) (by decide)
        have kdo := (hw.2.2.2.1 o o1).1
        rw [if_neg g]
        simp only [if_pos hk12, if_pos ho12, cl_nI (show h < 2147483648 by omega), cl_nI (show o < 2147483648 by omega), C_sl hc (show h < 12 by omega), C_sl hc (show o < 12 by omega), C_kd hc o1, sl_le0 _ (sl9 hw h), sl_le0 _ (sl9 hw o), Option.bind_some, abs_eq ht hp, X5_isCatch hk (ds_lt ht hp), X5_isCatch (show aKd a o < 6 by omega) (ds_lt ht hp), b2_0, bnd_ite]
        have key : tIf a h k p s o = (catK k (ds t p) s (decide (0 < aSl a h)) || catK (aKd a o) (ds t p) s (decide (0 < aSl a o))) := by
          unfold tIf
          have : (o != h) = true := by simpa using eoh
          simp only [ho, this, Bool.true_and, ds_comm p t]
        have addO : ms (sx a h k p s lo (t + 1)) 12 = ms (sx a h k p s lo t) 12 ||| (if tIf a h k p s o then 2 ^ o else 0) := by
          refine Nat.eq_of_testBit_eq fun j => ?_
          rw [tb_ms, Nat.testBit_or, tb_ms]
          by_cases e : j = o
          · subst e
            rw [newO, oldO]
            have : decide (j < 12) = true := by simp; omega
            rw [this]
            by_cases z : tIf a h k p s j = true
            · rw [if_pos z, tb_pow, z]; simp
            · rw [if_neg z, Nat.zero_testBit]; simp [z]
          · have : (if tIf a h k p s o then 2 ^ o else 0).testBit j = false := by
              split
              · rw [tb_pow]; simpa using fun z => e z.symm
              · exact Nat.zero_testBit j
            rw [this, Bool.or_false]
            by_cases z : j < 12
            · rw [stepE j z e]
            · simp [z]
        rw [addO, key, sh1 o (by omega), ← nI_or]
        cases catK k (ds t p) s (decide (0 < aSl a h)) <;> cases catK (aKd a o) (ds t p) s (decide (0 < aSl a o)) <;> rfl
  · unfold f_X0_tangledIf_L22
    dsimp only
    rw [if_pos (nI_lt (by omega) (by omega))]
  · refine congrArg some (congrArg nI (ms_ext fun o _ => ?_))
    unfold sx
    cases eo : aPl a o with
    | none => unfold tIf; rw [eo]; simp
    | some q =>
      by_cases z : tIf a h k p s o = true
      · have hq := (hw.2.2.2.2.1 o q eo).2
        have : ds p q = 1 ∨ ds p q = 2 := by
          unfold tIf at z
          rw [eo] at z
          simp only [Bool.and_eq_true, Bool.or_eq_true] at z
          rcases z.2 with y | y
          · exact catK_far y
          · exact catK_far y
        have h9 : decide (lo ≤ q ∧ q < lo + (hi + 1 - lo)) = true := by
          simp
          unfold ds at this
          split at this <;> omega
        simp only [h9, Bool.and_true]
      · have : tIf a h k p s o = false := by simpa using z
        rw [this]; rfl
end TAN
