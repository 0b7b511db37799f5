/-! PURE: now, tangled, catches, kind, feels -/
section NOW
variable {M N : Mem} {a : AR}
theorem X0_shirts (hw : WF a) (hc : CR M 1 a) : f_X0_shirts M = some (nI (ct (fun h => decide (0 < aSl a h)) (aN a))) := by
  unfold f_X0_shirts
  have hn := hw.1
  refine (lp_go (r := nI (ct (fun h => decide (0 < aSl a h)) (aN a))) (fun k => (nI (ct (fun h => decide (0 < aSl a h)) k), nI k)) (aN a) rfl ?_ ?_ (by rw [FU_v]; omega)).trans rfl
  · intro k hk
    unfold f_X0_shirts_L4
    dsimp only
    rw [hc.1, if_neg (nI_ge hk (by omega)), if_pos (inR_nI (by omega) (by decide)), cl_nI (by omega), C_sl hc (by omega), ct, nI_1, nI_1]
    by_cases e : 0 < aSl a k
    · have g : ¬ nI (aSl a k) ≤ 0 := nI_nle e (by have := sl9 hw k; omega)
      rw [if_neg g, if_pos (by simpa using e)]; rfl
    · have g : nI (aSl a k) ≤ 0 := by rw [show aSl a k = 0 by omega]; decide
      rw [if_pos g, if_neg (by simpa using e)]; rfl
  · unfold f_X0_shirts_L4
    dsimp only
    rw [hc.1, if_pos (nI_le (Nat.le_refl _) (by omega))]
theorem X6_shirts (hw : WF a) (hm : MR N 37 a) : f_X6_shirts N = some (nI (ct (fun h => decide (0 < aSl a h)) (aN a))) := by
  unfold f_X6_shirts
  have hn := hw.1
  refine (lp_go (r := nI (ct (fun h => decide (0 < aSl a h)) (aN a))) (fun k => (nI (ct (fun h => decide (0 < aSl a h)) k), nI k)) (aN a) rfl ?_ ?_ (by rw [FU_v]; omega)).trans rfl
  · intro k hk
    unfold f_X6_shirts_L4
    dsimp only
    rw [hm.1, if_neg (nI_ge hk (by omega)), N_sl hw hm hk]
    simp only [Option.bind_some, bn_e]
    rw [ct, nI_1]
    by_cases e : 0 < aSl a k
    · have g : ¬ nI (aSl a k) ≤ 0 := nI_nle e (by have := sl9 hw k; omega)
      rw [if_neg g, if_pos (by simpa using e)]
      simp only [Option.bind_some]
      rw [nI_1]
    · have g : nI (aSl a k) ≤ 0 := by rw [show aSl a k = 0 by omega]; decide
      rw [if_pos g, if_neg (by simpa using e)]
      simp only [Option.bind_some]
      show some (Sum.inl (_ + nI 0, _)) = _
      rw [nI_add]
  · unfold f_X6_shirts_L4
    dsimp only
    rw [hm.1, if_pos (nI_le (Nat.le_refl _) (by omega))]
theorem X0_slips (hw : WF a) (hc : CR M 1 a) : f_X0_slips M = some (nI (sm (aSl a) (aN a))) := by
  unfold f_X0_slips
  have hn := hw.1
  refine (lp_go (r := nI (sm (aSl a) (aN a))) (fun k => (nI (sm (aSl a) k), nI k)) (aN a) rfl ?_ ?_ (by rw [FU_v]; omega)).trans rfl
  · intro k hk
    unfold f_X0_slips_L4
    dsimp only
    rw [hc.1, if_neg (nI_ge hk (by omega)), if_pos (inR_nI (by omega) (by decide)), cl_nI (by omega), C_sl hc (by omega), nI_1, nI_add]
    rfl
  · unfold f_X0_slips_L4
    dsimp only
    rw [hc.1, if_pos (nI_le (Nat.le_refl _) (by omega))]
theorem p_now (h : Rel M N) (x : Int32) : Same (f_X5_now x M) (f_X6_now x N) := by
  obtain ⟨a, hw, hc, hm⟩ := h.1
  unfold f_X5_now f_X6_now
  simp only [bnd_eta]
  by_cases x0 : x = 0
  · rw [if_pos x0, if_pos x0, hc.2.1, hm.2.1]; exact same_rd h _
  · rw [if_neg x0, if_neg x0]
    by_cases x1 : x = 1
    · rw [if_pos x1, if_pos x1, X0_up hw hc, X6_onRail hw hm]; exact same_rd h _
    · rw [if_neg x1, if_neg x1]
      by_cases x2 : x = 2
      · rw [if_pos x2, if_pos x2, X3_look hw hc, X6_pairs hw hm]
        simp only [Option.bind_some]
        rw [show gI (LK a M) 1 3 = nI (ms (aFc a) 12) from C_bk (C_lkm hc 12), X3_pairs a M (Nat.lt_trans (ms12 _) (by decide)), pairs_now hw]
        exact ⟨_, _, _, rfl, rfl, h.look hw hc hm⟩
      · rw [if_neg x2, if_neg x2]
        by_cases x3 : x = 3
        · rw [if_pos x3, if_pos x3, X0_shirts hw hc, X6_shirts hw hm]; exact same_rd h _
        · rw [if_neg x3, if_neg x3]
          by_cases x4 : x = 4
          · rw [if_pos x4, if_pos x4, X0_slips hw hc, X6_together hw hm (w := 3) (f := aSl a) (fun g hg => N_sl hw hm hg)]; exact same_rd h _
          · rw [if_neg x4, if_neg x4]
            by_cases x5 : x = 5
            · rw [if_pos x5, if_pos x5, hc.2.2.1, hm.2.2.1]; exact same_rd h _
            · rw [if_neg x5, if_neg x5]
              by_cases x6 : x = 6
              · rw [if_pos x6, if_pos x6, X0_up hw hc, X6_onRail hw hm]
                simp only [Option.bind_some]
                rw [bc_spec _ (ms12 _), ones_spec _ (ms12 _)]
                exact same_rd h _
              · rw [if_neg x6, if_neg x6]
                exact same_find h 0 (by decide) m1_1
theorem p_tangled (h : Rel M N) (x : Int32) : Same (f_X5_tangled x M) (f_X6_tangled x N) := by
  obtain ⟨a, hw, hc, hm⟩ := h.1
  have hn := hw.1
  unfold f_X5_tangled f_X6_tangled
  rw [X0_has hw hc, X6_isHanger hw hm]
  simp only [Option.bind_some, bnd_eta, b2_0]
  by_cases hx : IX x (aN a)
  · obtain ⟨k, hk, rfl⟩ := ix_of hx (by omega)
    have hk12 : inR (nI k) 12 := inR_nI (by omega) (by decide)
    rw [if_neg (not_not_intro hx), if_neg (not_not_intro hx), X0_isUp hw hc (by omega), X6_tangledWith hw hm hk]
    simp only [Option.bind_some, b2_0, if_pos hk12, cl_nI (show k < 2147483648 by omega), C_kd hc hk, C_pl hc (show k < 12 by omega)]
    have hNn : ¬ (none : Option Nat).isSome = true := by decide
    cases e : aPl a k with
    | none =>
      rw [if_pos hNn]
      have : tm a k = 0 := by
        unfold tm
        have : ms (tan a k) 12 = ms (fun _ => false) 12 := ms_ext fun i _ => by unfold tan; rw [e]
        rw [this]; rfl
      rw [this]
      exact same_rd h _
    | some p =>
      have hS : (some p).isSome = true := rfl
      rw [if_neg (not_not_intro hS), show pv (some p) = nI p from rfl, X0_tangledWith hw hc hk (by have := (hw.2.2.2.1 k hk).1; omega) (hw.2.2.2.2.1 k p e).2]
      have : tm a k = ms (tanW a k (aKd a k) p) 12 := by
        unfold tm
        exact ms_ext fun i _ => by unfold tan; rw [e]
      rw [this]
      exact same_rd h _
  · rw [if_pos hx, if_pos hx]
    exact same_find h 0 (by decide) m1_1
theorem b2_eq (x y : Bool) : (if b2 (x = true) = b2 (y = true) then some (1 : Int32) else some 0) = some (b2 ((x == y) = true)) := by
  cases x <;> cases y <;> rfl
theorem p_catches (h : Rel M N) (x y : Int32) : Same (f_X5_catches x y M) (f_X6_catches x y N) := by
  obtain ⟨a, hw, hc, hm⟩ := h.1
  have hn := hw.1
  unfold f_X5_catches f_X6_catches
  rw [X0_has hw hc, X6_isHanger hw hm, X0_has hw hc, X6_isHanger hw hm]
  simp only [Option.bind_some, bnd_eta, b2_0]
  by_cases hx : IX x (aN a)
  · obtain ⟨k, hk, rfl⟩ := ix_of hx (by omega)
    have hk12 : inR (nI k) 12 := inR_nI (by omega) (by decide)
    rw [if_neg (not_not_intro hx), if_neg (not_not_intro hx)]
    by_cases hy : IX y (aN a)
    · obtain ⟨o, ho, rfl⟩ := ix_of hy (by omega)
      have ho12 : inR (nI o) 12 := inR_nI (by omega) (by decide)
      rw [if_neg (not_not_intro hy), if_neg (not_not_intro hy)]
      by_cases e : nI k = nI o
      · rw [if_pos e, if_pos e]; exact same_find h 0 (by decide) m1_1
      · have hne : k ≠ o := fun q => e (by rw [q])
        rw [if_neg e, if_neg e]
        simp only [X0_isUp hw hc (show k < 12 by omega), X0_isUp hw hc (show o < 12 by omega), X6_isOn hw hm hk, X6_isOn hw hm ho, Option.bind_some, b2_0, if_pos hk12, if_pos ho12, cl_nI (show k < 2147483648 by omega), cl_nI (show o < 2147483648 by omega), C_pl hc (show k < 12 by omega), C_pl hc (show o < 12 by omega), X0_facingOf hw hc (show k < 12 by omega), X0_facingOf hw hc (show o < 12 by omega), C_sl hc (show k < 12 by omega), C_kd hc hk, bn_e, b2_eq, sl_le0 _ (sl9 hw k)]
        have hNn : ¬ (none : Option Nat).isSome = true := by decide
        cases ep : aPl a k with
        | none =>
          rw [if_pos hNn, if_pos hNn]
          exact same_rd h _
        | some p =>
          have hS : (some p).isSome = true := rfl
          rw [if_neg (not_not_intro hS), if_neg (not_not_intro hS)]
          cases eq : aPl a o with
          | none =>
            rw [if_pos hNn, if_pos hNn]
            exact same_rd h _
          | some q =>
            have hS2 : (some q).isSome = true := rfl
            have hp := (hw.2.2.2.2.1 k p ep).2
            have hq := (hw.2.2.2.2.1 o q eq).2
            rw [if_neg (not_not_intro hS2), if_neg (not_not_intro hS2), show pv (some p) = nI p from rfl, show pv (some q) = nI q from rfl, abs_eq hp hq, X5_isCatch (by have := (hw.2.2.2.1 k hk).1; omega) (ds_lt hp hq), X6_isCaught hw hm ep eq hne]
            simp only [Option.bind_some, b2_0]
            cases catK (aKd a k) (ds p q) (aFc a k == aFc a o) (decide (0 < aSl a k)) <;> exact same_rd h _
    · rw [if_pos hy, if_pos hy]; exact same_find h 0 (by decide) m1_1
  · rw [if_pos hx, if_pos hx]; exact same_find h 0 (by decide) m1_1
/-- the first of the fewest -/
def bl (v : Nat → Nat) (i : Nat) : Nat → Nat × Nat
  | 0 => (0, i)
  | k + 1 => if (bl v i k).2 ≤ v k then bl v i k else (k, v k)
theorem bl_eq (v : Nat → Nat) {i j : Nat} (hi : v 0 < i) (hj : v 0 < j) : ∀ k, bl v i (k + 1) = bl v j (k + 1) := by
  intro k
  induction k with
  | zero =>
    rw [bl, bl, bl, bl, if_neg (by omega), if_neg (by omega)]
  | succ k ih =>
    show (if (bl v i (k + 1)).2 ≤ v (k + 1) then bl v i (k + 1) else (k + 1, v (k + 1))) = (if (bl v j (k + 1)).2 ≤ v (k + 1) then bl v j (k + 1) else (k + 1, v (k + 1)))
    rw [ih]
theorem bl_le (v : Nat → Nat) {i b : Nat} (hi : i ≤ b) (hv : ∀ k, v k ≤ b) : ∀ k, (bl v i k).2 ≤ b ∧ (bl v i k).1 ≤ k := by
  intro k
  induction k with
  | zero => exact ⟨hi, Nat.le_refl 0⟩
  | succ k ih =>
    rw [bl]
    split
    · exact ⟨ih.1, by omega⟩
    · exact ⟨hv k, Nat.le_succ k⟩
theorem ct_lt {S : Nat → Bool} {h : Nat} (hS : S h = false) : ∀ {n : Nat}, h < n → ct S n < n := by
  intro n
  induction n with
  | zero => intro q; omega
  | succ n ih =>
    intro q
    rw [ct]
    by_cases e : h = n
    · subst e
      rw [hS]
      have := ct_le S h
      simp; omega
    · have := ih (by omega)
      split <;> omega
theorem sI_sI (N : Mem) (k i : Nat) (v w : Int32) : sI (sI N k i v) k i w = sI N k i w := by
  refine Prod.ext ?_ rfl
  funext c j
  show gI (sI (sI N k i v) k i w) c j = gI (sI N k i w) c j
  rw [gI_sI, gI_sI, gI_sI]
  by_cases e : c = k ∧ j = i
  · rw [if_pos e, if_pos e]
  · rw [if_neg e, if_neg e, if_neg e]
theorem sI_same (N : Mem) {k i : Nat} {v : Int32} (h : gI N k i = v) : sI N k i v = N := by
  refine Prod.ext ?_ rfl
  funext c j
  show gI (sI N k i v) c j = gI N c j
  rw [gI_sI]
  by_cases e : c = k ∧ j = i
  · rw [if_pos e, e.1, e.2, h]
  · rw [if_neg e]
theorem tm_uKd (a : AR) {h k p : Nat} (hp : aPl a h = some p) : tm (uKd a h k) h = ms (tanW a h k p) 12 := by
  unfold tm
  refine ms_ext fun o _ => ?_
  unfold tan
  show (match aPl a h with | none => false | some p => tanW (uKd a h k) h (if h = h then k else aKd a h) p o) = _
  rw [hp, if_pos rfl]
  unfold tanW
  by_cases e : o = h
  · subst e; simp
  · show ((o != h) && (match aPl a o with | none => false | some q => catK k (ds p q) (aFc a h == aFc a o) (decide (0 < aSl a h)) || catK (if o = h then k else aKd a o) (ds p q) (aFc a h == aFc a o) (decide (0 < aSl a o)))) = _
    rw [if_neg e] <;> rfl
def kv (a : AR) (k p : Nat) : Nat → Nat := fun j => pc (ms (tanW a k j p) 12)
theorem kv_le (a : AR) {k p : Nat} (hk : k < 12) (j : Nat) : kv a k p j ≤ 11 := by
  unfold kv
  rw [pc_ms]
  have : ct (tanW a k j p) 12 < 12 := ct_lt (h := k) (by unfold tanW; simp) hk
  omega
theorem kind_C (hw : WF a) (hc : CR M 1 a) {k p : Nat} (hk : k < aN a) (e : aPl a k = some p) {β : Type} (K : Int32 → Option β) : Option.bind (lp (f_X5_kind_L44 (nI k) M) FU (0, 13, 0)) K = K (nI (bl (kv a k p) 13 6).1) := by
  have hn := hw.1
  have hp := (hw.2.2.2.2.1 k p e).2
  have hk12 : inR (nI k) 12 := inR_nI (by omega) (by decide)
  have hv := kv_le a (k := k) (p := p) (by omega)
  have b1 := bl_le (kv a k p) (i := 13) (b := 13) (by omega) (fun j => by have := hv j; omega)
  refine lp_go (r := nI (bl (kv a k p) 13 6).1) (fun j => (nI (bl (kv a k p) 13 j).1, nI (bl (kv a k p) 13 j).2, nI j)) 6 (by rw [bl]; rfl) (fun j hj => ?_) ?_ (by rw [FU_v]; omega)
  · unfold f_X5_kind_L44
    dsimp only
    have g : ¬ (6 : Int32) ≤ nI j := nI_ge (a := j) (b := 6) hj (by decide)
    rw [if_neg g, if_pos hk12, cl_nI (by omega), C_pl hc (by omega), e, show pv (some p) = nI p from rfl, X0_tangledWith hw hc hk hj hp]
    rw [Option.bind_some, bc_spec _ (ms12 _)]
    simp only [Option.bind_some]
    rw [bl, nI_1]
    have h1 := (b1 j).1
    have h2 := hv j
    by_cases c : (bl (kv a k p) 13 j).2 ≤ kv a k p j
    · rw [if_pos c]
      have c2 : nI (bl (kv a k p) 13 j).2 ≤ nI (pc (ms (tanW a k j p) 12)) := nI_le (b := kv a k p j) c (by omega)
      rw [if_pos c2]
      simp only [Option.bind_some]
    · rw [if_neg c]
      have c2 : ¬ nI (bl (kv a k p) 13 j).2 ≤ nI (pc (ms (tanW a k j p) 12)) := nI_ge (show kv a k p j < _ by omega) (by omega)
      rw [if_neg c2]
      simp only [Option.bind_some]
      rfl
  · unfold f_X5_kind_L44
    dsimp only
    rw [if_pos (by decide)]
theorem kind_N (hw : WF a) (hm : MR N 37 a) {k p : Nat} (hk : k < aN a) (e : aPl a k = some p) {β : Type} (K : Int32 × Mem → Option β) : Option.bind (lp (f_X6_kind_L46 (nI k)) FU (0, 12, 0, N)) K = K (nI (bl (kv a k p) 12 6).1, sI N 37 (3 + 5 * k) (nI 5)) := by
  have hn := hw.1
  have hv := kv_le a (k := k) (p := p) (by omega)
  have b1 := bl_le (kv a k p) (i := 12) (b := 13) (by omega) (fun j => by have := hv j; omega)
  refine lp_go (r := (nI (bl (kv a k p) 12 6).1, sI N 37 (3 + 5 * k) (nI 5))) (fun j => (nI (bl (kv a k p) 12 j).1, nI (bl (kv a k p) 12 j).2, nI j, if j = 0 then N else sI N 37 (3 + 5 * k) (nI (j - 1)))) 6 rfl (fun j hj => ?_) ?_ (by rw [FU_v]; omega)
  · unfold f_X6_kind_L46
    dsimp only
    have g : ¬ (5 : Int32) < nI j := nI_nlt (a := 5) (b := j) (by omega) (by decide)
    have em : sI (if j = 0 then N else sI N 37 (3 + 5 * k) (nI (j - 1))) 37 (3 + 5 * k) (nI j) = sI N 37 (3 + 5 * k) (nI j) := by
      by_cases z : j = 0
      · rw [if_pos z]
      · rw [if_neg z, sI_sI]
    rw [if_neg g, X6_sp0]
    simp only [Option.bind_some, bn_e]
    rw [if_pos (inR_nI (by omega) (by decide)), cl_nI (by omega), em, X6_tangledWith (W_uKd hw (h := k) (v := j) (by omega)) (M_uKd hm k j) hk, tm_uKd a e]
    simp only [Option.bind_some]
    rw [ones_spec _ (ms12 _)]
    simp only [Option.bind_some]
    rw [bl, nI_1, if_neg (Nat.succ_ne_zero j), Nat.add_sub_cancel]
    have h1 := (b1 j).1
    have h2 := hv j
    by_cases c : (bl (kv a k p) 12 j).2 ≤ kv a k p j
    · have c2 : nI (bl (kv a k p) 12 j).2 ≤ nI (pc (ms (tanW a k j p) 12)) := nI_le (b := kv a k p j) c (by omega)
      rw [if_pos c, if_pos c2, if_pos c2]; rfl
    · have c2 : ¬ nI (bl (kv a k p) 12 j).2 ≤ nI (pc (ms (tanW a k j p) 12)) := nI_ge (show kv a k p j < _ by omega) (by omega)
      rw [if_neg c, if_neg c2, if_neg c2]; rfl
  · unfold f_X6_kind_L46
    dsimp only
    rw [if_pos (by decide), if_neg (by decide)]
theorem p_kind (h : Rel M N) (x : Int32) : Same (f_X5_kind x M) (f_X6_kind x N) := by
  obtain ⟨a, hw, hc, hm⟩ := h.1
  have hn := hw.1
  unfold f_X5_kind f_X6_kind
  rw [X0_has hw hc, X6_isHanger hw hm]
  simp only [Option.bind_some, bnd_eta, b2_0]
  by_cases hx : IX x (aN a)
  · obtain ⟨k, hk, rfl⟩ := ix_of hx (by omega)
    rw [if_neg (not_not_intro hx), if_neg (not_not_intro hx), X0_isUp hw hc (by omega), X6_isOn hw hm hk, N_kd hw hm hk, X6_sp0]
    simp only [Option.bind_some, b2_0, bn_e]
    have hNn : ¬ (none : Option Nat).isSome = true := by decide
    cases e : aPl a k with
    | none =>
      rw [if_pos hNn, if_pos hNn]
      exact same_find h 4 (by decide) (by decide)
    | some p =>
      have hS : (some p).isSome = true := rfl
      rw [if_neg (not_not_intro hS), if_neg (not_not_intro hS), kind_C hw hc hk e, kind_N hw hm hk e, if_pos (inR_nI (by omega) (by decide)), cl_nI (by omega)]
      have hv := kv_le a (k := k) (p := p) (by omega) 0
      rw [sI_sI, sI_same N (hm.2.2.2 k hk).1, bl_eq (kv a k p) (i := 13) (j := 12) (by omega) (by omega) 5]
      exact same_rd h _
  · rw [if_pos hx, if_pos hx]; exact same_find h 0 (by decide) m1_1
end NOW
