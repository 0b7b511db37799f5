/-! PURE: the plain calls -/
theorem no37 {N N2 : Mem} (h : NO N N2) {i : Nat} {v : Int32} : NO N (sI N2 37 i v) := h.sI (by decide) (fun q => absurd q (by decide))
section SMP
variable {M N : Mem} {a : AR}
theorem X0_addMove {v : Nat} (hv : gI M 1 1 = nI v) (h : v ≤ 9999) : f_X0_addMove M = some (sI M 1 1 (nI (min (v + 1) 9999))) := by
  unfold f_X0_addMove
  simp only [bn_e]
  rw [hv, nI_1, show (9999 : Int32) = nI 9999 from rfl]
  by_cases e : 9999 < v + 1
  · rw [if_pos (nI_lt e (by omega)), show min (v + 1) 9999 = 9999 by omega]
  · rw [if_neg (nI_nlt (by omega) (by decide)), show min (v + 1) 9999 = v + 1 by omega]
theorem X6_moved {v : Nat} (hv : gI N 37 1 = nI v) (h : v ≤ 9999) : f_X6_moved N = some (sI N 37 1 (nI (min (v + 1) 9999))) := by
  unfold f_X6_moved
  simp only [bn_e]
  rw [hv, show (9999 : Int32) = nI 9999 from rfl]
  by_cases e : 9999 ≤ v
  · rw [if_pos (nI_le e (by omega)), show min (v + 1) 9999 = v by omega]
    show some (sI N 37 1 (nI v + nI 0)) = _
    rw [nI_add]; rfl
  · rw [if_neg (nI_ge (by omega) (by decide)), show min (v + 1) 9999 = v + 1 by omega]
    show some (sI N 37 1 (nI v + 1)) = _
    rw [nI_1]
theorem p_price (h : Rel M N) (x : Int32) : Same (f_X5_price x M) (f_X6_price x N) := by
  obtain ⟨a, hw, hc, hm⟩ := h.1
  unfold f_X5_price f_X6_price
  rw [in_ix x 100 99 (by decide)]
  simp only [Option.bind_some, bnd_eta, b2_0, bn_e]
  have e0 : (0 : Int32).toInt = 0 := rfl
  have e9 : (99 : Int32).toInt = 99 := rfl
  by_cases hx : IX x 100
  · obtain ⟨k, hk, rfl⟩ := ix_of hx (by decide)
    have h99 : nI k ≤ 99 := nI_le (a := k) (b := 99) (by omega) (by decide)
    rw [if_neg (not_not_intro hx), if_neg (nI_pos (by omega)), if_pos h99]
    unfold f_X6_becomes
    simp only [bn_e]
    rw [if_pos (by decide), if_pos (by decide), show (2 : Int32).toNatClampNeg = 2 from rfl]
    refine ⟨nI (aPr a), _, _, ?_, ?_, h.rail (uPr a k) (W_uPr hw (by omega)) (C_uPr hc k) (M_uPr hm k) ((CO.rf M).sI (by decide)) (no37 (NO.rf N))⟩
    · rw [hc.2.2.1]
    · rw [hm.2.2.1]
  · rw [if_pos hx]
    by_cases h1 : x < 0
    · rw [if_pos h1]; exact same_find h 0 (by decide) (by decide)
    · rw [if_neg h1, if_neg]
      · exact same_find h 0 (by decide) (by decide)
      · rw [i_le]; rw [i_lt] at h1; unfold IX at hx; omega
theorem p_at (h : Rel M N) (x : Int32) : Same (f_X5_at x M) (f_X6_at x N) := by
  obtain ⟨a, hw, hc, hm⟩ := h.1
  unfold f_X5_at f_X6_at
  rw [X5_isPlace, X6_isPlace]
  simp only [Option.bind_some, bnd_eta, b2_0, bn_e]
  by_cases hx : IX x 24
  · obtain ⟨p, hp, rfl⟩ := ix_of hx (by decide)
    rw [if_neg (not_not_intro hx), if_neg (not_not_intro hx), X0_isFree hw hc hp, X6_who hw hm hp]
    simp only [Option.bind_some, b2_0]
    rw [if_pos (inR_nI hp (by decide)), cl_nI (by omega), C_at hw hc hp]
    have h1 := pv_lt (whoA a p) (fun h q => by have := whoB hw q; omega)
    cases e : whoA a p with
    | none =>
      rw [if_neg (by simp), if_neg (by decide)]
      exact same_find h 3 (by decide) (by decide)
    | some g =>
      rw [e] at h1
      have h2 : (0 : Int32) ≤ pv (some g) := by
        have := mt h1.mp (by simp)
        rw [i_lt] at this
        rw [i_le]; omega
      rw [if_pos (by simp), if_pos h2]
      exact same_rd h _
  · rw [if_pos hx, if_pos hx]
    exact same_find h 0 (by decide) (by decide)
theorem holds_eq (hw : WF a) (hm : MR N 37 a) {k : Nat} (hk : k < aN a) : ∃ v, v ≤ 9 ∧ f_X5_holds (nI (aKd a k)) = some (nI v) ∧ f_X6_holds (nI k) N = some (nI v) := by
  have hkd := (hw.2.2.2.1 k hk).1
  unfold f_X6_holds
  rw [N_kd hw hm hk]
  generalize aKd a k = q at hkd
  obtain ⟨v, hv, h1, h2⟩ : ∃ v, v ≤ 9 ∧ f_X5_holds (nI q) = some (nI v) ∧ (Option.bind (some (nI q)) (fun r3 : Int32 => if r3 = 1 then some 3 else if r3 = 2 then some 8 else if r3 = 3 then some 2 else if r3 = 4 then some 7 else if r3 = 5 then some 9 else some 5)) = some (nI v) := by
    match q, hkd with
    | 0, _ => exact ⟨5, by decide, by decide, by decide⟩
    | 1, _ => exact ⟨3, by decide, by decide, by decide⟩
    | 2, _ => exact ⟨8, by decide, by decide, by decide⟩
    | 3, _ => exact ⟨2, by decide, by decide, by decide⟩
    | 4, _ => exact ⟨7, by decide, by decide, by decide⟩
    | 5, _ => exact ⟨9, by decide, by decide, by decide⟩
    | n + 6, h => omega
  exact ⟨v, hv, h1, h2⟩
theorem need_eq (hw : WF a) (hm : MR N 37 a) {k : Nat} (hk : k < aN a) : ∃ v, v ≤ 2 ∧ f_X5_need (nI (aKd a k)) = some (nI v) ∧ f_X6_needs (nI k) N = some (nI v) := by
  have hkd := (hw.2.2.2.1 k hk).1
  unfold f_X6_needs
  rw [N_kd hw hm hk]
  generalize aKd a k = q at hkd
  match q, hkd with
  | 0, _ => exact ⟨1, by decide, by decide, by decide⟩
  | 1, _ => exact ⟨1, by decide, by decide, by decide⟩
  | 2, _ => exact ⟨2, by decide, by decide, by decide⟩
  | 3, _ => exact ⟨2, by decide, by decide, by decide⟩
  | 4, _ => exact ⟨1, by decide, by decide, by decide⟩
  | 5, _ => exact ⟨2, by decide, by decide, by decide⟩
  | n + 6, h => omega
theorem p_of (h : Rel M N) (x y : Int32) : Same (f_X5_of x y M) (f_X6_of x y N) := by
  obtain ⟨a, hw, hc, hm⟩ := h.1
  have hn := hw.1
  unfold f_X5_of f_X6_of
  rw [X0_has hw hc, X6_isHanger hw hm, in_ix y 7 6 (by decide)]
  simp only [Option.bind_some, bnd_eta, bnd_id, b2_0]
  by_cases hx : IX x (aN a)
  · obtain ⟨k, hk, rfl⟩ := ix_of hx (by omega)
    have hk12 : inR (nI k) 12 := inR_nI (by omega) (by decide)
    rw [if_neg (not_not_intro hx), if_neg (not_not_intro hx)]
    by_cases hy : IX y 7
    · obtain ⟨q, hq, rfl⟩ := ix_of hy (by decide)
      rw [if_neg (not_not_intro hy)]
      simp only [if_pos hk12, cl_nI (show k < 2147483648 by omega), C_kd hc hk, C_pl hc (show k < 12 by omega), C_sl hc (show k < 12 by omega), C_fe hc (show k < 12 by omega), X0_facingOf hw hc (show k < 12 by omega), Option.bind_some]
      obtain ⟨v5, -, e5, e5'⟩ := holds_eq hw hm hk
      obtain ⟨v6, -, e6, e6'⟩ := need_eq hw hm hk
      rw [e5, e6, e5', e6']
      match q, hq with
      | 0, _ =>
        rw [if_pos (show nI 0 = 0 from rfl), if_neg (by decide), show nI 0 = 0 from rfl, N_kd hw hm hk]
        exact same_rd h _
      | 1, _ =>
        rw [if_neg (by decide), if_pos (show nI 1 = 1 from rfl), if_neg (by decide), show nI 1 = 1 from rfl, N_pl hw hm hk]
        exact same_rd h _
      | 2, _ =>
        rw [if_neg (by decide), if_neg (by decide), if_pos (show nI 2 = 2 from rfl), if_neg (by decide), show nI 2 = 2 from rfl, N_fc hw hm hk]
        exact same_rd h _
      | 3, _ =>
        rw [if_neg (by decide), if_neg (by decide), if_neg (by decide), if_pos (show nI 3 = 3 from rfl), if_neg (by decide), show nI 3 = 3 from rfl, N_sl hw hm hk]
        exact same_rd h _
      | 4, _ =>
        rw [if_neg (by decide), if_neg (by decide), if_neg (by decide), if_neg (by decide), if_pos (show nI 4 = 4 from rfl), if_neg (by decide), show nI 4 = 4 from rfl, N_fe hw hm hk]
        exact same_rd h _
      | 5, _ =>
        rw [if_neg (by decide), if_neg (by decide), if_neg (by decide), if_neg (by decide), if_neg (by decide), if_pos (show nI 5 = 5 from rfl), if_pos (by decide), if_pos (show nI 5 = 5 from rfl)]
        exact same_rd h _
      | 6, _ =>
        rw [if_neg (by decide), if_neg (by decide), if_neg (by decide), if_neg (by decide), if_neg (by decide), if_neg (by decide), if_pos (show nI 6 = 6 from rfl), if_pos (by decide), if_neg (by decide)]
        exact same_rd h _
      | n + 7, h => omega
    · rw [if_pos hy]
      have hne : ∀ j : Nat, j < 7 → ¬ y = nI j := fun j hj q => hy (by rw [q]; exact (ix_nI (by omega)).mpr hj)
      have g0 : ¬ y = 0 := hne 0 (by decide)
      have g1 : ¬ y = 1 := hne 1 (by decide)
      have g2 : ¬ y = 2 := hne 2 (by decide)
      have g3 : ¬ y = 3 := hne 3 (by decide)
      have g4 : ¬ y = 4 := hne 4 (by decide)
      have g5 : ¬ y = 5 := hne 5 (by decide)
      have g6 : ¬ y = 6 := hne 6 (by decide)
      rw [if_neg g0, if_neg g1, if_neg g2, if_neg g3, if_neg g4, if_neg g5, if_neg g6]
      exact same_find h 0 (by decide) (by decide)
  · rw [if_pos hx, if_pos hx]
    exact same_find h 0 (by decide) (by decide)
theorem X6_becomes (N : Mem) {j : Nat} (hj : j < 63) (v : Int32) : f_X6_becomes (nI j) v N = some (gI N 37 j, sI N 37 j v) := by
  unfold f_X6_becomes
  simp only [bn_e]
  rw [if_pos (inR_nI hj (by decide)), if_pos (inR_nI hj (by decide)), cl_nI (by omega)]
theorem p_turn (h : Rel M N) (x y : Int32) : Same (f_X5_turn x y M) (f_X6_turn x y N) := by
  obtain ⟨a, hw, hc, hm⟩ := h.1
  have hn := hw.1
  unfold f_X5_turn f_X6_turn
  rw [X0_has hw hc, X6_isHanger hw hm, X5_isKind, X6_isKind]
  simp only [Option.bind_some, bnd_eta, b2_0, bn_e]
  by_cases hx : IX x (aN a)
  · obtain ⟨k, hk, rfl⟩ := ix_of hx (by omega)
    have hk12 : inR (nI k) 12 := inR_nI (by omega) (by decide)
    rw [if_neg (not_not_intro hx), if_neg (not_not_intro hx)]
    by_cases hy : IX y 6
    · obtain ⟨q, hq, rfl⟩ := ix_of hy (by decide)
      rw [if_neg (not_not_intro hy), if_neg (not_not_intro hy), if_pos hk12, if_pos hk12, cl_nI (by omega), X6_sp0]
      simp only [Option.bind_some, bn_e]
      rw [X6_becomes N (by omega)]
      exact ⟨_, _, _, rfl, by rw [C_kd hc hk, ← (hm.2.2.2 k hk).1], h.rail (uKd a k q) (W_uKd hw (by omega)) (C_uKd hc k q) (M_uKd hm k q) ((CO.rf M).sI (by decide)) (no37 (NO.rf N))⟩
    · rw [if_pos hy, if_pos hy]
      exact same_find h 0 (by decide) (by decide)
  · rw [if_pos hx, if_pos hx]
    exact same_find h 0 (by decide) (by decide)
theorem under_eq : ∀ k, k < 6 → ∀ q, q < 6 → f_X5_isUnder (nI k) (nI q) = f_X6_isUnder (nI k) (nI q) ∧ (f_X6_isUnder (nI k) (nI q) = some 0 ∨ f_X6_isUnder (nI k) (nI q) = some 1) := by decide +kernel
theorem p_as (h : Rel M N) (x y : Int32) : Same (f_X5_as x y M) (f_X6_as x y N) := by
  obtain ⟨a, hw, hc, hm⟩ := h.1
  have hn := hw.1
  unfold f_X5_as f_X6_as
  rw [X0_has hw hc, X6_isHanger hw hm, X5_isKind, X6_isKind]
  simp only [Option.bind_some, bnd_eta, b2_0, bn_e]
  by_cases hx : IX x (aN a)
  · obtain ⟨k, hk, rfl⟩ := ix_of hx (by omega)
    have hk12 : inR (nI k) 12 := inR_nI (by omega) (by decide)
    rw [if_neg (not_not_intro hx), if_neg (not_not_intro hx)]
    by_cases hy : IX y 6
    · obtain ⟨q, hq, rfl⟩ := ix_of hy (by decide)
      rw [if_neg (not_not_intro hy), if_neg (not_not_intro hy), if_pos hk12, if_pos hk12, cl_nI (by omega), N_kd hw hm hk, N_sl hw hm hk, C_kd hc hk, C_sl hc (by omega)]
      simp only [Option.bind_some]
      obtain ⟨e1, e2⟩ := under_eq (aKd a k) (by have := (hw.2.2.2.1 k hk).1; omega) q hq
      rw [e1]
      rcases e2 with e2 | e2
      · rw [e2]
        simp only [Option.bind_some]
        rw [if_pos trivial, if_pos trivial]
        exact same_find h 2 (by decide) (by decide)
      · rw [e2]
        simp only [Option.bind_some]
        rw [if_neg (by decide), if_neg (by decide)]
        exact same_rd h _
    · rw [if_pos hy, if_pos hy]
      exact same_find h 0 (by decide) (by decide)
  · rw [if_pos hx, if_pos hx]
    exact same_find h 0 (by decide) (by decide)
theorem p_set (h : Rel M N) (x y z : Int32) : Same (f_X5_set x y z M) (f_X6_set x y z N) := by
  obtain ⟨a, hw, hc, hm⟩ := h.1
  have hn := hw.1
  unfold f_X5_set f_X6_set
  rw [X0_has hw hc, X6_isHanger hw hm, in_ix z 10 9 (by decide), in_ix z 16 15 (by decide)]
  simp only [Option.bind_some, bnd_eta, b2_0, bn_e]
  have e0 : (0 : Int32).toInt = 0 := rfl
  have e9 : (9 : Int32).toInt = 9 := rfl
  have e15 : (15 : Int32).toInt = 15 := rfl
  by_cases hx : IX x (aN a)
  · obtain ⟨k, hk, rfl⟩ := ix_of hx (by omega)
    have hk12 : inR (nI k) 12 := inR_nI (by omega) (by decide)
    rw [if_neg (not_not_intro hx)]
    simp only [if_neg (not_not_intro hx), if_pos hk12, cl_nI (show k < 2147483648 by omega)]
    by_cases y3 : y = 3
    · subst y3
      rw [if_pos rfl, if_pos rfl, if_neg (show ¬ (3 : Int32) = 4 by decide)]
      simp only [Option.bind_some, b2_0]
      by_cases hz : IX z 10
      · obtain ⟨q, hq, rfl⟩ := ix_of hz (by decide)
        have g1 : (0 : Int32) ≤ nI q := nI_pos' (by omega)
        have g2 : ¬ (9 : Int32) < nI q := nI_nlt (a := 9) (b := q) (by omega) (by decide)
        rw [if_pos g1, if_neg g2, if_neg (not_not_intro hz), X6_sp3]
        simp only [Option.bind_some]
        rw [X6_becomes N (by omega), C_sl hc (by omega), (hm.2.2.2 k hk).2.2.2.1]
        exact ⟨_, _, _, rfl, rfl, h.rail (uSl a k q) (W_uSl hw hk (by omega)) (C_uSl hc k q) (M_uSl hm k q) ((CO.rf M).sI (by decide)) (no37 (NO.rf N))⟩
      · rw [if_pos hz]
        have key : (if (0 : Int32) ≤ z then if (9 : Int32) < z then f_X5_told (-1000000001) M else some (gI M 4 k, sI M 4 k z) else f_X5_told (-1000000001) M) = f_X5_told (-1000000001) M := by
          by_cases g : (0 : Int32) ≤ z
          · rw [if_pos g]
            rw [if_pos (by rw [i_lt]; rw [i_le] at g; unfold IX at hz; omega)]
          · rw [if_neg g]
        rw [key]
        exact same_find h 0 (by decide) (by decide)
    · rw [if_neg y3, if_neg y3]
      by_cases y4 : y = 4
      · subst y4
        rw [if_pos rfl, if_pos rfl]
        by_cases hz : IX z 16
        · obtain ⟨q, hq, rfl⟩ := ix_of hz (by decide)
          have g1 : (0 : Int32) ≤ nI q := nI_pos' (by omega)
          have g2 : ¬ (15 : Int32) < nI q := nI_nlt (a := 15) (b := q) (by omega) (by decide)
          rw [if_pos g1, if_neg g2, if_neg (not_not_intro hz), X6_sp4]
          simp only [Option.bind_some]
          rw [if_neg (by decide), X6_becomes N (by omega), C_fe hc (by omega), (hm.2.2.2 k hk).2.2.2.2]
          exact ⟨_, _, _, rfl, rfl, h.rail (uFe a k q) (W_uFe hw hk (by omega)) (C_uFe hc k q) (M_uFe hm k q) ((CO.rf M).sI (by decide)) (no37 (NO.rf N))⟩
        · rw [if_pos hz]
          have key : (if (0 : Int32) ≤ z then if (15 : Int32) < z then f_X5_told (-1000000001) M else some (gI M 5 k, sI M 5 k z) else f_X5_told (-1000000001) M) = f_X5_told (-1000000001) M := by
            by_cases g : (0 : Int32) ≤ z
            · rw [if_pos g]
              rw [if_pos (by rw [i_lt]; rw [i_le] at g; unfold IX at hz; omega)]
            · rw [if_neg g]
          rw [key]
          exact same_find h 0 (by decide) (by decide)
      · rw [if_neg y4, if_neg y4]
        have key : (if (0 : Int32) ≤ z then f_X5_told (-1000000001) M else f_X5_told (-1000000001) M) = f_X5_told (-1000000001) M := by split <;> rfl
        rw [key]
        exact same_find h 0 (by decide) (by decide)
  · rw [if_pos hx]
    have key : ∀ (o : Option Int32) (v : Int32), o = some v → Same (f_X5_told (-1000000001) M) (Option.bind o (fun y2 : Int32 => if ¬ IX x (aN a) then f_X6_finds (-1000000001) N else if y2 = 0 then f_X6_finds (-1000000001) N else Option.bind (f_X6_spotOf x y) (fun r57 : Int32 => f_X6_becomes r57 z N))) := by
      intro o v e
      rw [e, Option.bind_some, if_pos hx]
      exact same_find h 0 (by decide) (by decide)
    by_cases y3 : y = 3
    · exact key _ (b2 (IX z 10)) (by rw [if_pos y3])
    · by_cases y4 : y = 4
      · by_cases hz : IX z 16
        · exact key _ 1 (by rw [if_neg y3, if_pos y4, if_neg (not_not_intro hz)])
        · exact key _ 0 (by rw [if_neg y3, if_pos y4, if_pos hz])
      · exact key _ 0 (by rw [if_neg y3, if_neg y4])
/-- five numbers of the reference's row are wiped -/
def zs (N : Mem) (b : Nat) : Nat → Mem
  | 0 => N
  | k + 1 => sI (zs N b k) 37 (b + k) 0
theorem gI_zs (N : Mem) (b : Nat) : ∀ (k c j : Nat), gI (zs N b k) c j = if c = 37 ∧ b ≤ j ∧ j < b + k then 0 else gI N c j := by
  intro k
  induction k with
  | zero => intro c j; rw [if_neg (by omega)]; rfl
  | succ k ih =>
    intro c j
    rw [zs, gI_sI, ih]
    by_cases h1 : c = 37 ∧ j = b + k
    · rw [if_pos h1, if_pos (by omega)]
    · rw [if_neg h1]
      exact if_c (by omega) _ _
theorem NO_zs (N : Mem) (b : Nat) : ∀ k, NO N (zs N b k) := by
  intro k
  induction k with
  | zero => exact NO.rf N
  | succ k ih => exact no37 ih
def nA (a : AR) (k : Nat) : AR := (aN a + 1, aMv a, aPr a, fun g => if g = aN a then k else aKd a g, aPl a, aFc a, aSl a, aFe a)
theorem W_nA (hw : WF a) {k : Nat} (hk : k ≤ 5) (hn : aN a < 12) : WF (nA a k) := by
  obtain ⟨h0, h1, h2, h3, h4, h5, h6, h7⟩ := hw
  refine ⟨hn, h1, h2, fun g hg => ?_, fun g p q => ?_, h5, fun g q => ?_, fun g hg => ?_⟩
  · have hg : g < aN a + 1 := hg
    by_cases e : g = aN a
    · refine ⟨?_, ?_, ?_⟩
      · show (if g = aN a then k else _) ≤ 5
        rw [if_pos e]; exact hk
      · show aSl a g ≤ 9
        rw [(h7 g (by omega)).1]; omega
      · show aFe a g ≤ 15
        rw [(h7 g (by omega)).2]; omega
    · obtain ⟨q0, q1, q2⟩ := h3 g (by omega)
      refine ⟨?_, q1, q2⟩
      show (if g = aN a then k else _) ≤ 5
      rw [if_neg e]; exact q0
  · have := h4 g p q
    exact ⟨Nat.lt_succ_of_lt this.1, this.2⟩
  · exact Nat.lt_succ_of_lt (h6 g q)
  · have hg : aN a + 1 ≤ g := hg
    exact h7 g (by omega)
theorem pl_none (hw : WF a) {h : Nat} (hh : aN a ≤ h) : aPl a h = none := by
  cases e : aPl a h with
  | none => rfl
  | some p => have := (hw.2.2.2.2.1 h p e).1; omega
theorem fc_none (hw : WF a) {h : Nat} (hh : aN a ≤ h) : aFc a h = false := by
  cases e : aFc a h with
  | false => rfl
  | true => have := hw.2.2.2.2.2.2.1 h e; omega
theorem C_nA (hw : WF a) (hc : CR M 1 a) (k : Nat) : CR (sI (sI M 2 (aN a) (nI k)) 1 0 (nI (aN a + 1))) 1 (nA a k) := by
  obtain ⟨h0, h1, h2, h3, h4, h5, h6, h7, h8, h9⟩ := hc
  refine ⟨?_, ?_, ?_, ?_, fun h hh => ?_, fun h hh => ?_, fun h hh => ?_, fun h hh => ?_, fun p h hp hh => ?_, fun p hp hh => ?_⟩ <;> rw [gI_sI, gI_sI]
  · rw [if_pos ⟨rfl, rfl⟩]; rfl
  · rw [if_neg (by omega), if_neg (by omega)]; exact h1
  · rw [if_neg (by omega), if_neg (by omega)]; exact h2
  · rw [if_neg (by omega), if_neg (by omega)]; exact h3
  · have hh : h < aN a + 1 := hh
    rw [if_neg (by omega)]
    show _ = nI (if h = aN a then k else aKd a h)
    by_cases e : h = aN a
    · rw [if_pos ⟨rfl, e⟩, if_pos e]
    · rw [if_neg (fun q => e q.2), if_neg e]; exact h4 h (by omega)
  · rw [if_neg (by omega), if_neg (by omega)]; exact h5 h hh
  · rw [if_neg (by omega), if_neg (by omega)]; exact h6 h hh
  · rw [if_neg (by omega), if_neg (by omega)]; exact h7 h hh
  · rw [if_neg (by omega), if_neg (by omega)]; exact h8 p h hp hh
  · rw [if_neg (by omega), if_neg (by omega)]; exact h9 p hp hh
/-- the memory of the reference behind adds() -/
def mA (N : Mem) (n : Nat) (v : Int32) : Mem := sI (sI (sI (zs N (3 + 5 * n) 5) 37 (3 + 5 * n) v) 37 (3 + 5 * n + 1) (-1)) 37 0 (nI (n + 1))
theorem X6_adds (hw : WF a) (hm : MR N 37 a) (hn : aN a < 12) (v : Int32) : f_X6_adds v N = some (nI (aN a), mA N (aN a) v) := by
  unfold f_X6_adds
  simp only [bn_e]
  rw [hm.1]
  refine (lp_go (r := zs N (3 + 5 * aN a) 5) (fun k => (nI k, zs N (3 + 5 * aN a) k)) 5 rfl ?_ ?_ (by rw [FU_v]; omega)).trans ?_
  · intro k hk
    unfold f_X6_adds_L9
    dsimp only
    have g : ¬ (5 : Int32) ≤ nI k := nI_ge (a := k) (b := 5) hk (by decide)
    rw [if_neg g, X6_spotOf]
    simp only [Option.bind_some, bn_e]
    rw [if_pos (inR_nI (by omega) (by decide)), cl_nI (by omega), nI_1]
    rfl
  · unfold f_X6_adds_L9
    dsimp only
    rw [if_pos (by decide)]
  · rw [X6_sp0, X6_sp1]
    simp only [Option.bind_some]
    rw [if_pos (inR_nI (by omega) (by decide)), if_pos (inR_nI (by omega) (by decide)), cl_nI (by omega), cl_nI (by omega)]
    have e : gI (sI (sI (zs N (3 + 5 * aN a) 5) 37 (3 + 5 * aN a) v) 37 (3 + 5 * aN a + 1) (-1)) 37 0 = nI (aN a) := by
      rw [gI_sI, if_neg (by omega), gI_sI, if_neg (by omega), gI_zs, if_neg (by omega)]; exact hm.1
    rw [e, nI_1]
    rfl
theorem M_nA (hw : WF a) (hm : MR N 37 a) (k : Nat) : MR (mA N (aN a) (nI k)) 37 (nA a k) := by
  obtain ⟨h0, h1, h2, h3⟩ := hm
  unfold mA
  refine ⟨?_, ?_, ?_, fun h hh => ?_⟩
  · rw [gI_sI, if_pos ⟨rfl, rfl⟩]; rfl
  · rw [gI_sI, if_neg (by omega), gI_sI, if_neg (by omega), gI_sI, if_neg (by omega), gI_zs, if_neg (by omega)]; exact h1
  · rw [gI_sI, if_neg (by omega), gI_sI, if_neg (by omega), gI_sI, if_neg (by omega), gI_zs, if_neg (by omega)]; exact h2
  · have hh : h < aN a + 1 := hh
    by_cases e : h = aN a
    · subst e
      refine ⟨?_, ?_, ?_, ?_, ?_⟩
      · rw [gI_sI, if_neg (by omega), gI_sI, if_neg (by omega), gI_sI, if_pos ⟨rfl, rfl⟩]
        show _ = nI (if aN a = aN a then k else _)
        rw [if_pos rfl]
      · rw [gI_sI, if_neg (by omega), gI_sI, if_pos ⟨rfl, rfl⟩]
        show _ = pv (aPl a (aN a))
        rw [pl_none hw (Nat.le_refl _)]; rfl
      · rw [gI_sI, if_neg (by omega), gI_sI, if_neg (by omega), gI_sI, if_neg (by omega), gI_zs, if_pos (by omega)]
        show _ = b2 (aFc a (aN a) = true)
        rw [b2_f (by rw [fc_none hw (Nat.le_refl _)]; decide)]
      · rw [gI_sI, if_neg (by omega), gI_sI, if_neg (by omega), gI_sI, if_neg (by omega), gI_zs, if_pos (by omega)]
        show _ = nI (aSl a (aN a))
        rw [(hw.2.2.2.2.2.2.2 _ (Nat.le_refl _)).1]; rfl
      · rw [gI_sI, if_neg (by omega), gI_sI, if_neg (by omega), gI_sI, if_neg (by omega), gI_zs, if_pos (by omega)]
        show _ = nI (aFe a (aN a))
        rw [(hw.2.2.2.2.2.2.2 _ (Nat.le_refl _)).2]; rfl
    · obtain ⟨g0, g1, g2, g3, g4⟩ := h3 h (by omega)
      refine ⟨?_, ?_, ?_, ?_, ?_⟩
      · rw [gI_sI, if_neg (by omega), gI_sI, if_neg (by omega), gI_sI, if_neg (by omega), gI_zs, if_neg (by omega)]
        show _ = nI (if h = aN a then k else aKd a h)
        rw [if_neg e]; exact g0
      · rw [gI_sI, if_neg (by omega), gI_sI, if_neg (by omega), gI_sI, if_neg (by omega), gI_zs, if_neg (by omega)]; exact g1
      · rw [gI_sI, if_neg (by omega), gI_sI, if_neg (by omega), gI_sI, if_neg (by omega), gI_zs, if_neg (by omega)]; exact g2
      · rw [gI_sI, if_neg (by omega), gI_sI, if_neg (by omega), gI_sI, if_neg (by omega), gI_zs, if_neg (by omega)]; exact g3
      · rw [gI_sI, if_neg (by omega), gI_sI, if_neg (by omega), gI_sI, if_neg (by omega), gI_zs, if_neg (by omega)]; exact g4
theorem NO_mA (N : Mem) (n : Nat) (v : Int32) : NO N (mA N n v) := no37 (no37 (no37 (NO_zs N _ 5)))
theorem X0_addHanger (hc : CR M 1 a) (hn : aN a < 12) (v : Int32) : f_X0_addHanger v M = some (nI (aN a), sI (sI M 2 (aN a) v) 1 0 (nI (aN a + 1))) := by
  unfold f_X0_addHanger
  simp only [bn_e]
  rw [hc.1, if_pos (inR_nI hn (by decide)), cl_nI (by omega), gI_sI, if_neg (by omega), hc.1, nI_1]
theorem p_hanger (h : Rel M N) (x : Int32) : Same (f_X5_hanger x M) (f_X6_hanger x N) := by
  obtain ⟨a, hw, hc, hm⟩ := h.1
  have hn := hw.1
  unfold f_X5_hanger f_X6_hanger
  rw [X5_isKind, X6_isKind]
  simp only [Option.bind_some, bnd_eta, b2_0]
  by_cases hx : IX x 6
  · obtain ⟨k, hk, rfl⟩ := ix_of hx (by decide)
    rw [if_neg (not_not_intro hx), if_neg (not_not_intro hx), hc.1, hm.1]
    by_cases e : aN a < 12
    · have g1 : nI (aN a) < 12 := nI_lt (b := 12) e (by decide)
      have g2 : ¬ nI (aN a) = 12 := fun q => by have := (nI_eq (b := 12) (by omega) (by decide)).mp q; omega
      rw [if_pos g1, if_neg g2, X0_addHanger hc e, X6_adds hw hm e]
      exact ⟨_, _, _, rfl, rfl, h.rail (nA a k) (W_nA hw (by omega) e) (C_nA hw hc k) (M_nA hw hm k) (((CO.rf M).sI (by decide)).sI (by decide)) (NO_mA N _ _)⟩
    · have e2 : aN a = 12 := by omega
      have g1 : ¬ nI (aN a) < 12 := nI_nlt (b := 12) (by omega) (by omega)
      have g2 : nI (aN a) = 12 := by rw [e2]; rfl
      rw [if_neg g1, if_pos g2]
      exact same_find h 1 (by decide) (by decide)
  · rw [if_pos hx, if_pos hx]
    exact same_find h 0 (by decide) (by decide)
end SMP
