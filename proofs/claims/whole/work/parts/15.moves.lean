/-! PURE: hang, face, shift; count, tear, wipe, status, image, undo -/
section MVS
variable {M N : Mem} {a : AR}
theorem X0_put (M : Mem) {h p : Nat} (hh : h < 12) (hp : p < 24) : f_X0_put (nI h) (nI p) M = some (sI (sI M 3 h (nI p)) 6 p (nI h)) := by
  unfold f_X0_put
  simp only [bn_e]
  rw [if_pos (inR_nI hh (by decide)), if_pos (inR_nI hp (by decide)), cl_nI (by omega), cl_nI (by omega)]
theorem X0_putOut_on (hw : WF a) (hc : CR M 1 a) {h q : Nat} (hq : aPl a h = some q) : f_X0_putOut (nI h) M = some (sI (sI M 6 q (-1)) 3 h (-1)) := by
  have hb := hw.2.2.2.2.1 h q hq
  have hn := hw.1
  unfold f_X0_putOut
  simp only [bn_e]
  have h12 : inR (nI h) 12 := inR_nI (by omega) (by decide)
  have q24 : inR (nI q) 24 := inR_nI hb.2 (by decide)
  have epv : pv (some q) = nI q := rfl
  have e1 : f_X5_isPlace (nI q) = some 1 := by rw [X5_isPlace, b2_t ((ix_nI (by omega)).mpr hb.2)]
  have n1 : ¬ (1 : Int32) = 0 := by decide
  simp only [if_pos h12, cl_nI (show h < 2147483648 by omega), C_pl hc (show h < 12 by omega), hq, epv, e1, Option.bind_some, if_neg n1, if_pos q24, cl_nI (show q < 2147483648 by omega)]
theorem X0_putOut_off (hw : WF a) (hc : CR M 1 a) {h : Nat} (hh : h < 12) (hq : aPl a h = none) : f_X0_putOut (nI h) M = some (sI M 3 h (-1)) := by
  unfold f_X0_putOut
  simp only [bn_e]
  have h12 : inR (nI h) 12 := inR_nI hh (by decide)
  have epv : pv none = -1 := rfl
  have e1 : f_X5_isPlace (-1) = some 0 := by decide
  simp only [if_pos h12, cl_nI (show h < 2147483648 by omega), C_pl hc hh, hq, epv, e1, Option.bind_some, if_true]
theorem X6_hangs (N : Mem) {h v : Nat} (hh : h < 12) (x : Int32) (hv : gI N 37 1 = nI v) (h9 : v ≤ 9999) : f_X6_hangs (nI h) x N = some (sI (sI N 37 (3 + 5 * h + 1) x) 37 1 (nI (min (v + 1) 9999))) := by
  unfold f_X6_hangs
  rw [X6_sp1]
  simp only [Option.bind_some, bn_e, bnd_id]
  rw [if_pos (inR_nI (by omega) (by decide)), cl_nI (by omega), X6_moved (v := v) _ h9]
  rw [gI_sI, if_neg (by omega)]; exact hv
abbrev mvA (a : AR) : Nat := min (aMv a + 1) 9999
theorem mvA_le (a : AR) : mvA a ≤ 9999 := Nat.min_le_right _ _
theorem p_hang (h : Rel M N) (x y : Int32) : Same (f_X5_hang x y M) (f_X6_hang x y N) := by
  obtain ⟨a, hw, hc, hm⟩ := h.1
  have hn := hw.1
  unfold f_X5_hang f_X6_hang
  rw [X0_has hw hc, X6_isHanger hw hm, X5_isPlace, X6_isPlace]
  simp only [Option.bind_some, bnd_eta, b2_0]
  by_cases hx : IX x (aN a)
  · obtain ⟨k, hk, rfl⟩ := ix_of hx (by omega)
    rw [if_neg (not_not_intro hx), if_neg (not_not_intro hx)]
    by_cases hy : IX y 24
    · obtain ⟨p, hp, rfl⟩ := ix_of hy (by decide)
      rw [if_neg (not_not_intro hy), if_neg (not_not_intro hy), X0_isUp hw hc (by omega), X6_isOn hw hm hk, X0_isFree hw hc hp, X6_isFree hw hm hp]
      simp only [Option.bind_some, b2_0]
      have hNn : ¬ (none : Option Nat).isSome = true := by decide
      cases e : aPl a k with
      | some q =>
        have hS : (some q).isSome = true := rfl
        rw [if_neg (not_not_intro hS), if_neg (not_not_intro hS)]
        exact same_find h 4 (by decide) (by decide)
      | none =>
        rw [if_pos hNn, if_pos hNn]
        by_cases hf : whoA a p = none
        · rw [if_neg (not_not_intro hf), if_neg (not_not_intro hf), X0_put M (by omega) hp, X6_hangs N (by omega) (nI p) hm.2.1 hw.2.1]
          simp only [Option.bind_some]
          have hf2 := (whoA_none hw).mp hf
          have hc1 := C_put hc e hf2
          have hw1 := W_put hw hk hp hf2
          rw [X0_addMove (v := aMv a) hc1.2.1 hw.2.1]
          have hc2 := C_uMv hc1 (mvA a)
          have hw2 := W_uMv hw1 (mvA_le a)
          have hm2 := M_uMv (M_uPl hm k (some p)) (mvA a)
          simp only [Option.bind_some]
          rw [X0_up hw2 hc2, show nI p = pv (some p) from rfl, X6_onRail hw2 hm2]
          simp only [Option.bind_some]
          rw [bc_spec _ (ms12 _), ones_spec _ (ms12 _)]
          exact ⟨_, _, _, rfl, rfl, h.rail _ hw2 hc2 hm2 ((((CO.rf M).sI (by decide)).sI (by decide)).sI (by decide)) (no37 (no37 (NO.rf N)))⟩
        · rw [if_pos hf, if_pos hf]
          exact same_find h 4 (by decide) (by decide)
    · rw [if_pos hy, if_pos hy]
      exact same_find h 0 (by decide) (by decide)
  · rw [if_pos hx, if_pos hx]
    exact same_find h 0 (by decide) (by decide)
theorem ms_flip (S : Nat → Bool) {h : Nat} (hh : h < 12) : ms S 12 ^^^ 2 ^ h = ms (fun g => if g = h then !S h else S g) 12 := by
  refine Nat.eq_of_testBit_eq fun i => ?_
  rw [Nat.testBit_xor, tb_ms, tb_ms, tb_pow]
  by_cases e : i = h
  · subst e; simp [hh]
  · rw [if_neg e]
    have : decide (h = i) = false := by simpa using fun q => e q.symm
    rw [this, Bool.xor_false]
theorem p_face (h : Rel M N) (x : Int32) : Same (f_X5_face x M) (f_X6_face x N) := by
  obtain ⟨a, hw, hc, hm⟩ := h.1
  have hn := hw.1
  unfold f_X5_face f_X6_face
  rw [X0_has hw hc, X6_isHanger hw hm]
  simp only [Option.bind_some, bnd_eta, b2_0, bn_e]
  by_cases hx : IX x (aN a)
  · obtain ⟨k, hk, rfl⟩ := ix_of hx (by omega)
    rw [if_neg (not_not_intro hx), if_neg (not_not_intro hx), X6_sp2, N_fc hw hm hk]
    simp only [Option.bind_some]
    rw [if_pos (inR_nI (by omega) (by decide)), cl_nI (by omega), C_bk hc, sh1 k (by omega), nI_xor, ms_flip (aFc a) (by omega)]
    have e1 : (1 : Int32) - b2 (aFc a k = true) = b2 ((!aFc a k) = true) := by
      cases aFc a k <;> rfl
    rw [e1]
    have hc1 := C_uBk hc k (!aFc a k) rfl
    have hw1 : WF (uFc a k (!aFc a k)) := W_uFc hw hk
    have hm1 := M_uFc hm k (!aFc a k)
    have hc2 := C_uMv hc1 (mvA a)
    have hw2 := W_uMv hw1 (mvA_le a)
    have hm2 := M_uMv hm1 (mvA a)
    have E1 := X0_addMove (v := aMv a) hc1.2.1 hw.2.1
    have E2 := X6_moved (v := aMv a) hm1.2.1 hw.2.1
    show Same (Option.bind (f_X0_addMove (sI M 1 3 (nI (ms (aFc (uFc a k (!aFc a k))) 12)))) _) _
    rw [E1, E2]
    simp only [Option.bind_some]
    have E3 := X0_facingOf hw2 hc2 (h := k) (by omega)
    have E4 := N_fc hw2 hm2 (h := k) hk
    show Same (Option.bind (f_X0_facingOf (nI k) (sI (sI M 1 3 _) 1 1 (nI (mvA a)))) _) (Option.bind (f_X6_its (nI k) 2 (sI (sI N 37 (3 + 5 * k + 2) _) 37 1 (nI (mvA a)))) _)
    rw [E3, E4]
    exact ⟨_, _, _, rfl, rfl, h.rail _ hw2 hc2 hm2 (((CO.rf M).sI (by decide)).sI (by decide)) (no37 (no37 (NO.rf N)))⟩
  · rw [if_pos hx, if_pos hx]
    exact same_find h 0 (by decide) (by decide)
theorem uPl_uPl (a : AR) (h : Nat) (u v : Option Nat) : uPl (uPl a h u) h v = uPl a h v := by
  unfold uPl
  refine Prod.ext rfl (Prod.ext rfl (Prod.ext rfl (Prod.ext rfl (Prod.ext ?_ rfl))))
  funext g
  show (if g = h then v else if g = h then u else aPl a g) = if g = h then v else aPl a g
  by_cases e : g = h
  · rw [if_pos e, if_pos e]
  · rw [if_neg e, if_neg e, if_neg e]
theorem add_small {p : Nat} {y : Int32} (hp : p < 24) (h1 : -24 ≤ y.toInt) (h2 : y.toInt ≤ 24) : (nI p + y).toInt = (p : Int) + y.toInt := by
  rw [Int32.toInt_add, nI_t (by omega)]
  rw [Int.bmod_def]
  split <;> omega
theorem p_shift (h : Rel M N) (x y : Int32) : Same (f_X5_shift x y M) (f_X6_shift x y N) := by
  obtain ⟨a, hw, hc, hm⟩ := h.1
  have hn := hw.1
  unfold f_X5_shift f_X6_shift
  rw [X0_has hw hc, X6_isHanger hw hm, in_spec, i_j]
  simp only [Option.bind_some, bnd_eta, b2_0, bn_e]
  have e24 : (24 : Int32).toInt = 24 := rfl
  have em24 : (-24 : Int32).toInt = -24 := rfl
  have j24 : (24 : Int64).toInt = 24 := rfl
  have jm24 : (-24 : Int64).toInt = -24 := rfl
  rw [j24, jm24]
  by_cases hx : IX x (aN a)
  · obtain ⟨k, hk, rfl⟩ := ix_of hx (by omega)
    have hk12 : inR (nI k) 12 := inR_nI (by omega) (by decide)
    rw [if_neg (not_not_intro hx), if_neg (not_not_intro hx), X0_isUp hw hc (by omega), X6_isOn hw hm hk]
    simp only [Option.bind_some, b2_0]
    rw [if_pos hk12, cl_nI (by omega), C_pl hc (by omega), N_pl hw hm hk]
    simp only [Option.bind_some]
    have hNn : ¬ (none : Option Nat).isSome = true := by decide
    cases e : aPl a k with
    | none =>
      rw [if_pos hNn, if_pos hNn]
      simp only [Option.bind_some, if_true]
      exact same_find h 4 (by decide) (by decide)
    | some q =>
      have hq := (hw.2.2.2.2.1 k q e).2
      have hS : (some q).isSome = true := rfl
      rw [if_neg (not_not_intro hS), if_neg (not_not_intro hS)]
      show Same (if y ≤ (-24) then f_X5_told (-1000000005) M else if y < 24 then Option.bind (f_X5_isPlace (nI q + y)) _ else f_X5_told (-1000000005) M) (Option.bind (if ¬((-24 : Int) ≤ y.toInt ∧ y.toInt ≤ 24) then some 0 else Option.bind (f_X6_isFree (nI q + y) N) _) _)
      by_cases h1 : (-24 : Int) ≤ y.toInt ∧ y.toInt ≤ 24
      · rw [if_neg (not_not_intro h1), X5_isPlace]
        have hs := add_small hq h1.1 h1.2
        simp only [Option.bind_some, b2_0]
        by_cases hv : IX (nI q + y) 24
        · have g1 : ¬ y ≤ (-24) := by rw [i_le]; unfold IX at hv; omega
          have g2 : y < 24 := by rw [i_lt]; unfold IX at hv; omega
          rw [if_neg g1, if_pos g2, if_neg (not_not_intro hv)]
          obtain ⟨p, hp, ep⟩ := ix_of hv (by decide)
          rw [ep, show pv (some q) + y = nI p from ep, X0_isFree hw hc hp, X6_isFree hw hm hp]
          simp only [Option.bind_some, b2_0]
          by_cases hf : whoA a p = none
          · rw [if_neg (not_not_intro hf), if_neg (not_not_intro hf), X0_putOut_on hw hc e]
            simp only [Option.bind_some]
            rw [if_neg (by decide), X0_put _ (by omega) hp, X6_hangs N (by omega) (nI p) hm.2.1 hw.2.1]
            simp only [Option.bind_some]
            have hf2 := (whoA_none hw).mp hf
            have hc0 := C_off hc hw e
            have hw0 : WF (uPl a k none) := W_out hw
            have hk0 : aPl (uPl a k none) k = none := if_pos rfl
            have hf3 : ∀ g, aPl (uPl a k none) g ≠ some p := fun g z => by
              have z : (if g = k then none else aPl a g) = some p := z
              by_cases eg : g = k
              · rw [if_pos eg] at z; cases z
              · rw [if_neg eg] at z; exact hf2 g z
            have hc1 := C_put hc0 hk0 hf3
            have hw1 := W_put hw0 (h := k) (p := p) hk hp hf3
            rw [uPl_uPl] at hc1 hw1
            rw [X0_addMove (v := aMv a) hc1.2.1 hw.2.1]
            have hc2 := C_uMv hc1 (mvA a)
            have hw2 := W_uMv hw1 (mvA_le a)
            have hm2 := M_uMv (M_uPl hm k (some p)) (mvA a)
            have E4 := N_pl hw2 hm2 (h := k) hk
            have E5 : aPl (uMv (uPl a k (some p)) (mvA a)) k = some p := if_pos rfl
            rw [E5] at E4
            simp only [Option.bind_some]
            show Same _ (Option.bind (f_X6_its (nI k) 1 (sI (sI N 37 (3 + 5 * k + 1) (pv (some p))) 37 1 (nI (mvA a)))) _)
            rw [E4]
            exact ⟨_, _, _, rfl, rfl, h.rail _ hw2 hc2 hm2 (((((CO.rf M).sI (by decide)).sI (by decide)).sI (by decide)).sI (by decide) |>.sI (by decide)) (no37 (no37 (NO.rf N)))⟩
          · rw [if_pos hf, if_pos hf]
            simp only [Option.bind_some, if_true]
            exact same_find h 4 (by decide) (by decide)
        · rw [X6_isFree_no hw hm hv]
          simp only [Option.bind_some, if_true]
          rw [if_pos hv]
          have key : (if y ≤ (-24) then f_X5_told (-1000000005) M else if y < 24 then f_X5_told (-1000000005) M else f_X5_told (-1000000005) M) = f_X5_told (-1000000005) M := by
            split
            · rfl
            · split <;> rfl
          rw [key]
          exact same_find h 4 (by decide) (by decide)
      · rw [if_pos h1]
        simp only [Option.bind_some, if_true]
        by_cases g1 : y ≤ (-24)
        · rw [if_pos g1]; exact same_find h 4 (by decide) (by decide)
        · have g2 : ¬ y < 24 := by rw [i_le] at g1; rw [i_lt]; omega
          rw [if_neg g1, if_neg g2]; exact same_find h 4 (by decide) (by decide)
  · rw [if_pos hx, if_pos hx]
    exact same_find h 0 (by decide) (by decide)
theorem p_tear (h : Rel M N) : Same (f_X5_tear M) (f_X6_tear N) := by
  obtain ⟨⟨a, hw, hc, hm⟩, ⟨k1, k2, k3⟩, hst, ⟨t, t0, t1, t2, t3⟩, hsh⟩ := h
  unfold f_X5_tear f_X6_tear
  simp only [bn_e, bnd_ite, Option.bind_some]
  rw [k2]
  have key : Rel (sI M 0 8 0) (sI N 36 5 0) := by
    refine ⟨⟨a, hw, hc.of (fun k j q1 q2 => by rw [gI_sI, if_neg (by omega)]), hm.of (fun j => by rw [gI_sI, if_neg (by omega)])⟩, ⟨?_, ?_, ?_⟩, ?_, ⟨t, t0, ?_, ?_, ?_⟩, ?_⟩
    · rw [gI_sI, if_pos ⟨rfl, rfl⟩]; exact Or.inl rfl
    · rw [gI_sI, if_pos ⟨rfl, rfl⟩, gI_sI, if_pos ⟨rfl, rfl⟩]
    · rw [gI_sI, if_pos ⟨rfl, rfl⟩]; intro q; exact absurd q (by decide)
    · intro i hi; rw [gI_sI, if_neg (by omega), gI_sI, if_neg (by omega)]; exact hst i hi
    · rw [gI_sI, if_neg (by omega)]; exact t1
    · rw [gI_sI, if_neg (by omega)]; exact t2
    · intro j hj; rw [gI_sI, if_neg (by omega), gI_sI, if_neg (by omega)]; exact t3 j hj
    · intro s hs
      obtain ⟨b, z, q1, q2, q3, q4, q5, q6, q7, q8⟩ := hsh s hs
      refine ⟨b, z, ?_, ?_, q3, ?_, ?_, q6, q7, q8⟩
      · rw [gI_sI, if_neg (by omega)]; exact q1
      · rw [gI_sI, if_neg (by omega)]; exact q2
      · rw [gI_sI, if_neg (by omega)]; exact q4
      · rw [gI_sI, if_neg (by omega)]; exact q5
  by_cases e : gI M 0 8 = 0
  · rw [if_pos e, if_pos e]; exact ⟨_, _, _, rfl, rfl, key⟩
  · rw [if_neg e, if_neg e]; exact ⟨_, _, _, rfl, rfl, key⟩
theorem p_wipe (h : Rel M N) : Same (f_X5_wipe M) (f_X6_wipe N) := by
  obtain ⟨⟨a, hw, hc, hm⟩, ⟨k1, k2, k3⟩, hst, ⟨t, t0, t1, t2, t3⟩, hsh⟩ := h
  unfold f_X5_wipe f_X6_wipe
  simp only [bn_e]
  rw [t1, t2]
  refine ⟨_, _, _, rfl, rfl, ⟨a, hw, hc.of (fun k j q1 q2 => by rw [gI_sI, if_neg (by omega)]), hm.of (fun j => by rw [gI_sI, if_neg (by omega)])⟩, ⟨?_, ?_, ?_⟩, ?_, ⟨0, by omega, ?_, ?_, ?_⟩, ?_⟩
  · rw [gI_sI, if_neg (by omega)]; exact k1
  · rw [gI_sI, if_neg (by omega), gI_sI, if_neg (by omega)]; exact k2
  · rw [gI_sI, if_neg (by omega)]
    intro q
    obtain ⟨b, b1, b2, b3⟩ := k3 q
    exact ⟨b, b1, b2.of (fun k j c1 c2 => by rw [gI_sI, if_neg (by omega)]), b3.of (fun j => by rw [gI_sI, if_neg (by omega)])⟩
  · intro i hi; rw [gI_sI, if_neg (by omega), gI_sI, if_neg (by omega)]; exact hst i hi
  · rw [gI_sI, if_pos ⟨rfl, rfl⟩]; rfl
  · rw [gI_sI, if_pos ⟨rfl, rfl⟩]; rfl
  · intro j hj; omega
  · intro s hs
    obtain ⟨b, z, q1, q2, q3, q4, q5, q6, q7, q8⟩ := hsh s hs
    refine ⟨b, z, ?_, ?_, q3, ?_, ?_, q6, q7, q8⟩
    · rw [gI_sI, if_neg (by omega)]; exact q1
    · rw [gI_sI, if_neg (by omega)]; exact q2
    · rw [gI_sI, if_neg (by omega)]; exact q4
    · rw [gI_sI, if_neg (by omega)]; exact q5
end MVS
