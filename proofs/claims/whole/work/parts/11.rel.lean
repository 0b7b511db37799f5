/-! PURE: what a rail is (a value), how class and reference hold it, when their memories agree -/
/-- how many hangers; moves; price; kind, place, facing, slip, feel of each -/
abbrev AR : Type := Nat × Nat × Nat × (Nat → Nat) × (Nat → Option Nat) × (Nat → Bool) × (Nat → Nat) × (Nat → Nat)
abbrev aN (a : AR) : Nat := a.1
abbrev aMv (a : AR) : Nat := a.2.1
abbrev aPr (a : AR) : Nat := a.2.2.1
abbrev aKd (a : AR) : Nat → Nat := a.2.2.2.1
abbrev aPl (a : AR) : Nat → Option Nat := a.2.2.2.2.1
abbrev aFc (a : AR) : Nat → Bool := a.2.2.2.2.2.1
abbrev aSl (a : AR) : Nat → Nat := a.2.2.2.2.2.2.1
abbrev aFe (a : AR) : Nat → Nat := a.2.2.2.2.2.2.2
def pv : Option Nat → Int32
  | none => -1
  | some p => nI p
def WF (a : AR) : Prop := aN a ≤ 12 ∧ aMv a ≤ 9999 ∧ aPr a ≤ 99 ∧ (∀ h, h < aN a → aKd a h ≤ 5 ∧ aSl a h ≤ 9 ∧ aFe a h ≤ 15) ∧ (∀ h p, aPl a h = some p → h < aN a ∧ p < 24) ∧ (∀ h g p, aPl a h = some p → aPl a g = some p → h = g) ∧ (∀ h, aFc a h = true → h < aN a) ∧ ∀ h, aN a ≤ h → aSl a h = 0 ∧ aFe a h = 0
def CR (M : Mem) (r : Nat) (a : AR) : Prop := gI M r 0 = nI (aN a) ∧ gI M r 1 = nI (aMv a) ∧ gI M r 2 = nI (aPr a) ∧ gI M r 3 = nI (ms (aFc a) 12) ∧ (∀ h, h < aN a → gI M (r + 1) h = nI (aKd a h)) ∧ (∀ h, h < 12 → gI M (r + 2) h = pv (aPl a h)) ∧ (∀ h, h < 12 → gI M (r + 3) h = nI (aSl a h)) ∧ (∀ h, h < 12 → gI M (r + 4) h = nI (aFe a h)) ∧ (∀ p h, p < 24 → aPl a h = some p → gI M (r + 5) p = nI h) ∧ ∀ p, p < 24 → (∀ h, aPl a h ≠ some p) → gI M (r + 5) p = -1
def MR (N : Mem) (c : Nat) (a : AR) : Prop := gI N c 0 = nI (aN a) ∧ gI N c 1 = nI (aMv a) ∧ gI N c 2 = nI (aPr a) ∧ ∀ h, h < aN a → gI N c (3 + 5 * h) = nI (aKd a h) ∧ gI N c (3 + 5 * h + 1) = pv (aPl a h) ∧ gI N c (3 + 5 * h + 2) = b2 (aFc a h = true) ∧ gI N c (3 + 5 * h + 3) = nI (aSl a h) ∧ gI N c (3 + 5 * h + 4) = nI (aFe a h)
def STR (M N : Mem) : Prop := ∀ i, i < 7 → gI M 35 i = gI N 41 i
def TPR (M N : Mem) : Prop := ∃ t, t ≤ 120 ∧ gI M 23 1 = nI t ∧ gI N 36 10 = nI t ∧ ∀ j, j < t → ∃ c, c < 256 ∧ gI N 43 j = nI c ∧ gI M 24 j = (nI c).toInt8.toInt32
def SHR (M N : Mem) : Prop := ∀ s, s < 4 → ∃ b z, gI M (27 + 2 * s) 1 = nI b ∧ gI N 44 s = nI b ∧ (b = 0 ∨ b = 8 ∨ b = 16 ∨ b = 64) ∧ gI M (27 + 2 * s) 2 = nI z ∧ gI N 45 s = nI z ∧ z ≤ 40 ∧ (b = 0 → z = 0) ∧ ∀ i, i < 40 → gJ M (27 + 2 * s + 1) i = gJ N 46 (40 * s + i)
def KPR (M N : Mem) : Prop := zb (gI M 0 8) ∧ gI N 36 5 = gI M 0 8 ∧ (gI M 0 8 = 1 → ∃ b, WF b ∧ CR M 7 b ∧ MR N 38 b)
/-- THE RELATION -/
def Rel (M N : Mem) : Prop := (∃ a, WF a ∧ CR M 1 a ∧ MR N 37 a) ∧ KPR M N ∧ STR M N ∧ TPR M N ∧ SHR M N
/-- same answer, and the memories agree again -/
def Same (x y : Option (Int32 × Mem)) : Prop := ∃ v M N, x = some (v, M) ∧ y = some (v, N) ∧ Rel M N
/-- cells of the class that are no rail of now and no scratch -/
abbrev ckC (k : Nat) : Prop := k = 0 ∨ (7 ≤ k ∧ k < 13) ∨ k = 23 ∨ k = 24 ∨ (27 ≤ k ∧ k < 36)
abbrev ckN (k : Nat) : Prop := k = 38 ∨ k = 41 ∨ k = 43 ∨ k = 44 ∨ k = 45
def CO (M M2 : Mem) : Prop := (∀ k j, ckC k → gI M2 k j = gI M k j) ∧ ∀ k j, gJ M2 k j = gJ M k j
def NO (N N2 : Mem) : Prop := (∀ k j, ckN k → gI N2 k j = gI N k j) ∧ (∀ j, gJ N2 46 j = gJ N 46 j) ∧ gI N2 36 5 = gI N 36 5 ∧ gI N2 36 10 = gI N 36 10
theorem CO.rf (M : Mem) : CO M M := ⟨fun _ _ _ => rfl, fun _ _ => rfl⟩
theorem CO.tr {M M2 M3 : Mem} (h : CO M M2) (h2 : CO M2 M3) : CO M M3 := ⟨fun k j c => (h2.1 k j c).trans (h.1 k j c), fun k j => (h2.2 k j).trans (h.2 k j)⟩
theorem CO.sI {M M2 : Mem} (h : CO M M2) {k i : Nat} {v : Int32} (hk : ¬ ckC k) : CO M (sI M2 k i v) := by
  refine ⟨fun c j hc => ?_, fun c j => h.2 c j⟩
  have hne : ¬ (c = k ∧ j = i) := fun q => hk (by rw [← q.1]; exact hc)
  rw [gI_sI, if_neg hne]; exact h.1 c j hc
theorem CO.rI {M M2 : Mem} (h : CO M M2) {k : Nat} {f : Nat → Int32} (hk : ¬ ckC k) : CO M (rI M2 k f) := by
  refine ⟨fun c j hc => ?_, fun c j => h.2 c j⟩
  have hne : ¬ (c = k) := fun q => hk (by rw [← q]; exact hc)
  rw [gI_rI, if_neg hne]; exact h.1 c j hc
theorem NO.rf (N : Mem) : NO N N := ⟨fun _ _ _ => rfl, fun _ => rfl, rfl, rfl⟩
theorem NO.tr {N N2 N3 : Mem} (h : NO N N2) (h2 : NO N2 N3) : NO N N3 := ⟨fun k j c => (h2.1 k j c).trans (h.1 k j c), fun j => (h2.2.1 j).trans (h.2.1 j), h2.2.2.1.trans h.2.2.1, h2.2.2.2.trans h.2.2.2⟩
theorem NO.sI {N N2 : Mem} (h : NO N N2) {k i : Nat} {v : Int32} (hk : ¬ ckN k) (h36 : k = 36 → i ≠ 5 ∧ i ≠ 10) : NO N (sI N2 k i v) := by
  refine ⟨fun c j hc => ?_, fun j => h.2.1 j, ?_, ?_⟩
  · have hne : ¬ (c = k ∧ j = i) := fun q => hk (by rw [← q.1]; exact hc)
    rw [gI_sI, if_neg hne]; exact h.1 c j hc
  · have hne : ¬ (36 = k ∧ 5 = i) := fun q => (h36 q.1.symm).1 q.2.symm
    rw [gI_sI, if_neg hne]; exact h.2.2.1
  · have hne : ¬ (36 = k ∧ 10 = i) := fun q => (h36 q.1.symm).2 q.2.symm
    rw [gI_sI, if_neg hne]; exact h.2.2.2
theorem NO.sJ {N N2 : Mem} (h : NO N N2) {k i : Nat} {v : Int64} (hk : k ≠ 46) : NO N (sJ N2 k i v) := ⟨h.1, fun j => by
  have hne : ¬ (46 = k ∧ j = i) := fun q => hk q.1.symm
  rw [gJ_sJ, if_neg hne]; exact h.2.1 j, h.2.2.1, h.2.2.2⟩
theorem CR.of {M M2 : Mem} {r : Nat} {a : AR} (h : CR M r a) (e : ∀ k j, r ≤ k → k ≤ r + 5 → gI M2 k j = gI M k j) : CR M2 r a := by
  obtain ⟨h0, h1, h2, h3, h4, h5, h6, h7, h8, h9⟩ := h
  refine ⟨?_, ?_, ?_, ?_, ?_, ?_, ?_, ?_, ?_, ?_⟩
  · rw [e r 0 (by omega) (by omega)]; exact h0
  · rw [e r 1 (by omega) (by omega)]; exact h1
  · rw [e r 2 (by omega) (by omega)]; exact h2
  · rw [e r 3 (by omega) (by omega)]; exact h3
  · intro h hh; rw [e _ _ (by omega) (by omega)]; exact h4 h hh
  · intro h hh; rw [e _ _ (by omega) (by omega)]; exact h5 h hh
  · intro h hh; rw [e _ _ (by omega) (by omega)]; exact h6 h hh
  · intro h hh; rw [e _ _ (by omega) (by omega)]; exact h7 h hh
  · intro p h hp hh; rw [e _ _ (by omega) (by omega)]; exact h8 p h hp hh
  · intro p hp hh; rw [e _ _ (by omega) (by omega)]; exact h9 p hp hh
theorem MR.of {N N2 : Mem} {c : Nat} {a : AR} (h : MR N c a) (e : ∀ j, gI N2 c j = gI N c j) : MR N2 c a := by
  obtain ⟨h0, h1, h2, h3⟩ := h
  exact ⟨by rw [e]; exact h0, by rw [e]; exact h1, by rw [e]; exact h2, fun h hh => by rw [e, e, e, e, e]; exact h3 h hh⟩
theorem Rel.rail {M N M2 N2 : Mem} (h : Rel M N) (a : AR) (hw : WF a) (hc : CR M2 1 a) (hm : MR N2 37 a) (co : CO M M2) (no : NO N N2) : Rel M2 N2 := by
  obtain ⟨-, ⟨k1, k2, k3⟩, hst, ⟨t, t0, t1, t2, t3⟩, hsh⟩ := h
  refine ⟨⟨a, hw, hc, hm⟩, ⟨?_, ?_, ?_⟩, ?_, ⟨t, t0, ?_, ?_, ?_⟩, ?_⟩
  · rw [co.1 0 8 (by decide)]; exact k1
  · rw [co.1 0 8 (by decide), no.2.2.1]; exact k2
  · rw [co.1 0 8 (by decide)]
    intro q
    obtain ⟨b, b1, b2, b3⟩ := k3 q
    exact ⟨b, b1, b2.of (fun k j c1 c2 => co.1 k j (by omega)), b3.of (fun j => no.1 38 j (by decide))⟩
  · intro i hi; rw [co.1 35 i (by decide), no.1 41 i (by decide)]; exact hst i hi
  · rw [co.1 23 1 (by decide)]; exact t1
  · rw [no.2.2.2]; exact t2
  · intro j hj; rw [co.1 24 j (by decide), no.1 43 j (by decide)]; exact t3 j hj
  · intro s hs
    obtain ⟨b, z, q1, q2, q3, q4, q5, q6, q7, q8⟩ := hsh s hs
    refine ⟨b, z, ?_, ?_, q3, ?_, ?_, q6, q7, ?_⟩
    · rw [co.1 _ _ (by omega)]; exact q1
    · rw [no.1 44 _ (by decide)]; exact q2
    · rw [co.1 _ _ (by omega)]; exact q4
    · rw [no.1 45 _ (by decide)]; exact q5
    · intro i hi; rw [co.2, no.2.1]; exact q8 i hi
/-- only scratch has changed -/
theorem Rel.scr {M N M2 N2 : Mem} (h : Rel M N) (co : CO M M2) (c1 : ∀ k j, 1 ≤ k → k ≤ 6 → gI M2 k j = gI M k j) (no : NO N N2) (n1 : ∀ j, gI N2 37 j = gI N 37 j) : Rel M2 N2 := by
  obtain ⟨a, hw, hc, hm⟩ := h.1
  exact h.rail a hw (hc.of (fun k j q1 q2 => c1 k j q1 (by omega))) (hm.of n1) co no
theorem told_body (x v : Int32) (M : Mem) {i : Nat} (hi : i < 7) (hx : x = nI i) : Option.bind (if x < 0 then some M else if (7 : Int32) ≤ x then some M else if inR x 7 then if inR x 7 then bn (sI M 35 x.toNatClampNeg ((gI M 35 x.toNatClampNeg) + 1)) (fun m24 : Mem => some m24) else none else none) (fun y6 : Mem => some (v, y6)) = some (v, sI M 35 i (gI M 35 i + 1)) := by
  subst hx
  have h1 : ¬ nI i < 0 := nI_pos (by omega)
  have h2 : ¬ (7 : Int32) ≤ nI i := nI_ge (a := i) (b := 7) hi (by decide)
  have h3 : inR (nI i) 7 := inR_nI hi (by decide)
  rw [if_neg h1, if_neg h2, if_pos h3, if_pos h3, cl_nI (by omega)]
  rfl
theorem told_spec {v : Int32} {i : Nat} (hi : i < 7) (hv : (-1000000001) - v = nI i) (M : Mem) : f_X5_told v M = some (v, sI M 35 i (gI M 35 i + 1)) := by
  rw [f_X5_told, bn_e]
  exact told_body ((-1000000001) - v) v M hi hv
theorem finds_body (x v : Int32) (M : Mem) {i : Nat} (hi : i < 7) (hx : x = nI i) : (if inR x 7 then if inR x 7 then bn (sI M 41 x.toNatClampNeg ((gI M 41 x.toNatClampNeg) + 1)) (fun m12 : Mem => some (v, m12)) else none else none) = some (v, sI M 41 i (gI M 41 i + 1)) := by
  subst hx
  have h3 : inR (nI i) 7 := inR_nI hi (by decide)
  rw [if_pos h3, if_pos h3, cl_nI (by omega)]
  rfl
theorem finds_spec {v : Int32} {i : Nat} (hi : i < 7) (hv : (-1000000001) - v = nI i) (M : Mem) : f_X6_finds v M = some (v, sI M 41 i (gI M 41 i + 1)) := finds_body _ v M hi hv
theorem Rel.find {M N : Mem} (h : Rel M N) {i : Nat} (hi : i < 7) : Rel (sI M 35 i (gI M 35 i + 1)) (sI N 41 i (gI N 41 i + 1)) := by
  obtain ⟨⟨a, hw, hc, hm⟩, ⟨k1, k2, k3⟩, hst, ⟨t, t0, t1, t2, t3⟩, hsh⟩ := h
  refine ⟨⟨a, hw, hc.of (fun k j q1 q2 => by rw [gI_sI, if_neg (by omega)]), hm.of (fun j => by rw [gI_sI, if_neg (by omega)])⟩, ⟨?_, ?_, ?_⟩, ?_, ⟨t, t0, ?_, ?_, ?_⟩, ?_⟩
  · rw [gI_sI, if_neg (by omega)]; exact k1
  · rw [gI_sI, if_neg (by omega), gI_sI, if_neg (by omega)]; exact k2
  · rw [gI_sI, if_neg (by omega)]
    intro q
    obtain ⟨b, b1, b2, b3⟩ := k3 q
    exact ⟨b, b1, b2.of (fun k j c1 c2 => by rw [gI_sI, if_neg (by omega)]), b3.of (fun j => by rw [gI_sI, if_neg (by omega)])⟩
  · intro j hj
    rw [gI_sI, gI_sI]
    by_cases e : j = i
    · subst e; rw [if_pos ⟨rfl, rfl⟩, if_pos ⟨rfl, rfl⟩, hst j hj]
    · rw [if_neg (fun q => e q.2), if_neg (fun q => e q.2)]; exact hst j hj
  · rw [gI_sI, if_neg (by omega)]; exact t1
  · rw [gI_sI, if_neg (by omega)]; exact t2
  · intro j hj; rw [gI_sI, if_neg (by omega), gI_sI, if_neg (by omega)]; exact t3 j hj
  · intro s hs
    obtain ⟨b, z, q1, q2, q3, q4, q5, q6, q7, q8⟩ := hsh s hs
    refine ⟨b, z, ?_, ?_, q3, ?_, ?_, q6, q7, ?_⟩
    · rw [gI_sI]
      by_cases e : 27 + 2 * s = 35 ∧ 1 = i
      · omega
      · rw [if_neg e]; exact q1
    · rw [gI_sI, if_neg (by omega)]; exact q2
    · rw [gI_sI]
      by_cases e : 27 + 2 * s = 35 ∧ 2 = i
      · omega
      · rw [if_neg e]; exact q4
    · rw [gI_sI, if_neg (by omega)]; exact q5
    · exact q8
theorem same_find {M N : Mem} (h : Rel M N) {v : Int32} (i : Nat) (hi : i < 7) (hv : (-1000000001) - v = nI i) : Same (f_X5_told v M) (f_X6_finds v N) := ⟨v, _, _, told_spec hi hv M, finds_spec hi hv N, h.find hi⟩
theorem same_rd {M N : Mem} (h : Rel M N) (v : Int32) : Same (some (v, M)) (some (v, N)) := ⟨v, M, N, rfl, rfl, h⟩
/-! small tests, both sides -/
theorem bz (p : Prop) [Decidable p] : Option.bind (some (b2 p)) (fun r : Int32 => if zb r then some r else none) = some (b2 p) := by
  show (if zb (b2 p) then some (b2 p) else none) = _
  rw [if_pos (b2_z p)]
theorem bool_ix {x N : Int32} {n : Nat} (hN : N = nI n) (hn : n < 2147483648) : Option.bind (if x < 0 then some 0 else if N ≤ x then some 0 else some 1) (fun y : Int32 => if zb y then some y else none) = some (b2 (IX x n)) := by
  subst hN
  by_cases h1 : x < 0
  · rw [if_pos h1, b2_f]; rfl
    rw [i_lt] at h1
    exact fun q => by have := q.1; have e : (0 : Int32).toInt = 0 := rfl; omega
  · rw [if_neg h1]
    rw [i_lt] at h1
    have e : (0 : Int32).toInt = 0 := rfl
    by_cases h2 : nI n ≤ x
    · rw [if_pos h2, b2_f]; rfl
      rw [i_le, nI_t hn] at h2
      exact fun q => by have := q.2; omega
    · rw [if_neg h2, b2_t]; rfl
      rw [i_le, nI_t hn] at h2
      exact ⟨by omega, by omega⟩
theorem X5_isKind (x : Int32) : f_X5_isKind x = some (b2 (IX x 6)) := bool_ix rfl (by decide)
theorem X5_isPlace (x : Int32) : f_X5_isPlace x = some (b2 (IX x 24)) := bool_ix rfl (by decide)
theorem X5_isSheet (x : Int32) : f_X5_isSheet x = some (b2 (IX x 4)) := bool_ix rfl (by decide)
theorem in_ix (x : Int32) (n : Nat) (c : Int64) (hc : c.toInt = (n : Int) - 1) : f_X6_in x.toInt64 0 c = some (b2 (IX x n)) := by
  rw [in_spec, i_j, hc]
  refine congrArg some (b2_c ?_)
  have e : (0 : Int64).toInt = 0 := rfl
  unfold IX
  omega
theorem X6_isKind (x : Int32) : f_X6_isKind x = some (b2 (IX x 6)) := by unfold f_X6_isKind; rw [in_ix x 6 5 (by decide)]; exact bz _
theorem X6_isPlace (x : Int32) : f_X6_isPlace x = some (b2 (IX x 24)) := by unfold f_X6_isPlace; rw [in_ix x 24 23 (by decide)]; exact bz _
theorem X6_isOne (x : Int32) : f_X6_isOne x = some (b2 (IX x 4)) := by unfold f_X6_isOne; rw [in_ix x 4 3 (by decide)]; exact bz _
theorem X6_isManner (x : Int32) : f_X6_isManner x = some (b2 (IX x 3)) := by unfold f_X6_isManner; rw [in_ix x 3 2 (by decide)]; exact bz _
section RAIL
variable {M N : Mem} {a : AR}
theorem X0_has (hw : WF a) (hc : CR M 1 a) (x : Int32) : f_X0_has x M = some (b2 (IX x (aN a))) := bool_ix hc.1 (by have := hw.1; omega)
theorem X6_isHanger (hw : WF a) (hm : MR N 37 a) (x : Int32) : f_X6_isHanger x N = some (b2 (IX x (aN a))) := by
  unfold f_X6_isHanger
  rw [hm.1, in_ix x (aN a)]
  · exact bz _
  · have h := hw.1
    rw [i_j]
    rcases Nat.eq_zero_or_pos (aN a) with h0 | h0
    · rw [h0]; decide
    · rw [show nI (aN a) - 1 = nI (aN a - 1) from by
        have := nI_pred (aN a - 1); rwa [show aN a - 1 + 1 = aN a by omega] at this, nI_t (by omega)]
      omega
end RAIL
