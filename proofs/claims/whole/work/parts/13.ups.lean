/-! PURE: changing a rail, both sides -/
theorem if_c {α : Type} {p q : Prop} [Decidable p] [Decidable q] (h : p ↔ q) (x y : α) : (if p then x else y) = (if q then x else y) := by
  by_cases hp : p
  · rw [if_pos hp, if_pos (h.mp hp)]
  · rw [if_neg hp, if_neg (fun z => hp (h.mpr z))]
def uN (a : AR) (v : Nat) : AR := (v, aMv a, aPr a, aKd a, aPl a, aFc a, aSl a, aFe a)
def uMv (a : AR) (v : Nat) : AR := (aN a, v, aPr a, aKd a, aPl a, aFc a, aSl a, aFe a)
def uPr (a : AR) (v : Nat) : AR := (aN a, aMv a, v, aKd a, aPl a, aFc a, aSl a, aFe a)
def uKd (a : AR) (h v : Nat) : AR := (aN a, aMv a, aPr a, fun g => if g = h then v else aKd a g, aPl a, aFc a, aSl a, aFe a)
def uPl (a : AR) (h : Nat) (v : Option Nat) : AR := (aN a, aMv a, aPr a, aKd a, fun g => if g = h then v else aPl a g, aFc a, aSl a, aFe a)
def uFc (a : AR) (h : Nat) (v : Bool) : AR := (aN a, aMv a, aPr a, aKd a, aPl a, fun g => if g = h then v else aFc a g, aSl a, aFe a)
def uSl (a : AR) (h v : Nat) : AR := (aN a, aMv a, aPr a, aKd a, aPl a, aFc a, fun g => if g = h then v else aSl a g, aFe a)
def uFe (a : AR) (h v : Nat) : AR := (aN a, aMv a, aPr a, aKd a, aPl a, aFc a, aSl a, fun g => if g = h then v else aFe a g)
section UPS
variable {M N : Mem} {a : AR}
theorem W_uMv (hw : WF a) {v : Nat} (hv : v ≤ 9999) : WF (uMv a v) := ⟨hw.1, hv, hw.2.2⟩
theorem W_uPr (hw : WF a) {v : Nat} (hv : v ≤ 99) : WF (uPr a v) := ⟨hw.1, hw.2.1, hv, hw.2.2.2⟩
theorem W_uKd (hw : WF a) {h v : Nat} (hv : v ≤ 5) : WF (uKd a h v) := by
  obtain ⟨h0, h1, h2, h3, h4, h5, h6, h7⟩ := hw
  refine ⟨h0, h1, h2, fun g hg => ⟨?_, (h3 g hg).2⟩, h4, h5, h6, h7⟩
  show (if g = h then v else aKd a g) ≤ 5
  split
  · exact hv
  · exact (h3 g hg).1
theorem W_uSl (hw : WF a) {h v : Nat} (hh : h < aN a) (hv : v ≤ 9) : WF (uSl a h v) := by
  obtain ⟨h0, h1, h2, h3, h4, h5, h6, h7⟩ := hw
  refine ⟨h0, h1, h2, fun g hg => ⟨(h3 g hg).1, ?_, (h3 g hg).2.2⟩, h4, h5, h6, fun g hg => ⟨?_, (h7 g hg).2⟩⟩
  · show (if g = h then v else aSl a g) ≤ 9
    split
    · exact hv
    · exact (h3 g hg).2.1
  · show (if g = h then v else aSl a g) = 0
    have hg2 : aN a ≤ g := hg
    rw [if_neg (by omega)]
    exact (h7 g hg).1
theorem W_uFe (hw : WF a) {h v : Nat} (hh : h < aN a) (hv : v ≤ 15) : WF (uFe a h v) := by
  obtain ⟨h0, h1, h2, h3, h4, h5, h6, h7⟩ := hw
  refine ⟨h0, h1, h2, fun g hg => ⟨(h3 g hg).1, (h3 g hg).2.1, ?_⟩, h4, h5, h6, fun g hg => ⟨(h7 g hg).1, ?_⟩⟩
  · show (if g = h then v else aFe a g) ≤ 15
    split
    · exact hv
    · exact (h3 g hg).2.2
  · show (if g = h then v else aFe a g) = 0
    have hg2 : aN a ≤ g := hg
    rw [if_neg (by omega)]
    exact (h7 g hg).2
theorem W_uFc (hw : WF a) {h : Nat} {v : Bool} (hh : h < aN a) : WF (uFc a h v) := by
  obtain ⟨h0, h1, h2, h3, h4, h5, h6, h7⟩ := hw
  refine ⟨h0, h1, h2, h3, h4, h5, fun g hg => ?_, h7⟩
  have hg : (if g = h then v else aFc a g) = true := hg
  by_cases e : g = h
  · rw [e]; exact hh
  · rw [if_neg e] at hg; exact h6 g hg
theorem W_out (hw : WF a) {h : Nat} : WF (uPl a h none) := by
  obtain ⟨h0, h1, h2, h3, h4, h5, h6, h7⟩ := hw
  refine ⟨h0, h1, h2, h3, fun g p q => ?_, fun g g2 p q q2 => ?_, h6, h7⟩
  · have q : (if g = h then none else aPl a g) = some p := q
    by_cases e : g = h
    · rw [if_pos e] at q; cases q
    · rw [if_neg e] at q; exact h4 g p q
  · have q : (if g = h then none else aPl a g) = some p := q
    have q2 : (if g2 = h then none else aPl a g2) = some p := q2
    by_cases e : g = h
    · rw [if_pos e] at q; cases q
    · by_cases e2 : g2 = h
      · rw [if_pos e2] at q2; cases q2
      · rw [if_neg e] at q; rw [if_neg e2] at q2; exact h5 g g2 p q q2
theorem W_put (hw : WF a) {h p : Nat} (hh : h < aN a) (hp : p < 24) (hf : ∀ g, aPl a g ≠ some p) : WF (uPl a h (some p)) := by
  obtain ⟨h0, h1, h2, h3, h4, h5, h6, h7⟩ := hw
  refine ⟨h0, h1, h2, h3, fun g r q => ?_, fun g g2 r q q2 => ?_, h6, h7⟩
  · have q : (if g = h then some p else aPl a g) = some r := q
    by_cases e : g = h
    · rw [if_pos e] at q; cases q; rw [e]; exact ⟨hh, hp⟩
    · rw [if_neg e] at q; exact h4 g r q
  · have q : (if g = h then some p else aPl a g) = some r := q
    have q2 : (if g2 = h then some p else aPl a g2) = some r := q2
    by_cases e : g = h
    · by_cases e2 : g2 = h
      · rw [e, e2]
      · rw [if_pos e] at q; rw [if_neg e2] at q2; cases q; exact absurd q2 (hf g2)
    · by_cases e2 : g2 = h
      · rw [if_pos e2] at q2; rw [if_neg e] at q; cases q2; exact absurd q (hf g)
      · rw [if_neg e] at q; rw [if_neg e2] at q2; exact h5 g g2 r q q2
theorem C_uMv (hc : CR M 1 a) (v : Nat) : CR (sI M 1 1 (nI v)) 1 (uMv a v) := by
  obtain ⟨h0, h1, h2, h3, h4, h5, h6, h7, h8, h9⟩ := hc
  refine ⟨?_, ?_, ?_, ?_, fun h hh => ?_, fun h hh => ?_, fun h hh => ?_, fun h hh => ?_, fun p h hp hh => ?_, fun p hp hh => ?_⟩ <;> rw [gI_sI]
  · rw [if_neg (by decide)]; exact h0
  · rfl
  · rw [if_neg (by decide)]; exact h2
  · rw [if_neg (by decide)]; exact h3
  · rw [if_neg (by omega)]; exact h4 h hh
  · rw [if_neg (by omega)]; exact h5 h hh
  · rw [if_neg (by omega)]; exact h6 h hh
  · rw [if_neg (by omega)]; exact h7 h hh
  · rw [if_neg (by omega)]; exact h8 p h hp hh
  · rw [if_neg (by omega)]; exact h9 p hp hh
theorem C_uPr (hc : CR M 1 a) (v : Nat) : CR (sI M 1 2 (nI v)) 1 (uPr a v) := by
  obtain ⟨h0, h1, h2, h3, h4, h5, h6, h7, h8, h9⟩ := hc
  refine ⟨?_, ?_, ?_, ?_, fun h hh => ?_, fun h hh => ?_, fun h hh => ?_, fun h hh => ?_, fun p h hp hh => ?_, fun p hp hh => ?_⟩ <;> rw [gI_sI]
  · rw [if_neg (by decide)]; exact h0
  · rw [if_neg (by decide)]; exact h1
  · rfl
  · rw [if_neg (by decide)]; exact h3
  · rw [if_neg (by omega)]; exact h4 h hh
  · rw [if_neg (by omega)]; exact h5 h hh
  · rw [if_neg (by omega)]; exact h6 h hh
  · rw [if_neg (by omega)]; exact h7 h hh
  · rw [if_neg (by omega)]; exact h8 p h hp hh
  · rw [if_neg (by omega)]; exact h9 p hp hh
theorem C_uBk (hc : CR M 1 a) (h0 : Nat) (v : Bool) {b : Nat} (hb : b = ms (aFc (uFc a h0 v)) 12) : CR (sI M 1 3 (nI b)) 1 (uFc a h0 v) := by
  obtain ⟨h0, h1, h2, h3, h4, h5, h6, h7, h8, h9⟩ := hc
  refine ⟨?_, ?_, ?_, ?_, fun h hh => ?_, fun h hh => ?_, fun h hh => ?_, fun h hh => ?_, fun p h hp hh => ?_, fun p hp hh => ?_⟩ <;> rw [gI_sI]
  · rw [if_neg (by decide)]; exact h0
  · rw [if_neg (by decide)]; exact h1
  · rw [if_neg (by decide)]; exact h2
  · rw [if_pos (by decide), hb]
  · rw [if_neg (by omega)]; exact h4 h hh
  · rw [if_neg (by omega)]; exact h5 h hh
  · rw [if_neg (by omega)]; exact h6 h hh
  · rw [if_neg (by omega)]; exact h7 h hh
  · rw [if_neg (by omega)]; exact h8 p h hp hh
  · rw [if_neg (by omega)]; exact h9 p hp hh
theorem C_uKd (hc : CR M 1 a) (k v : Nat) : CR (sI M 2 k (nI v)) 1 (uKd a k v) := by
  obtain ⟨h0, h1, h2, h3, h4, h5, h6, h7, h8, h9⟩ := hc
  refine ⟨?_, ?_, ?_, ?_, fun h hh => ?_, fun h hh => ?_, fun h hh => ?_, fun h hh => ?_, fun p h hp hh => ?_, fun p hp hh => ?_⟩ <;> rw [gI_sI]
  · rw [if_neg (by omega)]; exact h0
  · rw [if_neg (by omega)]; exact h1
  · rw [if_neg (by omega)]; exact h2
  · rw [if_neg (by omega)]; exact h3
  · show _ = nI (if h = k then v else aKd a h)
    by_cases e : h = k
    · rw [if_pos ⟨rfl, e⟩, if_pos e]
    · rw [if_neg (fun q => e q.2), if_neg e]; exact h4 h hh
  · rw [if_neg (by omega)]; exact h5 h hh
  · rw [if_neg (by omega)]; exact h6 h hh
  · rw [if_neg (by omega)]; exact h7 h hh
  · rw [if_neg (by omega)]; exact h8 p h hp hh
  · rw [if_neg (by omega)]; exact h9 p hp hh
theorem C_uSl (hc : CR M 1 a) (k v : Nat) : CR (sI M 4 k (nI v)) 1 (uSl a k v) := by
  obtain ⟨h0, h1, h2, h3, h4, h5, h6, h7, h8, h9⟩ := hc
  refine ⟨?_, ?_, ?_, ?_, fun h hh => ?_, fun h hh => ?_, fun h hh => ?_, fun h hh => ?_, fun p h hp hh => ?_, fun p hp hh => ?_⟩ <;> rw [gI_sI]
  · rw [if_neg (by omega)]; exact h0
  · rw [if_neg (by omega)]; exact h1
  · rw [if_neg (by omega)]; exact h2
  · rw [if_neg (by omega)]; exact h3
  · rw [if_neg (by omega)]; exact h4 h hh
  · rw [if_neg (by omega)]; exact h5 h hh
  · show _ = nI (if h = k then v else aSl a h)
    by_cases e : h = k
    · rw [if_pos ⟨rfl, e⟩, if_pos e]
    · rw [if_neg (fun q => e q.2), if_neg e]; exact h6 h hh
  · rw [if_neg (by omega)]; exact h7 h hh
  · rw [if_neg (by omega)]; exact h8 p h hp hh
  · rw [if_neg (by omega)]; exact h9 p hp hh
theorem C_uFe (hc : CR M 1 a) (k v : Nat) : CR (sI M 5 k (nI v)) 1 (uFe a k v) := by
  obtain ⟨h0, h1, h2, h3, h4, h5, h6, h7, h8, h9⟩ := hc
  refine ⟨?_, ?_, ?_, ?_, fun h hh => ?_, fun h hh => ?_, fun h hh => ?_, fun h hh => ?_, fun p h hp hh => ?_, fun p hp hh => ?_⟩ <;> rw [gI_sI]
  · rw [if_neg (by omega)]; exact h0
  · rw [if_neg (by omega)]; exact h1
  · rw [if_neg (by omega)]; exact h2
  · rw [if_neg (by omega)]; exact h3
  · rw [if_neg (by omega)]; exact h4 h hh
  · rw [if_neg (by omega)]; exact h5 h hh
  · rw [if_neg (by omega)]; exact h6 h hh
  · show _ = nI (if h = k then v else aFe a h)
    by_cases e : h = k
    · rw [if_pos ⟨rfl, e⟩, if_pos e]
    · rw [if_neg (fun q => e q.2), if_neg e]; exact h7 h hh
  · rw [if_neg (by omega)]; exact h8 p h hp hh
  · rw [if_neg (by omega)]; exact h9 p hp hh
/-- one that is out is hung: class -/
theorem C_put (hc : CR M 1 a) {k p : Nat} (hk : aPl a k = none) (hf : ∀ g, aPl a g ≠ some p) : CR (sI (sI M 3 k (nI p)) 6 p (nI k)) 1 (uPl a k (some p)) := by
  obtain ⟨h0, h1, h2, h3, h4, h5, h6, h7, h8, h9⟩ := hc
  refine ⟨?_, ?_, ?_, ?_, fun h hh => ?_, fun h hh => ?_, fun h hh => ?_, fun h hh => ?_, fun r h hp hh => ?_, fun r hp hh => ?_⟩ <;> rw [gI_sI, gI_sI]
  · rw [if_neg (by omega), if_neg (by omega)]; exact h0
  · rw [if_neg (by omega), if_neg (by omega)]; exact h1
  · rw [if_neg (by omega), if_neg (by omega)]; exact h2
  · rw [if_neg (by omega), if_neg (by omega)]; exact h3
  · rw [if_neg (by omega), if_neg (by omega)]; exact h4 h hh
  · rw [if_neg (by omega)]
    show _ = pv (if h = k then some p else aPl a h)
    by_cases e : h = k
    · rw [if_pos ⟨rfl, e⟩, if_pos e]; rfl
    · rw [if_neg (fun q => e q.2), if_neg e]; exact h5 h hh
  · rw [if_neg (by omega), if_neg (by omega)]; exact h6 h hh
  · rw [if_neg (by omega), if_neg (by omega)]; exact h7 h hh
  · have hh : (if h = k then some p else aPl a h) = some r := hh
    by_cases e : h = k
    · rw [if_pos e] at hh; cases hh; rw [if_pos ⟨rfl, rfl⟩, e]
    · rw [if_neg e] at hh
      have hne : r ≠ p := fun q => hf h (by rw [← q]; exact hh)
      rw [if_neg (fun q => hne q.2), if_neg (by omega)]; exact h8 r h hp hh
  · have hne : r ≠ p := fun q => hh k (by show (if k = k then some p else aPl a k) = some r; rw [if_pos rfl, q])
    rw [if_neg (fun q => hne q.2), if_neg (by omega)]
    refine h9 r hp fun h q => ?_
    refine hh h ?_
    show (if h = k then some p else aPl a h) = some r
    rw [if_neg (fun e => by rw [e, hk] at q; cases q)]; exact q
/-- one is taken off: class -/
theorem C_off (hc : CR M 1 a) (hw : WF a) {k q0 : Nat} (hk : aPl a k = some q0) : CR (sI (sI M 6 q0 (-1)) 3 k (-1)) 1 (uPl a k none) := by
  obtain ⟨h0, h1, h2, h3, h4, h5, h6, h7, h8, h9⟩ := hc
  refine ⟨?_, ?_, ?_, ?_, fun h hh => ?_, fun h hh => ?_, fun h hh => ?_, fun h hh => ?_, fun r h hp hh => ?_, fun r hp hh => ?_⟩ <;> rw [gI_sI, gI_sI]
  · rw [if_neg (by omega), if_neg (by omega)]; exact h0
  · rw [if_neg (by omega), if_neg (by omega)]; exact h1
  · rw [if_neg (by omega), if_neg (by omega)]; exact h2
  · rw [if_neg (by omega), if_neg (by omega)]; exact h3
  · rw [if_neg (by omega), if_neg (by omega)]; exact h4 h hh
  · show _ = pv (if h = k then none else aPl a h)
    by_cases e : h = k
    · rw [if_pos ⟨rfl, e⟩, if_pos e]; rfl
    · rw [if_neg (fun q => e q.2), if_neg (by omega), if_neg e]; exact h5 h hh
  · rw [if_neg (by omega), if_neg (by omega)]; exact h6 h hh
  · rw [if_neg (by omega), if_neg (by omega)]; exact h7 h hh
  · have hh : (if h = k then none else aPl a h) = some r := hh
    by_cases e : h = k
    · rw [if_pos e] at hh; cases hh
    · rw [if_neg e] at hh
      have hne : r ≠ q0 := fun q => e (hw.2.2.2.2.2.1 h k q0 (by rw [← q]; exact hh) hk)
      rw [if_neg (by omega), if_neg (fun q => hne q.2)]; exact h8 r h hp hh
  · rw [if_neg (by omega)]
    by_cases e : r = q0
    · rw [if_pos ⟨rfl, e⟩]
    · rw [if_neg (fun q => e q.2)]
      refine h9 r hp fun h q => ?_
      refine hh h ?_
      show (if h = k then none else aPl a h) = some r
      rw [if_neg (fun e2 => e (by rw [e2, hk] at q; cases q; rfl))]; exact q
theorem M_uMv (hm : MR N 37 a) (v : Nat) : MR (sI N 37 1 (nI v)) 37 (uMv a v) := by
  obtain ⟨h0, h1, h2, h3⟩ := hm
  refine ⟨?_, ?_, ?_, fun h hh => ?_⟩
  · rw [gI_sI, if_neg (by omega)]; exact h0
  · rw [gI_sI, if_pos ⟨rfl, rfl⟩]; rfl
  · rw [gI_sI, if_neg (by omega)]; exact h2
  · rw [gI_sI, gI_sI, gI_sI, gI_sI, gI_sI, if_neg (by omega), if_neg (by omega), if_neg (by omega), if_neg (by omega), if_neg (by omega)]; exact h3 h hh
theorem M_uPr (hm : MR N 37 a) (v : Nat) : MR (sI N 37 2 (nI v)) 37 (uPr a v) := by
  obtain ⟨h0, h1, h2, h3⟩ := hm
  refine ⟨?_, ?_, ?_, fun h hh => ?_⟩
  · rw [gI_sI, if_neg (by omega)]; exact h0
  · rw [gI_sI, if_neg (by omega)]; exact h1
  · rw [gI_sI, if_pos ⟨rfl, rfl⟩]; rfl
  · rw [gI_sI, gI_sI, gI_sI, gI_sI, gI_sI, if_neg (by omega), if_neg (by omega), if_neg (by omega), if_neg (by omega), if_neg (by omega)]; exact h3 h hh
/-- a number of one hanger is changed: reference -/
theorem M_at (hm : MR N 37 a) {k w : Nat} {v : Int32} {b : AR} (hw : w < 5) (e1 : aN b = aN a) (e2 : aMv b = aMv a) (e3 : aPr b = aPr a) (hb : ∀ h, h < aN a → h ≠ k → aKd b h = aKd a h ∧ aPl b h = aPl a h ∧ aFc b h = aFc a h ∧ aSl b h = aSl a h ∧ aFe b h = aFe a h)
    (hk : k < aN a → (if w = 0 then v else nI (aKd a k)) = nI (aKd b k) ∧ (if w = 1 then v else pv (aPl a k)) = pv (aPl b k) ∧ (if w = 2 then v else b2 (aFc a k = true)) = b2 (aFc b k = true) ∧ (if w = 3 then v else nI (aSl a k)) = nI (aSl b k) ∧ (if w = 4 then v else nI (aFe a k)) = nI (aFe b k)) : MR (sI N 37 (3 + 5 * k + w) v) 37 b := by
  obtain ⟨h0, h1, h2, h3⟩ := hm
  refine ⟨?_, ?_, ?_, fun h hh => ?_⟩
  · rw [gI_sI, if_neg (by omega), e1]; exact h0
  · rw [gI_sI, if_neg (by omega), e2]; exact h1
  · rw [gI_sI, if_neg (by omega), e3]; exact h2
  · rw [e1] at hh
    obtain ⟨g0, g1, g2, g3, g4⟩ := h3 h hh
    rw [gI_sI, gI_sI, gI_sI, gI_sI, gI_sI]
    by_cases e : h = k
    · subst e
      obtain ⟨q0, q1, q2, q3, q4⟩ := hk hh
      refine ⟨?_, ?_, ?_, ?_, ?_⟩
      · rw [← q0, ← g0]; exact if_c (by omega) _ _
      · rw [← q1, ← g1]; exact if_c (by omega) _ _
      · rw [← q2, ← g2]; exact if_c (by omega) _ _
      · rw [← q3, ← g3]; exact if_c (by omega) _ _
      · rw [← q4, ← g4]; exact if_c (by omega) _ _
    · obtain ⟨q0, q1, q2, q3, q4⟩ := hb h hh e
      rw [if_neg (by omega), if_neg (by omega), if_neg (by omega), if_neg (by omega), if_neg (by omega), q0, q1, q2, q3, q4]
      exact ⟨g0, g1, g2, g3, g4⟩
theorem M_uKd (hm : MR N 37 a) (k v : Nat) : MR (sI N 37 (3 + 5 * k) (nI v)) 37 (uKd a k v) :=
  M_at (w := 0) hm (by decide) rfl rfl rfl (fun h hh e => ⟨if_neg e, rfl, rfl, rfl, rfl⟩) (fun hk => ⟨by rw [if_pos rfl]; show nI v = nI (if k = k then v else _); rw [if_pos rfl], rfl, rfl, rfl, rfl⟩)
theorem M_uPl (hm : MR N 37 a) (k : Nat) (v : Option Nat) : MR (sI N 37 (3 + 5 * k + 1) (pv v)) 37 (uPl a k v) :=
  M_at (w := 1) hm (by decide) rfl rfl rfl (fun h hh e => ⟨rfl, if_neg e, rfl, rfl, rfl⟩) (fun hk => ⟨rfl, by rw [if_pos rfl]; show pv v = pv (if k = k then v else _); rw [if_pos rfl], rfl, rfl, rfl⟩)
theorem M_uFc (hm : MR N 37 a) (k : Nat) (v : Bool) : MR (sI N 37 (3 + 5 * k + 2) (b2 (v = true))) 37 (uFc a k v) :=
  M_at (w := 2) hm (by decide) rfl rfl rfl (fun h hh e => ⟨rfl, rfl, if_neg e, rfl, rfl⟩) (fun hk => ⟨rfl, rfl, by rw [if_pos rfl]; refine b2_c ?_; show _ ↔ (if k = k then v else _) = true; rw [if_pos rfl], rfl, rfl⟩)
theorem M_uSl (hm : MR N 37 a) (k v : Nat) : MR (sI N 37 (3 + 5 * k + 3) (nI v)) 37 (uSl a k v) :=
  M_at (w := 3) hm (by decide) rfl rfl rfl (fun h hh e => ⟨rfl, rfl, rfl, if_neg e, rfl⟩) (fun hk => ⟨rfl, rfl, rfl, by rw [if_pos rfl]; show nI v = nI (if k = k then v else _); rw [if_pos rfl], rfl⟩)
theorem M_uFe (hm : MR N 37 a) (k v : Nat) : MR (sI N 37 (3 + 5 * k + 4) (nI v)) 37 (uFe a k v) :=
  M_at (w := 4) hm (by decide) rfl rfl rfl (fun h hh e => ⟨rfl, rfl, rfl, rfl, if_neg e⟩) (fun hk => ⟨rfl, rfl, rfl, rfl, by rw [if_pos rfl]; show nI v = nI (if k = k then v else _); rw [if_pos rfl]⟩)
end UPS
