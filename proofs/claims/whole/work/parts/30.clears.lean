/-! PURE: a rail of which some were taken; clears, read -/
section CLEARS
variable {M N : Mem} {a b : AR}
theorem tan_sym (a : AR) (h o : Nat) : tan a h o = tan a o h := by
  unfold tan tanW
  cases e1 : aPl a h with
  | none => cases e2 : aPl a o <;> simp
  | some p =>
    cases e2 : aPl a o with
    | none => simp
    | some q =>
      dsimp only
      rw [ds_comm p q, show (o != h) = (h != o) by rw [bne_comm], show (aFc a h == aFc a o) = (aFc a o == aFc a h) by rw [BEq.comm], Bool.or_comm]
/-- b is a of which those outside L were taken -/
def Jr (a b : AR) (L : Nat) : Prop := aN b = aN a ∧ aKd b = aKd a ∧ aFc b = aFc a ∧ (∀ i, aPl b i = if L.testBit i = true then aPl a i else none) ∧ (∀ i, L.testBit i = true → aSl b i = aSl a i) ∧ SS L (ms (onA a) 12)
theorem Jr_on {L : Nat} (j : Jr a b L) (i : Nat) : onA b i = L.testBit i := by
  unfold onA
  rw [j.2.2.2.1 i]
  by_cases q : L.testBit i = true
  · rw [if_pos q, q]
    have := j.2.2.2.2.2 i q
    rw [tb_ms] at this
    have h2 : onA a i = true := by
      cases e : onA a i with
      | true => rfl
      | false => rw [e] at this; simp at this
    exact h2
  · rw [if_neg q]
    have : L.testBit i = false := by simpa using q
    rw [this]; rfl
theorem Jr_tan {L : Nat} (j : Jr a b L) {i : Nat} (hi : L.testBit i = true) (o : Nat) : tan b i o = (L.testBit o && tan a i o) := by
  obtain ⟨j1, j2, j3, j4, j5, j6⟩ := j
  show (match aPl b i with | none => false | some p => tanW b i (aKd b i) p o) = (L.testBit o && (match aPl a i with | none => false | some p => tanW a i (aKd a i) p o))
  unfold tanW
  rw [j4 i, if_pos hi, j2, j3, j5 i hi, j4 o]
  by_cases q : L.testBit o = true
  · rw [if_pos q, j5 o q, q]; simp
  · rw [if_neg q]
    have : L.testBit o = false := by simpa using q
    rw [this]
    cases aPl a i <;> simp
theorem Jr_tm {L : Nat} (j : Jr a b L) {i : Nat} (hi : L.testBit i = true) : tm b i = tm a i &&& L := by
  refine Nat.eq_of_testBit_eq fun o => ?_
  unfold tm
  rw [tb_ms, Nat.testBit_and, tb_ms, Jr_tan j hi, Bool.and_comm (L.testBit o), Bool.and_assoc]
theorem SS_and {m L c : Nat} : SS c (m &&& L) ↔ SS c m ∧ SS c L := by
  constructor
  · intro h
    exact ⟨fun i q => by have := h i q; rw [Nat.testBit_and] at this; simp at this; exact this.1, fun i q => by have := h i q; rw [Nat.testBit_and] at this; simp at this; exact this.2⟩
  · intro h i q
    rw [Nat.testBit_and, h.1 i q, h.2 i q]; rfl
theorem and_of_SS {m L : Nat} (h : SS m L) : m &&& L = m := SS.anti (SS_and.mp (SS.rf _)).1 (SS_and.mpr ⟨SS.rf m, h⟩)
theorem Jr_L {L : Nat} (j : Jr a b L) : L < 4096 := SS_lt j.2.2.2.2.2 (ms12 _)
theorem Jr_12 {L : Nat} (j : Jr a b L) {i : Nat} (hi : L.testBit i = true) : i < 12 := by
  rcases Nat.lt_or_ge i 12 with y | y
  · exact y
  · rw [tb_big (Jr_L j) y] at hi; cases hi
theorem Jr_cl {L k : Nat} (j : Jr a b L) (hL : Clo a L) (hk : L.testBit k = true) : cl b k = cl a k ∧ SS (cl a k) L := by
  have k12 := Jr_12 j hk
  obtain ⟨c1, c2, c3, c4⟩ := cl_is a k12
  have hs : SS (cl a k) L := c4 L hL (SS_pow.mpr hk)
  refine ⟨IsCl.one (cl_is b k12) ⟨c1, c2, fun i hi q => ?_, fun d hd hkd => ?_⟩, hs⟩
  · rw [Jr_tm j (hs i q)]
    exact (SS_and.mp (SS.rf _)).1.tr (c3 i hi q)
  · have : Clo a (d &&& L) := fun i hi q => by
      have qL : L.testBit i = true := by rw [Nat.testBit_and] at q; simp at q; exact q.2
      have qd : d.testBit i = true := by rw [Nat.testBit_and] at q; simp at q; exact q.1
      have h1 := hd i hi qd
      rw [Jr_tm j qL, and_of_SS (hL i hi qL)] at h1
      exact SS_and.mpr ⟨h1, hL i hi qL⟩
    exact (c4 _ this (SS_and.mpr ⟨hkd, SS_pow.mpr hk⟩)).tr (SS_and.mp (SS.rf _)).1
theorem cm_J {L k m : Nat} (j : Jr a b L) (hm : m < 2) (hL : m = 0 → Clo a L) (hk : L.testBit k = true) : cm b k m = cm a k m &&& L := by
  match m, hm with
  | 0, _ =>
    obtain ⟨e1, e2⟩ := Jr_cl j (hL rfl) hk
    show cl b k = cl a k &&& L
    rw [e1, and_of_SS e2]
  | 1, _ =>
    show tm b k ||| 2 ^ k = (tm a k ||| 2 ^ k) &&& L
    rw [Jr_tm j hk]
    refine Nat.eq_of_testBit_eq fun o => ?_
    rw [Nat.testBit_or, Nat.testBit_and, Nat.testBit_and, Nat.testBit_or, tb_pow]
    by_cases e : k = o
    · subst e; rw [hk]; simp
    · simp [e]
theorem fa_J {L c : Nat} (j : Jr a b L) (hc : SS c L) (h m : Nat) : fa b c h m = fa a c h m := by
  unfold fa
  rw [j.1]
  refine ms_ext fun i _ => ?_
  unfold fl
  rw [j.2.1]
  cases e : c.testBit i with
  | false => rfl
  | true => rw [j.2.2.2.2.1 i (hc i e)]
theorem J_take {L k m : Nat} (hw : WF a) (j : Jr a b L) : Jr a (tA b k m) (df L (cm b k m)) := by
  obtain ⟨j1, j2, j3, j4, j5, j6⟩ := j
  refine ⟨j1, j2, j3, fun i => ?_, fun i hi => ?_, (df_sub _ _).tr j6⟩
  · show (if i < aN b ∧ (cm b k m).testBit i = true then none else aPl b i) = _
    rw [tb_df, j4 i]
    cases e : L.testBit i with
    | false => simp
    | true =>
      have hi : i < aN b := by
        rw [j1]
        have := j6 i e
        rw [tb_ms] at this
        have h2 : onA a i = true := by
          cases e : onA a i with
          | true => rfl
          | false => rw [e] at this; simp at this
        exact on_lt hw h2
      cases e2 : (cm b k m).testBit i <;> simp [hi]
  · rw [tb_df] at hi
    have h1 : L.testBit i = true := by cases e : L.testBit i with
      | true => rfl
      | false => rw [e] at hi; cases hi
    have h2 : (cm b k m).testBit i = false := by cases e : (cm b k m).testBit i with
      | false => rfl
      | true => rw [h1, e] at hi; cases hi
    show (if i < aN b ∧ (fa b (cm b k m) k m).testBit i = true then 0 else aSl b i) = _
    rw [if_neg, j5 i h1]
    intro z
    have := z.2
    unfold fa fl at this
    rw [tb_ms, h2] at this
    simp at this
theorem Jr_0 (a : AR) (hw : WF a) : Jr a a (ms (onA a) 12) := by
  refine ⟨rfl, rfl, rfl, fun i => ?_, fun i _ => rfl, SS.rf _⟩
  by_cases q : (ms (onA a) 12).testBit i = true
  · rw [if_pos q]
  · rw [if_neg q]
    cases e : aPl a i with
    | none => rfl
    | some p =>
      exfalso
      apply q
      have h1 : onA a i = true := by unfold onA; rw [e]; rfl
      have h2 := on_lt hw h1
      have h3 := hw.1
      rw [tb_ms, h1]; simp; omega
theorem Clo_up (a : AR) (hw : WF a) : Clo a (ms (onA a) 12) := by
  intro i hi q o ho
  unfold tm at ho
  rw [tb_ms] at ho
  rw [tan_sym] at ho
  rw [tb_ms]
  have h1 : o < 12 := by simp at ho; exact ho.1
  have h2 : tan a o i = true := by simp at ho; exact ho.2
  have h3 : onA a o = true := by
    unfold onA
    unfold tan at h2
    cases e : aPl a o with
    | none => rw [e] at h2; cases h2
    | some p => rfl
  rw [h3]; simp [h1]
theorem Clo_df {L k : Nat} (hk : k < 12) (hL : Clo a L) : Clo a (df L (cl a k)) := by
  intro i hi q o ho
  rw [tb_df] at q ⊢
  have h1 : L.testBit i = true := by cases e : L.testBit i with
    | true => rfl
    | false => rw [e] at q; cases q
  have h2 : (cl a k).testBit i = false := by cases e : (cl a k).testBit i with
    | false => rfl
    | true => rw [h1, e] at q; cases q
  have h3 := hL i hi h1 o ho
  rw [h3]
  cases e : (cl a k).testBit o with
  | false => rfl
  | true =>
    exfalso
    unfold tm at ho
    rw [tb_ms] at ho
    simp at ho
    have h4 := (cl_is a hk).2.2.1 o ho.1 e i (by unfold tm; rw [tb_ms, tan_sym, ho.2]; simp [hi])
    rw [h2] at h4; cases h4
def cL (a : AR) (m : Nat) : Nat → Nat
  | 0 => ms (onA a) 12
  | k + 1 => if (cL a m k).testBit k = true then df (cL a m k) (cm a k m &&& cL a m k) else cL a m k
def cS (a : AR) (m : Nat) : Nat → Nat
  | 0 => 0
  | k + 1 => if (cL a m k).testBit k = true then cS a m k + pc (fa a (cm a k m &&& cL a m k) k m) else cS a m k
end CLEARS
