/-! PURE: what comes with one, what falls, who may be taken -/
section TAKE
variable {M N : Mem} {a : AR}
def hV (q : Nat) : Nat := if q = 1 then 3 else if q = 2 then 8 else if q = 3 then 2 else if q = 4 then 7 else if q = 5 then 9 else 5
def nV (q : Nat) : Nat := if q = 2 then 2 else if q = 3 then 2 else if q = 5 then 2 else 1
theorem hV_le : ∀ q, q < 6 → hV q ≤ 9 := by decide
theorem nV_le : ∀ q, q < 6 → nV q ≤ 2 := by decide
theorem hV_C : ∀ q, q < 6 → f_X5_holds (nI q) = some (nI (hV q)) := by decide
theorem nV_C : ∀ q, q < 6 → f_X5_need (nI q) = some (nI (nV q)) := by decide
theorem kd6 (hw : WF a) {k : Nat} (hk : k < aN a) : aKd a k < 6 := by have := (hw.2.2.2.1 k hk).1; omega
theorem hV_N (hw : WF a) (hm : MR N 37 a) {k : Nat} (hk : k < aN a) : f_X6_holds (nI k) N = some (nI (hV (aKd a k))) := by
  obtain ⟨v, _, h1, h2⟩ := holds_eq hw hm hk
  rw [hV_C _ (kd6 hw hk)] at h1
  rw [h2, h1]
theorem nV_N (hw : WF a) (hm : MR N 37 a) {k : Nat} (hk : k < aN a) : f_X6_needs (nI k) N = some (nI (nV (aKd a k))) := by
  obtain ⟨v, _, h1, h2⟩ := need_eq hw hm hk
  rw [nV_C _ (kd6 hw hk)] at h1
  rw [h2, h1]
/-- those that come with h, by manner m -/
def cm (a : AR) (h m : Nat) : Nat := if m = 0 then cl a h else if m = 1 then tm a h ||| 2 ^ h else 2 ^ h
theorem cm_lt (a : AR) {h : Nat} (hh : h < 12) (m : Nat) : cm a h m < 4096 := by
  unfold cm
  split
  · exact (cl_is a hh).1
  · split
    · exact or_lt (tm_lt a h) (pow_lt hh)
    · exact pow_lt hh
theorem X3_coming {h m : Nat} (hh : h < 12) (hm : m < 3) : f_X3_coming (nI h) (nI m) (LK a M) = some (nI (cm a h m)) := by
  unfold f_X3_coming cm
  rw [X3_heapOf hh]
  match m, hm with
  | 0, _ => rfl
  | 1, _ =>
    have g : ¬ nI 1 = 0 := by decide
    have g2 : nI 1 = 1 := rfl
    rw [if_neg g, if_pos g2, if_pos (inR_nI hh (by decide)), cl_nI (by omega), LK_22 a M hh, sh1 h (by omega), nI_or]
    rfl
  | 2, _ =>
    have g : ¬ nI 2 = 0 := by decide
    have g2 : ¬ nI 2 = 1 := by decide
    rw [if_neg g, if_neg g2, sh1 h (by omega)]
    rfl
theorem X6_comesBy (hw : WF a) (hm : MR N 37 a) {h m : Nat} (hh : h < aN a) (h3 : m < 3) : f_X6_comesBy (nI h) (nI m) N = some (nI (cm a h m)) := by
  have hn := hw.1
  unfold f_X6_comesBy cm
  rw [X6_heapOf hw hm (by omega), X6_tangledWith hw hm hh]
  match m, h3 with
  | 0, _ => rfl
  | 1, _ =>
    have g : ¬ nI 1 = 0 := by decide
    have g2 : nI 1 = 1 := rfl
    rw [if_neg g, if_pos g2, sh1 h (by omega)]
    simp only [Option.bind_some]
    rw [nI_or]
    rfl
  | 2, _ =>
    have g : ¬ nI 2 = 0 := by decide
    have g2 : ¬ nI 2 = 1 := by decide
    rw [if_neg g, if_neg g2, sh1 h (by omega)]
    rfl
/-- of those in c, which fall when h is taken by manner m -/
def fl (a : AR) (c h m i : Nat) : Bool := c.testBit i && ((decide (i ≠ h) || decide (m = 1)) && decide (hV (aKd a i) < aSl a i))
def fa (a : AR) (c h m : Nat) : Nat := ms (fl a c h m) (aN a)
theorem fa_lt (hw : WF a) (c h m : Nat) : fa a c h m < 4096 := Nat.lt_of_lt_of_le (ms_lt _ _) (Nat.pow_le_pow_right (by decide) hw.1 : 2 ^ aN a ≤ 2 ^ 12)
theorem X0_falling (hw : WF a) (hc : CR M 1 a) {c h m : Nat} (h4 : c < 4096) (hh : h < 12) (h3 : m < 3) : f_X0_falling (nI c) (nI h) (nI m) M = some (nI (fa a c h m)) := by
  unfold f_X0_falling
  have hn := hw.1
  refine (lp_go (r := nI (fa a c h m)) (fun k => (nI (ms (fl a c h m) k), nI k)) (aN a) rfl ?_ ?_ (by rw [FU_v]; omega)).trans rfl
  · intro k hk
    unfold f_X0_falling_L6
    dsimp only
    have hs := sl9 hw k
    have hv := hV_le _ (kd6 hw hk)
    rw [hc.1, if_neg (nI_ge hk (by omega)), X5_contains (by omega) (by omega)]
    simp only [Option.bind_some, bn_e, if_pos (inR_nI (show k < 12 by omega) (show 12 < 2147483648 by decide)), cl_nI (show k < 2147483648 by omega), C_kd hc hk, C_sl hc (show k < 12 by omega), hV_C _ (kd6 hw hk), sh1 k (show k < 31 by omega), nI_or, nI_1]
    rw [ms, fl]
    have e1 : (nI k = nI h) = (k = h) := propext (nI_eq (by omega) (by omega))
    have e2 : (nI m = 1) = (m = 1) := propext (nI_eq (b := 1) (by omega) (by decide))
    have e3 : (nI (aSl a k) ≤ nI (hV (aKd a k))) = ¬ (hV (aKd a k) < aSl a k) := by
      by_cases q : hV (aKd a k) < aSl a k
      · exact propext ⟨fun z => absurd z (nI_ge q (by omega)), fun z => absurd q z⟩
      · exact propext ⟨fun _ => q, fun _ => nI_le (by omega) (by omega)⟩
    simp only [e1, e2, e3, b2_0]
    by_cases q1 : c.testBit k = true
    · by_cases q4 : hV (aKd a k) < aSl a k
      · have q5 : ¬ aSl a k ≤ hV (aKd a k) := Nat.not_le.mpr q4
        by_cases q2 : k = h
        · subst q2
          by_cases q3 : m = 1
          · simp [q1, q3, q4, q5]
          · simp [q1, q3]
        · simp [q1, q2, q4, q5]
      · have q5 : aSl a k ≤ hV (aKd a k) := Nat.le_of_not_lt q4
        by_cases q2 : k = h
        · subst q2
          by_cases q3 : m = 1
          · simp [q1, q3, q4, q5]
          · simp [q1, q3]
        · simp [q1, q2, q4, q5]
    · simp [q1]
  · unfold f_X0_falling_L6
    dsimp only
    rw [hc.1, if_pos (nI_le (Nat.le_refl _) (by omega))]; rfl
theorem X6_fallers (hw : WF a) (hm : MR N 37 a) {h m : Nat} (hh : h < aN a) (h3 : m < 3) : f_X6_fallers (nI h) (nI m) N = some (nI (fa a (cm a h m) h m)) := by
  unfold f_X6_fallers
  have hn := hw.1
  have h4 := cm_lt a (show h < 12 by omega) m
  rw [X6_comesBy hw hm hh h3, Option.bind_some]
  generalize cm a h m = c at h4
  refine (lp_go (r := nI (fa a c h m)) (fun k => (nI (ms (fl a c h m) k), nI k)) (aN a) rfl ?_ ?_ (by rw [FU_v]; omega)).trans rfl
  · intro k hk
    unfold f_X6_fallers_L13
    dsimp only
    have hs := sl9 hw k
    have hv := hV_le _ (kd6 hw hk)
    rw [hm.1, if_neg (nI_ge hk (by omega)), bit_at (by omega) (by omega), N_sl hw hm hk, hV_N hw hm hk]
    simp only [Option.bind_some, bn_e, sh1 k (show k < 31 by omega), nI_1]
    rw [ms, fl]
    have e1 : (nI k = nI h) = (k = h) := propext (nI_eq (by omega) (by omega))
    have e2 : (nI m = 1) = (m = 1) := propext (nI_eq (b := 1) (by omega) (by decide))
    have e3 : (nI (aSl a k) ≤ nI (hV (aKd a k))) = ¬ (hV (aKd a k) < aSl a k) := by
      by_cases q : hV (aKd a k) < aSl a k
      · exact propext ⟨fun z => absurd z (nI_ge q (by omega)), fun z => absurd q z⟩
      · exact propext ⟨fun _ => q, fun _ => nI_le (by omega) (by omega)⟩
    have z0 : ∀ x, nI x ||| 0 = nI x := fun x => (nI_or x 0).trans (by rw [Nat.or_zero])
    simp only [e1, e2, e3, b2_1]
    by_cases q1 : c.testBit k = true
    · by_cases q4 : hV (aKd a k) < aSl a k
      · have q5 : ¬ aSl a k ≤ hV (aKd a k) := Nat.not_le.mpr q4
        by_cases q2 : k = h
        · subst q2
          by_cases q3 : m = 1
          · simp [q1, q3, q4, q5, z0, nI_or]
          · simp [q1, q3, z0]
        · simp [q1, q2, q4, q5, z0, nI_or]
      · have q5 : aSl a k ≤ hV (aKd a k) := Nat.le_of_not_lt q4
        by_cases q2 : k = h
        · subst q2
          by_cases q3 : m = 1
          · simp [q1, q3, q4, q5, z0, nI_or]
          · simp [q1, q3, z0]
        · simp [q1, q2, q4, q5, z0, nI_or]
    · simp [q1, z0]
  · unfold f_X6_fallers_L13
    dsimp only
    rw [hm.1, if_pos (nI_le (Nat.le_refl _) (by omega))]; rfl
/-- free places beside p -/
def fr (a : AR) (p : Nat) : Bool := decide (p < 24) && (whoA a p).isNone
def rm (a : AR) (p : Nat) : Nat := (if 0 < p ∧ fr a (p - 1) = true then 1 else 0) + (if fr a (p + 1) = true then 1 else 0)
def room (a : AR) (h : Nat) : Bool := match aPl a h with
  | none => false
  | some p => decide (nV (aKd a h) ≤ rm a p)
theorem fr_C (hw : WF a) (hc : CR M 1 a) {p : Nat} (hp : p < 25) {β : Type} (x y : β) : (if b2 (IX (nI p) 24) = 0 then some x else Option.bind (f_X0_isFree (nI p) M) (fun r2 : Int32 => if r2 = 0 then some x else some y)) = some (if fr a p = true then y else x) := by
  simp only [b2_0]
  by_cases q : p < 24
  · rw [if_neg (not_not_intro ((ix_nI (by omega)).mpr q)), X0_isFree hw hc q, Option.bind_some]
    simp only [b2_0]
    unfold fr
    cases e : whoA a p with
    | none => rw [if_neg (by simp), if_pos (by simp [q])]
    | some h => rw [if_pos (by simp), if_neg (by simp)]
  · rw [if_pos (fun z => q ((ix_nI (by omega)).mp z)), if_neg (by unfold fr; simp [q])]
theorem fr_N (hw : WF a) (hm : MR N 37 a) {p : Nat} (hp : p < 25) : f_X6_isFree (nI p) N = some (b2 (fr a p = true)) := by
  by_cases q : p < 24
  · rw [X6_isFree hw hm q]
    unfold fr
    cases e : whoA a p with
    | none => rw [b2_t rfl, b2_t (by simp [q])]
    | some h => rw [b2_f (by simp), b2_f (by simp)]
  · rw [X6_isFree_no hw hm (fun z => q ((ix_nI (by omega)).mp z)), b2_f (by unfold fr; simp [q])]
theorem m1_nI {p : Nat} (h : 0 < p) (hp : p < 2147483648) : nI p - 1 = nI (p - 1) := pk_sub (b := 1) h
theorem nix_m1 : ¬ IX (nI 0 - 1) 24 := by decide
theorem X0_hasRoom (hw : WF a) (hc : CR M 1 a) {h p : Nat} (hh : h < aN a) (e : aPl a h = some p) : f_X0_hasRoom (nI h) M = some (b2 (room a h = true)) := by
  have hn := hw.1
  have hp := (hw.2.2.2.2.1 h p e).2
  have hv := nV_le _ (kd6 hw hh)
  unfold f_X0_hasRoom
  simp only [if_pos (inR_nI (show h < 12 by omega) (show 12 < 2147483648 by decide)), cl_nI (show h < 2147483648 by omega), C_pl hc (show h < 12 by omega), C_kd hc hh, bn_e, nV_C _ (kd6 hw hh), e]
  rw [show pv (some p) = nI p from rfl, nI_1, X5_isPlace, X5_isPlace]
  have e1 : (if b2 (IX (nI p - 1) 24) = 0 then some 0 else Option.bind (f_X0_isFree (nI p - 1) M) (fun r2 : Int32 => if r2 = 0 then some 0 else some (0 + 1))) = some (nI (if 0 < p ∧ fr a (p - 1) = true then 1 else 0)) := by
    by_cases q : 0 < p
    · rw [m1_nI q (by omega), fr_C hw hc (by omega) (0 : Int32) (0 + 1)]
      by_cases q2 : fr a (p - 1) = true
      · rw [if_pos q2, if_pos ⟨q, q2⟩]; rfl
      · rw [if_neg q2, if_neg (fun z => q2 z.2)]; rfl
    · rw [show p = 0 by omega, if_pos (by rw [b2_f nix_m1]), if_neg (by omega)]; rfl
  simp only [Option.bind_some]
  rw [e1, Option.bind_some, fr_C hw hc (by omega), Option.bind_some]
  have e2 : (if fr a (p + 1) = true then nI (if 0 < p ∧ fr a (p - 1) = true then 1 else 0) + 1 else nI (if 0 < p ∧ fr a (p - 1) = true then 1 else 0)) = nI (rm a p) := by
    unfold rm
    by_cases q : fr a (p + 1) = true
    · rw [if_pos q, if_pos q, nI_1]
    · rw [if_neg q, if_neg q]; rfl
  have hr : rm a p ≤ 2 := by unfold rm; split <;> split <;> omega
  rw [e2]
  unfold room
  rw [e]
  by_cases q : nV (aKd a h) ≤ rm a p
  · rw [if_neg (nI_nlt q (by omega)), b2_t (by simpa using q)]; rfl
  · have g : nI (rm a p) < nI (nV (aKd a h)) := nI_lt (by omega) (by omega)
    rw [if_pos g, b2_f (by simpa using q)]; rfl
def mt (a : AR) (h m : Nat) : Bool := (aPl a h).isSome && (decide (m ≠ 2) || room a h)
theorem mt_iff (a : AR) (h m : Nat) : mt a h m = true ↔ ((aPl a h).isSome = true ∧ (m = 2 → room a h = true)) := by
  unfold mt
  by_cases q : m = 2 <;> simp [q]
theorem X6_mayTake (hw : WF a) (hm : MR N 37 a) {h m : Nat} (hh : h < aN a) (h3 : m < 3) : f_X6_mayTake (nI h) (nI m) N = some (b2 (mt a h m = true)) := by
  have hn := hw.1
  have hv := nV_le _ (kd6 hw hh)
  unfold f_X6_mayTake
  rw [N_pl hw hm hh, X6_isOn hw hm hh, nV_N hw hm hh]
  simp only [Option.bind_some]
  cases e : aPl a h with
  | none =>
    have hN : ¬ mt a h m = true := fun z => by rw [mt_iff, e] at z; exact absurd z.1 (by decide)
    rw [show pv none - 1 = -2 by decide, show pv none + 1 = nI 0 by decide, X6_isFree_no hw hm (by decide), fr_N hw hm (by decide), b2_f hN]
    have : ∀ y : Int32, Option.bind (if y = 0 then some (0 : Int32) else some 1) (fun y32 : Int32 => bn (0 + y32) (fun v41 : Int32 => Option.bind (if b2 ((none : Option Nat).isSome = true) = 0 then some 0 else if nI m = 2 then if v41 < nI (nV (aKd a h)) then some 0 else some 1 else some 1) (fun y47 : Int32 => if zb y47 then some y47 else none))) = some 0 := by
      intro y
      rw [b2_f (show ¬ (none : Option Nat).isSome = true by decide)]
      by_cases q : y = 0
      · rw [if_pos q]; rfl
      · rw [if_neg q]; rfl
    exact this _
  | some p =>
    have hp := (hw.2.2.2.2.1 h p e).2
    have hr : rm a p ≤ 2 := by unfold rm; split <;> split <;> omega
    rw [show pv (some p) = nI p from rfl, nI_1, fr_N hw hm (by omega)]
    have e1 : f_X6_isFree (nI p - 1) N = some (b2 (0 < p ∧ fr a (p - 1) = true)) := by
      by_cases q : 0 < p
      · rw [m1_nI q (by omega), fr_N hw hm (by omega)]
        by_cases q2 : fr a (p - 1) = true
        · rw [b2_t q2, b2_t ⟨q, q2⟩]
        · rw [b2_f q2, b2_f (fun z => q2 z.2)]
      · rw [show p = 0 by omega, X6_isFree_no hw hm nix_m1, b2_f (by omega)]
    rw [e1]
    simp only [Option.bind_some, b2_0, bn_e]
    have hS : (some p).isSome = true := rfl
    have e2 : ∀ (P : Prop) [Decidable P], (if ¬ P then some (0 : Int32) else some 1) = some (nI (if P then 1 else 0)) := by
      intro P _
      by_cases q : P
      · rw [if_neg (not_not_intro q), if_pos q]; rfl
      · rw [if_pos q, if_neg q]; rfl
    rw [e2, e2]
    simp only [Option.bind_some]
    rw [nI_add, show (if 0 < p ∧ fr a (p - 1) = true then 1 else 0) + (if fr a (p + 1) = true then 1 else 0) = rm a p from rfl, if_neg (not_not_intro hS)]
    by_cases q2 : m = 2
    · have g : nI m = 2 := by rw [q2]; rfl
      rw [if_pos g]
      by_cases q : nV (aKd a h) ≤ rm a p
      · have hY : mt a h m = true := (mt_iff a h m).mpr ⟨by rw [e]; rfl, fun _ => by unfold room; rw [e]; simpa using q⟩
        rw [if_neg (nI_nlt q (by omega)), b2_t hY]; rfl
      · have g : nI (rm a p) < nI (nV (aKd a h)) := nI_lt (by omega) (by omega)
        have hY : ¬ mt a h m = true := fun z => by
          have := ((mt_iff a h m).mp z).2 q2
          unfold room at this
          rw [e] at this
          exact q (by simpa using this)
        rw [if_pos g, b2_f hY]; rfl
    · have g : ¬ nI m = 2 := fun z => q2 ((nI_eq (b := 2) (by omega) (by decide)).mp z)
      have hY : mt a h m = true := (mt_iff a h m).mpr ⟨by rw [e]; rfl, fun z => absurd z q2⟩
      rw [if_neg g, b2_t hY]; rfl
theorem lt0_nI {m : Nat} (h : m < 2147483648) : ¬ nI m < 0 := nI_nlt (b := 0) (Nat.zero_le m) h
theorem C_taking (hw : WF a) (hc : CR M 1 a) {h m : Nat} (hh : h < aN a) (h3 : m < 3) : f_X5_findingAgainstTaking (nI h) (nI m) M = some (if mt a h m = true then 0 else -1000000005) := by
  have hn := hw.1
  unfold f_X5_findingAgainstTaking
  rw [X0_has hw hc, X0_isUp hw hc (by omega)]
  have g2 : nI m ≤ 2 := nI_le (b := 2) (by omega) (by omega)
  simp only [Option.bind_some, b2_0]
  rw [if_neg (not_not_intro ((ix_nI (by omega)).mpr hh)), if_neg (lt0_nI (by omega)), if_pos g2]
  cases e : aPl a h with
  | none =>
    rw [if_pos (by decide), if_neg (fun z => by rw [mt_iff, e] at z; exact absurd z.1 (by decide))]
  | some p =>
    have hS : (some p).isSome = true := rfl
    rw [if_neg (not_not_intro hS), X0_hasRoom hw hc hh e, Option.bind_some]
    simp only [b2_0]
    by_cases q2 : m = 2
    · have g : nI m = 2 := by rw [q2]; rfl
      rw [if_pos g]
      by_cases q : room a h = true
      · rw [if_neg (not_not_intro q), if_pos ((mt_iff a h m).mpr ⟨by rw [e]; rfl, fun _ => q⟩)]
      · rw [if_pos q, if_neg (fun z => q (((mt_iff a h m).mp z).2 q2))]
    · have g : ¬ nI m = 2 := fun z => q2 ((nI_eq (b := 2) (by omega) (by decide)).mp z)
      rw [if_neg g, if_pos ((mt_iff a h m).mpr ⟨by rw [e]; rfl, fun z => absurd z q2⟩)]
theorem N_taking (hw : WF a) (hm : MR N 37 a) {h m : Nat} (hh : h < aN a) (h3 : m < 3) : f_X6_wrongTaking (nI h) (nI m) N = some (if mt a h m = true then 0 else -1000000005) := by
  have hn := hw.1
  unfold f_X6_wrongTaking
  rw [X6_isHanger hw hm, X6_isManner, X6_mayTake hw hm hh h3]
  simp only [Option.bind_some, b2_0]
  rw [if_neg (not_not_intro ((ix_nI (by omega)).mpr hh)), if_neg (not_not_intro ((ix_nI (by omega)).mpr h3))]
  by_cases q : mt a h m = true
  · rw [if_neg (not_not_intro q), if_pos q]; rfl
  · rw [if_pos q, if_neg q]; rfl
theorem C_taking_no (hw : WF a) (hc : CR M 1 a) {x y : Int32} (h : ¬ (IX x (aN a) ∧ IX y 3)) : f_X5_findingAgainstTaking x y M = some (-1000000001) := by
  have hn := hw.1
  unfold f_X5_findingAgainstTaking
  rw [X0_has hw hc]
  simp only [Option.bind_some, b2_0]
  by_cases hx : IX x (aN a)
  · rw [if_neg (not_not_intro hx)]
    by_cases q : y < 0
    · rw [if_pos q]
    · rw [if_neg q, if_neg]
      intro z
      refine h ⟨hx, ?_⟩
      have e0 : (0 : Int32).toInt = 0 := rfl
      have e2 : (2 : Int32).toInt = 2 := rfl
      rw [i_lt] at q
      rw [i_le] at z
      unfold IX
      constructor <;> omega
  · rw [if_pos hx]
theorem N_taking_no (hw : WF a) (hm : MR N 37 a) {x y : Int32} (h : ¬ (IX x (aN a) ∧ IX y 3)) : f_X6_wrongTaking x y N = some (-1000000001) := by
  unfold f_X6_wrongTaking
  rw [X6_isHanger hw hm, X6_isManner]
  simp only [Option.bind_some, b2_0]
  by_cases hx : IX x (aN a)
  · rw [if_neg (not_not_intro hx), if_pos (fun z => h ⟨hx, z⟩)]; rfl
  · rw [if_pos hx]; rfl
theorem p_comes (h : Rel M N) (x y : Int32) : Same (f_X5_comes x y M) (f_X6_comes x y N) := by
  obtain ⟨a, hw, hc, hm⟩ := h.1
  have hn := hw.1
  unfold f_X5_comes f_X6_comes
  simp only [bnd_eta]
  by_cases q : IX x (aN a) ∧ IX y 3
  · obtain ⟨k, hk, rfl⟩ := ix_of q.1 (by omega)
    obtain ⟨m, h3, rfl⟩ := ix_of q.2 (by omega)
    rw [C_taking hw hc hk h3, N_taking hw hm hk h3]
    by_cases e : mt a k m = true
    · rw [if_pos e]
      simp only [Option.bind_some]
      rw [if_pos trivial, if_pos trivial, X3_look hw hc, Option.bind_some, X3_coming (by omega) h3, X6_comesBy hw hm hk h3]
      exact same_rd (h.look hw hc hm) _
    · rw [if_neg e]
      simp only [Option.bind_some]
      rw [if_neg (by decide), if_neg (by decide)]
      exact same_find h 4 (by decide) (by decide)
  · rw [C_taking_no hw hc q, N_taking_no hw hm q]
    simp only [Option.bind_some]
    rw [if_neg (by decide), if_neg (by decide)]
    exact same_find h 0 (by decide) (by decide)
theorem X5_howMany (hw : WF a) (hc : CR M 1 a) {h m : Nat} (hh : h < 12) (h3 : m < 3) : f_X5_howManyFall (nI h) (nI m) (LK a M) = some (nI (pc (fa a (cm a h m) h m))) := by
  unfold f_X5_howManyFall
  rw [X3_coming hh h3, Option.bind_some, X0_falling hw (C_lkm hc 12) (cm_lt a hh m) hh h3, Option.bind_some, bc_spec _ (fa_lt hw _ _ _)]
  rfl
theorem p_falls (h : Rel M N) (x y : Int32) : Same (f_X5_falls x y M) (f_X6_falls x y N) := by
  obtain ⟨a, hw, hc, hm⟩ := h.1
  have hn := hw.1
  unfold f_X5_falls f_X6_falls
  simp only [bnd_eta]
  by_cases q : IX x (aN a) ∧ IX y 3
  · obtain ⟨k, hk, rfl⟩ := ix_of q.1 (by omega)
    obtain ⟨m, h3, rfl⟩ := ix_of q.2 (by omega)
    rw [C_taking hw hc hk h3, N_taking hw hm hk h3]
    by_cases e : mt a k m = true
    · rw [if_pos e]
      simp only [Option.bind_some]
      rw [if_pos trivial, if_pos trivial, X3_look hw hc, Option.bind_some, X5_howMany hw hc (by omega) h3, X6_fallers hw hm hk h3, Option.bind_some, Option.bind_some, ones_spec _ (fa_lt hw _ _ _)]
      exact same_rd (h.look hw hc hm) _
    · rw [if_neg e]
      simp only [Option.bind_some]
      rw [if_neg (by decide), if_neg (by decide)]
      exact same_find h 4 (by decide) (by decide)
  · rw [C_taking_no hw hc q, N_taking_no hw hm q]
    simp only [Option.bind_some]
    rw [if_neg (by decide), if_neg (by decide)]
    exact same_find h 0 (by decide) (by decide)
end TAKE
