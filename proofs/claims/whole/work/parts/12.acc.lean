/-! PURE: reading a rail, both sides -/
def whoA (a : AR) (p : Nat) : Option Nat := (List.range 12).find? (fun h => aPl a h == some p)
theorem whoA_some {a : AR} (hw : WF a) {p h : Nat} : whoA a p = some h ↔ aPl a h = some p := by
  unfold whoA
  constructor
  · intro q
    have := List.find?_some q
    simpa using this
  · intro q
    have h12 : h < 12 := by have := (hw.2.2.2.2.1 h p q).1; have := hw.1; omega
    cases e : (List.range 12).find? (fun h => aPl a h == some p) with
    | none =>
      have := List.find?_eq_none.mp e h (List.mem_range.mpr h12)
      simp [q] at this
    | some g =>
      have hg := List.find?_some e
      simp at hg
      rw [hw.2.2.2.2.2.1 g h p hg q]
theorem whoA_none {a : AR} (hw : WF a) {p : Nat} : whoA a p = none ↔ ∀ h, aPl a h ≠ some p := by
  constructor
  · intro q h e
    rw [(whoA_some hw).mpr e] at q
    cases q
  · intro q
    cases e : whoA a p with
    | none => rfl
    | some g => exact absurd ((whoA_some hw).mp e) (q g)
theorem pv_neg (o : Option Nat) (ho : ∀ p, o = some p → p < 2147483648) : (pv o = -1) ↔ o = none := by
  cases o with
  | none => exact ⟨fun _ => rfl, fun _ => rfl⟩
  | some p =>
    constructor
    · intro q
      have hp := ho p rfl
      rw [show pv (some p) = nI p from rfl, i_eq, nI_t hp] at q
      have e : (-1 : Int32).toInt = -1 := rfl
      omega
    · intro q; cases q
theorem pv_lt (o : Option Nat) (ho : ∀ p, o = some p → p < 2147483648) : (pv o < 0) ↔ o = none := by
  cases o with
  | none => exact ⟨fun _ => rfl, fun _ => by decide⟩
  | some p =>
    constructor
    · intro q
      have hp := ho p rfl
      rw [show pv (some p) = nI p from rfl, i_lt, nI_t hp] at q
      have e : (0 : Int32).toInt = 0 := rfl
      omega
    · intro q; cases q
theorem ub12 {x y : Nat} (h : x < y) (hy : y ≤ 12) : x < 2147483648 := by omega
section ACC
variable {M N : Mem} {a : AR}
theorem plB (hw : WF a) {h p : Nat} (q : aPl a h = some p) : p < 2147483648 := by have := (hw.2.2.2.2.1 h p q).2; omega
theorem whoB (hw : WF a) {h p : Nat} (q : whoA a p = some h) : h < 12 := by have := (hw.2.2.2.2.1 h p ((whoA_some hw).mp q)).1; have := hw.1; omega
theorem C_at (hw : WF a) (hc : CR M 1 a) {p : Nat} (hp : p < 24) : gI M 6 p = pv (whoA a p) := by
  cases e : whoA a p with
  | none => exact hc.2.2.2.2.2.2.2.2.2 p hp ((whoA_none hw).mp e)
  | some h => exact hc.2.2.2.2.2.2.2.2.1 p h hp ((whoA_some hw).mp e)
theorem C_n (hc : CR M 1 a) : gI M 1 0 = nI (aN a) := hc.1
theorem C_mv (hc : CR M 1 a) : gI M 1 1 = nI (aMv a) := hc.2.1
theorem C_pr (hc : CR M 1 a) : gI M 1 2 = nI (aPr a) := hc.2.2.1
theorem C_bk (hc : CR M 1 a) : gI M 1 3 = nI (ms (aFc a) 12) := hc.2.2.2.1
theorem C_kd (hc : CR M 1 a) {h : Nat} (hh : h < aN a) : gI M 2 h = nI (aKd a h) := hc.2.2.2.2.1 h hh
theorem C_pl (hc : CR M 1 a) {h : Nat} (hh : h < 12) : gI M 3 h = pv (aPl a h) := hc.2.2.2.2.2.1 h hh
theorem C_sl (hc : CR M 1 a) {h : Nat} (hh : h < 12) : gI M 4 h = nI (aSl a h) := hc.2.2.2.2.2.2.1 h hh
theorem C_fe (hc : CR M 1 a) {h : Nat} (hh : h < 12) : gI M 5 h = nI (aFe a h) := hc.2.2.2.2.2.2.2.1 h hh
theorem X0_isUp (hw : WF a) (hc : CR M 1 a) {h : Nat} (hh : h < 12) : f_X0_isUp (nI h) M = some (b2 ((aPl a h).isSome = true)) := by
  unfold f_X0_isUp
  rw [if_pos (inR_nI hh (by decide)), cl_nI (by omega), C_pl hc hh]
  have h1 := pv_neg (aPl a h) (fun p q => plB hw q)
  cases e : aPl a h with
  | none => rfl
  | some p =>
    rw [e] at h1
    rw [if_neg (fun q => by cases h1.mp q)]
    rfl
theorem X0_isFree (hw : WF a) (hc : CR M 1 a) {p : Nat} (hp : p < 24) : f_X0_isFree (nI p) M = some (b2 (whoA a p = none)) := by
  unfold f_X0_isFree
  rw [if_pos (inR_nI hp (by decide)), cl_nI (by omega), C_at hw hc hp]
  have h1 := pv_neg (whoA a p) (fun h q => by have := whoB hw q; omega)
  cases e : whoA a p with
  | none => rfl
  | some g =>
    rw [e] at h1
    rw [if_neg (fun q => by cases h1.mp q), b2_f (by simp)]
    rfl
theorem fc_bit (hw : WF a) {h : Nat} (hh : h < 12) : (nI (ms (aFc a) 12) >>> (nI h &&& 31)) &&& 1 = b2 (aFc a h = true) := by
  rw [bit_at (Nat.lt_of_lt_of_le (ms_lt _ 12) (by decide)) (by omega)]
  refine b2_c ?_
  rw [tb_ms]
  simp [hh]
theorem X0_facingOf (hw : WF a) (hc : CR M 1 a) {h : Nat} (hh : h < 12) : f_X0_facingOf (nI h) M = some (b2 (aFc a h = true)) := by
  unfold f_X0_facingOf
  rw [C_bk hc, fc_bit hw hh]
theorem spot_nI (h w : Nat) : (3 + (5 * nI h)) + nI w = nI (3 + 5 * h + w) := by
  rw [show (3 : Int32) = nI 3 from rfl, show (5 : Int32) = nI 5 from rfl, pk_mul, nI_add, nI_add]
theorem X6_spotOf (h w : Nat) : f_X6_spotOf (nI h) (nI w) = some (nI (3 + 5 * h + w)) := by
  unfold f_X6_spotOf; rw [spot_nI]
theorem X6_sp0 (h : Nat) : f_X6_spotOf (nI h) 0 = some (nI (3 + 5 * h)) := X6_spotOf h 0
theorem X6_sp1 (h : Nat) : f_X6_spotOf (nI h) 1 = some (nI (3 + 5 * h + 1)) := X6_spotOf h 1
theorem X6_sp2 (h : Nat) : f_X6_spotOf (nI h) 2 = some (nI (3 + 5 * h + 2)) := X6_spotOf h 2
theorem X6_sp3 (h : Nat) : f_X6_spotOf (nI h) 3 = some (nI (3 + 5 * h + 3)) := X6_spotOf h 3
theorem X6_sp4 (h : Nat) : f_X6_spotOf (nI h) 4 = some (nI (3 + 5 * h + 4)) := X6_spotOf h 4
theorem X6_its (N : Mem) {h w : Nat} (hh : h < 12) (hw : w < 5) : f_X6_its (nI h) (nI w) N = some (gI N 37 (3 + 5 * h + w)) := by
  unfold f_X6_its
  rw [X6_spotOf]
  show (if inR (nI (3 + 5 * h + w)) 63 then _ else none) = _
  rw [if_pos (inR_nI (by omega) (by decide)), cl_nI (by omega)]
theorem N_kd (hw : WF a) (hm : MR N 37 a) {h : Nat} (hh : h < aN a) : f_X6_its (nI h) 0 N = some (nI (aKd a h)) := by
  rw [show (0 : Int32) = nI 0 from rfl, X6_its N (by have := hw.1; omega) (by decide)]; exact congrArg some (hm.2.2.2 h hh).1
theorem N_pl (hw : WF a) (hm : MR N 37 a) {h : Nat} (hh : h < aN a) : f_X6_its (nI h) 1 N = some (pv (aPl a h)) := by
  rw [show (1 : Int32) = nI 1 from rfl, X6_its N (by have := hw.1; omega) (by decide)]; exact congrArg some (hm.2.2.2 h hh).2.1
theorem N_fc (hw : WF a) (hm : MR N 37 a) {h : Nat} (hh : h < aN a) : f_X6_its (nI h) 2 N = some (b2 (aFc a h = true)) := by
  rw [show (2 : Int32) = nI 2 from rfl, X6_its N (by have := hw.1; omega) (by decide)]; exact congrArg some (hm.2.2.2 h hh).2.2.1
theorem N_sl (hw : WF a) (hm : MR N 37 a) {h : Nat} (hh : h < aN a) : f_X6_its (nI h) 3 N = some (nI (aSl a h)) := by
  rw [show (3 : Int32) = nI 3 from rfl, X6_its N (by have := hw.1; omega) (by decide)]; exact congrArg some (hm.2.2.2 h hh).2.2.2.1
theorem N_fe (hw : WF a) (hm : MR N 37 a) {h : Nat} (hh : h < aN a) : f_X6_its (nI h) 4 N = some (nI (aFe a h)) := by
  rw [show (4 : Int32) = nI 4 from rfl, X6_its N (by have := hw.1; omega) (by decide)]; exact congrArg some (hm.2.2.2 h hh).2.2.2.2
theorem X6_isOn (hw : WF a) (hm : MR N 37 a) {h : Nat} (hh : h < aN a) : f_X6_isOn (nI h) N = some (b2 ((aPl a h).isSome = true)) := by
  unfold f_X6_isOn
  rw [N_pl hw hm hh]
  have h1 := pv_lt (aPl a h) (fun p q => plB hw q)
  show Option.bind (if pv (aPl a h) < 0 then some 0 else some 1) _ = _
  cases e : aPl a h with
  | none => rfl
  | some p =>
    rw [e] at h1
    rw [if_neg (fun q => by cases h1.mp q)]
    rfl
/-- the last of the first k that hangs at p -/
def whoK (a : AR) (p : Nat) : Nat → Option Nat
  | 0 => none
  | k + 1 => if aPl a k = some p then some k else whoK a p k
theorem whoK_whoA (hw : WF a) (p : Nat) : whoK a p (aN a) = whoA a p := by
  have h : ∀ k, (∀ g, whoK a p k = some g → aPl a g = some p) ∧ (whoK a p k = none → ∀ g, g < k → aPl a g ≠ some p) := by
    intro k
    induction k with
    | zero => exact ⟨fun g q => (by cases q), fun _ g q => absurd q (Nat.not_lt_zero g)⟩
    | succ k ih =>
      refine ⟨fun g q => ?_, fun q g hg => ?_⟩
      · rw [whoK] at q
        by_cases e : aPl a k = some p
        · rw [if_pos e] at q; cases q; exact e
        · rw [if_neg e] at q; exact ih.1 g q
      · rw [whoK] at q
        by_cases e : aPl a k = some p
        · rw [if_pos e] at q; cases q
        · rw [if_neg e] at q
          rcases Nat.lt_succ_iff_lt_or_eq.mp hg with h | h
          · exact ih.2 q g h
          · rw [h]; exact e
  cases e : whoK a p (aN a) with
  | none =>
    symm
    rw [whoA_none hw]
    intro g q
    exact (h (aN a)).2 e g (hw.2.2.2.2.1 g p q).1 q
  | some g => exact ((whoA_some hw).mpr ((h (aN a)).1 g e)).symm
theorem pv_inj {o : Option Nat} {p : Nat} (ho : ∀ q, o = some q → q < 2147483648) (hp : p < 2147483648) : (pv o = nI p) ↔ o = some p := by
  cases o with
  | none =>
    constructor
    · intro q
      rw [show pv none = -1 from rfl, i_eq, nI_t hp] at q
      have e : (-1 : Int32).toInt = -1 := rfl
      omega
    · intro q; cases q
  | some q =>
    constructor
    · intro e
      have := (nI_eq (ho q rfl) hp).mp e
      rw [this]
    · intro e; cases e; rfl
theorem X6_who (hw : WF a) (hm : MR N 37 a) {p : Nat} (hp : p < 24) : f_X6_who (nI p) N = some (pv (whoA a p)) := by
  unfold f_X6_who
  have hn := hw.1
  refine (lp_go (r := pv (whoK a p (aN a))) (fun k => (pv (whoK a p k), nI k)) (aN a) rfl ?_ ?_ (by rw [FU_v]; omega)).trans (by rw [whoK_whoA hw])
  · intro k hk
    unfold f_X6_who_L4
    dsimp only
    rw [hm.1, if_neg (nI_ge hk (by omega)), N_pl hw hm hk]
    show Option.bind (if pv (aPl a k) = nI p then some (nI k) else some (pv (whoK a p k))) _ = _
    have h1 := pv_inj (o := aPl a k) (fun q e => plB hw e) (p := p) (by omega)
    rw [whoK]
    by_cases e : aPl a k = some p
    · rw [if_pos (h1.mpr e), if_pos e]
      show some (Sum.inl (nI k, nI k + 1)) = _
      rw [nI_1]; rfl
    · rw [if_neg (fun q => e (h1.mp q)), if_neg e]
      show some (Sum.inl (pv (whoK a p k), nI k + 1)) = _
      rw [nI_1]
  · unfold f_X6_who_L4
    dsimp only
    rw [hm.1, if_pos (nI_le (Nat.le_refl _) (by omega))]
theorem X6_isFree (hw : WF a) (hm : MR N 37 a) {p : Nat} (hp : p < 24) : f_X6_isFree (nI p) N = some (b2 (whoA a p = none)) := by
  unfold f_X6_isFree
  rw [X6_isPlace, b2_t ((ix_nI (by omega)).mpr hp)]
  show Option.bind (if (1 : Int32) = 0 then some 0 else _) _ = _
  rw [if_neg (by decide), X6_who hw hm hp]
  have h1 := pv_lt (whoA a p) (fun h q => by have := whoB hw q; omega)
  show Option.bind (if (0 : Int32) ≤ pv (whoA a p) then some 0 else some 1) _ = _
  cases e : whoA a p with
  | none => rfl
  | some g =>
    rw [e] at h1
    have h2 : (0 : Int32) ≤ pv (some g) := by
      have := mt h1.mp (by simp)
      rw [i_lt] at this
      rw [i_le]; omega
    rw [if_pos h2, b2_f (by simp)]
    rfl
theorem X6_isFree_no (hw : WF a) (hm : MR N 37 a) {x : Int32} (hx : ¬ IX x 24) : f_X6_isFree x N = some 0 := by
  unfold f_X6_isFree
  rw [X6_isPlace, b2_f hx]
  rfl
def onA (a : AR) (h : Nat) : Bool := (aPl a h).isSome
theorem on_lt (hw : WF a) {h : Nat} (q : onA a h = true) : h < aN a := by
  unfold onA at q
  cases e : aPl a h with
  | none => rw [e] at q; cases q
  | some p => exact (hw.2.2.2.2.1 h p e).1
theorem X0_up (hw : WF a) (hc : CR M 1 a) : f_X0_up M = some (nI (ms (onA a) 12)) := by
  unfold f_X0_up
  have hn := hw.1
  refine (lp_go (r := nI (ms (onA a) (aN a))) (fun k => (nI (ms (onA a) k), nI k)) (aN a) rfl ?_ ?_ (by rw [FU_v]; omega)).trans (by rw [ms_widen hw.1 (fun i hi => Bool.eq_false_iff.mpr fun q => by have := on_lt hw q; omega)])
  · intro k hk
    unfold f_X0_up_L4
    dsimp only
    rw [hc.1, if_neg (nI_ge hk (by omega)), X0_isUp hw hc (by omega)]
    show Option.bind (if b2 ((aPl a k).isSome = true) = 0 then some (nI (ms (onA a) k)) else bn (nI (ms (onA a) k) ||| (1 : Int32) <<< (nI k &&& 31)) (fun v => some v)) _ = _
    rw [sh1 k (by omega), nI_or, ms]
    by_cases e : onA a k = true
    · rw [if_pos e, if_neg (by rw [b2_0]; exact not_not_intro e)]
      show some (Sum.inl (_, nI k + 1)) = _
      rw [nI_1]
    · rw [if_neg e, if_pos (by rw [b2_0]; exact e)]
      show some (Sum.inl (_, nI k + 1)) = _
      rw [nI_1, Nat.or_zero]
  · unfold f_X0_up_L4
    dsimp only
    rw [hc.1, if_pos (nI_le (Nat.le_refl _) (by omega))]
theorem X6_onRail (hw : WF a) (hm : MR N 37 a) : f_X6_onRail N = some (nI (ms (onA a) 12)) := by
  unfold f_X6_onRail
  have hn := hw.1
  refine (lp_go (r := nI (ms (onA a) (aN a))) (fun k => (nI (ms (onA a) k), nI k)) (aN a) rfl ?_ ?_ (by rw [FU_v]; omega)).trans (by rw [ms_widen hw.1 (fun i hi => Bool.eq_false_iff.mpr fun q => by have := on_lt hw q; omega)])
  · intro k hk
    unfold f_X6_onRail_L4
    dsimp only
    rw [hm.1, if_neg (nI_ge hk (by omega)), X6_isOn hw hm hk]
    show Option.bind (if b2 ((aPl a k).isSome = true) = 0 then some 0 else some ((1 : Int32) <<< (nI k &&& 31))) (fun y20 : Int32 => bn (nI (ms (onA a) k) ||| y20) (fun v31 : Int32 => some (Sum.inl (v31, (nI k + 1))))) = _
    rw [sh1 k (by omega), ms, nI_1]
    by_cases e : onA a k = true
    · rw [if_pos e, if_neg (by rw [b2_0]; exact not_not_intro e), ← nI_or]
      rfl
    · rw [if_neg e, if_pos (by rw [b2_0]; exact e), Nat.or_zero]
      show some (Sum.inl (nI (ms (onA a) k) ||| nI 0, _)) = _
      rw [nI_or, Nat.or_zero]
  · unfold f_X6_onRail_L4
    dsimp only
    rw [hm.1, if_pos (nI_le (Nat.le_refl _) (by omega))]
theorem ms12 (S : Nat → Bool) : ms S 12 < 4096 := ms_lt S 12
end ACC
