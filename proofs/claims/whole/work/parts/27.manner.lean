/-! PURE: manner, first -/
section MANNER
variable {M N : Mem} {a : AR}
def fN (a : AR) (h m : Nat) : Nat := pc (fa a (cm a h m) h m)
def cN (a : AR) (h m : Nat) : Nat := pc (cm a h m)
theorem nI_mul (x y : Nat) (h : x < 2147483648) (h2 : y < 2147483648) (h3 : x * y < 2147483648) : nI x * nI y = nI (x * y) := by
  rw [i_eq]
  rw [Int32.toInt_mul, nI_t h, nI_t h2, nI_t h3]
  have : ((x : Int) * (y : Int)) = ((x * y : Nat) : Int) := by simp
  rw [this]
  exact Int.bmod_eq_of_le (by omega) (by omega)
theorem X5_harm (hw : WF a) (hc : CR M 1 a) {h m : Nat} (hh : h < 12) (h3 : m < 3) : f_X5_harm (nI h) (nI m) (LK a M) = some (nI (fN a h m * 13 + cN a h m)) := by
  unfold f_X5_harm
  have h1 := pc_le (fa a (cm a h m) h m)
  rw [X3_coming hh h3, Option.bind_some, X5_howMany hw hc hh h3, Option.bind_some, bc_spec _ (cm_lt a hh m), Option.bind_some, show (13 : Int32) = nI 13 from rfl, nI_mul _ _ (by omega) (by decide) (by omega), nI_add]
  rfl
/-- the class's choice -/
def bc (a : AR) (h : Nat) : Nat → Nat × Nat
  | 0 => (0, fN a h 0 * 13 + cN a h 0)
  | k + 1 => if mt a h (k + 1) = true ∧ fN a h (k + 1) * 13 + cN a h (k + 1) < (bc a h k).2 then (k + 1, fN a h (k + 1) * 13 + cN a h (k + 1)) else bc a h k
def wv (a : AR) (h k : Nat) : Nat := if mt a h k = true then 20 * fN a h k + cN a h k else 9999
def bd (a : AR) (h : Nat) : Nat → Nat × Nat
  | 0 => (0, 9999)
  | k + 1 => if (bd a h k).2 ≤ wv a h k then bd a h k else (k, wv a h k)
theorem bc_le (a : AR) (h : Nat) : ∀ k, (bc a h k).2 ≤ 168 := by
  intro k
  induction k with
  | zero =>
    show fN a h 0 * 13 + cN a h 0 ≤ 168
    have := pc_le (fa a (cm a h 0) h 0)
    have := pc_le (cm a h 0)
    unfold fN cN; omega
  | succ k ih =>
    rw [bc]
    split
    · have := pc_le (fa a (cm a h (k + 1)) h (k + 1))
      have := pc_le (cm a h (k + 1))
      show fN a h (k + 1) * 13 + cN a h (k + 1) ≤ 168
      unfold fN cN; omega
    · exact ih
theorem wv_le (a : AR) (h k : Nat) : wv a h k ≤ 9999 := by
  unfold wv fN cN
  have := pc_le (fa a (cm a h k) h k)
  have := pc_le (cm a h k)
  split <;> omega
theorem bd_le (a : AR) (h : Nat) : ∀ k, (bd a h k).2 ≤ 9999 := by
  intro k
  induction k with
  | zero => exact Nat.le_refl _
  | succ k ih =>
    rw [bd]
    split
    · exact ih
    · exact wv_le a h k
theorem bc_bd (a : AR) {h : Nat} (o : (aPl a h).isSome = true) : (bc a h 2).1 = (bd a h 3).1 := by
  have m0 : mt a h 0 = true := (mt_iff a h 0).mpr ⟨o, fun z => by cases z⟩
  have m1 : mt a h 1 = true := (mt_iff a h 1).mpr ⟨o, fun z => by cases z⟩
  have f0 := pc_le (fa a (cm a h 0) h 0)
  have f1 := pc_le (fa a (cm a h 1) h 1)
  have f2 := pc_le (fa a (cm a h 2) h 2)
  have c0 := pc_le (cm a h 0)
  have c1 := pc_le (cm a h 1)
  have c2 := pc_le (cm a h 2)
  have d1 : bd a h 1 = (0, 20 * fN a h 0 + cN a h 0) := by
    show (if 9999 ≤ wv a h 0 then (0, 9999) else (0, wv a h 0)) = _
    have : wv a h 0 = 20 * fN a h 0 + cN a h 0 := by unfold wv; rw [if_pos m0]
    rw [this, if_neg (by unfold fN cN; omega)]
  have w1 : wv a h 1 = 20 * fN a h 1 + cN a h 1 := by unfold wv; rw [if_pos m1]
  have d2 : bd a h 2 = if 20 * fN a h 0 + cN a h 0 ≤ 20 * fN a h 1 + cN a h 1 then (0, 20 * fN a h 0 + cN a h 0) else (1, 20 * fN a h 1 + cN a h 1) := by
    show (if (bd a h 1).2 ≤ wv a h 1 then bd a h 1 else (1, wv a h 1)) = _
    rw [d1, w1]
  have b1 : bc a h 1 = if fN a h 1 * 13 + cN a h 1 < fN a h 0 * 13 + cN a h 0 then (1, fN a h 1 * 13 + cN a h 1) else (0, fN a h 0 * 13 + cN a h 0) := by
    show (if mt a h 1 = true ∧ fN a h 1 * 13 + cN a h 1 < fN a h 0 * 13 + cN a h 0 then (1, fN a h 1 * 13 + cN a h 1) else (0, fN a h 0 * 13 + cN a h 0)) = _
    simp only [m1, true_and]
  show (if mt a h 2 = true ∧ fN a h 2 * 13 + cN a h 2 < (bc a h 1).2 then (2, fN a h 2 * 13 + cN a h 2) else bc a h 1).1 = (if (bd a h 2).2 ≤ wv a h 2 then bd a h 2 else (2, wv a h 2)).1
  by_cases q : mt a h 2 = true
  · have w2 : wv a h 2 = 20 * fN a h 2 + cN a h 2 := by unfold wv; rw [if_pos q]
    have qq : (mt a h 2 = true ∧ fN a h 2 * 13 + cN a h 2 < (bc a h 1).2) = (fN a h 2 * 13 + cN a h 2 < (bc a h 1).2) := propext ⟨fun z => z.2, fun z => ⟨q, z⟩⟩
    simp only [qq]
    rw [w2, b1, d2]
    unfold fN cN
    by_cases x1 : pc (fa a (cm a h 1) h 1) * 13 + pc (cm a h 1) < pc (fa a (cm a h 0) h 0) * 13 + pc (cm a h 0)
    · rw [if_pos x1, if_neg (show ¬ 20 * pc (fa a (cm a h 0) h 0) + pc (cm a h 0) ≤ 20 * pc (fa a (cm a h 1) h 1) + pc (cm a h 1) by omega)]
      dsimp only
      by_cases x2 : pc (fa a (cm a h 2) h 2) * 13 + pc (cm a h 2) < pc (fa a (cm a h 1) h 1) * 13 + pc (cm a h 1)
      · rw [if_pos x2, if_neg (by omega)]
      · rw [if_neg x2, if_pos (by omega)]
    · rw [if_neg x1, if_pos (show 20 * pc (fa a (cm a h 0) h 0) + pc (cm a h 0) ≤ 20 * pc (fa a (cm a h 1) h 1) + pc (cm a h 1) by omega)]
      dsimp only
      by_cases x2 : pc (fa a (cm a h 2) h 2) * 13 + pc (cm a h 2) < pc (fa a (cm a h 0) h 0) * 13 + pc (cm a h 0)
      · rw [if_pos x2, if_neg (by omega)]
      · rw [if_neg x2, if_pos (by omega)]
  · have w2 : wv a h 2 = 9999 := by unfold wv; rw [if_neg q]
    rw [if_neg (fun z => q z.1), w2, b1, d2]
    unfold fN cN
    by_cases x1 : pc (fa a (cm a h 1) h 1) * 13 + pc (cm a h 1) < pc (fa a (cm a h 0) h 0) * 13 + pc (cm a h 0)
    · rw [if_pos x1, if_neg (show ¬ 20 * pc (fa a (cm a h 0) h 0) + pc (cm a h 0) ≤ 20 * pc (fa a (cm a h 1) h 1) + pc (cm a h 1) by omega)]
      dsimp only
      rw [if_pos (by omega)]
    · rw [if_neg x1, if_pos (show 20 * pc (fa a (cm a h 0) h 0) + pc (cm a h 0) ≤ 20 * pc (fa a (cm a h 1) h 1) + pc (cm a h 1) by omega)]
      dsimp only
      rw [if_pos (by omega)]
theorem manner_C (hw : WF a) (hc : CR M 1 a) {h p : Nat} (hh : h < aN a) (e : aPl a h = some p) {β : Type} (K : Int32 → Option β) : Option.bind (lp (f_X5_manner_L59 (nI h) (LK a M)) FU (0, nI (fN a h 0 * 13 + cN a h 0), 1)) K = K (nI (bc a h 2).1) := by
  have hn := hw.1
  refine (lp_go (r := nI (bc a h 2).1) (fun k => (nI (bc a h k).1, nI (bc a h k).2, nI (k + 1))) 2 rfl ?_ rfl (by rw [FU_v]; omega))
  intro k hk
  unfold f_X5_manner_L59
  dsimp only
  have g : ¬ (2 : Int32) < nI (k + 1) := nI_nlt (a := 2) (b := k + 1) (by omega) (by decide)
  have b1 := bc_le a h k
  have f1 := pc_le (fa a (cm a h (k + 1)) h (k + 1))
  have c1 := pc_le (cm a h (k + 1))
  have o : (aPl a h).isSome = true := by rw [e]; rfl
  rw [if_neg g, X5_harm hw hc (by omega) (by omega), X0_hasRoom hw (C_lkm hc 12) hh e]
  simp only [Option.bind_some, b2_0, nI_1]
  have e1 : (if nI (k + 1) = 2 then if ¬ room a h = true then some (0 : Int32) else some 1 else some 1) = some (b2 (mt a h (k + 1) = true)) := by
    by_cases q2 : k + 1 = 2
    · have g : nI (k + 1) = 2 := by rw [q2]; rfl
      rw [if_pos g]
      by_cases q : room a h = true
      · rw [if_neg (not_not_intro q), b2_t ((mt_iff a h _).mpr ⟨o, fun _ => q⟩)]
      · rw [if_pos q, b2_f (fun z => q (((mt_iff a h _).mp z).2 q2))]
    · have g : ¬ nI (k + 1) = 2 := fun z => q2 ((nI_eq (b := 2) (by omega) (by decide)).mp z)
      rw [if_neg g, b2_t ((mt_iff a h _).mpr ⟨o, fun z => absurd z q2⟩)]
  rw [e1]
  simp only [Option.bind_some, b2_0]
  rw [bc]
  have g2 : fN a h (k + 1) ≤ 12 := f1
  have g3 : cN a h (k + 1) ≤ 12 := c1
  by_cases q : mt a h (k + 1) = true
  · rw [if_neg (not_not_intro q)]
    by_cases z : fN a h (k + 1) * 13 + cN a h (k + 1) < (bc a h k).2
    · rw [if_neg (nI_ge z (by omega)), if_pos ⟨q, z⟩]; rfl
    · rw [if_pos (nI_le (by omega) (by omega)), if_neg (fun y => z y.2)]; rfl
  · rw [if_pos q, if_neg (fun y => q y.1)]; rfl
theorem manner_N (hw : WF a) (hm : MR N 37 a) {h : Nat} (hh : h < aN a) {β : Type} (K : Int32 → Option β) : Option.bind (lp (f_X6_manner_L39 (nI h) N) FU (0, 9999, 0)) K = K (nI (bd a h 3).1) := by
  have hn := hw.1
  refine (lp_go (r := nI (bd a h 3).1) (fun k => (nI (bd a h k).1, nI (bd a h k).2, nI k)) 3 rfl ?_ rfl (by rw [FU_v]; omega))
  intro k hk
  unfold f_X6_manner_L39
  dsimp only
  have g : ¬ (2 : Int32) < nI k := nI_nlt (a := 2) (b := k) (by omega) (by decide)
  have f1 := pc_le (fa a (cm a h k) h k)
  have c1 := pc_le (cm a h k)
  have b1 := bd_le a h k
  have w1 := wv_le a h k
  rw [if_neg g, X6_mayTake hw hm hh hk, Option.bind_some, X6_fallers hw hm hh hk, Option.bind_some, ones_spec _ (fa_lt hw _ _ _), Option.bind_some, X6_comesBy hw hm hh hk, Option.bind_some, ones_spec _ (cm_lt a (by omega) k), Option.bind_some, show (20 : Int32) = nI 20 from rfl, nI_mul _ _ (by decide) (by omega) (by omega), nI_add]
  have e1 : (if b2 (mt a h k = true) = 0 then some (9999 : Int32) else some (nI (20 * pc (fa a (cm a h k) h k) + pc (cm a h k)))) = some (nI (wv a h k)) := by
    unfold wv
    by_cases q : mt a h k = true
    · rw [b2_t q, if_neg (by decide), if_pos q]; rfl
    · rw [b2_f q, if_pos rfl, if_neg q]; rfl
  rw [e1]
  simp only [Option.bind_some, nI_1]
  rw [bd]
  by_cases z : (bd a h k).2 ≤ wv a h k
  · rw [if_pos (nI_le z (by omega)), if_pos (nI_le z (by omega)), if_pos z]; rfl
  · rw [if_neg (nI_ge (by omega) (by omega)), if_neg (nI_ge (by omega) (by omega)), if_neg z]; rfl
theorem p_manner (h : Rel M N) (x : Int32) : Same (f_X5_manner x M) (f_X6_manner x N) := by
  obtain ⟨a, hw, hc, hm⟩ := h.1
  have hn := hw.1
  unfold f_X5_manner f_X6_manner
  simp only [bnd_eta]
  rw [X0_has hw hc, X6_isHanger hw hm]
  simp only [Option.bind_some, b2_0]
  by_cases hx : IX x (aN a)
  · obtain ⟨k, hk, rfl⟩ := ix_of hx (by omega)
    rw [if_neg (not_not_intro hx), if_neg (not_not_intro hx), X0_isUp hw hc (by omega), X6_isOn hw hm hk]
    simp only [Option.bind_some, b2_0]
    by_cases o : (aPl a k).isSome = true
    · obtain ⟨p, e⟩ : ∃ p, aPl a k = some p := Option.isSome_iff_exists.mp o
      rw [if_neg (not_not_intro o), if_neg (not_not_intro o), X3_look hw hc, Option.bind_some, show (0 : Int32) = nI 0 from rfl, X5_harm hw hc (by omega) (by decide), Option.bind_some]
      have e1 := manner_C hw hc hk e (fun x59_121 : Int32 => some (x59_121, LK a M))
      have e2 := manner_N hw hm hk (fun x39_119 : Int32 => some (x39_119, N))
      refine ⟨nI (bd a k 3).1, LK a M, N, e1.trans (by rw [bc_bd a o]), e2, h.look hw hc hm⟩
    · rw [if_pos o, if_pos o]
      exact same_find h 4 (by decide) (by decide)
  · rw [if_pos hx, if_pos hx]
    exact same_find h 0 (by decide) (by decide)
end MANNER
