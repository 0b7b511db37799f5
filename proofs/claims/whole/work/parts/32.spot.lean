/-! PURE: spot -/
section SPOT
variable {M N : Mem} {a : AR}
/-- h would hang alone at p -/
def alA (a : AR) (h p : Nat) : Bool := decide (p < 24) && (decide (whoA a p = none ∨ whoA a p = some h) && decide (ms (tanW a h (aKd a h) p) 12 = 0))
theorem alA_iff (a : AR) (h p : Nat) : alA a h p = true ↔ (p < 24 ∧ (whoA a p = none ∨ whoA a p = some h) ∧ ms (tanW a h (aKd a h) p) 12 = 0) := by
  unfold alA
  simp only [Bool.and_eq_true, decide_eq_true_eq]
theorem X0_alone_no {x y : Int32} (hx : ¬ IX x 24) : f_X0_isAloneAt y x M = some 0 := by
  unfold f_X0_isAloneAt
  rw [X5_isPlace, b2_f hx]
  rfl
theorem X0_alone (hw : WF a) (hc : CR M 1 a) {h p : Nat} (hh : h < aN a) (hp : p < 48) : f_X0_isAloneAt (nI h) (nI p) M = some (b2 (alA a h p = true)) := by
  have hn := hw.1
  by_cases q : p < 24
  · have hi := alA_iff a h p
    have hl := ms12 (tanW a h (aKd a h) p)
    unfold f_X0_isAloneAt
    rw [X5_isPlace, b2_t ((ix_nI (by omega)).mpr q), Option.bind_some, if_neg (by decide), X0_isFree hw hc q, Option.bind_some]
    simp only [if_pos (inR_nI (show h < 12 by omega) (show 12 < 2147483648 by decide)), if_pos (inR_nI q (show 24 < 2147483648 by decide)), cl_nI (show h < 2147483648 by omega), cl_nI (show p < 2147483648 by omega), C_kd hc hh, X0_tangledWith hw hc hh (kd6 hw hh) q, Option.bind_some, C_at hw hc q, b2_0]
    have key : ∀ P : Prop, (P ↔ (whoA a p = none ∨ whoA a p = some h)) → P → Option.bind (if nI (ms (tanW a h (aKd a h) p) 12) = 0 then some (1 : Int32) else some 0) (fun y39 : Int32 => if zb y39 then some y39 else none) = some (b2 (alA a h p = true)) := by
      intro P hP hp2
      by_cases q2 : ms (tanW a h (aKd a h) p) 12 = 0
      · have g : nI (ms (tanW a h (aKd a h) p) 12) = 0 := by rw [q2]; rfl
        rw [if_pos g, b2_t (hi.mpr ⟨q, hP.mp hp2, q2⟩)]; rfl
      · have g : ¬ nI (ms (tanW a h (aKd a h) p) 12) = 0 := nI_ne0 (by omega) (by omega)
        rw [if_neg g, b2_f (fun z => q2 (hi.mp z).2.2)]; rfl
    cases e : whoA a p with
    | none =>
      rw [if_neg (by simp)]
      exact key (whoA a p = none) ⟨fun z => Or.inl z, fun _ => e⟩ e
    | some g =>
      have hg := whoB hw e
      rw [if_pos (by simp), show pv (some g) = nI g from rfl]
      by_cases eg : g = h
      · rw [if_pos (by rw [eg])]
        exact key (whoA a p = some h) ⟨fun z => Or.inr z, fun _ => by rw [e, eg]⟩ (by rw [e, eg])
      · rw [if_neg (fun z => eg ((nI_eq (by omega) (by omega)).mp z)), b2_f]
        intro z
        rcases (hi.mp z).2.1 with y | y
        · rw [e] at y; cases y
        · rw [e] at y; cases y; exact eg rfl
  · rw [X0_alone_no (fun z => q ((ix_nI (by omega)).mp z)), b2_f (fun z => q ((alA_iff a h p).mp z).1)]
theorem spot_C1 (hw : WF a) (hc : CR M 1 a) {h w d : Nat} (hh : h < aN a) (hwp : w < 24) (hd : d < 24) : f_X5_spot_L48 (nI h) (nI w) M (nI d) = if d ≤ w ∧ alA a h (w - d) = true then some (.inr (.inl (nI d))) else if alA a h (w + d) = true then some (.inr (.inr (.inl (nI d)))) else some (.inl (nI (d + 1))) := by
  have g : ¬ (24 : Int32) ≤ nI d := nI_ge (a := d) (b := 24) hd (by decide)
  unfold f_X5_spot_L48
  rw [if_neg g, nI_add, X0_alone hw hc hh (show w + d < 48 by omega), Option.bind_some, nI_1]
  have e1 : f_X0_isAloneAt (nI h) (nI w - nI d) M = some (b2 (d ≤ w ∧ alA a h (w - d) = true)) := by
    by_cases q : d ≤ w
    · rw [pk_sub q, X0_alone hw hc hh (by omega)]
      exact congrArg some (b2_c ⟨fun z => ⟨q, z⟩, fun z => z.2⟩)
    · have : ¬ IX (nI w - nI d) 24 := by
        unfold IX
        rw [pk_sub_toInt (by omega) (by omega)]
        omega
      rw [X0_alone_no this, b2_f (fun z => q z.1)]
  rw [e1, Option.bind_some]
  by_cases q : d ≤ w ∧ alA a h (w - d) = true
  · rw [b2_t q, if_neg (by decide), if_pos q]
  · rw [b2_f q, if_pos rfl, if_neg q]
    by_cases q2 : alA a h (w + d) = true
    · rw [b2_t q2, if_neg (by decide), if_pos q2]
    · rw [b2_f q2, if_pos rfl, if_neg q2]
/-- of the first k places the nearest to w that V allows -/
def bs (V : Nat → Bool) (w : Nat) : Nat → Option Nat
  | 0 => none
  | k + 1 => match bs V w k with
    | none => if V k = true then some k else none
    | some b => if V k = true ∧ ds w k < ds w b then some k else some b
theorem bs_spec (V : Nat → Bool) (w : Nat) : ∀ k, (bs V w k = none → ∀ q, q < k → V q = false) ∧ (∀ b, bs V w k = some b → b < k ∧ V b = true ∧ ∀ q, q < k → V q = true → ds w b < ds w q ∨ (ds w b = ds w q ∧ b ≤ q)) := by
  intro k
  induction k with
  | zero => exact ⟨fun _ q hq => absurd hq (Nat.not_lt_zero q), fun b h => by cases h⟩
  | succ k ih =>
    cases e : bs V w k with
    | none =>
      have h0 := ih.1 e
      rw [bs, e]
      dsimp only
      by_cases q : V k = true
      · rw [if_pos q]
        refine ⟨fun z => (by cases z), fun b hb => ?_⟩
        cases hb
        refine ⟨Nat.lt_succ_self k, q, fun r hr hv => ?_⟩
        rcases Nat.lt_succ_iff_lt_or_eq.mp hr with y | y
        · rw [h0 r y] at hv; cases hv
        · subst y; exact Or.inr ⟨rfl, Nat.le_refl _⟩
      · rw [if_neg q]
        refine ⟨fun _ r hr => ?_, fun b hb => by cases hb⟩
        rcases Nat.lt_succ_iff_lt_or_eq.mp hr with y | y
        · exact h0 r y
        · subst y; simpa using q
    | some b =>
      obtain ⟨h1, h2, h3⟩ := ih.2 b e
      rw [bs, e]
      dsimp only
      by_cases q : V k = true ∧ ds w k < ds w b
      · rw [if_pos q]
        refine ⟨fun z => (by cases z), fun c hc => ?_⟩
        cases hc
        refine ⟨Nat.lt_succ_self k, q.1, fun r hr hv => ?_⟩
        rcases Nat.lt_succ_iff_lt_or_eq.mp hr with y | y
        · have := h3 r y hv
          omega
        · subst y; exact Or.inr ⟨rfl, Nat.le_refl _⟩
      · rw [if_neg q]
        refine ⟨fun z => (by cases z), fun c hc => ?_⟩
        cases hc
        refine ⟨by omega, h2, fun r hr hv => ?_⟩
        rcases Nat.lt_succ_iff_lt_or_eq.mp hr with y | y
        · exact h3 r y hv
        · subst y
          have : ¬ ds w r < ds w b := fun z => q ⟨hv, z⟩
          omega
theorem bs_one (V : Nat → Bool) (w k c : Nat) (h1 : c < k) (h2 : V c = true) (h3 : ∀ q, q < k → V q = true → ds w c < ds w q ∨ (ds w c = ds w q ∧ c ≤ q)) : bs V w k = some c := by
  cases e : bs V w k with
  | none => rw [(bs_spec V w k).1 e c h1] at h2; cases h2
  | some b =>
    obtain ⟨b1, b2, b3⟩ := (bs_spec V w k).2 b e
    have x1 := b3 c h1 h2
    have x2 := h3 b b1 b2
    congr 1
    omega
theorem bs_no (V : Nat → Bool) (w k : Nat) (h : ∀ q, q < k → V q = false) : bs V w k = none := by
  cases e : bs V w k with
  | none => rfl
  | some b =>
    obtain ⟨b1, b2, b3⟩ := (bs_spec V w k).2 b e
    rw [h b b1] at b2; cases b2
theorem ds_l {w d : Nat} (h : d ≤ w) : ds w (w - d) = d := by unfold ds; split <;> omega
theorem ds_r (w d : Nat) : ds w (w + d) = d := by unfold ds; split <;> omega
theorem ds_of {w q : Nat} : (q ≤ w ∧ q = w - ds w q ∧ ds w q ≤ w) ∨ (w < q ∧ q = w + ds w q) := by unfold ds; split <;> omega
theorem spot_C (hw : WF a) (hc : CR M 1 a) {h w : Nat} (hh : h < aN a) (hwp : w < 24) : Option.bind (lp (f_X5_spot_L48 (nI h) (nI w) M) FU 0) (el (fun x48_68 : Int32 => some ((nI w - x48_68), M)) (el (fun x48_86 : Int32 => some ((nI w + x48_86), M)) (fun x48_96 : Unit => f_X5_told (-1000000004) M))) = match bs (alA a h) w 24 with
    | none => f_X5_told (-1000000004) M
    | some p => some (nI p, M) := by
  by_cases ex : ∃ d, d < 24 ∧ ((d ≤ w ∧ alA a h (w - d) = true) ∨ alA a h (w + d) = true)
  · obtain ⟨d, d1, d2, d3⟩ := least 24 ex
    have st : ∀ k, k < d → f_X5_spot_L48 (nI h) (nI w) M (nI k) = some (.inl (nI (k + 1))) := fun k hk => by
      have n := d3 k hk
      rw [spot_C1 hw hc hh hwp (by omega), if_neg (fun z => n (Or.inl z)), if_neg (fun z => n (Or.inr z))]
    have far : ∀ q, q < 24 → alA a h q = true → d ≤ ds w q := fun q hq hv => by
      refine Classical.byContradiction fun z => d3 (ds w q) (by omega) ?_
      rcases ds_of (w := w) (q := q) with y | y
      · exact Or.inl ⟨y.2.2, by rw [← y.2.1]; exact hv⟩
      · exact Or.inr (by rw [← y.2]; exact hv)
    by_cases q : d ≤ w ∧ alA a h (w - d) = true
    · have e : bs (alA a h) w 24 = some (w - d) := bs_one _ w 24 (w - d) (by omega) q.2 (fun r hr hv => by
        have := far r hr hv
        rw [ds_l q.1]
        rcases ds_of (w := w) (q := r) with y | y <;> omega)
      rw [e]
      dsimp only
      refine (lp_go (r := .inl (nI d)) (fun k => nI k) d rfl st (by rw [spot_C1 hw hc hh hwp d1, if_pos q]) (by rw [FU_v]; omega)).trans ?_
      show some (nI w - nI d, M) = _
      rw [pk_sub q.1]
    · have q2 : alA a h (w + d) = true := by rcases d2 with y | y; exact absurd y q; exact y
      have h24 := ((alA_iff a h (w + d)).mp q2).1
      have e : bs (alA a h) w 24 = some (w + d) := bs_one _ w 24 (w + d) h24 q2 (fun r hr hv => by
        have := far r hr hv
        rw [ds_r]
        rcases ds_of (w := w) (q := r) with y | y
        · by_cases z : ds w r = d
          · exact absurd ⟨by omega, by rw [← z, ← y.2.1]; exact hv⟩ q
          · omega
        · omega)
      rw [e]
      dsimp only
      refine (lp_go (r := .inr (.inl (nI d))) (fun k => nI k) d rfl st (by rw [spot_C1 hw hc hh hwp d1, if_neg q, if_pos q2]) (by rw [FU_v]; omega)).trans ?_
      show some (nI w + nI d, M) = _
      rw [nI_add]
  · have st : ∀ k, k < 24 → f_X5_spot_L48 (nI h) (nI w) M (nI k) = some (.inl (nI (k + 1))) := fun k hk => by
      rw [spot_C1 hw hc hh hwp hk, if_neg (fun z => ex ⟨k, hk, Or.inl z⟩), if_neg (fun z => ex ⟨k, hk, Or.inr z⟩)]
    have e : bs (alA a h) w 24 = none := bs_no _ w 24 (fun q hq => by
      cases v : alA a h q with
      | false => rfl
      | true =>
        exfalso
        refine ex ⟨ds w q, ds_lt hwp hq, ?_⟩
        rcases ds_of (w := w) (q := q) with y | y
        · exact Or.inl ⟨y.2.2, by rw [← y.2.1]; exact v⟩
        · exact Or.inr (by rw [← y.2]; exact v))
    rw [e]
    dsimp only
    exact lp_go (F := FU) (r := .inr (.inr ())) (fun k => nI k) 24 rfl st (by unfold f_X5_spot_L48; rw [if_pos (by decide)]) (by rw [FU_v]; omega)
theorem uPl_same {h : Nat} {v : Option Nat} (e : aPl a h = v) : uPl a h v = a := by
  refine ar_ext rfl rfl rfl rfl (funext fun i => ?_) rfl rfl rfl
  show (if i = h then v else aPl a i) = aPl a i
  by_cases q : i = h
  · rw [if_pos q, q, e]
  · rw [if_neg q]
theorem tm_uPl (a : AR) (h p : Nat) : tm (uPl a h (some p)) h = ms (tanW a h (aKd a h) p) 12 := by
  unfold tm
  refine ms_ext fun o _ => ?_
  unfold tan
  have e0 : aPl (uPl a h (some p)) h = some p := if_pos rfl
  rw [e0]
  dsimp only
  unfold tanW
  by_cases e : o = h
  · subst e; simp
  · have e1 : aPl (uPl a h (some p)) o = aPl a o := if_neg e
    rw [e1]
    rfl
def nrO (w : Nat) : Option Nat → Int32
  | none => 0
  | some b => nI (ds w b)
theorem spot_body (hw : WF a) (hm : MR N 37 a) {h w k : Nat} (hh : h < aN a) (e : aPl a h = some w) (hk : k < 24) (hf : k = w ∨ whoA a k = none) : Option.bind (f_X6_spotOf (nI h) 1) (fun r73 : Int32 => if inR r73 63 then bn (sI N 37 r73.toNatClampNeg (nI k)) (fun m78 : Mem => Option.bind (f_X6_tangledWith (nI h) m78) (fun r81 : Int32 => Option.bind (if r81 = 0 then some 1 else some 0) (fun y84 : Int32 => Option.bind (f_X6_spotOf (nI h) 1) (fun r100 : Int32 => if inR r100 63 then bn (sI m78 37 r100.toNatClampNeg (nI w)) (fun m104 : Mem => Option.bind (if nI w ≤ nI k then some (nI k - nI w) else some (nI w - nI k)) (fun y108 : Int32 => Option.bind (if y84 = 0 then some (pv (bs (alA a h) w k)) else if pv (bs (alA a h) w k) < 0 then some (nI k) else if nrO w (bs (alA a h) w k) ≤ y108 then some (pv (bs (alA a h) w k)) else some (nI k)) (fun y126 : Int32 => Option.bind (if y126 = nI k then some y108 else some (nrO w (bs (alA a h) w k))) (fun y150 : Int32 => some (y126, y150, m104))))) else none)))) else none) = some (pv (bs (alA a h) w (k + 1)), nrO w (bs (alA a h) w (k + 1)), N) := by
  have hn := hw.1
  have hwp := (hw.2.2.2.2.1 h w e).2
  have hi := alA_iff a h k
  have hl := ms12 (tanW a h (aKd a h) k)
  have hsome : whoA a k = none ∨ whoA a k = some h := by
    rcases hf with y | y
    · exact Or.inr ((whoA_some hw).mpr (by rw [e, y]))
    · exact Or.inl y
  have hw2 : WF (uPl a h (some k)) := by
    rcases hf with y | y
    · rw [y, uPl_same e]; exact hw
    · exact W_put hw hh hk ((whoA_none hw).mp y)
  have far : (if nI w ≤ nI k then some (nI k - nI w) else some (nI w - nI k)) = some (nI (ds w k)) := by
    unfold ds
    by_cases q : w ≤ k
    · rw [if_pos (nI_le q (by omega)), if_pos q, pk_sub q]
    · rw [if_neg (nI_ge (by omega) (by omega)), if_neg q, pk_sub (by omega)]
  have hT : f_X6_tangledWith (nI h) (sI N 37 (3 + 5 * h + 1) (nI k)) = some (nI (ms (tanW a h (aKd a h) k) 12)) := by
    refine (X6_tangledWith hw2 (M_uPl hm h (some k)) hh).trans ?_
    rw [tm_uPl]
  have hb := bs_spec (alA a h) w k
  have hd := ds_lt hwp hk
  simp only [X6_sp1, Option.bind_some, if_pos (inR_nI (show 3 + 5 * h + 1 < 63 by omega) (show 63 < 2147483648 by decide)), cl_nI (show 3 + 5 * h + 1 < 2147483648 by omega), bn_e, hT, far, sI_sI]
  rw [sI_same N (show gI N 37 (3 + 5 * h + 1) = nI w by rw [(hm.2.2.2 h hh).2.1, e]; rfl), bs]
  by_cases q : ms (tanW a h (aKd a h) k) 12 = 0
  · have g : nI (ms (tanW a h (aKd a h) k) 12) = 0 := by rw [q]; rfl
    have hV : alA a h k = true := hi.mpr ⟨hk, hsome, q⟩
    rw [if_pos g, Option.bind_some, if_neg (by decide)]
    cases eb : bs (alA a h) w k with
    | none =>
      dsimp only
      rw [if_pos hV, if_pos (by decide), Option.bind_some, if_pos rfl]
      rfl
    | some b =>
      obtain ⟨b1, b2, b3⟩ := hb.2 b eb
      have hdb := ds_lt hwp (show b < 24 by omega)
      dsimp only
      rw [show pv (some b) = nI b from rfl, show nrO w (some b) = nI (ds w b) from rfl, if_neg (nI_pos (by omega))]
      by_cases z : ds w b ≤ ds w k
      · rw [if_pos (nI_le z (by omega)), if_neg (fun y => by omega), Option.bind_some, if_neg (fun y => by have := (nI_eq (by omega) (by omega)).mp y; omega)]
        rfl
      · rw [if_neg (nI_ge (by omega) (by omega)), if_pos ⟨hV, by omega⟩, Option.bind_some, if_pos rfl]
        rfl
  · have g : ¬ nI (ms (tanW a h (aKd a h) k) 12) = 0 := nI_ne0 (by omega) (by omega)
    have hV : ¬ alA a h k = true := fun z => q (hi.mp z).2.2
    rw [if_neg g, Option.bind_some, if_pos rfl, Option.bind_some]
    cases eb : bs (alA a h) w k with
    | none =>
      dsimp only
      have g2 : ¬ pv none = nI k := fun y => by
        have := (pv_inj (o := none) (p := k) (fun _ h => by cases h) (by omega)).mp y
        cases this
      rw [if_neg hV, if_neg g2]
      rfl
    | some b =>
      obtain ⟨b1, b2, b3⟩ := hb.2 b eb
      dsimp only
      rw [show pv (some b) = nI b from rfl, if_neg (fun y : nI b = nI k => by have := (nI_eq (by omega) (by omega)).mp y; omega), if_neg (fun y => hV y.1)]
      rfl
theorem spot_N (hw : WF a) (hm : MR N 37 a) {h w : Nat} (hh : h < aN a) (e : aPl a h = some w) {β : Type} (K : Int32 × Mem → Option β) : Option.bind (lp (f_X6_spot_L45 (nI w) (nI h)) FU ((-1), 0, 0, N)) K = K (pv (bs (alA a h) w 24), N) := by
  have hn := hw.1
  have hwp := (hw.2.2.2.2.1 h w e).2
  refine lp_go (r := (pv (bs (alA a h) w 24), N)) (fun k => (pv (bs (alA a h) w k), nrO w (bs (alA a h) w k), nI k, N)) 24 rfl (fun k hk => ?_) ?_ (by rw [FU_v]; omega)
  · have g : ¬ (24 : Int32) ≤ nI k := nI_ge (a := k) (b := 24) hk (by decide)
    unfold f_X6_spot_L45
    dsimp only
    rw [if_neg g, nI_1]
    by_cases q : k = w
    · rw [if_pos (by rw [q]), spot_body hw hm hh e hk (Or.inl q)]
      rfl
    · rw [if_neg (fun z => q ((nI_eq (by omega) (by omega)).mp z)), X6_isFree hw hm hk, Option.bind_some]
      by_cases q2 : whoA a k = none
      · rw [b2_t q2, if_neg (by decide), spot_body hw hm hh e hk (Or.inr q2)]
        rfl
      · have hV : ¬ alA a h k = true := fun z => by
          rcases ((alA_iff a h k).mp z).2.1 with y | y
          · exact q2 y
          · have := (whoA_some hw).mp y
            rw [e] at this
            cases this
            exact q rfl
        have eb : bs (alA a h) w (k + 1) = bs (alA a h) w k := by
          rw [bs]
          cases bs (alA a h) w k with
          | none => dsimp only; rw [if_neg hV]
          | some b => dsimp only; rw [if_neg (fun y => hV y.1)]
        rw [b2_f q2, if_pos rfl, eb]
        rfl
  · unfold f_X6_spot_L45
    dsimp only
    rw [if_pos (by decide)]
theorem p_spot (h : Rel M N) (x : Int32) : Same (f_X5_spot x M) (f_X6_spot x N) := by
  obtain ⟨a, hw, hc, hm⟩ := h.1
  have hn := hw.1
  unfold f_X5_spot f_X6_spot
  rw [X0_has hw hc, X6_isHanger hw hm]
  simp only [Option.bind_some, bnd_eta, b2_0]
  by_cases hx : IX x (aN a)
  · obtain ⟨k, hk, rfl⟩ := ix_of hx (by omega)
    rw [if_neg (not_not_intro hx), if_neg (not_not_intro hx), X0_isUp hw hc (by omega), X6_isOn hw hm hk, N_pl hw hm hk]
    simp only [Option.bind_some, b2_0]
    cases e : aPl a k with
    | none =>
      rw [if_pos (by decide), if_pos (by decide)]
      exact same_find h 4 (by decide) (by decide)
    | some w =>
      have hS : (some w).isSome = true := rfl
      have hwp := (hw.2.2.2.2.1 k w e).2
      rw [if_neg (not_not_intro hS), if_neg (not_not_intro hS), if_pos (inR_nI (show k < 12 by omega) (by decide)), bn_e, cl_nI (by omega), C_pl hc (show k < 12 by omega), e, show pv (some w) = nI w from rfl, spot_C hw hc hk hwp, spot_N hw hm hk e]
      cases eb : bs (alA a k) w 24 with
      | none =>
        dsimp only
        rw [if_neg (by decide)]
        exact same_find h 3 (by decide) (by decide)
      | some p =>
        have hp := ((bs_spec (alA a k) w 24).2 p eb).1
        have g : (0 : Int32) ≤ nI p := nI_pos' (by omega)
        dsimp only
        rw [show pv (some p) = nI p from rfl, if_pos g]
        exact same_rd h _
  · rw [if_pos hx, if_pos hx]; exact same_find h 0 (by decide) m1_1
end SPOT
