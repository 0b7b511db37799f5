/-! PURE: lays, book -/
section LAYS
variable {M N : Mem} {a : AR}
/-- what stays while sheets hang hangers -/
def LI (M N : Mem) (a : AR) (M2 N2 : Mem) : Prop := ∃ b, WF b ∧ aN b = aN a ∧ CR M2 1 b ∧ MR N2 37 b ∧ CO M M2 ∧ NO N N2
theorem lays_lp {s z : Nat} (hs : s < 4) (h40 : z ≤ 40) (hn : aN a ≤ 12) (hz : gI N 45 s = nI z) (hv : ∀ i, i < 40 → gJ M (27 + 2 * s + 1) i = gJ N 46 (40 * s + i)) : ∀ n k c M2 N2, k + n = min z (aN a) → LI M N a M2 N2 → ∃ M3 N3 c2, (∀ F, n < F → lp (f_X5_lays_L45 (nI (min z (aN a))) s) F (nI c, nI k, M2) = some (nI c2, M3)) ∧ (∀ F, n < F → lp (f_X6_lays_L21 (nI s)) F (nI c, nI k, N2) = some (nI c2, N3)) ∧ LI M N a M3 N3 := by
  intro n
  induction n with
  | zero =>
    intro k c M2 N2 hk hI
    obtain ⟨b, hwb, hnb, hcb, hmb, co, no⟩ := hI
    refine ⟨M2, N2, c, fun F hF => ?_, fun F hF => ?_, b, hwb, hnb, hcb, hmb, co, no⟩
    · obtain ⟨F, rfl⟩ : ∃ G, F = G + 1 := ⟨F - 1, by omega⟩
      refine lp_end ?_
      unfold f_X5_lays_L45
      dsimp only
      rw [if_pos (nI_le (by omega) (by omega))]
    · obtain ⟨F, rfl⟩ : ∃ G, F = G + 1 := ⟨F - 1, by omega⟩
      refine lp_end ?_
      have hz2 : gI N2 45 s = nI z := (no.1 45 s (by decide)).trans hz
      unfold f_X6_lays_L21
      dsimp only
      rw [if_pos (inR_nI hs (by decide)), cl_nI (by omega), hz2, hmb.1, hnb]
      by_cases q : z ≤ k
      · rw [if_pos (nI_le q (by omega))]
      · rw [if_neg (nI_ge (by omega) (by omega)), if_pos (nI_le (by omega) (by omega))]
  | succ n ih =>
    intro k c M2 N2 hk hI
    obtain ⟨b, hwb, hnb, hcb, hmb, co, no⟩ := hI
    have hkb : k < aN b := by omega
    have hz2 : gI N2 45 s = nI z := (no.1 45 s (by decide)).trans hz
    have e1 : gJ M2 (27 + 2 * s + 1) k = gJ N 46 (40 * s + k) := (co.2 _ _).trans (hv k (by omega))
    have e2 : gJ N2 46 (40 * s + k) = gJ N 46 (40 * s + k) := no.2.1 _
    have stC : f_X5_lays_L45 (nI (min z (aN a))) s (nI c, nI k, M2) = Option.bind (f_X0_isUp (nI k) M2) (fun r67 : Int32 => Option.bind (if r67 = 0 then if (lg_cmp (gJ N 46 (40 * s + k)) 0) < 0 then some (nI c, M2) else if (0 : Int32) ≤ (lg_cmp (gJ N 46 (40 * s + k)) 24) then some (nI c, M2) else Option.bind (f_X0_isFree (gJ N 46 (40 * s + k)).toInt32 M2) (fun r96 : Int32 => if r96 = 0 then some (nI c, M2) else Option.bind (f_X0_put (nI k) (gJ N 46 (40 * s + k)).toInt32 M2) (fun r111 : Mem => Option.bind (f_X0_addMove r111) (fun r118 : Mem => some ((nI c + 1), r118)))) else some (nI c, M2)) (fun y70 : Int32 × Mem => some (.inl (y70.1, (nI k + 1), y70.2)))) := by
      unfold f_X5_lays_L45
      dsimp only
      rw [if_neg (nI_ge (by omega) (by omega)), if_pos (inR_nI (show k < 40 by omega) (by decide)), cl_nI (by omega), bn_e, e1]
    have stN : f_X6_lays_L21 (nI s) (nI c, nI k, N2) = Option.bind (f_X6_isOn (nI k) N2) (fun r60 : Int32 => Option.bind (if r60 = 0 then Option.bind (f_X6_in (gJ N 46 (40 * s + k)) 0 23) (fun r72 : Int32 => if r72 = 0 then some (nI c, N2) else Option.bind (f_X6_isFree (gJ N 46 (40 * s + k)).toInt32 N2) (fun r82 : Int32 => if r82 = 0 then some (nI c, N2) else Option.bind (f_X6_hangs (nI k) (gJ N 46 (40 * s + k)).toInt32 N2) (fun r94 : Mem => some ((nI c + 1), r94)))) else some (nI c, N2)) (fun y63 : Int32 × Mem => some (.inl (y63.1, (nI k + 1), y63.2)))) := by
      unfold f_X6_lays_L21
      dsimp only
      rw [if_pos (inR_nI hs (by decide)), cl_nI (by omega), hz2, if_neg (nI_ge (by omega) (by omega)), hmb.1, if_neg (nI_ge hkb (by omega)), sh_ix, if_pos (inR_nI (show 40 * s + k < 160 by omega) (by decide)), cl_nI (by omega), bn_e, e2]
    have go : ∀ c2 M3 N3, f_X5_lays_L45 (nI (min z (aN a))) s (nI c, nI k, M2) = some (.inl (nI c2, nI k + 1, M3)) → f_X6_lays_L21 (nI s) (nI c, nI k, N2) = some (.inl (nI c2, nI k + 1, N3)) → LI M N a M3 N3 → ∃ M3 N3 c2, (∀ F, n + 1 < F → lp (f_X5_lays_L45 (nI (min z (aN a))) s) F (nI c, nI k, M2) = some (nI c2, M3)) ∧ (∀ F, n + 1 < F → lp (f_X6_lays_L21 (nI s)) F (nI c, nI k, N2) = some (nI c2, N3)) ∧ LI M N a M3 N3 := by
      intro c2 M3 N3 x1 x2 x3
      rw [nI_1 k] at x1 x2
      obtain ⟨M4, N4, c4, y1, y2, y3⟩ := ih (k + 1) c2 M3 N3 (by omega) x3
      refine ⟨M4, N4, c4, fun F hF => ?_, fun F hF => ?_, y3⟩
      · obtain ⟨F, rfl⟩ : ∃ G, F = G + 1 := ⟨F - 1, by omega⟩
        rw [lp_step x1]; exact y1 F (by omega)
      · obtain ⟨F, rfl⟩ : ∃ G, F = G + 1 := ⟨F - 1, by omega⟩
        rw [lp_step x2]; exact y2 F (by omega)
    have same : LI M N a M2 N2 := ⟨b, hwb, hnb, hcb, hmb, co, no⟩
    generalize gJ N 46 (40 * s + k) = v at stC stN
    rw [X0_isUp hwb hcb (by omega), Option.bind_some] at stC
    rw [X6_isOn hwb hmb hkb, Option.bind_some] at stN
    have e0 : (0 : Int64).toInt = 0 := rfl
    have e23 : (23 : Int64).toInt = 23 := rfl
    have e24 : (24 : Int64).toInt = 24 := rfl
    cases e : aPl b k with
    | some q =>
      rw [e, b2_t (show (some q).isSome = true from rfl), if_neg (by decide)] at stC stN
      exact go c M2 N2 stC stN same
    | none =>
      rw [e, b2_f (by decide), if_pos rfl] at stC stN
      rw [in_spec, e0, e23, Option.bind_some] at stN
      by_cases h0 : v.toInt < 0
      · rw [if_pos ((cmp_lt v 0).mpr (by omega))] at stC
        rw [b2_f (by omega), if_pos rfl] at stN
        exact go c M2 N2 stC stN same
      · rw [if_neg (fun q => h0 (by have := (cmp_lt v 0).mp q; omega))] at stC
        by_cases h1 : 24 ≤ v.toInt
        · rw [if_pos ((cmp_ge v 24).mpr (by omega))] at stC
          rw [b2_f (by omega), if_pos rfl] at stN
          exact go c M2 N2 stC stN same
        · rw [if_neg (fun q => h1 (by have := (cmp_ge v 24).mp q; omega)), j_nI (by omega) (by omega)] at stC
          rw [b2_t (by omega), if_neg (by decide), j_nI (by omega) (by omega)] at stN
          have hp : v.toInt.toNat < 24 := by omega
          generalize v.toInt.toNat = p at stC stN hp
          rw [X0_isFree hwb hcb hp, Option.bind_some] at stC
          rw [X6_isFree hwb hmb hp, Option.bind_some] at stN
          by_cases hf : whoA b p = none
          · have hf2 := (whoA_none hwb).mp hf
            have hc1 := C_put hcb e hf2
            have hw1 := W_put hwb hkb hp hf2
            have hc2 := C_uMv hc1 (mvA b)
            have hw2 := W_uMv hw1 (mvA_le b)
            have hm2 := M_uMv (M_uPl hmb k (some p)) (mvA b)
            rw [b2_t hf, if_neg (by decide), X0_put M2 (by omega) hp, Option.bind_some, X0_addMove (v := aMv b) hc1.2.1 hwb.2.1, Option.bind_some, nI_1 c] at stC
            rw [b2_t hf, if_neg (by decide), X6_hangs N2 (by omega) (nI p) hmb.2.1 hwb.2.1, Option.bind_some, nI_1 c] at stN
            exact go (c + 1) _ _ stC stN ⟨_, hw2, hnb, hc2, hm2, ((co.sI (by decide)).sI (by decide)).sI (by decide), no37 (no37 no)⟩
          · rw [b2_f hf, if_pos rfl] at stC stN
            exact go c M2 N2 stC stN same
theorem p_lays (h : Rel M N) (x : Int32) : Same (f_X5_lays x M) (f_X6_lays x N) := by
  obtain ⟨a, hw, hc, hm⟩ := h.1
  have hn := hw.1
  unfold f_X5_lays f_X6_lays
  simp only [bnd_eta]
  by_cases hx : IX x 4
  · obtain ⟨s, hs, rfl⟩ := ix_of hx (by decide)
    obtain ⟨b, z, q1, q2, q3, q4, q5, q6, q7, q8⟩ := h.2.2.2.2 s hs
    have hb : b ≤ 64 := by omega
    rw [fas_yes hs q1 hb, ws_yes hs q2 hb, Option.bind_some, Option.bind_some]
    by_cases e : b = 0
    · have n : ¬ (-1000000006 : Int32) = 0 := by decide
      rw [if_pos e, if_neg n, if_neg n]
      exact same_find h 5 (by decide) m1_6
    · obtain ⟨M3, N3, c, k1, k2, b', hwb, hnb, hcb, hmb, co, no⟩ := lays_lp (a := a) hs q6 hn q5 q8 (min z (aN a)) 0 0 M N (by omega) ⟨a, hw, rfl, hc, hm, CO.rf M, NO.rf N⟩
      have k1' : lp (f_X5_lays_L45 (nI (min z (aN a))) s) FU (0, 0, M) = _ := k1 FU (by rw [FU_v]; omega)
      have k2' : lp (f_X6_lays_L21 (nI s)) FU (0, 0, N) = _ := k2 FU (by rw [FU_v]; omega)
      have em : (if gI M 1 0 < gI M (27 + 2 * s) 2 then gI M 1 0 else gI M (27 + 2 * s) 2) = nI (min z (aN a)) := by
        rw [hc.1, q4]
        by_cases q : aN a < z
        · rw [if_pos (nI_lt q (by omega))]; congr 1; omega
        · rw [if_neg (nI_nlt (by omega) (by omega))]; congr 1; omega
      rw [if_neg e, if_pos rfl, if_pos rfl, if_pos (inR_nI hs (by decide)), bn_e, cl_nI (by omega), em, bn_e, k1', k2']
      exact ⟨_, _, _, rfl, rfl, h.rail b' hwb hcb hmb co no⟩
  · rw [fas_no M hx, ws_no N hx, Option.bind_some, Option.bind_some]
    have n : ¬ (-1000000001 : Int32) = 0 := by decide
    rw [if_neg n, if_neg n]
    exact same_find h 0 (by decide) m1_1
/-! how many places are taken -/
theorem sm_add (f g : Nat → Nat) : ∀ n, sm (fun i => f i + g i) n = sm f n + sm g n := by
  intro n
  induction n with
  | zero => rfl
  | succ n ih => rw [sm, sm, sm, ih]; omega
theorem sm_0 : ∀ n, sm (fun _ => 0) n = 0 := by
  intro n
  induction n with
  | zero => rfl
  | succ n ih => rw [sm, ih]
theorem sm_swap (f : Nat → Nat → Nat) (m : Nat) : ∀ n, sm (fun p => sm (fun h => f p h) m) n = sm (fun h => sm (fun p => f p h) n) m := by
  intro n
  induction n with
  | zero => rw [sm]; exact (sm_0 m).symm
  | succ n ih =>
    rw [sm, ih, ← sm_add]
    exact sm_ext fun h _ => rfl
theorem sm_one (g : Nat) : ∀ n, sm (fun h => if h = g then 1 else 0) n = if g < n then 1 else 0 := by
  intro n
  induction n with
  | zero => rfl
  | succ n ih =>
    rw [sm, ih]
    by_cases e : n = g
    · rw [if_neg (by omega), if_pos e, if_pos (by omega)]
    · rw [if_neg e]
      by_cases q : g < n
      · rw [if_pos q, if_pos (by omega)]
      · rw [if_neg q, if_neg (by omega)]
theorem places (hw : WF a) : ct (fun p => (whoA a p).isSome) 24 = ct (onA a) 12 := by
  have hn := hw.1
  rw [← sm_ct, ← sm_ct]
  have A : sm (fun p => if (whoA a p).isSome = true then 1 else 0) 24 = sm (fun p => sm (fun h => if aPl a h = some p then 1 else 0) 12) 24 := sm_ext fun p hp => by
    cases e : whoA a p with
    | none =>
      have h0 := (whoA_none hw).mp e
      rw [sm_ext (g := fun _ => 0) fun h _ => if_neg (h0 h), sm_0]
      rfl
    | some g =>
      have hg := (whoA_some hw).mp e
      have hl := (hw.2.2.2.2.1 g p hg).1
      rw [sm_ext (g := fun h => if h = g then 1 else 0) fun h _ => if_c ⟨fun z => hw.2.2.2.2.2.1 h g p z hg, fun z => by rw [z]; exact hg⟩ _ _, sm_one]
      exact (if_pos rfl).trans (if_pos (by omega)).symm
  have B : sm (fun h => sm (fun p => if aPl a h = some p then 1 else 0) 24) 12 = sm (fun h => if onA a h = true then 1 else 0) 12 := sm_ext fun h hh => by
    unfold onA
    cases e : aPl a h with
    | none =>
      rw [sm_ext (g := fun _ => 0) fun p _ => if_neg (by simp), sm_0]
      rfl
    | some q =>
      have hq := (hw.2.2.2.2.1 h q e).2
      rw [sm_ext (g := fun p => if p = q then 1 else 0) fun p _ => if_c ⟨fun z => by cases z; rfl, fun z => by rw [z]⟩ _ _, sm_one, if_pos hq]
      rfl
  rw [A, sm_swap, B]
theorem nar_g : ∀ g, g < 12 → (nI g).toInt64.toInt32.toInt8.toInt32.toInt64 = (nI g).toInt64 ∧ (nI g).toInt64.toInt32.toInt16.toInt32.toInt64 = (nI g).toInt64 := by decide +kernel
theorem narV_g {g : Nat} (hg : g < 12) (b : Nat) : narV b (nI g).toInt64 = (nI g).toInt64 := by
  unfold narV
  rw [(nar_g g hg).1, (nar_g g hg).2]
  split
  · rfl
  · split <;> rfl
theorem narV_m (b : Nat) : narV b (-1) = -1 := by
  unfold narV
  split
  · decide
  · split
    · decide
    · rfl
abbrev cnP (a : AR) (k : Nat) : Nat := ct (fun p => (whoA a p).isSome) k
/-- while a sheet is written: only numbers change -/
def BI (M N M2 N2 : Mem) : Prop := Rel M2 N2 ∧ (∀ k j, gI M2 k j = gI M k j) ∧ ∀ k j, gI N2 k j = gI N k j
theorem BI.num {M2 N2 : Mem} (h : BI M N M2 N2) {s i : Nat} (hs : s < 4) (hi : i < 40) (v : Int64) : BI M N (sJ M2 (27 + 2 * s + 1) i v) (sJ N2 46 (40 * s + i) v) := ⟨h.1.num hs hi v, h.2.1, h.2.2⟩
theorem book_1 (hw : WF a) (hc : CR M 1 a) (hm : MR N 37 a) {s b z : Nat} (hs : s < 4) (h40 : z ≤ 40) (hb64 : b ≤ 64) (hb : gI M (27 + 2 * s) 1 = nI b) (hz : gI M (27 + 2 * s) 2 = nI z) (hz2 : gI N 45 s = nI z) : ∀ n k M2 N2, k + n = 24 → BI M N M2 N2 → ∃ M3 N3, (∀ F, n < F → lp (f_X5_book_L29 s) F (nI (min (cnP a k) z), nI k, M2) = some (nI (min (cnP a 24) z), M3)) ∧ (∀ F, n < F → lp (f_X6_book_L21 (nI s)) F (nI (cnP a k), nI k, N2) = some (nI (cnP a 24), N3)) ∧ BI M N M3 N3 := by
  intro n
  induction n with
  | zero =>
    intro k M2 N2 hk hI
    have : k = 24 := by omega
    subst this
    refine ⟨M2, N2, fun F hF => ?_, fun F hF => ?_, hI⟩
    · obtain ⟨F, rfl⟩ : ∃ G, F = G + 1 := ⟨F - 1, by omega⟩
      refine lp_end ?_
      unfold f_X5_book_L29
      dsimp only
      rw [if_pos (by decide)]
    · obtain ⟨F, rfl⟩ : ∃ G, F = G + 1 := ⟨F - 1, by omega⟩
      refine lp_end ?_
      unfold f_X6_book_L21
      dsimp only
      rw [if_pos (by decide)]
  | succ n ih =>
    intro k M2 N2 hk hI
    have hk24 : k < 24 := by omega
    have g : ¬ (24 : Int32) ≤ nI k := nI_ge (a := k) (b := 24) hk24 (by decide)
    have hc2 : CR M2 1 a := hc.of (fun c j _ _ => hI.2.1 c j)
    have hm2 : MR N2 37 a := hm.of (fun j => hI.2.2 37 j)
    have hb2 : gI M2 (27 + 2 * s) 1 = nI b := (hI.2.1 _ _).trans hb
    have hzC : gI M2 (27 + 2 * s) 2 = nI z := (hI.2.1 _ _).trans hz
    have hzN : gI N2 45 s = nI z := (hI.2.2 _ _).trans hz2
    have cl : cnP a k ≤ k := ct_le _ k
    have go : ∀ M3 N3, f_X5_book_L29 s (nI (min (cnP a k) z), nI k, M2) = some (.inl (nI (min (cnP a (k + 1)) z), nI (k + 1), M3)) → f_X6_book_L21 (nI s) (nI (cnP a k), nI k, N2) = some (.inl (nI (cnP a (k + 1)), nI (k + 1), N3)) → BI M N M3 N3 → ∃ M3 N3, (∀ F, n + 1 < F → lp (f_X5_book_L29 s) F (nI (min (cnP a k) z), nI k, M2) = some (nI (min (cnP a 24) z), M3)) ∧ (∀ F, n + 1 < F → lp (f_X6_book_L21 (nI s)) F (nI (cnP a k), nI k, N2) = some (nI (cnP a 24), N3)) ∧ BI M N M3 N3 := by
      intro M3 N3 x1 x2 x3
      obtain ⟨M4, N4, y1, y2, y3⟩ := ih (k + 1) M3 N3 (by omega) x3
      refine ⟨M4, N4, fun F hF => ?_, fun F hF => ?_, y3⟩
      · obtain ⟨F, rfl⟩ : ∃ G, F = G + 1 := ⟨F - 1, by omega⟩
        rw [lp_step x1]; exact y1 F (by omega)
      · obtain ⟨F, rfl⟩ : ∃ G, F = G + 1 := ⟨F - 1, by omega⟩
        rw [lp_step x2]; exact y2 F (by omega)
    cases e : whoA a k with
    | none =>
      have ec : cnP a (k + 1) = cnP a k := by
        show ct _ k + (if (whoA a k).isSome = true then 1 else 0) = _
        rw [e]; rfl
      refine go M2 N2 ?_ ?_ hI
      · unfold f_X5_book_L29
        dsimp only
        rw [if_neg g, X0_isFree hw hc2 hk24, Option.bind_some, b2_t e, if_neg (by decide), nI_1, ec]
        rfl
      · unfold f_X6_book_L21
        dsimp only
        rw [if_neg g, X6_who hw hm2 hk24, e, Option.bind_some, if_pos (by decide), Option.bind_some, if_pos (by decide), Option.bind_some, bn_e, nI_1, ec]
        exact congrArg (fun y => some (Sum.inl (y, nI (k + 1), N2))) (nI_add _ 0)
    | some h =>
      have hh := whoB hw e
      have ec : cnP a (k + 1) = cnP a k + 1 := by
        show ct _ k + (if (whoA a k).isSome = true then 1 else 0) = _
        rw [e]; rfl
      have ne : ¬ pv (some h) < 0 := nI_pos (n := h) (by omega)
      by_cases q : z ≤ cnP a k
      · refine go M2 N2 ?_ ?_ hI
        · unfold f_X5_book_L29
          dsimp only
          rw [if_neg g, X0_isFree hw hc2 hk24, Option.bind_some, b2_f (by rw [e]; simp), if_pos rfl, hzC, if_pos (nI_le (by omega) (by omega)), nI_1, ec, show min (cnP a k + 1) z = min (cnP a k) z by omega]
          rfl
        · unfold f_X6_book_L21
          dsimp only
          rw [if_neg g, X6_who hw hm2 hk24, e, Option.bind_some, if_neg ne, if_pos (inR_nI hs (by decide)), cl_nI (by omega), hzN, if_pos (nI_le q (by omega)), Option.bind_some, if_neg ne, Option.bind_some, bn_e, nI_1, nI_1, ec]
      · have em : min (cnP a k) z = cnP a k := by omega
        refine go _ _ ?_ ?_ (hI.num hs (show cnP a k < 40 by omega) (nI h).toInt64)
        · unfold f_X5_book_L29
          dsimp only
          rw [if_neg g, X0_isFree hw hc2 hk24, Option.bind_some, b2_f (by rw [e]; simp), if_pos rfl, hzC, em, if_neg (nI_ge (by omega) (by omega)), if_pos (inR_nI hk24 (by decide)), cl_nI (by omega), C_at hw hc2 hk24, e, show pv (some h) = nI h from rfl, X2_put hs (by omega) hb2 hb64, Option.bind_some, nI_1, nI_1, ec, show min (cnP a k + 1) z = cnP a k + 1 by omega, narV_g hh]
          rfl
        · unfold f_X6_book_L21
          dsimp only
          rw [if_neg g, X6_who hw hm2 hk24, e, Option.bind_some, if_neg ne, if_pos (inR_nI hs (by decide)), cl_nI (by omega), hzN, if_neg (nI_ge (by omega) (by omega)), sh_ix, if_pos (inR_nI (show 40 * s + cnP a k < 160 by omega) (by decide)), cl_nI (by omega), bn_e, Option.bind_some, if_neg ne, Option.bind_some, bn_e, nI_1, nI_1, ec]
          rfl
theorem book_2 {s b z : Nat} (hs : s < 4) (h40 : z ≤ 40) (hb64 : b ≤ 64) (hb : gI M (27 + 2 * s) 1 = nI b) (hz : gI M (27 + 2 * s) 2 = nI z) (hz2 : gI N 45 s = nI z) : ∀ n k M2 N2, k + n = z → BI M N M2 N2 → ∃ M3 N3, (∀ F, n < F → lp (f_X5_book_L87 s) F (nI k, M2) = some M3) ∧ (∀ F, n < F → lp (f_X6_book_L87 (nI s)) F (nI k, N2) = some N3) ∧ BI M N M3 N3 := by
  intro n
  induction n with
  | zero =>
    intro k M2 N2 hk hI
    have hzC : gI M2 (27 + 2 * s) 2 = nI z := (hI.2.1 _ _).trans hz
    have hzN : gI N2 45 s = nI z := (hI.2.2 _ _).trans hz2
    refine ⟨M2, N2, fun F hF => ?_, fun F hF => ?_, hI⟩
    · obtain ⟨F, rfl⟩ : ∃ G, F = G + 1 := ⟨F - 1, by omega⟩
      refine lp_end ?_
      unfold f_X5_book_L87
      dsimp only
      rw [hzC, if_pos (nI_le (by omega) (by omega))]
    · obtain ⟨F, rfl⟩ : ∃ G, F = G + 1 := ⟨F - 1, by omega⟩
      refine lp_end ?_
      unfold f_X6_book_L87
      dsimp only
      rw [if_pos (inR_nI hs (by decide)), cl_nI (by omega), hzN, if_pos (nI_le (by omega) (by omega))]
  | succ n ih =>
    intro k M2 N2 hk hI
    have hb2 : gI M2 (27 + 2 * s) 1 = nI b := (hI.2.1 _ _).trans hb
    have hzC : gI M2 (27 + 2 * s) 2 = nI z := (hI.2.1 _ _).trans hz
    have hzN : gI N2 45 s = nI z := (hI.2.2 _ _).trans hz2
    obtain ⟨M4, N4, y1, y2, y3⟩ := ih (k + 1) _ _ (by omega) (hI.num hs (show k < 40 by omega) (-1))
    refine ⟨M4, N4, fun F hF => ?_, fun F hF => ?_, y3⟩
    · obtain ⟨F, rfl⟩ : ∃ G, F = G + 1 := ⟨F - 1, by omega⟩
      rw [lp_step (t := (nI (k + 1), sJ M2 (27 + 2 * s + 1) k (-1)))]
      · exact y1 F (by omega)
      · unfold f_X5_book_L87
        dsimp only
        rw [hzC, if_neg (nI_ge (by omega) (by omega)), X2_put hs (by omega) hb2 hb64, Option.bind_some, narV_m, nI_1]
    · obtain ⟨F, rfl⟩ : ∃ G, F = G + 1 := ⟨F - 1, by omega⟩
      rw [lp_step (t := (nI (k + 1), sJ N2 46 (40 * s + k) (-1)))]
      · exact y2 F (by omega)
      · unfold f_X6_book_L87
        dsimp only
        rw [if_pos (inR_nI hs (by decide)), cl_nI (by omega), hzN, if_neg (nI_ge (by omega) (by omega)), sh_ix, if_pos (inR_nI (show 40 * s + k < 160 by omega) (by decide)), cl_nI (by omega), bn_e, nI_1]
theorem p_book (h : Rel M N) (x : Int32) : Same (f_X5_book x M) (f_X6_book x N) := by
  obtain ⟨a, hw, hc, hm⟩ := h.1
  have hn := hw.1
  unfold f_X5_book f_X6_book
  simp only [bnd_eta]
  by_cases hx : IX x 4
  · obtain ⟨s, hs, rfl⟩ := ix_of hx (by decide)
    obtain ⟨b, z, q1, q2, q3, q4, q5, q6, q7, q8⟩ := h.2.2.2.2 s hs
    have hb : b ≤ 64 := by omega
    rw [fas_yes hs q1 hb, ws_yes hs q2 hb, Option.bind_some, Option.bind_some]
    by_cases e : b = 0
    · have n : ¬ (-1000000006 : Int32) = 0 := by decide
      rw [if_pos e, if_neg n, if_neg n]
      exact same_find h 5 (by decide) m1_6
    · obtain ⟨M3, N3, k1, k2, k3⟩ := book_1 hw hc hm hs q6 hb q1 q4 q5 24 0 M N (by omega) ⟨h, fun _ _ => rfl, fun _ _ => rfl⟩
      have k1' : lp (f_X5_book_L29 s) FU (0, 0, M) = some (nI (min (cnP a 24) z), M3) := by
        have := k1 FU (by rw [FU_v]; omega)
        rw [show min (cnP a 0) z = 0 from Nat.zero_min z] at this
        exact this
      have k2' : lp (f_X6_book_L21 (nI s)) FU (0, 0, N) = _ := k2 FU (by rw [FU_v]; omega)
      have cl : cnP a 24 ≤ 24 := ct_le _ 24
      have ep : cnP a 24 = pc (ms (onA a) 12) := (places hw).trans (pc_ms _).symm
      rw [if_neg e, if_pos rfl, if_pos rfl, if_pos (inR_nI hs (by decide)), bn_e, cl_nI (by omega), k1', k2', Option.bind_some, Option.bind_some]
      obtain ⟨M4, N4, l1, l2, l3⟩ : ∃ M4 N4, lp (f_X5_book_L87 s) FU (nI (min (cnP a 24) z), M3) = some M4 ∧ lp (f_X6_book_L87 (nI s)) FU (nI (cnP a 24), N3) = some N4 ∧ BI M N M4 N4 := by
        by_cases q : z ≤ cnP a 24
        · have hzC : gI M3 (27 + 2 * s) 2 = nI z := (k3.2.1 _ _).trans q4
          have hzN : gI N3 45 s = nI z := (k3.2.2 _ _).trans q5
          refine ⟨M3, N3, ?_, ?_, k3⟩
          · refine lp_end (n := 8191) ?_
            unfold f_X5_book_L87
            dsimp only
            rw [hzC, if_pos (nI_le (by omega) (by omega))]
          · refine lp_end (n := 8191) ?_
            unfold f_X6_book_L87
            dsimp only
            rw [if_pos (inR_nI hs (by decide)), cl_nI (by omega), hzN, if_pos (nI_le q (by omega))]
        · obtain ⟨M4, N4, l1, l2, l3⟩ := book_2 hs q6 hb q1 q4 q5 (z - cnP a 24) (cnP a 24) M3 N3 (by omega) k3
          exact ⟨M4, N4, by rw [show min (cnP a 24) z = cnP a 24 by omega]; exact l1 FU (by rw [FU_v]; omega), l2 FU (by rw [FU_v]; omega), l3⟩
      have hc4 : CR M4 1 a := hc.of (fun c j _ _ => l3.2.1 c j)
      dsimp only
      rw [l1, l2, Option.bind_some, Option.bind_some, X0_up hw hc4, Option.bind_some, bc_spec _ (ms12 _), ep]
      exact ⟨_, _, _, rfl, rfl, l3.1⟩
  · rw [fas_no M hx, ws_no N hx, Option.bind_some, Option.bind_some]
    have n : ¬ (-1000000001 : Int32) = 0 := by decide
    rw [if_neg n, if_neg n]
    exact same_find h 0 (by decide) m1_1
end LAYS
