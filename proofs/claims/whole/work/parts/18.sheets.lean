/-! PURE: sheets -/
section SHEETS
variable {M N M2 N2 : Mem} {a : AR}
def SameL (x y : Option (Int64 × Mem)) : Prop := ∃ v M N, x = some (v, M) ∧ y = some (v, N) ∧ Rel M N
theorem m1_6 : (-1000000001 : Int32) - (-1000000006) = nI 5 := by decide
theorem m1_1 : (-1000000001 : Int32) - (-1000000001) = nI 0 := by decide
theorem fas_no (M : Mem) {x : Int32} (hx : ¬ IX x 4) : f_X5_findingAgainstSheet x M = some (-1000000001) := by
  unfold f_X5_findingAgainstSheet
  rw [X5_isSheet, b2_f hx]
  rfl
theorem ws_no (N : Mem) {x : Int32} (hx : ¬ IX x 4) : f_X6_wrongSheet x N = some (-1000000001) := by
  unfold f_X6_wrongSheet
  rw [X6_isOne, b2_f hx]
  rfl
theorem fas_yes {s b : Nat} (hs : s < 4) (hb : gI M (27 + 2 * s) 1 = nI b) (hb2 : b ≤ 64) : f_X5_findingAgainstSheet (nI s) M = some (if b = 0 then -1000000006 else 0) := by
  unfold f_X5_findingAgainstSheet f_X2_isMissing
  rw [X5_isSheet, b2_t ((ix_nI (by omega)).mpr hs)]
  simp only [Option.bind_some, bn_e]
  rw [if_neg (by decide), if_pos (inR_nI hs (by decide)), cl_nI (by omega), hb]
  by_cases e : b = 0
  · subst e; rfl
  · have g : ¬ nI b = 0 := nI_ne0 (by omega) (by omega)
    rw [if_neg g, if_neg e]; rfl
theorem ws_yes {s b : Nat} (hs : s < 4) (hb : gI N 44 s = nI b) (hb2 : b ≤ 64) : f_X6_wrongSheet (nI s) N = some (if b = 0 then -1000000006 else 0) := by
  unfold f_X6_wrongSheet
  rw [X6_isOne, b2_t ((ix_nI (by omega)).mpr hs)]
  simp only [Option.bind_some]
  rw [if_neg (by decide), if_pos (inR_nI hs (by decide)), cl_nI (by omega), hb]
  by_cases e : b = 0
  · subst e; rfl
  · have g : ¬ nI b = 0 := nI_ne0 (by omega) (by omega)
    rw [if_neg g, if_neg e]; rfl
def zJ (M : Mem) (c b : Nat) : Nat → Mem
  | 0 => M
  | k + 1 => sJ (zJ M c b k) c (b + k) 0
theorem gJ_zJ (M : Mem) (c0 b : Nat) : ∀ (k c j : Nat), gJ (zJ M c0 b k) c j = if c = c0 ∧ b ≤ j ∧ j < b + k then 0 else gJ M c j := by
  intro k
  induction k with
  | zero => intro c j; rw [if_neg (by omega)]; rfl
  | succ k ih =>
    intro c j
    rw [zJ, gJ_sJ, ih]
    by_cases h1 : c = c0 ∧ j = b + k
    · rw [if_pos h1, if_pos (by omega)]
    · rw [if_neg h1]
      exact if_c (by omega) _ _
theorem gI_zJ (M : Mem) (c0 b : Nat) : ∀ (k c j : Nat), gI (zJ M c0 b k) c j = gI M c j := by
  intro k
  induction k with
  | zero => intro c j; rfl
  | succ k ih => intro c j; rw [zJ, gI_sJ, ih]
theorem lay_spec (M : Mem) {s : Nat} (hs : s < 4) (x y : Int32) : f_X2_lay s x y M = some (zJ (sI (sI M (27 + 2 * s) 1 x) (27 + 2 * s) 2 y) (27 + 2 * s + 1) 0 40) := by
  unfold f_X2_lay
  simp only [bn_e]
  refine (lp_go (r := zJ (sI (sI M (27 + 2 * s) 1 x) (27 + 2 * s) 2 y) (27 + 2 * s + 1) 0 40) (fun k => (nI k, zJ (sI (sI M (27 + 2 * s) 1 x) (27 + 2 * s) 2 y) (27 + 2 * s + 1) 0 k)) 40 rfl (fun k hk => ?_) rfl (by rw [FU_v]; omega)).trans rfl
  unfold f_X2_lay_L12
  dsimp only
  have g : ¬ (40 : Int32) ≤ nI k := nI_ge (a := k) (b := 40) hk (by decide)
  rw [if_neg g, if_pos (inR_nI hk (by decide)), cl_nI (by omega), nI_1]
  simp only [bn_e, zJ, Nat.zero_add]
theorem sh_ix (s k : Nat) : (40 * nI s) + nI k = nI (40 * s + k) := by
  rw [show (40 : Int32) = nI 40 from rfl, pk_mul, nI_add]
theorem sheet_loop (N : Mem) {s : Nat} (hs : s < 4) {β : Type} (k : Mem → Option β) : Option.bind (lp (f_X6_sheet_L86 (nI s)) FU (0, N)) k = k (zJ N 46 (40 * s) 40) := by
  refine lp_go (r := zJ N 46 (40 * s) 40) (fun k => (nI k, zJ N 46 (40 * s) k)) 40 rfl (fun k hk => ?_) rfl (by rw [FU_v]; omega)
  unfold f_X6_sheet_L86
  dsimp only
  have g : ¬ (40 : Int32) ≤ nI k := nI_ge (a := k) (b := 40) hk (by decide)
  rw [if_neg g, sh_ix, if_pos (inR_nI (by omega) (by decide)), cl_nI (by omega), nI_1]
  simp only [bn_e, zJ]
theorem Rel.lay (h : Rel M N) {s b z : Nat} (hs : s < 4) (hb : b = 0 ∨ b = 8 ∨ b = 16 ∨ b = 64) (hz : z ≤ 40) (hbz : b = 0 → z = 0) : Rel (zJ (sI (sI M (27 + 2 * s) 1 (nI b)) (27 + 2 * s) 2 (nI z)) (27 + 2 * s + 1) 0 40) (zJ (sI (sI N 44 s (nI b)) 45 s (nI z)) 46 (40 * s) 40) := by
  have hsh := h.2.2.2.2
  refine h.sheet (fun k j q => by rw [gI_zJ, gI_sI, if_neg (by omega), gI_sI, if_neg (by omega)]) (fun k j q1 q2 => by rw [gI_zJ, gI_sI, if_neg (fun z => q2 z.1), gI_sI, if_neg (fun z => q1 z.1)]) ?_
  intro r hr
  by_cases e : r = s
  · subst e
    refine ⟨b, z, ?_, ?_, hb, ?_, ?_, hz, hbz, fun i hi => ?_⟩
    · rw [gI_zJ, gI_sI, if_neg (by omega), gI_sI, if_pos ⟨rfl, rfl⟩]
    · rw [gI_zJ, gI_sI, if_neg (by omega), gI_sI, if_pos ⟨rfl, rfl⟩]
    · rw [gI_zJ, gI_sI, if_pos ⟨rfl, rfl⟩]
    · rw [gI_zJ, gI_sI, if_pos ⟨rfl, rfl⟩]
    · rw [gJ_zJ, if_pos (by omega), gJ_zJ, if_pos (by omega)]
  · obtain ⟨b', z', q1, q2, q3, q4, q5, q6, q7, q8⟩ := hsh r hr
    refine ⟨b', z', ?_, ?_, q3, ?_, ?_, q6, q7, fun i hi => ?_⟩
    · rw [gI_zJ, gI_sI, if_neg (by omega), gI_sI, if_neg (by omega)]; exact q1
    · rw [gI_zJ, gI_sI, if_neg (by omega), gI_sI, if_neg (by omega)]; exact q2
    · rw [gI_zJ, gI_sI, if_neg (by omega), gI_sI, if_neg (by omega)]; exact q4
    · rw [gI_zJ, gI_sI, if_neg (by omega), gI_sI, if_neg (by omega)]; exact q5
    · rw [gJ_zJ, if_neg (by omega), gJ_zJ, if_neg (by omega)]; exact q8 i hi
theorem X6_sheet_ok (N : Mem) {s b z : Nat} (hs : s < 4) (hz : z ≤ 40) : (if inR (nI s) 4 then bn (sI N 44 (nI s).toNatClampNeg (nI b)) (fun m : Mem => Option.bind (if nI b = 0 then some 0 else some (nI z)) (fun y : Int32 => if inR (nI s) 4 then bn (sI m 45 (nI s).toNatClampNeg y) (fun m2 : Mem => Option.bind (lp (f_X6_sheet_L86 (nI s)) FU (0, m2)) (fun x : Mem => if inR (nI s) 4 then some ((gI x 45 (nI s).toNatClampNeg), x) else none)) else none)) else none : Option (Int32 × Mem)) = (let y := if nI b = 0 then 0 else nI z; some (y, zJ (sI (sI N 44 s (nI b)) 45 s y) 46 (40 * s) 40)) := by
  have g := inR_nI hs (by decide)
  simp only [if_pos g, bn_e, cl_nI (show s < 2147483648 by omega), sheet_loop _ hs, bnd_ite, Option.bind_some]
  by_cases e : nI b = 0
  · rw [if_pos e, if_pos e, gI_zJ, gI_sI, if_pos ⟨rfl, rfl⟩]
  · rw [if_neg e, if_neg e, gI_zJ, gI_sI, if_pos ⟨rfl, rfl⟩]
theorem p_sheet (h : Rel M N) (x y z : Int32) : Same (f_X5_sheet x y z M) (f_X6_sheet x y z N) := by
  unfold f_X5_sheet f_X6_sheet
  rw [X5_isSheet, X6_isOne]
  simp only [Option.bind_some, bnd_eta, b2_0]
  have e0 : (0 : Int32).toInt = 0 := rfl
  have e40 : (40 : Int32).toInt = 40 := rfl
  by_cases hx : IX x 4
  · obtain ⟨s, hs, rfl⟩ := ix_of hx (by decide)
    have g := inR_nI hs (by decide : 4 < 2147483648)
    simp only [if_neg (not_not_intro hx)]
    -- what is done with good bits
    have good : ∀ b : Nat, (b = 0 ∨ b = 8 ∨ b = 16 ∨ b = 64) → Same (if (0 : Int32) ≤ z then if z ≤ 40 then Option.bind (if nI b = 0 then some 0 else some z) (fun y73 : Int32 => if inR (nI s) 4 then bn (nI s).toNatClampNeg (fun q88 : Nat => Option.bind (f_X2_lay q88 (nI b) y73 M) (fun r92 : Mem => some (y73, r92))) else none) else f_X5_told (-1000000001) M else f_X5_told (-1000000007) M)
        (if (0 : Int32) ≤ z then if z ≤ 40 then if inR (nI s) 4 then bn (sI N 44 (nI s).toNatClampNeg (nI b)) (fun m : Mem => Option.bind (if nI b = 0 then some 0 else some z) (fun y : Int32 => if inR (nI s) 4 then bn (sI m 45 (nI s).toNatClampNeg y) (fun m2 : Mem => Option.bind (lp (f_X6_sheet_L86 (nI s)) FU (0, m2)) (fun x : Mem => if inR (nI s) 4 then some ((gI x 45 (nI s).toNatClampNeg), x) else none)) else none)) else none else f_X6_finds (-1000000001) N else f_X6_finds (-1000000007) N) := by
      intro b hb
      by_cases z0 : (0 : Int32) ≤ z
      · rw [if_pos z0, if_pos z0]
        by_cases z4 : z ≤ 40
        · rw [if_pos z4, if_pos z4]
          rw [i_le] at z0 z4
          obtain ⟨w, hw, rfl⟩ := ix_of (x := z) (n := 41) ⟨by omega, by omega⟩ (by decide)
          rw [X6_sheet_ok N hs (by omega)]
          simp only [bnd_ite, Option.bind_some, if_pos g, bn_e, cl_nI (show s < 2147483648 by omega), lay_spec M hs]
          by_cases eb : nI b = 0
          · have eb0 : b = 0 := by
              rcases hb with q | q | q | q <;> rw [q] at eb
              · exact q
              · exact absurd eb (by decide)
              · exact absurd eb (by decide)
              · exact absurd eb (by decide)
            rw [if_pos eb, if_pos eb]
            subst eb0
            exact ⟨_, _, _, rfl, rfl, h.lay (b := 0) (z := 0) hs hb (by omega) (fun _ => rfl)⟩
          · rw [if_neg eb, if_neg eb]
            exact ⟨_, _, _, rfl, rfl, h.lay hs hb (by omega) (fun q => absurd (by rw [q]; rfl) eb)⟩
        · rw [if_neg z4, if_neg z4]; exact same_find h 0 (by decide) (by decide)
      · rw [if_neg z0, if_neg z0]; exact same_find h 6 (by decide) (by decide)
    have n1 : ¬ (1 : Int32) = 0 := by decide
    by_cases y0 : y = 0
    · subst y0
      simp only [if_true, Option.bind_some, if_neg n1]
      exact good 0 (Or.inl rfl)
    · by_cases y8 : y = 8
      · subst y8
        simp only [if_neg y0, if_true, Option.bind_some, if_neg n1]
        have := good 8 (Or.inr (Or.inl rfl))
        rw [show nI 8 = 8 from rfl] at this
        simp only [if_neg y0] at this
        exact this
      · by_cases y16 : y = 16
        · subst y16
          simp only [if_neg y0, if_neg y8, if_true, Option.bind_some, if_neg n1]
          have := good 16 (Or.inr (Or.inr (Or.inl rfl)))
          rw [show nI 16 = 16 from rfl] at this
          simp only [if_neg y0] at this
          exact this
        · by_cases y64 : y = 64
          · subst y64
            simp only [if_neg y0, if_neg y8, if_neg y16, if_true, Option.bind_some, if_neg n1]
            have := good 64 (Or.inr (Or.inr (Or.inr rfl)))
            rw [show nI 64 = 64 from rfl] at this
            simp only [if_neg y0] at this
            exact this
          · simp only [if_neg y0, if_neg y8, if_neg y16, if_neg y64, if_true, Option.bind_some]
            exact same_find h 0 (by decide) (by decide)
  · simp only [if_pos hx]
    have key : ∀ o : Option Int32, (∃ v, o = some v) → Same (Option.bind o (fun _ => f_X5_told (-1000000001) M)) (f_X6_finds (-1000000001) N) := by
      rintro o ⟨v, rfl⟩
      exact same_find h 0 (by decide) (by decide)
    refine key _ ?_
    by_cases y0 : y = 0
    · exact ⟨1, by rw [if_pos y0]⟩
    · by_cases y8 : y = 8
      · exact ⟨1, by rw [if_neg y0, if_pos y8]⟩
      · by_cases y16 : y = 16
        · exact ⟨1, by rw [if_neg y0, if_neg y8, if_pos y16]⟩
        · by_cases y64 : y = 64
          · exact ⟨1, by rw [if_neg y0, if_neg y8, if_neg y16, if_pos y64]⟩
          · exact ⟨0, by rw [if_neg y0, if_neg y8, if_neg y16, if_neg y64]⟩
end SHEETS
