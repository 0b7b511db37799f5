/-! PURE: clears -/
section CLEARS2
variable {M N : Mem} {a b : AR}
theorem cL_sub (a : AR) (m : Nat) : ∀ k, SS (cL a m k) (ms (onA a) 12) := by
  intro k
  induction k with
  | zero => exact SS.rf _
  | succ k ih =>
    rw [cL]
    split
    · exact (df_sub _ _).tr ih
    · exact ih
theorem cL_lt (a : AR) (m k : Nat) : cL a m k < 4096 := SS_lt (cL_sub a m k) (ms12 _)
theorem and_lt {x y : Nat} (h : y < 4096) : x &&& y < 4096 := Nat.lt_of_le_of_lt Nat.and_le_right h
theorem ms_on {i : Nat} (h : (ms (onA a) 12).testBit i = true) : onA a i = true := by
  rw [tb_ms] at h
  cases e : onA a i with
  | true => rfl
  | false => rw [e] at h; simp at h
theorem cL_out (hw : WF a) (m : Nat) {k i : Nat} (hi : aN a ≤ i) : (cL a m k).testBit i = false := by
  cases e : (cL a m k).testBit i with
  | false => rfl
  | true =>
    have := on_lt hw (ms_on (cL_sub a m k i e))
    omega
theorem cS_wide (hw : WF a) (m : Nat) : ∀ d, cS a m (aN a + d) = cS a m (aN a) := by
  intro d
  induction d with
  | zero => rfl
  | succ d ih =>
    show (if (cL a m (aN a + d)).testBit (aN a + d) = true then cS a m (aN a + d) + pc (fa a (cm a (aN a + d) m &&& cL a m (aN a + d)) (aN a + d) m) else cS a m (aN a + d)) = _
    rw [if_neg (by rw [cL_out hw m (by omega)]; decide), ih]
theorem clears_C (hw : WF a) (hc : CR M 1 a) {m : Nat} (hm : m < 2) {β : Type} (K : Int32 → Option β) : Option.bind (lp (f_X5_clears_L40 (nI m) (LK a M)) FU (nI (ms (onA a) 12), 0, 0)) K = K (nI (cS a m 12)) := by
  refine (lp_go (r := nI (cS a m 12)) (fun k => (nI (cL a m k), nI (cS a m k), nI k)) 12 rfl ?_ rfl (by rw [FU_v]; omega))
  intro k hk
  unfold f_X5_clears_L40
  dsimp only
  have g : ¬ (12 : Int32) ≤ nI k := nI_ge (a := k) (b := 12) hk (by decide)
  have hl := cL_lt a m k
  rw [if_neg g, X5_contains (by omega) (by omega), Option.bind_some, nI_1]
  by_cases q : (cL a m k).testBit k = true
  · have eL : cL a m (k + 1) = df (cL a m k) (cm a k m &&& cL a m k) := by rw [cL, if_pos q]
    have eS : cS a m (k + 1) = cS a m k + pc (fa a (cm a k m &&& cL a m k) k m) := by rw [cS, if_pos q]
    rw [b2_t q, if_neg (by decide), eL, eS, X3_coming hk (by omega), Option.bind_some, bn_e, nI_and, X0_falling hw (C_lkm hc 12) (and_lt hl) hk (by omega), Option.bind_some, bc_spec _ (fa_lt hw _ _ _), Option.bind_some, bn_e, bn_e, nI_add, nI_df]
    rfl
  · have eL : cL a m (k + 1) = cL a m k := by rw [cL, if_neg q]
    have eS : cS a m (k + 1) = cS a m k := by rw [cS, if_neg q]
    rw [b2_f q, if_pos rfl, eL, eS]
    rfl
theorem clears_N (hw : WF a) (hm : MR N 37 a) {m : Nat} (h2 : m < 2) : ∃ N2, lp (f_X6_clears_L25 (nI m)) FU (0, 0, N) = some (nI (cS a m (aN a)), N2) ∧ NQ N N2 := by
  have hn := hw.1
  have := lp_inv (f := f_X6_clears_L25 (nI m)) (fun k (s : Int32 × Int32 × Mem) => s.1 = nI (cS a m k) ∧ s.2.1 = nI k ∧ (m = 0 → Clo a (cL a m k)) ∧ NQ N s.2.2 ∧ ∃ b, WF b ∧ MR s.2.2 37 b ∧ Jr a b (cL a m k)) (fun r : Int32 × Mem => r.1 = nI (cS a m (aN a)) ∧ NQ N r.2) (aN a) (F := FU) ?_ ?_ (by rw [FU_v]; omega) (s0 := (0, 0, N)) ⟨rfl, rfl, fun _ => Clo_up a hw, NQ.rf N, a, hw, hm, Jr_0 a hw⟩
  · obtain ⟨⟨v, N2⟩, h1, h2, h3⟩ := this
    exact ⟨N2, by rw [h1]; exact congrArg (fun x => some (x, N2)) h2, h3⟩
  · rintro k hk ⟨v, i, N2⟩ ⟨rfl, rfl, hcl, hq, b, hwb, hmb, hj⟩
    dsimp only at hq hmb
    unfold f_X6_clears_L25
    dsimp only
    have hnb : aN b = aN a := hj.1
    have hkb : k < aN b := by omega
    have ho2 : ((aPl b k).isSome = true) ↔ (cL a m k).testBit k = true := by rw [← Jr_on hj k]; exact Iff.rfl
    rw [hmb.1, if_neg (nI_ge hkb (by omega)), X6_isOn hwb hmb hkb, Option.bind_some, nI_1, b2_c ho2]
    by_cases q : (cL a m k).testBit k = true
    · have eL : cL a m (k + 1) = df (cL a m k) (cm a k m &&& cL a m k) := by rw [cL, if_pos q]
      have eS : cS a m (k + 1) = cS a m k + pc (fa a (cm a k m &&& cL a m k) k m) := by rw [cS, if_pos q]
      obtain ⟨N3, t1, t2, t3⟩ := X6_takes hwb hmb hkb (show m < 3 by omega)
      have ec := cm_J hj h2 hcl q
      have ef : fa b (cm b k m) k m = fa a (cm a k m &&& cL a m k) k m := by
        rw [ec]; exact fa_J hj (SS_and.mp (SS.rf _)).2 k m
      rw [b2_t q, if_neg (by decide), X6_fallers hwb hmb hkb (by omega), Option.bind_some, ones_spec _ (fa_lt hwb _ _ _), Option.bind_some, bn_e, t1, Option.bind_some, Option.bind_some, nI_add, ef, eL, eS]
      refine ⟨_, rfl, rfl, rfl, ?_, hq.tr t3, tA b k m, W_tA hwb k m, t2, ?_⟩
      · intro e
        subst e
        have h5 := Jr_cl hj (hcl rfl) q
        show Clo a (df (cL a 0 k) (cl a k &&& cL a 0 k))
        rw [and_of_SS h5.2]
        exact Clo_df (by omega) (hcl rfl)
      · rw [← ec]
        exact J_take hw hj
    · have eL : cL a m (k + 1) = cL a m k := by rw [cL, if_neg q]
      have eS : cS a m (k + 1) = cS a m k := by rw [cS, if_neg q]
      rw [b2_f q, if_pos rfl, eL, eS]
      exact ⟨_, rfl, rfl, rfl, hcl, hq, b, hwb, hmb, hj⟩
  · rintro ⟨v, i, N2⟩ ⟨rfl, rfl, hcl, hq, b, hwb, hmb, hj⟩
    dsimp only at hq hmb
    unfold f_X6_clears_L25
    dsimp only
    have hnb : aN b = aN a := hj.1
    rw [hmb.1, hnb, if_pos (nI_le (Nat.le_refl _) (by omega))]
    exact ⟨_, rfl, rfl, hq⟩
theorem X6_laysAside (N : Mem) : f_X6_laysAside N = some (cpN N 37 40 63) := cp_lp (f := f_X6_laysAside_L2) (s := 37) (d := 40) (fun i X hi => cp_step X hi) (fun X => rfl) _ N
theorem X6_takesBack (v : Int32) (N : Mem) : f_X6_takesBack v N = some (v, cpN N 40 37 63) := cp_lp (f := f_X6_takesBack_L2) (s := 40) (d := 37) (fun i X hi => cp_step X hi) (fun X => rfl) _ N
theorem NO_cpN (N : Mem) {s d : Nat} (hsd : s ≠ d) (hd : ¬ ckN d) (h36 : d ≠ 36) (k : Nat) : NO N (cpN N s d k) := by
  refine ⟨fun c j hc => ?_, fun j => gJ_cpN N s d k 46 j, ?_, ?_⟩
  · rw [gI_cpN N hsd, if_neg (fun q : c = d ∧ j < k => hd (q.1 ▸ hc))]
  · rw [gI_cpN N hsd, if_neg (fun q => h36 q.1.symm)]
  · rw [gI_cpN N hsd, if_neg (fun q => h36 q.1.symm)]
/-- what was tried on the rail is taken back -/
theorem aside_back (hw : WF a) (hm : MR N 37 a) {N2 : Mem} (hq : NQ (cpN N 37 40 63) N2) : MR (cpN N2 40 37 63) 37 a ∧ NO N (cpN N2 40 37 63) := by
  have h1 : MR (cpN N 37 40 63) 40 a := M_cp hw hm (by decide)
  have h2 : MR N2 40 a := h1.of hq.2
  exact ⟨M_cp hw h2 (by decide), ((NO_cpN N (by decide) (by decide) (by decide) 63).tr hq.1).tr (NO_cpN N2 (by decide) (by decide) (by decide) 63)⟩
theorem MR_aside (hm : MR N 37 a) : MR (cpN N 37 40 63) 37 a := hm.of (fun j => by rw [gI_cpN N (by decide), if_neg (by omega)])
theorem p_clears (h : Rel M N) (x : Int32) : Same (f_X5_clears x M) (f_X6_clears x N) := by
  obtain ⟨a, hw, hc, hm⟩ := h.1
  have hn := hw.1
  unfold f_X5_clears f_X6_clears
  simp only [bnd_eta]
  rw [in_ix x 2 1 (by decide), Option.bind_some]
  by_cases q : IX x 2
  · obtain ⟨m, h2, rfl⟩ := ix_of q (by decide)
    obtain ⟨N2, n1, n2⟩ := clears_N hw (MR_aside hm) h2
    obtain ⟨k1, k2⟩ := aside_back hw hm n2
    have ew : cS a m 12 = cS a m (aN a) := by
      have := cS_wide hw m (12 - aN a)
      rwa [show aN a + (12 - aN a) = 12 by omega] at this
    have eC : (if nI m = 0 then Option.bind (f_X3_look_1 M) (fun r24 : Mem => Option.bind (f_X0_up r24) (fun r31 : Int32 => Option.bind (lp (f_X5_clears_L40 (nI m) r24) FU (r31, 0, 0)) (fun x40_101 : Int32 => some (x40_101, r24)))) else if nI m = 1 then Option.bind (f_X3_look_1 M) (fun r24 : Mem => Option.bind (f_X0_up r24) (fun r31 : Int32 => Option.bind (lp (f_X5_clears_L40 (nI m) r24) FU (r31, 0, 0)) (fun x40_101 : Int32 => some (x40_101, r24)))) else f_X5_told (-1000000001) M) = some (nI (cS a m 12), LK a M) := by
      have e2 : Option.bind (f_X3_look_1 M) (fun r24 : Mem => Option.bind (f_X0_up r24) (fun r31 : Int32 => Option.bind (lp (f_X5_clears_L40 (nI m) r24) FU (r31, 0, 0)) (fun x40_101 : Int32 => some (x40_101, r24)))) = some (nI (cS a m 12), LK a M) := by
        rw [X3_look hw hc, Option.bind_some, X0_up hw (C_lkm hc 12), Option.bind_some, clears_C hw hc h2]
      by_cases e0 : nI m = 0
      · rw [if_pos e0, e2]
      · have e1 : nI m = 1 := by
          match m, h2 with
          | 0, _ => exact absurd rfl e0
          | 1, _ => rfl
        rw [if_neg e0, if_pos e1, e2]
    rw [eC, b2_t q, if_neg (by decide), X6_laysAside, Option.bind_some, n1, Option.bind_some, X6_takesBack, ew]
    exact ⟨_, _, _, rfl, rfl, h.rail a hw (C_lkm hc 12) k1 (CO_lkm a M 12) k2⟩
  · have e0 : ¬ x = 0 := fun e => q (by rw [e]; decide)
    have e1 : ¬ x = 1 := fun e => q (by rw [e]; decide)
    rw [b2_f q, if_pos rfl, if_neg e0, if_neg e1]
    exact same_find h 0 (by decide) (by decide)
end CLEARS2
/-! PURE: read -/
section READ
variable {M N : Mem} {a b : AR}
/-- the number names one that hangs and is tangled with none that is left -/
def gd (a : AR) (v : Int64) (L : Nat) : Bool := decide (0 ≤ v.toInt) && (decide (v.toInt < 12) && (L.testBit v.toInt.toNat && decide (tm a v.toInt.toNat &&& L = 0)))
theorem gd_iff (a : AR) (v : Int64) (L : Nat) : gd a v L = true ↔ (0 ≤ v.toInt ∧ v.toInt < 12 ∧ L.testBit v.toInt.toNat = true ∧ tm a v.toInt.toNat &&& L = 0) := by
  unfold gd
  simp only [Bool.and_eq_true, decide_eq_true_eq]
def rdS (a : AR) (v : Nat → Int64) : Nat → Nat → Nat → Option Nat
  | 0, _, _ => none
  | n + 1, i, L => if gd a (v i) L = true then rdS a v n (i + 1) (df L (2 ^ (v i).toInt.toNat)) else some i
theorem j_nI {v : Int64} (h0 : 0 ≤ v.toInt) (h1 : v.toInt < 2147483648) : v.toInt32 = nI v.toInt.toNat := by
  rw [i_eq, nI_t (by omega), Int64.toInt_toInt32, Int.bmod_def]
  split <;> omega
theorem read_C1 {z s i L : Nat} (hz : gI M (27 + 2 * s) 2 = nI z) (h40 : z ≤ 40) (hi : i < z) (hL : L < 4096) : f_X5_read_L46 (LK a M) s (nI L, nI i) = if gd a (gJ (LK a M) (27 + 2 * s + 1) i) L = true then some (.inl (nI (df L (2 ^ (gJ (LK a M) (27 + 2 * s + 1) i).toInt.toNat)), nI (i + 1))) else some (.inr (.inl (nI i))) := by
  have hz2 : gI (LK a M) (27 + 2 * s) 2 = nI z := by rw [lkm_o a M (by omega)]; exact hz
  unfold f_X5_read_L46
  dsimp only
  rw [hz2, if_neg (nI_ge hi (by omega)), if_pos (inR_nI (show i < 40 by omega) (by decide)), bn_e, cl_nI (by omega), nI_1]
  generalize gJ (LK a M) (27 + 2 * s + 1) i = v
  have e0 : (0 : Int64).toInt = 0 := rfl
  have e12 : (12 : Int64).toInt = 12 := rfl
  by_cases h0 : v.toInt < 0
  · have g : lg_cmp v 0 < 0 := (cmp_lt v 0).mpr (by omega)
    have n : ¬ gd a v L = true := fun q => by have := ((gd_iff a v L).mp q).1; omega
    rw [if_pos g, if_neg n]; rfl
  · have g : ¬ lg_cmp v 0 < 0 := fun q => h0 (by have := (cmp_lt v 0).mp q; omega)
    rw [if_neg g]
    by_cases h1 : 12 ≤ v.toInt
    · have g2 : (0 : Int32) ≤ lg_cmp v 12 := (cmp_ge v 12).mpr (by omega)
      have n : ¬ gd a v L = true := fun q => by have := ((gd_iff a v L).mp q).2.1; omega
      rw [if_pos g2, if_neg n]; rfl
    · have g2 : ¬ (0 : Int32) ≤ lg_cmp v 12 := fun q => h1 (by have := (cmp_ge v 12).mp q; omega)
      have hk : v.toInt.toNat < 12 := by omega
      rw [if_neg g2, j_nI (by omega) (by omega), X5_contains (by omega) (by omega), Option.bind_some]
      have hgd := gd_iff a v L
      generalize v.toInt.toNat = k at hk hgd
      by_cases q : L.testBit k = true
      · rw [b2_t q, if_neg (by decide), Option.bind_some, if_neg (by decide), if_pos (inR_nI hk (by decide)), cl_nI (by omega), LK_22 a M hk, nI_and]
        by_cases q2 : tm a k &&& L = 0
        · have g3 : nI (tm a k &&& L) = 0 := by rw [q2]; rfl
          rw [if_pos g3, if_pos (hgd.mpr ⟨by omega, by omega, q, q2⟩), sh1 k (by omega), nI_df, bn_e]
        · have hl : tm a k &&& L < 4096 := and_lt hL
          have g3 : ¬ nI (tm a k &&& L) = 0 := nI_ne0 (by omega) (by omega)
          rw [if_neg g3, if_neg (fun z => q2 (hgd.mp z).2.2.2)]
      · rw [b2_f q, if_pos rfl, Option.bind_some, if_pos rfl, if_neg (fun z => q (hgd.mp z).2.2.1)]
def rdC : Option Nat → Int32 ⊕ Unit
  | none => .inr ()
  | some j => .inl (nI j)
def rdN : Option Nat → Int32
  | none => 0
  | some j => nI (j + 1)
theorem read_C {z s : Nat} (hz : gI M (27 + 2 * s) 2 = nI z) (h40 : z ≤ 40) : ∀ n i L F, i + n = z → n < F → L < 4096 → lp (f_X5_read_L46 (LK a M) s) F (nI L, nI i) = some (rdC (rdS a (fun i => gJ (LK a M) (27 + 2 * s + 1) i) n i L)) := by
  intro n
  induction n with
  | zero =>
    intro i L F hi hF hL
    obtain ⟨F, rfl⟩ : ∃ G, F = G + 1 := ⟨F - 1, by omega⟩
    refine lp_end ?_
    have hz2 : gI (LK a M) (27 + 2 * s) 2 = nI z := by rw [lkm_o a M (by omega)]; exact hz
    unfold f_X5_read_L46
    dsimp only
    rw [hz2, if_pos (nI_le (by omega) (by omega))]
    rfl
  | succ n ih =>
    intro i L F hi hF hL
    obtain ⟨F, rfl⟩ : ∃ G, F = G + 1 := ⟨F - 1, by omega⟩
    have st := read_C1 (a := a) hz h40 (show i < z by omega) hL
    rw [rdS]
    by_cases q : gd a (gJ (LK a M) (27 + 2 * s + 1) i) L = true
    · rw [if_pos q] at st
      rw [if_pos q, lp_step st]
      exact ih (i + 1) _ F (by omega) (by omega) (SS_lt (df_sub _ _) hL)
    · rw [if_neg q] at st
      rw [if_neg q, lp_end st]
      rfl
theorem cl_one {h : Nat} (hh : h < 12) (e : tm b h = 0) : cl b h = 2 ^ h := by
  refine IsCl.one (cl_is b hh) ⟨pow_lt hh, SS.rf _, fun i hi q => ?_, fun d _ hs => hs⟩
  rw [tb_pow] at q
  have : h = i := by simpa using q
  rw [← this, e]
  exact SS.zero _
theorem nm1 {n : Nat} (h : n < 1073741824) : (nI n - 1).toInt = (n : Int) - 1 := pk_sub_toInt (a := n) (b := 1) h (by decide)
theorem read_is (hw : WF a) {L : Nat} (hwb : WF b) (hmb : MR N 37 b) (hj : Jr a b L) (v : Int64) {β : Type} (K : Int32 → Int32 → Option β) : ∃ y, (Option.bind (f_X6_in v 0 ((gI N 37 0) - 1).toInt64) (fun r66 : Int32 => Option.bind (if r66 = 0 then some (-1) else some v.toInt32) (fun y69 : Int32 => Option.bind (if y69 < 0 then some 0 else Option.bind (f_X6_isOn y69 N) (fun r89 : Int32 => if r89 = 0 then some 0 else Option.bind (f_X6_tangledWith y69 N) (fun r98 : Int32 => if r98 = 0 then some 1 else some 0))) (fun y83 : Int32 => K y69 y83)))) = K y (b2 (gd a v L = true)) ∧ (gd a v L = true → y = nI v.toInt.toNat) := by
  have hn := hwb.1
  have hnb : aN b = aN a := hj.1
  have e0 : (0 : Int64).toInt = 0 := rfl
  rw [in_spec, i_j, hmb.1, nm1 (by omega), Option.bind_some, e0]
  by_cases q : 0 ≤ v.toInt ∧ v.toInt ≤ (aN b : Int) - 1
  · rw [b2_t q, if_neg (by decide), Option.bind_some, j_nI (by omega) (by omega)]
    refine ⟨nI v.toInt.toNat, ?_, fun _ => rfl⟩
    have hgd := gd_iff a v L
    have hk : v.toInt.toNat < aN b := by omega
    generalize v.toInt.toNat = k at hk hgd
    have ho2 : ((aPl b k).isSome = true) ↔ L.testBit k = true := by rw [← Jr_on hj k]; exact Iff.rfl
    rw [if_neg (nI_pos (by omega)), X6_isOn hwb hmb hk, Option.bind_some, b2_c ho2, X6_tangledWith hwb hmb hk]
    by_cases q2 : L.testBit k = true
    · rw [b2_t q2, if_neg (by decide), Option.bind_some, Jr_tm hj q2]
      by_cases q3 : tm a k &&& L = 0
      · have g3 : nI (tm a k &&& L) = 0 := by rw [q3]; rfl
        rw [if_pos g3, Option.bind_some, b2_t (hgd.mpr ⟨by omega, by omega, q2, q3⟩)]
      · have hl : tm a k &&& L < 4096 := and_lt (Jr_L hj)
        have g3 : ¬ nI (tm a k &&& L) = 0 := nI_ne0 (by omega) (by omega)
        rw [if_neg g3, Option.bind_some, b2_f (fun z => q3 (hgd.mp z).2.2.2)]
    · rw [b2_f q2, if_pos rfl, Option.bind_some, b2_f (fun z => q2 (hgd.mp z).2.2.1)]
  · have n : ¬ gd a v L = true := fun z => by
      obtain ⟨z1, z2, z3, z4⟩ := (gd_iff a v L).mp z
      have := on_lt hw (ms_on (hj.2.2.2.2.2 _ z3))
      omega
    rw [b2_f q, if_pos rfl, Option.bind_some, if_pos (by decide), Option.bind_some, b2_f n]
    exact ⟨-1, rfl, fun z => absurd z n⟩
theorem read_N (hw : WF a) {z s : Nat} (hs : s < 4) (hz : gI N 45 s = nI z) (h40 : z ≤ 40) : ∀ n i L F N2, i + n = z → n + 1 < F → NQ N N2 → (∃ b, WF b ∧ MR N2 37 b ∧ Jr a b L) → ∃ N3, lp (f_X6_read_L25 (nI s)) F (0, nI i, N2) = some (rdN (rdS a (fun i => gJ N 46 (40 * s + i)) n i L), N3) ∧ NQ N N3 := by
  intro n
  induction n with
  | zero =>
    intro i L F N2 hi hF hq hb
    obtain ⟨F, rfl⟩ : ∃ G, F = G + 1 := ⟨F - 1, by omega⟩
    refine ⟨N2, lp_end ?_, hq⟩
    have hz2 : gI N2 45 s = nI z := (hq.1.1 45 s (by decide)).trans hz
    unfold f_X6_read_L25
    dsimp only
    rw [if_pos (inR_nI hs (by decide)), cl_nI (by omega), hz2, if_pos (nI_le (by omega) (by omega))]
    rfl
  | succ n ih =>
    intro i L F N2 hi hF hq hb
    obtain ⟨b, hwb, hmb, hj⟩ := hb
    obtain ⟨F, rfl⟩ : ∃ G, F = G + 1 := ⟨F - 1, by omega⟩
    have hz2 : gI N2 45 s = nI z := (hq.1.1 45 s (by decide)).trans hz
    have hv : gJ N2 46 (40 * s + i) = gJ N 46 (40 * s + i) := hq.1.2.1 _
    have st : ∃ y, f_X6_read_L25 (nI s) (0, nI i, N2) = Option.bind (if b2 (gd a (gJ N 46 (40 * s + i)) L = true) = 0 then some (0, N2) else Option.bind (f_X6_takes y 0 N2) (fun r120 : Int32 × Mem => some (r120.1, r120.2))) (fun y113 : Int32 × Mem => Option.bind (if b2 (gd a (gJ N 46 (40 * s + i)) L = true) = 0 then some (1 + nI i) else some 0) (fun y131 : Int32 => some (.inl (y131, nI i + 1, y113.2)))) ∧ (gd a (gJ N 46 (40 * s + i)) L = true → y = nI (gJ N 46 (40 * s + i)).toInt.toNat) := by
      unfold f_X6_read_L25
      dsimp only
      rw [if_pos (inR_nI hs (by decide)), cl_nI (by omega), hz2, if_neg (nI_ge (show i < z by omega) (by omega)), if_pos rfl, sh_ix, if_pos (inR_nI (show 40 * s + i < 160 by omega) (by decide)), cl_nI (by omega), bn_e, hv]
      exact read_is hw hwb hmb hj _ _
    obtain ⟨y, st, hy⟩ := st
    rw [rdS]
    by_cases q : gd a (gJ N 46 (40 * s + i)) L = true
    · obtain ⟨v1, v2, v3, v4⟩ := (gd_iff _ _ _).mp q
      rw [hy q, b2_t q, if_neg (by decide), if_neg (by decide)] at st
      rw [if_pos q]
      generalize (gJ N 46 (40 * s + i)).toInt.toNat = k at st v3 v4
      have hk : k < aN b := by rw [hj.1]; exact on_lt hw (ms_on (hj.2.2.2.2.2 _ v3))
      obtain ⟨N3, t1, t2, t3⟩ := X6_takes hwb hmb hk (show 0 < 3 by decide)
      have t1' : f_X6_takes (nI k) 0 N2 = some (nI (cm b k 0), N3) := t1
      have hk12 : k < 12 := Jr_12 hj v3
      have ec : cm b k 0 = 2 ^ k := cl_one hk12 (by rw [Jr_tm hj v3]; exact v4)
      rw [t1', Option.bind_some, Option.bind_some, Option.bind_some, nI_1] at st
      rw [lp_step st]
      refine ih (i + 1) _ F N3 (by omega) (by omega) (hq.tr t3) ⟨_, W_tA hwb k 0, t2, ?_⟩
      rw [← ec]
      exact J_take hw hj
    · rw [b2_f q, if_pos rfl, if_pos rfl, Option.bind_some, Option.bind_some, nI_1, show (1 : Int32) + nI i = nI (i + 1) by rw [Int32.add_comm, nI_1]] at st
      rw [if_neg q, lp_step st]
      obtain ⟨F, rfl⟩ : ∃ G, F = G + 1 := ⟨F - 1, by omega⟩
      refine ⟨N2, lp_end ?_, hq⟩
      unfold f_X6_read_L25
      dsimp only
      rw [if_pos (inR_nI hs (by decide)), cl_nI (by omega), hz2]
      have g3 : ¬ nI (i + 1) = 0 := nI_ne0 (by omega) (by omega)
      by_cases q2 : z ≤ i + 1
      · rw [if_pos (nI_le q2 (by omega))]; rfl
      · rw [if_neg (nI_ge (by omega) (by omega)), if_neg g3]; rfl
theorem p_read (h : Rel M N) (x : Int32) : Same (f_X5_read x M) (f_X6_read x N) := by
  obtain ⟨a, hw, hc, hm⟩ := h.1
  have hn := hw.1
  unfold f_X5_read f_X6_read
  simp only [bnd_eta]
  by_cases hx : IX x 4
  · obtain ⟨s, hs, rfl⟩ := ix_of hx (by decide)
    obtain ⟨b, z, q1, q2, q3, q4, q5, q6, q7, q8⟩ := h.2.2.2.2 s hs
    have hb : b ≤ 64 := by omega
    rw [fas_yes hs q1 hb, ws_yes hs q2 hb, Option.bind_some, Option.bind_some]
    by_cases e : b = 0
    · have n : ¬ (-1000000006 : Int32) = 0 := by decide
      rw [if_pos e, if_neg n, if_neg n]
      exact same_find h 5 (by decide) m1_6
    · have hq0 : gI (cpN N 37 40 63) 45 s = nI z := by rw [gI_cpN N (by decide), if_neg (by omega)]; exact q5
      obtain ⟨N3, r1, r2⟩ := read_N hw hs hq0 q6 z 0 (ms (onA a) 12) FU _ (by omega) (by rw [FU_v]; omega) (NQ.rf _) ⟨a, hw, MR_aside hm, Jr_0 a hw⟩
      obtain ⟨k1, k2⟩ := aside_back hw hm r2
      have r1' : lp (f_X6_read_L25 (nI s)) FU (0, 0, cpN N 37 40 63) = _ := r1
      have rC := read_C (a := a) q4 q6 z 0 (ms (onA a) 12) FU (by omega) (by rw [FU_v]; omega) (ms12 _)
      have rC' : lp (f_X5_read_L46 (LK a M) s) FU (nI (ms (onA a) 12), 0) = _ := rC
      have ev : rdS a (fun i => gJ (LK a M) (27 + 2 * s + 1) i) z 0 (ms (onA a) 12) = rdS a (fun i => gJ (cpN N 37 40 63) 46 (40 * s + i)) z 0 (ms (onA a) 12) := by
        have : ∀ n i L, i + n ≤ 40 → rdS a (fun i => gJ (LK a M) (27 + 2 * s + 1) i) n i L = rdS a (fun i => gJ (cpN N 37 40 63) 46 (40 * s + i)) n i L := by
          intro n
          induction n with
          | zero => intro i L _; rfl
          | succ n ih =>
            intro i L hi
            have e1 : gJ (LK a M) (27 + 2 * s + 1) i = gJ (cpN N 37 40 63) 46 (40 * s + i) := by
              rw [gJ_lkm, gJ_cpN]; exact q8 i (by omega)
            rw [rdS, rdS, e1, ih (i + 1) _ (by omega)]
        exact this z 0 _ (by omega)
      rw [if_neg e, if_pos rfl, if_pos rfl, if_pos (inR_nI hs (by decide)), bn_e, cl_nI (by omega), X3_look hw hc, Option.bind_some, X0_up hw (C_lkm hc 12), Option.bind_some, rC', Option.bind_some, X6_laysAside, Option.bind_some, r1', Option.bind_some, X6_takesBack, ev]
      cases rdS a (fun i => gJ (cpN N 37 40 63) 46 (40 * s + i)) z 0 (ms (onA a) 12) with
      | none => exact ⟨0, _, _, rfl, rfl, h.rail a hw (C_lkm hc 12) k1 (CO_lkm a M 12) k2⟩
      | some j =>
        have e1 : (1 : Int32) + nI j = nI (j + 1) := by rw [Int32.add_comm, nI_1]
        refine ⟨nI (j + 1), _, _, ?_, rfl, h.rail a hw (C_lkm hc 12) k1 (CO_lkm a M 12) k2⟩
        rw [← e1]; rfl
  · rw [fas_no M hx, ws_no N hx, Option.bind_some, Option.bind_some]
    have n : ¬ (-1000000001 : Int32) = 0 := by decide
    rw [if_neg n, if_neg n]
    exact same_find h 0 (by decide) m1_1
end READ
