/-! PURE: rail -/
/-- the draft as if it were the rail -/
def mvM (M : Mem) : Mem := (fun k => M.1 (k + 12), M.2)
theorem mvM_sI (M : Mem) (k i : Nat) (v : Int32) : mvM (sI M (k + 12) i v) = sI (mvM M) k i v := by
  refine Prod.ext (funext fun j => ?_) rfl
  show (if j + 12 = k + 12 then upd (M.1 (j + 12)) i v else M.1 (j + 12)) = if j = k then upd (M.1 (j + 12)) i v else M.1 (j + 12)
  exact if_c (by omega) _ _
theorem CR_mv {M : Mem} {a : AR} : CR M 13 a ↔ CR (mvM M) 1 a := Iff.rfl
def FC (M M2 : Mem) : Prop := (∀ k j, (k < 13 ∨ 18 < k) → k ≠ 25 → gI M2 k j = gI M k j) ∧ ∀ k j, gJ M2 k j = gJ M k j
def FN (N N2 : Mem) : Prop := (∀ k j, k ≠ 37 → (k = 36 → j < 11 ∨ 14 < j) → gI N2 k j = gI N k j) ∧ ∀ k j, gJ N2 k j = gJ N k j
theorem FC.o {M M2 M3 : Mem} (h : FC M M2) (o : O25 M2 M3) : FC M M3 := ⟨fun k j h1 h2 => (o.1 k j h2).trans (h.1 k j h1 h2), fun k j => (o.2 k j).trans (h.2 k j)⟩
theorem FC.sI {M M2 : Mem} (h : FC M M2) {k i : Nat} {v : Int32} (hk : 13 ≤ k ∧ k ≤ 18) : FC M (sI M2 k i v) := ⟨fun c j h1 h2 => by rw [gI_sI, if_neg (by omega)]; exact h.1 c j h1 h2, h.2⟩
theorem FN.on {N N2 N3 : Mem} (h : FN N N2) (o : On N2 N3) : FN N N3 := ⟨fun k j h1 h2 => (o.1 k j h2).trans (h.1 k j h1 h2), fun k j => (o.2 k j).trans (h.2 k j)⟩
theorem FN.sI {N N2 : Mem} (h : FN N N2) {i : Nat} {v : Int32} : FN N (sI N2 37 i v) := ⟨fun c j h1 h2 => by rw [gI_sI, if_neg (fun z => h1 z.1)]; exact h.1 c j h1 h2, h.2⟩
theorem exW0 : ∀ i, i < 11 → ∀ j, j < 11 → wN i = wN j → (∀ m, m < wN i → wB i m = wB j m) → i = j := by decide +kernel
section RAILP
variable {t : Nat} {c : Nat → Nat} {M N M0 N0 : Mem} {a b : AR} {f : Nat}
theorem exW {i j : Nat} (hi : i < 11) (hj : j < 11) (h1 : wI t c f i = true) (h2 : wI t c f j = true) : i = j := by
  obtain ⟨⟨_, e1⟩, w1⟩ := (wI_iff t c f i).mp h1
  obtain ⟨⟨_, e2⟩, w2⟩ := (wI_iff t c f j).mp h2
  exact exW0 i hi j hj (by omega) (fun m hm => by rw [← w1 m hm, ← w2 m (by omega)])
theorem kn_price (h : wI t c f 6 = true) : kn t c f 6 0 = none := by
  have n : ∀ k, k < 6 → ¬ wI t c f k = true := fun k hk z => by have := exW (by omega) (by decide) z h; omega
  simp only [kn, if_neg (n 0 (by decide)), if_neg (n 1 (by decide)), if_neg (n 2 (by decide)), if_neg (n 3 (by decide)), if_neg (n 4 (by decide)), if_neg (n 5 (by decide))]
def SIM (t : Nat) (c : Nat → Nat) (M0 N0 M N : Mem) (f : Nat) (b : AR) : Prop := WF b ∧ CR M 13 b ∧ MR N 37 b ∧ RdC t c M f ∧ RdN t c N f ∧ f ≤ t ∧ gI N 36 14 = 0 ∧ FC M0 M ∧ FN N0 N
def FAIL (t : Nat) (c : Nat → Nat) (M0 N0 M N : Mem) (f : Nat) : Prop := gI M 25 2 = nI f ∧ RdN t c N f ∧ f ≤ t ∧ gI N 36 14 = 1 ∧ FC M0 M ∧ FN N0 N
/-- what a reader leaves -/
def OUT (t : Nat) (c : Nat → Nat) (M0 N0 : Mem) (n f : Nat) (r : Int32) (M N : Mem) : Prop := (r = 1 ∧ ∃ f2 b, SIM t c M0 N0 M N f2 b ∧ aN b = n ∧ f ≤ f2) ∨ (r = 0 ∧ ∃ f2, FAIL t c M0 N0 M N f2 ∧ f ≤ f2)
theorem OUT.le {n f f2 : Nat} {r : Int32} (h : OUT t c M0 N0 n f2 r M N) (hf : f ≤ f2) : OUT t c M0 N0 n f r M N := by
  rcases h with ⟨h1, f3, b, h2, h3, h4⟩ | ⟨h1, f3, h2, h3⟩
  · exact Or.inl ⟨h1, f3, b, h2, h3, by omega⟩
  · exact Or.inr ⟨h1, f3, h2, by omega⟩
theorem TC.fc {M M2 : Mem} (h : TC t c M) (o : FC M M2) : TC t c M2 := ⟨h.1, by rw [o.1 23 1 (by decide) (by decide)]; exact h.2.1, fun j hj => by rw [o.1 24 j (by decide) (by decide)]; exact h.2.2 j hj⟩
theorem TN.fn {N N2 : Mem} (h : TN t c N) (o : FN N N2) : TN t c N2 := ⟨h.1, by rw [o.1 36 10 (by decide) (fun _ => by decide)]; exact h.2.1, fun j hj => by rw [o.1 43 j (by decide) (fun z => absurd z (by decide))]; exact h.2.2 j hj⟩
theorem RdC_s {k i : Nat} {v : Int32} (h : RdC t c M f) (hk : k ≠ 25) : RdC t c (sI M k i v) f := by
  have e : ∀ j, gI (sI M k i v) 25 j = gI M 25 j := fun j => by rw [gI_sI, if_neg (fun z => hk z.1.symm)]
  exact ⟨by rw [e]; exact h.1, by rw [e]; exact h.2.1, by rw [e]; exact h.2.2.1, fun z => by rw [e]; exact h.2.2.2 z⟩
theorem CR.o {M2 : Mem} (h : CR M 13 b) (o : O25 M M2) : CR M2 13 b := h.of (fun k j q1 q2 => o.1 k j (by omega))
theorem MR.on {N2 : Mem} (h : MR N 37 b) (o : On N N2) : MR N2 37 b := h.of (fun j => o.1 37 j (fun z => absurd z (by decide)))
theorem RdN_37 {i : Nat} {v : Int32} (h : RdN t c N f) : RdN t c (sI N 37 i v) f := ⟨by rw [gI_sI, if_neg (by omega)]; exact h.1, by rw [gI_sI, if_neg (by omega)]; exact h.2⟩
theorem g36_s37 {i j : Nat} {v : Int32} : gI (sI N 37 i v) 36 j = gI N 36 j := by rw [gI_sI, if_neg (by omega)]
/-- both go on to the next token -/
theorem nx_le (h : f ≤ t) : f ≤ nx t c f ∧ nx t c f ≤ t := by
  have h1 := tE_b (c := c) h
  have h2 := sT_sp (P := isS) (c := c) h1.2
  exact ⟨Nat.le_trans h1.1 h2.1, h2.2.1⟩
theorem nx_lt (h : f < t) : f < nx t c f := by
  have h1 := tE_s (c := c) h
  have h2 := sT_sp (P := isS) (c := c) (tE_b (c := c) (Nat.le_of_lt h)).2
  have h3 : tE t c f ≤ nx t c f := h2.1
  omega
theorem wI_lt {i : Nat} (h : wI t c f i = true) : f < t := (tkn_1.mp ((wI_iff t c f i).mp h).1.1).1
/-- wrong already: nothing more is read -/
theorem fail_word (hN : TN t c N0) (h : FAIL t c M0 N0 M N f) {C : Int64} (hC : ¬ lg_cmp 0 C = 0) {β : Type} (X : Option Mem) (K : Mem → Option β) : Option.bind (f_X6_word N) (fun r : Int64 => Option.bind (if lg_cmp r C = 0 then X else some N) K) = K N := by
  rw [X6_word_wrong (hN.fn h.2.2.2.2.2) h.2.1 h.2.2.1 h.2.2.2.1, Option.bind_some, if_neg hC]
  rfl
theorem X0_isFree13 (hw : WF b) (hc : CR M 13 b) {p : Nat} (hp : p < 24) : f_X0_isFree_13 (nI p) M = some (b2 (whoA b p = none)) := X0_isFree hw (CR_mv.mp hc) hp
theorem X0_put13 (M : Mem) {h p : Nat} (hh : h < 12) (hp : p < 24) : f_X0_put_13 (nI h) (nI p) M = some (sI (sI M 15 h (nI p)) 18 p (nI h)) := by
  unfold f_X0_put_13
  rw [if_pos (inR_nI hh (by decide)), bn_e, if_pos (inR_nI hp (by decide)), bn_e, cl_nI (by omega), cl_nI (by omega)]
theorem C_put13 (hc : CR M 13 b) {k p : Nat} (hk : aPl b k = none) (hf : ∀ g, aPl b g ≠ some p) : CR (sI (sI M 15 k (nI p)) 18 p (nI k)) 13 (uPl b k (some p)) := by
  rw [CR_mv, show (18 : Nat) = 6 + 12 from rfl, mvM_sI, show (15 : Nat) = 3 + 12 from rfl, mvM_sI]
  exact C_put (CR_mv.mp hc) hk hf
theorem rdP (hM : TC t c M0) (hN : TN t c N0) (S : SIM t c M0 N0 M N f b) {h : Nat} (hh : h < aN b) (hp : aPl b h = none) {β : Type} (K : Mem → Option β) : ∃ r M2 N2, f_X1_readPlace_13 (nI h) M = some (r, M2) ∧ Option.bind (f_X6_word N) (fun r35 : Int64 => Option.bind (if (lg_cmp r35 52) = 0 then Option.bind (f_X6_atItem (nI h) N) (fun r47 : Mem => some r47) else some N) K) = K N2 ∧ OUT t c M0 N0 (aN b) f r M2 N2 := by
  obtain ⟨hw, hc, hm, rC, rN, hf, h14, fc, fn⟩ := S
  have hn := hw.1
  have TM := hM.fc fc
  have TNn := hN.fn fn
  obtain ⟨x, x1, x2⟩ := X6_word TNn rN hf h14
  have x7 : (lg_cmp x 52 = 0) ↔ wI t c f 7 = true := x2 7 (by decide)
  unfold f_X1_readPlace_13
  rw [X1_isWord TM rC hf (by decide), Option.bind_some, x1, Option.bind_some]
  by_cases q : wI t c f 7 = true
  · obtain ⟨M1, s1, s2, s3⟩ := X1_step TM rC.2.1 (tE_b hf).2
    obtain ⟨N1, m1, m2, m3, m4, m5⟩ := X6_must_t TNn rN hf h14 (x := 1) (by decide)
    have hf1 := nx_le (c := c) hf
    have TM1 := TM.o s3
    have TN1 := TNn.on m5
    have hc1 := hc.o s3
    have hm1 := hm.on m5
    have nb := nC_le c (nx t c f) (tE t c (nx t c f) - nx t c f)
    rw [b2_t q, if_neg (by decide), s1, Option.bind_some, show f_X1_isNumber 0 23 M1 = _ from X1_isNumber (lo := 0) (hi := 23) s2 (by decide) (by decide), Option.bind_some, if_pos (x7.mpr q)]
    unfold f_X6_atItem
    rw [m1, Option.bind_some, X6_numberHere TN1 m2 hf1.2 m3, Option.bind_some]
    -- the wrong ends
    have bad : ∀ v : Int32, f_X6_isFree v N1 = some 0 → ∃ r M2 N2, some ((0 : Int32), M1) = some (r, M2) ∧ Option.bind (Option.bind (Option.bind (f_X6_isFree v N1) (fun r13 : Int32 => Option.bind (f_X6_must r13 N1) (fun r16 : Mem => Option.bind (f_X6_spotOf (nI h) 1) (fun r25 : Int32 => Option.bind (if (gI r16 36 14) = 0 then some v else some (-1)) (fun y32 : Int32 => if inR r25 63 then bn (sI r16 37 r25.toNatClampNeg y32) (fun m40 : Mem => some m40) else none))))) (fun r47 : Mem => some r47)) K = K N2 ∧ OUT t c M0 N0 (aN b) f r M2 N2 := by
      intro v hv
      have g : gI (sI N1 36 14 1) 36 14 = 1 := by rw [gI_sI, if_pos ⟨rfl, rfl⟩]
      rw [hv, Option.bind_some, X6_must_f m3, Option.bind_some, X6_sp1, Option.bind_some, g, if_neg (by decide), Option.bind_some, if_pos (inR_nI (show 3 + 5 * h + 1 < 63 by omega) (by decide)), cl_nI (by omega), bn_e]
      exact ⟨0, M1, _, rfl, rfl, Or.inr ⟨rfl, nx t c f, ⟨s2.1, RdN_37 (m2.sI (i := 14) (v := 1) (by decide)), hf1.2, by rw [g36_s37]; exact g, fc.o s3, ((fn.on m5).on ((On.rf N1).sI (by decide) 1)).sI⟩, hf1.1⟩⟩
    by_cases q2 : nIs t c (nx t c f) 0 23
    · have hv : nv t c (nx t c f) < 24 := by have := q2.2.2; omega
      have eH : nH (nv t c (nx t c f)) = nI (nv t c (nx t c f)) := by unfold nH; rw [if_pos (by omega)]
      rw [b2_t q2, if_neg (by decide), s2.2.2.2 q2.1, X0_isFree13 hw hc1 hv, Option.bind_some, if_pos q2.1, eH]
      by_cases q3 : whoA b (nv t c (nx t c f)) = none
      · have hf2 := (whoA_none hw).mp q3
        rw [b2_t q3, if_neg (by decide), X0_put13 M1 (by omega) hv, Option.bind_some]
        have oP : ∀ k j, (k < 13 ∨ 18 < k) → gI (sI (sI M1 15 h (nI (nv t c (nx t c f)))) 18 (nv t c (nx t c f)) (nI h)) k j = gI M1 k j := fun k j hk => by rw [gI_sI, if_neg (by omega), gI_sI, if_neg (by omega)]
        have fcP : FC M0 (sI (sI M1 15 h (nI (nv t c (nx t c f)))) 18 (nv t c (nx t c f)) (nI h)) := ((fc.o s3).sI (by decide)).sI (by decide)
        have rP := RdC_s (k := 18) (i := nv t c (nx t c f)) (v := nI h) (RdC_s (k := 15) (i := h) (v := nI (nv t c (nx t c f))) s2 (by decide)) (by decide)
        have hcP := C_put13 hc1 hp hf2
        obtain ⟨M2, u1, u2, u3⟩ := X1_step (hM.fc fcP) rP.2.1 (tE_b hf1.2).2
        obtain ⟨N2, v1, v2, v3, v4, v5⟩ := X6_must_t TN1 m2 hf1.2 m3 (x := 1) (by decide)
        have hf3 := nx_le (c := c) hf1.2
        rw [u1, Option.bind_some, X6_isFree hw hm1 hv, b2_t q3, Option.bind_some, v1, Option.bind_some, X6_sp1, Option.bind_some, v3, if_pos rfl, Option.bind_some, if_pos (inR_nI (show 3 + 5 * h + 1 < 63 by omega) (by decide)), cl_nI (by omega), bn_e]
        refine ⟨1, M2, _, rfl, rfl, Or.inl ⟨rfl, nx t c (nx t c f), uPl b h (some (nv t c (nx t c f))), ⟨W_put hw hh hv hf2, hcP.o u3, M_uPl (hm1.on v5) h (some _), u2, RdN_37 v2, hf3.2, by rw [g36_s37]; exact v3, fcP.o u3, ((fn.on m5).on v5).sI⟩, rfl, by omega⟩⟩
      · rw [b2_f q3, if_pos rfl]
        exact bad _ (by rw [X6_isFree hw hm1 hv, b2_f q3])
    · rw [b2_f q2, if_pos rfl]
      refine bad _ (X6_isFree_no hw hm1 ?_)
      by_cases q3 : tkn t c (nx t c f) = 2
      · rw [if_pos q3]
        have : 23 < nv t c (nx t c f) := by
          refine Nat.lt_of_not_le fun z => q2 ⟨q3, Nat.zero_le _, z⟩
        unfold nH
        by_cases q4 : nv t c (nx t c f) ≤ 999
        · rw [if_pos q4]
          intro z
          have := (ix_nI (n := 24) (by omega)).mp z
          omega
        · rw [if_neg q4]; decide
      · rw [if_neg q3]; decide
  · rw [b2_f q, if_pos rfl, if_neg (fun z => q (x7.mp z))]
    exact ⟨1, M, N, rfl, rfl, Or.inl ⟨rfl, f, b, ⟨hw, hc, hm, rC, rN, hf, h14, fc, fn⟩, rfl, Nat.le_refl f⟩⟩
theorem ms_set (S : Nat → Bool) {h : Nat} (hh : h < 12) : ms S 12 ||| 2 ^ h = ms (fun g => if g = h then true else S g) 12 := by
  refine Nat.eq_of_testBit_eq fun i => ?_
  rw [Nat.testBit_or, tb_ms, tb_ms, tb_pow]
  by_cases e : i = h
  · subst e; simp [hh]
  · have : decide (h = i) = false := by simpa using fun z => e z.symm
    simp [this, e]
theorem rdB (hM : TC t c M0) (hN : TN t c N0) (S : SIM t c M0 N0 M N f b) {h : Nat} (hh : h < aN b) {β : Type} (K : Mem → Option β) : ∃ r M2 N2, f_X1_readBack_13 (nI h) M = some (r, M2) ∧ Option.bind (f_X6_word N) (fun r51 : Int64 => Option.bind (if (lg_cmp r51 66667) = 0 then Option.bind (f_X6_must 1 N) (fun r63 : Mem => Option.bind (f_X6_spotOf (nI h) 2) (fun r72 : Int32 => if inR r72 63 then bn (sI r63 37 r72.toNatClampNeg 1) (fun m76 : Mem => some m76) else none)) else some N) K) = K N2 ∧ OUT t c M0 N0 (aN b) f r M2 N2 := by
  obtain ⟨hw, hc, hm, rC, rN, hf, h14, fc, fn⟩ := S
  have hn := hw.1
  have TM := hM.fc fc
  have TNn := hN.fn fn
  obtain ⟨x, x1, x2⟩ := X6_word TNn rN hf h14
  have x8 : (lg_cmp x 66667 = 0) ↔ wI t c f 8 = true := x2 8 (by decide)
  unfold f_X1_readBack_13
  rw [X1_isWord TM rC hf (by decide), Option.bind_some, x1, Option.bind_some]
  by_cases q : wI t c f 8 = true
  · have e13 : gI M 13 3 = nI (ms (aFc b) 12) := hc.2.2.2.1
    have fcP : FC M0 (sI M 13 3 (nI (ms (aFc (uFc b h true)) 12))) := fc.sI (by decide)
    have hcP : CR (sI M 13 3 (nI (ms (aFc (uFc b h true)) 12))) 13 (uFc b h true) := by
      rw [CR_mv, show (13 : Nat) = 1 + 12 from rfl, mvM_sI]
      exact C_uBk (CR_mv.mp hc) h true rfl
    have rP := RdC_s (k := 13) (i := 3) (v := nI (ms (aFc (uFc b h true)) 12)) rC (by decide)
    obtain ⟨M2, u1, u2, u3⟩ := X1_step (hM.fc fcP) rP.2.1 (tE_b hf).2
    obtain ⟨N1, m1, m2, m3, m4, m5⟩ := X6_must_t TNn rN hf h14 (x := 1) (by decide)
    have hf1 := nx_le (c := c) hf
    have eb : gI M 13 3 ||| (1 : Int32) <<< (nI h &&& 31) = nI (ms (aFc (uFc b h true)) 12) := by
      rw [e13, sh1 h (by omega), nI_or, ms_set _ (by omega)]
      rfl
    rw [b2_t q, if_neg (by decide), eb, bn_e, u1, if_pos (x8.mpr q), m1, X6_sp2]
    simp only [Option.bind_some]
    rw [if_pos (inR_nI (show 3 + 5 * h + 2 < 63 by omega) (by decide)), cl_nI (by omega), bn_e]
    exact ⟨1, M2, _, rfl, rfl, Or.inl ⟨rfl, nx t c f, uFc b h true, ⟨W_uFc hw hh, hcP.o u3, M_uFc (hm.on m5) h true, u2, RdN_37 m2, hf1.2, by rw [g36_s37]; exact m3, fcP.o u3, (fn.on m5).sI⟩, rfl, hf1.1⟩⟩
  · rw [b2_f q, if_pos rfl, if_neg (fun z => q (x8.mp z))]
    exact ⟨1, M, N, rfl, rfl, Or.inl ⟨rfl, f, b, ⟨hw, hc, hm, rC, rN, hf, h14, fc, fn⟩, rfl, Nat.le_refl f⟩⟩
theorem rdH (hM : TC t c M0) (hN : TN t c N0) (S : SIM t c M0 N0 M N f b) {h : Nat} (hh : h < aN b) {β : Type} (K : Mem → Option β) : ∃ r M2 N2, f_X1_readShirt_13 (nI h) M = some (r, M2) ∧ Option.bind (f_X6_word N) (fun r78 : Int64 => Option.bind (if (lg_cmp r78 20194900) = 0 then Option.bind (f_X6_must 1 N) (fun r90 : Mem => Option.bind (f_X6_number 1 9 r90) (fun r97 : Mem => Option.bind (f_X6_spotOf (nI h) 3) (fun r106 : Int32 => if inR r106 63 then bn (sI r97 37 r106.toNatClampNeg (gI r97 36 13)) (fun m113 : Mem => some m113) else none))) else some N) K) = K N2 ∧ OUT t c M0 N0 (aN b) f r M2 N2 := by
  obtain ⟨hw, hc, hm, rC, rN, hf, h14, fc, fn⟩ := S
  have hn := hw.1
  have TM := hM.fc fc
  have TNn := hN.fn fn
  obtain ⟨x, x1, x2⟩ := X6_word TNn rN hf h14
  have x9 : (lg_cmp x 20194900 = 0) ↔ wI t c f 9 = true := x2 9 (by decide)
  unfold f_X1_readShirt_13
  rw [X1_isWord TM rC hf (by decide), Option.bind_some, x1, Option.bind_some]
  by_cases q : wI t c f 9 = true
  · obtain ⟨M1, s1, s2, s3⟩ := X1_step TM rC.2.1 (tE_b hf).2
    obtain ⟨N1, m1, m2, m3, m4, m5⟩ := X6_must_t TNn rN hf h14 (x := 1) (by decide)
    have hf1 := nx_le (c := c) hf
    obtain ⟨N2, n1, n2, n3⟩ := X6_number (lo := 1) (hi := 9) (TNn.on m5) m2 hf1.2 m3 (by decide)
    have n1' : f_X6_number 1 9 N1 = some N2 := n1
    rw [b2_t q, if_neg (by decide), s1, Option.bind_some, show f_X1_isNumber 1 9 M1 = _ from X1_isNumber (lo := 1) (hi := 9) s2 (by decide) (by decide), Option.bind_some, if_pos (x9.mpr q), m1, Option.bind_some, n1', Option.bind_some, X6_sp3, Option.bind_some]
    simp only [if_pos (inR_nI (show 3 + 5 * h + 3 < 63 by omega) (show 63 < 2147483648 by decide)), cl_nI (show 3 + 5 * h + 3 < 2147483648 by omega), bn_e, if_pos (inR_nI (show h < 12 by omega) (show 12 < 2147483648 by decide)), cl_nI (show h < 2147483648 by omega)]
    rcases n3 with ⟨k1, k2, k3, k4⟩ | ⟨k1, k2, k3⟩
    · have fcP : FC M0 (sI M1 16 h (nI (nv t c (nx t c f)))) := (fc.o s3).sI (by decide)
      have hcP : CR (sI M1 16 h (nI (nv t c (nx t c f)))) 13 (uSl b h (nv t c (nx t c f))) := by
        rw [CR_mv, show (16 : Nat) = 4 + 12 from rfl, mvM_sI]
        exact C_uSl (CR_mv.mp (hc.o s3)) h _
      have rP := RdC_s (k := 16) (i := h) (v := nI (nv t c (nx t c f))) s2 (by decide)
      obtain ⟨M2, u1, u2, u3⟩ := X1_step (hM.fc fcP) rP.2.1 (tE_b hf1.2).2
      have hf3 := nx_le (c := c) hf1.2
      rw [b2_t k1, if_neg (by decide), s2.2.2.2 k1.1, u1, k4]
      exact ⟨1, M2, _, rfl, rfl, Or.inl ⟨rfl, nx t c (nx t c f), uSl b h (nv t c (nx t c f)), ⟨W_uSl hw hh k1.2.2, hcP.o u3, M_uSl ((hm.on m5).on n2) h _, u2, RdN_37 k2, hf3.2, by rw [g36_s37]; exact k3, fcP.o u3, ((fn.on m5).on n2).sI⟩, rfl, by omega⟩⟩
    · rw [b2_f k1, if_pos rfl]
      exact ⟨0, M1, _, rfl, rfl, Or.inr ⟨rfl, nx t c f, ⟨s2.1, RdN_37 k2, hf1.2, by rw [g36_s37]; exact k3, fc.o s3, ((fn.on m5).on n2).sI⟩, hf1.1⟩⟩
  · rw [b2_f q, if_pos rfl, if_neg (fun z => q (x9.mp z))]
    exact ⟨1, M, N, rfl, rfl, Or.inl ⟨rfl, f, b, ⟨hw, hc, hm, rC, rN, hf, h14, fc, fn⟩, rfl, Nat.le_refl f⟩⟩
theorem rdF (hM : TC t c M0) (hN : TN t c N0) (S : SIM t c M0 N0 M N f b) {h : Nat} (hh : h < aN b) {β : Type} (K : Mem → Option β) : ∃ r M2 N2, f_X1_readFeel_13 (nI h) M = some (r, M2) ∧ Option.bind (f_X6_word N) (fun r115 : Int64 => Option.bind (if (lg_cmp r115 201900) = 0 then Option.bind (f_X6_must 1 N) (fun r127 : Mem => Option.bind (f_X6_number 0 15 r127) (fun r134 : Mem => Option.bind (f_X6_spotOf (nI h) 4) (fun r143 : Int32 => if inR r143 63 then bn (sI r134 37 r143.toNatClampNeg (gI r134 36 13)) (fun m150 : Mem => some m150) else none))) else some N) K) = K N2 ∧ OUT t c M0 N0 (aN b) f r M2 N2 := by
  obtain ⟨hw, hc, hm, rC, rN, hf, h14, fc, fn⟩ := S
  have hn := hw.1
  have TM := hM.fc fc
  have TNn := hN.fn fn
  obtain ⟨x, x1, x2⟩ := X6_word TNn rN hf h14
  have x9 : (lg_cmp x 201900 = 0) ↔ wI t c f 10 = true := x2 10 (by decide)
  unfold f_X1_readFeel_13
  rw [X1_isWord TM rC hf (by decide), Option.bind_some, x1, Option.bind_some]
  by_cases q : wI t c f 10 = true
  · obtain ⟨M1, s1, s2, s3⟩ := X1_step TM rC.2.1 (tE_b hf).2
    obtain ⟨N1, m1, m2, m3, m4, m5⟩ := X6_must_t TNn rN hf h14 (x := 1) (by decide)
    have hf1 := nx_le (c := c) hf
    obtain ⟨N2, n1, n2, n3⟩ := X6_number (lo := 0) (hi := 15) (TNn.on m5) m2 hf1.2 m3 (by decide)
    have n1' : f_X6_number 0 15 N1 = some N2 := n1
    rw [b2_t q, if_neg (by decide), s1, Option.bind_some, show f_X1_isNumber 0 15 M1 = _ from X1_isNumber (lo := 0) (hi := 15) s2 (by decide) (by decide), Option.bind_some, if_pos (x9.mpr q), m1, Option.bind_some, n1', Option.bind_some, X6_sp4, Option.bind_some]
    simp only [if_pos (inR_nI (show 3 + 5 * h + 4 < 63 by omega) (show 63 < 2147483648 by decide)), cl_nI (show 3 + 5 * h + 4 < 2147483648 by omega), bn_e, if_pos (inR_nI (show h < 12 by omega) (show 12 < 2147483648 by decide)), cl_nI (show h < 2147483648 by omega)]
    rcases n3 with ⟨k1, k2, k3, k4⟩ | ⟨k1, k2, k3⟩
    · have fcP : FC M0 (sI M1 17 h (nI (nv t c (nx t c f)))) := (fc.o s3).sI (by decide)
      have hcP : CR (sI M1 17 h (nI (nv t c (nx t c f)))) 13 (uFe b h (nv t c (nx t c f))) := by
        rw [CR_mv, show (17 : Nat) = 5 + 12 from rfl, mvM_sI]
        exact C_uFe (CR_mv.mp (hc.o s3)) h _
      have rP := RdC_s (k := 17) (i := h) (v := nI (nv t c (nx t c f))) s2 (by decide)
      obtain ⟨M2, u1, u2, u3⟩ := X1_step (hM.fc fcP) rP.2.1 (tE_b hf1.2).2
      have hf3 := nx_le (c := c) hf1.2
      rw [b2_t k1, if_neg (by decide), s2.2.2.2 k1.1, u1, k4]
      exact ⟨1, M2, _, rfl, rfl, Or.inl ⟨rfl, nx t c (nx t c f), uFe b h (nv t c (nx t c f)), ⟨W_uFe hw hh k1.2.2, hcP.o u3, M_uFe ((hm.on m5).on n2) h _, u2, RdN_37 k2, hf3.2, by rw [g36_s37]; exact k3, fcP.o u3, ((fn.on m5).on n2).sI⟩, rfl, by omega⟩⟩
    · rw [b2_f k1, if_pos rfl]
      exact ⟨0, M1, _, rfl, rfl, Or.inr ⟨rfl, nx t c f, ⟨s2.1, RdN_37 k2, hf1.2, by rw [g36_s37]; exact k3, fc.o s3, ((fn.on m5).on n2).sI⟩, hf1.1⟩⟩
  · rw [b2_f q, if_pos rfl, if_neg (fun z => q (x9.mp z))]
    exact ⟨1, M, N, rfl, rfl, Or.inl ⟨rfl, f, b, ⟨hw, hc, hm, rC, rN, hf, h14, fc, fn⟩, rfl, Nat.le_refl f⟩⟩
end RAILP
