/-! PURE: rail, items -/
def rK3 (h : Int32) (y85 : Mem) : Option Mem := Option.bind (f_X6_word y85) (fun r115 : Int64 => Option.bind (if (lg_cmp r115 201900) = 0 then Option.bind (f_X6_must 1 y85) (fun r127 : Mem => Option.bind (f_X6_number 0 15 r127) (fun r134 : Mem => Option.bind (f_X6_spotOf h 4) (fun r143 : Int32 => if inR r143 63 then bn (sI r134 37 r143.toNatClampNeg (gI r134 36 13)) (fun m150 : Mem => some m150) else none))) else some y85) (fun y122 : Mem => some y122))
def rK2 (h : Int32) (y58 : Mem) : Option Mem := Option.bind (f_X6_word y58) (fun r78 : Int64 => Option.bind (if (lg_cmp r78 20194900) = 0 then Option.bind (f_X6_must 1 y58) (fun r90 : Mem => Option.bind (f_X6_number 1 9 r90) (fun r97 : Mem => Option.bind (f_X6_spotOf h 3) (fun r106 : Int32 => if inR r106 63 then bn (sI r97 37 r106.toNatClampNeg (gI r97 36 13)) (fun m113 : Mem => some m113) else none))) else some y58) (rK3 h))
def rK1 (h : Int32) (y42 : Mem) : Option Mem := Option.bind (f_X6_word y42) (fun r51 : Int64 => Option.bind (if (lg_cmp r51 66667) = 0 then Option.bind (f_X6_must 1 y42) (fun r63 : Mem => Option.bind (f_X6_spotOf h 2) (fun r72 : Int32 => if inR r72 63 then bn (sI r63 37 r72.toNatClampNeg 1) (fun m76 : Mem => some m76) else none)) else some y42) (rK2 h))
def rK0 (h : Int32) (y : Mem) : Option Mem := Option.bind (f_X6_word y) (fun r35 : Int64 => Option.bind (if (lg_cmp r35 52) = 0 then Option.bind (f_X6_atItem h y) (fun r47 : Mem => some r47) else some y) (rK1 h))
def cT (h : Int32) (M : Mem) : Option (Int32 × Mem) := Option.bind (f_X1_readPlace_13 h M) (fun r73 : Int32 × Mem => Option.bind (if r73.1 = 0 then some (0, r73.2) else Option.bind (f_X1_readBack_13 h r73.2) (fun r82 : Int32 × Mem => if r82.1 = 0 then some (0, r82.2) else Option.bind (f_X1_readShirt_13 h r82.2) (fun r91 : Int32 × Mem => if r91.1 = 0 then some (0, r91.2) else Option.bind (f_X1_readFeel_13 h r91.2) (fun r100 : Int32 × Mem => if r100.1 = 0 then some (0, r100.2) else some (1, r100.2))))) (fun y76 : Int32 × Mem => if zb y76.1 then some (y76.1, y76.2) else none))
theorem cT_is {h : Int32} {M : Mem} {r1 r2 r3 r4 : Int32} {M1 M2 M3 M4 : Mem} (c1 : f_X1_readPlace_13 h M = some (r1, M1)) (c2 : r1 ≠ 0 → f_X1_readBack_13 h M1 = some (r2, M2)) (c3 : r1 ≠ 0 → r2 ≠ 0 → f_X1_readShirt_13 h M2 = some (r3, M3)) (c4 : r1 ≠ 0 → r2 ≠ 0 → r3 ≠ 0 → f_X1_readFeel_13 h M3 = some (r4, M4)) : cT h M = some (if r1 = 0 then (0, M1) else if r2 = 0 then (0, M2) else if r3 = 0 then (0, M3) else if r4 = 0 then (0, M4) else (1, M4)) := by
  unfold cT
  rw [c1, Option.bind_some]
  dsimp only
  by_cases q1 : r1 = 0
  · rw [if_pos q1, if_pos q1]; rfl
  · rw [if_neg q1, if_neg q1, c2 q1, Option.bind_some]
    dsimp only
    by_cases q2 : r2 = 0
    · rw [if_pos q2, if_pos q2]; rfl
    · rw [if_neg q2, if_neg q2, c3 q1 q2, Option.bind_some]
      dsimp only
      by_cases q3 : r3 = 0
      · rw [if_pos q3, if_pos q3]; rfl
      · rw [if_neg q3, if_neg q3, c4 q1 q2 q3, Option.bind_some]
        dsimp only
        by_cases q4 : r4 = 0
        · rw [if_pos q4, if_pos q4]; rfl
        · rw [if_neg q4, if_neg q4]; rfl
section RAILQ
variable {t : Nat} {c : Nat → Nat} {M N M0 N0 : Mem} {a b : AR} {f : Nat}
theorem fk3 (hN : TN t c N0) {h : Int32} (F : FAIL t c M0 N0 M N f) : rK3 h N = some N := fail_word hN F (by decide) _ _
theorem fk2 (hN : TN t c N0) {h : Int32} (F : FAIL t c M0 N0 M N f) : rK2 h N = some N := (fail_word hN F (by decide) _ _).trans (fk3 hN F)
theorem fk1 (hN : TN t c N0) {h : Int32} (F : FAIL t c M0 N0 M N f) : rK1 h N = some N := (fail_word hN F (by decide) _ _).trans (fk2 hN F)
theorem one_ne : (1 : Int32) ≠ 0 := by decide
theorem tl (hM : TC t c M0) (hN : TN t c N0) (S : SIM t c M0 N0 M N f b) {h : Nat} (hh : h < aN b) (hp : aPl b h = none) : ∃ r M2 N2, cT (nI h) M = some (r, M2) ∧ rK0 (nI h) N = some N2 ∧ OUT t c M0 N0 (aN b) f r M2 N2 := by
  obtain ⟨r1, M1, N1, c1, n1, o1⟩ := rdP hM hN S hh hp (rK1 (nI h))
  have n1' : rK0 (nI h) N = rK1 (nI h) N1 := n1
  rcases o1 with ⟨rfl, f1, b1, S1, e1, l1⟩ | ⟨rfl, f1, F1, l1⟩
  · obtain ⟨r2, M2, N2, c2, n2, o2⟩ := rdB hM hN S1 (show h < aN b1 by omega) (rK2 (nI h))
    have n2' : rK1 (nI h) N1 = rK2 (nI h) N2 := n2
    rcases o2 with ⟨rfl, f2, b2, S2, e2, l2⟩ | ⟨rfl, f2, F2, l2⟩
    · obtain ⟨r3, M3, N3, c3, n3, o3⟩ := rdH hM hN S2 (show h < aN b2 by omega) (rK3 (nI h))
      have n3' : rK2 (nI h) N2 = rK3 (nI h) N3 := n3
      rcases o3 with ⟨rfl, f3, b3, S3, e3, l3⟩ | ⟨rfl, f3, F3, l3⟩
      · obtain ⟨r4, M4, N4, c4, n4, o4⟩ := rdF hM hN S3 (show h < aN b3 by omega) (fun y122 : Mem => some y122)
        have n4' : rK3 (nI h) N3 = some N4 := n4
        have hr : r4 = 1 ∨ r4 = 0 := by
          rcases o4 with ⟨z, _⟩ | ⟨z, _⟩
          · exact Or.inl z
          · exact Or.inr z
        have o4' := o4.le (show f ≤ f3 by omega)
        rw [show aN b3 = aN b by omega] at o4'
        refine ⟨r4, M4, N4, ?_, by rw [n1', n2', n3', n4'], o4'⟩
        rw [cT_is c1 (fun _ => c2) (fun _ _ => c3) (fun _ _ _ => c4), if_neg one_ne, if_neg one_ne, if_neg one_ne]
        rcases hr with rfl | rfl
        · rw [if_neg one_ne]
        · rw [if_pos rfl]
      · refine ⟨0, M3, N3, ?_, by rw [n1', n2', n3', fk3 hN F3], Or.inr ⟨rfl, f3, F3, by omega⟩⟩
        rw [cT_is (r4 := 0) (M4 := M3) c1 (fun _ => c2) (fun _ _ => c3) (fun _ _ z => absurd rfl z), if_neg one_ne, if_neg one_ne, if_pos rfl]
    · refine ⟨0, M2, N2, ?_, by rw [n1', n2', fk2 hN F2], Or.inr ⟨rfl, f2, F2, by omega⟩⟩
      rw [cT_is (r3 := 0) (M3 := M2) (r4 := 0) (M4 := M2) c1 (fun _ => c2) (fun _ z => absurd rfl z) (fun _ z => absurd rfl z), if_neg one_ne, if_pos rfl]
  · refine ⟨0, M1, N1, ?_, by rw [n1', fk1 hN F1], Or.inr ⟨rfl, f1, F1, by omega⟩⟩
    rw [cT_is (r2 := 0) (M2 := M1) (r3 := 0) (M3 := M1) (r4 := 0) (M4 := M1) c1 (fun z => absurd rfl z) (fun z => absurd rfl z) (fun z => absurd rfl z), if_pos rfl]
theorem X0_add13 (hc : CR M 13 b) (hn : aN b < 12) (v : Int32) : f_X0_addHanger_13 v M = some (nI (aN b), sI (sI M 14 (aN b) v) 13 0 (nI (aN b + 1))) := by
  unfold f_X0_addHanger_13
  have e : gI (sI M 14 (aN b) v) 13 0 = nI (aN b) := by rw [gI_sI, if_neg (by omega)]; exact hc.1
  rw [bn_e, hc.1, if_pos (inR_nI hn (by decide)), cl_nI (by omega), bn_e, bn_e, e, nI_1]
/-- what an item leaves -/
def OUI (t : Nat) (c : Nat → Nat) (M0 N0 : Mem) (f : Nat) (r : Int32) (M N : Mem) : Prop := (r = 1 ∧ ∃ f2 b, SIM t c M0 N0 M N f2 b ∧ f < f2) ∨ (r = 0 ∧ ∃ f2, FAIL t c M0 N0 M N f2 ∧ f ≤ f2)
theorem rdItem (hM : TC t c M0) (hN : TN t c N0) (S : SIM t c M0 N0 M N f b) : ∃ r M2 N2, f_X1_readItem_13 M = some (r, M2) ∧ f_X6_item N = some N2 ∧ OUI t c M0 N0 f r M2 N2 := by
  obtain ⟨hw, hc, hm, rC, rN, hf, h14, fc, fn⟩ := S
  have hn := hw.1
  have TM := hM.fc fc
  have TNn := hN.fn fn
  obtain ⟨x, x1, x2⟩ := X6_word TNn rN hf h14
  have x6 : (lg_cmp x 17376357 = 0) ↔ wI t c f 6 = true := x2 6 (by decide)
  have g14 : gI (sI N 36 14 1) 36 14 = 1 := by rw [gI_sI, if_pos ⟨rfl, rfl⟩]
  have FF : ∀ N2, (∀ k j, k ≠ 37 → gI N2 k j = gI (sI N 36 14 1) k j) → (∀ k j, gJ N2 k j = gJ N k j) → FAIL t c M0 N0 M N2 f := fun N2 h1 h2 => by
    have r1 : RdN t c (sI N 36 14 1) f := rN.sI (by decide)
    have f1 := fn.on ((On.rf N).sI (i := 14) (by decide) 1)
    refine ⟨rC.1, ⟨?_, ?_⟩, hf, ?_, fc, fun k j q1 q2 => ?_, fun k j => (h2 k j).trans (fn.2 k j)⟩
    · rw [h1 36 11 (by decide)]; exact r1.1
    · rw [h1 36 12 (by decide)]; exact r1.2
    · rw [h1 36 14 (by decide)]; exact g14
    · rw [h1 k j q1]; exact f1.1 k j q1 q2
  unfold f_X1_readItem_13 f_X6_item
  rw [X1_isWord TM rC hf (by decide), Option.bind_some, X6_kindHere TNn rN hf h14, Option.bind_some]
  by_cases q : wI t c f 6 = true
  · obtain ⟨M1, s1, s2, s3⟩ := X1_step TM rC.2.1 (tE_b hf).2
    obtain ⟨N1, m1, m2, m3, m4, m5⟩ := X6_must_t TNn rN hf h14 (x := 1) (by decide)
    have hf1 := nx_le (c := c) hf
    have hl1 := nx_lt (c := c) (wI_lt q)
    obtain ⟨N2, n1, n2, n3⟩ := X6_number (lo := 0) (hi := 99) (TNn.on m5) m2 hf1.2 m3 (by decide)
    have n1' : f_X6_number 0 99 N1 = some N2 := n1
    rw [b2_t q, if_neg (by decide), kn_price q, if_pos (by decide), s1, Option.bind_some, show f_X1_isNumber 0 99 M1 = _ from X1_isNumber (lo := 0) (hi := 99) s2 (by decide) (by decide), Option.bind_some, x1, Option.bind_some, if_pos (x6.mpr q), Option.bind_some, m1, Option.bind_some, n1', Option.bind_some]
    rcases n3 with ⟨k1, k2, k3, k4⟩ | ⟨k1, k2, k3⟩
    · have fcP : FC M0 (sI M1 13 2 (nI (nv t c (nx t c f)))) := (fc.o s3).sI (by decide)
      have hcP : CR (sI M1 13 2 (nI (nv t c (nx t c f)))) 13 (uPr b (nv t c (nx t c f))) := by
        rw [CR_mv, show (13 : Nat) = 1 + 12 from rfl, mvM_sI]
        exact C_uPr (CR_mv.mp (hc.o s3)) _
      have rP := RdC_s (k := 13) (i := 2) (v := nI (nv t c (nx t c f))) s2 (by decide)
      obtain ⟨M2, u1, u2, u3⟩ := X1_step (hM.fc fcP) rP.2.1 (tE_b hf1.2).2
      have hf3 := nx_le (c := c) hf1.2
      rw [b2_t k1, if_neg (by decide), s2.2.2.2 k1.1, bn_e, u1, Option.bind_some, k3, if_pos rfl, Option.bind_some, bn_e, k4]
      exact ⟨1, M2, _, rfl, rfl, Or.inl ⟨rfl, nx t c (nx t c f), uPr b (nv t c (nx t c f)), ⟨W_uPr hw k1.2.2, hcP.o u3, M_uPr ((hm.on m5).on n2) _, u2, RdN_37 k2, hf3.2, by rw [g36_s37]; exact k3, fcP.o u3, ((fn.on m5).on n2).sI⟩, by omega⟩⟩
    · rw [b2_f k1, if_pos rfl, k3, if_neg (by decide), Option.bind_some, bn_e]
      exact ⟨0, M1, _, rfl, rfl, Or.inr ⟨rfl, nx t c f, ⟨s2.1, RdN_37 k2, hf1.2, by rw [g36_s37]; exact k3, fc.o s3, ((fn.on m5).on n2).sI⟩, hf1.1⟩⟩
  · rw [b2_f q, if_pos rfl, X1_namedKind TM rC hf, Option.bind_some]
    cases ek : kn t c f 6 0 with
    | none =>
      have nw : f_X6_number 0 99 (sI N 36 14 1) = some (sI N 36 14 1) := by
        unfold f_X6_number
        rw [g14, if_neg (by decide)]
      rw [if_pos (show pv none = -1 from rfl), if_pos (by decide), x1, Option.bind_some, if_neg (fun z => q (x6.mp z)), Option.bind_some, X6_must_f h14, Option.bind_some, nw, Option.bind_some, g14, if_neg (by decide), Option.bind_some, bn_e]
      exact ⟨0, M, _, rfl, rfl, Or.inr ⟨rfl, f, FF _ (fun k j hk => by rw [gI_sI, if_neg (fun z => hk z.1)]) (fun k j => rfl), Nat.le_refl f⟩⟩
    | some k =>
      have hk := kn_lt f 6 0 k ek
      have gk : ¬ nI k = -1 := fun z => by
        rw [i_eq, nI_t (by omega)] at z
        have e : (-1 : Int32).toInt = -1 := rfl
        omega
      have hft : f < t := by
        by_cases z : f < t
        · exact z
        · exfalso
          have n : ∀ i, ¬ wI t c f i = true := fun i y => z (wI_lt y)
          have : kn t c f 6 0 = none := by simp only [kn, if_neg (n _)]
          rw [this] at ek; cases ek
      rw [show pv (some k) = nI k from rfl, if_neg gk, if_neg (nI_pos (by omega)), show gI M 13 0 = nI (aN b) from hc.1]
      unfold f_X6_hangerItem
      rw [show gI N 37 0 = nI (aN b) from hm.1]
      by_cases q2 : aN b < 12
      · have g12 : nI (aN b) < 12 := nI_lt (b := 12) q2 (by decide)
        have g12' : ¬ (12 : Int32) ≤ nI (aN b) := nI_ge (b := 12) q2 (by decide)
        have fcP : FC M0 (sI (sI M 14 (aN b) (nI k)) 13 0 (nI (aN b + 1))) := (fc.sI (by decide)).sI (by decide)
        have hcP : CR (sI (sI M 14 (aN b) (nI k)) 13 0 (nI (aN b + 1))) 13 (nA b k) := by
          rw [CR_mv, show (13 : Nat) = 1 + 12 from rfl, mvM_sI, show (14 : Nat) = 2 + 12 from rfl, mvM_sI]
          exact C_nA hw (CR_mv.mp hc) k
        have rP := RdC_s (k := 13) (i := 0) (v := nI (aN b + 1)) (RdC_s (k := 14) (i := aN b) (v := nI k) rC (by decide)) (by decide)
        obtain ⟨M1, s1, s2, s3⟩ := X1_step (hM.fc fcP) rP.2.1 (tE_b hf).2
        obtain ⟨N1, m1, m2, m3, m4, m5⟩ := X6_must_t TNn rN hf h14 (x := 1) (by decide)
        have hf1 := nx_le (c := c) hf
        have hl1 := nx_lt (c := c) hft
        have hmA := M_nA hw (hm.on m5) k
        have oA : ∀ c' j, c' ≠ 37 → gI (mA N1 (aN b) (nI k)) c' j = gI N1 c' j := fun c' j hc' => by
          unfold mA
          rw [gI_sI, if_neg (fun z => hc' z.1), gI_sI, if_neg (fun z => hc' z.1), gI_sI, if_neg (fun z => hc' z.1), gI_zs, if_neg (fun z => hc' z.1)]
        have oJ : ∀ c' j, gJ (mA N1 (aN b) (nI k)) c' j = gJ N1 c' j := fun c' j => rfl
        have fn1 := fn.on m5
        have S2 : SIM t c M0 N0 M1 (mA N1 (aN b) (nI k)) (nx t c f) (nA b k) := ⟨W_nA hw (by omega) q2, hcP.o s3, hmA, s2, ⟨by rw [oA 36 11 (by decide)]; exact m2.1, by rw [oA 36 12 (by decide)]; exact m2.2⟩, hf1.2, by rw [oA 36 14 (by decide)]; exact m3, fcP.o s3, fun k' j q1 q2 => by rw [oA k' j q1]; exact fn1.1 k' j q1 q2, fun k' j => (oJ k' j).trans (fn1.2 k' j)⟩
        obtain ⟨r, M2, N2, t1, t2, t3⟩ := tl hM hN S2 (h := aN b) (show aN b < aN b + 1 by omega) (show aPl b (aN b) = none from pl_none hw (Nat.le_refl _))
        have t1' : Option.bind (f_X1_readPlace_13 (nI (aN b)) M1) _ = some (r, M2) := t1
        have t2' : Option.bind (f_X6_word (mA N1 (aN b) (nI k))) _ = some N2 := t2
        rw [if_pos g12, if_neg g12', X0_add13 hc q2, Option.bind_some, Option.bind_some, m1, Option.bind_some, m3, if_pos rfl, X6_adds hw (hm.on m5) q2, Option.bind_some]
        dsimp only
        rw [s1, Option.bind_some]
        refine ⟨r, M2, N2, t1', ?_, ?_⟩
        · refine Eq.trans (congrArg (fun z => Option.bind (Option.bind z (fun r11 : Mem => some r11)) (fun y6 : Mem => some y6)) t2') rfl
        · rcases t3 with ⟨e1, f2, b2, e2, e3, e4⟩ | ⟨e1, f2, e2, e3⟩
          · exact Or.inl ⟨e1, f2, b2, e2, by omega⟩
          · exact Or.inr ⟨e1, f2, e2, by omega⟩
      · have g12 : ¬ nI (aN b) < 12 := nI_nlt (b := 12) (by omega) (by omega)
        have g12' : (12 : Int32) ≤ nI (aN b) := nI_le (a := 12) (by omega) (by omega)
        rw [if_neg g12, if_pos g12', Option.bind_some, X6_must_f h14, Option.bind_some, g14, if_neg (by decide)]
        exact ⟨0, M, _, rfl, rfl, Or.inr ⟨rfl, f, FF _ (fun k j hk => rfl) (fun k j => rfl), Nat.le_refl f⟩⟩
theorem tkn_3 {f : Nat} : tkn t c f = 3 ↔ (f < t ∧ c f = 59) := by
  unfold tkn
  by_cases q : f < t
  · rw [if_pos q]
    by_cases q1 : isL (c f) = true
    · rw [if_pos q1]; have := isL_lt q1; exact ⟨fun z => by omega, fun z => by omega⟩
    · rw [if_neg q1]
      by_cases q2 : isD (c f) = true
      · rw [if_pos q2]; have := isD_lt q2; exact ⟨fun z => by omega, fun z => by omega⟩
      · rw [if_neg q2]
        by_cases q3 : c f = 59
        · rw [if_pos q3]; exact ⟨fun _ => ⟨q, q3⟩, fun _ => rfl⟩
        · rw [if_neg q3]; exact ⟨fun z => by omega, fun z => absurd z.2 q3⟩
  · rw [if_neg q]; exact ⟨fun z => by omega, fun z => absurd z.1 q⟩
theorem tkn_0 {f : Nat} : tkn t c f = 0 ↔ ¬ f < t := by
  unfold tkn
  by_cases q : f < t
  · rw [if_pos q]
    refine ⟨fun z => ?_, fun z => absurd q z⟩
    split at z
    · omega
    · split at z
      · omega
      · split at z <;> omega
  · rw [if_neg q]; exact ⟨fun _ => q, fun _ => rfl⟩
def Kc : Mem ⊕ ((Int32 × Mem) ⊕ (Mem ⊕ Mem)) → Option (Int32 × Mem) := el (fun x11_25 : Mem => some (((-1) - (gI x11_25 25 2)), x11_25)) (el (fun x11_42 : Int32 × Mem => some (x11_42.1, x11_42.2)) (el (fun x11_52 : Mem => some (((-1) - (gI x11_52 25 2)), x11_52)) (fun x11_66 : Mem => some (((-1) - (gI x11_66 25 2)), x11_66))))
/-- what the items leave -/
def FIN (t : Nat) (M0 N0 : Mem) (v : Int32) (M : Mem) (j : Int32) (N : Mem) : Prop := FC M0 M ∧ FN N0 N ∧ ((v = j ∧ (∃ n, n < 200 ∧ j = nI n) ∧ gI N 36 14 = 0 ∧ gI N 36 11 = nI t ∧ ∃ b, WF b ∧ CR M 13 b ∧ MR N 37 b) ∨ ∃ f, f ≤ t ∧ v = (-1) - nI f ∧ gI N 36 11 = nI f ∧ (gI N 36 14 = 1 ∨ (gI N 36 14 = 0 ∧ f < t)))
theorem items_lp (hM : TC t c M0) (hN : TN t c N0) : ∀ n k M N f b, k + n = 120 → k ≤ f → SIM t c M0 N0 M N f b → ∃ v M3 j N3, (∀ F, n < F → Option.bind (lp f_X1_readItems_13_L11 F (nI k, M)) Kc = some (v, M3)) ∧ (∀ F, n < F → Option.bind (f_X6_item N) (fun r : Mem => lp f_X6_rail_L24 F (nI (k + 1), r)) = some (j, N3)) ∧ FIN t M0 N0 v M3 j N3 := by
  have ht := hM.1
  have failN : ∀ k M2 N2 f2, FAIL t c M0 N0 M2 N2 f2 → ∀ F, 0 < F → lp f_X6_rail_L24 F (nI (k + 1), N2) = some (nI (k + 1), N2) := by
    intro k M2 N2 f2 h F hF
    obtain ⟨F, rfl⟩ : ∃ G, F = G + 1 := ⟨F - 1, by omega⟩
    refine lp_end ?_
    unfold f_X6_rail_L24
    dsimp only
    rw [h.2.2.2.1, if_neg (by decide)]
  intro n
  induction n with
  | zero =>
    intro k M N f b hk hkf S
    obtain ⟨r, M2, N2, e1, e2, e3⟩ := rdItem hM hN S
    have hf := S.2.2.2.2.2.1
    have hF : ∃ f2, FAIL t c M0 N0 M2 N2 f2 ∧ f ≤ f2 := by
      rcases e3 with ⟨_, f2, b2, S2, h2⟩ | ⟨_, f2, h2, h3⟩
      · have := S2.2.2.2.2.2.1; omega
      · exact ⟨f2, h2, h3⟩
    obtain ⟨f2, h2, h3⟩ := hF
    have h4 := h2.2.2.1
    have hff : f2 = f := by omega
    refine ⟨(-1) - nI f, M, nI (k + 1), N2, fun F hF => ?_, fun F hF => ?_, S.2.2.2.2.2.2.2.1, h2.2.2.2.2.2, Or.inr ⟨f, hf, rfl, by rw [h2.2.1.1, hff], Or.inl h2.2.2.2.1⟩⟩
    · obtain ⟨F, rfl⟩ : ∃ G, F = G + 1 := ⟨F - 1, by omega⟩
      rw [lp_end (r := .inr (.inr (.inr M)))]
      · show some ((-1) - gI M 25 2, M) = _
        rw [S.2.2.2.1.1]
      · unfold f_X1_readItems_13_L11
        dsimp only
        have g : (120 : Int32) ≤ nI k := nI_le (a := 120) (by omega) (by omega)
        rw [if_pos g]
    · rw [e2, Option.bind_some]
      exact failN k M2 N2 f2 h2 F (by omega)
  | succ n ih =>
    intro k M N f b hk hkf S
    obtain ⟨r, M2, N2, e1, e2, e3⟩ := rdItem hM hN S
    have hf := S.2.2.2.2.2.1
    have g : ¬ (120 : Int32) ≤ nI k := nI_ge (a := k) (b := 120) (by omega) (by decide)
    rcases e3 with ⟨rfl, f2, b2, S2, h2⟩ | ⟨rfl, f2, h2, h3⟩
    · obtain ⟨hw2, hc2, hm2, rC2, rN2, hf2, h14, fc2, fn2⟩ := S2
      have TM2 := hM.fc fc2
      have TN2 := hN.fn fn2
      have tl4 := tkn_le (t := t) (c := c) f2
      have by2 := X6_byteAt (N := N2) (k := f2) TN2 (by omega)
      have stN0 : f_X6_rail_L24 (nI (k + 1), N2) = if f2 < t ∧ c f2 = 59 then Option.bind (f_X6_must 1 N2) (fun r46 : Mem => Option.bind (f_X6_item r46) (fun r50 : Mem => some (.inl (nI (k + 1) + 1, r50)))) else some (.inr (nI (k + 1), N2)) := by
        unfold f_X6_rail_L24
        dsimp only
        rw [h14, if_pos rfl, rN2.1, by2, Option.bind_some]
        exact if_c (B_eq TN2 (w := 59) (by decide)) _ _
      have stC0 : f_X1_readItems_13_L11 (nI k, M) = if (gI M2 25 1) = 0 then some (.inr (.inr (.inl ((nI k + 1), M2)))) else if (gI M2 25 1) = 3 then Option.bind (f_X1_step M2) (fun r60 : Mem => some (.inl ((nI k + 1), r60))) else some (.inr (.inr (.inr (.inl M2)))) := by
        unfold f_X1_readItems_13_L11
        dsimp only
        rw [if_neg g, e1, Option.bind_some]
        exact if_neg one_ne
      rw [rC2.2.2.1] at stC0
      by_cases q0 : tkn t c f2 = 0
      · have hft : f2 = t := by have := tkn_0.mp q0; omega
        have g0 : nI (tkn t c f2) = 0 := by rw [q0]; rfl
        rw [if_pos g0, nI_1] at stC0
        rw [if_neg (fun z => by omega)] at stN0
        refine ⟨nI (k + 1), M2, nI (k + 1), N2, fun F hF => ?_, fun F hF => ?_, fc2, fn2, Or.inl ⟨rfl, ⟨k + 1, by omega, rfl⟩, h14, by rw [rN2.1, hft], b2, hw2, hc2, hm2⟩⟩
        · obtain ⟨F, rfl⟩ : ∃ G, F = G + 1 := ⟨F - 1, by omega⟩
          rw [lp_end stC0]; rfl
        · obtain ⟨F, rfl⟩ : ∃ G, F = G + 1 := ⟨F - 1, by omega⟩
          rw [e2, Option.bind_some, lp_end stN0]
      · have g0 : ¬ nI (tkn t c f2) = 0 := fun z => q0 ((nI_eq (b := 0) (by omega) (by decide)).mp z)
        have hft : f2 < t := by
          by_cases z : f2 < t
          · exact z
          · exact absurd (tkn_0.mpr z) q0
        rw [if_neg g0] at stC0
        by_cases q3 : tkn t c f2 = 3
        · have g3 : nI (tkn t c f2) = 3 := by rw [q3]; rfl
          obtain ⟨M3, s1, s2, s3⟩ := X1_step TM2 rC2.2.1 (tE_b hf2).2
          obtain ⟨N3, m1, m2, m3, m4, m5⟩ := X6_must_t TN2 rN2 hf2 h14 (x := 1) (by decide)
          have hl := nx_lt (c := c) hft
          have hle := nx_le (c := c) hf2
          rw [if_pos g3, s1, Option.bind_some, nI_1] at stC0
          rw [if_pos (tkn_3.mp q3), m1, Option.bind_some, nI_1] at stN0
          obtain ⟨v, M4, j, N4, y1, y2, y3⟩ := ih (k + 1) M3 N3 (nx t c f2) b2 (by omega) (by omega) ⟨hw2, hc2.o s3, hm2.on m5, s2, m2, hle.2, m3, fc2.o s3, fn2.on m5⟩
          refine ⟨v, M4, j, N4, fun F hF => ?_, fun F hF => ?_, y3⟩
          · obtain ⟨F, rfl⟩ : ∃ G, F = G + 1 := ⟨F - 1, by omega⟩
            rw [lp_step stC0]; exact y1 F (by omega)
          · obtain ⟨F, rfl⟩ : ∃ G, F = G + 1 := ⟨F - 1, by omega⟩
            have y2' := y2 F (by omega)
            rw [e2, Option.bind_some]
            cases e5 : f_X6_item N3 with
            | none => rw [e5] at y2'; cases y2'
            | some N5 =>
              rw [e5, Option.bind_some] at stN0 y2'
              rw [lp_step stN0]; exact y2'
        · have g3 : ¬ nI (tkn t c f2) = 3 := fun z => q3 ((nI_eq (b := 3) (by omega) (by decide)).mp z)
          rw [if_neg g3] at stC0
          rw [if_neg (fun z => q3 (tkn_3.mpr z))] at stN0
          refine ⟨(-1) - nI f2, M2, nI (k + 1), N2, fun F hF => ?_, fun F hF => ?_, fc2, fn2, Or.inr ⟨f2, hf2, rfl, rN2.1, Or.inr ⟨h14, hft⟩⟩⟩
          · obtain ⟨F, rfl⟩ : ∃ G, F = G + 1 := ⟨F - 1, by omega⟩
            rw [lp_end stC0]
            show some ((-1) - gI M2 25 2, M2) = _
            rw [rC2.1]
          · obtain ⟨F, rfl⟩ : ∃ G, F = G + 1 := ⟨F - 1, by omega⟩
            rw [e2, Option.bind_some, lp_end stN0]
    · refine ⟨(-1) - nI f2, M2, nI (k + 1), N2, fun F hF => ?_, fun F hF => ?_, h2.2.2.2.2.1, h2.2.2.2.2.2, Or.inr ⟨f2, h2.2.2.1, rfl, h2.2.1.1, Or.inl h2.2.2.2.1⟩⟩
      · obtain ⟨F, rfl⟩ : ∃ G, F = G + 1 := ⟨F - 1, by omega⟩
        rw [lp_end (r := .inl M2)]
        · show some ((-1) - gI M2 25 2, M2) = _
          rw [h2.1]
        · unfold f_X1_readItems_13_L11
          dsimp only
          rw [if_neg g, e1, Option.bind_some, if_pos rfl]
      · rw [e2, Option.bind_some]
        exact failN k M2 N2 f2 h2 F (by omega)
theorem neg_f {f : Nat} (h : f ≤ 120) : (-1 : Int32) - nI f < 0 := by
  have e : ((-1 : Int32) - nI f).toInt = -1 - (f : Int) := by
    rw [Int32.toInt_sub, nI_t (by omega), show (-1 : Int32).toInt = -1 from rfl, Int.bmod_def]
    split <;> omega
  rw [i_lt, e, show (0 : Int32).toInt = 0 from rfl]
  omega
theorem X6_keepsAside (N : Mem) : f_X6_keepsAside N = some (cpN N 37 39 63) := cp_lp (f := f_X6_keepsAside_L2) (s := 37) (d := 39) (fun i X hi => cp_step X hi) (fun X => rfl) _ N
theorem X6_putsBack (N : Mem) : f_X6_putsBack N = some (cpN N 39 37 63) := cp_lp (f := f_X6_putsBack_L2) (s := 39) (d := 37) (fun i X hi => cp_step X hi) (fun X => rfl) _ N
theorem Rel.wiped (h : Rel M N) : Rel (sI M 23 1 0) (sI N 36 10 0) := by
  refine h.tape (fun k j h1 h2 => by rw [gI_sI, if_neg (fun z => h1 z.1)]) (fun _ _ => rfl) (fun k j h1 h2 => by rw [gI_sI, if_neg (fun z => h2 z.1 z.2)]) (fun _ _ => rfl) ⟨0, by decide, by rw [gI_sI, if_pos ⟨rfl, rfl⟩]; rfl, by rw [gI_sI, if_pos ⟨rfl, rfl⟩]; rfl, fun j hj => absurd hj (Nat.not_lt_zero j)⟩
theorem p_rail (h : Rel M N) : Same (f_X5_rail M) (f_X6_rail N) := by
  obtain ⟨a, hw, hc, hm⟩ := h.1
  obtain ⟨t, t0, t1, t2, t3⟩ := h.2.2.2.1
  have hcx : ∀ j, ∃ x, j < t → x < 256 ∧ gI N 43 j = nI x ∧ gI M 24 j = bv x := fun j => by
    by_cases q : j < t
    · obtain ⟨x, h1, h2, h3⟩ := t3 j q
      exact ⟨x, fun _ => ⟨h1, h2, h3⟩⟩
    · exact ⟨0, fun z => absurd z q⟩
  have ⟨c, hcc⟩ : ∃ c : Nat → Nat, ∀ j, j < t → c j < 256 ∧ gI N 43 j = nI (c j) ∧ gI M 24 j = bv (c j) := ⟨fun j => Classical.choose (hcx j), fun j => Classical.choose_spec (hcx j)⟩
  have oB : ∀ k j, (k < 13 ∨ 18 < k) → gI (bm M 13 1) k j = gI M k j := fun k j q => gI_bm_out M (by omega) (by omega)
  have oA : ∀ k j, k ≠ 39 → gI (cpN N 37 39 63) k j = gI N k j := fun k j q => by rw [gI_cpN N (by decide), if_neg (fun z => q z.1)]
  have hM : TC t c (bm M 13 1) := ⟨t0, by rw [oB 23 1 (by decide)]; exact t1, fun j hj => ⟨(hcc j hj).1, by rw [oB 24 j (by decide)]; exact (hcc j hj).2.2⟩⟩
  have hN : TN t c (cpN N 37 39 63) := ⟨t0, by rw [oA 36 10 (by decide)]; exact t2, fun j hj => ⟨(hcc j hj).1, by rw [oA 43 j (by decide)]; exact (hcc j hj).2.1⟩⟩
  have o1 : O25 (bm M 13 1) (sI (bm M 13 1) 25 3 0) := (O25.rf _).sI 3 0
  have o2 : On (cpN N 37 39 63) (sI (sI (cpN N 37 39 63) 36 14 0) 36 12 0) := ((On.rf _).sI (by decide) 0).sI (by decide) 0
  obtain ⟨M1, s1, s2, s3⟩ := X1_step (e := 0) (hM.o o1) (by rw [gI_sI, if_pos ⟨rfl, rfl⟩]; rfl) (Nat.zero_le t)
  obtain ⟨N1, n1, n2, n3⟩ := X6_token (e := 0) (hN.on o2) (by rw [gI_sI, if_pos ⟨rfl, rfl⟩]; rfl) (Nat.zero_le t)
  have hf0 := (sT_sp (P := isS) (c := c) (Nat.zero_le t)).2.1
  have cB : CR (bm M 13 1) 13 a := C_bm hw hc (by omega)
  have S : SIM t c (bm M 13 1) (cpN N 37 39 63) M1 N1 (sT isS t c 0) a := by
    refine ⟨hw, (cB.o o1).o s3, (MR.of hm (fun j => oA 37 j (by decide))).on (o2.tr n3.on), s2, n2, hf0, ?_, ⟨fun k j _ hk => (s3.1 k j hk).trans (o1.1 k j hk), fun k j => (s3.2 k j).trans (o1.2 k j)⟩, ⟨fun k j _ hk => (o2.tr n3.on).1 k j hk, (o2.tr n3.on).2⟩⟩
    rw [n3.1 36 14 (fun _ => by decide), gI_sI, if_neg (by decide), gI_sI, if_pos ⟨rfl, rfl⟩]
  obtain ⟨v, M3, j, N3, y1, y2, fc, fn, y3⟩ := items_lp hM hN 120 0 M1 N1 _ a (by omega) (Nat.zero_le _) S
  have y1' : Option.bind (lp f_X1_readItems_13_L11 FU (0, M1)) Kc = some (v, M3) := y1 FU (by rw [FU_v]; omega)
  have y2' : Option.bind (f_X6_item N1) (fun r : Mem => lp f_X6_rail_L24 FU (1, r)) = some (j, N3) := y2 FU (by rw [FU_v]; omega)
  have eC : f_X1_readItems_13 (bm M 13 1) = some (v, M3) := by
    unfold f_X1_readItems_13
    rw [bn_e, s1, Option.bind_some]
    exact y1'
  have co3 : CO M M3 := ⟨fun k j q => (fc.1 k j (by omega) (by omega)).trans (oB k j (by omega)), fun k j => (fc.2 k j).trans (gJ_bm M 13 1 k j)⟩
  have no3 : NO N N3 := ⟨fun k j q => (fn.1 k j (by omega) (fun z => by omega)).trans (oA k j (by omega)), fun j => (fn.2 46 j).trans (gJ_cpN N 37 39 63 46 j), (fn.1 36 5 (by decide) (fun _ => by decide)).trans (oA 36 5 (by decide)), (fn.1 36 10 (by decide) (fun _ => by decide)).trans (oA 36 10 (by decide))⟩
  have t10 : gI N3 36 10 = nI t := no3.2.2.2.trans t2
  obtain ⟨N2, i1, i2⟩ : ∃ N2, f_X6_item N1 = some N2 ∧ lp f_X6_rail_L24 FU (1, N2) = some (j, N3) := by
    cases e5 : f_X6_item N1 with
    | none => rw [e5] at y2'; cases y2'
    | some N5 => rw [e5] at y2'; exact ⟨N5, rfl, y2'⟩
  unfold f_X5_rail f_X6_rail
  rw [become_13_1, Option.bind_some, eC, Option.bind_some, X6_keepsAside, Option.bind_some, bn_e, bn_e, n1, Option.bind_some, i1, Option.bind_some, i2, Option.bind_some]
  dsimp only
  rw [t10]
  rcases y3 with ⟨rfl, ⟨m, m1, rfl⟩, z14, z11, b, hwb, hcb, hmb⟩ | ⟨f, hf, rfl, z11, zz⟩
  · have g0 : gI (sI N3 36 14 0) 36 14 = 0 := by rw [gI_sI, if_pos ⟨rfl, rfl⟩]
    have g1 : gI (sI (sI N3 36 14 0) 36 10 0) 36 14 = 0 := by rw [gI_sI, if_neg (by decide)]; exact g0
    rw [if_neg (nI_pos (by omega)), become_1_13, Option.bind_some, Option.bind_some, bn_e, z14, if_pos rfl, z11, if_pos (nI_le (Nat.le_refl t) (by omega)), Option.bind_some, if_pos (by decide), bn_e, g0, if_pos rfl, Option.bind_some, bn_e, g1, if_pos rfl, Option.bind_some]
    have cb1 : CR (bm M3 1 13) 1 b := C_bm hwb hcb (by omega)
    have co : CO M (bm M3 1 13) := ⟨fun k j q => (gI_bm_out M3 (by omega) (by omega)).trans (co3.1 k j q), fun k j => (gJ_bm M3 1 13 k j).trans (co3.2 k j)⟩
    have no : NO N (sI N3 36 14 0) := no3.sI (by decide) (fun _ => by decide)
    exact ⟨_, _, _, rfl, rfl, (h.rail b hwb cb1 (hmb.of (fun j => by rw [gI_sI, if_neg (by omega)])) co no).wiped⟩
  · have g0 : gI (sI N3 36 14 1) 36 14 = 1 := by rw [gI_sI, if_pos ⟨rfl, rfl⟩]
    have y64 : (if gI N3 36 14 = 0 then if nI t ≤ gI N3 36 11 then some (0 : Int32) else some 1 else some 1) = some 1 := by
      rcases zz with z | ⟨z, z2⟩
      · rw [z, if_neg (by decide)]
      · rw [z, if_pos rfl, z11, if_neg (nI_ge z2 (by omega))]
    have g1 : gI (sI (cpN (sI N3 36 14 1) 39 37 63) 36 10 0) 36 14 = 1 := by rw [gI_sI, if_neg (by decide), gI_cpN _ (by decide), if_neg (by omega)]; exact g0
    have g2 : gI (sI (cpN (sI N3 36 14 1) 39 37 63) 36 10 0) 36 11 = nI f := by rw [gI_sI, if_neg (by decide), gI_cpN _ (by decide), if_neg (by omega), gI_sI, if_neg (by decide)]; exact z11
    rw [if_pos (neg_f (by omega)), Option.bind_some, bn_e, y64, Option.bind_some, if_pos (by decide), bn_e, g0, if_neg (by decide), X6_putsBack, Option.bind_some, Option.bind_some, bn_e, g1, if_neg (by decide), Option.bind_some, g2]
    have cc : CR M3 1 a := hc.of (fun k j q1 q2 => (fc.1 k j (by omega) (by omega)).trans (oB k j (by omega)))
    have m39 : MR (cpN N 37 39 63) 39 a := M_cp hw hm (by decide)
    have m39b : MR (sI N3 36 14 1) 39 a := m39.of (fun j => by rw [gI_sI, if_neg (by omega)]; exact fn.1 39 j (by decide) (fun z => absurd z (by decide)))
    have no : NO N (cpN (sI N3 36 14 1) 39 37 63) := (no3.sI (by decide) (fun _ => by decide)).tr (NO_cpN _ (by decide) (by decide) (by decide) 63)
    exact ⟨_, _, _, rfl, rfl, (h.rail a hw cc (M_cp hw m39b (by decide)) co3 no).wiped⟩
end RAILQ
