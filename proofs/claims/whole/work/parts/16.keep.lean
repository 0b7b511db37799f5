/-! PURE: images (rows that are copied), count, status, feed -/
section KEEP
variable {M N : Mem} {a : AR}
/-- the first k numbers of row s come to row d -/
def cpN (N : Mem) (s d : Nat) : Nat → Mem
  | 0 => N
  | k + 1 => sI (cpN N s d k) d k (gI (cpN N s d k) s k)
theorem gI_cpN (N : Mem) {s d : Nat} (hsd : s ≠ d) : ∀ (k c j : Nat), gI (cpN N s d k) c j = if c = d ∧ j < k then gI N s j else gI N c j := by
  intro k
  induction k with
  | zero => intro c j; rw [if_neg (by omega)]; rfl
  | succ k ih =>
    intro c j
    rw [cpN, gI_sI, ih, ih]
    by_cases h1 : c = d ∧ j = k
    · rw [if_pos h1, if_neg (fun q => hsd q.1), if_pos (by omega), h1.2]
    · rw [if_neg h1]
      exact if_c (by omega) _ _
theorem gJ_cpN (N : Mem) (s d : Nat) : ∀ (k c j : Nat), gJ (cpN N s d k) c j = gJ N c j := by
  intro k
  induction k with
  | zero => intro c j; rfl
  | succ k ih => intro c j; rw [cpN, gJ_sI, ih]
theorem cp_lp {f : Int32 × Mem → Option ((Int32 × Mem) ⊕ Mem)} {s d : Nat} (hs : ∀ (i : Nat) (X : Mem), i < 63 → f (nI i, X) = some (.inl (nI i + 1, sI X d i (gI X s i)))) (he : ∀ X, f (nI 63, X) = some (.inr X)) {β : Type} (k : Mem → Option β) (N : Mem) : Option.bind (lp f FU (0, N)) k = k (cpN N s d 63) :=
  lp_go (r := cpN N s d 63) (fun i => (nI i, cpN N s d i)) 63 rfl (fun i hi => by rw [hs i _ hi, nI_1]; rfl) (he _) (by rw [FU_v]; omega)
theorem cp_step {s d i : Nat} (X : Mem) (hi : i < 63) : (if (63 : Int32) ≤ nI i then some (Sum.inr X) else if inR (nI i) 63 then if inR (nI i) 63 then bn (sI X d (nI i).toNatClampNeg (gI X s (nI i).toNatClampNeg)) (fun m : Mem => some (Sum.inl (nI i + 1, m))) else none else none : Option ((Int32 × Mem) ⊕ Mem)) = some (.inl (nI i + 1, sI X d i (gI X s i))) := by
  have g : ¬ (63 : Int32) ≤ nI i := nI_ge (a := i) (b := 63) hi (by decide)
  have g2 : inR (nI i) 63 := inR_nI hi (by decide)
  rw [if_neg g, if_pos g2, if_pos g2, cl_nI (by omega)]
  rfl
theorem cp_image {β : Type} (k : Mem → Option β) (N : Mem) : Option.bind (lp f_X6_image_L2 FU (0, N)) k = k (cpN N 37 38 63) := cp_lp (fun i X hi => cp_step X hi) (fun X => rfl) k N
theorem cp_undo {β : Type} (k : Mem → Option β) (N : Mem) : Option.bind (lp f_X6_undo_L16 FU (0, N)) k = k (cpN N 38 37 63) := cp_lp (fun i X hi => cp_step X hi) (fun X => rfl) k N
theorem M_cp (hw : WF a) {s d : Nat} (hm : MR N s a) (hsd : s ≠ d) : MR (cpN N s d 63) d a := by
  have hn := hw.1
  obtain ⟨h0, h1, h2, h3⟩ := hm
  refine ⟨?_, ?_, ?_, fun h hh => ?_⟩
  · rw [gI_cpN N hsd, if_pos ⟨rfl, by decide⟩]; exact h0
  · rw [gI_cpN N hsd, if_pos ⟨rfl, by decide⟩]; exact h1
  · rw [gI_cpN N hsd, if_pos ⟨rfl, by decide⟩]; exact h2
  · rw [gI_cpN N hsd, gI_cpN N hsd, gI_cpN N hsd, gI_cpN N hsd, gI_cpN N hsd, if_pos ⟨rfl, by omega⟩, if_pos ⟨rfl, by omega⟩, if_pos ⟨rfl, by omega⟩, if_pos ⟨rfl, by omega⟩, if_pos ⟨rfl, by omega⟩]
    exact h3 h hh
/-- Rail.become: rail r comes to rail t -/
def bm0 (M : Mem) (t r : Nat) : Mem := sI (sI (sI (sI M t 0 (gI M r 0)) t 1 (gI (sI M t 0 (gI M r 0)) r 1)) t 2 (gI (sI (sI M t 0 (gI M r 0)) t 1 (gI (sI M t 0 (gI M r 0)) r 1)) r 2)) t 3 (gI (sI (sI (sI M t 0 (gI M r 0)) t 1 (gI (sI M t 0 (gI M r 0)) r 1)) t 2 (gI (sI (sI M t 0 (gI M r 0)) t 1 (gI (sI M t 0 (gI M r 0)) r 1)) r 2)) r 3)
def bmA (M : Mem) (t r i n : Nat) : Mem := rI M (t + i) (va_cpy (M.1 (r + i)) (M.1 (t + i)) 0 0 n)
def bm (M : Mem) (t r : Nat) : Mem := bmA (bmA (bmA (bmA (bmA (bm0 M t r) t r 1 12) t r 2 12) t r 3 12) t r 4 12) t r 5 24
theorem gI_bm0 (M : Mem) {t r : Nat} (h : r ≠ t) (c j : Nat) : gI (bm0 M t r) c j = if c = t ∧ j < 4 then gI M r j else gI M c j := by
  unfold bm0
  simp only [gI_sI]
  by_cases hc : c = t
  · subst hc
    by_cases hj : j < 4
    · rw [if_pos (⟨rfl, hj⟩ : c = c ∧ j < 4)]
      match j, hj with
      | 0, _ => simp
      | 1, _ => simp [h]
      | 2, _ => simp [h]
      | 3, _ => simp [h]
    · rw [if_neg (by omega), if_neg (by omega), if_neg (by omega), if_neg (by omega), if_neg (by omega)]
  · rw [if_neg (fun q => hc q.1), if_neg (fun q => hc q.1), if_neg (fun q => hc q.1), if_neg (fun q => hc q.1), if_neg (fun q => hc q.1)]
theorem gI_bmA (M : Mem) (t r i n c j : Nat) : gI (bmA M t r i n) c j = if c = t + i ∧ j < n then gI M (r + i) j else gI M c j := by
  unfold bmA
  rw [gI_rI]
  by_cases hc : c = t + i
  · subst hc
    rw [if_pos rfl]
    unfold va_cpy
    by_cases hj : j < n
    · rw [if_pos (by omega), if_pos ⟨rfl, hj⟩]
      show M.1 (r + i) (0 + (j - 0)) = M.1 (r + i) j
      rw [Nat.zero_add, Nat.sub_zero]
    · rw [if_neg (by omega), if_neg (by omega)]; rfl
  · rw [if_neg hc, if_neg (fun q => hc q.1)]
theorem gI_bm_out (M : Mem) {t r c j : Nat} (h : r + 5 < t ∨ t + 5 < r) (hc : c < t ∨ t + 5 < c) : gI (bm M t r) c j = gI M c j := by
  unfold bm
  rw [gI_bmA, if_neg (by omega), gI_bmA, if_neg (by omega), gI_bmA, if_neg (by omega), gI_bmA, if_neg (by omega), gI_bmA, if_neg (by omega), gI_bm0 M (by omega), if_neg (by omega)]
theorem gJ_bm (M : Mem) (t r c j : Nat) : gJ (bm M t r) c j = gJ M c j := rfl
theorem gI_bm_r (M : Mem) {t r i j : Nat} (h : r + 5 < t ∨ t + 5 < r) (hi : i ≤ 5) (hj : j < if i = 0 then 4 else if i = 5 then 24 else 12) : gI (bm M t r) (t + i) j = gI M (r + i) j := by
  unfold bm
  match i, hi with
  | 0, _ =>
    have hj : j < 4 := hj
    rw [gI_bmA, if_neg (by omega), gI_bmA, if_neg (by omega), gI_bmA, if_neg (by omega), gI_bmA, if_neg (by omega), gI_bmA, if_neg (by omega), gI_bm0 M (by omega), if_pos (by omega)]; rfl
  | 1, _ =>
    have hj : j < 12 := hj
    rw [gI_bmA, if_neg (by omega), gI_bmA, if_neg (by omega), gI_bmA, if_neg (by omega), gI_bmA, if_neg (by omega), gI_bmA, if_pos (by omega), gI_bm0 M (by omega), if_neg (by omega)]
  | 2, _ =>
    have hj : j < 12 := hj
    rw [gI_bmA, if_neg (by omega), gI_bmA, if_neg (by omega), gI_bmA, if_neg (by omega), gI_bmA, if_pos (by omega), gI_bmA, if_neg (by omega), gI_bm0 M (by omega), if_neg (by omega)]
  | 3, _ =>
    have hj : j < 12 := hj
    rw [gI_bmA, if_neg (by omega), gI_bmA, if_neg (by omega), gI_bmA, if_pos (by omega), gI_bmA, if_neg (by omega), gI_bmA, if_neg (by omega), gI_bm0 M (by omega), if_neg (by omega)]
  | 4, _ =>
    have hj : j < 12 := hj
    rw [gI_bmA, if_neg (by omega), gI_bmA, if_pos (by omega), gI_bmA, if_neg (by omega), gI_bmA, if_neg (by omega), gI_bmA, if_neg (by omega), gI_bm0 M (by omega), if_neg (by omega)]
  | 5, _ =>
    have hj : j < 24 := hj
    rw [gI_bmA, if_pos (by omega), gI_bmA, if_neg (by omega), gI_bmA, if_neg (by omega), gI_bmA, if_neg (by omega), gI_bmA, if_neg (by omega), gI_bm0 M (by omega), if_neg (by omega)]
  | n + 6, h => omega
theorem C_bm (hw : WF a) {t r : Nat} (hc : CR M r a) (h : r + 5 < t ∨ t + 5 < r) : CR (bm M t r) t a := by
  have hn := hw.1
  obtain ⟨h0, h1, h2, h3, h4, h5, h6, h7, h8, h9⟩ := hc
  have e : ∀ i j, i ≤ 5 → (j < if i = 0 then 4 else if i = 5 then 24 else 12) → gI (bm M t r) (t + i) j = gI M (r + i) j := fun i j hi hj => gI_bm_r M h hi hj
  refine ⟨?_, ?_, ?_, ?_, fun h hh => ?_, fun h hh => ?_, fun h hh => ?_, fun h hh => ?_, fun p h hp hh => ?_, fun p hp hh => ?_⟩
  · exact (e 0 0 (by decide) (by decide)).trans h0
  · exact (e 0 1 (by decide) (by decide)).trans h1
  · exact (e 0 2 (by decide) (by decide)).trans h2
  · exact (e 0 3 (by decide) (by decide)).trans h3
  · exact (e 1 h (by decide) (show h < 12 by omega)).trans (h4 h hh)
  · exact (e 2 h (by decide) hh).trans (h5 h hh)
  · exact (e 3 h (by decide) hh).trans (h6 h hh)
  · exact (e 4 h (by decide) hh).trans (h7 h hh)
  · exact (e 5 p (by decide) hp).trans (h8 p h hp hh)
  · exact (e 5 p (by decide) hp).trans (h9 p hp hh)
theorem become_7_1 (M : Mem) : f_X0_become_7_1 M = some (bm M 7 1) := rfl
theorem become_1_7 (M : Mem) : f_X0_become_7 M = some (bm M 1 7) := rfl
theorem become_13_1 (M : Mem) : f_X0_become_13_1 M = some (bm M 13 1) := rfl
theorem become_1_13 (M : Mem) : f_X0_become_13 M = some (bm M 1 13) := rfl
theorem p_image (h : Rel M N) : Same (f_X5_image M) (f_X6_image N) := by
  obtain ⟨⟨a, hw, hc, hm⟩, ⟨k1, k2, k3⟩, hst, ⟨t, t0, t1, t2, t3⟩, hsh⟩ := h
  unfold f_X5_image f_X6_image
  rw [become_7_1, cp_image]
  simp only [Option.bind_some, bn_e]
  have o : ∀ c j, (c < 7 ∨ 12 < c) → gI (bm M 7 1) c j = gI M c j := fun c j q => gI_bm_out M (by omega) (by omega)
  have n : ∀ c j, c ≠ 38 → gI (cpN N 37 38 63) c j = gI N c j := fun c j q => by rw [gI_cpN N (by decide), if_neg (fun z => q z.1)]
  refine ⟨1, _, _, rfl, rfl, ⟨a, hw, hc.of (fun k j q1 q2 => by rw [gI_sI, if_neg (by omega), o k j (by omega)]), hm.of (fun j => by rw [gI_sI, if_neg (by omega), n _ _ (by decide)])⟩, ⟨?_, ?_, ?_⟩, ?_, ⟨t, t0, ?_, ?_, ?_⟩, ?_⟩
  · rw [gI_sI, if_pos ⟨rfl, rfl⟩]; exact Or.inr rfl
  · rw [gI_sI, if_pos ⟨rfl, rfl⟩, gI_sI, if_pos ⟨rfl, rfl⟩]
  · intro _
    exact ⟨a, hw, (C_bm hw hc (by omega)).of (fun k j c1 c2 => by rw [gI_sI, if_neg (by omega)]), (M_cp hw hm (by decide)).of (fun j => by rw [gI_sI, if_neg (by omega)])⟩
  · intro i hi; rw [gI_sI, if_neg (by omega), gI_sI, if_neg (by omega), o 35 i (by omega), n 41 i (by decide)]; exact hst i hi
  · rw [gI_sI, if_neg (by omega), o _ _ (by omega)]; exact t1
  · rw [gI_sI, if_neg (by omega), n _ _ (by decide)]; exact t2
  · intro j hj; rw [gI_sI, if_neg (by omega), gI_sI, if_neg (by omega), o _ _ (by omega), n _ _ (by decide)]; exact t3 j hj
  · intro s hs
    obtain ⟨b, z, q1, q2, q3, q4, q5, q6, q7, q8⟩ := hsh s hs
    refine ⟨b, z, ?_, ?_, q3, ?_, ?_, q6, q7, fun i hi => ?_⟩
    · rw [gI_sI, if_neg (by omega), o _ _ (by omega)]; exact q1
    · rw [gI_sI, if_neg (by omega), n _ _ (by decide)]; exact q2
    · rw [gI_sI, if_neg (by omega), o _ _ (by omega)]; exact q4
    · rw [gI_sI, if_neg (by omega), n _ _ (by decide)]; exact q5
    · rw [gJ_sI, gJ_sI, gJ_bm, gJ_cpN]; exact q8 i hi
theorem p_undo (h : Rel M N) : Same (f_X5_undo M) (f_X6_undo N) := by
  obtain ⟨k1, k2, k3⟩ := h.2.1
  unfold f_X5_undo f_X6_undo
  simp only [bnd_eta]
  rw [k2]
  by_cases e : gI M 0 8 = 0
  · rw [if_pos e, if_pos e]; exact same_find h 3 (by decide) (by decide)
  · have e1 : gI M 0 8 = 1 := k1.resolve_left e
    obtain ⟨b, hw, hc, hm⟩ := k3 e1
    rw [if_neg e, if_neg e, become_1_7, cp_undo]
    simp only [Option.bind_some]
    have hc2 : CR (bm M 1 7) 1 b := C_bm hw hc (by omega)
    have hm2 : MR (cpN N 38 37 63) 37 b := M_cp hw hm (by decide)
    refine ⟨nI (aN b), _, _, by rw [hc2.1], by rw [hm2.1], h.rail b hw hc2 hm2 ⟨fun k j q => gI_bm_out M (by omega) (by omega), fun k j => gJ_bm M 1 7 k j⟩ ⟨fun k j q => ?_, fun j => gJ_cpN N 38 37 63 46 j, ?_, ?_⟩⟩
    · rw [gI_cpN N (by decide), if_neg (by omega)]
    · rw [gI_cpN N (by decide), if_neg (by omega)]
    · rw [gI_cpN N (by decide), if_neg (by omega)]
end KEEP
