/-! PURE: heaps, greatest -/
section HEAPS
variable {M N : Mem} {a : AR}
def hL (a : AR) : Nat → Nat
  | 0 => ms (onA a) 12
  | k + 1 => if (hL a k).testBit k then df (hL a k) (cl a k) else hL a k
def hN (a : AR) : Nat → Nat
  | 0 => 0
  | k + 1 => if (hL a k).testBit k then hN a k + 1 else hN a k
def hG (a : AR) : Nat → Nat
  | 0 => 0
  | k + 1 => if (hL a k).testBit k then max (hG a k) (pc (cl a k)) else hG a k
def hB (a : AR) : Nat → Nat
  | 0 => 0
  | k + 1 => if onA a k then max (hB a k) (pc (cl a k)) else hB a k
theorem df_sub (m c : Nat) : SS (df m c) m := fun i q => by
  rw [tb_df] at q
  cases e : m.testBit i with
  | true => rfl
  | false => rw [e] at q; cases q
theorem SS_lt {m c : Nat} (h : SS m c) (hc : c < 4096) : m < 4096 := by
  refine Nat.lt_pow_two_of_testBit (n := 12) _ fun i hi => ?_
  cases e : m.testBit i with
  | false => rfl
  | true => have := h i e; rw [tb_big hc hi] at this; cases this
theorem hL_sub (a : AR) : ∀ k, SS (hL a k) (ms (onA a) 12) := by
  intro k
  induction k with
  | zero => exact SS.rf _
  | succ k ih =>
    rw [hL]
    split
    · exact (df_sub _ _).tr ih
    · exact ih
theorem hL_lt (a : AR) (k : Nat) : hL a k < 4096 := SS_lt (hL_sub a k) (ms12 _)
theorem hL_on (a : AR) {k i : Nat} (q : (hL a k).testBit i = true) : onA a i = true := by
  have := hL_sub a k i q
  rw [tb_ms] at this
  cases e : onA a i with
  | true => rfl
  | false => rw [e] at this; simp at this
theorem hN_le (a : AR) : ∀ k, hN a k ≤ k := by
  intro k
  induction k with
  | zero => exact Nat.le_refl 0
  | succ k ih => rw [hN]; split <;> omega
theorem pc_mono {m c : Nat} (h : SS m c) : pc m ≤ pc c := ct_mono h 12
theorem hG_in (a : AR) : ∀ k, k ≤ 12 → ∀ i, i < 12 → onA a i = true → (hL a k).testBit i = false → pc (cl a i) ≤ hG a k := by
  intro k
  induction k with
  | zero =>
    intro _ i hi h1 h2
    rw [hL, tb_ms, h1] at h2
    simp [hi] at h2
  | succ k ih =>
    intro hk i hi h1 h2
    rw [hG]
    rw [hL] at h2
    by_cases q : (hL a k).testBit k = true
    · rw [if_pos q]
      rw [if_pos q, tb_df] at h2
      cases e : (hL a k).testBit i with
      | false => have := ih (by omega) i hi h1 e; omega
      | true =>
        rw [e] at h2
        have h3 : (cl a k).testBit i = true := by cases z : (cl a k).testBit i with
          | true => rfl
          | false => rw [z] at h2; cases h2
        have c1 := cl_is a (show k < 12 by omega)
        have c2 := cl_is a hi
        have := pc_mono (c2.2.2.2 _ c1.2.2.1 (SS_pow.mpr h3))
        omega
    · rw [if_neg q]
      rw [if_neg q] at h2
      exact ih (by omega) i hi h1 h2
theorem hG_hB (a : AR) : ∀ k, k ≤ 12 → hG a k = hB a k := by
  intro k
  induction k with
  | zero => intro _; rfl
  | succ k ih =>
    intro hk
    have e := ih (by omega)
    rw [hG, hB]
    by_cases q : (hL a k).testBit k = true
    · rw [if_pos q, if_pos (hL_on a q), e]
    · rw [if_neg q]
      by_cases o : onA a k = true
      · rw [if_pos o]
        have := hG_in a k (by omega) k (by omega) o (by simpa using q)
        omega
      · rw [if_neg o, e]
theorem hB_le (a : AR) : ∀ k, hB a k ≤ 12 := by
  intro k
  induction k with
  | zero => exact Nat.zero_le 12
  | succ k ih =>
    rw [hB]
    have := pc_le (cl a k)
    split <;> omega
theorem h_wide (hw : WF a) : ∀ d, hN a (aN a + d) = hN a (aN a) ∧ hB a (aN a + d) = hB a (aN a) ∧ hG a (aN a + d) = hG a (aN a) := by
  intro d
  induction d with
  | zero => exact ⟨rfl, rfl, rfl⟩
  | succ d ih =>
    have q : ¬ onA a (aN a + d) = true := fun z => by have := on_lt hw z; omega
    have q2 : ¬ (hL a (aN a + d)).testBit (aN a + d) = true := fun z => q (hL_on a z)
    have e : aN a + (d + 1) = (aN a + d) + 1 := rfl
    rw [e, hN, hB, hG, if_neg q2, if_neg q, if_neg q2]
    exact ih
theorem heaps_C (hc : CR M 1 a) {β : Type} (K : Int32 → Option β) : Option.bind (lp (f_X5_heaps_L23 (LK a M)) FU (nI (ms (onA a) 12), 0, 0)) K = K (nI (hN a 12)) := by
  refine (lp_go (r := nI (hN a 12)) (fun k => (nI (hL a k), nI (hN a k), nI k)) 12 rfl ?_ rfl (by rw [FU_v]; omega))
  intro k hk
  unfold f_X5_heaps_L23
  dsimp only
  have g : ¬ (12 : Int32) ≤ nI k := nI_ge (a := k) (b := 12) hk (by decide)
  have hl := hL_lt a k
  rw [if_neg g, X5_contains (by omega) (by omega), X3_heapOf hk]
  simp only [Option.bind_some, bn_e, b2_0, nI_df, nI_1]
  rw [hL, hN]
  by_cases q : (hL a k).testBit k = true
  · rw [if_neg (not_not_intro q), if_pos q, if_pos q]; rfl
  · rw [if_pos q, if_neg q, if_neg q]; rfl
theorem great_C (hc : CR M 1 a) {β : Type} (K : Int32 → Option β) : Option.bind (lp (f_X5_greatest_L34 (nI (ms (onA a) 12)) (LK a M)) FU (0, 0)) K = K (nI (hB a 12)) := by
  refine (lp_go (r := nI (hB a 12)) (fun k => (nI (hB a k), nI k)) 12 rfl ?_ rfl (by rw [FU_v]; omega))
  intro k hk
  unfold f_X5_greatest_L34
  dsimp only
  have g : ¬ (12 : Int32) ≤ nI k := nI_ge (a := k) (b := 12) hk (by decide)
  have hl := ms12 (onA a)
  have hb := hB_le a k
  have hp := pc_le (cl a k)
  rw [if_neg g, X5_contains (by omega) (by omega), X3_heapOf hk, Option.bind_some, Option.bind_some, bc_spec _ (cl_is a hk).1]
  simp only [Option.bind_some, bn_e, b2_0, nI_1]
  rw [hB, tb_ms]
  by_cases q : onA a k = true
  · rw [if_neg (by simp [q, hk]), if_pos q]
    by_cases z : hB a k < pc (cl a k)
    · rw [if_pos (nI_lt z (by omega)), show max (hB a k) (pc (cl a k)) = pc (cl a k) by omega]; rfl
    · rw [if_neg (nI_nlt (by omega) (by omega)), show max (hB a k) (pc (cl a k)) = hB a k by omega]; rfl
  · rw [if_pos (by simp [q]), if_neg q]; rfl
/-- the reference's memory while it looks for heaps -/
def hM (a : AR) (N : Mem) : Nat → Mem
  | 0 => sI (sI N 36 6 0) 36 7 0
  | k + 1 => if (hL a k).testBit k then sI (sI (hM a N k) 36 6 (nI (hN a (k + 1)))) 36 7 (nI (hG a (k + 1))) else hM a N k
theorem hM_6 (a : AR) (N : Mem) : ∀ k, gI (hM a N k) 36 6 = nI (hN a k) ∧ gI (hM a N k) 36 7 = nI (hG a k) := by
  intro k
  induction k with
  | zero => exact ⟨by rw [hM, gI_sI, if_neg (by decide), gI_sI, if_pos ⟨rfl, rfl⟩]; rfl, by rw [hM, gI_sI, if_pos ⟨rfl, rfl⟩]; rfl⟩
  | succ k ih =>
    by_cases q : (hL a k).testBit k = true
    · rw [hM, if_pos q]
      exact ⟨by rw [gI_sI, if_neg (by decide), gI_sI, if_pos ⟨rfl, rfl⟩], by rw [gI_sI, if_pos ⟨rfl, rfl⟩]⟩
    · rw [hM, if_neg q, hN, if_neg q, hG, if_neg q]
      exact ih
theorem hM_37 (a : AR) (N : Mem) : ∀ k j, gI (hM a N k) 37 j = gI N 37 j := by
  intro k
  induction k with
  | zero => intro j; rw [hM, gI_sI, if_neg (by omega), gI_sI, if_neg (by omega)]
  | succ k ih =>
    intro j
    rw [hM]
    split
    · rw [gI_sI, if_neg (by omega), gI_sI, if_neg (by omega)]; exact ih j
    · exact ih j
theorem hM_NO (a : AR) (N : Mem) : ∀ k, NO N (hM a N k) := by
  intro k
  induction k with
  | zero => exact ((NO.rf N).sI (by decide) (fun _ => by decide)).sI (by decide) (fun _ => by decide)
  | succ k ih =>
    rw [hM]
    split
    · exact (ih.sI (by decide) (fun _ => by decide)).sI (by decide) (fun _ => by decide)
    · exact ih
theorem X6_findHeaps (hw : WF a) (hm : MR N 37 a) : f_X6_findHeaps N = some (hM a N (aN a)) := by
  unfold f_X6_findHeaps
  have hn := hw.1
  have hmk : ∀ k, MR (hM a N k) 37 a := fun k => hm.of (hM_37 a N k)
  rw [bn_e, bn_e, show sI (sI N 36 6 0) 36 7 0 = hM a N 0 from rfl, X6_onRail hw (hmk 0), Option.bind_some]
  refine (lp_go (r := hM a N (aN a)) (fun k => (nI (hL a k), nI k, hM a N k)) (aN a) rfl ?_ ?_ (by rw [FU_v]; omega)).trans rfl
  · intro k hk
    unfold f_X6_findHeaps_L17
    dsimp only
    have hl := hL_lt a k
    have hb := hB_le a k
    have he := hG_hB a k (by omega)
    have hp := pc_le (cl a k)
    rw [(hmk k).1, if_neg (nI_ge hk (by omega)), bit_at (by omega) (by omega), X6_heapOf hw (hmk k) (by omega), Option.bind_some, ones_spec _ (cl_is a (by omega)).1]
    simp only [Option.bind_some, bn_e, b2_1, nI_df, nI_1]
    by_cases q : (hL a k).testBit k = true
    · have e7 : gI (sI (hM a N k) 36 6 (gI (hM a N k) 36 6 + 1)) 36 7 = gI (hM a N k) 36 7 := by rw [gI_sI, if_neg (by decide)]
      rw [if_pos q, e7, (hM_6 a N k).1, (hM_6 a N k).2, nI_1, hL, if_pos q, hM, if_pos q, hN, if_pos q, hG, if_pos q]
      by_cases z : pc (cl a k) ≤ hG a k
      · rw [if_pos (nI_le z (by omega)), show max (hG a k) (pc (cl a k)) = hG a k by omega]; rfl
      · rw [if_neg (nI_ge (by omega) (by omega)), show max (hG a k) (pc (cl a k)) = pc (cl a k) by omega]; rfl
    · rw [if_neg q, hL, if_neg q, hM, if_neg q]; rfl
  · unfold f_X6_findHeaps_L17
    dsimp only
    rw [(hmk (aN a)).1, if_pos (nI_le (Nat.le_refl _) (by omega))]
theorem Rel.hm (h : Rel M N) (hw : WF a) (hc : CR M 1 a) (hm : MR N 37 a) (k : Nat) : Rel M (hM a N k) := h.rail a hw hc (hm.of (hM_37 a N k)) (CO.rf M) (hM_NO a N k)
theorem p_heaps (h : Rel M N) : Same (f_X5_heaps M) (f_X6_heaps N) := by
  obtain ⟨a, hw, hc, hm⟩ := h.1
  have hn := hw.1
  have hk := C_lkm hc 12
  unfold f_X5_heaps f_X6_heaps
  rw [X3_look hw hc, Option.bind_some, X0_up hw hk, Option.bind_some, X6_findHeaps hw hm, Option.bind_some, (hM_6 a N _).1]
  rw [heaps_C hc]
  have e : hN a 12 = hN a (aN a) := by
    have := (h_wide hw (12 - aN a)).1
    rw [show aN a + (12 - aN a) = 12 by omega] at this
    exact this
  rw [e]
  exact same_rd ((h.hm hw hc hm _).look hw hc (hm.of (hM_37 a N _))) _
theorem hB_pos (a : AR) {i : Nat} (hi : i < 12) (o : onA a i = true) : 0 < hB a 12 := by
  have : ∀ k, i < k → pc (cl a i) ≤ hB a k := by
    intro k
    induction k with
    | zero => intro z; omega
    | succ k ih =>
      intro z
      rw [hB]
      rcases Nat.lt_succ_iff_lt_or_eq.mp z with y | y
      · have := ih y
        split <;> omega
      · subst y; rw [if_pos o]; omega
  have h1 := this 12 hi
  have h2 := pc_mono (cl_is a hi).2.1
  rw [pc_pow i hi] at h2
  omega
theorem p_greatest (h : Rel M N) : Same (f_X5_greatest M) (f_X6_greatest N) := by
  obtain ⟨a, hw, hc, hm⟩ := h.1
  have hn := hw.1
  have hk := C_lkm hc 12
  have hl := ms12 (onA a)
  have hb := hB_le a 12
  have e : hG a (aN a) = hB a 12 := by
    have := (h_wide hw (12 - aN a)).2.2
    rw [show aN a + (12 - aN a) = 12 by omega] at this
    rw [← this]; exact hG_hB a 12 (Nat.le_refl 12)
  unfold f_X5_greatest f_X6_greatest
  simp only [bnd_eta]
  rw [X0_up hw hc, Option.bind_some, X6_findHeaps hw hm, Option.bind_some, (hM_6 a N _).2, e]
  by_cases q : ms (onA a) 12 = 0
  · have z : hB a 12 = 0 := by
      have : ∀ k, k ≤ 12 → hB a k = 0 := by
        intro k
        induction k with
        | zero => intro _; rfl
        | succ k ih =>
          intro hk
          rw [hB, if_neg, ih (by omega)]
          intro o
          have : (ms (onA a) 12).testBit k = true := by rw [tb_ms, o]; simp; omega
          rw [q] at this
          simp at this
      exact this 12 (Nat.le_refl 12)
    rw [q, z, if_pos (by decide), if_pos (by decide)]
    exact same_find (h.hm hw hc hm _) 3 (by decide) (by decide)
  · have z : 0 < hB a 12 := by
      refine Classical.byContradiction fun y => q ?_
      refine Nat.eq_of_testBit_eq fun i => ?_
      rw [tb_ms, Nat.zero_testBit]
      by_cases hi : i < 12
      · cases o : onA a i with
        | true => exact absurd (hB_pos a hi o) y
        | false => simp
      · simp [hi]
    rw [if_neg (nI_ne0 (by omega) (by omega)), if_neg (nI_ne0 (by omega) (by omega)), X3_look hw hc, Option.bind_some, great_C hc]
    exact same_rd ((h.hm hw hc hm _).look hw hc (hm.of (hM_37 a N _))) _
end HEAPS
