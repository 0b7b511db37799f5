/-! PURE: take -/
theorem lp_inv {σ ε : Type} {f : σ → Option (σ ⊕ ε)} (P : Nat → σ → Prop) (Q : ε → Prop) (n : Nat) {F : Nat} (hs : ∀ k, k < n → ∀ s, P k s → ∃ t, f s = some (.inl t) ∧ P (k + 1) t) (he : ∀ s, P n s → ∃ r, f s = some (.inr r) ∧ Q r) (hF : n < F) {s0 : σ} (h0 : P 0 s0) : ∃ r, lp f F s0 = some r ∧ Q r := by
  have h : ∀ d k F s, k + d = n → d < F → P k s → ∃ r, lp f F s = some r ∧ Q r := by
    intro d
    induction d with
    | zero =>
      intro k F s hk hF hp
      obtain ⟨F, rfl⟩ : ∃ G, F = G + 1 := ⟨F - 1, by omega⟩
      have hk : k = n := by omega
      subst hk
      obtain ⟨r, h1, h2⟩ := he s hp
      exact ⟨r, lp_end h1, h2⟩
    | succ d ih =>
      intro k F s hk hF hp
      obtain ⟨F, rfl⟩ : ∃ G, F = G + 1 := ⟨F - 1, by omega⟩
      obtain ⟨t, h1, h2⟩ := hs k (by omega) s hp
      obtain ⟨r, h3, h4⟩ := ih (k + 1) F t (by omega) (by omega) h2
      exact ⟨r, by rw [lp_step h1]; exact h3, h4⟩
  exact h n 0 F s0 (by omega) hF h0
theorem ar_ext {a b : AR} (e1 : aN a = aN b) (e2 : aMv a = aMv b) (e3 : aPr a = aPr b) (e4 : aKd a = aKd b) (e5 : aPl a = aPl b) (e6 : aFc a = aFc b) (e7 : aSl a = aSl b) (e8 : aFe a = aFe b) : a = b := Prod.ext e1 (Prod.ext e2 (Prod.ext e3 (Prod.ext e4 (Prod.ext e5 (Prod.ext e6 (Prod.ext e7 e8))))))
section TAKES
variable {M N : Mem} {a : AR}
/-- as NO, and the row aside stays too -/
def NQ (N N2 : Mem) : Prop := NO N N2 ∧ ∀ j, gI N2 40 j = gI N 40 j
theorem nq37 {N N2 : Mem} (h : NQ N N2) {i : Nat} {v : Int32} : NQ N (sI N2 37 i v) := ⟨no37 h.1, fun j => by rw [gI_sI, if_neg (by omega)]; exact h.2 j⟩
theorem NQ.rf (N : Mem) : NQ N N := ⟨NO.rf N, fun _ => rfl⟩
theorem NQ.tr {N N2 N3 : Mem} (h : NQ N N2) (h2 : NQ N2 N3) : NQ N N3 := ⟨h.1.tr h2.1, fun j => (h2.2 j).trans (h.2 j)⟩
def tk (a : AR) (c f j k : Nat) : AR := (aN a, aMv a, aPr a, aKd a, fun i => if i < j ∧ c.testBit i = true then none else aPl a i, aFc a, fun i => if i < k ∧ f.testBit i = true then 0 else aSl a i, aFe a)
theorem tk_n (a : AR) (c f j k : Nat) : aN (tk a c f j k) = aN a := rfl
theorem tk_0 (a : AR) (c f : Nat) : tk a c f 0 0 = a := by
  refine ar_ext rfl rfl rfl rfl (funext fun i => ?_) rfl (funext fun i => ?_) rfl
  · show (if i < 0 ∧ c.testBit i = true then none else aPl a i) = _
    exact if_neg (fun z => absurd z.1 (Nat.not_lt_zero _))
  · show (if i < 0 ∧ f.testBit i = true then 0 else aSl a i) = _
    exact if_neg (fun z => absurd z.1 (Nat.not_lt_zero _))
theorem tk_S (a : AR) (c f j k : Nat) : tk a c f j (k + 1) = if f.testBit k = true then uSl (tk a c f j k) k 0 else tk a c f j k := by
  by_cases q : f.testBit k = true
  · rw [if_pos q]
    refine ar_ext rfl rfl rfl rfl rfl rfl (funext fun i => ?_) rfl
    show (if i < k + 1 ∧ f.testBit i = true then 0 else aSl a i) = if i = k then 0 else if i < k ∧ f.testBit i = true then 0 else aSl a i
    by_cases e : i = k
    · subst e; rw [if_pos ⟨by omega, q⟩, if_pos rfl]
    · rw [if_neg e]
      exact if_c ⟨fun z => ⟨by omega, z.2⟩, fun z => ⟨by omega, z.2⟩⟩ _ _
  · rw [if_neg q]
    refine ar_ext rfl rfl rfl rfl rfl rfl (funext fun i => ?_) rfl
    refine if_c ⟨fun z => ⟨?_, z.2⟩, fun z => ⟨by omega, z.2⟩⟩ _ _
    have : i ≠ k := fun e => q (e ▸ z.2)
    omega
theorem tk_P (a : AR) (c f j k : Nat) : tk a c f (j + 1) k = if c.testBit j = true then uPl (tk a c f j k) j none else tk a c f j k := by
  by_cases q : c.testBit j = true
  · rw [if_pos q]
    refine ar_ext rfl rfl rfl rfl (funext fun i => ?_) rfl rfl rfl
    show (if i < j + 1 ∧ c.testBit i = true then none else aPl a i) = if i = j then none else if i < j ∧ c.testBit i = true then none else aPl a i
    by_cases e : i = j
    · subst e; rw [if_pos ⟨by omega, q⟩, if_pos rfl]
    · rw [if_neg e]
      exact if_c ⟨fun z => ⟨by omega, z.2⟩, fun z => ⟨by omega, z.2⟩⟩ _ _
  · rw [if_neg q]
    refine ar_ext rfl rfl rfl rfl (funext fun i => ?_) rfl rfl rfl
    refine if_c ⟨fun z => ⟨?_, z.2⟩, fun z => ⟨by omega, z.2⟩⟩ _ _
    have : i ≠ j := fun e => q (e ▸ z.2)
    omega
theorem W_tk (hw : WF a) (c f : Nat) : ∀ j k, k ≤ aN a → WF (tk a c f j k) := by
  intro j
  induction j with
  | zero =>
    intro k
    induction k with
    | zero => intro _; rw [tk_0]; exact hw
    | succ k ih =>
      intro hk
      rw [tk_S]
      split
      · exact W_uSl (ih (by omega)) (show k < aN a by omega) (by decide)
      · exact ih (by omega)
  | succ j ih =>
    intro k hk
    rw [tk_P]
    split
    · exact W_out (ih k hk)
    · exact ih k hk
theorem uPl_none {a : AR} {k : Nat} (e : aPl a k = none) : uPl a k none = a := by
  refine ar_ext rfl rfl rfl rfl (funext fun i => ?_) rfl rfl rfl
  show (if i = k then none else aPl a i) = aPl a i
  by_cases q : i = k
  · rw [if_pos q, q, e]
  · rw [if_neg q]
theorem putOut_any (hw : WF a) (hc : CR M 1 a) {h : Nat} (hh : h < 12) : ∃ M2, f_X0_putOut (nI h) M = some M2 ∧ CR M2 1 (uPl a h none) ∧ CO M M2 := by
  cases e : aPl a h with
  | none =>
    refine ⟨_, X0_putOut_off hw hc hh e, ?_, (CO.rf M).sI (by decide)⟩
    rw [uPl_none e, sI_same M (show gI M 3 h = -1 by rw [C_pl hc hh, e]; rfl)]
    exact hc
  | some q => exact ⟨_, X0_putOut_on hw hc e, C_off hc hw e, ((CO.rf M).sI (by decide)).sI (by decide)⟩
theorem X0_strip (hw : WF a) (hc : CR M 1 a) (c : Nat) {f : Nat} (hf : f < 4096) : ∃ M2, f_X0_strip (nI f) M = some M2 ∧ CR M2 1 (tk a c f 0 (aN a)) ∧ CO M M2 := by
  have hn := hw.1
  have := lp_inv (f := f_X0_strip_L2 (nI f)) (fun k (s : Int32 × Mem) => s.1 = nI k ∧ CR s.2 1 (tk a c f 0 k) ∧ CO M s.2) (fun M2 => CR M2 1 (tk a c f 0 (aN a)) ∧ CO M M2) (aN a) (F := FU) ?_ ?_ (by rw [FU_v]; omega) (s0 := (0, M)) ⟨rfl, by rw [tk_0]; exact hc, CO.rf M⟩
  · obtain ⟨r, h1, h2⟩ := this
    exact ⟨r, by unfold f_X0_strip; rw [h1]; rfl, h2⟩
  · rintro k hk ⟨i, M2⟩ ⟨rfl, h1, h2⟩
    dsimp only at h1 h2
    unfold f_X0_strip_L2
    dsimp only
    rw [h1.1, tk_n, if_neg (nI_ge (show k < aN a from hk) (show aN a < _ by omega)), X5_contains (by omega) (by omega)]
    simp only [Option.bind_some, b2_0, bn_e, nI_1]
    rw [tk_S]
    by_cases q : f.testBit k = true
    · rw [if_neg (not_not_intro q), if_pos q, if_pos (inR_nI (show k < 12 by omega) (by decide)), cl_nI (by omega)]
      exact ⟨_, rfl, rfl, C_uSl h1 k 0, h2.sI (by decide)⟩
    · rw [if_pos q, if_neg q]
      exact ⟨_, rfl, rfl, h1, h2⟩
  · rintro ⟨i, M2⟩ ⟨rfl, h1, h2⟩
    dsimp only at h1 h2
    unfold f_X0_strip_L2
    dsimp only
    rw [h1.1, tk_n, if_pos (nI_le (Nat.le_refl _) (show aN a < _ by omega))]
    exact ⟨_, rfl, h1, h2⟩
theorem take_out (hw : WF a) {c f : Nat} (h4 : c < 4096) (hc : CR M 1 (tk a c f 0 (aN a))) : ∃ M2, lp (f_X5_take_L60 (nI c)) FU (0, M) = some M2 ∧ CR M2 1 (tk a c f (aN a) (aN a)) ∧ CO M M2 := by
  have hn := hw.1
  have := lp_inv (f := f_X5_take_L60 (nI c)) (fun k (s : Int32 × Mem) => s.1 = nI k ∧ CR s.2 1 (tk a c f k (aN a)) ∧ CO M s.2) (fun M2 => CR M2 1 (tk a c f (aN a) (aN a)) ∧ CO M M2) (aN a) (F := FU) ?_ ?_ (by rw [FU_v]; omega) (s0 := (0, M)) ⟨rfl, hc, CO.rf M⟩
  · exact this
  · rintro k hk ⟨i, M2⟩ ⟨rfl, h1, h2⟩
    dsimp only at h1 h2
    unfold f_X5_take_L60
    dsimp only
    rw [h1.1, tk_n, if_neg (nI_ge (show k < aN a from hk) (show aN a < _ by omega)), X5_contains (by omega) (by omega)]
    simp only [Option.bind_some, b2_0, nI_1]
    rw [tk_P]
    by_cases q : c.testBit k = true
    · obtain ⟨M3, e1, e2, e3⟩ := putOut_any (W_tk hw c f k (aN a) (Nat.le_refl _)) h1 (show k < 12 by omega)
      rw [if_neg (not_not_intro q), if_pos q, e1]
      exact ⟨_, rfl, rfl, e2, h2.tr e3⟩
    · rw [if_pos q, if_neg q]
      exact ⟨_, rfl, rfl, h1, h2⟩
  · rintro ⟨i, M2⟩ ⟨rfl, h1, h2⟩
    dsimp only at h1 h2
    unfold f_X5_take_L60
    dsimp only
    rw [h1.1, tk_n, if_pos (nI_le (Nat.le_refl _) (show aN a < _ by omega))]
    exact ⟨_, rfl, h1, h2⟩
theorem X6_takes_lp (hw : WF a) (hm : MR N 37 a) {c f : Nat} (h4 : c < 4096) (hf : f < 4096) : ∃ N2, lp (f_X6_takes_L18 (nI c) (nI f)) FU (0, N) = some N2 ∧ MR N2 37 (tk a c f (aN a) (aN a)) ∧ NQ N N2 := by
  have hn := hw.1
  have := lp_inv (f := f_X6_takes_L18 (nI c) (nI f)) (fun k (s : Int32 × Mem) => s.1 = nI k ∧ MR s.2 37 (tk a c f k k) ∧ NQ N s.2) (fun N2 => MR N2 37 (tk a c f (aN a) (aN a)) ∧ NQ N N2) (aN a) (F := FU) ?_ ?_ (by rw [FU_v]; omega) (s0 := (0, N)) ⟨rfl, by rw [tk_0]; exact hm, NQ.rf N⟩
  · exact this
  · rintro k hk ⟨i, N2⟩ ⟨rfl, h1, h2⟩
    dsimp only at h1 h2
    unfold f_X6_takes_L18
    dsimp only
    have hw1 := W_tk hw c f k k (by omega)
    rw [h1.1, tk_n, if_neg (nI_ge (show k < aN a from hk) (show aN a < _ by omega)), X6_sp1, X6_sp3, N_pl hw1 h1 (show k < aN a from hk), bit_at (by omega) (by omega), bit_at (by omega) (by omega)]
    simp only [Option.bind_some, b2_1, bn_e, nI_1, if_pos (inR_nI (show 3 + 5 * k + 1 < 63 by omega) (show 63 < 2147483648 by decide)), if_pos (inR_nI (show 3 + 5 * k + 3 < 63 by omega) (show 63 < 2147483648 by decide)), cl_nI (show 3 + 5 * k + 1 < 2147483648 by omega), cl_nI (show 3 + 5 * k + 3 < 2147483648 by omega)]
    have e1 : (if c.testBit k = true then some (-1 : Int32) else some (pv (aPl (tk a c f k k) k))) = some (pv (aPl (tk a c f (k + 1) k) k)) := by
      rw [tk_P]
      by_cases q : c.testBit k = true
      · rw [if_pos q, if_pos q]
        have : aPl (uPl (tk a c f k k) k none) k = none := if_pos rfl
        rw [this]; rfl
      · rw [if_neg q, if_neg q]
    rw [e1]
    simp only [Option.bind_some]
    have h5 : MR (sI N2 37 (3 + 5 * k + 1) (pv (aPl (tk a c f (k + 1) k) k))) 37 (tk a c f (k + 1) k) := by
      rw [tk_P]
      by_cases q : c.testBit k = true
      · rw [if_pos q]
        have : aPl (uPl (tk a c f k k) k none) k = none := if_pos rfl
        rw [this]
        exact M_uPl h1 k none
      · rw [if_neg q, sI_same]
        · exact h1
        · exact (h1.2.2.2 k hk).2.1
    have hw2 := W_tk hw c f (k + 1) k (by omega)
    rw [N_sl hw2 h5 (show k < aN a from hk)]
    have e2 : (if f.testBit k = true then some (0 : Int32) else some (nI (aSl (tk a c f (k + 1) k) k))) = some (nI (aSl (tk a c f (k + 1) (k + 1)) k)) := by
      rw [tk_S]
      by_cases q : f.testBit k = true
      · rw [if_pos q, if_pos q]
        have : aSl (uSl (tk a c f (k + 1) k) k 0) k = 0 := if_pos rfl
        rw [this]; rfl
      · rw [if_neg q, if_neg q]
    simp only [Option.bind_some]
    rw [e2]
    simp only [Option.bind_some]
    refine ⟨_, rfl, rfl, ?_, nq37 (nq37 h2)⟩
    dsimp only
    rw [tk_S]
    by_cases q : f.testBit k = true
    · rw [if_pos q]
      have : aSl (uSl (tk a c f (k + 1) k) k 0) k = 0 := if_pos rfl
      rw [this]
      exact M_uSl h5 k 0
    · rw [if_neg q, sI_same]
      · exact h5
      · exact (h5.2.2.2 k hk).2.2.2.1
  · rintro ⟨i, N2⟩ ⟨rfl, h1, h2⟩
    dsimp only at h1 h2
    unfold f_X6_takes_L18
    dsimp only
    rw [h1.1, tk_n, if_pos (nI_le (Nat.le_refl _) (show aN a < _ by omega))]
    exact ⟨_, rfl, h1, h2⟩
/-- the rail after h was taken by manner m -/
def tA (a : AR) (h m : Nat) : AR := uMv (tk a (cm a h m) (fa a (cm a h m) h m) (aN a) (aN a)) (min (aMv a + 1) 9999)
theorem W_tA (hw : WF a) (h m : Nat) : WF (tA a h m) := W_uMv (W_tk hw _ _ _ _ (Nat.le_refl _)) (Nat.min_le_right _ _)
theorem X6_takes (hw : WF a) (hm : MR N 37 a) {h m : Nat} (hh : h < aN a) (h3 : m < 3) : ∃ N2, f_X6_takes (nI h) (nI m) N = some (nI (cm a h m), N2) ∧ MR N2 37 (tA a h m) ∧ NQ N N2 := by
  have hn := hw.1
  unfold f_X6_takes
  obtain ⟨N2, e1, e2, e3⟩ := X6_takes_lp hw hm (cm_lt a (show h < 12 by omega) m) (fa_lt hw (cm a h m) h m)
  rw [X6_comesBy hw hm hh h3, Option.bind_some, X6_fallers hw hm hh h3, Option.bind_some, e1, Option.bind_some, X6_moved e2.2.1 hw.2.1]
  exact ⟨_, rfl, M_uMv e2 _, nq37 e3⟩
theorem p_take (h : Rel M N) (x y : Int32) : Same (f_X5_take x y M) (f_X6_take x y N) := by
  obtain ⟨a, hw, hc, hm⟩ := h.1
  have hn := hw.1
  unfold f_X5_take f_X6_take
  simp only [bnd_eta]
  by_cases q : IX x (aN a) ∧ IX y 3
  · obtain ⟨k, hk, rfl⟩ := ix_of q.1 (by omega)
    obtain ⟨m, h3, rfl⟩ := ix_of q.2 (by omega)
    rw [C_taking hw hc hk h3, N_taking hw hm hk h3]
    by_cases e : mt a k m = true
    · have hL := C_lkm hc 12
      obtain ⟨N2, n1, n2, n3⟩ := X6_takes hw hm hk h3
      obtain ⟨M2, m1, m2, m3⟩ := X0_strip hw hL (cm a k m) (fa_lt hw (cm a k m) k m)
      obtain ⟨M3, l1, l2, l3⟩ := take_out hw (cm_lt a (show k < 12 by omega) m) m2
      rw [if_pos e]
      simp only [Option.bind_some]
      rw [if_pos trivial, if_pos trivial, X3_look hw hc, Option.bind_some, X3_coming (by omega) h3, Option.bind_some, X0_falling hw hL (cm_lt a (by omega) m) (by omega) h3, Option.bind_some, m1, Option.bind_some, l1, Option.bind_some, X0_addMove l2.2.1 hw.2.1, n1]
      exact ⟨_, _, _, rfl, rfl, h.rail (tA a k m) (W_tA hw k m) (C_uMv l2 _) n2 (((CO_lkm a M 12).tr (m3.tr l3)).sI (by decide)) n3.1⟩
    · rw [if_neg e]
      simp only [Option.bind_some]
      rw [if_neg (by decide), if_neg (by decide)]
      exact same_find h 4 (by decide) (by decide)
  · rw [C_taking_no hw hc q, N_taking_no hw hm q]
    simp only [Option.bind_some]
    rw [if_neg (by decide), if_neg (by decide)]
    exact same_find h 0 (by decide) (by decide)
end TAKES
