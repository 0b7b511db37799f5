/-! more rows: loops with several ends, switches, calls by the kind of their answer, texts -/
def FU : Nat := 8192
theorem qMath_max : lw_tbl[381]? = some (.code Lib.Math.max.name Lib.Math.max.code 2 (some .int)) := by decide +kernel
theorem qMath_min : lw_tbl[331]? = some (.code Lib.Math.min.name Lib.Math.min.code 2 (some .int)) := by decide +kernel
theorem qMath_abs : lw_tbl[384]? = some (.code Lib.Math.abs.name Lib.Math.abs.code 1 (some .int)) := by decide +kernel
section SIM4
variable {p : Program} {l : Launch} {e : Env} {R : Room} {s : State} {m : MethodId} {args : Array Value} {below : List Frame} {meth : Method} {c : Code} {w : Wx} {lo hi : Nat} {O : Mem} {nL : Nat} {A : Nat → Prop} {cs sl : Nat} {Q : State → Prop} {ρ α β σ ε : Type} {r0 : ρ} {cc : ByteArray} {own : String} {ret : Option FieldType} {D pc : Nat} {lv : List (Option Value)} {st : List Value} {M : Mem} {X : Option α} {K : α → Option ρ}

theorem s_loopG {step : σ → Option (σ ⊕ ε)} {n : Nat} {s0 : σ} {k : ε → Option α} (lvf : σ → List (Option Value)) (Mf : σ → Mem) (ex : ε → Nat × List (Option Value) × Mem) (rest : ∀ x, Sim p l e R s m args below meth c w lo hi O nL A cs sl Q r0 (ex x).1 (ex x).2.1 st (ex x).2.2 (k x) K) (body : ∀ (z : σ) (K2 : σ ⊕ ε → Option ρ), (∀ z2, K2 (.inl z2) = some r0 → AtP p l e R s m args below meth c w lo hi O nL A cs sl Q pc (lvf z2) st (Mf z2)) → (∀ x, K2 (.inr x) = some r0 → AtP p l e R s m args below meth c w lo hi O nL A cs sl Q (ex x).1 (ex x).2.1 st (ex x).2.2) → Sim p l e R s m args below meth c w lo hi O nL A cs sl Q r0 pc (lvf z) st (Mf z) (step z) K2) : Sim p l e R s m args below meth c w lo hi O nL A cs sl Q r0 pc (lvf s0) st (Mf s0) (Option.bind (lp step n s0) k) K := by
  intro hx
  rw [Option.bind_assoc] at hx
  exact lp_at (P := fun z => AtP p l e R s m args below meth c w lo hi O nL A cs sl Q pc (lvf z) st (Mf z)) (fun z K2 h1 h2 h3 => body z K2 h1 (fun x hk => rest x (h2 x hk)) h3) n s0 hx
theorem el_one {k : ε → Option α} (px : Nat) (lve : ε → List (Option Value)) (Me : ε → Mem) (h : ∀ x, Sim p l e R s m args below meth c w lo hi O nL A cs sl Q r0 px (lve x) st (Me x) (k x) K) : ∀ x, Sim p l e R s m args below meth c w lo hi O nL A cs sl Q r0 ((fun x => (px, lve x, Me x) : ε → Nat × List (Option Value) × Mem) x).1 ((fun x => (px, lve x, Me x) : ε → Nat × List (Option Value) × Mem) x).2.1 st ((fun x => (px, lve x, Me x) : ε → Nat × List (Option Value) × Mem) x).2.2 (k x) K := h
theorem el_all {ε2 : Type} {k : ε → Option α} {k2 : ε2 → Option α} {e2 : ε2 → Nat × List (Option Value) × Mem} (px : Nat) (lve : ε → List (Option Value)) (Me : ε → Mem) (h : ∀ x, Sim p l e R s m args below meth c w lo hi O nL A cs sl Q r0 px (lve x) st (Me x) (k x) K) (h2 : ∀ x, Sim p l e R s m args below meth c w lo hi O nL A cs sl Q r0 (e2 x).1 (e2 x).2.1 st (e2 x).2.2 (k2 x) K) : ∀ x, Sim p l e R s m args below meth c w lo hi O nL A cs sl Q r0 (el (fun x => (px, lve x, Me x)) e2 x).1 (el (fun x => (px, lve x, Me x)) e2 x).2.1 st (el (fun x => (px, lve x, Me x)) e2 x).2.2 (el k k2 x) K
  | .inl x => h x
  | .inr x => h2 x
theorem s_tabIn (G : Ok p s m args meth c w cc nL own ret hi R A cs sl D) {x v : Int32} {dflt lo9 hi9 : Int} {offs : Array Int} {len : Nat} {off : Int} {tgt : Nat} {X1 X2 : Option α} [DD : Decidable (x = v)] (hd : decode cc pc = .ok (.tableswitch dflt lo9 hi9 offs, len)) (h1 : ¬ v.toInt < lo9) (h2 : ¬ hi9 < v.toInt) (ho : offs[(v.toInt - lo9).toNat]? = some off) (ht : (pc : Int) + off = (tgt : Int)) (k1 : Sim p l e R s m args below meth c w lo hi O nL A cs sl Q r0 tgt lv st M X1 K) (k2 : ¬ x = v → Sim p l e R s m args below meth c w lo hi O nL A cs sl Q r0 pc lv (.int x :: st) M X2 K) : Sim p l e R s m args below meth c w lo hi O nL A cs sl Q r0 pc lv (.int x :: st) M (if x = v then X1 else X2) K := by
  intro hx
  by_cases h : x = v
  · rw [if_pos h] at hx
    subst h
    intro H locs ls hl hP hS
    exact lv_tableIn G.1 G.2.1 hd h1 h2 ho ht (k1 hx H locs ls hl hP hS)
  · rw [if_neg h] at hx
    exact k2 h hx
theorem s_tabOut (G : Ok p s m args meth c w cc nL own ret hi R A cs sl D) {x : Int32} {dflt lo9 hi9 : Int} {offs : Array Int} {len : Nat} {tgt : Nat} (hd : decode cc pc = .ok (.tableswitch dflt lo9 hi9 offs, len)) (h : x.toInt < lo9 ∨ hi9 < x.toInt) (ht : (pc : Int) + dflt = (tgt : Int)) (k : Sim p l e R s m args below meth c w lo hi O nL A cs sl Q r0 tgt lv st M X K) : Sim p l e R s m args below meth c w lo hi O nL A cs sl Q r0 pc lv (.int x :: st) M X K := fun hx H locs ls hl hP hS => lv_tableOut G.1 G.2.1 hd h ht (k hx H locs ls hl hP hS)
theorem s_callVi (G : Ok p s m args meth c w cc nL own ret hi R A cs sl D) (hAw : ∀ q, A q → q < s.heap.size → Aw w q) {μ : Md} {n d k ci N index i1 : Nat} {fs : (Nat → Int32) → List Value} {C : String} {T : u_T} {ty : Nat → FieldType} {as st0 : List Value} {y : Option Int32} {f : Int32 → Option α} (hm : MdV μ n) (hC : ∀ z, y = some z → Ct w lo hi O l d μ (.ref (w.1 k) :: as) M (some (.int z), M)) (hr : lo ≤ k ∧ k < hi) (hce : ∀ f g, ce w k f g = .inr (ci, fs f)) (cl : ClOk ci C T N ty) (hcl : μ.1.cls = C) (q1 : lw_tbl[i1]? = some (.methodLink own index μ.1)) (hn : as.length = n) (hst : st0 = as.reverse ++ .ref (w.1 k) :: st) (hw : (st.map fun v => v.category).sum ≤ 8) (hdD : d < D) (hd : decode cc pc = .ok (.invokevirtual index, 3)) (kk : ∀ z, Sim p l e R s m args below meth c w lo hi O nL A cs sl Q r0 (pc + 3) lv (.int z :: st) M (f z) K) : Sim p l e R s m args below meth c w lo hi O nL A cs sl Q r0 pc lv st0 M (Option.bind y f) K := s_callV G hAw (fun z => some (.int z)) (fun _ => M) hm hC hr hce cl hcl q1 hn hst hw hdD hd kk
theorem s_callSi (G : Ok p s m args meth c w cc nL own ret hi R A cs sl D) (hAw : ∀ q, A q → q < s.heap.size → Aw w q) {μ : Md} {n d index : Nat} {as st0 : List Value} {y : Option Int32} {f : Int32 → Option α} (hm : MdS μ n) (hC : ∀ z, y = some z → Ct w lo hi O l d μ as M (some (.int z), M)) {i1 : Nat} (q1 : lw_tbl[i1]? = some (.methodLink own index μ.1)) (hn : as.length = n) (hst : st0 = as.reverse ++ st) (hw : (st.map fun v => v.category).sum ≤ 8) (hdD : d < D) (hd : decode cc pc = .ok (.invokestatic index, 3)) (kk : ∀ z, Sim p l e R s m args below meth c w lo hi O nL A cs sl Q r0 (pc + 3) lv (.int z :: st) M (f z) K) : Sim p l e R s m args below meth c w lo hi O nL A cs sl Q r0 pc lv st0 M (Option.bind y f) K := s_callS G hAw (fun z => some (.int z)) (fun _ => M) hm hC q1 hn hst hw hdD hd kk
theorem s_callSNi (G : Ok p s m args meth c w cc nL own ret hi R A cs sl D) (hAw : ∀ q, A q → q < s.heap.size → Aw w q) {μ : Md} {n d index : Nat} {as st0 : List Value} {y : Option Int32} {f : Int32 → Option α} (hm : MdS μ n) (hC : ∀ z, y = some z → Ct w lo hi O l d μ as M (some (.int z), M)) (hnw : (own, index, μ.1) ∈ nwL) (hn : as.length = n) (hst : st0 = as.reverse ++ st) (hw : (st.map fun v => v.category).sum ≤ 8) (hdD : d < D) (hd : decode cc pc = .ok (.invokestatic index, 3)) (kk : ∀ z, Sim p l e R s m args below meth c w lo hi O nL A cs sl Q r0 (pc + 3) lv (.int z :: st) M (f z) K) : Sim p l e R s m args below meth c w lo hi O nL A cs sl Q r0 pc lv st0 M (Option.bind y f) K := s_callSN G hAw (fun z => some (.int z)) (fun _ => M) hm hC hnw hn hst hw hdD hd kk
theorem s_callVl (G : Ok p s m args meth c w cc nL own ret hi R A cs sl D) (hAw : ∀ q, A q → q < s.heap.size → Aw w q) {μ : Md} {n d k ci N index i1 : Nat} {fs : (Nat → Int32) → List Value} {C : String} {T : u_T} {ty : Nat → FieldType} {as st0 : List Value} {y : Option Int64} {f : Int64 → Option α} (hm : MdV μ n) (hC : ∀ z, y = some z → Ct w lo hi O l d μ (.ref (w.1 k) :: as) M (some (.long z), M)) (hr : lo ≤ k ∧ k < hi) (hce : ∀ f g, ce w k f g = .inr (ci, fs f)) (cl : ClOk ci C T N ty) (hcl : μ.1.cls = C) (q1 : lw_tbl[i1]? = some (.methodLink own index μ.1)) (hn : as.length = n) (hst : st0 = as.reverse ++ .ref (w.1 k) :: st) (hw : (st.map fun v => v.category).sum ≤ 8) (hdD : d < D) (hd : decode cc pc = .ok (.invokevirtual index, 3)) (kk : ∀ z, Sim p l e R s m args below meth c w lo hi O nL A cs sl Q r0 (pc + 3) lv (.long z :: st) M (f z) K) : Sim p l e R s m args below meth c w lo hi O nL A cs sl Q r0 pc lv st0 M (Option.bind y f) K := s_callV G hAw (fun z => some (.long z)) (fun _ => M) hm hC hr hce cl hcl q1 hn hst hw hdD hd kk
theorem s_callSl (G : Ok p s m args meth c w cc nL own ret hi R A cs sl D) (hAw : ∀ q, A q → q < s.heap.size → Aw w q) {μ : Md} {n d index : Nat} {as st0 : List Value} {y : Option Int64} {f : Int64 → Option α} (hm : MdS μ n) (hC : ∀ z, y = some z → Ct w lo hi O l d μ as M (some (.long z), M)) {i1 : Nat} (q1 : lw_tbl[i1]? = some (.methodLink own index μ.1)) (hn : as.length = n) (hst : st0 = as.reverse ++ st) (hw : (st.map fun v => v.category).sum ≤ 8) (hdD : d < D) (hd : decode cc pc = .ok (.invokestatic index, 3)) (kk : ∀ z, Sim p l e R s m args below meth c w lo hi O nL A cs sl Q r0 (pc + 3) lv (.long z :: st) M (f z) K) : Sim p l e R s m args below meth c w lo hi O nL A cs sl Q r0 pc lv st0 M (Option.bind y f) K := s_callS G hAw (fun z => some (.long z)) (fun _ => M) hm hC q1 hn hst hw hdD hd kk
theorem s_callSNl (G : Ok p s m args meth c w cc nL own ret hi R A cs sl D) (hAw : ∀ q, A q → q < s.heap.size → Aw w q) {μ : Md} {n d index : Nat} {as st0 : List Value} {y : Option Int64} {f : Int64 → Option α} (hm : MdS μ n) (hC : ∀ z, y = some z → Ct w lo hi O l d μ as M (some (.long z), M)) (hnw : (own, index, μ.1) ∈ nwL) (hn : as.length = n) (hst : st0 = as.reverse ++ st) (hw : (st.map fun v => v.category).sum ≤ 8) (hdD : d < D) (hd : decode cc pc = .ok (.invokestatic index, 3)) (kk : ∀ z, Sim p l e R s m args below meth c w lo hi O nL A cs sl Q r0 (pc + 3) lv (.long z :: st) M (f z) K) : Sim p l e R s m args below meth c w lo hi O nL A cs sl Q r0 pc lv st0 M (Option.bind y f) K := s_callSN G hAw (fun z => some (.long z)) (fun _ => M) hm hC hnw hn hst hw hdD hd kk
theorem s_callVs (G : Ok p s m args meth c w cc nL own ret hi R A cs sl D) (hAw : ∀ q, A q → q < s.heap.size → Aw w q) {μ : Md} {n d k ci N index i1 : Nat} {fs : (Nat → Int32) → List Value} {C : String} {T : u_T} {ty : Nat → FieldType} {as st0 : List Value} {y : Option Nat} {f : Nat → Option α} (hm : MdV μ n) (hC : ∀ z, y = some z → Ct w lo hi O l d μ (.ref (w.1 k) :: as) M (some (.ref (w.2.2.2.1 z)), M)) (hr : lo ≤ k ∧ k < hi) (hce : ∀ f g, ce w k f g = .inr (ci, fs f)) (cl : ClOk ci C T N ty) (hcl : μ.1.cls = C) (q1 : lw_tbl[i1]? = some (.methodLink own index μ.1)) (hn : as.length = n) (hst : st0 = as.reverse ++ .ref (w.1 k) :: st) (hw : (st.map fun v => v.category).sum ≤ 8) (hdD : d < D) (hd : decode cc pc = .ok (.invokevirtual index, 3)) (kk : ∀ z, Sim p l e R s m args below meth c w lo hi O nL A cs sl Q r0 (pc + 3) lv (.ref (w.2.2.2.1 z) :: st) M (f z) K) : Sim p l e R s m args below meth c w lo hi O nL A cs sl Q r0 pc lv st0 M (Option.bind y f) K := s_callV G hAw (fun z => some (.ref (w.2.2.2.1 z))) (fun _ => M) hm hC hr hce cl hcl q1 hn hst hw hdD hd kk
theorem s_callSs (G : Ok p s m args meth c w cc nL own ret hi R A cs sl D) (hAw : ∀ q, A q → q < s.heap.size → Aw w q) {μ : Md} {n d index : Nat} {as st0 : List Value} {y : Option Nat} {f : Nat → Option α} (hm : MdS μ n) (hC : ∀ z, y = some z → Ct w lo hi O l d μ as M (some (.ref (w.2.2.2.1 z)), M)) {i1 : Nat} (q1 : lw_tbl[i1]? = some (.methodLink own index μ.1)) (hn : as.length = n) (hst : st0 = as.reverse ++ st) (hw : (st.map fun v => v.category).sum ≤ 8) (hdD : d < D) (hd : decode cc pc = .ok (.invokestatic index, 3)) (kk : ∀ z, Sim p l e R s m args below meth c w lo hi O nL A cs sl Q r0 (pc + 3) lv (.ref (w.2.2.2.1 z) :: st) M (f z) K) : Sim p l e R s m args below meth c w lo hi O nL A cs sl Q r0 pc lv st0 M (Option.bind y f) K := s_callS G hAw (fun z => some (.ref (w.2.2.2.1 z))) (fun _ => M) hm hC q1 hn hst hw hdD hd kk
theorem s_callSNs (G : Ok p s m args meth c w cc nL own ret hi R A cs sl D) (hAw : ∀ q, A q → q < s.heap.size → Aw w q) {μ : Md} {n d index : Nat} {as st0 : List Value} {y : Option Nat} {f : Nat → Option α} (hm : MdS μ n) (hC : ∀ z, y = some z → Ct w lo hi O l d μ as M (some (.ref (w.2.2.2.1 z)), M)) (hnw : (own, index, μ.1) ∈ nwL) (hn : as.length = n) (hst : st0 = as.reverse ++ st) (hw : (st.map fun v => v.category).sum ≤ 8) (hdD : d < D) (hd : decode cc pc = .ok (.invokestatic index, 3)) (kk : ∀ z, Sim p l e R s m args below meth c w lo hi O nL A cs sl Q r0 (pc + 3) lv (.ref (w.2.2.2.1 z) :: st) M (f z) K) : Sim p l e R s m args below meth c w lo hi O nL A cs sl Q r0 pc lv st0 M (Option.bind y f) K := s_callSN G hAw (fun z => some (.ref (w.2.2.2.1 z))) (fun _ => M) hm hC hnw hn hst hw hdD hd kk
theorem s_callVI (G : Ok p s m args meth c w cc nL own ret hi R A cs sl D) (hAw : ∀ q, A q → q < s.heap.size → Aw w q) {μ : Md} {n d k ci N index i1 : Nat} {fs : (Nat → Int32) → List Value} {C : String} {T : u_T} {ty : Nat → FieldType} {as st0 : List Value} {y : Option (Int32 × Mem)} {f : (Int32 × Mem) → Option α} (hm : MdV μ n) (hC : ∀ z, y = some z → Ct w lo hi O l d μ (.ref (w.1 k) :: as) M (some (.int z.1), z.2)) (hr : lo ≤ k ∧ k < hi) (hce : ∀ f g, ce w k f g = .inr (ci, fs f)) (cl : ClOk ci C T N ty) (hcl : μ.1.cls = C) (q1 : lw_tbl[i1]? = some (.methodLink own index μ.1)) (hn : as.length = n) (hst : st0 = as.reverse ++ .ref (w.1 k) :: st) (hw : (st.map fun v => v.category).sum ≤ 8) (hdD : d < D) (hd : decode cc pc = .ok (.invokevirtual index, 3)) (kk : ∀ z, Sim p l e R s m args below meth c w lo hi O nL A cs sl Q r0 (pc + 3) lv (.int z.1 :: st) z.2 (f z) K) : Sim p l e R s m args below meth c w lo hi O nL A cs sl Q r0 pc lv st0 M (Option.bind y f) K := s_callV G hAw (fun z => some (.int z.1)) (fun z => z.2) hm hC hr hce cl hcl q1 hn hst hw hdD hd kk
theorem s_callSI (G : Ok p s m args meth c w cc nL own ret hi R A cs sl D) (hAw : ∀ q, A q → q < s.heap.size → Aw w q) {μ : Md} {n d index : Nat} {as st0 : List Value} {y : Option (Int32 × Mem)} {f : (Int32 × Mem) → Option α} (hm : MdS μ n) (hC : ∀ z, y = some z → Ct w lo hi O l d μ as M (some (.int z.1), z.2)) {i1 : Nat} (q1 : lw_tbl[i1]? = some (.methodLink own index μ.1)) (hn : as.length = n) (hst : st0 = as.reverse ++ st) (hw : (st.map fun v => v.category).sum ≤ 8) (hdD : d < D) (hd : decode cc pc = .ok (.invokestatic index, 3)) (kk : ∀ z, Sim p l e R s m args below meth c w lo hi O nL A cs sl Q r0 (pc + 3) lv (.int z.1 :: st) z.2 (f z) K) : Sim p l e R s m args below meth c w lo hi O nL A cs sl Q r0 pc lv st0 M (Option.bind y f) K := s_callS G hAw (fun z => some (.int z.1)) (fun z => z.2) hm hC q1 hn hst hw hdD hd kk
theorem s_callSNI (G : Ok p s m args meth c w cc nL own ret hi R A cs sl D) (hAw : ∀ q, A q → q < s.heap.size → Aw w q) {μ : Md} {n d index : Nat} {as st0 : List Value} {y : Option (Int32 × Mem)} {f : (Int32 × Mem) → Option α} (hm : MdS μ n) (hC : ∀ z, y = some z → Ct w lo hi O l d μ as M (some (.int z.1), z.2)) (hnw : (own, index, μ.1) ∈ nwL) (hn : as.length = n) (hst : st0 = as.reverse ++ st) (hw : (st.map fun v => v.category).sum ≤ 8) (hdD : d < D) (hd : decode cc pc = .ok (.invokestatic index, 3)) (kk : ∀ z, Sim p l e R s m args below meth c w lo hi O nL A cs sl Q r0 (pc + 3) lv (.int z.1 :: st) z.2 (f z) K) : Sim p l e R s m args below meth c w lo hi O nL A cs sl Q r0 pc lv st0 M (Option.bind y f) K := s_callSN G hAw (fun z => some (.int z.1)) (fun z => z.2) hm hC hnw hn hst hw hdD hd kk
theorem s_callVL (G : Ok p s m args meth c w cc nL own ret hi R A cs sl D) (hAw : ∀ q, A q → q < s.heap.size → Aw w q) {μ : Md} {n d k ci N index i1 : Nat} {fs : (Nat → Int32) → List Value} {C : String} {T : u_T} {ty : Nat → FieldType} {as st0 : List Value} {y : Option (Int64 × Mem)} {f : (Int64 × Mem) → Option α} (hm : MdV μ n) (hC : ∀ z, y = some z → Ct w lo hi O l d μ (.ref (w.1 k) :: as) M (some (.long z.1), z.2)) (hr : lo ≤ k ∧ k < hi) (hce : ∀ f g, ce w k f g = .inr (ci, fs f)) (cl : ClOk ci C T N ty) (hcl : μ.1.cls = C) (q1 : lw_tbl[i1]? = some (.methodLink own index μ.1)) (hn : as.length = n) (hst : st0 = as.reverse ++ .ref (w.1 k) :: st) (hw : (st.map fun v => v.category).sum ≤ 8) (hdD : d < D) (hd : decode cc pc = .ok (.invokevirtual index, 3)) (kk : ∀ z, Sim p l e R s m args below meth c w lo hi O nL A cs sl Q r0 (pc + 3) lv (.long z.1 :: st) z.2 (f z) K) : Sim p l e R s m args below meth c w lo hi O nL A cs sl Q r0 pc lv st0 M (Option.bind y f) K := s_callV G hAw (fun z => some (.long z.1)) (fun z => z.2) hm hC hr hce cl hcl q1 hn hst hw hdD hd kk
theorem s_callSL (G : Ok p s m args meth c w cc nL own ret hi R A cs sl D) (hAw : ∀ q, A q → q < s.heap.size → Aw w q) {μ : Md} {n d index : Nat} {as st0 : List Value} {y : Option (Int64 × Mem)} {f : (Int64 × Mem) → Option α} (hm : MdS μ n) (hC : ∀ z, y = some z → Ct w lo hi O l d μ as M (some (.long z.1), z.2)) {i1 : Nat} (q1 : lw_tbl[i1]? = some (.methodLink own index μ.1)) (hn : as.length = n) (hst : st0 = as.reverse ++ st) (hw : (st.map fun v => v.category).sum ≤ 8) (hdD : d < D) (hd : decode cc pc = .ok (.invokestatic index, 3)) (kk : ∀ z, Sim p l e R s m args below meth c w lo hi O nL A cs sl Q r0 (pc + 3) lv (.long z.1 :: st) z.2 (f z) K) : Sim p l e R s m args below meth c w lo hi O nL A cs sl Q r0 pc lv st0 M (Option.bind y f) K := s_callS G hAw (fun z => some (.long z.1)) (fun z => z.2) hm hC q1 hn hst hw hdD hd kk
theorem s_callSNL (G : Ok p s m args meth c w cc nL own ret hi R A cs sl D) (hAw : ∀ q, A q → q < s.heap.size → Aw w q) {μ : Md} {n d index : Nat} {as st0 : List Value} {y : Option (Int64 × Mem)} {f : (Int64 × Mem) → Option α} (hm : MdS μ n) (hC : ∀ z, y = some z → Ct w lo hi O l d μ as M (some (.long z.1), z.2)) (hnw : (own, index, μ.1) ∈ nwL) (hn : as.length = n) (hst : st0 = as.reverse ++ st) (hw : (st.map fun v => v.category).sum ≤ 8) (hdD : d < D) (hd : decode cc pc = .ok (.invokestatic index, 3)) (kk : ∀ z, Sim p l e R s m args below meth c w lo hi O nL A cs sl Q r0 (pc + 3) lv (.long z.1 :: st) z.2 (f z) K) : Sim p l e R s m args below meth c w lo hi O nL A cs sl Q r0 pc lv st0 M (Option.bind y f) K := s_callSN G hAw (fun z => some (.long z.1)) (fun z => z.2) hm hC hnw hn hst hw hdD hd kk
theorem s_callVv (G : Ok p s m args meth c w cc nL own ret hi R A cs sl D) (hAw : ∀ q, A q → q < s.heap.size → Aw w q) {μ : Md} {n d k ci N index i1 : Nat} {fs : (Nat → Int32) → List Value} {C : String} {T : u_T} {ty : Nat → FieldType} {as st0 : List Value} {y : Option Mem} {f : Mem → Option α} (hm : MdV μ n) (hC : ∀ z, y = some z → Ct w lo hi O l d μ (.ref (w.1 k) :: as) M (none, z)) (hr : lo ≤ k ∧ k < hi) (hce : ∀ f g, ce w k f g = .inr (ci, fs f)) (cl : ClOk ci C T N ty) (hcl : μ.1.cls = C) (q1 : lw_tbl[i1]? = some (.methodLink own index μ.1)) (hn : as.length = n) (hst : st0 = as.reverse ++ .ref (w.1 k) :: st) (hw : (st.map fun v => v.category).sum ≤ 8) (hdD : d < D) (hd : decode cc pc = .ok (.invokevirtual index, 3)) (kk : ∀ z, Sim p l e R s m args below meth c w lo hi O nL A cs sl Q r0 (pc + 3) lv st z (f z) K) : Sim p l e R s m args below meth c w lo hi O nL A cs sl Q r0 pc lv st0 M (Option.bind y f) K := s_callV G hAw (fun _ => none) (fun z => z) hm hC hr hce cl hcl q1 hn hst hw hdD hd kk
theorem s_callSv (G : Ok p s m args meth c w cc nL own ret hi R A cs sl D) (hAw : ∀ q, A q → q < s.heap.size → Aw w q) {μ : Md} {n d index : Nat} {as st0 : List Value} {y : Option Mem} {f : Mem → Option α} (hm : MdS μ n) (hC : ∀ z, y = some z → Ct w lo hi O l d μ as M (none, z)) {i1 : Nat} (q1 : lw_tbl[i1]? = some (.methodLink own index μ.1)) (hn : as.length = n) (hst : st0 = as.reverse ++ st) (hw : (st.map fun v => v.category).sum ≤ 8) (hdD : d < D) (hd : decode cc pc = .ok (.invokestatic index, 3)) (kk : ∀ z, Sim p l e R s m args below meth c w lo hi O nL A cs sl Q r0 (pc + 3) lv st z (f z) K) : Sim p l e R s m args below meth c w lo hi O nL A cs sl Q r0 pc lv st0 M (Option.bind y f) K := s_callS G hAw (fun _ => none) (fun z => z) hm hC q1 hn hst hw hdD hd kk
theorem s_callSNv (G : Ok p s m args meth c w cc nL own ret hi R A cs sl D) (hAw : ∀ q, A q → q < s.heap.size → Aw w q) {μ : Md} {n d index : Nat} {as st0 : List Value} {y : Option Mem} {f : Mem → Option α} (hm : MdS μ n) (hC : ∀ z, y = some z → Ct w lo hi O l d μ as M (none, z)) (hnw : (own, index, μ.1) ∈ nwL) (hn : as.length = n) (hst : st0 = as.reverse ++ st) (hw : (st.map fun v => v.category).sum ≤ 8) (hdD : d < D) (hd : decode cc pc = .ok (.invokestatic index, 3)) (kk : ∀ z, Sim p l e R s m args below meth c w lo hi O nL A cs sl Q r0 (pc + 3) lv st z (f z) K) : Sim p l e R s m args below meth c w lo hi O nL A cs sl Q r0 pc lv st0 M (Option.bind y f) K := s_callSN G hAw (fun _ => none) (fun z => z) hm hC hnw hn hst hw hdD hd kk
end SIM4
def fs0 (w : Wx) (f : Nat → Int32) : List Value := [.ref (w.1 1), .ref (w.1 7), .ref (w.1 13), .ref (w.1 19), .ref (w.1 23), .ref (w.1 25), .ref (w.1 26), .ref (w.1 35), .int (f 8)]
theorem ce0 (w : Wx) (f : Nat → Int32) (g : Nat → Int64) : ce w 0 f g = .inr (5, fs0 w f) := rfl
def fs1 (w : Wx) (f : Nat → Int32) : List Value := [.int (f 0), .int (f 1), .int (f 2), .int (f 3), .ref (w.1 2), .ref (w.1 3), .ref (w.1 4), .ref (w.1 5), .ref (w.1 6)]
theorem ce1 (w : Wx) (f : Nat → Int32) (g : Nat → Int64) : ce w 1 f g = .inr (0, fs1 w f) := rfl
theorem ce2 (w : Wx) (f : Nat → Int32) (g : Nat → Int64) : ce w 2 f g = ceI w 12 f := rfl
theorem ce3 (w : Wx) (f : Nat → Int32) (g : Nat → Int64) : ce w 3 f g = ceI w 12 f := rfl
theorem ce4 (w : Wx) (f : Nat → Int32) (g : Nat → Int64) : ce w 4 f g = ceI w 12 f := rfl
theorem ce5 (w : Wx) (f : Nat → Int32) (g : Nat → Int64) : ce w 5 f g = ceI w 12 f := rfl
theorem ce6 (w : Wx) (f : Nat → Int32) (g : Nat → Int64) : ce w 6 f g = ceI w 24 f := rfl
def fs7 (w : Wx) (f : Nat → Int32) : List Value := [.int (f 0), .int (f 1), .int (f 2), .int (f 3), .ref (w.1 8), .ref (w.1 9), .ref (w.1 10), .ref (w.1 11), .ref (w.1 12)]
theorem ce7 (w : Wx) (f : Nat → Int32) (g : Nat → Int64) : ce w 7 f g = .inr (0, fs7 w f) := rfl
theorem ce8 (w : Wx) (f : Nat → Int32) (g : Nat → Int64) : ce w 8 f g = ceI w 12 f := rfl
theorem ce9 (w : Wx) (f : Nat → Int32) (g : Nat → Int64) : ce w 9 f g = ceI w 12 f := rfl
theorem ce10 (w : Wx) (f : Nat → Int32) (g : Nat → Int64) : ce w 10 f g = ceI w 12 f := rfl
theorem ce11 (w : Wx) (f : Nat → Int32) (g : Nat → Int64) : ce w 11 f g = ceI w 12 f := rfl
theorem ce12 (w : Wx) (f : Nat → Int32) (g : Nat → Int64) : ce w 12 f g = ceI w 24 f := rfl
def fs13 (w : Wx) (f : Nat → Int32) : List Value := [.int (f 0), .int (f 1), .int (f 2), .int (f 3), .ref (w.1 14), .ref (w.1 15), .ref (w.1 16), .ref (w.1 17), .ref (w.1 18)]
theorem ce13 (w : Wx) (f : Nat → Int32) (g : Nat → Int64) : ce w 13 f g = .inr (0, fs13 w f) := rfl
theorem ce14 (w : Wx) (f : Nat → Int32) (g : Nat → Int64) : ce w 14 f g = ceI w 12 f := rfl
theorem ce15 (w : Wx) (f : Nat → Int32) (g : Nat → Int64) : ce w 15 f g = ceI w 12 f := rfl
theorem ce16 (w : Wx) (f : Nat → Int32) (g : Nat → Int64) : ce w 16 f g = ceI w 12 f := rfl
theorem ce17 (w : Wx) (f : Nat → Int32) (g : Nat → Int64) : ce w 17 f g = ceI w 12 f := rfl
theorem ce18 (w : Wx) (f : Nat → Int32) (g : Nat → Int64) : ce w 18 f g = ceI w 24 f := rfl
def fs19 (w : Wx) (f : Nat → Int32) : List Value := [.ref (w.1 20), .ref (w.1 21), .ref (w.1 22)]
theorem ce19 (w : Wx) (f : Nat → Int32) (g : Nat → Int64) : ce w 19 f g = .inr (3, fs19 w f) := rfl
theorem ce20 (w : Wx) (f : Nat → Int32) (g : Nat → Int64) : ce w 20 f g = ceI w 12 f := rfl
theorem ce21 (w : Wx) (f : Nat → Int32) (g : Nat → Int64) : ce w 21 f g = ceI w 12 f := rfl
theorem ce22 (w : Wx) (f : Nat → Int32) (g : Nat → Int64) : ce w 22 f g = ceI w 12 f := rfl
def fs23 (w : Wx) (f : Nat → Int32) : List Value := [.ref (w.1 24), .int (f 1)]
theorem ce23 (w : Wx) (f : Nat → Int32) (g : Nat → Int64) : ce w 23 f g = .inr (4, fs23 w f) := rfl
theorem ce24 (w : Wx) (f : Nat → Int32) (g : Nat → Int64) : ce w 24 f g = ceB w 120 f := rfl
def fs25 (w : Wx) (f : Nat → Int32) : List Value := [.ref (w.1 23), .int (f 1), .int (f 2), .int (f 3), .int (f 4)]
theorem ce25 (w : Wx) (f : Nat → Int32) (g : Nat → Int64) : ce w 25 f g = .inr (1, fs25 w f) := rfl
theorem ce35 (w : Wx) (f : Nat → Int32) (g : Nat → Int64) : ce w 35 f g = ceI w 7 f := rfl
def fs36 (w : Wx) (f : Nat → Int32) : List Value := [.ref (w.1 37), .ref (w.1 38), .ref (w.1 39), .ref (w.1 40), .ref (w.1 41), .int (f 5), .int (f 6), .int (f 7), .ref (w.1 42), .ref (w.1 43), .int (f 10), .int (f 11), .int (f 12), .int (f 13), .int (f 14), .ref (w.1 44), .ref (w.1 45), .ref (w.1 46), .ref (w.1 47)]
theorem ce36 (w : Wx) (f : Nat → Int32) (g : Nat → Int64) : ce w 36 f g = .inr (6, fs36 w f) := rfl
theorem ce37 (w : Wx) (f : Nat → Int32) (g : Nat → Int64) : ce w 37 f g = ceI w 63 f := rfl
theorem ce38 (w : Wx) (f : Nat → Int32) (g : Nat → Int64) : ce w 38 f g = ceI w 63 f := rfl
theorem ce39 (w : Wx) (f : Nat → Int32) (g : Nat → Int64) : ce w 39 f g = ceI w 63 f := rfl
theorem ce40 (w : Wx) (f : Nat → Int32) (g : Nat → Int64) : ce w 40 f g = ceI w 63 f := rfl
theorem ce41 (w : Wx) (f : Nat → Int32) (g : Nat → Int64) : ce w 41 f g = ceI w 7 f := rfl
theorem ce42 (w : Wx) (f : Nat → Int32) (g : Nat → Int64) : ce w 42 f g = ceI w 12 f := rfl
theorem ce43 (w : Wx) (f : Nat → Int32) (g : Nat → Int64) : ce w 43 f g = ceI w 120 f := rfl
theorem ce44 (w : Wx) (f : Nat → Int32) (g : Nat → Int64) : ce w 44 f g = ceI w 4 f := rfl
theorem ce45 (w : Wx) (f : Nat → Int32) (g : Nat → Int64) : ce w 45 f g = ceI w 4 f := rfl
theorem ce46 (w : Wx) (f : Nat → Int32) (g : Nat → Int64) : ce w 46 f g = ceJ w 160 g := rfl
theorem ce47 (w : Wx) (f : Nat → Int32) (g : Nat → Int64) : ce w 47 f g = ceJ w 40 g := rfl
def fsS (w : Wx) (k : Nat) (f : Nat → Int32) : List Value := [.ref (w.1 (k + 1)), .int (f 1), .int (f 2)]
theorem ce_sheetF (w : Wx) {q : Nat} (h : q < 4) (f : Nat → Int32) (g : Nat → Int64) : ce w (27 + 2 * q) f g = .inr (2, fsS w (27 + 2 * q) f) := ce_sheet w h f g
abbrev muX0_become : Md := (yX0_become, cX0_become, 2, none)
set_option maxRecDepth 50000 in
theorem mdX0_become : MdV muX0_become 1 := ⟨⟨List.mem_of_getElem? (i := 551) rfl, List.mem_of_getElem? qw64, ⟨by decide, by decide, by decide +kernel⟩, by decide⟩, List.mem_of_getElem? qw549, List.mem_of_getElem? qw550⟩
abbrev muX0_has : Md := (yX0_has, cX0_has, 2, (some .boolean))
set_option maxRecDepth 50000 in
theorem mdX0_has : MdV muX0_has 1 := ⟨⟨List.mem_of_getElem? (i := 266) rfl, List.mem_of_getElem? qw64, ⟨by decide, by decide, by decide +kernel⟩, by decide⟩, List.mem_of_getElem? qw264, List.mem_of_getElem? qw265⟩
abbrev muX0_isUp : Md := (yX0_isUp, cX0_isUp, 2, (some .boolean))
set_option maxRecDepth 50000 in
theorem mdX0_isUp : MdV muX0_isUp 1 := ⟨⟨List.mem_of_getElem? (i := 319) rfl, List.mem_of_getElem? qw64, ⟨by decide, by decide, by decide +kernel⟩, by decide⟩, List.mem_of_getElem? qw317, List.mem_of_getElem? qw318⟩
abbrev muX0_isFree : Md := (yX0_isFree, cX0_isFree, 2, (some .boolean))
set_option maxRecDepth 50000 in
theorem mdX0_isFree : MdV muX0_isFree 1 := ⟨⟨List.mem_of_getElem? (i := 310) rfl, List.mem_of_getElem? qw64, ⟨by decide, by decide, by decide +kernel⟩, by decide⟩, List.mem_of_getElem? qw308, List.mem_of_getElem? qw309⟩
abbrev muX0_facingOf : Md := (yX0_facingOf, cX0_facingOf, 2, (some .int))
set_option maxRecDepth 50000 in
theorem mdX0_facingOf : MdV muX0_facingOf 1 := ⟨⟨List.mem_of_getElem? (i := 270) rfl, List.mem_of_getElem? qw64, ⟨by decide, by decide, by decide +kernel⟩, by decide⟩, List.mem_of_getElem? qw268, List.mem_of_getElem? qw269⟩
abbrev muX0_addHanger : Md := (yX0_addHanger, cX0_addHanger, 3, (some .int))
set_option maxRecDepth 50000 in
theorem mdX0_addHanger : MdV muX0_addHanger 1 := ⟨⟨List.mem_of_getElem? (i := 258) rfl, List.mem_of_getElem? qw64, ⟨by decide, by decide, by decide +kernel⟩, by decide⟩, List.mem_of_getElem? qw256, List.mem_of_getElem? qw257⟩
abbrev muX0_put : Md := (yX0_put, cX0_put, 3, none)
set_option maxRecDepth 50000 in
theorem mdX0_put : MdV muX0_put 2 := ⟨⟨List.mem_of_getElem? (i := 324) rfl, List.mem_of_getElem? qw64, ⟨by decide, by decide, by decide +kernel⟩, by decide⟩, List.mem_of_getElem? qw322, List.mem_of_getElem? qw323⟩
abbrev muX0_putOut : Md := (yX0_putOut, cX0_putOut, 3, none)
set_option maxRecDepth 50000 in
theorem mdX0_putOut : MdV muX0_putOut 1 := ⟨⟨List.mem_of_getElem? (i := 354) rfl, List.mem_of_getElem? qw64, ⟨by decide, by decide, by decide +kernel⟩, by decide⟩, List.mem_of_getElem? qw352, List.mem_of_getElem? qw353⟩
abbrev muX0_addMove : Md := (yX0_addMove, cX0_addMove, 1, none)
set_option maxRecDepth 50000 in
theorem mdX0_addMove : MdV muX0_addMove 0 := ⟨⟨List.mem_of_getElem? (i := 328) rfl, List.mem_of_getElem? qw64, ⟨by decide, by decide, by decide +kernel⟩, by decide⟩, List.mem_of_getElem? qw326, List.mem_of_getElem? qw327⟩
abbrev muX0_up : Md := (yX0_up, cX0_up, 3, (some .int))
set_option maxRecDepth 50000 in
theorem mdX0_up : MdV muX0_up 0 := ⟨⟨List.mem_of_getElem? (i := 335) rfl, List.mem_of_getElem? qw64, ⟨by decide, by decide, by decide +kernel⟩, by decide⟩, List.mem_of_getElem? qw333, List.mem_of_getElem? qw334⟩
abbrev muX0_shirts : Md := (yX0_shirts, cX0_shirts, 3, (some .int))
set_option maxRecDepth 50000 in
theorem mdX0_shirts : MdV muX0_shirts 0 := ⟨⟨List.mem_of_getElem? (i := 429) rfl, List.mem_of_getElem? qw64, ⟨by decide, by decide, by decide +kernel⟩, by decide⟩, List.mem_of_getElem? qw427, List.mem_of_getElem? qw428⟩
abbrev muX0_slips : Md := (yX0_slips, cX0_slips, 3, (some .int))
set_option maxRecDepth 50000 in
theorem mdX0_slips : MdV muX0_slips 0 := ⟨⟨List.mem_of_getElem? (i := 433) rfl, List.mem_of_getElem? qw64, ⟨by decide, by decide, by decide +kernel⟩, by decide⟩, List.mem_of_getElem? qw431, List.mem_of_getElem? qw432⟩
abbrev muX0_hasRoom : Md := (yX0_hasRoom, cX0_hasRoom, 5, (some .boolean))
set_option maxRecDepth 50000 in
theorem mdX0_hasRoom : MdV muX0_hasRoom 1 := ⟨⟨List.mem_of_getElem? (i := 367) rfl, List.mem_of_getElem? qw64, ⟨by decide, by decide, by decide +kernel⟩, by decide⟩, List.mem_of_getElem? qw365, List.mem_of_getElem? qw366⟩
abbrev muX0_falling : Md := (yX0_falling, cX0_falling, 7, (some .int))
set_option maxRecDepth 50000 in
theorem mdX0_falling : MdV muX0_falling 3 := ⟨⟨List.mem_of_getElem? (i := 410) rfl, List.mem_of_getElem? qw64, ⟨by decide, by decide, by decide +kernel⟩, by decide⟩, List.mem_of_getElem? qw408, List.mem_of_getElem? qw409⟩
abbrev muX0_strip : Md := (yX0_strip, cX0_strip, 3, none)
set_option maxRecDepth 50000 in
theorem mdX0_strip : MdV muX0_strip 1 := ⟨⟨List.mem_of_getElem? (i := 415) rfl, List.mem_of_getElem? qw64, ⟨by decide, by decide, by decide +kernel⟩, by decide⟩, List.mem_of_getElem? qw413, List.mem_of_getElem? qw414⟩
abbrev muX0_tangledWith : Md := (yX0_tangledWith, cX0_tangledWith, 7, (some .int))
set_option maxRecDepth 50000 in
theorem mdX0_tangledWith : MdV muX0_tangledWith 3 := ⟨⟨List.mem_of_getElem? (i := 441) rfl, List.mem_of_getElem? qw64, ⟨by decide, by decide, by decide +kernel⟩, by decide⟩, List.mem_of_getElem? qw439, List.mem_of_getElem? qw440⟩
abbrev muX0_tangledIf : Md := (yX0_tangledIf, cX0_tangledIf, 11, (some .int))
set_option maxRecDepth 50000 in
theorem mdX0_tangledIf : MdV muX0_tangledIf 4 := ⟨⟨List.mem_of_getElem? (i := 378) rfl, List.mem_of_getElem? qw64, ⟨by decide, by decide, by decide +kernel⟩, by decide⟩, List.mem_of_getElem? qw376, List.mem_of_getElem? qw377⟩
abbrev muX0_isAloneAt : Md := (yX0_isAloneAt, cX0_isAloneAt, 3, (some .boolean))
set_option maxRecDepth 50000 in
theorem mdX0_isAloneAt : MdV muX0_isAloneAt 2 := ⟨⟨List.mem_of_getElem? (i := 491) rfl, List.mem_of_getElem? qw64, ⟨by decide, by decide, by decide +kernel⟩, by decide⟩, List.mem_of_getElem? qw489, List.mem_of_getElem? qw490⟩
abbrev muX0_alike : Md := (yX0_alike, cX0_alike, 2, (some .int))
set_option maxRecDepth 50000 in
theorem mdX0_alike : MdS muX0_alike 2 := ⟨⟨List.mem_of_getElem? (i := 394) rfl, List.mem_of_getElem? qw64, ⟨by decide, by decide, by decide +kernel⟩, by decide⟩, List.mem_of_getElem? qw393⟩
abbrev muX1_readItems : Md := (yX1_readItems, cX1_readItems, 3, (some .int))
set_option maxRecDepth 50000 in
theorem mdX1_readItems : MdV muX1_readItems 1 := ⟨⟨List.mem_of_getElem? (i := 558) rfl, List.mem_of_getElem? qw67, ⟨by decide, by decide, by decide +kernel⟩, by decide⟩, List.mem_of_getElem? qw556, List.mem_of_getElem? qw557⟩
abbrev muX1_readItem : Md := (yX1_readItem, cX1_readItem, 4, (some .boolean))
set_option maxRecDepth 50000 in
theorem mdX1_readItem : MdV muX1_readItem 1 := ⟨⟨List.mem_of_getElem? (i := 581) rfl, List.mem_of_getElem? qw67, ⟨by decide, by decide, by decide +kernel⟩, by decide⟩, List.mem_of_getElem? qw580, List.mem_of_getElem? qw9⟩
abbrev muX1_readPlace : Md := (yX1_readPlace, cX1_readPlace, 3, (some .boolean))
set_option maxRecDepth 50000 in
theorem mdX1_readPlace : MdV muX1_readPlace 2 := ⟨⟨List.mem_of_getElem? (i := 656) rfl, List.mem_of_getElem? qw67, ⟨by decide, by decide, by decide +kernel⟩, by decide⟩, List.mem_of_getElem? qw655, List.mem_of_getElem? qw13⟩
abbrev muX1_readBack : Md := (yX1_readBack, cX1_readBack, 3, (some .boolean))
set_option maxRecDepth 50000 in
theorem mdX1_readBack : MdV muX1_readBack 2 := ⟨⟨List.mem_of_getElem? (i := 663) rfl, List.mem_of_getElem? qw67, ⟨by decide, by decide, by decide +kernel⟩, by decide⟩, List.mem_of_getElem? qw662, List.mem_of_getElem? qw14⟩
abbrev muX1_readShirt : Md := (yX1_readShirt, cX1_readShirt, 3, (some .boolean))
set_option maxRecDepth 50000 in
theorem mdX1_readShirt : MdV muX1_readShirt 2 := ⟨⟨List.mem_of_getElem? (i := 668) rfl, List.mem_of_getElem? qw67, ⟨by decide, by decide, by decide +kernel⟩, by decide⟩, List.mem_of_getElem? qw667, List.mem_of_getElem? qw15⟩
abbrev muX1_readFeel : Md := (yX1_readFeel, cX1_readFeel, 3, (some .boolean))
set_option maxRecDepth 50000 in
theorem mdX1_readFeel : MdV muX1_readFeel 2 := ⟨⟨List.mem_of_getElem? (i := 673) rfl, List.mem_of_getElem? qw67, ⟨by decide, by decide, by decide +kernel⟩, by decide⟩, List.mem_of_getElem? qw672, List.mem_of_getElem? qw16⟩
abbrev muX1_isNumber : Md := (yX1_isNumber, cX1_isNumber, 3, (some .boolean))
set_option maxRecDepth 50000 in
theorem mdX1_isNumber : MdV muX1_isNumber 2 := ⟨⟨List.mem_of_getElem? (i := 638) rfl, List.mem_of_getElem? qw67, ⟨by decide, by decide, by decide +kernel⟩, by decide⟩, List.mem_of_getElem? qw637, List.mem_of_getElem? qw11⟩
abbrev muX1_isWord : Md := (yX1_isWord, cX1_isWord, 3, (some .boolean))
set_option maxRecDepth 50000 in
theorem mdX1_isWord : MdV muX1_isWord 1 := ⟨⟨List.mem_of_getElem? (i := 586) rfl, List.mem_of_getElem? qw67, ⟨by decide, by decide, by decide +kernel⟩, by decide⟩, List.mem_of_getElem? qw585, List.mem_of_getElem? qw10⟩
abbrev muX1_namedKind : Md := (yX1_namedKind, cX1_namedKind, 2, (some .int))
set_option maxRecDepth 50000 in
theorem mdX1_namedKind : MdV muX1_namedKind 0 := ⟨⟨List.mem_of_getElem? (i := 642) rfl, List.mem_of_getElem? qw67, ⟨by decide, by decide, by decide +kernel⟩, by decide⟩, List.mem_of_getElem? qw641, List.mem_of_getElem? qw12⟩
abbrev muX1_step : Md := (yX1_step, cX1_step, 1, none)
set_option maxRecDepth 50000 in
theorem mdX1_step : MdV muX1_step 0 := ⟨⟨List.mem_of_getElem? (i := 562) rfl, List.mem_of_getElem? qw67, ⟨by decide, by decide, by decide +kernel⟩, by decide⟩, List.mem_of_getElem? qw561, List.mem_of_getElem? qw6⟩
abbrev muX1_stepWord : Md := (yX1_stepWord, cX1_stepWord, 1, none)
set_option maxRecDepth 50000 in
theorem mdX1_stepWord : MdV muX1_stepWord 0 := ⟨⟨List.mem_of_getElem? (i := 569) rfl, List.mem_of_getElem? qw67, ⟨by decide, by decide, by decide +kernel⟩, by decide⟩, List.mem_of_getElem? qw568, List.mem_of_getElem? qw7⟩
abbrev muX1_stepNumber : Md := (yX1_stepNumber, cX1_stepNumber, 1, none)
set_option maxRecDepth 50000 in
theorem mdX1_stepNumber : MdV muX1_stepNumber 0 := ⟨⟨List.mem_of_getElem? (i := 576) rfl, List.mem_of_getElem? qw67, ⟨by decide, by decide, by decide +kernel⟩, by decide⟩, List.mem_of_getElem? qw575, List.mem_of_getElem? qw8⟩
abbrev muX1_isLetter : Md := (yX1_isLetter, cX1_isLetter, 1, (some .boolean))
set_option maxRecDepth 50000 in
theorem mdX1_isLetter : MdS muX1_isLetter 1 := ⟨⟨List.mem_of_getElem? (i := 565) rfl, List.mem_of_getElem? qw67, ⟨by decide, by decide, by decide +kernel⟩, by decide⟩, List.mem_of_getElem? qw564⟩
abbrev muX1_isDigit : Md := (yX1_isDigit, cX1_isDigit, 1, (some .boolean))
set_option maxRecDepth 50000 in
theorem mdX1_isDigit : MdS muX1_isDigit 1 := ⟨⟨List.mem_of_getElem? (i := 572) rfl, List.mem_of_getElem? qw67, ⟨by decide, by decide, by decide +kernel⟩, by decide⟩, List.mem_of_getElem? qw571⟩
abbrev muX2_isMissing : Md := (yX2_isMissing, cX2_isMissing, 1, (some .boolean))
set_option maxRecDepth 50000 in
theorem mdX2_isMissing : MdV muX2_isMissing 0 := ⟨⟨List.mem_of_getElem? (i := 698) rfl, List.mem_of_getElem? qw68, ⟨by decide, by decide, by decide +kernel⟩, by decide⟩, List.mem_of_getElem? qw696, List.mem_of_getElem? qw697⟩
abbrev muX2_lay : Md := (yX2_lay, cX2_lay, 4, none)
set_option maxRecDepth 50000 in
theorem mdX2_lay : MdV muX2_lay 2 := ⟨⟨List.mem_of_getElem? (i := 686) rfl, List.mem_of_getElem? qw68, ⟨by decide, by decide, by decide +kernel⟩, by decide⟩, List.mem_of_getElem? qw684, List.mem_of_getElem? qw685⟩
abbrev muX2_put : Md := (yX2_put, cX2_put, 4, none)
set_option maxRecDepth 50000 in
theorem mdX2_put : MdV muX2_put 2 := ⟨⟨List.mem_of_getElem? (i := 703) rfl, List.mem_of_getElem? qw68, ⟨by decide, by decide, by decide +kernel⟩, by decide⟩, List.mem_of_getElem? qw701, List.mem_of_getElem? qw702⟩
abbrev muX2_hasRun : Md := (yX2_hasRun, cX2_hasRun, 3, (some .boolean))
set_option maxRecDepth 50000 in
theorem mdX2_hasRun : MdV muX2_hasRun 2 := ⟨⟨List.mem_of_getElem? (i := 711) rfl, List.mem_of_getElem? qw68, ⟨by decide, by decide, by decide +kernel⟩, by decide⟩, List.mem_of_getElem? qw709, List.mem_of_getElem? qw710⟩
abbrev muX3_look : Md := (yX3_look, cX3_look, 6, none)
set_option maxRecDepth 50000 in
theorem mdX3_look : MdV muX3_look 1 := ⟨⟨List.mem_of_getElem? (i := 373) rfl, List.mem_of_getElem? qw65, ⟨by decide, by decide, by decide +kernel⟩, by decide⟩, List.mem_of_getElem? qw371, List.mem_of_getElem? qw372⟩
abbrev muX3_nearFacing : Md := (yX3_nearFacing, cX3_nearFacing, 4, (some .int))
set_option maxRecDepth 50000 in
theorem mdX3_nearFacing : MdV muX3_nearFacing 2 := ⟨⟨List.mem_of_getElem? (i := 391) rfl, List.mem_of_getElem? qw65, ⟨by decide, by decide, by decide +kernel⟩, by decide⟩, List.mem_of_getElem? qw390, List.mem_of_getElem? qw2⟩
abbrev muX3_pairs : Md := (yX3_pairs, cX3_pairs, 4, (some .int))
set_option maxRecDepth 50000 in
theorem mdX3_pairs : MdV muX3_pairs 1 := ⟨⟨List.mem_of_getElem? (i := 424) rfl, List.mem_of_getElem? qw65, ⟨by decide, by decide, by decide +kernel⟩, by decide⟩, List.mem_of_getElem? qw422, List.mem_of_getElem? qw423⟩
abbrev muX3_all : Md := (yX3_all, cX3_all, 3, (some .int))
set_option maxRecDepth 50000 in
theorem mdX3_all : MdV muX3_all 0 := ⟨⟨List.mem_of_getElem? (i := 523) rfl, List.mem_of_getElem? qw65, ⟨by decide, by decide, by decide +kernel⟩, by decide⟩, List.mem_of_getElem? qw521, List.mem_of_getElem? qw522⟩
abbrev muX3_coming : Md := (yX3_coming, cX3_coming, 3, (some .int))
set_option maxRecDepth 50000 in
theorem mdX3_coming : MdV muX3_coming 2 := ⟨⟨List.mem_of_getElem? (i := 401) rfl, List.mem_of_getElem? qw65, ⟨by decide, by decide, by decide +kernel⟩, by decide⟩, List.mem_of_getElem? qw399, List.mem_of_getElem? qw400⟩
abbrev muX3_heapOf : Md := (yX3_heapOf, cX3_heapOf, 6, (some .int))
set_option maxRecDepth 50000 in
theorem mdX3_heapOf : MdV muX3_heapOf 1 := ⟨⟨List.mem_of_getElem? (i := 405) rfl, List.mem_of_getElem? qw65, ⟨by decide, by decide, by decide +kernel⟩, by decide⟩, List.mem_of_getElem? qw403, List.mem_of_getElem? qw404⟩
abbrev muX3_leastCover : Md := (yX3_leastCover, cX3_leastCover, 2, (some .int))
set_option maxRecDepth 50000 in
theorem mdX3_leastCover : MdV muX3_leastCover 0 := ⟨⟨List.mem_of_getElem? (i := 512) rfl, List.mem_of_getElem? qw65, ⟨by decide, by decide, by decide +kernel⟩, by decide⟩, List.mem_of_getElem? qw510, List.mem_of_getElem? qw511⟩
abbrev muX3_leastCover_ : Md := (yX3_leastCover_, cX3_leastCover_, 6, (some .int))
set_option maxRecDepth 50000 in
theorem mdX3_leastCover_ : MdS muX3_leastCover_ 4 := ⟨⟨List.mem_of_getElem? (i := 515) rfl, List.mem_of_getElem? qw65, ⟨by decide, by decide, by decide +kernel⟩, by decide⟩, List.mem_of_getElem? qw514⟩
abbrev muX4_add : Md := (yX4_add, cX4_add, 2, none)
set_option maxRecDepth 50000 in
theorem mdX4_add : MdV muX4_add 1 := ⟨⟨List.mem_of_getElem? (i := 539) rfl, List.mem_of_getElem? qw66, ⟨by decide, by decide, by decide +kernel⟩, by decide⟩, List.mem_of_getElem? qw537, List.mem_of_getElem? qw538⟩
abbrev muX5_hanger : Md := (yX5_hanger, cX5_hanger, 2, (some .int))
set_option maxRecDepth 50000 in
theorem mdX5_hanger : MdV muX5_hanger 1 := ⟨⟨List.mem_of_getElem? (i := 245) rfl, List.mem_of_getElem? qw63, ⟨by decide, by decide, by decide +kernel⟩, by decide⟩, List.mem_of_getElem? qw243, List.mem_of_getElem? qw244⟩
abbrev muX5_of : Md := (yX5_of, cX5_of, 3, (some .int))
set_option maxRecDepth 50000 in
theorem mdX5_of : MdV muX5_of 2 := ⟨⟨List.mem_of_getElem? (i := 262) rfl, List.mem_of_getElem? qw63, ⟨by decide, by decide, by decide +kernel⟩, by decide⟩, List.mem_of_getElem? qw260, List.mem_of_getElem? qw261⟩
abbrev muX5_set : Md := (yX5_set, cX5_set, 5, (some .int))
set_option maxRecDepth 50000 in
theorem mdX5_set : MdV muX5_set 3 := ⟨⟨List.mem_of_getElem? (i := 280) rfl, List.mem_of_getElem? qw63, ⟨by decide, by decide, by decide +kernel⟩, by decide⟩, List.mem_of_getElem? qw278, List.mem_of_getElem? qw279⟩
abbrev muX5_turn : Md := (yX5_turn, cX5_turn, 4, (some .int))
set_option maxRecDepth 50000 in
theorem mdX5_turn : MdV muX5_turn 2 := ⟨⟨List.mem_of_getElem? (i := 284) rfl, List.mem_of_getElem? qw63, ⟨by decide, by decide, by decide +kernel⟩, by decide⟩, List.mem_of_getElem? qw282, List.mem_of_getElem? qw283⟩
abbrev muX5_as : Md := (yX5_as, cX5_as, 3, (some .int))
set_option maxRecDepth 50000 in
theorem mdX5_as : MdV muX5_as 2 := ⟨⟨List.mem_of_getElem? (i := 288) rfl, List.mem_of_getElem? qw63, ⟨by decide, by decide, by decide +kernel⟩, by decide⟩, List.mem_of_getElem? qw286, List.mem_of_getElem? qw287⟩
abbrev muX5_price : Md := (yX5_price, cX5_price, 3, (some .int))
set_option maxRecDepth 50000 in
theorem mdX5_price : MdV muX5_price 1 := ⟨⟨List.mem_of_getElem? (i := 299) rfl, List.mem_of_getElem? qw63, ⟨by decide, by decide, by decide +kernel⟩, by decide⟩, List.mem_of_getElem? qw297, List.mem_of_getElem? qw298⟩
abbrev muX5_at : Md := (yX5_at, cX5_at, 2, (some .int))
set_option maxRecDepth 50000 in
theorem mdX5_at : MdV muX5_at 1 := ⟨⟨List.mem_of_getElem? (i := 303) rfl, List.mem_of_getElem? qw63, ⟨by decide, by decide, by decide +kernel⟩, by decide⟩, List.mem_of_getElem? qw301, List.mem_of_getElem? qw302⟩
abbrev muX5_hang : Md := (yX5_hang, cX5_hang, 3, (some .int))
set_option maxRecDepth 50000 in
theorem mdX5_hang : MdV muX5_hang 2 := ⟨⟨List.mem_of_getElem? (i := 315) rfl, List.mem_of_getElem? qw63, ⟨by decide, by decide, by decide +kernel⟩, by decide⟩, List.mem_of_getElem? qw313, List.mem_of_getElem? qw314⟩
abbrev muX5_face : Md := (yX5_face, cX5_face, 2, (some .int))
set_option maxRecDepth 50000 in
theorem mdX5_face : MdV muX5_face 1 := ⟨⟨List.mem_of_getElem? (i := 346) rfl, List.mem_of_getElem? qw63, ⟨by decide, by decide, by decide +kernel⟩, by decide⟩, List.mem_of_getElem? qw344, List.mem_of_getElem? qw345⟩
abbrev muX5_shift : Md := (yX5_shift, cX5_shift, 4, (some .int))
set_option maxRecDepth 50000 in
theorem mdX5_shift : MdV muX5_shift 2 := ⟨⟨List.mem_of_getElem? (i := 350) rfl, List.mem_of_getElem? qw63, ⟨by decide, by decide, by decide +kernel⟩, by decide⟩, List.mem_of_getElem? qw348, List.mem_of_getElem? qw349⟩
abbrev muX5_take : Md := (yX5_take, cX5_take, 6, (some .int))
set_option maxRecDepth 50000 in
theorem mdX5_take : MdV muX5_take 2 := ⟨⟨List.mem_of_getElem? (i := 359) rfl, List.mem_of_getElem? qw63, ⟨by decide, by decide, by decide +kernel⟩, by decide⟩, List.mem_of_getElem? qw357, List.mem_of_getElem? qw358⟩
abbrev muX5_now : Md := (yX5_now, cX5_now, 2, (some .int))
set_option maxRecDepth 50000 in
theorem mdX5_now : MdV muX5_now 1 := ⟨⟨List.mem_of_getElem? (i := 420) rfl, List.mem_of_getElem? qw63, ⟨by decide, by decide, by decide +kernel⟩, by decide⟩, List.mem_of_getElem? qw418, List.mem_of_getElem? qw419⟩
abbrev muX5_tangled : Md := (yX5_tangled, cX5_tangled, 2, (some .int))
set_option maxRecDepth 50000 in
theorem mdX5_tangled : MdV muX5_tangled 1 := ⟨⟨List.mem_of_getElem? (i := 437) rfl, List.mem_of_getElem? qw63, ⟨by decide, by decide, by decide +kernel⟩, by decide⟩, List.mem_of_getElem? qw435, List.mem_of_getElem? qw436⟩
abbrev muX5_catches : Md := (yX5_catches, cX5_catches, 6, (some .int))
set_option maxRecDepth 50000 in
theorem mdX5_catches : MdV muX5_catches 2 := ⟨⟨List.mem_of_getElem? (i := 447) rfl, List.mem_of_getElem? qw63, ⟨by decide, by decide, by decide +kernel⟩, by decide⟩, List.mem_of_getElem? qw445, List.mem_of_getElem? qw446⟩
abbrev muX5_comes : Md := (yX5_comes, cX5_comes, 4, (some .int))
set_option maxRecDepth 50000 in
theorem mdX5_comes : MdV muX5_comes 2 := ⟨⟨List.mem_of_getElem? (i := 453) rfl, List.mem_of_getElem? qw63, ⟨by decide, by decide, by decide +kernel⟩, by decide⟩, List.mem_of_getElem? qw451, List.mem_of_getElem? qw452⟩
abbrev muX5_falls : Md := (yX5_falls, cX5_falls, 4, (some .int))
set_option maxRecDepth 50000 in
theorem mdX5_falls : MdV muX5_falls 2 := ⟨⟨List.mem_of_getElem? (i := 457) rfl, List.mem_of_getElem? qw63, ⟨by decide, by decide, by decide +kernel⟩, by decide⟩, List.mem_of_getElem? qw455, List.mem_of_getElem? qw456⟩
abbrev muX5_heaps : Md := (yX5_heaps, cX5_heaps, 4, (some .int))
set_option maxRecDepth 50000 in
theorem mdX5_heaps : MdV muX5_heaps 0 := ⟨⟨List.mem_of_getElem? (i := 465) rfl, List.mem_of_getElem? qw63, ⟨by decide, by decide, by decide +kernel⟩, by decide⟩, List.mem_of_getElem? qw463, List.mem_of_getElem? qw464⟩
abbrev muX5_greatest : Md := (yX5_greatest, cX5_greatest, 4, (some .int))
set_option maxRecDepth 50000 in
theorem mdX5_greatest : MdV muX5_greatest 0 := ⟨⟨List.mem_of_getElem? (i := 470) rfl, List.mem_of_getElem? qw63, ⟨by decide, by decide, by decide +kernel⟩, by decide⟩, List.mem_of_getElem? qw468, List.mem_of_getElem? qw469⟩
abbrev muX5_manner : Md := (yX5_manner, cX5_manner, 7, (some .int))
set_option maxRecDepth 50000 in
theorem mdX5_manner : MdV muX5_manner 1 := ⟨⟨List.mem_of_getElem? (i := 475) rfl, List.mem_of_getElem? qw63, ⟨by decide, by decide, by decide +kernel⟩, by decide⟩, List.mem_of_getElem? qw473, List.mem_of_getElem? qw474⟩
abbrev muX5_first : Md := (yX5_first, cX5_first, 6, (some .int))
set_option maxRecDepth 50000 in
theorem mdX5_first : MdV muX5_first 0 := ⟨⟨List.mem_of_getElem? (i := 483) rfl, List.mem_of_getElem? qw63, ⟨by decide, by decide, by decide +kernel⟩, by decide⟩, List.mem_of_getElem? qw481, List.mem_of_getElem? qw482⟩
abbrev muX5_spot : Md := (yX5_spot, cX5_spot, 4, (some .int))
set_option maxRecDepth 50000 in
theorem mdX5_spot : MdV muX5_spot 1 := ⟨⟨List.mem_of_getElem? (i := 487) rfl, List.mem_of_getElem? qw63, ⟨by decide, by decide, by decide +kernel⟩, by decide⟩, List.mem_of_getElem? qw485, List.mem_of_getElem? qw486⟩
abbrev muX5_facing : Md := (yX5_facing, cX5_facing, 4, (some .int))
set_option maxRecDepth 50000 in
theorem mdX5_facing : MdV muX5_facing 0 := ⟨⟨List.mem_of_getElem? (i := 496) rfl, List.mem_of_getElem? qw63, ⟨by decide, by decide, by decide +kernel⟩, by decide⟩, List.mem_of_getElem? qw494, List.mem_of_getElem? qw495⟩
abbrev muX5_clears : Md := (yX5_clears, cX5_clears, 6, (some .int))
set_option maxRecDepth 50000 in
theorem mdX5_clears : MdV muX5_clears 1 := ⟨⟨List.mem_of_getElem? (i := 504) rfl, List.mem_of_getElem? qw63, ⟨by decide, by decide, by decide +kernel⟩, by decide⟩, List.mem_of_getElem? qw502, List.mem_of_getElem? qw503⟩
abbrev muX5_untangle : Md := (yX5_untangle, cX5_untangle, 1, (some .int))
set_option maxRecDepth 50000 in
theorem mdX5_untangle : MdV muX5_untangle 0 := ⟨⟨List.mem_of_getElem? (i := 508) rfl, List.mem_of_getElem? qw63, ⟨by decide, by decide, by decide +kernel⟩, by decide⟩, List.mem_of_getElem? qw506, List.mem_of_getElem? qw507⟩
abbrev muX5_saves : Md := (yX5_saves, cX5_saves, 2, (some .int))
set_option maxRecDepth 50000 in
theorem mdX5_saves : MdV muX5_saves 0 := ⟨⟨List.mem_of_getElem? (i := 519) rfl, List.mem_of_getElem? qw63, ⟨by decide, by decide, by decide +kernel⟩, by decide⟩, List.mem_of_getElem? qw517, List.mem_of_getElem? qw518⟩
abbrev muX5_feels : Md := (yX5_feels, cX5_feels, 6, (some .int))
set_option maxRecDepth 50000 in
theorem mdX5_feels : MdV muX5_feels 1 := ⟨⟨List.mem_of_getElem? (i := 527) rfl, List.mem_of_getElem? qw63, ⟨by decide, by decide, by decide +kernel⟩, by decide⟩, List.mem_of_getElem? qw525, List.mem_of_getElem? qw526⟩
abbrev muX5_kind : Md := (yX5_kind, cX5_kind, 6, (some .int))
set_option maxRecDepth 50000 in
theorem mdX5_kind : MdV muX5_kind 1 := ⟨⟨List.mem_of_getElem? (i := 531) rfl, List.mem_of_getElem? qw63, ⟨by decide, by decide, by decide +kernel⟩, by decide⟩, List.mem_of_getElem? qw529, List.mem_of_getElem? qw530⟩
abbrev muX5_feed : Md := (yX5_feed, cX5_feed, 4, (some .int))
set_option maxRecDepth 50000 in
theorem mdX5_feed : MdV muX5_feed 2 := ⟨⟨List.mem_of_getElem? (i := 535) rfl, List.mem_of_getElem? qw63, ⟨by decide, by decide, by decide +kernel⟩, by decide⟩, List.mem_of_getElem? qw533, List.mem_of_getElem? qw534⟩
abbrev muX5_wipe : Md := (yX5_wipe, cX5_wipe, 2, (some .int))
set_option maxRecDepth 50000 in
theorem mdX5_wipe : MdV muX5_wipe 0 := ⟨⟨List.mem_of_getElem? (i := 543) rfl, List.mem_of_getElem? qw63, ⟨by decide, by decide, by decide +kernel⟩, by decide⟩, List.mem_of_getElem? qw541, List.mem_of_getElem? qw542⟩
abbrev muX5_rail : Md := (yX5_rail, cX5_rail, 2, (some .int))
set_option maxRecDepth 50000 in
theorem mdX5_rail : MdV muX5_rail 0 := ⟨⟨List.mem_of_getElem? (i := 547) rfl, List.mem_of_getElem? qw63, ⟨by decide, by decide, by decide +kernel⟩, by decide⟩, List.mem_of_getElem? qw545, List.mem_of_getElem? qw546⟩
abbrev muX5_sheet : Md := (yX5_sheet, cX5_sheet, 6, (some .int))
set_option maxRecDepth 50000 in
theorem mdX5_sheet : MdV muX5_sheet 3 := ⟨⟨List.mem_of_getElem? (i := 678) rfl, List.mem_of_getElem? qw63, ⟨by decide, by decide, by decide +kernel⟩, by decide⟩, List.mem_of_getElem? qw676, List.mem_of_getElem? qw677⟩
abbrev muX5_write : Md := (yX5_write, cX5_write, 9, (some .long))
set_option maxRecDepth 50000 in
theorem mdX5_write : MdV muX5_write 3 := ⟨⟨List.mem_of_getElem? (i := 690) rfl, List.mem_of_getElem? qw63, ⟨by decide, by decide, by decide +kernel⟩, by decide⟩, List.mem_of_getElem? qw688, List.mem_of_getElem? qw689⟩
abbrev muX5_copy : Md := (yX5_copy, cX5_copy, 8, (some .int))
set_option maxRecDepth 50000 in
theorem mdX5_copy : MdV muX5_copy 5 := ⟨⟨List.mem_of_getElem? (i := 707) rfl, List.mem_of_getElem? qw63, ⟨by decide, by decide, by decide +kernel⟩, by decide⟩, List.mem_of_getElem? qw705, List.mem_of_getElem? qw706⟩
abbrev muX5_lays : Md := (yX5_lays, cX5_lays, 9, (some .int))
set_option maxRecDepth 50000 in
theorem mdX5_lays : MdV muX5_lays 1 := ⟨⟨List.mem_of_getElem? (i := 716) rfl, List.mem_of_getElem? qw63, ⟨by decide, by decide, by decide +kernel⟩, by decide⟩, List.mem_of_getElem? qw714, List.mem_of_getElem? qw715⟩
abbrev muX5_book : Md := (yX5_book, cX5_book, 6, (some .int))
set_option maxRecDepth 50000 in
theorem mdX5_book : MdV muX5_book 1 := ⟨⟨List.mem_of_getElem? (i := 722) rfl, List.mem_of_getElem? qw63, ⟨by decide, by decide, by decide +kernel⟩, by decide⟩, List.mem_of_getElem? qw720, List.mem_of_getElem? qw721⟩
abbrev muX5_read : Md := (yX5_read, cX5_read, 9, (some .int))
set_option maxRecDepth 50000 in
theorem mdX5_read : MdV muX5_read 1 := ⟨⟨List.mem_of_getElem? (i := 727) rfl, List.mem_of_getElem? qw63, ⟨by decide, by decide, by decide +kernel⟩, by decide⟩, List.mem_of_getElem? qw725, List.mem_of_getElem? qw726⟩
abbrev muX5_image : Md := (yX5_image, cX5_image, 1, (some .int))
set_option maxRecDepth 50000 in
theorem mdX5_image : MdV muX5_image 0 := ⟨⟨List.mem_of_getElem? (i := 732) rfl, List.mem_of_getElem? qw63, ⟨by decide, by decide, by decide +kernel⟩, by decide⟩, List.mem_of_getElem? qw730, List.mem_of_getElem? qw731⟩
abbrev muX5_undo : Md := (yX5_undo, cX5_undo, 1, (some .int))
set_option maxRecDepth 50000 in
theorem mdX5_undo : MdV muX5_undo 0 := ⟨⟨List.mem_of_getElem? (i := 736) rfl, List.mem_of_getElem? qw63, ⟨by decide, by decide, by decide +kernel⟩, by decide⟩, List.mem_of_getElem? qw734, List.mem_of_getElem? qw735⟩
abbrev muX5_tear : Md := (yX5_tear, cX5_tear, 2, (some .int))
set_option maxRecDepth 50000 in
theorem mdX5_tear : MdV muX5_tear 0 := ⟨⟨List.mem_of_getElem? (i := 740) rfl, List.mem_of_getElem? qw63, ⟨by decide, by decide, by decide +kernel⟩, by decide⟩, List.mem_of_getElem? qw738, List.mem_of_getElem? qw739⟩
abbrev muX5_count : Md := (yX5_count, cX5_count, 2, (some .int))
set_option maxRecDepth 50000 in
theorem mdX5_count : MdV muX5_count 1 := ⟨⟨List.mem_of_getElem? (i := 744) rfl, List.mem_of_getElem? qw63, ⟨by decide, by decide, by decide +kernel⟩, by decide⟩, List.mem_of_getElem? qw742, List.mem_of_getElem? qw743⟩
abbrev muX5_status : Md := (yX5_status, cX5_status, 4, (some .int))
set_option maxRecDepth 50000 in
theorem mdX5_status : MdV muX5_status 1 := ⟨⟨List.mem_of_getElem? (i := 748) rfl, List.mem_of_getElem? qw63, ⟨by decide, by decide, by decide +kernel⟩, by decide⟩, List.mem_of_getElem? qw746, List.mem_of_getElem? qw747⟩
abbrev muX5_told : Md := (yX5_told, cX5_told, 3, (some .int))
set_option maxRecDepth 50000 in
theorem mdX5_told : MdV muX5_told 1 := ⟨⟨List.mem_of_getElem? (i := 253) rfl, List.mem_of_getElem? qw63, ⟨by decide, by decide, by decide +kernel⟩, by decide⟩, List.mem_of_getElem? qw252, List.mem_of_getElem? qw0⟩
abbrev muX5_findingAgainstTaking : Md := (yX5_findingAgainstTaking, cX5_findingAgainstTaking, 3, (some .int))
set_option maxRecDepth 50000 in
theorem mdX5_findingAgainstTaking : MdV muX5_findingAgainstTaking 2 := ⟨⟨List.mem_of_getElem? (i := 363) rfl, List.mem_of_getElem? qw63, ⟨by decide, by decide, by decide +kernel⟩, by decide⟩, List.mem_of_getElem? qw362, List.mem_of_getElem? qw1⟩
abbrev muX5_findingAgainstSheet : Md := (yX5_findingAgainstSheet, cX5_findingAgainstSheet, 2, (some .int))
set_option maxRecDepth 50000 in
theorem mdX5_findingAgainstSheet : MdV muX5_findingAgainstSheet 1 := ⟨⟨List.mem_of_getElem? (i := 694) rfl, List.mem_of_getElem? qw63, ⟨by decide, by decide, by decide +kernel⟩, by decide⟩, List.mem_of_getElem? qw693, List.mem_of_getElem? qw17⟩
abbrev muX5_howManyFall : Md := (yX5_howManyFall, cX5_howManyFall, 4, (some .int))
set_option maxRecDepth 50000 in
theorem mdX5_howManyFall : MdV muX5_howManyFall 2 := ⟨⟨List.mem_of_getElem? (i := 461) rfl, List.mem_of_getElem? qw63, ⟨by decide, by decide, by decide +kernel⟩, by decide⟩, List.mem_of_getElem? qw460, List.mem_of_getElem? qw3⟩
abbrev muX5_harm : Md := (yX5_harm, cX5_harm, 4, (some .int))
set_option maxRecDepth 50000 in
theorem mdX5_harm : MdV muX5_harm 2 := ⟨⟨List.mem_of_getElem? (i := 479) rfl, List.mem_of_getElem? qw63, ⟨by decide, by decide, by decide +kernel⟩, by decide⟩, List.mem_of_getElem? qw478, List.mem_of_getElem? qw4⟩
abbrev muX5_betterFacing : Md := (yX5_betterFacing, cX5_betterFacing, 3, (some .int))
set_option maxRecDepth 50000 in
theorem mdX5_betterFacing : MdV muX5_betterFacing 2 := ⟨⟨List.mem_of_getElem? (i := 500) rfl, List.mem_of_getElem? qw63, ⟨by decide, by decide, by decide +kernel⟩, by decide⟩, List.mem_of_getElem? qw499, List.mem_of_getElem? qw5⟩
abbrev muX5_isPlace : Md := (yX5_isPlace, cX5_isPlace, 1, (some .boolean))
set_option maxRecDepth 50000 in
theorem mdX5_isPlace : MdS muX5_isPlace 1 := ⟨⟨List.mem_of_getElem? (i := 306) rfl, List.mem_of_getElem? qw63, ⟨by decide, by decide, by decide +kernel⟩, by decide⟩, List.mem_of_getElem? qw305⟩
abbrev muX5_isSheet : Md := (yX5_isSheet, cX5_isSheet, 1, (some .boolean))
set_option maxRecDepth 50000 in
theorem mdX5_isSheet : MdS muX5_isSheet 1 := ⟨⟨List.mem_of_getElem? (i := 681) rfl, List.mem_of_getElem? qw63, ⟨by decide, by decide, by decide +kernel⟩, by decide⟩, List.mem_of_getElem? qw680⟩
abbrev muX5_contains : Md := (yX5_contains, cX5_contains, 2, (some .boolean))
set_option maxRecDepth 50000 in
theorem mdX5_contains : MdS muX5_contains 2 := ⟨⟨List.mem_of_getElem? (i := 397) rfl, List.mem_of_getElem? qw63, ⟨by decide, by decide, by decide +kernel⟩, by decide⟩, List.mem_of_getElem? qw396⟩
abbrev muX5_isKind : Md := (yX5_isKind, cX5_isKind, 1, (some .boolean))
set_option maxRecDepth 50000 in
theorem mdX5_isKind : MdS muX5_isKind 1 := ⟨⟨List.mem_of_getElem? (i := 248) rfl, List.mem_of_getElem? qw63, ⟨by decide, by decide, by decide +kernel⟩, by decide⟩, List.mem_of_getElem? qw247⟩
abbrev muX5_above : Md := (yX5_above, cX5_above, 1, (some .int))
set_option maxRecDepth 50000 in
theorem mdX5_above : MdS muX5_above 1 := ⟨⟨List.mem_of_getElem? (i := 294) rfl, List.mem_of_getElem? qw63, ⟨by decide, by decide, by decide +kernel⟩, by decide⟩, List.mem_of_getElem? qw293⟩
abbrev muX5_isUnder : Md := (yX5_isUnder, cX5_isUnder, 4, (some .boolean))
set_option maxRecDepth 50000 in
theorem mdX5_isUnder : MdS muX5_isUnder 2 := ⟨⟨List.mem_of_getElem? (i := 291) rfl, List.mem_of_getElem? qw63, ⟨by decide, by decide, by decide +kernel⟩, by decide⟩, List.mem_of_getElem? qw290⟩
abbrev muX5_isCatch : Md := (yX5_isCatch, cX5_isCatch, 6, (some .boolean))
set_option maxRecDepth 50000 in
theorem mdX5_isCatch : MdS muX5_isCatch 4 := ⟨⟨List.mem_of_getElem? (i := 387) rfl, List.mem_of_getElem? qw63, ⟨by decide, by decide, by decide +kernel⟩, by decide⟩, List.mem_of_getElem? qw386⟩
abbrev muX5_holds : Md := (yX5_holds, cX5_holds, 4, (some .int))
set_option maxRecDepth 50000 in
theorem mdX5_holds : MdS muX5_holds 1 := ⟨⟨List.mem_of_getElem? (i := 273) rfl, List.mem_of_getElem? qw63, ⟨by decide, by decide, by decide +kernel⟩, by decide⟩, List.mem_of_getElem? qw272⟩
abbrev muX5_need : Md := (yX5_need, cX5_need, 2, (some .int))
set_option maxRecDepth 50000 in
theorem mdX5_need : MdS muX5_need 1 := ⟨⟨List.mem_of_getElem? (i := 276) rfl, List.mem_of_getElem? qw63, ⟨by decide, by decide, by decide +kernel⟩, by decide⟩, List.mem_of_getElem? qw275⟩
abbrev muX5_kindName : Md := (yX5_kindName, cX5_kindName, 1, (some (.object "java/lang/String")))
set_option maxRecDepth 50000 in
theorem mdX5_kindName : MdS muX5_kindName 1 := ⟨⟨List.mem_of_getElem? (i := 645) rfl, List.mem_of_getElem? qw63, ⟨by decide, by decide, by decide +kernel⟩, by decide⟩, List.mem_of_getElem? qw644⟩
abbrev muX6_in : Md := (yX6_in, cX6_in, 6, (some .boolean))
set_option maxRecDepth 50000 in
theorem mdX6_in : MdS muX6_in 3 := ⟨⟨List.mem_of_getElem? (i := 823) rfl, List.mem_of_getElem? qw69, ⟨by decide, by decide, by decide +kernel⟩, by decide⟩, List.mem_of_getElem? qw822⟩
abbrev muX6_finds : Md := (yX6_finds, cX6_finds, 2, (some .int))
set_option maxRecDepth 50000 in
theorem mdX6_finds : MdV muX6_finds 1 := ⟨⟨List.mem_of_getElem? (i := 828) rfl, List.mem_of_getElem? qw69, ⟨by decide, by decide, by decide +kernel⟩, by decide⟩, List.mem_of_getElem? qw827, List.mem_of_getElem? qw18⟩
abbrev muX6_keepsAside : Md := (yX6_keepsAside, cX6_keepsAside, 2, none)
set_option maxRecDepth 50000 in
theorem mdX6_keepsAside : MdV muX6_keepsAside 0 := ⟨⟨List.mem_of_getElem? (i := 1096) rfl, List.mem_of_getElem? qw69, ⟨by decide, by decide, by decide +kernel⟩, by decide⟩, List.mem_of_getElem? qw1095, List.mem_of_getElem? qw49⟩
abbrev muX6_putsBack : Md := (yX6_putsBack, cX6_putsBack, 2, none)
set_option maxRecDepth 50000 in
theorem mdX6_putsBack : MdV muX6_putsBack 0 := ⟨⟨List.mem_of_getElem? (i := 1163) rfl, List.mem_of_getElem? qw69, ⟨by decide, by decide, by decide +kernel⟩, by decide⟩, List.mem_of_getElem? qw1162, List.mem_of_getElem? qw60⟩
abbrev muX6_laysAside : Md := (yX6_laysAside, cX6_laysAside, 2, none)
set_option maxRecDepth 50000 in
theorem mdX6_laysAside : MdV muX6_laysAside 0 := ⟨⟨List.mem_of_getElem? (i := 1051) rfl, List.mem_of_getElem? qw69, ⟨by decide, by decide, by decide +kernel⟩, by decide⟩, List.mem_of_getElem? qw1050, List.mem_of_getElem? qw45⟩
abbrev muX6_takesBack : Md := (yX6_takesBack, cX6_takesBack, 3, (some .int))
set_option maxRecDepth 50000 in
theorem mdX6_takesBack : MdV muX6_takesBack 1 := ⟨⟨List.mem_of_getElem? (i := 1055) rfl, List.mem_of_getElem? qw69, ⟨by decide, by decide, by decide +kernel⟩, by decide⟩, List.mem_of_getElem? qw1054, List.mem_of_getElem? qw46⟩
abbrev muX6_becomes : Md := (yX6_becomes, cX6_becomes, 4, (some .int))
set_option maxRecDepth 50000 in
theorem mdX6_becomes : MdV muX6_becomes 2 := ⟨⟨List.mem_of_getElem? (i := 867) rfl, List.mem_of_getElem? qw69, ⟨by decide, by decide, by decide +kernel⟩, by decide⟩, List.mem_of_getElem? qw866, List.mem_of_getElem? qw24⟩
abbrev muX6_isPlace : Md := (yX6_isPlace, cX6_isPlace, 1, (some .boolean))
set_option maxRecDepth 50000 in
theorem mdX6_isPlace : MdS muX6_isPlace 1 := ⟨⟨List.mem_of_getElem? (i := 891) rfl, List.mem_of_getElem? qw69, ⟨by decide, by decide, by decide +kernel⟩, by decide⟩, List.mem_of_getElem? qw890⟩
abbrev muX6_isHanger : Md := (yX6_isHanger, cX6_isHanger, 2, (some .boolean))
set_option maxRecDepth 50000 in
theorem mdX6_isHanger : MdV muX6_isHanger 1 := ⟨⟨List.mem_of_getElem? (i := 844) rfl, List.mem_of_getElem? qw69, ⟨by decide, by decide, by decide +kernel⟩, by decide⟩, List.mem_of_getElem? qw843, List.mem_of_getElem? qw20⟩
abbrev muX6_isKind : Md := (yX6_isKind, cX6_isKind, 1, (some .boolean))
set_option maxRecDepth 50000 in
theorem mdX6_isKind : MdS muX6_isKind 1 := ⟨⟨List.mem_of_getElem? (i := 819) rfl, List.mem_of_getElem? qw69, ⟨by decide, by decide, by decide +kernel⟩, by decide⟩, List.mem_of_getElem? qw818⟩
abbrev muX6_spotOf : Md := (yX6_spotOf, cX6_spotOf, 2, (some .int))
set_option maxRecDepth 50000 in
theorem mdX6_spotOf : MdS muX6_spotOf 2 := ⟨⟨List.mem_of_getElem? (i := 836) rfl, List.mem_of_getElem? qw69, ⟨by decide, by decide, by decide +kernel⟩, by decide⟩, List.mem_of_getElem? qw835⟩
abbrev muX6_its : Md := (yX6_its, cX6_its, 3, (some .int))
set_option maxRecDepth 50000 in
theorem mdX6_its : MdV muX6_its 2 := ⟨⟨List.mem_of_getElem? (i := 849) rfl, List.mem_of_getElem? qw69, ⟨by decide, by decide, by decide +kernel⟩, by decide⟩, List.mem_of_getElem? qw848, List.mem_of_getElem? qw21⟩
abbrev muX6_isOn : Md := (yX6_isOn, cX6_isOn, 2, (some .boolean))
set_option maxRecDepth 50000 in
theorem mdX6_isOn : MdV muX6_isOn 1 := ⟨⟨List.mem_of_getElem? (i := 905) rfl, List.mem_of_getElem? qw69, ⟨by decide, by decide, by decide +kernel⟩, by decide⟩, List.mem_of_getElem? qw904, List.mem_of_getElem? qw26⟩
abbrev muX6_adds : Md := (yX6_adds, cX6_adds, 4, (some .int))
set_option maxRecDepth 50000 in
theorem mdX6_adds : MdV muX6_adds 1 := ⟨⟨List.mem_of_getElem? (i := 833) rfl, List.mem_of_getElem? qw69, ⟨by decide, by decide, by decide +kernel⟩, by decide⟩, List.mem_of_getElem? qw832, List.mem_of_getElem? qw19⟩
abbrev muX6_hanger : Md := (yX6_hanger, cX6_hanger, 2, (some .int))
set_option maxRecDepth 50000 in
theorem mdX6_hanger : MdV muX6_hanger 1 := ⟨⟨List.mem_of_getElem? (i := 816) rfl, List.mem_of_getElem? qw69, ⟨by decide, by decide, by decide +kernel⟩, by decide⟩, List.mem_of_getElem? qw814, List.mem_of_getElem? qw815⟩
abbrev muX6_holds : Md := (yX6_holds, cX6_holds, 2, (some .int))
set_option maxRecDepth 50000 in
theorem mdX6_holds : MdV muX6_holds 1 := ⟨⟨List.mem_of_getElem? (i := 853) rfl, List.mem_of_getElem? qw69, ⟨by decide, by decide, by decide +kernel⟩, by decide⟩, List.mem_of_getElem? qw852, List.mem_of_getElem? qw22⟩
abbrev muX6_needs : Md := (yX6_needs, cX6_needs, 3, (some .int))
set_option maxRecDepth 50000 in
theorem mdX6_needs : MdV muX6_needs 1 := ⟨⟨List.mem_of_getElem? (i := 857) rfl, List.mem_of_getElem? qw69, ⟨by decide, by decide, by decide +kernel⟩, by decide⟩, List.mem_of_getElem? qw856, List.mem_of_getElem? qw23⟩
abbrev muX6_of : Md := (yX6_of, cX6_of, 3, (some .int))
set_option maxRecDepth 50000 in
theorem mdX6_of : MdV muX6_of 2 := ⟨⟨List.mem_of_getElem? (i := 840) rfl, List.mem_of_getElem? qw69, ⟨by decide, by decide, by decide +kernel⟩, by decide⟩, List.mem_of_getElem? qw838, List.mem_of_getElem? qw839⟩
abbrev muX6_set : Md := (yX6_set, cX6_set, 5, (some .int))
set_option maxRecDepth 50000 in
theorem mdX6_set : MdV muX6_set 3 := ⟨⟨List.mem_of_getElem? (i := 861) rfl, List.mem_of_getElem? qw69, ⟨by decide, by decide, by decide +kernel⟩, by decide⟩, List.mem_of_getElem? qw859, List.mem_of_getElem? qw860⟩
abbrev muX6_turn : Md := (yX6_turn, cX6_turn, 3, (some .int))
set_option maxRecDepth 50000 in
theorem mdX6_turn : MdV muX6_turn 2 := ⟨⟨List.mem_of_getElem? (i := 871) rfl, List.mem_of_getElem? qw69, ⟨by decide, by decide, by decide +kernel⟩, by decide⟩, List.mem_of_getElem? qw869, List.mem_of_getElem? qw870⟩
abbrev muX6_isUnder : Md := (yX6_isUnder, cX6_isUnder, 2, (some .boolean))
set_option maxRecDepth 50000 in
theorem mdX6_isUnder : MdS muX6_isUnder 2 := ⟨⟨List.mem_of_getElem? (i := 878) rfl, List.mem_of_getElem? qw69, ⟨by decide, by decide, by decide +kernel⟩, by decide⟩, List.mem_of_getElem? qw877⟩
abbrev muX6_as : Md := (yX6_as, cX6_as, 3, (some .int))
set_option maxRecDepth 50000 in
theorem mdX6_as : MdV muX6_as 2 := ⟨⟨List.mem_of_getElem? (i := 875) rfl, List.mem_of_getElem? qw69, ⟨by decide, by decide, by decide +kernel⟩, by decide⟩, List.mem_of_getElem? qw873, List.mem_of_getElem? qw874⟩
abbrev muX6_price : Md := (yX6_price, cX6_price, 2, (some .int))
set_option maxRecDepth 50000 in
theorem mdX6_price : MdV muX6_price 1 := ⟨⟨List.mem_of_getElem? (i := 883) rfl, List.mem_of_getElem? qw69, ⟨by decide, by decide, by decide +kernel⟩, by decide⟩, List.mem_of_getElem? qw881, List.mem_of_getElem? qw882⟩
abbrev muX6_who : Md := (yX6_who, cX6_who, 4, (some .int))
set_option maxRecDepth 50000 in
theorem mdX6_who : MdV muX6_who 1 := ⟨⟨List.mem_of_getElem? (i := 896) rfl, List.mem_of_getElem? qw69, ⟨by decide, by decide, by decide +kernel⟩, by decide⟩, List.mem_of_getElem? qw895, List.mem_of_getElem? qw25⟩
abbrev muX6_isFree : Md := (yX6_isFree, cX6_isFree, 2, (some .boolean))
set_option maxRecDepth 50000 in
theorem mdX6_isFree : MdV muX6_isFree 1 := ⟨⟨List.mem_of_getElem? (i := 909) rfl, List.mem_of_getElem? qw69, ⟨by decide, by decide, by decide +kernel⟩, by decide⟩, List.mem_of_getElem? qw908, List.mem_of_getElem? qw27⟩
abbrev muX6_at : Md := (yX6_at, cX6_at, 3, (some .int))
set_option maxRecDepth 50000 in
theorem mdX6_at : MdV muX6_at 1 := ⟨⟨List.mem_of_getElem? (i := 888) rfl, List.mem_of_getElem? qw69, ⟨by decide, by decide, by decide +kernel⟩, by decide⟩, List.mem_of_getElem? qw886, List.mem_of_getElem? qw887⟩
abbrev muX6_moved : Md := (yX6_moved, cX6_moved, 1, none)
set_option maxRecDepth 50000 in
theorem mdX6_moved : MdV muX6_moved 0 := ⟨⟨List.mem_of_getElem? (i := 918) rfl, List.mem_of_getElem? qw69, ⟨by decide, by decide, by decide +kernel⟩, by decide⟩, List.mem_of_getElem? qw917, List.mem_of_getElem? qw29⟩
abbrev muX6_ones : Md := (yX6_ones, cX6_ones, 3, (some .int))
set_option maxRecDepth 50000 in
theorem mdX6_ones : MdS muX6_ones 1 := ⟨⟨List.mem_of_getElem? (i := 925) rfl, List.mem_of_getElem? qw69, ⟨by decide, by decide, by decide +kernel⟩, by decide⟩, List.mem_of_getElem? qw924⟩
abbrev muX6_onRail : Md := (yX6_onRail, cX6_onRail, 3, (some .int))
set_option maxRecDepth 50000 in
theorem mdX6_onRail : MdV muX6_onRail 0 := ⟨⟨List.mem_of_getElem? (i := 922) rfl, List.mem_of_getElem? qw69, ⟨by decide, by decide, by decide +kernel⟩, by decide⟩, List.mem_of_getElem? qw921, List.mem_of_getElem? qw30⟩
abbrev muX6_hangs : Md := (yX6_hangs, cX6_hangs, 3, none)
set_option maxRecDepth 50000 in
theorem mdX6_hangs : MdV muX6_hangs 2 := ⟨⟨List.mem_of_getElem? (i := 914) rfl, List.mem_of_getElem? qw69, ⟨by decide, by decide, by decide +kernel⟩, by decide⟩, List.mem_of_getElem? qw913, List.mem_of_getElem? qw28⟩
abbrev muX6_hang : Md := (yX6_hang, cX6_hang, 3, (some .int))
set_option maxRecDepth 50000 in
theorem mdX6_hang : MdV muX6_hang 2 := ⟨⟨List.mem_of_getElem? (i := 901) rfl, List.mem_of_getElem? qw69, ⟨by decide, by decide, by decide +kernel⟩, by decide⟩, List.mem_of_getElem? qw899, List.mem_of_getElem? qw900⟩
abbrev muX6_face : Md := (yX6_face, cX6_face, 2, (some .int))
set_option maxRecDepth 50000 in
theorem mdX6_face : MdV muX6_face 1 := ⟨⟨List.mem_of_getElem? (i := 929) rfl, List.mem_of_getElem? qw69, ⟨by decide, by decide, by decide +kernel⟩, by decide⟩, List.mem_of_getElem? qw927, List.mem_of_getElem? qw928⟩
abbrev muX6_shift : Md := (yX6_shift, cX6_shift, 4, (some .int))
set_option maxRecDepth 50000 in
theorem mdX6_shift : MdV muX6_shift 2 := ⟨⟨List.mem_of_getElem? (i := 933) rfl, List.mem_of_getElem? qw69, ⟨by decide, by decide, by decide +kernel⟩, by decide⟩, List.mem_of_getElem? qw931, List.mem_of_getElem? qw932⟩
abbrev muX6_isCaught : Md := (yX6_isCaught, cX6_isCaught, 6, (some .boolean))
set_option maxRecDepth 50000 in
theorem mdX6_isCaught : MdV muX6_isCaught 2 := ⟨⟨List.mem_of_getElem? (i := 975) rfl, List.mem_of_getElem? qw69, ⟨by decide, by decide, by decide +kernel⟩, by decide⟩, List.mem_of_getElem? qw974, List.mem_of_getElem? qw38⟩
abbrev muX6_areTangled : Md := (yX6_areTangled, cX6_areTangled, 3, (some .boolean))
set_option maxRecDepth 50000 in
theorem mdX6_areTangled : MdV muX6_areTangled 2 := ⟨⟨List.mem_of_getElem? (i := 971) rfl, List.mem_of_getElem? qw69, ⟨by decide, by decide, by decide +kernel⟩, by decide⟩, List.mem_of_getElem? qw970, List.mem_of_getElem? qw37⟩
abbrev muX6_tangledWith : Md := (yX6_tangledWith, cX6_tangledWith, 4, (some .int))
set_option maxRecDepth 50000 in
theorem mdX6_tangledWith : MdV muX6_tangledWith 1 := ⟨⟨List.mem_of_getElem? (i := 967) rfl, List.mem_of_getElem? qw69, ⟨by decide, by decide, by decide +kernel⟩, by decide⟩, List.mem_of_getElem? qw966, List.mem_of_getElem? qw36⟩
abbrev muX6_heapOf : Md := (yX6_heapOf, cX6_heapOf, 5, (some .int))
set_option maxRecDepth 50000 in
theorem mdX6_heapOf : MdV muX6_heapOf 1 := ⟨⟨List.mem_of_getElem? (i := 963) rfl, List.mem_of_getElem? qw69, ⟨by decide, by decide, by decide +kernel⟩, by decide⟩, List.mem_of_getElem? qw962, List.mem_of_getElem? qw35⟩
abbrev muX6_comesBy : Md := (yX6_comesBy, cX6_comesBy, 3, (some .int))
set_option maxRecDepth 50000 in
theorem mdX6_comesBy : MdV muX6_comesBy 2 := ⟨⟨List.mem_of_getElem? (i := 959) rfl, List.mem_of_getElem? qw69, ⟨by decide, by decide, by decide +kernel⟩, by decide⟩, List.mem_of_getElem? qw958, List.mem_of_getElem? qw34⟩
abbrev muX6_mayTake : Md := (yX6_mayTake, cX6_mayTake, 4, (some .boolean))
set_option maxRecDepth 50000 in
theorem mdX6_mayTake : MdV muX6_mayTake 2 := ⟨⟨List.mem_of_getElem? (i := 951) rfl, List.mem_of_getElem? qw69, ⟨by decide, by decide, by decide +kernel⟩, by decide⟩, List.mem_of_getElem? qw950, List.mem_of_getElem? qw32⟩
abbrev muX6_fallers : Md := (yX6_fallers, cX6_fallers, 7, (some .int))
set_option maxRecDepth 50000 in
theorem mdX6_fallers : MdV muX6_fallers 2 := ⟨⟨List.mem_of_getElem? (i := 979) rfl, List.mem_of_getElem? qw69, ⟨by decide, by decide, by decide +kernel⟩, by decide⟩, List.mem_of_getElem? qw978, List.mem_of_getElem? qw39⟩
abbrev muX6_isManner : Md := (yX6_isManner, cX6_isManner, 1, (some .boolean))
set_option maxRecDepth 50000 in
theorem mdX6_isManner : MdS muX6_isManner 1 := ⟨⟨List.mem_of_getElem? (i := 946) rfl, List.mem_of_getElem? qw69, ⟨by decide, by decide, by decide +kernel⟩, by decide⟩, List.mem_of_getElem? qw945⟩
abbrev muX6_wrongTaking : Md := (yX6_wrongTaking, cX6_wrongTaking, 3, (some .int))
set_option maxRecDepth 50000 in
theorem mdX6_wrongTaking : MdV muX6_wrongTaking 2 := ⟨⟨List.mem_of_getElem? (i := 943) rfl, List.mem_of_getElem? qw69, ⟨by decide, by decide, by decide +kernel⟩, by decide⟩, List.mem_of_getElem? qw942, List.mem_of_getElem? qw31⟩
abbrev muX6_takes : Md := (yX6_takes, cX6_takes, 6, (some .int))
set_option maxRecDepth 50000 in
theorem mdX6_takes : MdV muX6_takes 2 := ⟨⟨List.mem_of_getElem? (i := 955) rfl, List.mem_of_getElem? qw69, ⟨by decide, by decide, by decide +kernel⟩, by decide⟩, List.mem_of_getElem? qw954, List.mem_of_getElem? qw33⟩
abbrev muX6_take : Md := (yX6_take, cX6_take, 4, (some .int))
set_option maxRecDepth 50000 in
theorem mdX6_take : MdV muX6_take 2 := ⟨⟨List.mem_of_getElem? (i := 939) rfl, List.mem_of_getElem? qw69, ⟨by decide, by decide, by decide +kernel⟩, by decide⟩, List.mem_of_getElem? qw937, List.mem_of_getElem? qw938⟩
abbrev muX6_pairs : Md := (yX6_pairs, cX6_pairs, 3, (some .int))
set_option maxRecDepth 50000 in
theorem mdX6_pairs : MdV muX6_pairs 0 := ⟨⟨List.mem_of_getElem? (i := 987) rfl, List.mem_of_getElem? qw69, ⟨by decide, by decide, by decide +kernel⟩, by decide⟩, List.mem_of_getElem? qw986, List.mem_of_getElem? qw40⟩
abbrev muX6_shirts : Md := (yX6_shirts, cX6_shirts, 3, (some .int))
set_option maxRecDepth 50000 in
theorem mdX6_shirts : MdV muX6_shirts 0 := ⟨⟨List.mem_of_getElem? (i := 991) rfl, List.mem_of_getElem? qw69, ⟨by decide, by decide, by decide +kernel⟩, by decide⟩, List.mem_of_getElem? qw990, List.mem_of_getElem? qw41⟩
abbrev muX6_together : Md := (yX6_together, cX6_together, 4, (some .int))
set_option maxRecDepth 50000 in
theorem mdX6_together : MdV muX6_together 1 := ⟨⟨List.mem_of_getElem? (i := 995) rfl, List.mem_of_getElem? qw69, ⟨by decide, by decide, by decide +kernel⟩, by decide⟩, List.mem_of_getElem? qw994, List.mem_of_getElem? qw42⟩
abbrev muX6_now : Md := (yX6_now, cX6_now, 2, (some .int))
set_option maxRecDepth 50000 in
theorem mdX6_now : MdV muX6_now 1 := ⟨⟨List.mem_of_getElem? (i := 983) rfl, List.mem_of_getElem? qw69, ⟨by decide, by decide, by decide +kernel⟩, by decide⟩, List.mem_of_getElem? qw981, List.mem_of_getElem? qw982⟩
abbrev muX6_tangled : Md := (yX6_tangled, cX6_tangled, 2, (some .int))
set_option maxRecDepth 50000 in
theorem mdX6_tangled : MdV muX6_tangled 1 := ⟨⟨List.mem_of_getElem? (i := 999) rfl, List.mem_of_getElem? qw69, ⟨by decide, by decide, by decide +kernel⟩, by decide⟩, List.mem_of_getElem? qw997, List.mem_of_getElem? qw998⟩
abbrev muX6_catches : Md := (yX6_catches, cX6_catches, 3, (some .int))
set_option maxRecDepth 50000 in
theorem mdX6_catches : MdV muX6_catches 2 := ⟨⟨List.mem_of_getElem? (i := 1003) rfl, List.mem_of_getElem? qw69, ⟨by decide, by decide, by decide +kernel⟩, by decide⟩, List.mem_of_getElem? qw1001, List.mem_of_getElem? qw1002⟩
abbrev muX6_comes : Md := (yX6_comes, cX6_comes, 4, (some .int))
set_option maxRecDepth 50000 in
theorem mdX6_comes : MdV muX6_comes 2 := ⟨⟨List.mem_of_getElem? (i := 1007) rfl, List.mem_of_getElem? qw69, ⟨by decide, by decide, by decide +kernel⟩, by decide⟩, List.mem_of_getElem? qw1005, List.mem_of_getElem? qw1006⟩
abbrev muX6_falls : Md := (yX6_falls, cX6_falls, 4, (some .int))
set_option maxRecDepth 50000 in
theorem mdX6_falls : MdV muX6_falls 2 := ⟨⟨List.mem_of_getElem? (i := 1011) rfl, List.mem_of_getElem? qw69, ⟨by decide, by decide, by decide +kernel⟩, by decide⟩, List.mem_of_getElem? qw1009, List.mem_of_getElem? qw1010⟩
abbrev muX6_findHeaps : Md := (yX6_findHeaps, cX6_findHeaps, 4, none)
set_option maxRecDepth 50000 in
theorem mdX6_findHeaps : MdV muX6_findHeaps 0 := ⟨⟨List.mem_of_getElem? (i := 1019) rfl, List.mem_of_getElem? qw69, ⟨by decide, by decide, by decide +kernel⟩, by decide⟩, List.mem_of_getElem? qw1018, List.mem_of_getElem? qw43⟩
abbrev muX6_heaps : Md := (yX6_heaps, cX6_heaps, 1, (some .int))
set_option maxRecDepth 50000 in
theorem mdX6_heaps : MdV muX6_heaps 0 := ⟨⟨List.mem_of_getElem? (i := 1015) rfl, List.mem_of_getElem? qw69, ⟨by decide, by decide, by decide +kernel⟩, by decide⟩, List.mem_of_getElem? qw1013, List.mem_of_getElem? qw1014⟩
abbrev muX6_greatest : Md := (yX6_greatest, cX6_greatest, 1, (some .int))
set_option maxRecDepth 50000 in
theorem mdX6_greatest : MdV muX6_greatest 0 := ⟨⟨List.mem_of_getElem? (i := 1023) rfl, List.mem_of_getElem? qw69, ⟨by decide, by decide, by decide +kernel⟩, by decide⟩, List.mem_of_getElem? qw1021, List.mem_of_getElem? qw1022⟩
abbrev muX6_manner : Md := (yX6_manner, cX6_manner, 6, (some .int))
set_option maxRecDepth 50000 in
theorem mdX6_manner : MdV muX6_manner 1 := ⟨⟨List.mem_of_getElem? (i := 1027) rfl, List.mem_of_getElem? qw69, ⟨by decide, by decide, by decide +kernel⟩, by decide⟩, List.mem_of_getElem? qw1025, List.mem_of_getElem? qw1026⟩
abbrev muX6_first : Md := (yX6_first, cX6_first, 5, (some .int))
set_option maxRecDepth 50000 in
theorem mdX6_first : MdV muX6_first 0 := ⟨⟨List.mem_of_getElem? (i := 1031) rfl, List.mem_of_getElem? qw69, ⟨by decide, by decide, by decide +kernel⟩, by decide⟩, List.mem_of_getElem? qw1029, List.mem_of_getElem? qw1030⟩
abbrev muX6_spot : Md := (yX6_spot, cX6_spot, 8, (some .int))
set_option maxRecDepth 50000 in
theorem mdX6_spot : MdV muX6_spot 1 := ⟨⟨List.mem_of_getElem? (i := 1035) rfl, List.mem_of_getElem? qw69, ⟨by decide, by decide, by decide +kernel⟩, by decide⟩, List.mem_of_getElem? qw1033, List.mem_of_getElem? qw1034⟩
abbrev muX6_facesAll : Md := (yX6_facesAll, cX6_facesAll, 3, none)
set_option maxRecDepth 50000 in
theorem mdX6_facesAll : MdV muX6_facesAll 1 := ⟨⟨List.mem_of_getElem? (i := 1043) rfl, List.mem_of_getElem? qw69, ⟨by decide, by decide, by decide +kernel⟩, by decide⟩, List.mem_of_getElem? qw1042, List.mem_of_getElem? qw44⟩
abbrev muX6_facing : Md := (yX6_facing, cX6_facing, 7, (some .int))
set_option maxRecDepth 50000 in
theorem mdX6_facing : MdV muX6_facing 0 := ⟨⟨List.mem_of_getElem? (i := 1039) rfl, List.mem_of_getElem? qw69, ⟨by decide, by decide, by decide +kernel⟩, by decide⟩, List.mem_of_getElem? qw1037, List.mem_of_getElem? qw1038⟩
abbrev muX6_clears : Md := (yX6_clears, cX6_clears, 5, (some .int))
set_option maxRecDepth 50000 in
theorem mdX6_clears : MdV muX6_clears 1 := ⟨⟨List.mem_of_getElem? (i := 1047) rfl, List.mem_of_getElem? qw69, ⟨by decide, by decide, by decide +kernel⟩, by decide⟩, List.mem_of_getElem? qw1045, List.mem_of_getElem? qw1046⟩
abbrev muX6_isUntangled : Md := (yX6_isUntangled, cX6_isUntangled, 4, (some .boolean))
set_option maxRecDepth 50000 in
theorem mdX6_isUntangled : MdV muX6_isUntangled 1 := ⟨⟨List.mem_of_getElem? (i := 1067) rfl, List.mem_of_getElem? qw69, ⟨by decide, by decide, by decide +kernel⟩, by decide⟩, List.mem_of_getElem? qw1066, List.mem_of_getElem? qw48⟩
abbrev muX6_fewestAway : Md := (yX6_fewestAway, cX6_fewestAway, 4, (some .int))
set_option maxRecDepth 50000 in
theorem mdX6_fewestAway : MdV muX6_fewestAway 0 := ⟨⟨List.mem_of_getElem? (i := 1063) rfl, List.mem_of_getElem? qw69, ⟨by decide, by decide, by decide +kernel⟩, by decide⟩, List.mem_of_getElem? qw1062, List.mem_of_getElem? qw47⟩
abbrev muX6_untangle : Md := (yX6_untangle, cX6_untangle, 1, (some .int))
set_option maxRecDepth 50000 in
theorem mdX6_untangle : MdV muX6_untangle 0 := ⟨⟨List.mem_of_getElem? (i := 1059) rfl, List.mem_of_getElem? qw69, ⟨by decide, by decide, by decide +kernel⟩, by decide⟩, List.mem_of_getElem? qw1057, List.mem_of_getElem? qw1058⟩
abbrev muX6_saves : Md := (yX6_saves, cX6_saves, 3, (some .int))
set_option maxRecDepth 50000 in
theorem mdX6_saves : MdV muX6_saves 0 := ⟨⟨List.mem_of_getElem? (i := 1071) rfl, List.mem_of_getElem? qw69, ⟨by decide, by decide, by decide +kernel⟩, by decide⟩, List.mem_of_getElem? qw1069, List.mem_of_getElem? qw1070⟩
abbrev muX6_feels : Md := (yX6_feels, cX6_feels, 6, (some .int))
set_option maxRecDepth 50000 in
theorem mdX6_feels : MdV muX6_feels 1 := ⟨⟨List.mem_of_getElem? (i := 1075) rfl, List.mem_of_getElem? qw69, ⟨by decide, by decide, by decide +kernel⟩, by decide⟩, List.mem_of_getElem? qw1073, List.mem_of_getElem? qw1074⟩
abbrev muX6_kind : Md := (yX6_kind, cX6_kind, 7, (some .int))
set_option maxRecDepth 50000 in
theorem mdX6_kind : MdV muX6_kind 1 := ⟨⟨List.mem_of_getElem? (i := 1079) rfl, List.mem_of_getElem? qw69, ⟨by decide, by decide, by decide +kernel⟩, by decide⟩, List.mem_of_getElem? qw1077, List.mem_of_getElem? qw1078⟩
abbrev muX6_feed : Md := (yX6_feed, cX6_feed, 4, (some .int))
set_option maxRecDepth 50000 in
theorem mdX6_feed : MdV muX6_feed 2 := ⟨⟨List.mem_of_getElem? (i := 1083) rfl, List.mem_of_getElem? qw69, ⟨by decide, by decide, by decide +kernel⟩, by decide⟩, List.mem_of_getElem? qw1081, List.mem_of_getElem? qw1082⟩
abbrev muX6_wipe : Md := (yX6_wipe, cX6_wipe, 2, (some .int))
set_option maxRecDepth 50000 in
theorem mdX6_wipe : MdV muX6_wipe 0 := ⟨⟨List.mem_of_getElem? (i := 1088) rfl, List.mem_of_getElem? qw69, ⟨by decide, by decide, by decide +kernel⟩, by decide⟩, List.mem_of_getElem? qw1086, List.mem_of_getElem? qw1087⟩
abbrev muX6_byteAt : Md := (yX6_byteAt, cX6_byteAt, 2, (some .int))
set_option maxRecDepth 50000 in
theorem mdX6_byteAt : MdV muX6_byteAt 1 := ⟨⟨List.mem_of_getElem? (i := 1104) rfl, List.mem_of_getElem? qw69, ⟨by decide, by decide, by decide +kernel⟩, by decide⟩, List.mem_of_getElem? qw1103, List.mem_of_getElem? qw51⟩
abbrev muX6_isLetter : Md := (yX6_isLetter, cX6_isLetter, 1, (some .boolean))
set_option maxRecDepth 50000 in
theorem mdX6_isLetter : MdS muX6_isLetter 1 := ⟨⟨List.mem_of_getElem? (i := 1107) rfl, List.mem_of_getElem? qw69, ⟨by decide, by decide, by decide +kernel⟩, by decide⟩, List.mem_of_getElem? qw1106⟩
abbrev muX6_isDigit : Md := (yX6_isDigit, cX6_isDigit, 1, (some .boolean))
set_option maxRecDepth 50000 in
theorem mdX6_isDigit : MdS muX6_isDigit 1 := ⟨⟨List.mem_of_getElem? (i := 1112) rfl, List.mem_of_getElem? qw69, ⟨by decide, by decide, by decide +kernel⟩, by decide⟩, List.mem_of_getElem? qw1111⟩
abbrev muX6_token : Md := (yX6_token, cX6_token, 3, none)
set_option maxRecDepth 50000 in
theorem mdX6_token : MdV muX6_token 0 := ⟨⟨List.mem_of_getElem? (i := 1100) rfl, List.mem_of_getElem? qw69, ⟨by decide, by decide, by decide +kernel⟩, by decide⟩, List.mem_of_getElem? qw1099, List.mem_of_getElem? qw50⟩
abbrev muX6_must : Md := (yX6_must, cX6_must, 2, none)
set_option maxRecDepth 50000 in
theorem mdX6_must : MdV muX6_must 1 := ⟨⟨List.mem_of_getElem? (i := 1142) rfl, List.mem_of_getElem? qw69, ⟨by decide, by decide, by decide +kernel⟩, by decide⟩, List.mem_of_getElem? qw1141, List.mem_of_getElem? qw56⟩
abbrev muX6_word : Md := (yX6_word, cX6_word, 4, (some .long))
set_option maxRecDepth 50000 in
theorem mdX6_word : MdV muX6_word 0 := ⟨⟨List.mem_of_getElem? (i := 1126) rfl, List.mem_of_getElem? qw69, ⟨by decide, by decide, by decide +kernel⟩, by decide⟩, List.mem_of_getElem? qw1125, List.mem_of_getElem? qw54⟩
abbrev muX6_number : Md := (yX6_number, cX6_number, 6, none)
set_option maxRecDepth 50000 in
theorem mdX6_number : MdV muX6_number 2 := ⟨⟨List.mem_of_getElem? (i := 1157) rfl, List.mem_of_getElem? qw69, ⟨by decide, by decide, by decide +kernel⟩, by decide⟩, List.mem_of_getElem? qw1156, List.mem_of_getElem? qw59⟩
abbrev muX6_kindHere : Md := (yX6_kindHere, cX6_kindHere, 3, (some .int))
set_option maxRecDepth 50000 in
theorem mdX6_kindHere : MdV muX6_kindHere 0 := ⟨⟨List.mem_of_getElem? (i := 1122) rfl, List.mem_of_getElem? qw69, ⟨by decide, by decide, by decide +kernel⟩, by decide⟩, List.mem_of_getElem? qw1121, List.mem_of_getElem? qw53⟩
abbrev muX6_atItem : Md := (yX6_atItem, cX6_atItem, 3, none)
set_option maxRecDepth 50000 in
theorem mdX6_atItem : MdV muX6_atItem 1 := ⟨⟨List.mem_of_getElem? (i := 1147) rfl, List.mem_of_getElem? qw69, ⟨by decide, by decide, by decide +kernel⟩, by decide⟩, List.mem_of_getElem? qw1146, List.mem_of_getElem? qw57⟩
abbrev muX6_numberHere : Md := (yX6_numberHere, cX6_numberHere, 3, (some .int))
set_option maxRecDepth 50000 in
theorem mdX6_numberHere : MdV muX6_numberHere 0 := ⟨⟨List.mem_of_getElem? (i := 1151) rfl, List.mem_of_getElem? qw69, ⟨by decide, by decide, by decide +kernel⟩, by decide⟩, List.mem_of_getElem? qw1150, List.mem_of_getElem? qw58⟩
abbrev muX6_hangerItem : Md := (yX6_hangerItem, cX6_hangerItem, 3, none)
set_option maxRecDepth 50000 in
theorem mdX6_hangerItem : MdV muX6_hangerItem 1 := ⟨⟨List.mem_of_getElem? (i := 1138) rfl, List.mem_of_getElem? qw69, ⟨by decide, by decide, by decide +kernel⟩, by decide⟩, List.mem_of_getElem? qw1137, List.mem_of_getElem? qw55⟩
abbrev muX6_item : Md := (yX6_item, cX6_item, 2, none)
set_option maxRecDepth 50000 in
theorem mdX6_item : MdV muX6_item 0 := ⟨⟨List.mem_of_getElem? (i := 1118) rfl, List.mem_of_getElem? qw69, ⟨by decide, by decide, by decide +kernel⟩, by decide⟩, List.mem_of_getElem? qw1117, List.mem_of_getElem? qw52⟩
abbrev muX6_rail : Md := (yX6_rail, cX6_rail, 2, (some .int))
set_option maxRecDepth 50000 in
theorem mdX6_rail : MdV muX6_rail 0 := ⟨⟨List.mem_of_getElem? (i := 1092) rfl, List.mem_of_getElem? qw69, ⟨by decide, by decide, by decide +kernel⟩, by decide⟩, List.mem_of_getElem? qw1090, List.mem_of_getElem? qw1091⟩
abbrev muX6_isOne : Md := (yX6_isOne, cX6_isOne, 1, (some .boolean))
set_option maxRecDepth 50000 in
theorem mdX6_isOne : MdS muX6_isOne 1 := ⟨⟨List.mem_of_getElem? (i := 1170) rfl, List.mem_of_getElem? qw69, ⟨by decide, by decide, by decide +kernel⟩, by decide⟩, List.mem_of_getElem? qw1169⟩
abbrev muX6_sheet : Md := (yX6_sheet, cX6_sheet, 5, (some .int))
set_option maxRecDepth 50000 in
theorem mdX6_sheet : MdV muX6_sheet 3 := ⟨⟨List.mem_of_getElem? (i := 1167) rfl, List.mem_of_getElem? qw69, ⟨by decide, by decide, by decide +kernel⟩, by decide⟩, List.mem_of_getElem? qw1165, List.mem_of_getElem? qw1166⟩
abbrev muX6_narrowed : Md := (yX6_narrowed, cX6_narrowed, 3, (some .long))
set_option maxRecDepth 50000 in
theorem mdX6_narrowed : MdS muX6_narrowed 2 := ⟨⟨List.mem_of_getElem? (i := 1184) rfl, List.mem_of_getElem? qw69, ⟨by decide, by decide, by decide +kernel⟩, by decide⟩, List.mem_of_getElem? qw1183⟩
abbrev muX6_wrongSheet : Md := (yX6_wrongSheet, cX6_wrongSheet, 2, (some .int))
set_option maxRecDepth 50000 in
theorem mdX6_wrongSheet : MdV muX6_wrongSheet 1 := ⟨⟨List.mem_of_getElem? (i := 1180) rfl, List.mem_of_getElem? qw69, ⟨by decide, by decide, by decide +kernel⟩, by decide⟩, List.mem_of_getElem? qw1179, List.mem_of_getElem? qw61⟩
abbrev muX6_write : Md := (yX6_write, cX6_write, 8, (some .long))
set_option maxRecDepth 50000 in
theorem mdX6_write : MdV muX6_write 3 := ⟨⟨List.mem_of_getElem? (i := 1176) rfl, List.mem_of_getElem? qw69, ⟨by decide, by decide, by decide +kernel⟩, by decide⟩, List.mem_of_getElem? qw1174, List.mem_of_getElem? qw1175⟩
abbrev muX6_copy : Md := (yX6_copy, cX6_copy, 7, (some .int))
set_option maxRecDepth 50000 in
theorem mdX6_copy : MdV muX6_copy 5 := ⟨⟨List.mem_of_getElem? (i := 1188) rfl, List.mem_of_getElem? qw69, ⟨by decide, by decide, by decide +kernel⟩, by decide⟩, List.mem_of_getElem? qw1186, List.mem_of_getElem? qw1187⟩
abbrev muX6_lays : Md := (yX6_lays, cX6_lays, 7, (some .int))
set_option maxRecDepth 50000 in
theorem mdX6_lays : MdV muX6_lays 1 := ⟨⟨List.mem_of_getElem? (i := 1192) rfl, List.mem_of_getElem? qw69, ⟨by decide, by decide, by decide +kernel⟩, by decide⟩, List.mem_of_getElem? qw1190, List.mem_of_getElem? qw1191⟩
abbrev muX6_book : Md := (yX6_book, cX6_book, 6, (some .int))
set_option maxRecDepth 50000 in
theorem mdX6_book : MdV muX6_book 1 := ⟨⟨List.mem_of_getElem? (i := 1196) rfl, List.mem_of_getElem? qw69, ⟨by decide, by decide, by decide +kernel⟩, by decide⟩, List.mem_of_getElem? qw1194, List.mem_of_getElem? qw1195⟩
abbrev muX6_read : Md := (yX6_read, cX6_read, 10, (some .int))
set_option maxRecDepth 50000 in
theorem mdX6_read : MdV muX6_read 1 := ⟨⟨List.mem_of_getElem? (i := 1201) rfl, List.mem_of_getElem? qw69, ⟨by decide, by decide, by decide +kernel⟩, by decide⟩, List.mem_of_getElem? qw1199, List.mem_of_getElem? qw1200⟩
abbrev muX6_image : Md := (yX6_image, cX6_image, 2, (some .int))
set_option maxRecDepth 50000 in
theorem mdX6_image : MdV muX6_image 0 := ⟨⟨List.mem_of_getElem? (i := 1205) rfl, List.mem_of_getElem? qw69, ⟨by decide, by decide, by decide +kernel⟩, by decide⟩, List.mem_of_getElem? qw1203, List.mem_of_getElem? qw1204⟩
abbrev muX6_undo : Md := (yX6_undo, cX6_undo, 2, (some .int))
set_option maxRecDepth 50000 in
theorem mdX6_undo : MdV muX6_undo 0 := ⟨⟨List.mem_of_getElem? (i := 1209) rfl, List.mem_of_getElem? qw69, ⟨by decide, by decide, by decide +kernel⟩, by decide⟩, List.mem_of_getElem? qw1207, List.mem_of_getElem? qw1208⟩
abbrev muX6_tear : Md := (yX6_tear, cX6_tear, 2, (some .int))
set_option maxRecDepth 50000 in
theorem mdX6_tear : MdV muX6_tear 0 := ⟨⟨List.mem_of_getElem? (i := 1213) rfl, List.mem_of_getElem? qw69, ⟨by decide, by decide, by decide +kernel⟩, by decide⟩, List.mem_of_getElem? qw1211, List.mem_of_getElem? qw1212⟩
abbrev muX6_count : Md := (yX6_count, cX6_count, 2, (some .int))
set_option maxRecDepth 50000 in
theorem mdX6_count : MdV muX6_count 1 := ⟨⟨List.mem_of_getElem? (i := 1217) rfl, List.mem_of_getElem? qw69, ⟨by decide, by decide, by decide +kernel⟩, by decide⟩, List.mem_of_getElem? qw1215, List.mem_of_getElem? qw1216⟩
abbrev muX6_status : Md := (yX6_status, cX6_status, 4, (some .int))
set_option maxRecDepth 50000 in
theorem mdX6_status : MdV muX6_status 1 := ⟨⟨List.mem_of_getElem? (i := 1221) rfl, List.mem_of_getElem? qw69, ⟨by decide, by decide, by decide +kernel⟩, by decide⟩, List.mem_of_getElem? qw1219, List.mem_of_getElem? qw1220⟩
abbrev muJ6_bitCount_0f7a4 : Md := (yJ6_bitCount_0f7a4, cJ6_bitCount_0f7a4, 1, (some .int))
set_option maxRecDepth 50000 in
theorem mdJ6_bitCount_0f7a4 : MdS muJ6_bitCount_0f7a4 1 := ⟨⟨List.mem_of_getElem? (i := 339) rfl, List.mem_of_getElem? qw71, ⟨by decide, by decide, by decide +kernel⟩, by decide⟩, List.mem_of_getElem? qw338⟩

/-- length() and charAt(k) of the text constant i -/
def f_slen (i : Nat) : Option Int32 := if i < 11 then some (nI (stN.getD i 0)) else none
def f_scat (i : Nat) (k : Int32) : Option Int32 := if i < 11 ∧ inR k (stN.getD i 0) then some ((stB.getD i []).getD k.toNatClampNeg 0) else none

section SIM5
variable {p : Program} {l : Launch} {e : Env} {R : Room} {s : State} {m : MethodId} {args : Array Value} {below : List Frame} {meth : Method} {c : Code} {w : Wx} {lo hi : Nat} {O : Mem} {nL : Nat} {cs sl : Nat} {Q : State → Prop} {ρ α β σ ε : Type} {r0 : ρ} {cc : ByteArray} {own : String} {ret : Option FieldType} {D pc : Nat} {lv : List (Option Value)} {st : List Value} {M : Mem} {X : Option α} {K : α → Option ρ}

theorem s_gets (G : Ok p s m args meth c w cc nL own ret hi R (Aw w) cs sl D) {C n d ref : String} {index i1 : Nat} {v : Value} (hZ : va_Z C n d v (Aw w) s s.heap) (q1 : lw_tbl[i1]? = some (.fieldLink own index ref n d)) (hs : ref = C) (hd : decode cc pc = .ok (.getstatic index, 3)) (kk : Sim p l e R s m args below meth c w lo hi O nL (Aw w) cs sl Q r0 (pc + 3) lv (v :: st) M X K) : Sim p l e R s m args below meth c w lo hi O nL (Aw w) cs sl Q r0 pc lv st M X K := fun hx H locs ls hl hP hS => va_gets G.1 G.2.1 hZ hS G.2.2.2.1 (G.2.2.2.2.1 _ (List.mem_of_getElem? q1) rfl) (fun _ h => hs ▸ h) hd (kk hx H locs ls hl hP hS)
theorem s_getK (G : Ok p s m args meth c w cc nL own ret hi R (Aw w) cs sl D) {n d : String} {index i1 j : Nat} {v : Value} (hE : va_OF "java/lang/String" n d v (w.2.2.2.1 j) (Aw w) s s.heap) (q1 : lw_tbl[i1]? = some (.fieldLink own index "java/lang/String" n d)) (hd : decode cc pc = .ok (.getfield index, 3)) (kk : Sim p l e R s m args below meth c w lo hi O nL (Aw w) cs sl Q r0 (pc + 3) lv (v :: st) M X K) : Sim p l e R s m args below meth c w lo hi O nL (Aw w) cs sl Q r0 pc lv (.ref (w.2.2.2.1 j) :: st) M X K := fun hx H locs ls hl hP hS => vk_getf G.1 G.2.1 hE hS G.2.2.2.1 (G.2.2.2.2.1 _ (List.mem_of_getElem? q1) rfl) (fun _ h => h) hd (kk hx H locs ls hl hP hS)
theorem s_alenK (G : Ok p s m args meth c w cc nL own ret hi R (Aw w) cs sl D) {j N : Nat} {f : Nat → Value} (hT : va_T .byte (w.2.2.2.2 j) N f (Aw w) s s.heap) (hd : decode cc pc = .ok (.arraylength, 1)) (kk : Sim p l e R s m args below meth c w lo hi O nL (Aw w) cs sl Q r0 (pc + 1) lv (.int (Int32.ofNat N) :: st) M X K) : Sim p l e R s m args below meth c w lo hi O nL (Aw w) cs sl Q r0 pc lv (.ref (w.2.2.2.2 j) :: st) M X K := fun hx H locs ls hl hP hS => va_tlen G.1 G.2.1 hT hS rfl hd (kk hx H locs ls hl hP hS)
theorem s_baldK (G : Ok p s m args meth c w cc nL own ret hi R (Aw w) cs sl D) {j N : Nat} {f : Nat → Value} {i : Int32} {v : Value} (hT : va_T .byte (w.2.2.2.2 j) N f (Aw w) s s.heap) (hin : inR i N) (hv : f i.toNatClampNeg = v) (hd : decode cc pc = .ok (.baload, 1)) (kk : Sim p l e R s m args below meth c w lo hi O nL (Aw w) cs sl Q r0 (pc + 1) lv (v :: st) M X K) : Sim p l e R s m args below meth c w lo hi O nL (Aw w) cs sl Q r0 pc lv (.int i :: .ref (w.2.2.2.2 j) :: st) M X K := fun hx H locs ls hl hP hS => va_tb G.1 G.2.1 hT hS (inR_in hin) hv hd (kk hx H locs ls hl hP hS)
theorem s_i2c (G : Ok p s m args meth c w cc nL own ret hi R (Aw w) cs sl D) {x : Int32} (hd : decode cc pc = .ok (.i2c, 1)) (kk : Sim p l e R s m args below meth c w lo hi O nL (Aw w) cs sl Q r0 (pc + 1) lv (.int (x.toUInt32 % 65536).toInt32 :: st) M X K) : Sim p l e R s m args below meth c w lo hi O nL (Aw w) cs sl Q r0 pc lv (.int x :: st) M X K := fun hx H locs ls hl hP hS => lv_i2c G.1 G.2.1 hd rfl (kk hx H locs ls hl hP hS)
theorem s_callK (G : Ok p s m args meth c w cc nL own ret hi R (Aw w) cs sl D) {μ : Md} {n d j index i1 : Nat} {as st0 : List Value} {γ : Type} {y : Option γ} {f : γ → Option α} (toV : γ → Option Value) (toM : γ → Mem) (hm : MdV μ n) (hj : j < 11) (hC : ∀ z, y = some z → Ct w lo hi O l d μ (.ref (w.2.2.2.1 j) :: as) M (toV z, toM z)) (hcl : μ.1.cls = "java/lang/String") (q1 : lw_tbl[i1]? = some (.methodLink own index μ.1)) (hn : as.length = n) (hst : st0 = as.reverse ++ .ref (w.2.2.2.1 j) :: st) (hw : (st.map fun v => v.category).sum ≤ 8) (hdD : d < D) (hd : decode cc pc = .ok (.invokevirtual index, 3)) (kk : ∀ z, Sim p l e R s m args below meth c w lo hi O nL (Aw w) cs sl Q r0 (pc + 3) lv ((toV z).toList ++ st) (toM z) (f z) K) : Sim p l e R s m args below meth c w lo hi O nL (Aw w) cs sl Q r0 pc lv st0 M (Option.bind y f) K := by
  intro hx H locs ls hl hP hS
  cases hy : y with
  | none => rw [hy] at hx; simp at hx
  | some z =>
    rw [hy] at hx
    subst hst
    have hts : ∀ x ∈ lw_tbl.filter goodWord, x.before args s = true := fun x h => G.2.2.2.2.1 x (List.mem_filter.mp h).1 (List.mem_filter.mp h).2
    have hrec := vk_recv G.2.2.2.2.2.2.1.1 hj hS
    rw [← hcl] at hrec
    refine call_at G hl hS (va_runV (Ts := lw_tbl.filter goodWord) ⟨G.1, G.2.1, G.2.2.1, G.2.2.2.1, hts⟩ (hC z hy) (C := μ.1.cls) (index := index) (bytes := μ.2.1) (maxL := μ.2.2.1) (ret := μ.2.2.2) (n := n) ⟨callB_of n hts (good_wsM hm.1.1) rfl rfl rfl (G.2.2.2.2.1 _ hm.1.2.1 rfl) (G.2.2.2.2.1 _ (List.mem_of_getElem? q1) rfl) hm.1.2.2.1 ?_, G.2.2.2.2.1 _ hm.2.1 rfl, G.2.2.2.2.1 _ hm.2.2 rfl⟩ ⟨blind_PreM w lo hi O (.ref (w.2.2.2.1 j) :: as) M, hrec, pre_at G hP hS (fun _ h _ => h)⟩ rfl hn hl.1 rfl (lv_room hw) hd ⟨G.2.2.2.2.2.2.2.2.2.2.2.2.1, G.2.2.2.2.2.2.2.2.2.2.2.2.2.1⟩) (kk z hx)
    have h1 := G.2.2.2.2.2.2.2.2.2.2.2.2.2.2.1
    have h2 := G.2.2.2.2.2.2.2.2.2.2.2.2.2.2.2
    have h3 := hm.1.2.2.2
    constructor
    · show d + 1 ≤ _
      omega
    · show 8 + (μ.2.2.1 + 11) + 64 * d ≤ _
      omega
end SIM5
abbrev muJ0_length_8abf5 : Md := (yJ0_length_8abf5, cJ0_length_8abf5, 1, (some .int))
set_option maxRecDepth 50000 in
theorem mdJ0_length_8abf5 : MdV muJ0_length_8abf5 0 := ⟨⟨List.mem_of_getElem? (i := 590) rfl, List.mem_of_getElem? qw73, ⟨by decide, by decide, by decide +kernel⟩, by decide⟩, List.mem_of_getElem? qw588, List.mem_of_getElem? qw589⟩
abbrev muJ0_charAt_5068e : Md := (yJ0_charAt_5068e, cJ0_charAt_5068e, 2, (some .char))
set_option maxRecDepth 50000 in
theorem mdJ0_charAt_5068e : MdV muJ0_charAt_5068e 1 := ⟨⟨List.mem_of_getElem? (i := 600) rfl, List.mem_of_getElem? qw73, ⟨by decide, by decide, by decide +kernel⟩, by decide⟩, List.mem_of_getElem? qw598, List.mem_of_getElem? qw599⟩
abbrev muJ0_coder_7d493 : Md := (yJ0_coder_7d493, cJ0_coder_7d493, 1, (some .byte))
set_option maxRecDepth 50000 in
theorem mdJ0_coder_7d493 : MdV muJ0_coder_7d493 0 := ⟨⟨List.mem_of_getElem? (i := 594) rfl, List.mem_of_getElem? qw73, ⟨by decide, by decide, by decide +kernel⟩, by decide⟩, List.mem_of_getElem? qw592, List.mem_of_getElem? qw593⟩
abbrev muJ0_isLatin1_aae02 : Md := (yJ0_isLatin1_aae02, cJ0_isLatin1_aae02, 1, (some .boolean))
set_option maxRecDepth 50000 in
theorem mdJ0_isLatin1_aae02 : MdV muJ0_isLatin1_aae02 0 := ⟨⟨List.mem_of_getElem? (i := 604) rfl, List.mem_of_getElem? qw73, ⟨by decide, by decide, by decide +kernel⟩, by decide⟩, List.mem_of_getElem? qw602, List.mem_of_getElem? qw603⟩
abbrev muJ0_checkIndex_df160 : Md := (yJ0_checkIndex_df160, cJ0_checkIndex_df160, 2, none)
set_option maxRecDepth 50000 in
theorem mdJ0_checkIndex_df160 : MdS muJ0_checkIndex_df160 2 := ⟨⟨List.mem_of_getElem? (i := 610) rfl, List.mem_of_getElem? qw73, ⟨by decide, by decide, by decide +kernel⟩, by decide⟩, List.mem_of_getElem? qw609⟩
abbrev muJ1_charAt_3b067 : Md := (yJ1_charAt_3b067, cJ1_charAt_3b067, 2, (some .char))
set_option maxRecDepth 50000 in
theorem mdJ1_charAt_3b067 : MdS muJ1_charAt_3b067 2 := ⟨⟨List.mem_of_getElem? (i := 607) rfl, List.mem_of_getElem? qw74, ⟨by decide, by decide, by decide +kernel⟩, by decide⟩, List.mem_of_getElem? qw606⟩
abbrev muJ3_checkIndex_8e157 : Md := (yJ3_checkIndex_8e157, cJ3_checkIndex_8e157, 3, (some .int))
set_option maxRecDepth 50000 in
theorem mdJ3_checkIndex_8e157 : MdS muJ3_checkIndex_8e157 3 := ⟨⟨List.mem_of_getElem? (i := 615) rfl, List.mem_of_getElem? qw75, ⟨by decide, by decide, by decide +kernel⟩, by decide⟩, List.mem_of_getElem? qw614⟩
set_option maxRecDepth 100000 in
set_option maxHeartbeats 4000000 in
theorem c_coder (w : Wx) (lo hi : Nat) (O : Mem) (l : Launch) (j : Nat) (hj : j < 11) (M : Mem) : Ct w lo hi O l 0 muJ0_coder_7d493 [.ref (w.2.2.2.1 j)] M (some (.int 0), M) := by
  refine ct_of (X := (if (1 : Int32) = 0 then none else some ())) (K := fun _ => some (some (.int 0), M)) [some (.ref (w.2.2.2.1 j))] rfl rfl (Nat.le_of_ble_eq_true rfl) (by simp) ?_
  intro p e s m args below meth c G
  have hs := (G.2.2.2.2.2.2.1).1.1 j hj
  refine s_gets G (G.2.2.2.2.2.2.1).2.1 qw595 rfl dJ0_coder_7d493_0 ?_
  refine s_if_eq (tgt := 13) G dJ0_coder_7d493_3 (by decide) ?_ ?_
  · exact s_none (by first | rfl | exact absurd rfl (by decide))
  · refine s_aload_n G dJ0_coder_7d493_6 rfl ?_
    refine s_getK G hs.2.1 qw1224 dJ0_coder_7d493_7 ?_
    refine s_goto (tgt := 14) G dJ0_coder_7d493_10 (by decide) ?_
    exact s_zret G rfl rfl rfl dJ0_coder_7d493_14
set_option maxRecDepth 100000 in
set_option maxHeartbeats 4000000 in
theorem c_isLatin1 (w : Wx) (lo hi : Nat) (O : Mem) (l : Launch) (j : Nat) (hj : j < 11) (M : Mem) : Ct w lo hi O l 0 muJ0_isLatin1_aae02 [.ref (w.2.2.2.1 j)] M (some (.int 1), M) := by
  refine ct_of (X := (if (1 : Int32) = 0 then none else if (0 : Int32) = 0 then some () else none)) (K := fun _ => some (some (.int 1), M)) [some (.ref (w.2.2.2.1 j))] rfl rfl (Nat.le_of_ble_eq_true rfl) (by simp) ?_
  intro p e s m args below meth c G
  have hs := (G.2.2.2.2.2.2.1).1.1 j hj
  refine s_gets G (G.2.2.2.2.2.2.1).2.1 qw595 rfl dJ0_isLatin1_aae02_0 ?_
  refine s_if_eq (tgt := 17) G dJ0_isLatin1_aae02_3 (by decide) (s_none rfl) ?_
  refine s_aload_n G dJ0_isLatin1_aae02_6 rfl ?_
  refine s_getK G hs.2.1 qw1224 dJ0_isLatin1_aae02_7 ?_
  refine s_if_ne (tgt := 17) G dJ0_isLatin1_aae02_10 (by decide) ?_ (s_none rfl)
  refine s_iconst (v := 1) G dJ0_isLatin1_aae02_13 (by decide) ?_
  refine s_goto (tgt := 18) G dJ0_isLatin1_aae02_14 (by decide) ?_
  exact s_zret G rfl rfl rfl dJ0_isLatin1_aae02_18
set_option maxRecDepth 100000 in
set_option maxHeartbeats 4000000 in
theorem c_length (w : Wx) (lo hi : Nat) (O : Mem) (l : Launch) (j : Nat) (hj : j < 11) (M : Mem) : Ct w lo hi O l 1 muJ0_length_8abf5 [.ref (w.2.2.2.1 j)] M (some (.int (Int32.ofNat (stN.getD j 0))), M) := by
  refine ct_of (X := Option.bind (some (0 : Int32)) (fun z => some z)) (K := fun z => some (some (.int (Int32.ofNat (stN.getD j 0) >>> (z &&& 31))), M)) [some (.ref (w.2.2.2.1 j))] rfl rfl (Nat.le_of_ble_eq_true rfl) (by simp only [Option.bind_some]; rw [sb_shr0]) ?_
  intro p e s m args below meth c G
  have hs := (G.2.2.2.2.2.2.1).1.1 j hj
  refine s_aload_n G dJ0_length_8abf5_0 rfl ?_
  refine s_getK G hs.2.2.1 qw1223 dJ0_length_8abf5_1 ?_
  refine s_alenK G hs.2.2.2 dJ0_length_8abf5_4 ?_
  refine s_aload_n G dJ0_length_8abf5_5 rfl ?_
  refine s_callK (as := []) (st := [.int (Int32.ofNat (stN.getD j 0))]) G (fun z => some (.int z)) (fun _ => M) mdJ0_coder_7d493 hj (fun z hz => (by cases hz; exact c_coder w lo hi O l j hj M)) rfl qw591 rfl rfl (Nat.le_of_ble_eq_true rfl) (by decide) dJ0_length_8abf5_6 (fun z => ?_)
  refine s_ishr G dJ0_length_8abf5_9 ?_
  exact s_iret G rfl rfl dJ0_length_8abf5_10
set_option maxRecDepth 100000 in
set_option maxHeartbeats 4000000 in
theorem c_pcheck (w : Wx) (lo hi : Nat) (O : Mem) (l : Launch) (i n : Int32) (v : Value) (hv : v = .null ∨ ∃ t, v = .ref t) (h0 : ¬ i < 0) (h1 : i < n) (M : Mem) : Ct w lo hi O l 0 muJ3_checkIndex_8e157 [.int i, .int n, v] M (some (.int i), M) := by
  refine ct_of (X := (if i < 0 then none else if i < n then some () else none)) (K := fun _ => some (some (.int i), M)) [some (.int i), some (.int n), some v] rfl (by rcases hv with rfl | ⟨t, rfl⟩ <;> rfl) (by rcases hv with rfl | ⟨t, rfl⟩ <;> exact Nat.le_of_ble_eq_true rfl) (by rw [if_neg h0, if_pos h1]; rfl) ?_
  intro p e s m args below meth c G
  refine s_iload_n G dJ3_checkIndex_8e157_0 rfl ?_
  refine s_if_lt (tgt := 9) G dJ3_checkIndex_8e157_1 (by decide) (s_none rfl) ?_
  refine s_iload_n G dJ3_checkIndex_8e157_4 rfl ?_
  refine s_iload_n G dJ3_checkIndex_8e157_5 rfl ?_
  refine s_icmp_lt (tgt := 16) G dJ3_checkIndex_8e157_6 (by decide) ?_ (s_none rfl)
  refine s_iload_n G dJ3_checkIndex_8e157_16 rfl ?_
  exact s_iret G rfl rfl dJ3_checkIndex_8e157_17
set_option maxRecDepth 100000 in
set_option maxHeartbeats 4000000 in
theorem c_check (w : Wx) (lo hi : Nat) (O : Mem) (l : Launch) (i n : Int32) (h0 : ¬ i < 0) (h1 : i < n) (M : Mem) : Ct w lo hi O l 1 muJ0_checkIndex_df160 [.int i, .int n] M (none, M) := by
  refine ct_of (X := Option.bind (some i) (fun z => some ())) (K := fun _ => some (none, M)) [some (.int i), some (.int n)] rfl rfl (Nat.le_of_ble_eq_true rfl) rfl ?_
  intro p e s m args below meth c G
  refine s_iload_n G dJ0_checkIndex_df160_0 rfl ?_
  refine s_iload_n G dJ0_checkIndex_df160_1 rfl ?_
  have hq := (G.2.2.2.2.2.2.1).2.2
  obtain ⟨v, hv, hZ⟩ : ∃ v : Value, (v = .null ∨ ∃ t, v = .ref t) ∧ va_Z "jdk/internal/util/Preconditions" "SIOOBE_FORMATTER" "Ljava/util/function/BiFunction;" v (Aw w) s s.heap := by
    rcases hq with h | ⟨t, h⟩
    · exact ⟨.null, Or.inl rfl, h⟩
    · exact ⟨.ref t, Or.inr ⟨t, rfl⟩, h⟩
  refine s_gets G hZ qw611 rfl dJ0_checkIndex_df160_2 ?_
  refine s_callS (as := [.int i, .int n, v]) (st := []) G aw_self (fun z => some (.int z)) (fun _ => M) mdJ3_checkIndex_8e157 (fun z hz => (by cases hz; exact c_pcheck w lo hi O l i n v hv h0 h1 M)) qw613 rfl rfl (Nat.le_of_ble_eq_true rfl) (by decide) dJ0_checkIndex_df160_5 (fun z => ?_)
  refine s_pop G dJ0_checkIndex_df160_8 rfl ?_
  exact s_vret G rfl rfl dJ0_checkIndex_df160_9
set_option maxRecDepth 100000 in
set_option maxHeartbeats 4000000 in
theorem st_chars : ∀ j, j < 11 → ∀ k, k < stN.getD j 0 → (((stB.getD j []).getD k 0 &&& 255).toUInt32 % 65536).toInt32 = (stB.getD j []).getD k 0 ∧ narrow .char (.int ((stB.getD j []).getD k 0)) = .int ((stB.getD j []).getD k 0) := by decide +kernel
theorem c_latin (w : Wx) (lo hi : Nat) (O : Mem) (l : Launch) (j : Nat) (hj : j < 11) (i : Int32) (hi0 : inR i (stN.getD j 0)) (M : Mem) : Ct w lo hi O l 2 muJ1_charAt_3b067 [.ref (w.2.2.2.2 j), .int i] M (some (.int ((stB.getD j []).getD i.toNatClampNeg 0)), M) := by
  refine ct_of (X := Option.bind (some ()) (fun z => some ())) (K := fun _ => some (some (.int ((stB.getD j []).getD i.toNatClampNeg 0)), M)) [some (.ref (w.2.2.2.2 j)), some (.int i)] rfl rfl (Nat.le_of_ble_eq_true rfl) rfl ?_
  intro p e s m args below meth c G
  have hs := (G.2.2.2.2.2.2.1).1.1 j hj
  have hc := st_chars j hj i.toNatClampNeg hi0.2
  refine s_iload_n G dJ1_charAt_3b067_0 rfl ?_
  refine s_aload_n G dJ1_charAt_3b067_1 rfl ?_
  refine s_alenK G hs.2.2.2 dJ1_charAt_3b067_2 ?_
  have hlt : i < Int32.ofNat (stN.getD j 0) := by
    have hN : stN.getD j 0 < 2 ^ 31 := (by decide +kernel : ∀ j, j < 11 → stN.getD j 0 < 2 ^ 31) j hj
    obtain ⟨n, hn, rfl⟩ := nI_of hi0.1
    exact nI_lt (by have h2 := hi0.2; rw [nI_clamp hn] at h2; exact h2) hN
  refine s_callS (as := [.int i, .int (Int32.ofNat (stN.getD j 0))]) (st := []) G aw_self (fun _ => none) (fun _ => M) mdJ0_checkIndex_df160 (fun z hz => c_check w lo hi O l i (Int32.ofNat (stN.getD j 0)) hi0.1 hlt M) qw608 rfl rfl (Nat.le_of_ble_eq_true rfl) (by decide) dJ1_charAt_3b067_3 (fun z => ?_)
  refine s_aload_n G dJ1_charAt_3b067_6 rfl ?_
  refine s_iload_n G dJ1_charAt_3b067_7 rfl ?_
  refine s_baldK G hs.2.2.2 hi0 rfl dJ1_charAt_3b067_8 ?_
  refine s_sipush (v := 255) G dJ1_charAt_3b067_9 (by decide) ?_
  refine s_iand G dJ1_charAt_3b067_12 ?_
  refine s_i2c G dJ1_charAt_3b067_13 ?_
  rw [hc.1]
  exact s_zret G rfl hc.2 rfl dJ1_charAt_3b067_14
set_option maxRecDepth 100000 in
set_option maxHeartbeats 4000000 in
theorem c_charAt (w : Wx) (lo hi : Nat) (O : Mem) (l : Launch) (j : Nat) (hj : j < 11) (i : Int32) (hi0 : inR i (stN.getD j 0)) (M : Mem) : Ct w lo hi O l 3 muJ0_charAt_5068e [.ref (w.2.2.2.1 j), .int i] M (some (.int ((stB.getD j []).getD i.toNatClampNeg 0)), M) := by
  refine ct_of (X := Option.bind (some (1 : Int32)) (fun z => if z = 0 then none else Option.bind (some ()) (fun _ => some ()))) (K := fun _ => some (some (.int ((stB.getD j []).getD i.toNatClampNeg 0)), M)) [some (.ref (w.2.2.2.1 j)), some (.int i)] rfl rfl (Nat.le_of_ble_eq_true rfl) (by simp) ?_
  intro p e s m args below meth c G
  have hs := (G.2.2.2.2.2.2.1).1.1 j hj
  have hc := st_chars j hj i.toNatClampNeg hi0.2
  refine s_aload_n G dJ0_charAt_5068e_0 rfl ?_
  refine s_callK (as := []) (st := []) G (fun z => some (.int z)) (fun _ => M) mdJ0_isLatin1_aae02 hj (fun z hz => (by cases hz; exact c_isLatin1 w lo hi O l j hj M)) rfl qw601 rfl rfl (Nat.le_of_ble_eq_true rfl) (by decide) dJ0_charAt_5068e_1 (fun z => ?_)
  refine s_if_eq (tgt := 16) G dJ0_charAt_5068e_4 (by decide) (s_none rfl) ?_
  refine s_aload_n G dJ0_charAt_5068e_7 rfl ?_
  refine s_getK G hs.2.2.1 qw1223 dJ0_charAt_5068e_8 ?_
  refine s_iload_n G dJ0_charAt_5068e_11 rfl ?_
  refine s_callS (as := [.ref (w.2.2.2.2 j), .int i]) (st := []) G aw_self (fun _ => some (.int ((stB.getD j []).getD i.toNatClampNeg 0))) (fun _ => M) mdJ1_charAt_3b067 (fun z hz => c_latin w lo hi O l j hj i hi0 M) qw605 rfl rfl (Nat.le_of_ble_eq_true rfl) (by decide) dJ0_charAt_5068e_12 (fun z => ?_)
  exact s_zret G rfl hc.2 rfl dJ0_charAt_5068e_15
section SIM6
variable {p : Program} {l : Launch} {e : Env} {R : Room} {s : State} {m : MethodId} {args : Array Value} {below : List Frame} {meth : Method} {c : Code} {w : Wx} {lo hi : Nat} {O : Mem} {nL : Nat} {cs sl : Nat} {Q : State → Prop} {ρ α β σ ε : Type} {r0 : ρ} {cc : ByteArray} {own : String} {ret : Option FieldType} {D pc : Nat} {lv : List (Option Value)} {st : List Value} {M : Mem} {X : Option α} {K : α → Option ρ}

theorem s_slen (G : Ok p s m args meth c w cc nL own ret hi R (Aw w) cs sl D) (hAw : ∀ q, Aw w q → q < s.heap.size → Aw w q) {j index i1 : Nat} {f : Int32 → Option α} (q1 : lw_tbl[i1]? = some (.methodLink own index yJ0_length_8abf5)) (hw : (st.map fun v => v.category).sum ≤ 8) (hdD : 5 ≤ D) (hd : decode cc pc = .ok (.invokevirtual index, 3)) (kk : ∀ z, Sim p l e R s m args below meth c w lo hi O nL (Aw w) cs sl Q r0 (pc + 3) lv (.int z :: st) M (f z) K) : Sim p l e R s m args below meth c w lo hi O nL (Aw w) cs sl Q r0 pc lv (.ref (w.2.2.2.1 j) :: st) M (Option.bind (f_slen j) f) K := by
  by_cases hj : j < 11
  · refine s_callK (as := []) G (fun z => some (.int z)) (fun _ => M) mdJ0_length_8abf5 hj (fun z hz => ?_) rfl q1 rfl rfl hw (Nat.lt_of_lt_of_le (by decide : 1 < 5) hdD) hd kk
    unfold f_slen at hz
    rw [if_pos hj] at hz
    cases hz
    exact c_length w lo hi O l j hj M
  · exact s_none (by unfold f_slen; rw [if_neg hj]; rfl)
theorem s_scat (G : Ok p s m args meth c w cc nL own ret hi R (Aw w) cs sl D) (hAw : ∀ q, Aw w q → q < s.heap.size → Aw w q) {j index i1 : Nat} {i : Int32} {f : Int32 → Option α} (q1 : lw_tbl[i1]? = some (.methodLink own index yJ0_charAt_5068e)) (hw : (st.map fun v => v.category).sum ≤ 8) (hdD : 5 ≤ D) (hd : decode cc pc = .ok (.invokevirtual index, 3)) (kk : ∀ z, Sim p l e R s m args below meth c w lo hi O nL (Aw w) cs sl Q r0 (pc + 3) lv (.int z :: st) M (f z) K) : Sim p l e R s m args below meth c w lo hi O nL (Aw w) cs sl Q r0 pc lv (.int i :: .ref (w.2.2.2.1 j) :: st) M (Option.bind (f_scat j i) f) K := by
  by_cases hj : j < 11 ∧ inR i (stN.getD j 0)
  · refine s_callK (as := [.int i]) G (fun z => some (.int z)) (fun _ => M) mdJ0_charAt_5068e hj.1 (fun z hz => ?_) rfl q1 rfl rfl hw (Nat.lt_of_lt_of_le (by decide : 3 < 5) hdD) hd kk
    unfold f_scat at hz
    rw [if_pos hj] at hz
    cases hz
    exact c_charAt w lo hi O l j hj.1 i hj.2 M
  · exact s_none (by unfold f_scat; rw [if_neg hj]; rfl)
end SIM6
