/-! THE ROWS of fields, arrays, calls, answers; the contract out of a walk -/
theorem inR_in {i : Int32} {n : Nat} (h : inR i n) : vp_in i n := fun q => q.elim h.1 (fun z => absurd h.2 (Nat.not_lt.mpr z))
abbrev ClOk (ci : Nat) (C : String) (T : u_T) (N : Nat) (ty : Nat → FieldType) : Prop := vwCl[ci]? = some (C, T, N) ∧ (∀ x ∈ u_ws C T N, x ∈ lw_tbl ∧ goodWord x = true) ∧ (∀ k, k < N → parseFieldDescriptor (T k).2.2.1 = some (ty k)) ∧ ∀ a, a < N → ∀ b, b < N → a ≠ b → (T a).2.1 ≠ (T b).2.1
theorem clX0 : ClOk 0 RX0 TX0 9 tyX0 := ⟨rfl, by decide +kernel, tyX0_ok, nmX0⟩
theorem clX1 : ClOk 1 RX1 TX1 5 tyX1 := ⟨rfl, by decide +kernel, tyX1_ok, nmX1⟩
theorem clX2 : ClOk 2 RX2 TX2 3 tyX2 := ⟨rfl, by decide +kernel, tyX2_ok, nmX2⟩
theorem clX3 : ClOk 3 RX3 TX3 3 tyX3 := ⟨rfl, by decide +kernel, tyX3_ok, nmX3⟩
theorem clX4 : ClOk 4 RX4 TX4 2 tyX4 := ⟨rfl, by decide +kernel, tyX4_ok, nmX4⟩
theorem clX5 : ClOk 5 RX5 TX5 9 tyX5 := ⟨rfl, by decide +kernel, tyX5_ok, nmX5⟩
theorem clX6 : ClOk 6 RX6 TX6 19 tyX6 := ⟨rfl, by decide +kernel, tyX6_ok, nmX6⟩
theorem ce_sheet (w : Wx) {q : Nat} (h : q < 4) (f : Nat → Int32) (g : Nat → Int64) : ce w (27 + 2 * q) f g = ceSheet w (27 + 2 * q) f := by
  match q, h with
  | 0, _ => rfl
  | 1, _ => rfl
  | 2, _ => rfl
  | 3, _ => rfl
theorem ce_num (w : Wx) {q : Nat} (h : q < 4) (f : Nat → Int32) (g : Nat → Int64) : ce w (27 + 2 * q + 1) f g = ceJ w 40 g := by
  match q, h with
  | 0, _ => rfl
  | 1, _ => rfl
  | 2, _ => rfl
  | 3, _ => rfl
/-- what the tables must say of a method that is called -/
abbrev MdB (μ : Md) (n : Nat) : Prop := Cond.code μ.1 μ.2.1 μ.2.2.1 μ.2.2.2 ∈ lw_tbl ∧ Cond.initialized μ.1.cls ∈ lw_tbl ∧ (μ.1.cls ≠ "java/lang/invoke/MethodHandle" ∧ μ.1.cls ≠ "java/lang/invoke/VarHandle" ∧ (parseMethodDescriptor μ.1.desc).map (fun d => d.parameters.length) = some n) ∧ μ.2.2.1 ≤ 45
abbrev MdV (μ : Md) (n : Nat) : Prop := MdB μ n ∧ Cond.instanceMethod μ.1 ∈ lw_tbl ∧ Cond.selects μ.1.cls μ.1 μ.1 ∈ lw_tbl
abbrev MdS (μ : Md) (n : Nat) : Prop := MdB μ n ∧ Cond.static μ.1 ∈ lw_tbl
theorem good_wsM {μ : Md} (h : Cond.code μ.1 μ.2.1 μ.2.2.1 μ.2.2.2 ∈ lw_tbl) : GoodIn (lw_tbl.filter goodWord) (wsM μ) := by
  intro x hx
  rcases List.mem_cons.mp hx with rfl | hx
  · exact ⟨List.mem_filter.mpr ⟨h, rfl⟩, good_of_word rfl⟩
  · exact ⟨hx, good_of_word (List.mem_filter.mp hx).2⟩

section SIM2
variable {p : Program} {l : Launch} {e : Env} {R : Room} {s : State} {m : MethodId} {args : Array Value} {below : List Frame} {meth : Method} {c : Code} {w : Wx} {lo hi : Nat} {O : Mem} {nL : Nat} {A : Nat → Prop} {cs sl : Nat} {Q : State → Prop} {ρ α β σ ε : Type} {r0 : ρ} {cc : ByteArray} {own : String} {ret : Option FieldType} {D pc : Nat} {lv : List (Option Value)} {st : List Value} {M : Mem} {X : Option α} {K : α → Option ρ}

theorem s_get (G : Ok p s m args meth c w cc nL own ret hi R A cs sl D) {k j i index : Nat} (v : Value) {fs : (Nat → Int32) → List Value} {ci N : Nat} {C ref : String} {T : u_T} {ty : Nat → FieldType} (hr : lo ≤ k ∧ k < hi) (hce : ∀ f g, ce w k f g = .inr (ci, fs f)) (hv : (fs (M.1 k))[j]? = some v) (cl : ClOk ci C T N ty) (hj : j < N) (hq : lw_tbl[i]? = some (.fieldLink own index ref (T j).2.1 (T j).2.2.1)) (hsame : ref = (T j).1) (hd : decode cc pc = .ok (.getfield index, 3)) (kk : Sim p l e R s m args below meth c w lo hi O nL A cs sl Q r0 (pc + 3) lv (v :: st) M X K) : Sim p l e R s m args below meth c w lo hi O nL A cs sl Q r0 pc lv (.ref (w.1 k) :: st) M X K := by
  intro hx H locs ls hl hP hS
  subst hsame
  have hg := wd_get w O M hr G.2.2.2.2.2.2.2.2.2.2.1
  rw [hce] at hg
  exact va_get G.1 G.2.1 (Ts := u_ws C T N) (fun x h => G.2.2.2.2.1 x (cl.2.1 x h).1 (cl.2.1 x h).2) (fun _ h => h) G.2.2.2.1 G.2.2.2.2.2.1.1 hP k hg cl.1 j hj (G.2.2.2.2.1 _ (List.mem_of_getElem? hq) rfl) (fun _ h => h) hv hd (kk hx H locs ls hl hP hS)
theorem s_put (G : Ok p s m args meth c w cc nL own ret hi R A cs sl D) {k j i index : Nat} {x : Int32} {f : Mem → Option α} {fs : (Nat → Int32) → List Value} {ci N : Nat} {C ref : String} {T : u_T} {ty : Nat → FieldType} (hr : lo ≤ k ∧ k < hi) (hce : ∀ f g, ce w k f g = .inr (ci, fs f)) (hset : ∀ f, (fs f).set j (.int x) = fs (upd f j x)) (cl : ClOk ci C T N ty) (hj : j < N) (hl9 : ∀ f, j < (fs f).length) (hq : lw_tbl[i]? = some (.fieldLink own index ref (T j).2.1 (T j).2.2.1)) (hsame : ref = (T j).1) (hfin : (T j).2.2.2 = false) (hn : narrow (ty j) (.int x) = .int x) (hf : fits (ty j) (.int x) = true) (hd : decode cc pc = .ok (.putfield index, 3)) (kk : ∀ M2, Sim p l e R s m args below meth c w lo hi O nL A cs sl Q r0 (pc + 3) lv st M2 (f M2) K) : Sim p l e R s m args below meth c w lo hi O nL A cs sl Q r0 pc lv (.int x :: .ref (w.1 k) :: st) M (bn (sI M k j x) f) K := by
  intro hx H locs ls hl hP hS
  subst hsame
  have hg := wd_get w O M hr G.2.2.2.2.2.2.2.2.2.2.1
  rw [hce] at hg
  refine va_put G.1 G.2.1 (Ts := u_ws C T N) (A := A) (fun x h => G.2.2.2.2.1 x (cl.2.1 x h).1 (cl.2.1 x h).2) (fun _ h => h) ty cl.2.2.1 cl.2.2.2 G.2.2.2.1 G.2.2.2.2.2.1.1 hP ((wd_D G.2.2.2.2.2.2.2.1 lo hi O M).weaken (fun _ _ _ h => G.2.2.2.2.2.2.2.2.2.2.2.1 _ h)) hS k hg cl.1 j hj (G.2.2.2.2.1 _ (List.mem_of_getElem? hq) rfl) (fun _ h => h) hfin (cl.2.2.1 j hj) hn hf (hl9 _) hd (fun H1 locs1 hP1 _ hS1 => ?_)
  refine kk _ hx H1 locs1 ls hl ?_ hS1
  rw [← wd_setI w O M hr G.2.2.2.2.2.2.2.2.2.2.1, hce, ← hset]
  exact hP1
theorem s_iald (G : Ok p s m args meth c w cc nL own ret hi R A cs sl D) {k n : Nat} {i : Int32} (hr : lo ≤ k ∧ k < hi) (hce : ∀ f g, ce w k f g = ceI w n f) (hd : decode cc pc = .ok (.iaload, 1)) (kk : Sim p l e R s m args below meth c w lo hi O nL A cs sl Q r0 (pc + 1) lv (.int (gI M k i.toNatClampNeg) :: st) M X K) : Sim p l e R s m args below meth c w lo hi O nL A cs sl Q r0 pc lv (.int i :: .ref (w.1 k) :: st) M (if inR i n then X else none) K := by
  refine s_test (fun h => ?_)
  intro hx H locs ls hl hP hS
  have hg := wd_get w O M hr G.2.2.2.2.2.2.2.2.2.2.1
  rw [hce] at hg
  exact va_iald G.1 G.2.1 G.2.2.2.2.2.1.1 hP k 1 hg rfl (inR_in h) hd (kk hx H locs ls hl hP hS)
theorem s_ialdC (G : Ok p s m args meth c w cc nL own ret hi R A cs sl D) {k n j : Nat} {i : Int32} (hr : lo ≤ k ∧ k < hi) (hce : ∀ f g, ce w k f g = ceI w n f) (hi0 : inR i n) (hj : i.toNatClampNeg = j) (hd : decode cc pc = .ok (.iaload, 1)) (kk : Sim p l e R s m args below meth c w lo hi O nL A cs sl Q r0 (pc + 1) lv (.int (gI M k j) :: st) M X K) : Sim p l e R s m args below meth c w lo hi O nL A cs sl Q r0 pc lv (.int i :: .ref (w.1 k) :: st) M X K := by
  intro hx H locs ls hl hP hS
  subst hj
  have hg := wd_get w O M hr G.2.2.2.2.2.2.2.2.2.2.1
  rw [hce] at hg
  exact va_iald G.1 G.2.1 G.2.2.2.2.2.1.1 hP k 1 hg rfl (inR_in hi0) hd (kk hx H locs ls hl hP hS)
theorem s_bald (G : Ok p s m args meth c w cc nL own ret hi R A cs sl D) {k n : Nat} {i : Int32} (hr : lo ≤ k ∧ k < hi) (hce : ∀ f g, ce w k f g = ceB w n f) (hd : decode cc pc = .ok (.baload, 1)) (kk : Sim p l e R s m args below meth c w lo hi O nL A cs sl Q r0 (pc + 1) lv (.int (gI M k i.toNatClampNeg) :: st) M X K) : Sim p l e R s m args below meth c w lo hi O nL A cs sl Q r0 pc lv (.int i :: .ref (w.1 k) :: st) M (if inR i n then X else none) K := by
  refine s_test (fun h => ?_)
  intro hx H locs ls hl hP hS
  have hg := wd_get w O M hr G.2.2.2.2.2.2.2.2.2.2.1
  rw [hce] at hg
  exact va_bald G.1 G.2.1 G.2.2.2.2.2.1.1 hP k 0 hg rfl (inR_in h) hd (kk hx H locs ls hl hP hS)
theorem s_baldC (G : Ok p s m args meth c w cc nL own ret hi R A cs sl D) {k n j : Nat} {i : Int32} (hr : lo ≤ k ∧ k < hi) (hce : ∀ f g, ce w k f g = ceB w n f) (hi0 : inR i n) (hj : i.toNatClampNeg = j) (hd : decode cc pc = .ok (.baload, 1)) (kk : Sim p l e R s m args below meth c w lo hi O nL A cs sl Q r0 (pc + 1) lv (.int (gI M k j) :: st) M X K) : Sim p l e R s m args below meth c w lo hi O nL A cs sl Q r0 pc lv (.int i :: .ref (w.1 k) :: st) M X K := by
  intro hx H locs ls hl hP hS
  subst hj
  have hg := wd_get w O M hr G.2.2.2.2.2.2.2.2.2.2.1
  rw [hce] at hg
  exact va_bald G.1 G.2.1 G.2.2.2.2.2.1.1 hP k 0 hg rfl (inR_in hi0) hd (kk hx H locs ls hl hP hS)
theorem s_iast (G : Ok p s m args meth c w cc nL own ret hi R A cs sl D) {k n : Nat} {i x : Int32} {f : Mem → Option α} (hr : lo ≤ k ∧ k < hi) (hce : ∀ f g, ce w k f g = ceI w n f) (hd : decode cc pc = .ok (.iastore, 1)) (kk : ∀ M2, Sim p l e R s m args below meth c w lo hi O nL A cs sl Q r0 (pc + 1) lv st M2 (f M2) K) : Sim p l e R s m args below meth c w lo hi O nL A cs sl Q r0 pc lv (.int x :: .int i :: .ref (w.1 k) :: st) M (if inR i n then bn (sI M k i.toNatClampNeg x) f else none) K := by
  refine s_test (fun h => ?_)
  intro hx H locs ls hl hP hS
  have hg := wd_get w O M hr G.2.2.2.2.2.2.2.2.2.2.1
  rw [hce] at hg
  refine va_iast G.1 G.2.1 (A := A) G.2.2.2.2.2.1.1 hP ((wd_D G.2.2.2.2.2.2.2.1 lo hi O M).weaken (fun _ _ _ h => G.2.2.2.2.2.2.2.2.2.2.2.1 _ h)) hS k 1 hg rfl (inR_in h) hd (fun H1 locs1 hP1 _ hS1 => ?_)
  refine kk _ hx H1 locs1 ls hl ?_ hS1
  rw [← wd_setI w O M hr G.2.2.2.2.2.2.2.2.2.2.1, hce]
  exact hP1
theorem s_iastC (G : Ok p s m args meth c w cc nL own ret hi R A cs sl D) {k n j : Nat} {i x : Int32} {f : Mem → Option α} (hr : lo ≤ k ∧ k < hi) (hce : ∀ f g, ce w k f g = ceI w n f) (hi0 : inR i n) (hj : i.toNatClampNeg = j) (hd : decode cc pc = .ok (.iastore, 1)) (kk : ∀ M2, Sim p l e R s m args below meth c w lo hi O nL A cs sl Q r0 (pc + 1) lv st M2 (f M2) K) : Sim p l e R s m args below meth c w lo hi O nL A cs sl Q r0 pc lv (.int x :: .int i :: .ref (w.1 k) :: st) M (bn (sI M k j x) f) K := by
  subst hj
  intro hx H locs ls hl hP hS
  have hg := wd_get w O M hr G.2.2.2.2.2.2.2.2.2.2.1
  rw [hce] at hg
  refine va_iast G.1 G.2.1 (A := A) G.2.2.2.2.2.1.1 hP ((wd_D G.2.2.2.2.2.2.2.1 lo hi O M).weaken (fun _ _ _ h => G.2.2.2.2.2.2.2.2.2.2.2.1 _ h)) hS k 1 hg rfl (inR_in hi0) hd (fun H1 locs1 hP1 _ hS1 => ?_)
  refine kk _ hx H1 locs1 ls hl ?_ hS1
  rw [← wd_setI w O M hr G.2.2.2.2.2.2.2.2.2.2.1, hce]
  exact hP1
theorem s_bast (G : Ok p s m args meth c w cc nL own ret hi R A cs sl D) {k n : Nat} {i x : Int32} {f : Mem → Option α} (hr : lo ≤ k ∧ k < hi) (hce : ∀ f g, ce w k f g = ceB w n f) (hd : decode cc pc = .ok (.bastore, 1)) (kk : ∀ M2, Sim p l e R s m args below meth c w lo hi O nL A cs sl Q r0 (pc + 1) lv st M2 (f M2) K) : Sim p l e R s m args below meth c w lo hi O nL A cs sl Q r0 pc lv (.int x :: .int i :: .ref (w.1 k) :: st) M (if inR i n then bn (sI M k i.toNatClampNeg (x.toInt8.toInt32)) f else none) K := by
  refine s_test (fun h => ?_)
  intro hx H locs ls hl hP hS
  have hg := wd_get w O M hr G.2.2.2.2.2.2.2.2.2.2.1
  rw [hce] at hg
  refine va_bast G.1 G.2.1 (A := A) G.2.2.2.2.2.1.1 hP ((wd_D G.2.2.2.2.2.2.2.1 lo hi O M).weaken (fun _ _ _ h => G.2.2.2.2.2.2.2.2.2.2.2.1 _ h)) hS k 0 hg rfl (inR_in h) hd (fun H1 locs1 hP1 _ hS1 => ?_)
  refine kk _ hx H1 locs1 ls hl ?_ hS1
  rw [← wd_setI w O M hr G.2.2.2.2.2.2.2.2.2.2.1, hce]
  rw [vp_nar_byte] at hP1
  exact hP1
theorem s_bastC (G : Ok p s m args meth c w cc nL own ret hi R A cs sl D) {k n j : Nat} {i x : Int32} {f : Mem → Option α} (hr : lo ≤ k ∧ k < hi) (hce : ∀ f g, ce w k f g = ceB w n f) (hi0 : inR i n) (hj : i.toNatClampNeg = j) (hd : decode cc pc = .ok (.bastore, 1)) (kk : ∀ M2, Sim p l e R s m args below meth c w lo hi O nL A cs sl Q r0 (pc + 1) lv st M2 (f M2) K) : Sim p l e R s m args below meth c w lo hi O nL A cs sl Q r0 pc lv (.int x :: .int i :: .ref (w.1 k) :: st) M (bn (sI M k j (x.toInt8.toInt32)) f) K := by
  subst hj
  intro hx H locs ls hl hP hS
  have hg := wd_get w O M hr G.2.2.2.2.2.2.2.2.2.2.1
  rw [hce] at hg
  refine va_bast G.1 G.2.1 (A := A) G.2.2.2.2.2.1.1 hP ((wd_D G.2.2.2.2.2.2.2.1 lo hi O M).weaken (fun _ _ _ h => G.2.2.2.2.2.2.2.2.2.2.2.1 _ h)) hS k 0 hg rfl (inR_in hi0) hd (fun H1 locs1 hP1 _ hS1 => ?_)
  refine kk _ hx H1 locs1 ls hl ?_ hS1
  rw [← wd_setI w O M hr G.2.2.2.2.2.2.2.2.2.2.1, hce]
  rw [vp_nar_byte] at hP1
  exact hP1
theorem s_lald (G : Ok p s m args meth c w cc nL own ret hi R A cs sl D) {k n : Nat} {i : Int32} (hr : lo ≤ k ∧ k < hi) (hce : ∀ f g, ce w k f g = ceJ w n g) (hd : decode cc pc = .ok (.laload, 1)) (kk : Sim p l e R s m args below meth c w lo hi O nL A cs sl Q r0 (pc + 1) lv (.long (gJ M k i.toNatClampNeg) :: st) M X K) : Sim p l e R s m args below meth c w lo hi O nL A cs sl Q r0 pc lv (.int i :: .ref (w.1 k) :: st) M (if inR i n then X else none) K := by
  refine s_test (fun h => ?_)
  intro hx H locs ls hl hP hS
  have hg := wd_get w O M hr G.2.2.2.2.2.2.2.2.2.2.1
  rw [hce] at hg
  exact va_lald G.1 G.2.1 G.2.2.2.2.2.1.1 hP k 2 hg rfl (inR_in h) hd (kk hx H locs ls hl hP hS)
theorem s_last (G : Ok p s m args meth c w cc nL own ret hi R A cs sl D) {k n : Nat} {i : Int32} {x : Int64} {f : Mem → Option α} (hr : lo ≤ k ∧ k < hi) (hce : ∀ f g, ce w k f g = ceJ w n g) (hd : decode cc pc = .ok (.lastore, 1)) (kk : ∀ M2, Sim p l e R s m args below meth c w lo hi O nL A cs sl Q r0 (pc + 1) lv st M2 (f M2) K) : Sim p l e R s m args below meth c w lo hi O nL A cs sl Q r0 pc lv (.long x :: .int i :: .ref (w.1 k) :: st) M (if inR i n then bn (sJ M k i.toNatClampNeg x) f else none) K := by
  refine s_test (fun h => ?_)
  intro hx H locs ls hl hP hS
  have hg := wd_get w O M hr G.2.2.2.2.2.2.2.2.2.2.1
  rw [hce] at hg
  refine va_last G.1 G.2.1 (A := A) G.2.2.2.2.2.1.1 hP ((wd_D G.2.2.2.2.2.2.2.1 lo hi O M).weaken (fun _ _ _ h => G.2.2.2.2.2.2.2.2.2.2.2.1 _ h)) hS k 2 hg rfl (inR_in h) hd (fun H1 locs1 hP1 _ hS1 => ?_)
  refine kk _ hx H1 locs1 ls hl ?_ hS1
  rw [← wd_setJ w O M hr G.2.2.2.2.2.2.2.2.2.2.1, hce]
  exact hP1
theorem s_aald (G : Ok p s m args meth c w cc nL own ret hi R A cs sl D) {i : Int32} {f : Nat → Option α} (hr : lo ≤ 26 ∧ 26 < hi) (hd : decode cc pc = .ok (.aaload, 1)) (kk : ∀ q, q < 4 → Sim p l e R s m args below meth c w lo hi O nL A cs sl Q r0 (pc + 1) lv (.ref (w.1 (27 + 2 * q)) :: st) M (f q) K) : Sim p l e R s m args below meth c w lo hi O nL A cs sl Q r0 pc lv (.int i :: .ref (w.1 26) :: st) M (if inR i 4 then bn i.toNatClampNeg f else none) K := by
  refine s_test (fun h => ?_)
  intro hx H locs ls hl hP hS
  have hg := wd_get w O M hr G.2.2.2.2.2.2.2.2.2.2.1
  exact va_aldq (C := "HangerRail$Sheet") G.1 G.2.1 G.2.2.2.2.2.1.1 hP 26 3 hg rfl (inR_in h) hd (kk _ h.2 hx H locs ls hl hP hS)
theorem s_alen (G : Ok p s m args meth c w cc nL own ret hi R A cs sl D) {k n : Nat} {v : Int32} (hr : lo ≤ k ∧ k < hi) (hce : ∀ f g, ce w k f g = ceI w n f) (hv : Int32.ofNat n = v) (hd : decode cc pc = .ok (.arraylength, 1)) (kk : Sim p l e R s m args below meth c w lo hi O nL A cs sl Q r0 (pc + 1) lv (.int v :: st) M X K) : Sim p l e R s m args below meth c w lo hi O nL A cs sl Q r0 pc lv (.ref (w.1 k) :: st) M X K := by
  intro hx H locs ls hl hP hS
  subst hv
  have hg := wd_get w O M hr G.2.2.2.2.2.2.2.2.2.2.1
  rw [hce] at hg
  exact va_alen G.1 G.2.1 G.2.2.2.2.2.1.1 hP k 1 hg rfl rfl hd (kk hx H locs ls hl hP hS)
theorem s_copyI (G : Ok p s m args meth c w cc nL own ret hi R A cs sl D) {k0 k1 n0 n1 index i1 i2 i3 i4 : Nat} {sp dp n : Int32} {f : Mem → Option α} (hr0 : lo ≤ k0 ∧ k0 < hi) (hr1 : lo ≤ k1 ∧ k1 < hi) (hc0 : ∀ f g, ce w k0 f g = ceI w n0 f) (hc1 : ∀ f g, ce w k1 f g = ceI w n1 f) (h1 : ¬ sp < 0) (h2 : ¬ dp < 0) (h3 : ¬ n < 0) (h4 : sp.toNatClampNeg + n.toNatClampNeg ≤ n0) (h5 : dp.toNatClampNeg + n.toNatClampNeg ≤ n1) (q1 : lw_tbl[i1]? = some (.methodLink own index arraycopyName)) (q2 : lw_tbl[i2]? = some (.native arraycopyName)) (q3 : lw_tbl[i3]? = some (.static arraycopyName)) (q4 : lw_tbl[i4]? = some (.initialized "java/lang/System")) (hD : 1 ≤ D) (hw : (st.map fun v => v.category).sum ≤ 8) (hd : decode cc pc = .ok (.invokestatic index, 3)) (kk : ∀ M2, Sim p l e R s m args below meth c w lo hi O nL A cs sl Q r0 (pc + 3) lv st M2 (f M2) K) : Sim p l e R s m args below meth c w lo hi O nL A cs sl Q r0 pc lv (.int n :: .int dp :: .ref (w.1 k1) :: .int sp :: .ref (w.1 k0) :: st) M (bn (rI M k1 (va_cpy (M.1 k0) (M.1 k1) sp.toNatClampNeg dp.toNatClampNeg n.toNatClampNeg)) f) K := by
  intro hx H locs ls hl hP hS
  have hg0 := wd_get w O M hr0 G.2.2.2.2.2.2.2.2.2.2.1
  rw [hc0] at hg0
  have hg1 := wd_get w O M hr1 G.2.2.2.2.2.2.2.2.2.2.1
  rw [hc1] at hg1
  have hfr : 1 ≤ R.frames := Nat.le_trans hD G.2.2.2.2.2.2.2.2.2.2.2.2.2.2.1
  have hlo : (st.map fun v => v.category).sum + (nativeFrameWords "java/lang/System" "arraycopy" 5 + 11) ≤ R.locals := by
    have h9 := G.2.2.2.2.2.2.2.2.2.2.2.2.2.2.2
    have : nativeFrameWords "java/lang/System" "arraycopy" 5 ≤ 20 := by decide +kernel
    omega
  refine va_copyi G.1 G.2.1 (by rw [G.2.2.1]; exact hl.1.symm) (A := A) G.2.2.2.1 (G.2.2.2.2.1 _ (List.mem_of_getElem? q1) rfl) (G.2.2.2.2.1 _ (List.mem_of_getElem? q2) rfl) (G.2.2.2.2.1 _ (List.mem_of_getElem? q3) rfl) (G.2.2.2.2.1 _ (List.mem_of_getElem? q4) rfl) G.2.2.2.2.2.1.1 hP ((wd_D G.2.2.2.2.2.2.2.1 lo hi O M).weaken (fun _ _ _ h => G.2.2.2.2.2.2.2.2.2.2.2.1 _ h)) hS k0 k1 1 1 hg0 hg1 rfl rfl rfl h1 h2 h3 h4 h5 (fun _ _ => rfl) hfr hlo hd (fun H1 locs1 hP1 _ hS1 => ?_)
  refine kk _ hx H1 locs1 ls hl ?_ hS1
  rw [← wd_setR w O M hr1 G.2.2.2.2.2.2.2.2.2.2.1, hc1]
  exact hP1
theorem s_copyJ (G : Ok p s m args meth c w cc nL own ret hi R A cs sl D) {k0 k1 n0 n1 index i1 i2 i3 i4 : Nat} {sp dp n : Int32} {f : Mem → Option α} (hr0 : lo ≤ k0 ∧ k0 < hi) (hr1 : lo ≤ k1 ∧ k1 < hi) (hc0 : ∀ f g, ce w k0 f g = ceJ w n0 g) (hc1 : ∀ f g, ce w k1 f g = ceJ w n1 g) (h1 : ¬ sp < 0) (h2 : ¬ dp < 0) (h3 : ¬ n < 0) (h4 : sp.toNatClampNeg + n.toNatClampNeg ≤ n0) (h5 : dp.toNatClampNeg + n.toNatClampNeg ≤ n1) (q1 : lw_tbl[i1]? = some (.methodLink own index arraycopyName)) (q2 : lw_tbl[i2]? = some (.native arraycopyName)) (q3 : lw_tbl[i3]? = some (.static arraycopyName)) (q4 : lw_tbl[i4]? = some (.initialized "java/lang/System")) (hD : 1 ≤ D) (hw : (st.map fun v => v.category).sum ≤ 8) (hd : decode cc pc = .ok (.invokestatic index, 3)) (kk : ∀ M2, Sim p l e R s m args below meth c w lo hi O nL A cs sl Q r0 (pc + 3) lv st M2 (f M2) K) : Sim p l e R s m args below meth c w lo hi O nL A cs sl Q r0 pc lv (.int n :: .int dp :: .ref (w.1 k1) :: .int sp :: .ref (w.1 k0) :: st) M (bn (rJ M k1 (va_cpy (M.2 k0) (M.2 k1) sp.toNatClampNeg dp.toNatClampNeg n.toNatClampNeg)) f) K := by
  intro hx H locs ls hl hP hS
  have hg0 := wd_get w O M hr0 G.2.2.2.2.2.2.2.2.2.2.1
  rw [hc0] at hg0
  have hg1 := wd_get w O M hr1 G.2.2.2.2.2.2.2.2.2.2.1
  rw [hc1] at hg1
  have hfr : 1 ≤ R.frames := Nat.le_trans hD G.2.2.2.2.2.2.2.2.2.2.2.2.2.2.1
  have hlo : (st.map fun v => v.category).sum + (nativeFrameWords "java/lang/System" "arraycopy" 5 + 11) ≤ R.locals := by
    have h9 := G.2.2.2.2.2.2.2.2.2.2.2.2.2.2.2
    have : nativeFrameWords "java/lang/System" "arraycopy" 5 ≤ 20 := by decide +kernel
    omega
  refine va_copyl G.1 G.2.1 (by rw [G.2.2.1]; exact hl.1.symm) (A := A) G.2.2.2.1 (G.2.2.2.2.1 _ (List.mem_of_getElem? q1) rfl) (G.2.2.2.2.1 _ (List.mem_of_getElem? q2) rfl) (G.2.2.2.2.1 _ (List.mem_of_getElem? q3) rfl) (G.2.2.2.2.1 _ (List.mem_of_getElem? q4) rfl) G.2.2.2.2.2.1.1 hP ((wd_D G.2.2.2.2.2.2.2.1 lo hi O M).weaken (fun _ _ _ h => G.2.2.2.2.2.2.2.2.2.2.2.1 _ h)) hS k0 k1 2 2 hg0 hg1 rfl rfl rfl h1 h2 h3 h4 h5 (fun _ _ => rfl) hfr hlo hd (fun H1 locs1 hP1 _ hS1 => ?_)
  refine kk _ hx H1 locs1 ls hl ?_ hS1
  rw [← wd_setRJ w O M hr1 G.2.2.2.2.2.2.2.2.2.2.1, hc1]
  exact hP1
theorem s_mmax (G : Ok p s m args meth c w cc nL own ret hi R A cs sl D) {index i1 i2 i3 i4 : Nat} {x y : Int32} (q1 : lw_tbl[i1]? = some (.methodLink own index Lib.Math.max.name)) (q2 : lw_tbl[i2]? = some (.static Lib.Math.max.name)) (q3 : lw_tbl[i3]? = some (.initialized "java/lang/Math")) (q4 : lw_tbl[i4]? = some (.code Lib.Math.max.name Lib.Math.max.code 2 (some .int))) (hD : 1 ≤ D) (hw : (st.map fun v => v.category).sum ≤ 8) (hd : decode cc pc = .ok (.invokestatic index, 3)) (kk : Sim p l e R s m args below meth c w lo hi O nL A cs sl Q r0 (pc + 3) lv (.int (if x < y then y else x) :: st) M X K) : Sim p l e R s m args below meth c w lo hi O nL A cs sl Q r0 pc lv (.int y :: .int x :: st) M X K := by
  intro hx H locs ls hl hP hS
  have hfr : 1 ≤ R.frames := Nat.le_trans hD G.2.2.2.2.2.2.2.2.2.2.2.2.2.2.1
  have hlo : (st.map fun v => v.category).sum + 13 ≤ R.locals := by
    have h9 := G.2.2.2.2.2.2.2.2.2.2.2.2.2.2.2
    omega
  exact va_mmax G.1 G.2.1 (by rw [G.2.2.1]; exact hl.1.symm) G.2.2.2.1 (G.2.2.2.2.1 _ (List.mem_of_getElem? q1) rfl) (G.2.2.2.2.1 _ (List.mem_of_getElem? q2) rfl) (G.2.2.2.2.1 _ (List.mem_of_getElem? q3) rfl) (G.2.2.2.2.1 _ (List.mem_of_getElem? q4) rfl) hfr hlo G.2.2.2.2.2.2.2.2.2.2.2.2.1 G.2.2.2.2.2.2.2.2.2.2.2.2.2.1 hd (kk hx H locs ls hl hP hS)
theorem s_mmin (G : Ok p s m args meth c w cc nL own ret hi R A cs sl D) {index i1 i2 i3 i4 : Nat} {x y : Int32} (q1 : lw_tbl[i1]? = some (.methodLink own index Lib.Math.min.name)) (q2 : lw_tbl[i2]? = some (.static Lib.Math.min.name)) (q3 : lw_tbl[i3]? = some (.initialized "java/lang/Math")) (q4 : lw_tbl[i4]? = some (.code Lib.Math.min.name Lib.Math.min.code 2 (some .int))) (hD : 1 ≤ D) (hw : (st.map fun v => v.category).sum ≤ 8) (hd : decode cc pc = .ok (.invokestatic index, 3)) (kk : Sim p l e R s m args below meth c w lo hi O nL A cs sl Q r0 (pc + 3) lv (.int (if y < x then y else x) :: st) M X K) : Sim p l e R s m args below meth c w lo hi O nL A cs sl Q r0 pc lv (.int y :: .int x :: st) M X K := by
  intro hx H locs ls hl hP hS
  have hfr : 1 ≤ R.frames := Nat.le_trans hD G.2.2.2.2.2.2.2.2.2.2.2.2.2.2.1
  have hlo : (st.map fun v => v.category).sum + 13 ≤ R.locals := by
    have h9 := G.2.2.2.2.2.2.2.2.2.2.2.2.2.2.2
    omega
  exact va_mmin G.1 G.2.1 (by rw [G.2.2.1]; exact hl.1.symm) G.2.2.2.1 (G.2.2.2.2.1 _ (List.mem_of_getElem? q1) rfl) (G.2.2.2.2.1 _ (List.mem_of_getElem? q2) rfl) (G.2.2.2.2.1 _ (List.mem_of_getElem? q3) rfl) (G.2.2.2.2.1 _ (List.mem_of_getElem? q4) rfl) hfr hlo G.2.2.2.2.2.2.2.2.2.2.2.2.1 G.2.2.2.2.2.2.2.2.2.2.2.2.2.1 hd (kk hx H locs ls hl hP hS)
theorem s_mabs (G : Ok p s m args meth c w cc nL own ret hi R A cs sl D) {index i1 i2 i3 i4 : Nat} {x : Int32} (q1 : lw_tbl[i1]? = some (.methodLink own index Lib.Math.abs.name)) (q2 : lw_tbl[i2]? = some (.static Lib.Math.abs.name)) (q3 : lw_tbl[i3]? = some (.initialized "java/lang/Math")) (q4 : lw_tbl[i4]? = some (.code Lib.Math.abs.name Lib.Math.abs.code 1 (some .int))) (hD : 1 ≤ D) (hw : (st.map fun v => v.category).sum ≤ 8) (hd : decode cc pc = .ok (.invokestatic index, 3)) (kk : Sim p l e R s m args below meth c w lo hi O nL A cs sl Q r0 (pc + 3) lv (.int (if 0 ≤ x then x else 0 - x) :: st) M X K) : Sim p l e R s m args below meth c w lo hi O nL A cs sl Q r0 pc lv (.int x :: st) M X K := by
  intro hx H locs ls hl hP hS
  have hfr : 1 ≤ R.frames := Nat.le_trans hD G.2.2.2.2.2.2.2.2.2.2.2.2.2.2.1
  have hlo : (st.map fun v => v.category).sum + 13 ≤ R.locals := by
    have h9 := G.2.2.2.2.2.2.2.2.2.2.2.2.2.2.2
    omega
  exact va_mabs G.1 G.2.1 (by rw [G.2.2.1]; exact hl.1.symm) G.2.2.2.1 (G.2.2.2.2.1 _ (List.mem_of_getElem? q1) rfl) (G.2.2.2.2.1 _ (List.mem_of_getElem? q2) rfl) (G.2.2.2.2.1 _ (List.mem_of_getElem? q3) rfl) (G.2.2.2.2.1 _ (List.mem_of_getElem? q4) rfl) hfr hlo G.2.2.2.2.2.2.2.2.2.2.2.2.1 G.2.2.2.2.2.2.2.2.2.2.2.2.2.1 hd (kk hx H locs ls hl hP hS)
/-- behind a call: what came back -/
theorem call_at {rest st0 : List Value} {r : Option Value × Mem} {as : Array Value} (G : Ok p s m args meth c w cc nL own ret hi R A cs sl D) {H : Heap} {locs : List Loc} {ls : Array Slot} (hl : lvH ls nL lv) (hS : va_S A s.heap H locs) (hr : va_Run p l e R s m args below meth c H locs cs sl 0 0 (F0 m pc ls st0) rest (PostM w lo hi O r as) (Aw w)) (k : AtP p l e R s m args below meth c w lo hi O nL A cs sl Q (pc + 3) lv (r.1.toList ++ rest) r.2) : W p l e R s m args below meth c H locs cs sl Q (F0 m pc ls st0) := by
  intro T hT Y
  obtain ⟨v, st₀, t, T', L, h0, X', hL, e1, e2, ⟨hv, hb, hz, hk⟩, stp⟩ := hr T hT Y
  rw [h0] at hz hk
  cases hv
  have hS2 : va_S A s.heap T'.heap (locs ++ L) := by
    refine ⟨Nat.le_trans hS.1 (by rw [e1]; exact hz), fun q h1 h2 => ?_, fun q hq => ?_⟩
    · rw [e1, hk q (Nat.lt_of_lt_of_le h1 hS.1) (fun z => h2 (G.2.2.2.2.2.2.2.2.2.2.2.1 q z))]
      exact hS.2.1 q h1 h2
    · rcases List.mem_append.mp hq with h | h
      · exact hS.2.2 q h
      · exact G.2.2.2.2.2.2.2.2.2.2.2.1 _ (hL q h)
  obtain ⟨t2, a1, b1⟩ := k T'.heap (locs ++ L) ls hl (by rw [e1]; exact hb) hS2 T' rfl X'
  exact ⟨t2, stp t2 a1, b1⟩
theorem pre_at (G : Ok p s m args meth c w cc nL own ret hi R A cs sl D) {H : Heap} {locs : List Loc} {as : List Value} (hP : va_P w.2.2.1 vwCl (wd w lo hi O M) H) (hS : va_S A s.heap H locs) (hAw : ∀ q, A q → q < s.heap.size → Aw w q) : ∀ U : State, U.heap = H → s.WarmedH U.vm → PreM w lo hi O as M as.toArray U := by
  intro U hU hW
  refine ⟨rfl, by rw [hU]; exact hP, Kf.warm hW G.2.2.2.2.2.1, ?_, G.2.2.2.2.2.2.2.1, G.2.2.2.2.2.2.2.2.2.2.1⟩
  rw [hU]
  exact ((G.2.2.2.2.2.2.1).kept (fun a h1 h2 => hS.2.1 a h1 (fun z => h2 (hAw a z h1)))).moved hW.alike
theorem s_callV (G : Ok p s m args meth c w cc nL own ret hi R A cs sl D) (hAw : ∀ q, A q → q < s.heap.size → Aw w q) {μ : Md} {n d k ci N index i1 : Nat} {fs : (Nat → Int32) → List Value} {C : String} {T : u_T} {ty : Nat → FieldType} {as st0 : List Value} {γ : Type} {y : Option γ} {f : γ → Option α} (toV : γ → Option Value) (toM : γ → Mem) (hm : MdV μ n) (hC : ∀ z, y = some z → Ct w lo hi O l d μ (.ref (w.1 k) :: as) M (toV z, toM z)) (hr : lo ≤ k ∧ k < hi) (hce : ∀ f g, ce w k f g = .inr (ci, fs f)) (cl : ClOk ci C T N ty) (hcl : μ.1.cls = C) (q1 : lw_tbl[i1]? = some (.methodLink own index μ.1)) (hn : as.length = n) (hst : st0 = as.reverse ++ .ref (w.1 k) :: st) (hw : (st.map fun v => v.category).sum ≤ 8) (hdD : d < D) (hd : decode cc pc = .ok (.invokevirtual index, 3)) (kk : ∀ z, Sim p l e R s m args below meth c w lo hi O nL A cs sl Q r0 (pc + 3) lv ((toV z).toList ++ st) (toM z) (f z) K) : Sim p l e R s m args below meth c w lo hi O nL A cs sl Q r0 pc lv st0 M (Option.bind y f) K := by
  intro hx H locs ls hl hP hS
  cases hy : y with
  | none => rw [hy] at hx; simp at hx
  | some z =>
    rw [hy] at hx
    have hg := wd_get w O M hr G.2.2.2.2.2.2.2.2.2.2.1
    rw [hce] at hg
    subst hst
    subst hcl
    have hts : ∀ x ∈ lw_tbl.filter goodWord, x.before args s = true := fun x h => G.2.2.2.2.1 x (List.mem_filter.mp h).1 (List.mem_filter.mp h).2
    refine call_at G hl hS (va_runV (Ts := lw_tbl.filter goodWord) ⟨G.1, G.2.1, G.2.2.1, G.2.2.2.1, hts⟩ (hC z hy) (C := μ.1.cls) (index := index) (bytes := μ.2.1) (maxL := μ.2.2.1) (ret := μ.2.2.2) (n := n) ⟨callB_of n hts (good_wsM hm.1.1) rfl rfl rfl (G.2.2.2.2.1 _ hm.1.2.1 rfl) (G.2.2.2.2.1 _ (List.mem_of_getElem? q1) rfl) hm.1.2.2.1 ?_, G.2.2.2.2.1 _ hm.2.1 rfl, G.2.2.2.2.1 _ hm.2.2 rfl⟩ ⟨blind_PreM w lo hi O (.ref (w.1 k) :: as) M, va_recv G.2.2.2.2.2.1.1 hP (ci := ci) (q0 := k) cl.1 hg, pre_at G hP hS hAw⟩ rfl hn hl.1 rfl (lv_room hw) hd ⟨G.2.2.2.2.2.2.2.2.2.2.2.2.1, G.2.2.2.2.2.2.2.2.2.2.2.2.2.1⟩) (kk z hx)
    have h1 := G.2.2.2.2.2.2.2.2.2.2.2.2.2.2.1
    have h2 := G.2.2.2.2.2.2.2.2.2.2.2.2.2.2.2
    have h3 := hm.1.2.2.2
    constructor
    · show d + 1 ≤ _
      omega
    · show 8 + (μ.2.2.1 + 11) + 64 * d ≤ _
      omega
theorem s_callS (G : Ok p s m args meth c w cc nL own ret hi R A cs sl D) (hAw : ∀ q, A q → q < s.heap.size → Aw w q) {μ : Md} {n d index : Nat} {as st0 : List Value} {γ : Type} {y : Option γ} {f : γ → Option α} (toV : γ → Option Value) (toM : γ → Mem) (hm : MdS μ n) (hC : ∀ z, y = some z → Ct w lo hi O l d μ as M (toV z, toM z)) {i1 : Nat} (q1 : lw_tbl[i1]? = some (.methodLink own index μ.1)) (hn : as.length = n) (hst : st0 = as.reverse ++ st) (hw : (st.map fun v => v.category).sum ≤ 8) (hdD : d < D) (hd : decode cc pc = .ok (.invokestatic index, 3)) (kk : ∀ z, Sim p l e R s m args below meth c w lo hi O nL A cs sl Q r0 (pc + 3) lv ((toV z).toList ++ st) (toM z) (f z) K) : Sim p l e R s m args below meth c w lo hi O nL A cs sl Q r0 pc lv st0 M (Option.bind y f) K := by
  intro hx H locs ls hl hP hS
  cases hy : y with
  | none => rw [hy] at hx; simp at hx
  | some z =>
    rw [hy] at hx
    subst hst
    have hts : ∀ x ∈ lw_tbl.filter goodWord, x.before args s = true := fun x h => G.2.2.2.2.1 x (List.mem_filter.mp h).1 (List.mem_filter.mp h).2
    refine call_at G hl hS (va_runS (Ts := lw_tbl.filter goodWord) ⟨G.1, G.2.1, G.2.2.1, G.2.2.2.1, hts⟩ (hC z hy) (index := index) (bytes := μ.2.1) (maxL := μ.2.2.1) (ret := μ.2.2.2) (n := n) ⟨callB_of n hts (good_wsM hm.1.1) rfl rfl rfl (G.2.2.2.2.1 _ hm.1.2.1 rfl) (G.2.2.2.2.1 _ (List.mem_of_getElem? q1) rfl) hm.1.2.2.1 ?_, G.2.2.2.2.1 _ hm.2 rfl⟩ ⟨blind_PreM w lo hi O as M, pre_at G hP hS hAw⟩ rfl hn hl.1 rfl (lv_room hw) hd ⟨G.2.2.2.2.2.2.2.2.2.2.2.2.1, G.2.2.2.2.2.2.2.2.2.2.2.2.2.1⟩) (kk z hx)
    have h1 := G.2.2.2.2.2.2.2.2.2.2.2.2.2.2.1
    have h2 := G.2.2.2.2.2.2.2.2.2.2.2.2.2.2.2
    have h3 := hm.1.2.2.2
    constructor
    · show d + 1 ≤ _
      omega
    · show 8 + (μ.2.2.1 + 11) + 64 * d ≤ _
      omega
theorem s_callSN (G : Ok p s m args meth c w cc nL own ret hi R A cs sl D) (hAw : ∀ q, A q → q < s.heap.size → Aw w q) {μ : Md} {n d index : Nat} {as st0 : List Value} {γ : Type} {y : Option γ} {f : γ → Option α} (toV : γ → Option Value) (toM : γ → Mem) (hm : MdS μ n) (hC : ∀ z, y = some z → Ct w lo hi O l d μ as M (toV z, toM z)) (hnw : (own, index, μ.1) ∈ nwL) (hn : as.length = n) (hst : st0 = as.reverse ++ st) (hw : (st.map fun v => v.category).sum ≤ 8) (hdD : d < D) (hd : decode cc pc = .ok (.invokestatic index, 3)) (kk : ∀ z, Sim p l e R s m args below meth c w lo hi O nL A cs sl Q r0 (pc + 3) lv ((toV z).toList ++ st) (toM z) (f z) K) : Sim p l e R s m args below meth c w lo hi O nL A cs sl Q r0 pc lv st0 M (Option.bind y f) K := by
  intro hx H locs ls hl hP hS
  cases hy : y with
  | none => rw [hy] at hx; simp at hx
  | some z =>
    rw [hy] at hx
    subst hst
    have hts : ∀ x ∈ lw_tbl.filter goodWord, x.before args s = true := fun x h => G.2.2.2.2.1 x (List.mem_filter.mp h).1 (List.mem_filter.mp h).2
    refine call_at G hl hS (va_runSN (Ts := lw_tbl.filter goodWord) (host := "HangerRail") ⟨G.1, G.2.1, G.2.2.1, G.2.2.2.1, hts⟩ (hC z hy) (index := index) (bytes := μ.2.1) (maxL := μ.2.2.1) (ret := μ.2.2.2) (n := n) ⟨va_cnB n hts (good_wsM hm.1.1) rfl rfl rfl (G.2.2.2.2.2.1.2.1 _ hnw) (G.2.2.2.2.1 _ hm.1.2.1 rfl) hm.1.2.2.1 ?_, G.2.2.2.2.1 _ hm.2 rfl, trivial⟩ ⟨blind_PreM w lo hi O as M, pre_at G hP hS hAw⟩ rfl hn hl.1 rfl (lv_room hw) hd ⟨G.2.2.2.2.2.2.2.2.2.2.2.2.1, G.2.2.2.2.2.2.2.2.2.2.2.2.2.1⟩) (kk z hx)
    have h1 := G.2.2.2.2.2.2.2.2.2.2.2.2.2.2.1
    have h2 := G.2.2.2.2.2.2.2.2.2.2.2.2.2.2.2
    have h3 := hm.1.2.2.2
    constructor
    · show d + 1 ≤ _
      omega
    · show 8 + (μ.2.2.1 + 11) + 64 * d ≤ _
      omega
end SIM2
section SIM3
variable {p : Program} {l : Launch} {e : Env} {R : Room} {s : State} {m : MethodId} {args : Array Value} {below : List Frame} {meth : Method} {c : Code} {w : Wx} {lo hi : Nat} {O : Mem} {nL : Nat} {α : Type} {r0 : Option Value × Mem} {cc : ByteArray} {own : String} {ret : Option FieldType} {D pc : Nat} {lv : List (Option Value)} {M : Mem} {K : α → Option (Option Value × Mem)} {y : α}

theorem s_iret (G : Ok p s m args meth c w cc nL own ret hi R (Aw w) 0 0 D) {v : Int32} (hret : ret = some .int) (hk : K y = some (some (.int v), M)) (hd : decode cc pc = .ok (.ireturn, 1)) : Sim p l e R s m args below meth c w lo hi O nL (Aw w) 0 0 (MQ below (PostM w lo hi O r0) args s 0 0 (Aw w)) r0 pc lv [.int v] M (some y) K := by
  intro hx H locs ls hl hP hS
  have hx : K y = some r0 := hx
  rw [hk] at hx
  cases hx
  exact W.iret (hlocks := G.2.2.2.2.2.2.2.2.1) G.1 G.2.1 (G.2.2.2.2.2.2.2.2.2.1.trans hret) (fun t ht hW => ⟨rfl, by rw [ht]; exact hP, hS.F ht⟩) hS.2.2 hd
theorem s_zret (G : Ok p s m args meth c w cc nL own ret hi R (Aw w) 0 0 D) {v : Int32} {ty : FieldType} (hret : ret = some ty) (hn : narrow ty (.int v) = .int v) (hk : K y = some (some (.int v), M)) (hd : decode cc pc = .ok (.ireturn, 1)) : Sim p l e R s m args below meth c w lo hi O nL (Aw w) 0 0 (MQ below (PostM w lo hi O r0) args s 0 0 (Aw w)) r0 pc lv [.int v] M (some y) K := by
  intro hx H locs ls hl hP hS
  have hx : K y = some r0 := hx
  rw [hk] at hx
  cases hx
  exact W.zret (hlocks := G.2.2.2.2.2.2.2.2.1) G.1 G.2.1 (G.2.2.2.2.2.2.2.2.2.1.trans hret) hn (fun t ht hW => ⟨rfl, by rw [ht]; exact hP, hS.F ht⟩) hS.2.2 hd
theorem s_lret (G : Ok p s m args meth c w cc nL own ret hi R (Aw w) 0 0 D) {v : Int64} (hret : ret = some .long) (hk : K y = some (some (.long v), M)) (hd : decode cc pc = .ok (.lreturn, 1)) : Sim p l e R s m args below meth c w lo hi O nL (Aw w) 0 0 (MQ below (PostM w lo hi O r0) args s 0 0 (Aw w)) r0 pc lv [.long v] M (some y) K := by
  intro hx H locs ls hl hP hS
  have hx : K y = some r0 := hx
  rw [hk] at hx
  cases hx
  exact W.lret (hlocks := G.2.2.2.2.2.2.2.2.1) G.1 G.2.1 (G.2.2.2.2.2.2.2.2.2.1.trans hret) (fun t ht hW => ⟨rfl, by rw [ht]; exact hP, hS.F ht⟩) hS.2.2 hd
theorem s_vret (G : Ok p s m args meth c w cc nL own ret hi R (Aw w) 0 0 D) (hret : ret = none) (hk : K y = some (none, M)) (hd : decode cc pc = .ok (.return_, 1)) : Sim p l e R s m args below meth c w lo hi O nL (Aw w) 0 0 (MQ below (PostM w lo hi O r0) args s 0 0 (Aw w)) r0 pc lv [] M (some y) K := by
  intro hx H locs ls hl hP hS
  have hx : K y = some r0 := hx
  rw [hk] at hx
  cases hx
  exact W.vret (hlocks := G.2.2.2.2.2.2.2.2.1) G.1 G.2.1 (G.2.2.2.2.2.2.2.2.2.1.trans hret) (fun t ht hW => ⟨rfl, by rw [ht]; exact hP, hS.F ht⟩) hS.2.2 hd
theorem s_aret (G : Ok p s m args meth c w cc nL own ret hi R (Aw w) 0 0 D) {a : Nat} {nm : String} (hret : ret = some (.object nm)) (hk : K y = some (some (.ref a), M)) (hd : decode cc pc = .ok (.areturn, 1)) : Sim p l e R s m args below meth c w lo hi O nL (Aw w) 0 0 (MQ below (PostM w lo hi O r0) args s 0 0 (Aw w)) r0 pc lv [.ref a] M (some y) K := by
  intro hx H locs ls hl hP hS
  have hx : K y = some r0 := hx
  rw [hk] at hx
  cases hx
  exact W.aret (hlocks := G.2.2.2.2.2.2.2.2.1) G.1 G.2.1 (G.2.2.2.2.2.2.2.2.2.1.trans hret) (Or.inl ⟨_, rfl⟩) (Or.inr ⟨_, rfl⟩) (fun t ht hW => ⟨rfl, by rw [ht]; exact hP, hS.F ht⟩) hS.2.2 hd
theorem ct_of {d : Nat} {μ : Md} {as : List Value} {X : Option α} (lv : List (Option Value)) (hy : plainName μ.1.cls = true) (hlv : lvl 0 lv = lv_args 0 as) (hn : (lg_sl as).length ≤ μ.2.2.1) (hX : X.bind K = some r0) (body : ∀ (p : Program) (e : Env) (s : State) (m : MethodId) (args : Array Value) (below : List Frame) (meth : Method) (c : Code), Ok p s m args meth c w μ.2.1 μ.2.2.1 μ.1.cls μ.2.2.2 hi (rl d) (Aw w) 0 0 d → Sim p l e (rl d) s m args below meth c w lo hi O μ.2.2.1 (Aw w) 0 0 (MQ below (PostM w lo hi O r0) args s 0 0 (Aw w)) r0 0 lv [] M X K) : Ct w lo hi O l d μ as M r0 := by
  refine Met.ofW (cc := μ.2.1) (maxL := μ.2.2.1) (ret := μ.2.2.2) hy rfl ?_
  intro p e s m args below meth c s₁ B hml hv
  obtain ⟨rfl, hP, hK, hSx, hAp, h48⟩ := hv
  have hts := atoms_spec (ws := wsM μ) B.pre
  have hl := lv_entry as (n := μ.2.2.1) hn
  rw [lg_entry_eq]
  generalize (lg_sl as ++ List.replicate (μ.2.2.1 - (lg_sl as).length) Slot.unset).toArray = ls at hl ⊢
  rw [← hlv] at hl
  exact body p e s m as.toArray below meth c ⟨B.exec, B.bytes, hml, findClass_of_methodNamed B.named, fun x h hg => hts x (List.mem_cons_of_mem _ (List.mem_filter.mpr ⟨h, hg⟩)), hK, hSx, hAp, B.notSynchronized, B.returns, h48, fun _ h => h, Nat.le_refl 0, Nat.le_refl 0, Nat.le_refl _, Nat.le_refl _⟩ hX s.heap [] ls (lvH_of hl) hP va_S.rf
end SIM3
theorem zb_nar {v : Int32} (h : zb v) : narrow .boolean (.int v) = .int v := by
  rcases h with rfl | rfl <;> rfl
theorem zb_fit {v : Int32} (h : zb v) : fits .boolean (.int v) = true := by
  rcases h with rfl | rfl <;> rfl
theorem aw_self {w : Wx} {s : State} : ∀ q, Aw w q → q < s.heap.size → Aw w q := fun _ h _ => h
