/-! THE ROWS: a row an instruction; the pure program beside it -/
def bn {α β : Type} (x : α) (k : α → β) : β := k x
/-- a loop with fuel: each step goes on, or leaves -/
def lp {σ ε : Type} (f : σ → Option (σ ⊕ ε)) : Nat → σ → Option ε
  | 0, _ => none
  | n + 1, s => match f s with
    | none => none
    | some (.inl s') => lp f n s'
    | some (.inr x) => some x
def el {α β γ : Type} (f : α → γ) (g : β → γ) : α ⊕ β → γ
  | .inl a => f a
  | .inr b => g b
/-- a truth is 0 or 1 -/
abbrev zb (v : Int32) : Prop := v = 0 ∨ v = 1
/-- an index within -/
abbrev inR (i : Int32) (n : Nat) : Prop := ¬ i < 0 ∧ i.toNatClampNeg < n

def Sim (p : Program) (l : Launch) (e : Env) (R : Room) (s : State) (m : MethodId) (args : Array Value) (below : List Frame) (meth : Method) (c : Code) (w : Wx) (lo hi : Nat) (O : Mem) (nL : Nat) (A : Nat → Prop) (cs sl : Nat) (Q : State → Prop) {ρ α : Type} (r0 : ρ) (pc : Nat) (lv : List (Option Value)) (st : List Value) (M : Mem) (X : Option α) (K : α → Option ρ) : Prop :=
  X.bind K = some r0 → AtP p l e R s m args below meth c w lo hi O nL A cs sl Q pc lv st M
section SIM
variable {p : Program} {l : Launch} {e : Env} {R : Room} {s : State} {m : MethodId} {args : Array Value} {below : List Frame} {meth : Method} {c : Code} {w : Wx} {lo hi : Nat} {O : Mem} {nL : Nat} {A : Nat → Prop} {cs sl : Nat} {Q : State → Prop} {ρ α β σ ε : Type} {r0 : ρ} {cc : ByteArray} {own : String} {ret : Option FieldType} {D pc : Nat} {lv : List (Option Value)} {st : List Value} {M : Mem} {X : Option α} {K : α → Option ρ}

theorem vk_ref_any {own tx : String} {k : Nat} {A : Array Value} {U : State} (h : (Cond.stringRef own k tx).before #[] U = true) : (Cond.stringRef own k tx).before A U = true := h
/-- may a value of one slot be stored at i? no long begins just ahead of it -/
def okS (lv : List (Option Value)) : Nat → Bool
  | 0 => true
  | i + 1 => match lv[i]? with
    | some (some v) => v.category != 2
    | _ => true
/-- the locals, as the kit lists them -/
def lvl : Nat → List (Option Value) → List (Nat × Value)
  | _, [] => []
  | k, none :: t => lvl (k + 1) t
  | k, some v :: t => (k, v) :: lvl (k + 1) t
theorem lvl_mem : ∀ (lv : List (Option Value)) (k : Nat) (q : Nat × Value), q ∈ lvl k lv ↔ ∃ i, q.1 = k + i ∧ lv[i]? = some (some q.2) := by
  intro lv
  induction lv with
  | nil => intro k q; simp [lvl]
  | cons x t ih =>
    intro k q
    cases x with
    | none =>
      rw [lvl, ih]
      constructor
      · rintro ⟨i, h1, h2⟩
        exact ⟨i + 1, by omega, by simpa using h2⟩
      · rintro ⟨i, h1, h2⟩
        cases i with
        | zero => simp at h2
        | succ i => exact ⟨i, by omega, by simpa using h2⟩
    | some v =>
      rw [lvl, List.mem_cons, ih]
      constructor
      · rintro (h | ⟨i, h1, h2⟩)
        · subst h
          exact ⟨0, rfl, rfl⟩
        · exact ⟨i + 1, by omega, by simpa using h2⟩
      · rintro ⟨i, h1, h2⟩
        cases i with
        | zero =>
          left
          simp at h2
          exact Prod.ext h1 h2.symm
        | succ i => exact Or.inr ⟨i, by omega, by simpa using h2⟩
theorem lvH_has {ls : Array Slot} (h : lvH ls nL lv) : lv_has ls nL (lvl 0 lv) := by
  refine ⟨h.1, h.2.1, fun q hq => ?_⟩
  obtain ⟨i, h1, h2⟩ := (lvl_mem lv 0 q).mp hq
  rw [h1, Nat.zero_add]
  exact h.2.2 i q.2 h2
theorem lvH_of {ls : Array Slot} (h : lv_has ls nL (lvl 0 lv)) : lvH ls nL lv := by
  refine ⟨h.1, h.2.1, fun i v hv => ?_⟩
  exact h.2.2 (i, v) ((lvl_mem lv 0 (i, v)).mpr ⟨i, (Nat.zero_add i).symm, hv⟩)
theorem lvH_store {ls : Array Slot} {i : Nat} {v : Value} (ho : okS lv i = true) (h : lv_has ls nL ((i, v) :: (lvl 0 lv).filter (fun q => !(q.1 == i) && !(q.1 + 1 == i && q.2.category == 2)))) : lvH ls nL (lv.set i (some v)) := by
  refine ⟨h.1, h.2.1, fun j x hx => ?_⟩
  refine h.2.2 (j, x) ?_
  rw [List.getElem?_set] at hx
  by_cases hj : i = j
  · subst hj
    rw [if_pos rfl] at hx
    split at hx
    · simp at hx
      subst hx
      exact List.mem_cons_self
    · simp at hx
  · rw [if_neg hj] at hx
    refine List.mem_cons_of_mem _ (List.mem_filter.mpr ⟨(lvl_mem lv 0 (j, x)).mpr ⟨j, (Nat.zero_add j).symm, hx⟩, ?_⟩)
    have h1 : (j == i) = false := by simpa using fun q => hj q.symm
    have h2 : (j + 1 == i && x.category == 2) = false := by
      by_cases h3 : j + 1 = i
      · subst h3
        simp only [okS, hx] at ho
        simp at ho
        simp [ho]
      · simp [h3]
    simp [h1, h2]
/-- a long takes two places -/
def stL2 (lv : List (Option Value)) (i : Nat) (v : Value) : List (Option Value) := (lv.set i (some v)).set (i + 1) none
theorem lvH_store2 {ls : Array Slot} {i : Nat} {v : Value} (ho : okS lv i = true) (h : lv_has ls nL ((i, v) :: (lvl 0 lv).filter (fun q => !(q.1 == i) && (!(q.1 == i + 1) && !(q.1 + 1 == i && q.2.category == 2))))) : lvH ls nL (stL2 lv i v) := by
  refine ⟨h.1, h.2.1, fun j x hx => ?_⟩
  refine h.2.2 (j, x) ?_
  unfold stL2 at hx
  rw [List.getElem?_set] at hx
  by_cases hj1 : i + 1 = j
  · rw [if_pos hj1] at hx
    split at hx <;> simp at hx
  · rw [if_neg hj1, List.getElem?_set] at hx
    by_cases hj : i = j
    · subst hj
      rw [if_pos rfl] at hx
      split at hx
      · simp at hx
        subst hx
        exact List.mem_cons_self
      · simp at hx
    · rw [if_neg hj] at hx
      refine List.mem_cons_of_mem _ (List.mem_filter.mpr ⟨(lvl_mem lv 0 (j, x)).mpr ⟨j, (Nat.zero_add j).symm, hx⟩, ?_⟩)
      have h1 : (j == i) = false := by simpa using fun q => hj q.symm
      have h1' : (j == i + 1) = false := by simpa using fun q => hj1 q.symm
      have h2 : (j + 1 == i && x.category == 2) = false := by
        by_cases h3 : j + 1 = i
        · subst h3
          simp only [okS, hx] at ho
          simp at ho
          simp [ho]
        · simp [h3]
      simp [h1, h1', h2]
theorem s_iconst (G : Ok p s m args meth c w cc nL own ret hi R A cs sl D) {n : Int} {v : Int32} (hd : decode cc pc = .ok (.iconst n, 1)) (hv : Int32.ofInt n = v) (k : Sim p l e R s m args below meth c w lo hi O nL A cs sl Q r0 (pc + 1) lv (.int v :: st) M X K) : Sim p l e R s m args below meth c w lo hi O nL A cs sl Q r0 pc lv st M X K := fun hx H locs ls hl hP hS => lv_iconst G.1 G.2.1 hd hv (k hx H locs ls hl hP hS)
theorem s_bipush (G : Ok p s m args meth c w cc nL own ret hi R A cs sl D) {n : Int} {v : Int32} (hd : decode cc pc = .ok (.bipush n, 2)) (hv : (Int8.ofInt n).toInt32 = v) (k : Sim p l e R s m args below meth c w lo hi O nL A cs sl Q r0 (pc + 2) lv (.int v :: st) M X K) : Sim p l e R s m args below meth c w lo hi O nL A cs sl Q r0 pc lv st M X K := fun hx H locs ls hl hP hS => lv_bipush G.1 G.2.1 hd hv (k hx H locs ls hl hP hS)
theorem s_sipush (G : Ok p s m args meth c w cc nL own ret hi R A cs sl D) {n : Int} {v : Int32} (hd : decode cc pc = .ok (.sipush n, 3)) (hv : (Int16.ofInt n).toInt32 = v) (k : Sim p l e R s m args below meth c w lo hi O nL A cs sl Q r0 (pc + 3) lv (.int v :: st) M X K) : Sim p l e R s m args below meth c w lo hi O nL A cs sl Q r0 pc lv st M X K := fun hx H locs ls hl hP hS => lv_sipush G.1 G.2.1 hd hv (k hx H locs ls hl hP hS)
theorem s_lconst (G : Ok p s m args meth c w cc nL own ret hi R A cs sl D) {n : Fin 2} {v : Int64} (hd : decode cc pc = .ok (.lconst n, 1)) (hv : Int64.ofNat (n : Nat) = v) (k : Sim p l e R s m args below meth c w lo hi O nL A cs sl Q r0 (pc + 1) lv (.long v :: st) M X K) : Sim p l e R s m args below meth c w lo hi O nL A cs sl Q r0 pc lv st M X K := fun hx H locs ls hl hP hS => lv_lconst G.1 G.2.1 hd hv (k hx H locs ls hl hP hS)
theorem s_ldc (G : Ok p s m args meth c w cc nL own ret hi R A cs sl D) {index i : Nat} {v : Int32} (hd : decode cc pc = .ok (.ldc index, 2)) (hq : lw_tbl[i]? = some (.constant own index v)) (k : Sim p l e R s m args below meth c w lo hi O nL A cs sl Q r0 (pc + 2) lv (.int v :: st) M X K) : Sim p l e R s m args below meth c w lo hi O nL A cs sl Q r0 pc lv st M X K := fun hx H locs ls hl hP hS => lv_ldc G.1 G.2.1 G.2.2.2.1 (G.2.2.2.2.1 _ (List.mem_of_getElem? hq) rfl) hd (k hx H locs ls hl hP hS)
theorem s_ldcw (G : Ok p s m args meth c w cc nL own ret hi R A cs sl D) {index i : Nat} {v : Int32} (hd : decode cc pc = .ok (.ldc_w index, 3)) (hq : lw_tbl[i]? = some (.constant own index v)) (k : Sim p l e R s m args below meth c w lo hi O nL A cs sl Q r0 (pc + 3) lv (.int v :: st) M X K) : Sim p l e R s m args below meth c w lo hi O nL A cs sl Q r0 pc lv st M X K := fun hx H locs ls hl hP hS => lv_ldcw G.1 G.2.1 G.2.2.2.1 (G.2.2.2.2.1 _ (List.mem_of_getElem? hq) rfl) hd (k hx H locs ls hl hP hS)
theorem s_ldc2 (G : Ok p s m args meth c w cc nL own ret hi R A cs sl D) {index i : Nat} {v : Int64} (hd : decode cc pc = .ok (.ldc2_w index, 3)) (hq : lw_tbl[i]? = some (.constantLong own index v)) (k : Sim p l e R s m args below meth c w lo hi O nL A cs sl Q r0 (pc + 3) lv (.long v :: st) M X K) : Sim p l e R s m args below meth c w lo hi O nL A cs sl Q r0 pc lv st M X K := fun hx H locs ls hl hP hS => lv_ldc2 G.1 G.2.1 G.2.2.2.1 (G.2.2.2.2.1 _ (List.mem_of_getElem? hq) rfl) hd (k hx H locs ls hl hP hS)
theorem s_ldcS (G : Ok p s m args meth c w cc nL own ret hi R A cs sl D) {index i : Nat} {tx : String} (hd : decode cc pc = .ok (.ldc index, 2)) (hq : stL[i]? = some (own, index, tx)) (k : Sim p l e R s m args below meth c w lo hi O nL A cs sl Q r0 (pc + 2) lv (.ref (w.2.2.2.1 i) :: st) M X K) : Sim p l e R s m args below meth c w lo hi O nL A cs sl Q r0 pc lv st M X K := fun hx H locs ls hl hP hS => va_ldcS G.1 G.2.1 G.2.2.2.1 (G.2.2.2.2.2.1.2.2 i _ hq) hd (k hx H locs ls hl hP hS)
theorem s_ldcwS (G : Ok p s m args meth c w cc nL own ret hi R A cs sl D) {index i : Nat} {tx : String} (hd : decode cc pc = .ok (.ldc_w index, 3)) (hq : stL[i]? = some (own, index, tx)) (k : Sim p l e R s m args below meth c w lo hi O nL A cs sl Q r0 (pc + 3) lv (.ref (w.2.2.2.1 i) :: st) M X K) : Sim p l e R s m args below meth c w lo hi O nL A cs sl Q r0 pc lv st M X K := by
  intro hx H locs ls hl hP hS T hT Y
  obtain ⟨t, a1, b1⟩ := k hx H locs ls hl hP hS T hT Y
  have hZ := G.2.2.2.2.2.1.2.2 i _ hq
  have h1 : (Cond.stringRef own index tx).before args s = true := vk_ref_any hZ.1
  have h2 : (Term.string own index).eval args s none [] s = some (.ref (w.2.2.2.1 i)) := hZ.2
  exact ⟨t, Y.ldcStringW G.1 G.2.2.2.1 (text := tx) h1 h2 (g := F0 m pc ls st) rfl (by rw [G.2.1]; exact hd) t a1, b1⟩
theorem s_iload_n (G : Ok p s m args meth c w cc nL own ret hi R A cs sl D) {n : Fin 4} {x : Int32} (hd : decode cc pc = .ok (.iload_n n, 1)) (hv : lv[(n : Nat)]? = some (some (.int x))) (k : Sim p l e R s m args below meth c w lo hi O nL A cs sl Q r0 (pc + 1) lv (.int x :: st) M X K) : Sim p l e R s m args below meth c w lo hi O nL A cs sl Q r0 pc lv st M X K := fun hx H locs ls hl hP hS => lv_iload_n G.1 G.2.1 hd rfl (hl.2.2 _ _ hv) (k hx H locs ls hl hP hS)
theorem s_iload (G : Ok p s m args meth c w cc nL own ret hi R A cs sl D) {i : Nat} {x : Int32} (hd : decode cc pc = .ok (.iload i, 2)) (hv : lv[i]? = some (some (.int x))) (k : Sim p l e R s m args below meth c w lo hi O nL A cs sl Q r0 (pc + 2) lv (.int x :: st) M X K) : Sim p l e R s m args below meth c w lo hi O nL A cs sl Q r0 pc lv st M X K := fun hx H locs ls hl hP hS => lv_iload G.1 G.2.1 hd (hl.2.2 _ _ hv) (k hx H locs ls hl hP hS)
theorem s_istore_n (G : Ok p s m args meth c w cc nL own ret hi R A cs sl D) {n : Fin 4} {x : Int32} {lv2 : List (Option Value)} (hd : decode cc pc = .ok (.istore_n n, 1)) (hn : (n : Nat) < nL) (ho : okS lv (n : Nat) = true) (he : lv.set (n : Nat) (some (.int x)) = lv2) (k : Sim p l e R s m args below meth c w lo hi O nL A cs sl Q r0 (pc + 1) lv2 st M X K) : Sim p l e R s m args below meth c w lo hi O nL A cs sl Q r0 pc lv (.int x :: st) M X K := fun hx H locs ls hl hP hS => lv_istore_n G.1 G.2.1 hd rfl (lvH_has hl) hn rfl (fun ls2 hl2 => k hx H locs ls2 (he ▸ lvH_store ho hl2) hP hS)
theorem s_istore (G : Ok p s m args meth c w cc nL own ret hi R A cs sl D) {i : Nat} {x : Int32} {lv2 : List (Option Value)} (hd : decode cc pc = .ok (.istore i, 2)) (hn : i < nL) (ho : okS lv i = true) (he : lv.set i (some (.int x)) = lv2) (k : Sim p l e R s m args below meth c w lo hi O nL A cs sl Q r0 (pc + 2) lv2 st M X K) : Sim p l e R s m args below meth c w lo hi O nL A cs sl Q r0 pc lv (.int x :: st) M X K := fun hx H locs ls hl hP hS => lv_istore G.1 G.2.1 hd (lvH_has hl) hn rfl (fun ls2 hl2 => k hx H locs ls2 (he ▸ lvH_store ho hl2) hP hS)
theorem s_lload_n (G : Ok p s m args meth c w cc nL own ret hi R A cs sl D) {n : Fin 4} {x : Int64} (hd : decode cc pc = .ok (.lload_n n, 1)) (hv : lv[(n : Nat)]? = some (some (.long x))) (k : Sim p l e R s m args below meth c w lo hi O nL A cs sl Q r0 (pc + 1) lv (.long x :: st) M X K) : Sim p l e R s m args below meth c w lo hi O nL A cs sl Q r0 pc lv st M X K := fun hx H locs ls hl hP hS => lv_lload_n G.1 G.2.1 hd rfl (hl.2.2 _ _ hv) (k hx H locs ls hl hP hS)
theorem s_lload (G : Ok p s m args meth c w cc nL own ret hi R A cs sl D) {i : Nat} {x : Int64} (hd : decode cc pc = .ok (.lload i, 2)) (hv : lv[i]? = some (some (.long x))) (k : Sim p l e R s m args below meth c w lo hi O nL A cs sl Q r0 (pc + 2) lv (.long x :: st) M X K) : Sim p l e R s m args below meth c w lo hi O nL A cs sl Q r0 pc lv st M X K := fun hx H locs ls hl hP hS => lv_lload G.1 G.2.1 hd (hl.2.2 _ _ hv) (k hx H locs ls hl hP hS)
theorem s_lstore_n (G : Ok p s m args meth c w cc nL own ret hi R A cs sl D) {n : Fin 4} {x : Int64} {lv2 : List (Option Value)} (hd : decode cc pc = .ok (.lstore_n n, 1)) (hn : (n : Nat) + 1 < nL) (ho : okS lv (n : Nat) = true) (he : stL2 lv (n : Nat) (.long x) = lv2) (k : Sim p l e R s m args below meth c w lo hi O nL A cs sl Q r0 (pc + 1) lv2 st M X K) : Sim p l e R s m args below meth c w lo hi O nL A cs sl Q r0 pc lv (.long x :: st) M X K := fun hx H locs ls hl hP hS => lv_lstore_n G.1 G.2.1 hd rfl (lvH_has hl) hn rfl (fun ls2 hl2 => k hx H locs ls2 (he ▸ lvH_store2 ho hl2) hP hS)
theorem s_lstore (G : Ok p s m args meth c w cc nL own ret hi R A cs sl D) {i : Nat} {x : Int64} {lv2 : List (Option Value)} (hd : decode cc pc = .ok (.lstore i, 2)) (hn : i + 1 < nL) (ho : okS lv i = true) (he : stL2 lv i (.long x) = lv2) (k : Sim p l e R s m args below meth c w lo hi O nL A cs sl Q r0 (pc + 2) lv2 st M X K) : Sim p l e R s m args below meth c w lo hi O nL A cs sl Q r0 pc lv (.long x :: st) M X K := fun hx H locs ls hl hP hS => lv_lstore G.1 G.2.1 hd (lvH_has hl) hn rfl (fun ls2 hl2 => k hx H locs ls2 (he ▸ lvH_store2 ho hl2) hP hS)
theorem s_aload_n (G : Ok p s m args meth c w cc nL own ret hi R A cs sl D) {n : Fin 4} {x : Nat} (hd : decode cc pc = .ok (.aload_n n, 1)) (hv : lv[(n : Nat)]? = some (some (.ref x))) (k : Sim p l e R s m args below meth c w lo hi O nL A cs sl Q r0 (pc + 1) lv (.ref x :: st) M X K) : Sim p l e R s m args below meth c w lo hi O nL A cs sl Q r0 pc lv st M X K := fun hx H locs ls hl hP hS => lv_aload_n G.1 G.2.1 hd rfl (hl.2.2 _ _ hv) (k hx H locs ls hl hP hS)
theorem s_aload (G : Ok p s m args meth c w cc nL own ret hi R A cs sl D) {i : Nat} {x : Nat} (hd : decode cc pc = .ok (.aload i, 2)) (hv : lv[i]? = some (some (.ref x))) (k : Sim p l e R s m args below meth c w lo hi O nL A cs sl Q r0 (pc + 2) lv (.ref x :: st) M X K) : Sim p l e R s m args below meth c w lo hi O nL A cs sl Q r0 pc lv st M X K := fun hx H locs ls hl hP hS => lv_aload G.1 G.2.1 hd (hl.2.2 _ _ hv) (k hx H locs ls hl hP hS)
theorem s_astore_n (G : Ok p s m args meth c w cc nL own ret hi R A cs sl D) {n : Fin 4} {x : Nat} {lv2 : List (Option Value)} (hd : decode cc pc = .ok (.astore_n n, 1)) (hn : (n : Nat) < nL) (ho : okS lv (n : Nat) = true) (he : lv.set (n : Nat) (some (.ref x)) = lv2) (k : Sim p l e R s m args below meth c w lo hi O nL A cs sl Q r0 (pc + 1) lv2 st M X K) : Sim p l e R s m args below meth c w lo hi O nL A cs sl Q r0 pc lv (.ref x :: st) M X K := fun hx H locs ls hl hP hS => lv_astore_n G.1 G.2.1 hd rfl (lvH_has hl) hn rfl (fun ls2 hl2 => k hx H locs ls2 (he ▸ lvH_store ho hl2) hP hS)
theorem s_astore (G : Ok p s m args meth c w cc nL own ret hi R A cs sl D) {i : Nat} {x : Nat} {lv2 : List (Option Value)} (hd : decode cc pc = .ok (.astore i, 2)) (hn : i < nL) (ho : okS lv i = true) (he : lv.set i (some (.ref x)) = lv2) (k : Sim p l e R s m args below meth c w lo hi O nL A cs sl Q r0 (pc + 2) lv2 st M X K) : Sim p l e R s m args below meth c w lo hi O nL A cs sl Q r0 pc lv (.ref x :: st) M X K := fun hx H locs ls hl hP hS => lv_astore G.1 G.2.1 hd (lvH_has hl) hn rfl (fun ls2 hl2 => k hx H locs ls2 (he ▸ lvH_store ho hl2) hP hS)
theorem s_iinc (G : Ok p s m args meth c w cc nL own ret hi R A cs sl D) {i : Nat} {n : Int} {x v : Int32} {lv2 : List (Option Value)} (hd : decode cc pc = .ok (.iinc i n, 3)) (hv : lv[i]? = some (some (.int x))) (hw : x + Int32.ofInt n = v) (hn : i < nL) (ho : okS lv i = true) (he : lv.set i (some (.int v)) = lv2) (k : Sim p l e R s m args below meth c w lo hi O nL A cs sl Q r0 (pc + 3) lv2 st M X K) : Sim p l e R s m args below meth c w lo hi O nL A cs sl Q r0 pc lv st M X K := by
  intro hx H locs ls hl hP hS
  obtain ⟨j, hj⟩ := List.getElem?_of_mem ((lvl_mem lv 0 (i, .int x)).mpr ⟨i, (Nat.zero_add i).symm, hv⟩)
  exact lv_iinc G.1 G.2.1 hd (lvH_has hl) hj hw hn rfl (fun ls2 hl2 => k hx H locs ls2 (he ▸ lvH_store ho hl2) hP hS)
theorem s_iadd (G : Ok p s m args meth c w cc nL own ret hi R A cs sl D) {x y : Int32} (hd : decode cc pc = .ok (.iadd, 1)) (k : Sim p l e R s m args below meth c w lo hi O nL A cs sl Q r0 (pc + 1) lv (.int (x + y) :: st) M X K) : Sim p l e R s m args below meth c w lo hi O nL A cs sl Q r0 pc lv (.int y :: .int x :: st) M X K := fun hx H locs ls hl hP hS => lv_iadd G.1 G.2.1 hd (k hx H locs ls hl hP hS)
theorem s_isub (G : Ok p s m args meth c w cc nL own ret hi R A cs sl D) {x y : Int32} (hd : decode cc pc = .ok (.isub, 1)) (k : Sim p l e R s m args below meth c w lo hi O nL A cs sl Q r0 (pc + 1) lv (.int (x - y) :: st) M X K) : Sim p l e R s m args below meth c w lo hi O nL A cs sl Q r0 pc lv (.int y :: .int x :: st) M X K := fun hx H locs ls hl hP hS => lv_isub G.1 G.2.1 hd (k hx H locs ls hl hP hS)
theorem s_imul (G : Ok p s m args meth c w cc nL own ret hi R A cs sl D) {x y : Int32} (hd : decode cc pc = .ok (.imul, 1)) (k : Sim p l e R s m args below meth c w lo hi O nL A cs sl Q r0 (pc + 1) lv (.int (x * y) :: st) M X K) : Sim p l e R s m args below meth c w lo hi O nL A cs sl Q r0 pc lv (.int y :: .int x :: st) M X K := fun hx H locs ls hl hP hS => lv_imul G.1 G.2.1 hd (k hx H locs ls hl hP hS)
theorem s_iand (G : Ok p s m args meth c w cc nL own ret hi R A cs sl D) {x y : Int32} (hd : decode cc pc = .ok (.iand, 1)) (k : Sim p l e R s m args below meth c w lo hi O nL A cs sl Q r0 (pc + 1) lv (.int (x &&& y) :: st) M X K) : Sim p l e R s m args below meth c w lo hi O nL A cs sl Q r0 pc lv (.int y :: .int x :: st) M X K := fun hx H locs ls hl hP hS => lv_iand G.1 G.2.1 hd (k hx H locs ls hl hP hS)
theorem s_ior (G : Ok p s m args meth c w cc nL own ret hi R A cs sl D) {x y : Int32} (hd : decode cc pc = .ok (.ior, 1)) (k : Sim p l e R s m args below meth c w lo hi O nL A cs sl Q r0 (pc + 1) lv (.int (x ||| y) :: st) M X K) : Sim p l e R s m args below meth c w lo hi O nL A cs sl Q r0 pc lv (.int y :: .int x :: st) M X K := fun hx H locs ls hl hP hS => lv_ior G.1 G.2.1 hd (k hx H locs ls hl hP hS)
theorem s_ixor (G : Ok p s m args meth c w cc nL own ret hi R A cs sl D) {x y : Int32} (hd : decode cc pc = .ok (.ixor, 1)) (k : Sim p l e R s m args below meth c w lo hi O nL A cs sl Q r0 (pc + 1) lv (.int (x ^^^ y) :: st) M X K) : Sim p l e R s m args below meth c w lo hi O nL A cs sl Q r0 pc lv (.int y :: .int x :: st) M X K := fun hx H locs ls hl hP hS => lv_ixor G.1 G.2.1 hd (k hx H locs ls hl hP hS)
theorem s_ishl (G : Ok p s m args meth c w cc nL own ret hi R A cs sl D) {x y : Int32} (hd : decode cc pc = .ok (.ishl, 1)) (k : Sim p l e R s m args below meth c w lo hi O nL A cs sl Q r0 (pc + 1) lv (.int (x <<< (y &&& 31)) :: st) M X K) : Sim p l e R s m args below meth c w lo hi O nL A cs sl Q r0 pc lv (.int y :: .int x :: st) M X K := fun hx H locs ls hl hP hS => lv_ishl G.1 G.2.1 hd (k hx H locs ls hl hP hS)
theorem s_ishr (G : Ok p s m args meth c w cc nL own ret hi R A cs sl D) {x y : Int32} (hd : decode cc pc = .ok (.ishr, 1)) (k : Sim p l e R s m args below meth c w lo hi O nL A cs sl Q r0 (pc + 1) lv (.int (x >>> (y &&& 31)) :: st) M X K) : Sim p l e R s m args below meth c w lo hi O nL A cs sl Q r0 pc lv (.int y :: .int x :: st) M X K := fun hx H locs ls hl hP hS => lv_ishr G.1 G.2.1 hd (k hx H locs ls hl hP hS)
theorem s_idiv (G : Ok p s m args meth c w cc nL own ret hi R A cs sl D) {x y : Int32} (hd : decode cc pc = .ok (.idiv, 1)) (hne : ¬ y = 0) (k : Sim p l e R s m args below meth c w lo hi O nL A cs sl Q r0 (pc + 1) lv (.int (x / y) :: st) M X K) : Sim p l e R s m args below meth c w lo hi O nL A cs sl Q r0 pc lv (.int y :: .int x :: st) M X K := fun hx H locs ls hl hP hS => lv_idiv G.1 G.2.1 hd hne (k hx H locs ls hl hP hS)
theorem s_ineg (G : Ok p s m args meth c w cc nL own ret hi R A cs sl D) {x : Int32} (hd : decode cc pc = .ok (.ineg, 1)) (k : Sim p l e R s m args below meth c w lo hi O nL A cs sl Q r0 (pc + 1) lv (.int (-x) :: st) M X K) : Sim p l e R s m args below meth c w lo hi O nL A cs sl Q r0 pc lv (.int x :: st) M X K := fun hx H locs ls hl hP hS => lv_ineg G.1 G.2.1 hd (k hx H locs ls hl hP hS)
theorem s_ladd (G : Ok p s m args meth c w cc nL own ret hi R A cs sl D) {x y : Int64} (hd : decode cc pc = .ok (.ladd, 1)) (k : Sim p l e R s m args below meth c w lo hi O nL A cs sl Q r0 (pc + 1) lv (.long (x + y) :: st) M X K) : Sim p l e R s m args below meth c w lo hi O nL A cs sl Q r0 pc lv (.long y :: .long x :: st) M X K := fun hx H locs ls hl hP hS => lv_ladd G.1 G.2.1 hd (k hx H locs ls hl hP hS)
theorem s_lmul (G : Ok p s m args meth c w cc nL own ret hi R A cs sl D) {x y : Int64} (hd : decode cc pc = .ok (.lmul, 1)) (k : Sim p l e R s m args below meth c w lo hi O nL A cs sl Q r0 (pc + 1) lv (.long (x * y) :: st) M X K) : Sim p l e R s m args below meth c w lo hi O nL A cs sl Q r0 pc lv (.long y :: .long x :: st) M X K := fun hx H locs ls hl hP hS => lv_lmul G.1 G.2.1 hd (k hx H locs ls hl hP hS)
theorem s_lcmp (G : Ok p s m args meth c w cc nL own ret hi R A cs sl D) {x y : Int64} (hd : decode cc pc = .ok (.lcmp, 1)) (k : Sim p l e R s m args below meth c w lo hi O nL A cs sl Q r0 (pc + 1) lv (.int (lg_cmp x y) :: st) M X K) : Sim p l e R s m args below meth c w lo hi O nL A cs sl Q r0 pc lv (.long y :: .long x :: st) M X K := fun hx H locs ls hl hP hS => W.lcmp G.1 G.2.1 hd (k hx H locs ls hl hP hS)
theorem s_iushr (G : Ok p s m args meth c w cc nL own ret hi R A cs sl D) {x y : Int32} (hd : decode cc pc = .ok (.iushr, 1)) (k : Sim p l e R s m args below meth c w lo hi O nL A cs sl Q r0 (pc + 1) lv (.int (x.toUInt32 >>> (y.toUInt32 &&& Int32.toUInt32 31)).toInt32 :: st) M X K) : Sim p l e R s m args below meth c w lo hi O nL A cs sl Q r0 pc lv (.int y :: .int x :: st) M X K := fun hx H locs ls hl hP hS => lv_iushr G.1 G.2.1 hd rfl (k hx H locs ls hl hP hS)
theorem s_i2l (G : Ok p s m args meth c w cc nL own ret hi R A cs sl D) {x : Int32} (hd : decode cc pc = .ok (.i2l, 1)) (k : Sim p l e R s m args below meth c w lo hi O nL A cs sl Q r0 (pc + 1) lv (.long x.toInt64 :: st) M X K) : Sim p l e R s m args below meth c w lo hi O nL A cs sl Q r0 pc lv (.int x :: st) M X K := fun hx H locs ls hl hP hS => lv_i2l G.1 G.2.1 hd rfl (k hx H locs ls hl hP hS)
theorem s_l2i (G : Ok p s m args meth c w cc nL own ret hi R A cs sl D) {x : Int64} (hd : decode cc pc = .ok (.l2i, 1)) (k : Sim p l e R s m args below meth c w lo hi O nL A cs sl Q r0 (pc + 1) lv (.int x.toInt32 :: st) M X K) : Sim p l e R s m args below meth c w lo hi O nL A cs sl Q r0 pc lv (.long x :: st) M X K := fun hx H locs ls hl hP hS => lv_l2i G.1 G.2.1 hd rfl (k hx H locs ls hl hP hS)
theorem s_i2b (G : Ok p s m args meth c w cc nL own ret hi R A cs sl D) {x : Int32} (hd : decode cc pc = .ok (.i2b, 1)) (k : Sim p l e R s m args below meth c w lo hi O nL A cs sl Q r0 (pc + 1) lv (.int x.toInt8.toInt32 :: st) M X K) : Sim p l e R s m args below meth c w lo hi O nL A cs sl Q r0 pc lv (.int x :: st) M X K := fun hx H locs ls hl hP hS => lv_i2b G.1 G.2.1 hd rfl (k hx H locs ls hl hP hS)
theorem s_i2s (G : Ok p s m args meth c w cc nL own ret hi R A cs sl D) {x : Int32} (hd : decode cc pc = .ok (.i2s, 1)) (k : Sim p l e R s m args below meth c w lo hi O nL A cs sl Q r0 (pc + 1) lv (.int x.toInt16.toInt32 :: st) M X K) : Sim p l e R s m args below meth c w lo hi O nL A cs sl Q r0 pc lv (.int x :: st) M X K := fun hx H locs ls hl hP hS => lv_i2s G.1 G.2.1 hd rfl (k hx H locs ls hl hP hS)
theorem s_dup (G : Ok p s m args meth c w cc nL own ret hi R A cs sl D) {v : Value} (hd : decode cc pc = .ok (.dup, 1)) (h1 : v.category = 1) (k : Sim p l e R s m args below meth c w lo hi O nL A cs sl Q r0 (pc + 1) lv (v :: v :: st) M X K) : Sim p l e R s m args below meth c w lo hi O nL A cs sl Q r0 pc lv (v :: st) M X K := fun hx H locs ls hl hP hS => lv_dup G.1 G.2.1 hd h1 (k hx H locs ls hl hP hS)
theorem s_pop (G : Ok p s m args meth c w cc nL own ret hi R A cs sl D) {v : Value} (hd : decode cc pc = .ok (.pop, 1)) (h1 : v.category = 1) (k : Sim p l e R s m args below meth c w lo hi O nL A cs sl Q r0 (pc + 1) lv st M X K) : Sim p l e R s m args below meth c w lo hi O nL A cs sl Q r0 pc lv (v :: st) M X K := fun hx H locs ls hl hP hS => lv_pop G.1 G.2.1 hd h1 (k hx H locs ls hl hP hS)
theorem s_dup2 (G : Ok p s m args meth c w cc nL own ret hi R A cs sl D) {v u : Value} (hd : decode cc pc = .ok (.dup2, 1)) (h1 : v.category = 1) (h2 : u.category = 1) (k : Sim p l e R s m args below meth c w lo hi O nL A cs sl Q r0 (pc + 1) lv (v :: u :: v :: u :: st) M X K) : Sim p l e R s m args below meth c w lo hi O nL A cs sl Q r0 pc lv (v :: u :: st) M X K := fun hx H locs ls hl hP hS => lv_dup2_11 G.1 G.2.1 hd h1 h2 (k hx H locs ls hl hP hS)
theorem s_icmp_eq (G : Ok p s m args meth c w cc nL own ret hi R A cs sl D) {x y : Int32} {off : Int} {tgt : Nat} {X1 X2 : Option α} [DD : Decidable (x = y)] (hd : decode cc pc = .ok (.if_icmp .eq off, 3)) (ht : (pc : Int) + off = (tgt : Int)) (k1 : Sim p l e R s m args below meth c w lo hi O nL A cs sl Q r0 tgt lv st M X1 K) (k2 : Sim p l e R s m args below meth c w lo hi O nL A cs sl Q r0 (pc + 3) lv st M X2 K) : Sim p l e R s m args below meth c w lo hi O nL A cs sl Q r0 pc lv (.int y :: .int x :: st) M (if x = y then X1 else X2) K := fun hx H locs ls hl hP hS => lv_icmp_eq G.1 G.2.1 hd ht (fun h => k1 (by rw [if_pos h] at hx; exact hx) H locs ls hl hP hS) (fun h => k2 (by rw [if_neg h] at hx; exact hx) H locs ls hl hP hS)
theorem s_if_eq (G : Ok p s m args meth c w cc nL own ret hi R A cs sl D) {x : Int32} {off : Int} {tgt : Nat} {X1 X2 : Option α} [DD : Decidable (x = 0)] (hd : decode cc pc = .ok (.ifCond .eq off, 3)) (ht : (pc : Int) + off = (tgt : Int)) (k1 : Sim p l e R s m args below meth c w lo hi O nL A cs sl Q r0 tgt lv st M X1 K) (k2 : Sim p l e R s m args below meth c w lo hi O nL A cs sl Q r0 (pc + 3) lv st M X2 K) : Sim p l e R s m args below meth c w lo hi O nL A cs sl Q r0 pc lv (.int x :: st) M (if x = 0 then X1 else X2) K := fun hx H locs ls hl hP hS => lv_if_eq G.1 G.2.1 hd ht (fun h => k1 (by rw [if_pos h] at hx; exact hx) H locs ls hl hP hS) (fun h => k2 (by rw [if_neg h] at hx; exact hx) H locs ls hl hP hS)
theorem s_icmp_ne (G : Ok p s m args meth c w cc nL own ret hi R A cs sl D) {x y : Int32} {off : Int} {tgt : Nat} {X1 X2 : Option α} [DD : Decidable (x = y)] (hd : decode cc pc = .ok (.if_icmp .ne off, 3)) (ht : (pc : Int) + off = (tgt : Int)) (k1 : Sim p l e R s m args below meth c w lo hi O nL A cs sl Q r0 (pc + 3) lv st M X1 K) (k2 : Sim p l e R s m args below meth c w lo hi O nL A cs sl Q r0 tgt lv st M X2 K) : Sim p l e R s m args below meth c w lo hi O nL A cs sl Q r0 pc lv (.int y :: .int x :: st) M (if x = y then X1 else X2) K := fun hx H locs ls hl hP hS => lv_icmp_ne G.1 G.2.1 hd ht (fun h => k2 (by rw [if_neg h] at hx; exact hx) H locs ls hl hP hS) (fun h => k1 (by rw [if_pos h] at hx; exact hx) H locs ls hl hP hS)
theorem s_if_ne (G : Ok p s m args meth c w cc nL own ret hi R A cs sl D) {x : Int32} {off : Int} {tgt : Nat} {X1 X2 : Option α} [DD : Decidable (x = 0)] (hd : decode cc pc = .ok (.ifCond .ne off, 3)) (ht : (pc : Int) + off = (tgt : Int)) (k1 : Sim p l e R s m args below meth c w lo hi O nL A cs sl Q r0 (pc + 3) lv st M X1 K) (k2 : Sim p l e R s m args below meth c w lo hi O nL A cs sl Q r0 tgt lv st M X2 K) : Sim p l e R s m args below meth c w lo hi O nL A cs sl Q r0 pc lv (.int x :: st) M (if x = 0 then X1 else X2) K := fun hx H locs ls hl hP hS => lv_if_ne G.1 G.2.1 hd ht (fun h => k2 (by rw [if_neg h] at hx; exact hx) H locs ls hl hP hS) (fun h => k1 (by rw [if_pos h] at hx; exact hx) H locs ls hl hP hS)
theorem s_icmp_lt (G : Ok p s m args meth c w cc nL own ret hi R A cs sl D) {x y : Int32} {off : Int} {tgt : Nat} {X1 X2 : Option α} [DD : Decidable (x < y)] (hd : decode cc pc = .ok (.if_icmp .lt off, 3)) (ht : (pc : Int) + off = (tgt : Int)) (k1 : Sim p l e R s m args below meth c w lo hi O nL A cs sl Q r0 tgt lv st M X1 K) (k2 : Sim p l e R s m args below meth c w lo hi O nL A cs sl Q r0 (pc + 3) lv st M X2 K) : Sim p l e R s m args below meth c w lo hi O nL A cs sl Q r0 pc lv (.int y :: .int x :: st) M (if x < y then X1 else X2) K := fun hx H locs ls hl hP hS => lv_icmp_lt G.1 G.2.1 hd ht (fun h => k1 (by rw [if_pos h] at hx; exact hx) H locs ls hl hP hS) (fun h => k2 (by rw [if_neg h] at hx; exact hx) H locs ls hl hP hS)
theorem s_if_lt (G : Ok p s m args meth c w cc nL own ret hi R A cs sl D) {x : Int32} {off : Int} {tgt : Nat} {X1 X2 : Option α} [DD : Decidable (x < 0)] (hd : decode cc pc = .ok (.ifCond .lt off, 3)) (ht : (pc : Int) + off = (tgt : Int)) (k1 : Sim p l e R s m args below meth c w lo hi O nL A cs sl Q r0 tgt lv st M X1 K) (k2 : Sim p l e R s m args below meth c w lo hi O nL A cs sl Q r0 (pc + 3) lv st M X2 K) : Sim p l e R s m args below meth c w lo hi O nL A cs sl Q r0 pc lv (.int x :: st) M (if x < 0 then X1 else X2) K := fun hx H locs ls hl hP hS => lv_if_lt G.1 G.2.1 hd ht (fun h => k1 (by rw [if_pos h] at hx; exact hx) H locs ls hl hP hS) (fun h => k2 (by rw [if_neg h] at hx; exact hx) H locs ls hl hP hS)
theorem s_icmp_ge (G : Ok p s m args meth c w cc nL own ret hi R A cs sl D) {x y : Int32} {off : Int} {tgt : Nat} {X1 X2 : Option α} [DD : Decidable (y ≤ x)] (hd : decode cc pc = .ok (.if_icmp .ge off, 3)) (ht : (pc : Int) + off = (tgt : Int)) (k1 : Sim p l e R s m args below meth c w lo hi O nL A cs sl Q r0 tgt lv st M X1 K) (k2 : Sim p l e R s m args below meth c w lo hi O nL A cs sl Q r0 (pc + 3) lv st M X2 K) : Sim p l e R s m args below meth c w lo hi O nL A cs sl Q r0 pc lv (.int y :: .int x :: st) M (if y ≤ x then X1 else X2) K := fun hx H locs ls hl hP hS => lv_icmp_ge G.1 G.2.1 hd ht (fun h => k1 (by rw [if_pos h] at hx; exact hx) H locs ls hl hP hS) (fun h => k2 (by rw [if_neg h] at hx; exact hx) H locs ls hl hP hS)
theorem s_if_ge (G : Ok p s m args meth c w cc nL own ret hi R A cs sl D) {x : Int32} {off : Int} {tgt : Nat} {X1 X2 : Option α} [DD : Decidable (0 ≤ x)] (hd : decode cc pc = .ok (.ifCond .ge off, 3)) (ht : (pc : Int) + off = (tgt : Int)) (k1 : Sim p l e R s m args below meth c w lo hi O nL A cs sl Q r0 tgt lv st M X1 K) (k2 : Sim p l e R s m args below meth c w lo hi O nL A cs sl Q r0 (pc + 3) lv st M X2 K) : Sim p l e R s m args below meth c w lo hi O nL A cs sl Q r0 pc lv (.int x :: st) M (if 0 ≤ x then X1 else X2) K := fun hx H locs ls hl hP hS => lv_if_ge G.1 G.2.1 hd ht (fun h => k1 (by rw [if_pos h] at hx; exact hx) H locs ls hl hP hS) (fun h => k2 (by rw [if_neg h] at hx; exact hx) H locs ls hl hP hS)
theorem s_icmp_gt (G : Ok p s m args meth c w cc nL own ret hi R A cs sl D) {x y : Int32} {off : Int} {tgt : Nat} {X1 X2 : Option α} [DD : Decidable (y < x)] (hd : decode cc pc = .ok (.if_icmp .gt off, 3)) (ht : (pc : Int) + off = (tgt : Int)) (k1 : Sim p l e R s m args below meth c w lo hi O nL A cs sl Q r0 tgt lv st M X1 K) (k2 : Sim p l e R s m args below meth c w lo hi O nL A cs sl Q r0 (pc + 3) lv st M X2 K) : Sim p l e R s m args below meth c w lo hi O nL A cs sl Q r0 pc lv (.int y :: .int x :: st) M (if y < x then X1 else X2) K := fun hx H locs ls hl hP hS => lv_icmp_gt G.1 G.2.1 hd ht (fun h => k1 (by rw [if_pos h] at hx; exact hx) H locs ls hl hP hS) (fun h => k2 (by rw [if_neg h] at hx; exact hx) H locs ls hl hP hS)
theorem s_if_gt (G : Ok p s m args meth c w cc nL own ret hi R A cs sl D) {x : Int32} {off : Int} {tgt : Nat} {X1 X2 : Option α} [DD : Decidable (0 < x)] (hd : decode cc pc = .ok (.ifCond .gt off, 3)) (ht : (pc : Int) + off = (tgt : Int)) (k1 : Sim p l e R s m args below meth c w lo hi O nL A cs sl Q r0 tgt lv st M X1 K) (k2 : Sim p l e R s m args below meth c w lo hi O nL A cs sl Q r0 (pc + 3) lv st M X2 K) : Sim p l e R s m args below meth c w lo hi O nL A cs sl Q r0 pc lv (.int x :: st) M (if 0 < x then X1 else X2) K := fun hx H locs ls hl hP hS => lv_if_gt G.1 G.2.1 hd ht (fun h => k1 (by rw [if_pos h] at hx; exact hx) H locs ls hl hP hS) (fun h => k2 (by rw [if_neg h] at hx; exact hx) H locs ls hl hP hS)
theorem s_icmp_le (G : Ok p s m args meth c w cc nL own ret hi R A cs sl D) {x y : Int32} {off : Int} {tgt : Nat} {X1 X2 : Option α} [DD : Decidable (x ≤ y)] (hd : decode cc pc = .ok (.if_icmp .le off, 3)) (ht : (pc : Int) + off = (tgt : Int)) (k1 : Sim p l e R s m args below meth c w lo hi O nL A cs sl Q r0 tgt lv st M X1 K) (k2 : Sim p l e R s m args below meth c w lo hi O nL A cs sl Q r0 (pc + 3) lv st M X2 K) : Sim p l e R s m args below meth c w lo hi O nL A cs sl Q r0 pc lv (.int y :: .int x :: st) M (if x ≤ y then X1 else X2) K := fun hx H locs ls hl hP hS => lv_icmp_le G.1 G.2.1 hd ht (fun h => k1 (by rw [if_pos h] at hx; exact hx) H locs ls hl hP hS) (fun h => k2 (by rw [if_neg h] at hx; exact hx) H locs ls hl hP hS)
theorem s_if_le (G : Ok p s m args meth c w cc nL own ret hi R A cs sl D) {x : Int32} {off : Int} {tgt : Nat} {X1 X2 : Option α} [DD : Decidable (x ≤ 0)] (hd : decode cc pc = .ok (.ifCond .le off, 3)) (ht : (pc : Int) + off = (tgt : Int)) (k1 : Sim p l e R s m args below meth c w lo hi O nL A cs sl Q r0 tgt lv st M X1 K) (k2 : Sim p l e R s m args below meth c w lo hi O nL A cs sl Q r0 (pc + 3) lv st M X2 K) : Sim p l e R s m args below meth c w lo hi O nL A cs sl Q r0 pc lv (.int x :: st) M (if x ≤ 0 then X1 else X2) K := fun hx H locs ls hl hP hS => lv_if_le G.1 G.2.1 hd ht (fun h => k1 (by rw [if_pos h] at hx; exact hx) H locs ls hl hP hS) (fun h => k2 (by rw [if_neg h] at hx; exact hx) H locs ls hl hP hS)
theorem s_goto (G : Ok p s m args meth c w cc nL own ret hi R A cs sl D) {off : Int} {tgt : Nat} (hd : decode cc pc = .ok (.goto off, 3)) (ht : (pc : Int) + off = (tgt : Int)) (k : Sim p l e R s m args below meth c w lo hi O nL A cs sl Q r0 tgt lv st M X K) : Sim p l e R s m args below meth c w lo hi O nL A cs sl Q r0 pc lv st M X K := fun hx H locs ls hl hP hS => lv_goto G.1 G.2.1 hd ht (k hx H locs ls hl hP hS)
theorem s_name {γ : Type} {v : γ} {f : γ → Value} {k : γ → Option α} (h : ∀ u : γ, Sim p l e R s m args below meth c w lo hi O nL A cs sl Q r0 pc lv (f u :: st) M (k u) K) : Sim p l e R s m args below meth c w lo hi O nL A cs sl Q r0 pc lv (f v :: st) M (bn v k) K := fun hx => h v hx
theorem s_mask {lv2 : List (Option Value)} (h : ∀ (i : Nat) (v : Value), lv2[i]? = some (some v) → lv[i]? = some (some v)) (k : Sim p l e R s m args below meth c w lo hi O nL A cs sl Q r0 pc lv2 st M X K) : Sim p l e R s m args below meth c w lo hi O nL A cs sl Q r0 pc lv st M X K := fun hx H locs ls hl hP hS => k hx H locs ls ⟨hl.1, hl.2.1, fun i v hv => hl.2.2 i v (h i v hv)⟩ hP hS
def mk : List (Option Value) → List Bool → List (Option Value)
  | [], _ => []
  | _ :: t, [] => none :: mk t []
  | _ :: t, false :: b => none :: mk t b
  | x :: t, true :: b => x :: mk t b
theorem mk_sub : ∀ (lv : List (Option Value)) (b : List Bool) (i : Nat) (v : Value), (mk lv b)[i]? = some (some v) → lv[i]? = some (some v)
  | [], _, _, _, h => by simp [mk] at h
  | x :: t, [], 0, v, h => by simp [mk] at h
  | x :: t, [], i + 1, v, h => by simpa using mk_sub t [] i v (by simpa [mk] using h)
  | x :: t, false :: b, 0, v, h => by simp [mk] at h
  | x :: t, false :: b, i + 1, v, h => by simpa using mk_sub t b i v (by simpa [mk] using h)
  | x :: t, true :: b, 0, v, h => by simpa [mk] using h
  | x :: t, true :: b, i + 1, v, h => by simpa using mk_sub t b i v (by simpa [mk] using h)
theorem s_keep (b : List Bool) {lv2 : List (Option Value)} (he : mk lv b = lv2) (k : Sim p l e R s m args below meth c w lo hi O nL A cs sl Q r0 pc lv2 st M X K) : Sim p l e R s m args below meth c w lo hi O nL A cs sl Q r0 pc lv st M X K := s_mask (fun i v h => mk_sub lv b i v (he ▸ h)) k
theorem s_join {x : Option β} {k : β → Option α} (pj : Nat) (lvf : β → List (Option Value)) (stf : β → List Value) (Mf : β → Mem) (rest : ∀ y, Sim p l e R s m args below meth c w lo hi O nL A cs sl Q r0 pj (lvf y) (stf y) (Mf y) (k y) K) (tree : ∀ K2 : β → Option ρ, (∀ y, K2 y = some r0 → AtP p l e R s m args below meth c w lo hi O nL A cs sl Q pj (lvf y) (stf y) (Mf y)) → Sim p l e R s m args below meth c w lo hi O nL A cs sl Q r0 pc lv st M x K2) : Sim p l e R s m args below meth c w lo hi O nL A cs sl Q r0 pc lv st M (Option.bind x k) K := by
  intro hx
  rw [Option.bind_assoc] at hx
  exact tree (fun y => (k y).bind K) (fun y hy => rest y hy) hx
theorem s_leaf {y : β} {K2 : β → Option ρ} (lvf : β → List (Option Value)) (stf : β → List Value) (Mf : β → Mem) (hB : ∀ y, K2 y = some r0 → AtP p l e R s m args below meth c w lo hi O nL A cs sl Q pc (lvf y) (stf y) (Mf y)) : Sim p l e R s m args below meth c w lo hi O nL A cs sl Q r0 pc (lvf y) (stf y) (Mf y) (some y) K2 := fun hx => hB y hx
theorem lp_at {step : σ → Option (σ ⊕ ε)} {KE : ε → Option ρ} {P : σ → Prop} (body : ∀ (s : σ) (K2 : σ ⊕ ε → Option ρ), (∀ s2, K2 (.inl s2) = some r0 → P s2) → (∀ x, K2 (.inr x) = some r0 → KE x = some r0) → (step s).bind K2 = some r0 → P s) : ∀ (n : Nat) (s : σ), (lp step n s).bind KE = some r0 → P s := by
  intro n
  induction n with
  | zero => intro s h; simp [lp] at h
  | succ n ih =>
    intro s h
    refine body s (fun q => match q with | .inl s2 => (lp step n s2).bind KE | .inr x => KE x) (fun s2 h' => ih s2 h') (fun x h' => h') ?_
    unfold lp at h
    cases hs : step s with
    | none => rw [hs] at h; simp at h
    | some q =>
      rw [hs] at h
      cases q with
      | inl s2 => exact h
      | inr x => exact h
theorem s_loop {step : σ → Option (σ ⊕ ε)} {n : Nat} {s0 : σ} {k : ε → Option α} (px : Nat) (lvf : σ → List (Option Value)) (Mf : σ → Mem) (lve : ε → List (Option Value)) (Me : ε → Mem) (rest : ∀ x, Sim p l e R s m args below meth c w lo hi O nL A cs sl Q r0 px (lve x) st (Me x) (k x) K) (body : ∀ (z : σ) (K2 : σ ⊕ ε → Option ρ), (∀ z2, K2 (.inl z2) = some r0 → AtP p l e R s m args below meth c w lo hi O nL A cs sl Q pc (lvf z2) st (Mf z2)) → (∀ x, K2 (.inr x) = some r0 → AtP p l e R s m args below meth c w lo hi O nL A cs sl Q px (lve x) st (Me x)) → Sim p l e R s m args below meth c w lo hi O nL A cs sl Q r0 pc (lvf z) st (Mf z) (step z) K2) : Sim p l e R s m args below meth c w lo hi O nL A cs sl Q r0 pc (lvf s0) st (Mf s0) (Option.bind (lp step n s0) k) K := by
  intro hx
  rw [Option.bind_assoc] at hx
  exact lp_at (P := fun z => AtP p l e R s m args below meth c w lo hi O nL A cs sl Q pc (lvf z) st (Mf z)) (fun z K2 h1 h2 h3 => body z K2 h1 (fun x hk => rest x (h2 x hk)) h3) n s0 hx
theorem s_loop2 {ε2 : Type} {step : σ → Option (σ ⊕ (ε ⊕ ε2))} {n : Nat} {s0 : σ} {k : ε → Option α} {k2 : ε2 → Option α} (px px2 : Nat) (lvf : σ → List (Option Value)) (Mf : σ → Mem) (lve : ε → List (Option Value)) (Me : ε → Mem) (lve2 : ε2 → List (Option Value)) (Me2 : ε2 → Mem) (rest : ∀ x, Sim p l e R s m args below meth c w lo hi O nL A cs sl Q r0 px (lve x) st (Me x) (k x) K) (rest2 : ∀ x, Sim p l e R s m args below meth c w lo hi O nL A cs sl Q r0 px2 (lve2 x) st (Me2 x) (k2 x) K) (body : ∀ (z : σ) (K2 : σ ⊕ (ε ⊕ ε2) → Option ρ), (∀ z2, K2 (.inl z2) = some r0 → AtP p l e R s m args below meth c w lo hi O nL A cs sl Q pc (lvf z2) st (Mf z2)) → (∀ x, K2 (.inr (.inl x)) = some r0 → AtP p l e R s m args below meth c w lo hi O nL A cs sl Q px (lve x) st (Me x)) → (∀ x, K2 (.inr (.inr x)) = some r0 → AtP p l e R s m args below meth c w lo hi O nL A cs sl Q px2 (lve2 x) st (Me2 x)) → Sim p l e R s m args below meth c w lo hi O nL A cs sl Q r0 pc (lvf z) st (Mf z) (step z) K2) : Sim p l e R s m args below meth c w lo hi O nL A cs sl Q r0 pc (lvf s0) st (Mf s0) (Option.bind (lp step n s0) (el k k2)) K := by
  intro hx
  rw [Option.bind_assoc] at hx
  exact lp_at (P := fun z => AtP p l e R s m args below meth c w lo hi O nL A cs sl Q pc (lvf z) st (Mf z)) (fun z K2 h1 h2 h3 => body z K2 h1 (fun x hk => rest x (h2 (.inl x) hk)) (fun x hk => rest2 x (h2 (.inr x) hk)) h3) n s0 hx
theorem s_next {s2 : σ} {K2 : σ ⊕ ε → Option ρ} (lvf : σ → List (Option Value)) (Mf : σ → Mem) (hB : ∀ z2, K2 (.inl z2) = some r0 → AtP p l e R s m args below meth c w lo hi O nL A cs sl Q pc (lvf z2) st (Mf z2)) : Sim p l e R s m args below meth c w lo hi O nL A cs sl Q r0 pc (lvf s2) st (Mf s2) (some (.inl s2)) K2 := fun hx => hB s2 hx
theorem s_exit {x : ε} {K2 : σ ⊕ ε → Option ρ} (lve : ε → List (Option Value)) (Me : ε → Mem) (hE : ∀ x, K2 (.inr x) = some r0 → AtP p l e R s m args below meth c w lo hi O nL A cs sl Q pc (lve x) st (Me x)) : Sim p l e R s m args below meth c w lo hi O nL A cs sl Q r0 pc (lve x) st (Me x) (some (.inr x)) K2 := fun hx => hE x hx
theorem s_exitL {ε2 : Type} {x : ε} {K2 : σ ⊕ (ε ⊕ ε2) → Option ρ} (lve : ε → List (Option Value)) (Me : ε → Mem) (hE : ∀ x, K2 (.inr (.inl x)) = some r0 → AtP p l e R s m args below meth c w lo hi O nL A cs sl Q pc (lve x) st (Me x)) : Sim p l e R s m args below meth c w lo hi O nL A cs sl Q r0 pc (lve x) st (Me x) (some (.inr (.inl x))) K2 := fun hx => hE x hx
theorem s_exitR {ε2 : Type} {x : ε2} {K2 : σ ⊕ (ε ⊕ ε2) → Option ρ} (lve : ε2 → List (Option Value)) (Me : ε2 → Mem) (hE : ∀ x, K2 (.inr (.inr x)) = some r0 → AtP p l e R s m args below meth c w lo hi O nL A cs sl Q pc (lve x) st (Me x)) : Sim p l e R s m args below meth c w lo hi O nL A cs sl Q r0 pc (lve x) st (Me x) (some (.inr (.inr x))) K2 := fun hx => hE x hx
theorem s_none {Y : Option α} (h : Y = none) : Sim p l e R s m args below meth c w lo hi O nL A cs sl Q r0 pc lv st M Y K := fun hx => by rw [h] at hx; simp at hx
theorem s_test {q : Prop} [DD : Decidable q] {X1 : Option α} (k : q → Sim p l e R s m args below meth c w lo hi O nL A cs sl Q r0 pc lv st M X1 K) : Sim p l e R s m args below meth c w lo hi O nL A cs sl Q r0 pc lv st M (if q then X1 else none) K := by
  intro hx
  by_cases h : q
  · rw [if_pos h] at hx; exact k h hx
  · rw [if_neg h] at hx; simp at hx
end SIM
