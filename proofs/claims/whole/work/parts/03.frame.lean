/-! THE FRAME: one world of 48 cells (the class's 0 to 35, the reference's 36 to 47), a memory of numbers, a judgement 'Sim' that walks the bytecode beside a pure program -/
abbrev Mem : Type := (Nat → Nat → Int32) × (Nat → Nat → Int64)
def gI (M : Mem) (k i : Nat) : Int32 := M.1 k i
def gJ (M : Mem) (k i : Nat) : Int64 := M.2 k i
def sI (M : Mem) (k i : Nat) (v : Int32) : Mem := (fun c => if c = k then upd (M.1 c) i v else M.1 c, M.2)
def sJ (M : Mem) (k i : Nat) (v : Int64) : Mem := (M.1, fun c => if c = k then vp_updL (M.2 c) i v else M.2 c)
def rI (M : Mem) (k : Nat) (f : Nat → Int32) : Mem := (fun c => if c = k then f else M.1 c, M.2)
def rJ (M : Mem) (k : Nat) (f : Nat → Int64) : Mem := (M.1, fun c => if c = k then f else M.2 c)
/-- addresses of the cells; classes of the arrays; the tables' numbers; addresses of the text constants and of their bytes -/
abbrev Wx : Type := (Nat → Nat) × (Nat → ClassId) × va_G × (Nat → Nat) × (Nat → Nat)
def ceRail (w : Wx) (k : Nat) (f : Nat → Int32) : va_E := .inr (0, [.int (f 0), .int (f 1), .int (f 2), .int (f 3), .ref (w.1 (k + 1)), .ref (w.1 (k + 2)), .ref (w.1 (k + 3)), .ref (w.1 (k + 4)), .ref (w.1 (k + 5))])
def ceI (w : Wx) (n : Nat) (f : Nat → Int32) : va_E := .inl (w.2.1 1, n, .inl f)
def ceB (w : Wx) (n : Nat) (f : Nat → Int32) : va_E := .inl (w.2.1 0, n, .inl f)
def ceJ (w : Wx) (n : Nat) (g : Nat → Int64) : va_E := .inl (w.2.1 2, n, .inr (.inl g))
def ceSheet (w : Wx) (k : Nat) (f : Nat → Int32) : va_E := .inr (2, [.ref (w.1 (k + 1)), .int (f 1), .int (f 2)])
def shAd (w : Wx) (j : Nat) : Option Nat := some (w.1 (27 + 2 * j))
def ce (w : Wx) (k : Nat) (f : Nat → Int32) (g : Nat → Int64) : va_E := match k with
  | 0 => .inr (5, [.ref (w.1 1), .ref (w.1 7), .ref (w.1 13), .ref (w.1 19), .ref (w.1 23), .ref (w.1 25), .ref (w.1 26), .ref (w.1 35), .int (f 8)])
  | 1 => ceRail w 1 f
  | 2 => ceI w 12 f
  | 3 => ceI w 12 f
  | 4 => ceI w 12 f
  | 5 => ceI w 12 f
  | 6 => ceI w 24 f
  | 7 => ceRail w 7 f
  | 8 => ceI w 12 f
  | 9 => ceI w 12 f
  | 10 => ceI w 12 f
  | 11 => ceI w 12 f
  | 12 => ceI w 24 f
  | 13 => ceRail w 13 f
  | 14 => ceI w 12 f
  | 15 => ceI w 12 f
  | 16 => ceI w 12 f
  | 17 => ceI w 12 f
  | 18 => ceI w 24 f
  | 19 => .inr (3, [.ref (w.1 20), .ref (w.1 21), .ref (w.1 22)])
  | 20 => ceI w 12 f
  | 21 => ceI w 12 f
  | 22 => ceI w 12 f
  | 23 => .inr (4, [.ref (w.1 24), .int (f 1)])
  | 24 => ceB w 120 f
  | 25 => .inr (1, [.ref (w.1 23), .int (f 1), .int (f 2), .int (f 3), .int (f 4)])
  | 26 => .inl (w.2.1 3, 4, .inr (.inr (.inr (.inr (shAd w)))))
  | 27 => ceSheet w 27 f
  | 28 => ceJ w 40 g
  | 29 => ceSheet w 29 f
  | 30 => ceJ w 40 g
  | 31 => ceSheet w 31 f
  | 32 => ceJ w 40 g
  | 33 => ceSheet w 33 f
  | 34 => ceJ w 40 g
  | 35 => ceI w 7 f
  | 36 => .inr (6, [.ref (w.1 37), .ref (w.1 38), .ref (w.1 39), .ref (w.1 40), .ref (w.1 41), .int (f 5), .int (f 6), .int (f 7), .ref (w.1 42), .ref (w.1 43), .int (f 10), .int (f 11), .int (f 12), .int (f 13), .int (f 14), .ref (w.1 44), .ref (w.1 45), .ref (w.1 46), .ref (w.1 47)])
  | 37 => ceI w 63 f
  | 38 => ceI w 63 f
  | 39 => ceI w 63 f
  | 40 => ceI w 63 f
  | 41 => ceI w 7 f
  | 42 => ceI w 12 f
  | 43 => ceI w 120 f
  | 44 => ceI w 4 f
  | 45 => ceI w 4 f
  | 46 => ceJ w 160 g
  | _ => ceJ w 40 g
/-- the world: cells lo to hi - 1 hold M, the others O -/
def wd (w : Wx) (lo hi : Nat) (O M : Mem) : va_W := (List.range 48).map fun k => (w.1 k, ce w k (if lo ≤ k ∧ k < hi then M.1 k else O.1 k) (if lo ≤ k ∧ k < hi then M.2 k else O.2 k))
theorem wd_get (w : Wx) {lo hi : Nat} (O M : Mem) {k : Nat} (h : lo ≤ k ∧ k < hi) (h3 : hi ≤ 48) : (wd w lo hi O M)[k]? = some (w.1 k, ce w k (M.1 k) (M.2 k)) := by
  unfold wd
  rw [List.getElem?_map, List.getElem?_range (by omega)]
  simp only [Option.map_some, if_pos h]
theorem wd_getE (w : Wx) {lo hi : Nat} (O M : Mem) {k : Nat} {q : Nat × va_E} (h : (wd w lo hi O M)[k]? = some q) : k < 48 ∧ q.1 = w.1 k := by
  have hk : k < 48 := by
    have h1 := (List.getElem?_eq_some_iff.mp h).1
    simpa [wd] using h1
  refine ⟨hk, ?_⟩
  unfold wd at h
  rw [List.getElem?_map, List.getElem?_range hk] at h
  cases h
  rfl
theorem wd_set (w : Wx) {lo hi : Nat} (O M N : Mem) {k : Nat} (h : lo ≤ k ∧ k < hi) (h3 : hi ≤ 48) (e1 : ∀ c, c ≠ k → N.1 c = M.1 c) (e2 : ∀ c, c ≠ k → N.2 c = M.2 c) : (wd w lo hi O M).set k (w.1 k, ce w k (N.1 k) (N.2 k)) = wd w lo hi O N := by
  refine List.ext_getElem? fun j => ?_
  rw [List.getElem?_set]
  have hl : (wd w lo hi O M).length = 48 := by simp [wd]
  by_cases hj : k = j
  · subst hj
    rw [if_pos rfl, if_pos (by omega), wd_get w O N h h3]
  · rw [if_neg hj]
    unfold wd
    rw [List.getElem?_map, List.getElem?_map]
    by_cases hj4 : j < 48
    · rw [List.getElem?_range hj4]
      simp only [Option.map_some, e1 j (fun q => hj q.symm), e2 j (fun q => hj q.symm)]
    · rw [List.getElem?_eq_none (by simpa using hj4)]
      rfl
theorem wd_setI (w : Wx) {lo hi : Nat} (O M : Mem) {k : Nat} (h : lo ≤ k ∧ k < hi) (h3 : hi ≤ 48) (i : Nat) (v : Int32) : (wd w lo hi O M).set k (w.1 k, ce w k (upd (M.1 k) i v) (M.2 k)) = wd w lo hi O (sI M k i v) := by
  have h1 := wd_set w O M (sI M k i v) h h3 (fun c hc => by simp [sI, hc]) (fun c hc => rfl)
  rw [← h1]
  simp [sI]
theorem wd_setJ (w : Wx) {lo hi : Nat} (O M : Mem) {k : Nat} (h : lo ≤ k ∧ k < hi) (h3 : hi ≤ 48) (i : Nat) (v : Int64) : (wd w lo hi O M).set k (w.1 k, ce w k (M.1 k) (vp_updL (M.2 k) i v)) = wd w lo hi O (sJ M k i v) := by
  have h1 := wd_set w O M (sJ M k i v) h h3 (fun c hc => rfl) (fun c hc => by simp [sJ, hc])
  rw [← h1]
  simp [sJ]
theorem wd_setR (w : Wx) {lo hi : Nat} (O M : Mem) {k : Nat} (h : lo ≤ k ∧ k < hi) (h3 : hi ≤ 48) (f : Nat → Int32) : (wd w lo hi O M).set k (w.1 k, ce w k f (M.2 k)) = wd w lo hi O (rI M k f) := by
  have h1 := wd_set w O M (rI M k f) h h3 (fun c hc => by simp [rI, hc]) (fun c hc => rfl)
  rw [← h1]
  simp [rI]
theorem wd_setRJ (w : Wx) {lo hi : Nat} (O M : Mem) {k : Nat} (h : lo ≤ k ∧ k < hi) (h3 : hi ≤ 48) (f : Nat → Int64) : (wd w lo hi O M).set k (w.1 k, ce w k (M.1 k) f) = wd w lo hi O (rJ M k f) := by
  have h1 := wd_set w O M (rJ M k f) h h3 (fun c hc => rfl) (fun c hc => by simp [rJ, hc])
  rw [← h1]
  simp [rJ]
/-- class and reference side by side: either may be the one that is looked at -/
theorem wd_swap (w : Wx) (M N : Mem) : wd w 0 36 N M = wd w 36 48 M N := by
  unfold wd
  refine List.map_congr_left fun k hk => ?_
  have h48 : k < 48 := List.mem_range.mp hk
  by_cases h : k < 36
  · rw [if_pos ⟨Nat.zero_le _, h⟩, if_pos ⟨Nat.zero_le _, h⟩, if_neg (fun q => by omega), if_neg (fun q => by omega)]
  · rw [if_neg (fun q => h q.2), if_neg (fun q => h q.2), if_pos ⟨by omega, h48⟩, if_pos ⟨by omega, h48⟩]
def Aw (w : Wx) : Nat → Prop := fun q => ∃ k, k < 48 ∧ q = w.1 k
def Ap (w : Wx) : Prop := ∀ i j, i < 48 → j < 48 → w.1 i = w.1 j → i = j
theorem wd_D {w : Wx} (h : Ap w) (lo hi : Nat) (O M : Mem) : va_D (Aw w) (wd w lo hi O M) := by
  refine ⟨fun i j p q hp hq e => ?_, fun k q hq => ?_⟩
  · obtain ⟨h1, h2⟩ := wd_getE w O M hp
    obtain ⟨h3, h4⟩ := wd_getE w O M hq
    exact h i j h1 h3 (by rw [← h2, ← h4]; exact e)
  · obtain ⟨h1, h2⟩ := wd_getE w O M hq
    exact ⟨k, h1, h2⟩
abbrev tyW (w : Wx) : List (ClassId × FieldType) := [(w.2.1 0, .byte), (w.2.1 1, .int), (w.2.1 2, .long), (w.2.1 3, .object "HangerRail$Sheet")]
/-- links of nest mates -/
def nwL : List (String × Nat × MethodName) := [("HangerRail", 24, ⟨"HangerRail$Tangle", "<init>", "()V"⟩), ("HangerRail", 31, ⟨"HangerRail$Tape", "<init>", "()V"⟩), ("HangerRail", 55, ⟨"HangerRail$Sheet", "<init>", "()V"⟩), ("HangerRail$Rail", 46, ⟨"HangerRail", "isPlace", "(I)Z"⟩), ("HangerRail$Rail", 62, ⟨"HangerRail", "need", "(I)I"⟩), ("HangerRail$Rail", 86, ⟨"HangerRail", "isCatch", "(IIZZ)Z"⟩), ("HangerRail$Rail", 66, ⟨"HangerRail", "contains", "(II)Z"⟩), ("HangerRail$Tangle", 57, ⟨"HangerRail", "contains", "(II)Z"⟩), ("HangerRail$Rail", 70, ⟨"HangerRail", "holds", "(I)I"⟩), ("HangerRail$Reader", 113, ⟨"HangerRail", "kindName", "(I)Ljava/lang/String;"⟩)]
/-- the text constants: class, entry, text -/
def stL : List (String × Nat × String) := [("HangerRail", 284, "hanger"), ("HangerRail", 286, "wire"), ("HangerRail", 288, "wood"), ("HangerRail", 290, "bent"), ("HangerRail", 292, "strap"), ("HangerRail", 294, "bar"), ("HangerRail$Reader", 32, "price"), ("HangerRail$Reader", 73, "at"), ("HangerRail$Reader", 83, "back"), ("HangerRail$Reader", 87, "shirt"), ("HangerRail$Reader", 93, "feel")]
def stB : List (List Int32) := [[104, 97, 110, 103, 101, 114], [119, 105, 114, 101], [119, 111, 111, 100], [98, 101, 110, 116], [115, 116, 114, 97, 112], [98, 97, 114], [112, 114, 105, 99, 101], [97, 116], [98, 97, 99, 107], [115, 104, 105, 114, 116], [102, 101, 101, 108]]
def stN : List Nat := [6, 4, 4, 4, 5, 3, 5, 2, 4, 5, 4]
/-- what the tables say of the world's classes, links and texts -/
abbrev Kf (w : Wx) (U : State) : Prop := va_K w.2.2.1 vwCl (tyW w) U ∧ (∀ q ∈ nwL, va_Nw (.methodLinkNest q.1 q.2.1 q.2.2 "HangerRail") U) ∧ ∀ (i : Nat) (q : String × Nat × String), stL[i]? = some q → vk_R q.1 q.2.1 q.2.2 (w.2.2.2.1 i) U
/-- what lies outside the world and is read: the texts, two statics -/
abbrev Sx (w : Wx) (U : State) (H : Heap) : Prop := vk_S 11 stN stB w.2.2.2.1 w.2.2.2.2 (Aw w) U H ∧ va_Z "java/lang/String" "COMPACT_STRINGS" "Z" (.int 1) (Aw w) U H ∧ va_Zq "jdk/internal/util/Preconditions" "SIOOBE_FORMATTER" "Ljava/util/function/BiFunction;" (Aw w) U H
theorem Kf.same {w : Wx} {u U : State} (h : U.vm = u.vm) (k : Kf w u) : Kf w U := ⟨va_K.moved (by rw [h]; exact Vm.Alike.refl _) k.1, fun q hq => va_Nw.same rfl h.symm (k.2.1 q hq), fun i q hq => vk_R.same h (k.2.2 i q hq)⟩
theorem Kf.warm {w : Wx} {s U : State} (hW : s.WarmedH U.vm) (k : Kf w s) : Kf w U := ⟨va_K.moved hW.alike k.1, fun q hq => va_Nw.warmM hW (k.2.1 q hq), fun i q hq => vk_R.warm hW (k.2.2 i q hq)⟩
theorem Sx.moved {w : Wx} {u U : State} {H : Heap} (h : u.vm.Alike U.vm) (k : Sx w u H) : Sx w U H := ⟨k.1.moved h, k.2.1.moved h, k.2.2.moved h⟩
theorem Sx.kept {w : Wx} {U : State} {H H1 : Heap} (k : Sx w U H) (hq : ∀ a : Nat, a < H.size → ¬ Aw w a → H1[a]? = H[a]?) : Sx w U H1 := ⟨k.1.kept hq, k.2.1.kept hq, k.2.2.kept hq⟩
/-- room for d calls one in another -/
def rl (d : Nat) : Room := { frames := d, cells := 0, slots := 0, locals := 64 * d }
/-- a method: its name, code, locals, answer -/
abbrev Md : Type := MethodName × ByteArray × Nat × Option FieldType
def wsG : List Cond := lw_tbl.filter goodWord
def wsM (μ : Md) : List Cond := .code μ.1 μ.2.1 μ.2.2.1 μ.2.2.2 :: wsG
def PreM (w : Wx) (lo hi : Nat) (O : Mem) (as : List Value) (M : Mem) : Array Value → State → Prop := fun v U => v = as.toArray ∧ va_P w.2.2.1 vwCl (wd w lo hi O M) U.heap ∧ Kf w U ∧ Sx w U U.heap ∧ Ap w ∧ hi ≤ 48
def PostM (w : Wx) (lo hi : Nat) (O : Mem) (r : Option Value × Mem) : Array Value → State → Outcome → State → Prop := fun _ st oc t => oc = .returned r.1 ∧ va_P w.2.2.1 vwCl (wd w lo hi O r.2) t.heap ∧ va_F (Aw w) st t
/-- THE CONTRACT: from memory M with arguments as the method returns r.1, and the memory is r.2 -/
def Ct (w : Wx) (lo hi : Nat) (O : Mem) (l : Launch) (d : Nat) (μ : Md) (as : List Value) (M : Mem) (r : Option Value × Mem) : Prop := Met l μ.1 (wsM μ) (rl d) (PreM w lo hi O as M) (PostM w lo hi O r) 0 0 (Aw w)
theorem blind_PreM (w : Wx) (lo hi : Nat) (O : Mem) (as : List Value) (M : Mem) : FrameBlind (PreM w lo hi O as M) := by
  intro a U g mk q
  obtain ⟨q0, q1, q2, q3, q4, q5⟩ := q
  exact ⟨q0, q1, Kf.same (u := U) rfl q2, Sx.moved (u := U) (Vm.Alike.refl U.vm) q3, q4, q5⟩
/-- the locals of a frame, by their places -/
def lvH (ls : Array Slot) (nL : Nat) (lv : List (Option Value)) : Prop := ls.size = nL ∧ lv_wf ls ∧ ∀ (i : Nat) (v : Value), lv[i]? = some (some v) → ls[i]? = some (.val v)
/-- what stands fast while a method's body runs -/
abbrev Ok (p : Program) (s : State) (m : MethodId) (args : Array Value) (meth : Method) (c : Code) (w : Wx) (cc : ByteArray) (nL : Nat) (own : String) (ret : Option FieldType) (hi : Nat) (R : Room) (A : Nat → Prop) (cs sl D : Nat) : Prop :=
  p.tables.exec = Jvm.exec ∧ c.code = cc ∧ c.maxLocals = nL ∧ s.vm.findClass own = some m.cls ∧ (∀ x ∈ lw_tbl, goodWord x = true → x.before args s = true) ∧ Kf w s ∧ Sx w s s.heap ∧ Ap w ∧ meth.locks = false ∧ meth.sig.returnType = ret ∧ hi ≤ 48 ∧ (∀ q, Aw w q → A q) ∧ cs ≤ R.cells ∧ sl ≤ R.slots ∧ D ≤ R.frames ∧ 64 * D ≤ R.locals
/-- from here on the machine comes to Q -/
def AtP (p : Program) (l : Launch) (e : Env) (R : Room) (s : State) (m : MethodId) (args : Array Value) (below : List Frame) (meth : Method) (c : Code) (w : Wx) (lo hi : Nat) (O : Mem) (nL : Nat) (A : Nat → Prop) (cs sl : Nat) (Q : State → Prop) (pc : Nat) (lv : List (Option Value)) (st : List Value) (M : Mem) : Prop :=
  ∀ (H : Heap) (locs : List Loc) (ls : Array Slot), lvH ls nL lv → va_P w.2.2.1 vwCl (wd w lo hi O M) H → va_S A s.heap H locs → W p l e R s m args below meth c H locs cs sl Q (F0 m pc ls st)
