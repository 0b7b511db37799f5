/-! THE START: what the tables and the premises say at the law's entry -/
def tmS (i : Nat) : Term := Term.string (stL.getD i ("", 0, "")).1 (stL.getD i ("", 0, "")).2.1
abbrev flG : List Cond := flatC (Jvm.Cond.and given_1 narrow_1)
set_option maxRecDepth 100000 in
theorem fl_ex : ∀ i, i < 11 → Cond.exactly (tmS i) "java/lang/String" ∈ flG := by decide +kernel
set_option maxRecDepth 100000 in
theorem fl_co : ∀ i, i < 11 → Cond.eq (.field (tmS i) "java/lang/String" "coder" "B") (.int 0) ∈ flG := by decide +kernel
set_option maxRecDepth 100000 in
theorem fl_ar : ∀ i, i < 11 → Cond.arrayOf (.field (tmS i) "java/lang/String" "value" "[B") .byte ∈ flG := by decide +kernel
set_option maxRecDepth 100000 in
theorem fl_le : ∀ i, i < 11 → Cond.eq (.length (.field (tmS i) "java/lang/String" "value" "[B")) (.int (Int32.ofNat (stN.getD i 0))) ∈ flG := by decide +kernel
set_option maxRecDepth 100000 in
theorem fl_el : ∀ i, i < 11 → ∀ j, j < stN.getD i 0 → Cond.eq (.elem (.field (tmS i) "java/lang/String" "value" "[B") (.int (Int32.ofNat j))) (.int ((stB.getD i []).getD j 0)) ∈ flG := by decide +kernel
set_option maxRecDepth 100000 in
theorem fl_ne : ∀ i, i < 11 → ∀ j, j < 11 → i ≠ j → (Cond.not (Cond.eq (tmS i) (tmS j)) ∈ flG ∨ Cond.not (Cond.eq (tmS j) (tmS i)) ∈ flG) := by decide +kernel
set_option maxRecDepth 100000 in
theorem fl_cs : Cond.eq (.static "java/lang/String" "COMPACT_STRINGS" "Z") (.int 1) ∈ flG := by decide +kernel
set_option maxRecDepth 100000 in
theorem fl_sf : Cond.isRef (.static "jdk/internal/util/Preconditions" "SIOOBE_FORMATTER" "Ljava/util/function/BiFunction;") ∈ flG := by decide +kernel
set_option maxRecDepth 100000 in
theorem fl_n : ∀ i, i < 11 → stN.getD i 0 < 2 ^ 31 := by decide +kernel
set_option maxRecDepth 100000 in
theorem tb_nw : ∀ q ∈ nwL, Cond.methodLinkNest q.1 q.2.1 q.2.2 "HangerRail" ∈ lw_tbl := by decide +kernel
set_option maxRecDepth 100000 in
theorem tb_st : ∀ q ∈ stL, Cond.stringRef q.1 q.2.1 q.2.2 ∈ lw_tbl := by decide +kernel
set_option maxRecDepth 100000 in
theorem tb_l1 : Cond.laysStatic "java/lang/String" "COMPACT_STRINGS" "Z" ∈ lw_tbl := by decide +kernel
set_option maxRecDepth 100000 in
theorem tb_l2 : Cond.laysStatic "jdk/internal/util/Preconditions" "SIOOBE_FORMATTER" "Ljava/util/function/BiFunction;" ∈ lw_tbl := by decide +kernel
theorem stL_11 : ∀ (i : Nat) (q : String × Nat × String), stL[i]? = some q → i < 11 ∧ q = stL.getD i ("", 0, "") := by
  intro i q h
  have h1 : i < stL.length := (List.getElem?_eq_some_iff.mp h).1
  refine ⟨h1, ?_⟩
  rw [List.getD_eq_getElem?_getD, h]
  rfl
theorem arr_K {s : State} {args : Array Value} {ty : FieldType} (h : (Cond.arrayClass ty).before args s = true) (hp : ∀ C, ty ≠ .object C) : ∃ cA, ArrOfT s cA ty ∧ va_RA s cA ty := by
  obtain ⟨cA, k, comp, h1, h2, h3⟩ := Cond.arrayClass_spec h
  refine ⟨cA, fun N z => ⟨fun k h => (by cases h), k, h2, comp, h3⟩, ?_⟩
  cases ty with
  | object C => exact absurd rfl (hp C)
  | _ => exact h1
theorem arr_O {s : State} {args : Array Value} {C : String} (h : (Cond.arrayOver (.object C)).before args s = true) : ∃ cA, ArrOfT s cA (.object C) ∧ va_RA s cA (.object C) := by
  obtain ⟨comp, cA, k, h1, h2, h3, h4, h5⟩ := Cond.arrayOver_spec h
  exact ⟨cA, fun N z => ⟨fun k h => (by cases h), k, h3, comp, h4⟩, k, comp, h3, h4, h1, h5⟩
/-- the tables' numbers -/
theorem st_K {s : State} {args : Array Value} (hts : ∀ x ∈ lw_tbl, x.before args s = true) : ∃ (D : va_G) (κ : Nat → ClassId), KN D κ s := by
  have h0 : ∀ ci : Nat, ∃ z : ClassId × (Nat → Nat), ∀ q : vw_C, vwCl[ci]? = some q → u_Kn s q.1 q.2.1 q.2.2 z.1 z.2 := by
    intro ci
    have key : ∀ {C : String} {T : u_T} {N n : Nat} {ty : Nat → FieldType}, ClOk ci C T N ty → Cond.instantiable C n ∈ lw_tbl → ∃ z : ClassId × (Nat → Nat), ∀ q : vw_C, vwCl[ci]? = some q → u_Kn s q.1 q.2.1 q.2.2 z.1 z.2 := by
      intro C T N n ty cl hi
      obtain ⟨cC, iS, hk⟩ := u_known (C := C) (T := T) (N := N) hts (fun x h => (cl.2.1 x h).1) (hts _ hi)
      refine ⟨(cC, iS), fun q hq => ?_⟩
      have := Option.some.inj (hq.symm.trans cl.1)
      subst this
      exact hk
    match ci with
    | 0 => exact key clX0 (List.mem_of_getElem? qw86)
    | 1 => exact key clX1 (List.mem_of_getElem? qw172)
    | 2 => exact key clX2 (List.mem_of_getElem? qw195)
    | 3 => exact key clX3 (List.mem_of_getElem? qw138)
    | 4 => exact key clX4 (List.mem_of_getElem? qw155)
    | 5 => exact key clX5 (List.mem_of_getElem? qw78)
    | 6 => exact key clX6 (List.mem_of_getElem? qw750)
    | k + 7 => exact ⟨(0, fun _ => 0), fun q hq => by simp [vwCl] at hq⟩
  obtain ⟨z, hz⟩ := Classical.axiomOfChoice h0
  obtain ⟨k0, a0, b0⟩ := arr_K (ty := .byte) (hts _ (List.mem_of_getElem? qw170)) (fun C h => by cases h)
  obtain ⟨k1, a1, b1⟩ := arr_K (ty := .int) (hts _ (List.mem_of_getElem? qw136)) (fun C h => by cases h)
  obtain ⟨k2, a2, b2⟩ := arr_K (ty := .long) (hts _ (List.mem_of_getElem? qw213)) (fun C h => by cases h)
  obtain ⟨k3, a3, b3⟩ := arr_O (C := "HangerRail$Sheet") (hts _ (List.mem_of_getElem? qw194))
  refine ⟨(fun ci => (z ci).1, fun ci => (z ci).2), fun k => if k = 0 then k0 else if k = 1 then k1 else if k = 2 then k2 else k3, ⟨fun ci q hq => hz ci q hq, fun k q hk => ?_⟩, fun q hq => va_Nw.of rfl (hts _ (tb_nw q hq)), va_AO.of (hts _ (List.mem_of_getElem? qw194))⟩
  match k, hk with
  | 0, hk => cases hk; exact ⟨a0, b0⟩
  | 1, hk => cases hk; exact ⟨a1, b1⟩
  | 2, hk => cases hk; exact ⟨a2, b2⟩
  | 3, hk => cases hk; exact ⟨a3, b3⟩
  | k + 4, hk => simp at hk
/-- the text constants and the statics -/
theorem st_S {s : State} {args : Array Value} (hts : ∀ x ∈ lw_tbl, x.before args s = true) (hgv : (Jvm.Cond.and given_1 narrow_1).before args s = true) : ∃ adK adV : Nat → Nat, vk_S 11 stN stB adK adV (LA s) s s.heap ∧ (∀ (i : Nat) (q : String × Nat × String), stL[i]? = some q → vk_R q.1 q.2.1 q.2.2 (adK i) s) ∧ va_Z "java/lang/String" "COMPACT_STRINGS" "Z" (.int 1) (LA s) s s.heap ∧ va_Zq "jdk/internal/util/Preconditions" "SIOOBE_FORMATTER" "Ljava/util/function/BiFunction;" (LA s) s s.heap := by
  have hs := flat_of_before _ hgv
  have hA : ∀ a : Nat, a < s.heap.size → ¬ LA s a := fun a h => Nat.not_le.mpr h
  obtain ⟨adK, adV, h1, h2⟩ := vk_Sof (args := args) (s := s) (N := 11) (tm := tmS) (len := stN) (byt := stB) (A := LA s) fl_n (fun i hi => hs _ (fl_ex i hi)) (fun i hi => hs _ (fl_co i hi)) (fun i hi => hs _ (fl_ar i hi)) (fun i hi => hs _ (fl_le i hi)) (fun i hi j hj => hs _ (fl_el i hi j hj)) (fun i j hi hj hij => (fl_ne i hi j hj hij).imp (fun h => hs _ h) (fun h => hs _ h)) hA
  refine ⟨adK, adV, h1, fun i q hq => ?_, va_Zof (hts _ tb_l1) (hts _ (List.mem_of_getElem? qw73)) (va_eqi (hs _ fl_cs)) hA, va_Zqof (hts _ tb_l2) (hts _ (List.mem_of_getElem? qw75)) (hs _ fl_sf) hA⟩
  obtain ⟨h3, h4⟩ := stL_11 i q hq
  refine vk_R.of (A := args) (hts _ (tb_st q (List.mem_of_getElem? hq))) ?_
  rw [h4]
  exact h2 i h3
