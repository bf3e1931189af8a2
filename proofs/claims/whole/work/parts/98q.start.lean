/-! What the Statement gives of the start, as the machine asks it. -/
def sW : List Cond := (List.range 11).map (fun ci => Cond.instantiable (gt_own.getD ci "") (gt_fs.getD ci []).length) ++
  [.arrayClass .int, .arrayClass .char, .arrayClass .long, .arrayClass .byte, .arrayClass .boolean, .arrayOver (.object "CommandByTurns$Standing"),
   .laysStatic "java/lang/String" "COMPACT_STRINGS" "Z", .initialized "java/lang/String", .laysStatic "jdk/internal/util/Preconditions" "SIOOBE_FORMATTER" "Ljava/util/function/BiFunction;", .initialized "jdk/internal/util/Preconditions",
   .laysStatic Bundle.tN "UNASSIGNED_STACK" Bundle.steD, .laysStatic Bundle.tN "SUPPRESSED_SENTINEL" Bundle.listD, .initialized Bundle.tN,
   .castable nseE nseE, dcR, dcE, dcT,
   .stringRef "CommandByTurns" 157 "no such field", .stringRef "CommandByTurns" 170 "no such number of a field", .stringRef "CommandByTurns" 172 "no such consul", .stringRef "CommandByTurns" 189 "no such number of a consul", .stringRef "CommandByTurns" 439 "no such number of the row"]
set_option maxRecDepth 100000 in
theorem sW_tbl : (sW.all fun w => lw_tbl.contains w) = true := by decide +kernel
theorem sW_in {k : Nat} {w : Cond} (h : sW[k]? = some w) : w ∈ lw_tbl := List.contains_iff_mem.mp (List.all_eq_true.mp sW_tbl w (List.mem_of_getElem? h))
theorem st_K {args : Array Value} {s : State} (hts : ∀ w ∈ lw_tbl, w.before args s = true) : ∃ (D : va_G) (dA : Nat → ClassId), va_K D gt_cl (gm_tys dA) s := by
  have h1 : ∀ ci : Nat, ∃ q : ClassId × (Nat → Nat), ci < 11 → u_Kn s (gt_own.getD ci "") (gt_TT ci) (gt_fs.getD ci []).length q.1 q.2 := by
    intro ci
    by_cases hci : ci < 11
    · obtain ⟨g1, g2, -⟩ := gt_clsok (al := false) (sl := 0) (sx := fun _ => 0) hci
      have hin : (Cond.instantiable (gt_own.getD ci "") (gt_fs.getD ci []).length).before args s = true := hts _ (sW_in (k := ci) (by
        unfold sW
        rw [List.getElem?_append_left (by rw [List.length_map, List.length_range]; exact hci), List.getElem?_map, List.getElem?_range hci]
        rfl))
      obtain ⟨cC, iS, hK⟩ := u_known (C := gt_own.getD ci "") (T := gt_TT ci) (N := (gt_fs.getD ci []).length) hts (fun w hw => (List.mem_filter.mp (g2 w hw)).1) hin
      exact ⟨(cC, iS), fun _ => hK⟩
    · exact ⟨(0, fun _ => 0), fun z => absurd z hci⟩
  obtain ⟨F, hF⟩ := Classical.axiomOfChoice h1
  have hP : ∀ (ty : FieldType), (Cond.arrayClass ty).before args s = true → (match ty with | .object _ => False | _ => True) → ∃ cA : ClassId, ArrOfT s cA ty ∧ va_RA s cA ty := by
    intro ty h ho
    obtain ⟨cA, kA, comp, g1, g2, g3⟩ := Cond.arrayClass_spec h
    refine ⟨cA, fun n z => ⟨fun k h => (by cases h), kA, g2, comp, g3⟩, ?_⟩
    cases ty <;> first | exact g1 | exact ho.elim
  obtain ⟨a0, ha0⟩ := hP .int (hts _ (sW_in (k := 11) rfl)) trivial
  obtain ⟨a1, ha1⟩ := hP .char (hts _ (sW_in (k := 12) rfl)) trivial
  obtain ⟨a2, ha2⟩ := hP .long (hts _ (sW_in (k := 13) rfl)) trivial
  obtain ⟨a3, ha3⟩ := hP .byte (hts _ (sW_in (k := 14) rfl)) trivial
  obtain ⟨a4, ha4⟩ := hP .boolean (hts _ (sW_in (k := 15) rfl)) trivial
  obtain ⟨comp, a5, k5, g1, g2, g3, g4, g5⟩ := Cond.arrayOver_spec (hts _ (sW_in (k := 16) rfl))
  refine ⟨(fun ci => (F ci).1, fun ci => (F ci).2), fun t => [a0, a1, a2, a3, a4, a5].getD t 0, fun ci q hq => ?_, fun t q hq => ?_⟩
  · have hci : ci < 11 := (List.getElem?_eq_some_iff.mp hq).1
    obtain ⟨e1, -⟩ := gt_clsok (al := false) (sl := 0) (sx := fun _ => 0) hci
    cases Option.some.inj (e1.symm.trans hq)
    exact hF ci hci
  · have ht : t < 6 := by
      have := (List.getElem?_eq_some_iff.mp hq).1
      unfold gm_tys at this
      rwa [List.length_map, List.length_range] at this
    rw [gm_tyl_at ht] at hq
    cases hq
    have e6 : t = 0 ∨ t = 1 ∨ t = 2 ∨ t = 3 ∨ t = 4 ∨ t = 5 := by omega
    rcases e6 with rfl | rfl | rfl | rfl | rfl | rfl
    · exact ha0
    · exact ha1
    · exact ha2
    · exact ha3
    · exact ha4
    · exact ⟨fun n z => ⟨fun k h => (by cases h), k5, g3, comp, g4⟩, k5, comp, g3, g4, g1, g5⟩
