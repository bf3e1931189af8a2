/-! .. charAt. -/
section STR
variable {l : Launch} {A : Nat → Prop} {aK adV : Nat → Nat}
theorem z_pre {d : Nat} {x y : Int32} {w : Value} (hw : w = .null ∨ ∃ t : Nat, w = .ref t) (h0 : ¬ x < 0) (h1 : x < y) : zM l A aK adV yzPre prog_28_method_11_code 3 (some .int) d [.int x, .int y, w] (some (.int x)) := by
  have hlg : (lg_sl [.int x, .int y, w]).length ≤ 3 := by
    rcases hw with rfl | ⟨t, rfl⟩ <;> exact Nat.le_refl _
  have g0 : (0, Value.int x) ∈ lv_args 0 [.int x, .int y, w] := List.mem_cons_self
  have g1 : (1, Value.int y) ∈ lv_args 0 [.int x, .int y, w] := List.mem_cons_of_mem _ List.mem_cons_self
  refine zM_of (by decide +kernel) hlg ?_
  intro p e s m below meth c ls S hr hlocks hz hl
  obtain ⟨hx, hb, hml, hown, hts⟩ := id S
  refine lv_iload_n (i := 0) hx hb (show decode prog_28_method_11_code 0 = .ok (.iload_n 0, 1) by decide +kernel) rfl (hl.2.2 _ g0) ?_
  refine lv_if_lt hx hb (tgt := 9) (show decode prog_28_method_11_code 1 = .ok (.ifCond .lt 8, 3) by decide +kernel) (by decide) (fun z => absurd z h0) (fun _ => ?_)
  refine lv_iload_n (i := 0) hx hb (show decode prog_28_method_11_code 4 = .ok (.iload_n 0, 1) by decide +kernel) rfl (hl.2.2 _ g0) ?_
  refine lv_iload_n (i := 1) hx hb (show decode prog_28_method_11_code 5 = .ok (.iload_n 1, 1) by decide +kernel) rfl (hl.2.2 _ g1) ?_
  refine lv_icmp_lt hx hb (tgt := 16) (show decode prog_28_method_11_code 6 = .ok (.if_icmp .lt 10, 3) by decide +kernel) (by decide) (fun _ => ?_) (fun z => absurd h1 z)
  refine lv_iload_n (i := 0) hx hb (show decode prog_28_method_11_code 16 = .ok (.iload_n 0, 1) by decide +kernel) rfl (hl.2.2 _ g0) ?_
  exact W.iret hx hb hr (fun t ht _ => ⟨rfl, ht⟩) (fun q hq => (by cases hq)) (by decide +kernel) hlocks
theorem z_chk {d : Nat} {x y : Int32} (hd : 1 ≤ d) (h0 : ¬ x < 0) (h1 : x < y) : zM l A aK adV yzChk prog_21_method_155_code 2 none d [.int x, .int y] none := by
  refine zM_of (by decide +kernel) (Nat.le_refl _) ?_
  intro p e s m below meth c ls S hr hlocks hz hl
  obtain ⟨hx, hb, hml, hown, hts⟩ := id S
  have hS : va_S A s.heap s.heap [] := va_S.rf
  obtain ⟨w, hw, hzw⟩ := hz.2.2
  have hcat : w.category = 1 := by rcases hw with rfl | ⟨t, rfl⟩ <;> rfl
  refine lv_iload_n (i := 0) hx hb (show decode prog_21_method_155_code 0 = .ok (.iload_n 0, 1) by decide +kernel) rfl (hl.2.2 (0, .int x) List.mem_cons_self) ?_
  refine lv_iload_n (i := 1) hx hb (show decode prog_21_method_155_code 1 = .ok (.iload_n 1, 1) by decide +kernel) rfl (hl.2.2 (1, .int y) (List.mem_cons_of_mem _ List.mem_cons_self)) ?_
  refine va_gets hx hb hzw hS hown (hts _ (zW_in (k := 19) rfl)) (fun _ h => h) (by decide +kernel) ?_
  refine z_S (As := [.int x, .int y, w]) (rest := []) S hz hS (z_pre (d := 0) hw h0 h1) (zW_in (k := 20) rfl) (zW_in (k := 21) rfl) (zW_in (k := 22) rfl) (zW_in (k := 23) rfl) ⟨by decide, by decide, show (parseMethodDescriptor yzPre.desc).map (fun d => d.parameters.length) = some 3 by decide +kernel⟩ ⟨by show 0 + 1 ≤ d; omega, by show 8 + (3 + 11) + 0 * 64 ≤ d * 64; omega⟩ hl.1 (by decide) ⟨Nat.zero_le _, Nat.zero_le _⟩ (by decide +kernel) ?_
  refine lv_pop hx hb (show decode prog_21_method_155_code 8 = .ok (.pop, 1) by decide +kernel) rfl ?_
  exact W.vret hx hb hr (fun t ht _ => ⟨rfl, ht⟩) (fun q hq => (by cases hq)) (by decide +kernel) hlocks
theorem z_norB : ∀ i, i < 19 → (((((zB.getD 1 []).getD i 0) &&& 255).toUInt32 % 65536).toInt32 = nI (nor i) ∧ (nI i < nI 19) ∧ ¬ nI i < 0) ∧ narrow .char (.int (nI (nor i))) = .int (nI (nor i)) := by decide +kernel
theorem z_lch {d i : Nat} (hd : 2 ≤ d) (hi : i < 19) : zM l A aK adV yzLch prog_22_method_2_code 2 (some .char) d [.ref (adV 1), .int (nI i)] (some (.int (nI (nor i)))) := by
  refine zM_of (by decide +kernel) (Nat.le_refl _) ?_
  intro p e s m below meth c ls S hr hlocks hz hl
  obtain ⟨hx, hb, hml, hown, hts⟩ := id S
  have hS : va_S A s.heap s.heap [] := va_S.rf
  obtain ⟨⟨e1, e2, e3⟩, e4⟩ := z_norB i hi
  have g0 := hl.2.2 (0, .ref (adV 1)) List.mem_cons_self
  have g1 := hl.2.2 (1, .int (nI i)) (List.mem_cons_of_mem _ List.mem_cons_self)
  have hT : va_T .byte (adV 1) 19 (fun j => .int ((zB.getD 1 []).getD j 0)) A s s.heap := (hz.1.1 1 (by decide)).2.2.2
  refine lv_iload_n (i := 1) hx hb (show decode prog_22_method_2_code 0 = .ok (.iload_n 1, 1) by decide +kernel) rfl g1 ?_
  refine lv_aload_n (i := 0) hx hb (show decode prog_22_method_2_code 1 = .ok (.aload_n 0, 1) by decide +kernel) rfl g0 ?_
  refine va_tlen hx hb hT hS (v := nI 19) rfl (by decide +kernel) ?_
  refine z_S (As := [.int (nI i), .int (nI 19)]) (rest := []) S hz hS (z_chk (d := 1) (by decide) e3 e2) (zW_in (k := 16) rfl) (zW_in (k := 17) rfl) (zW_in (k := 6) rfl) (zW_in (k := 18) rfl) ⟨by decide, by decide, show (parseMethodDescriptor yzChk.desc).map (fun d => d.parameters.length) = some 2 by decide +kernel⟩ ⟨by show 1 + 1 ≤ d; omega, by show 8 + (2 + 11) + 1 * 64 ≤ d * 64; omega⟩ hl.1 (by decide) ⟨Nat.zero_le _, Nat.zero_le _⟩ (by decide +kernel) ?_
  refine lv_aload_n (i := 0) hx hb (show decode prog_22_method_2_code 6 = .ok (.aload_n 0, 1) by decide +kernel) rfl g0 ?_
  refine lv_iload_n (i := 1) hx hb (show decode prog_22_method_2_code 7 = .ok (.iload_n 1, 1) by decide +kernel) rfl g1 ?_
  refine va_tb hx hb hT hS (i := nI i) (vp_in_nI hi (by decide)) (v := .int ((zB.getD 1 []).getD i 0)) (by rw [nI_clamp (by omega)]) (by decide +kernel) ?_
  refine lv_sipush (v := 255) hx hb (show decode prog_22_method_2_code 9 = .ok (.sipush 255, 3) by decide +kernel) rfl ?_
  refine lv_iand hx hb (show decode prog_22_method_2_code 12 = .ok (.iand, 1) by decide +kernel) ?_
  refine lv_i2c (v := nI (nor i)) hx hb (show decode prog_22_method_2_code 13 = .ok (.i2c, 1) by decide +kernel) e1 ?_
  exact W.zret hx hb hr e4 (fun t ht _ => ⟨rfl, ht⟩) (fun q hq => (by cases hq)) (by decide +kernel) hlocks
section CH
variable {p : Program} {e : Env} {R : Room} {s : State} {m : MethodId} {args : Array Value} {below : List Frame} {meth : Method} {c : Code} {Q : State → Prop} {ls : Array Slot} {H : Heap} {locs : List Loc} {cells slots : Nat}
/-- charAt's body, up to its end -/
theorem z_chr {i : Nat} (hi : i < 19) (S : CallFix p m c prog_21_method_56_code 2 s args gG "java/lang/String") (hz : zS A aK adV s) (hS : va_S A s.heap H locs) (hl : lv_has ls 2 [(0, .ref (aK 1)), (1, .int (nI i))]) (hR : 4 ≤ R.frames ∧ 256 ≤ R.locals) (hk : cells ≤ R.cells ∧ slots ≤ R.slots)
    (kk : W p l e R s m args below meth c H locs cells slots Q (F0 m 15 ls [.int (nI (nor i))])) : W p l e R s m args below meth c H locs cells slots Q (F0 m 0 ls []) := by
  obtain ⟨hx, hb, hml, hown, hts⟩ := id S
  have g0 := hl.2.2 (0, .ref (aK 1)) List.mem_cons_self
  have g1 := hl.2.2 (1, .int (nI i)) (List.mem_cons_of_mem _ List.mem_cons_self)
  refine lv_aload_n (i := 0) hx hb (show decode prog_21_method_56_code 0 = .ok (.aload_n 0, 1) by decide +kernel) rfl g0 ?_
  refine z_V (As := []) (rest := []) S hz hS (hz.1.1 1 (by decide)).1 (z_lat (d := 0) (by decide)) (zW_in (k := 8) rfl) (zW_in (k := 9) rfl) (zW_in (k := 10) rfl) (zW_in (k := 6) rfl) (zW_in (k := 11) rfl) (by decide +kernel) ⟨by omega, by omega⟩ hl.1 (by decide) hk (by decide +kernel) ?_
  refine lv_if_eq hx hb (tgt := 16) (show decode prog_21_method_56_code 4 = .ok (.ifCond .eq 12, 3) by decide +kernel) (by decide) (fun z => absurd z (by decide)) (fun _ => ?_)
  refine lv_aload_n (i := 0) hx hb (show decode prog_21_method_56_code 7 = .ok (.aload_n 0, 1) by decide +kernel) rfl g0 ?_
  refine vk_getf hx hb (hz.1.1 1 (by decide)).2.2.1 hS hown (hts _ (zW_in (k := 2) rfl)) (fun _ h => h) (by decide +kernel) ?_
  refine lv_iload_n (i := 1) hx hb (show decode prog_21_method_56_code 11 = .ok (.iload_n 1, 1) by decide +kernel) rfl g1 ?_
  exact z_S (As := [.ref (adV 1), .int (nI i)]) (rest := []) S hz hS (z_lch (d := 2) (by decide) hi) (zW_in (k := 12) rfl) (zW_in (k := 13) rfl) (zW_in (k := 14) rfl) (zW_in (k := 15) rfl) ⟨by decide, by decide, show (parseMethodDescriptor yzLch.desc).map (fun d => d.parameters.length) = some 2 by decide +kernel⟩ ⟨by omega, by omega⟩ hl.1 (by decide) hk (by decide +kernel) kk
end CH
theorem z_can {d x : Nat} (hxx : x < 256) : zM l A aK adV yzCan prog_22_method_4_code 1 (some .boolean) d [.int (nI x)] (some (.int 1)) := by
  refine zM_of (by decide +kernel) (Nat.le_refl _) ?_
  intro p e s m below meth c ls S hr hlocks hz hl
  obtain ⟨hx, hb, hml, hown, hts⟩ := id S
  have g0 := hl.2.2 (0, .int (nI x)) List.mem_cons_self
  refine lv_iload_n (i := 0) hx hb (show decode prog_22_method_4_code 0 = .ok (.iload_n 0, 1) by decide +kernel) rfl g0 ?_
  refine lv_if_lt hx hb (tgt := 15) (show decode prog_22_method_4_code 1 = .ok (.ifCond .lt 14, 3) by decide +kernel) (by decide) (fun z => absurd z (nI_pos (by omega))) (fun _ => ?_)
  refine lv_iload_n (i := 0) hx hb (show decode prog_22_method_4_code 4 = .ok (.iload_n 0, 1) by decide +kernel) rfl g0 ?_
  refine lv_sipush (v := nI 255) hx hb (show decode prog_22_method_4_code 5 = .ok (.sipush 255, 3) by decide +kernel) rfl ?_
  refine lv_icmp_gt hx hb (tgt := 15) (show decode prog_22_method_4_code 8 = .ok (.if_icmp .gt 7, 3) by decide +kernel) (by decide) (fun z => absurd ((nI_lt' (a := 255) (by decide) (by omega)).mp z) (by omega)) (fun _ => ?_)
  refine lv_iconst (v := 1) hx hb (show decode prog_22_method_4_code 11 = .ok (.iconst 1, 1) by decide +kernel) rfl ?_
  refine lv_goto (tgt := 16) hx hb (show decode prog_22_method_4_code 12 = .ok (.goto 4, 3) by decide +kernel) (by decide) ?_
  exact W.zret hx hb hr rfl (fun t ht _ => ⟨rfl, ht⟩) (fun q hq => (by cases hq)) (by decide +kernel) hlocks
end STR
