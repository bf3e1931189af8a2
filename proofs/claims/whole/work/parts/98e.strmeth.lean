/-! .. their bodies. -/
theorem zW_in {k : Nat} {w : Cond} (h : zW[k]? = some w) : w ∈ gG := by
  have h1 := List.all_eq_true.mp zW_tbl w (List.mem_of_getElem? h)
  rw [Bool.and_eq_true] at h1
  exact List.mem_filter.mpr ⟨List.contains_iff_mem.mp h1.1, h1.2⟩
section STR
variable {l : Launch} {A : Nat → Prop} {aK adV : Nat → Nat}
theorem zM_of {y : MethodName} {bytes : ByteArray} {maxL d : Nat} {ret : Option FieldType} {As : List Value} {v : Option Value} (hpl : plainName y.cls = true) (hlen : (lg_sl As).length ≤ maxL)
    (body : ∀ (p : Program) (e : Env) (s : State) (m : MethodId) (below : List Frame) (meth : Method) (c : Code) (ls : Array Slot), CallFix p m c bytes maxL s As.toArray gG y.cls → meth.sig.returnType = ret → meth.locks = false → zS A aK adV s → lv_has ls maxL (lv_args 0 As) → W p l e (zR d) s m As.toArray below meth c s.heap [] 0 0 (MQ below (zQ v) As.toArray s 0 0 (fun _ => False)) (F0 m 0 ls [])) : zM l A aK adV y bytes maxL ret d As v := by
  refine Met.ofW (cc := bytes) (maxL := maxL) (ret := ret) hpl rfl ?_
  intro p e s m args below meth c s₁ B hml hv
  obtain ⟨rfl, hz⟩ := hv
  have hts := atoms_spec (ws := Cond.code y bytes maxL ret :: gG) B.pre
  have hl := lv_entry As (n := maxL) hlen
  rw [lg_entry_eq]
  generalize (lg_sl As ++ List.replicate (maxL - (lg_sl As).length) Slot.unset).toArray = ls at hl ⊢
  exact body p e s m below meth c ls ⟨B.exec, B.bytes, hml, findClass_of_methodNamed B.named, fun w hw => hts w (List.mem_cons_of_mem _ hw)⟩ B.returns B.notSynchronized hz hl
section BODY
variable {p : Program} {e : Env} {R : Room} {s : State} {m : MethodId} {args : Array Value} {below : List Frame} {meth : Method} {c : Code} {Q : State → Prop} {cc : ByteArray} {nL pc d idx maxL n : Nat} {own : String} {ls : Array Slot} {rest As : List Value} {v : Option Value} {y : MethodName} {bytes : ByteArray} {ret : Option FieldType} {H : Heap} {locs : List Loc} {cells slots : Nat}
theorem z_callW {st0 : List Value} {a : Array Value} (hr : va_Run p l e R s m args below meth c H locs cells slots 0 0 (F0 m pc ls st0) rest (zQ v a) (fun _ => False))
    (kk : W p l e R s m args below meth c H locs cells slots Q (F0 m (pc + 3) ls (v.toList ++ rest))) : W p l e R s m args below meth c H locs cells slots Q (F0 m pc ls st0) := by
  intro T hT X
  obtain ⟨v', st₀, t, T', Lc, h0, X', hL, e1, e2, ⟨hv, hq⟩, stp⟩ := hr T hT X
  cases hv
  have hn : Lc = [] := by
    cases Lc with
    | nil => rfl
    | cons q r => exact absurd (hL q List.mem_cons_self) id
  subst hn
  rw [List.append_nil] at X'
  obtain ⟨t2, a1, b1⟩ := kk T' (by rw [e1, hq]; exact h0) X'
  exact ⟨t2, stp t2 a1, b1⟩
theorem z_move {U : State} (hz : zS A aK adV s) (hS : va_S A s.heap H locs) (hU : U.heap = H) (hW : s.WarmedH U.vm) : zS A aK adV U := zS.move hz hW.alike (fun q h1 h2 => by rw [hU]; exact hS.2.1 q h1 h2)
theorem z_S (S : CallFix p m c cc nL s args gG own) (hz : zS A aK adV s) (hS : va_S A s.heap H locs) (hM : zM l A aK adV y bytes maxL ret d As v) (h1 : Cond.methodLink own idx y ∈ gG) (h2 : Cond.static y ∈ gG) (h3 : Cond.initialized y.cls ∈ gG) (h4 : Cond.code y bytes maxL ret ∈ gG)
    (hd : y.cls ≠ "java/lang/invoke/MethodHandle" ∧ y.cls ≠ "java/lang/invoke/VarHandle" ∧ (parseMethodDescriptor y.desc).map (fun d => d.parameters.length) = some As.length) (hR : d + 1 ≤ R.frames ∧ 8 + (maxL + 11) + d * 64 ≤ R.locals) (hsz : ls.size = nL) (hc : (rest.map fun v => v.category).sum ≤ 8) (hk : cells ≤ R.cells ∧ slots ≤ R.slots) (hdg : decode cc pc = .ok (.invokestatic idx, 3))
    (kk : W p l e R s m args below meth c H locs cells slots Q (F0 m (pc + 3) ls (v.toList ++ rest))) : W p l e R s m args below meth c H locs cells slots Q (F0 m pc ls (As.reverse ++ rest)) := by
  have hts := S.2.2.2.2
  have hG : GoodIn gG (Cond.code y bytes maxL ret :: gG) := fun w hw => by
    rcases List.mem_cons.mp hw with rfl | h
    · exact ⟨h4, good_of_word (gG_good _ h4)⟩
    · exact ⟨h, good_of_word (gG_good _ h)⟩
  exact z_callW (va_runS (As := As) (rest := rest) (g := F0 m pc ls (As.reverse ++ rest)) S hM ⟨callB_of _ hts hG rfl rfl rfl (hts _ h3) (hts _ h1) hd hR, hts _ h2⟩ ⟨zP_blind, fun U hU hW => ⟨rfl, z_move hz hS hU hW⟩⟩ rfl rfl hsz rfl (lv_room hc) hdg hk) kk
theorem z_V (S : CallFix p m c cc nL s args gG own) (hz : zS A aK adV s) (hS : va_S A s.heap H locs) {C : String} {q : Nat} (hO : va_O C q A s s.heap) (hM : zM l A aK adV y bytes maxL ret d (.ref q :: As) v) (h1 : Cond.methodLink own idx y ∈ gG) (h2 : Cond.instanceMethod y ∈ gG) (h2' : Cond.selects C y y ∈ gG) (h3 : Cond.initialized y.cls ∈ gG) (h4 : Cond.code y bytes maxL ret ∈ gG)
    (hd : y.cls ≠ "java/lang/invoke/MethodHandle" ∧ y.cls ≠ "java/lang/invoke/VarHandle" ∧ (parseMethodDescriptor y.desc).map (fun d => d.parameters.length) = some As.length) (hR : d + 1 ≤ R.frames ∧ 8 + (maxL + 11) + d * 64 ≤ R.locals) (hsz : ls.size = nL) (hc : (rest.map fun v => v.category).sum ≤ 8) (hk : cells ≤ R.cells ∧ slots ≤ R.slots) (hdg : decode cc pc = .ok (.invokevirtual idx, 3))
    (kk : W p l e R s m args below meth c H locs cells slots Q (F0 m (pc + 3) ls (v.toList ++ rest))) : W p l e R s m args below meth c H locs cells slots Q (F0 m pc ls (As.reverse ++ .ref q :: rest)) := by
  have hts := S.2.2.2.2
  have hG : GoodIn gG (Cond.code y bytes maxL ret :: gG) := fun w hw => by
    rcases List.mem_cons.mp hw with rfl | h
    · exact ⟨h4, good_of_word (gG_good _ h4)⟩
    · exact ⟨h, good_of_word (gG_good _ h)⟩
  obtain ⟨cell, g1, g2, g3, g4⟩ := hO
  exact z_callW (va_runV (C := C) (b := q) (As := As) (rest := rest) (g := F0 m pc ls (As.reverse ++ .ref q :: rest)) S hM ⟨callB_of _ hts hG rfl rfl rfl (hts _ h3) (hts _ h1) hd hR, hts _ h2, hts _ h2'⟩ ⟨zP_blind, ⟨cell, by rw [hS.2.1 q (Array.getElem?_eq_some_iff.mp g1).1 g4]; exact g1, g2, g3⟩, fun U hU hW => ⟨rfl, z_move hz hS hU hW⟩⟩ rfl rfl hsz rfl (lv_room hc) hdg hk) kk
end BODY
theorem z_cod {i d : Nat} (hi : i < 2) : zM l A aK adV yzCod prog_21_method_152_code 1 (some .byte) d [.ref (aK i)] (some (.int 0)) := by
  refine zM_of (by decide +kernel) (Nat.le_refl _) ?_
  intro p e s m below meth c ls S hr hlocks hz hl
  obtain ⟨hx, hb, hml, hown, hts⟩ := id S
  have hS : va_S A s.heap s.heap [] := va_S.rf
  refine va_gets hx hb hz.2.1 hS hown (hts _ (zW_in (k := 0) rfl)) (fun _ h => h) (by decide +kernel) ?_
  refine lv_if_eq hx hb (tgt := 13) (show decode prog_21_method_152_code 3 = .ok (.ifCond .eq 10, 3) by decide +kernel) (by decide) (fun z => absurd z (by decide)) (fun _ => ?_)
  refine lv_aload_n (i := 0) hx hb (show decode prog_21_method_152_code 6 = .ok (.aload_n 0, 1) by decide +kernel) rfl (hl.2.2 (0, .ref (aK i)) List.mem_cons_self) ?_
  refine vk_getf hx hb (hz.1.1 i hi).2.1 hS hown (hts _ (zW_in (k := 1) rfl)) (fun _ h => h) (by decide +kernel) ?_
  refine lv_goto (tgt := 14) hx hb (show decode prog_21_method_152_code 10 = .ok (.goto 4, 3) by decide +kernel) (by decide) ?_
  exact W.zret hx hb hr rfl (fun t ht _ => ⟨rfl, ht⟩) (fun q hq => (by cases hq)) (by decide +kernel) hlocks
theorem z_lat {i d : Nat} (hi : i < 2) : zM l A aK adV yzLat prog_21_method_154_code 1 (some .boolean) d [.ref (aK i)] (some (.int 1)) := by
  refine zM_of (by decide +kernel) (Nat.le_refl _) ?_
  intro p e s m below meth c ls S hr hlocks hz hl
  obtain ⟨hx, hb, hml, hown, hts⟩ := id S
  have hS : va_S A s.heap s.heap [] := va_S.rf
  refine va_gets hx hb hz.2.1 hS hown (hts _ (zW_in (k := 0) rfl)) (fun _ h => h) (by decide +kernel) ?_
  refine lv_if_eq hx hb (tgt := 17) (show decode prog_21_method_154_code 3 = .ok (.ifCond .eq 14, 3) by decide +kernel) (by decide) (fun z => absurd z (by decide)) (fun _ => ?_)
  refine lv_aload_n (i := 0) hx hb (show decode prog_21_method_154_code 6 = .ok (.aload_n 0, 1) by decide +kernel) rfl (hl.2.2 (0, .ref (aK i)) List.mem_cons_self) ?_
  refine vk_getf hx hb (hz.1.1 i hi).2.1 hS hown (hts _ (zW_in (k := 1) rfl)) (fun _ h => h) (by decide +kernel) ?_
  refine lv_if_ne hx hb (tgt := 17) (show decode prog_21_method_154_code 10 = .ok (.ifCond .ne 7, 3) by decide +kernel) (by decide) (fun z => absurd rfl z) (fun _ => ?_)
  refine lv_iconst (v := 1) hx hb (show decode prog_21_method_154_code 13 = .ok (.iconst 1, 1) by decide +kernel) rfl ?_
  refine lv_goto (tgt := 18) hx hb (show decode prog_21_method_154_code 14 = .ok (.goto 4, 3) by decide +kernel) (by decide) ?_
  exact W.zret hx hb hr rfl (fun t ht _ => ⟨rfl, ht⟩) (fun q hq => (by cases hq)) (by decide +kernel) hlocks
theorem z_len {i d : Nat} (hi : i < 2) (hd : 1 ≤ d) : zM l A aK adV yzLen prog_21_method_54_code 1 (some .int) d [.ref (aK i)] (some (.int (Int32.ofNat (zL.getD i 0)))) := by
  refine zM_of (by decide +kernel) (Nat.le_refl _) ?_
  intro p e s m below meth c ls S hr hlocks hz hl
  obtain ⟨hx, hb, hml, hown, hts⟩ := id S
  have hS : va_S A s.heap s.heap [] := va_S.rf
  refine lv_aload_n (i := 0) hx hb (show decode prog_21_method_54_code 0 = .ok (.aload_n 0, 1) by decide +kernel) rfl (hl.2.2 (0, .ref (aK i)) List.mem_cons_self) ?_
  refine vk_getf hx hb (hz.1.1 i hi).2.2.1 hS hown (hts _ (zW_in (k := 2) rfl)) (fun _ h => h) (by decide +kernel) ?_
  refine va_tlen hx hb (hz.1.1 i hi).2.2.2 hS rfl (by decide +kernel) ?_
  refine lv_aload_n (i := 0) hx hb (show decode prog_21_method_54_code 5 = .ok (.aload_n 0, 1) by decide +kernel) rfl (hl.2.2 (0, .ref (aK i)) List.mem_cons_self) ?_
  refine z_V (As := []) S hz hS (hz.1.1 i hi).1 (z_cod (d := 0) hi) (zW_in (k := 3) rfl) (zW_in (k := 4) rfl) (zW_in (k := 5) rfl) (zW_in (k := 6) rfl) (zW_in (k := 7) rfl) (by decide +kernel) ⟨by show 0 + 1 ≤ d; omega, by show 8 + (1 + 11) + 0 * 64 ≤ d * 64; omega⟩ hl.1 (show 1 ≤ 8 by decide) ⟨Nat.zero_le _, Nat.zero_le _⟩ (by decide +kernel) ?_
  refine lv_ishr hx hb (show decode prog_21_method_54_code 9 = .ok (.ishr, 1) by decide +kernel) ?_
  have e0 : Int32.ofNat (zL.getD i 0) >>> ((0 : Int32) &&& 31) = Int32.ofNat (zL.getD i 0) := by
    have : i = 0 ∨ i = 1 := by omega
    rcases this with rfl | rfl <;> decide
  rw [e0]
  exact W.iret hx hb hr (fun t ht _ => ⟨rfl, ht⟩) (fun q hq => (by cases hq)) (by decide +kernel) hlocks
end STR
