/-! The law's three small methods around the class's readers. -/
def xW2 (j idx : Nat) : List Cond := [.methodLink "CommandByTurnsLaw" idx (gt_y j), .instanceMethod (gt_y j), .selects "CommandByTurns" (gt_y j) (gt_y j), .initialized "CommandByTurns", .code (gt_y j) (gt_b j) (gt_d j).1 (gt_d j).2.1]
set_option maxRecDepth 100000 in
theorem xW2_80 : ((xW2 80 7).all fun w => lw_tbl.contains w && goodWord w) = true := by decide +kernel
set_option maxRecDepth 100000 in
theorem xW2_81 : ((xW2 81 15).all fun w => lw_tbl.contains w && goodWord w) = true := by decide +kernel
set_option maxRecDepth 100000 in
theorem xW2_146 : ((xW2 146 18).all fun w => lw_tbl.contains w && goodWord w) = true := by decide +kernel
theorem xW2_in {j idx k : Nat} {w : Cond} (ht : ((xW2 j idx).all fun w => lw_tbl.contains w && goodWord w) = true) (h : (xW2 j idx)[k]? = some w) : w ∈ gG := by
  have h1 := List.all_eq_true.mp ht w (List.mem_of_getElem? h)
  rw [Bool.and_eq_true] at h1
  exact List.mem_filter.mpr ⟨List.contains_iff_mem.mp h1.1, h1.2⟩
abbrev wR (mc ms : Nat) : Room := { frames := 1199, cells := mc, slots := ms, locals := 1199 * 64 }
/-- what is known behind such a method: its answer, and the state -/
def wQ (b : Nat) (aK : Nat → Nat) (D : va_G) (dA : Nat → ClassId) (t : Int32) (x : gs) : Array Value → State → Outcome → State → Prop := fun _ st oc u => oc = .returned (some (.int t)) ∧ (∀ h, RL h x → gm_hp b aK D gt_cl dA false h u.heap) ∧ va_F (gm_A b) st u
abbrev wPc (b : Nat) (aK : Nat → Nat) (D : va_G) (dA : Nat → ClassId) (adV sm : Nat → Nat) (sl : Nat) (sx : Nat → Int32) (As : List Value) (h : gm_H) : Array Value → State → Prop := gm_Pc b aK D gt_cl dA false (gm_E b aK D gt_cl dA gNW gSR (gt_T false sl sx) (xpX b aK adV sm)) As h
section WRAP
variable {p : Program} {l : Launch} {e : Env} {R : Room} {s : State} {m : MethodId} {args : Array Value} {below : List Frame} {meth : Method} {c : Code} {Q : State → Prop}
variable {b : Nat} {aK adV sm : Nat → Nat} {D : va_G} {dA : Nat → ClassId} {sl : Nat} {sx : Nat → Int32} {pc nL j idx kc ks mc ms : Nat} {L : gm_L} {S : List Value} {h : gm_H} {st st' : gm_S} {cc : ByteArray} {x : gs}
abbrev wC (p : Program) (s : State) (m : MethodId) (args : Array Value) (meth : Method) (c : Code) (b : Nat) (aK : Nat → Nat) (D : va_G) (dA : Nat → ClassId) (adV sm : Nat → Nat) (sl : Nat) (sx : Nat → Int32) (cc : ByteArray) (nL : Nat) : Prop := gm_Cx p s m args meth c b aK D gt_cl dA (gt_T false sl sx) gG gNW gSR (xpX b aK adV sm) "CommandByTurnsLaw" false cc nL
abbrev wK (p : Program) (l : Launch) (e : Env) (mc ms : Nat) (s : State) (m : MethodId) (args : Array Value) (below : List Frame) (meth : Method) (c : Code) (Q : State → Prop) (b : Nat) (aK : Nat → Nat) (D : va_G) (dA : Nat → ClassId) (sl : Nat) (sx : Nat → Int32) (nL : Nat) (st : gm_S) : Prop := gm_K p l e (wR mc ms) s m args below meth c Q b aK D gt_cl dA (gt_T false sl sx) nL st 0 0
theorem w_step (i : gm_I) (C : wC p s m args meth c b aK D dA adV sm sl sx cc nL) (hd : gm_dc cc pc i.1) (hlk : gm_lk gt_cl gG gNW gSR (gt_T false sl sx) gt_y gt_b "CommandByTurnsLaw" false pc i) (hst : gm_stp (gt_T false sl sx) (fun _ _ _ => none) 900 i pc L S h = some (.inl (st', 0, 0)))
    (k : wK p l e mc ms s m args below meth c Q b aK D dA sl sx nL st') : wK p l e mc ms s m args below meth c Q b aK D dA sl sx nL (pc, L, S, h) :=
  fun ls H locs hl hh hS => gm_next (d := 0) C hd hlk hst hl hh hS (Nat.zero_le _) (Nat.zero_le _) (show 0 + 1 ≤ 1199 by decide) (show (0 + 1) * 64 ≤ 1199 * 64 by decide) (fun _ _ _ z => by cases z) k
/-- the throwing call, and the catching -/
theorem w_catch {As0 rest0 : List Value} {hp9 : Nat} (C : wC p s m args meth c b aK D dA adV sm sl sx cc nL) (hB : xB l b aK D dA adV sm sl sx j (.ref 0 :: As0) x h) (ht : ((xW2 j idx).all fun w => lw_tbl.contains w && goodWord w) = true)
    (hnm : (gt_y j).cls = "CommandByTurns" ∧ (gt_y j).cls ≠ "java/lang/invoke/MethodHandle" ∧ (gt_y j).cls ≠ "java/lang/invoke/VarHandle" ∧ (parseMethodDescriptor (gt_y j).desc).map (fun d => d.parameters.length) = some As0.length) (hmx : (gt_d j).1 ≤ 3) (hR : RL h x)
    (hS : S = As0.reverse ++ .ref 0 :: rest0) (hc : gm_cat rest0 ≤ 8) (hdg : decode cc pc = .ok (.invokevirtual idx, 3)) {s9 e9 : Nat} (htab : c.exceptionTable.toList.map (fun h => (h.startPc, h.endPc, h.handlerPc, h.catchType)) = [(s9, e9, hp9, 13)]) (hcov : s9 ≤ pc ∧ pc < e9)
    (kk : ∀ (ls : Array Slot) (H : Heap) (locs : List Loc) (q : Addr), ls.size = nL → lv_wf ls → (∀ h, RL h x → gm_hp b aK D gt_cl dA false h H) → va_S (gm_A b) s.heap H locs → W p l e (wR 1 6) s m args below meth c H locs 1 6 Q (F0 m hp9 ls [.ref q])) : wK p l e 1 6 s m args below meth c Q b aK D dA sl sx nL (pc, L, S, h) := by
  intro ls H locs hl hh hS9
  have C0 := C
  obtain ⟨hx, hb, hml, hown, hts, hE, hX, -, hgood, hbs⟩ := C
  have hxp : xpX b aK adV sm s := hE.2.2.2.2.2.2.2.2
  obtain ⟨fs, hg⟩ := RL_o hR (r := 0) (ci := 9) rfl
  have h4 := xW2_in (k := 4) ht rfl
  have hG : GoodIn gG (Cond.code (gt_y j) (gt_b j) (gt_d j).1 (gt_d j).2.1 :: gG) := fun w hw => by
    rcases List.mem_cons.mp hw with rfl | h
    · exact ⟨h4, good_of_word (gG_good _ h4)⟩
    · exact ⟨h, good_of_word (gG_good _ h)⟩
  have hSt2 : S.map (gm_tv b aK) = (As0.map (gm_tv b aK)).reverse ++ .ref (b + 0) :: rest0.map (gm_tv b aK) := by
    rw [hS, List.map_append, List.map_reverse]
    rfl
  have hWr : 2 * (F0 m pc ls (S.map (gm_tv b aK))).monitorRoom + ((rest0.map (gm_tv b aK)).map fun v => v.category).sum ≤ 8 := by
    have e1 : ((rest0.map (gm_tv b aK)).map fun v => v.category) = rest0.map fun v => v.category := by
      rw [List.map_map]
      exact List.map_congr_left (fun v _ => gm_tv_cat b aK v)
    rw [e1]
    exact lv_room hc
  have hini : (Cond.initialized (gt_y j).cls).before args s = true := by rw [hnm.1]; exact hts _ (xW2_in (k := 3) ht rfl)
  have hr := vx_runV (e := e) (below := below) (meth := meth) (H := H) (locs := locs) (cells := 0) (slots := 0) (R := wR 1 6) (C := "CommandByTurns") (b := b + 0) (As := As0.map (gm_tv b aK)) (rest := rest0.map (gm_tv b aK)) (g := F0 m pc ls (S.map (gm_tv b aK))) ⟨hx, hb, hml, hown, hts⟩ hB
    ⟨callB_of _ hts hG rfl rfl rfl hini (hts _ (xW2_in (k := 0) ht rfl)) hnm.2 ⟨show 1198 + 1 ≤ 1199 by decide, show 8 + ((gt_d j).1 + 11) + 1198 * 64 ≤ 1199 * 64 by omega⟩, hts _ (xW2_in (k := 1) ht rfl), hts _ (xW2_in (k := 2) ht rfl)⟩
    ⟨gm_blind hX _ h, va_recv hE.1 hh.2.2 (show gt_cl[9]? = some _ from rfl) (gm_w_get hg), gm_pre (As := .ref 0 :: As0) C0 hh hS9⟩ rfl (List.length_map _) hl.1 hSt2 hWr hdg ⟨show 0 + 1 ≤ 1 by decide, show 0 + 6 ≤ 6 by decide⟩
  intro T hT X
  rcases hr T hT X with ⟨v, st₀, t, T', L, h0, X', hL, e1, e2, hq, stp⟩ | ⟨q, st₀, t, T', L, E, ce, h0, X', hL, e1, e2, ⟨hEe, hq, hF⟩, hce, hcv, hcl, stp⟩
  · exact hq.elim
  · subst hEe
    obtain ⟨k1, k2, k3⟩ := vx_keep h0 e1 hS9 (fun _ _ z => z) (fun _ z => z) hL hF
    obtain ⟨x9, hx9⟩ : ∃ x9, c.exceptionTable.toList = [x9] := by
      cases hc9 : c.exceptionTable.toList with
      | nil => rw [hc9] at htab; cases htab
      | cons a r =>
        cases r with
        | nil => exact ⟨a, rfl⟩
        | cons a2 r2 =>
          rw [hc9] at htab
          have h9 := congrArg List.length htab
          simp at h9
    rw [hx9] at htab
    have hf : x9.startPc = s9 ∧ x9.endPc = e9 ∧ x9.handlerPc = hp9 ∧ x9.catchType = 13 := by
      have h1 := List.cons.inj htab
      have h2 := Prod.mk.inj h1.1
      have h3 := Prod.mk.inj h2.2
      have h4 := Prod.mk.inj h3.2
      exact ⟨h2.1, h3.1, h4.1, h4.2⟩
    have kx : vx_W p l e (wR 1 6) s m args below meth c T'.heap (locs ++ L) 1 6 Q (F0 m pc ls (rest0.map (gm_tv b aK))) q := by
      refine vx_catch (own := "CommandByTurnsLaw") (name := nseE) (E := nseE) (ce := ce) hown [] x9 [] hx9 (fun z hz => (by cases hz)) ?_ (by rw [hf.2.2.2]; decide) (by rw [hf.2.2.2]; exact hts _ (xW_in (k := 10) rfl)) (va_Nw.use rfl hxp.2.1.1) (by rw [e1]; exact hce) hcv hcl ?_
      · unfold covers
        rw [hf.1, hf.2.1]
        simp [hcov.1, hcov.2]
      · rw [hf.2.2.1]
        exact kk ls T'.heap (locs ++ L) q hl.1 hl.2.1 (fun h9 hR9 => by rw [e1]; exact hq h9 hR9) k3
    obtain ⟨t2, a1, b1⟩ := kx T' rfl X'
    exact ⟨t2, stp.trans a1, b1⟩
def w2D (cc : ByteArray) (idx : Nat) : Prop := (decode cc 0 = .ok (.aload_n 3, 1) ∧ decode cc 1 = .ok (.iconst 0, 1) ∧ decode cc 2 = .ok (.aload_n 0, 1) ∧ decode cc 3 = .ok (.iload_n 1, 1) ∧ decode cc 4 = .ok (.iload_n 2, 1)) ∧ decode cc 5 = .ok (.invokevirtual idx, 3) ∧ (decode cc 13 = .ok (.astore 4, 2) ∧ decode cc 15 = .ok (.iconst 1, 1) ∧ decode cc 16 = .ok (.ireturn, 1)) ∧ (decode cc 8 = .ok (.i2l, 1) ∧ decode cc 9 = .ok (.lastore, 1) ∧ decode cc 10 = .ok (.goto 7, 3) ∧ decode cc 17 = .ok (.iconst 0, 1) ∧ decode cc 18 = .ok (.ireturn, 1))
def w1D (cc : ByteArray) (idx : Nat) : Prop := (decode cc 0 = .ok (.aload_n 2, 1) ∧ decode cc 1 = .ok (.iconst 0, 1) ∧ decode cc 2 = .ok (.aload_n 0, 1) ∧ decode cc 3 = .ok (.iload_n 1, 1)) ∧ decode cc 4 = .ok (.invokevirtual idx, 3) ∧ (decode cc 11 = .ok (.astore_n 3, 1) ∧ decode cc 12 = .ok (.iconst 1, 1) ∧ decode cc 13 = .ok (.ireturn, 1)) ∧ (decode cc 7 = .ok (.lastore, 1) ∧ decode cc 8 = .ok (.goto 6, 3) ∧ decode cc 14 = .ok (.iconst 0, 1) ∧ decode cc 15 = .ok (.ireturn, 1))
theorem wD_f : w2D method_3_code 7 := ⟨⟨by decide +kernel, by decide +kernel, by decide +kernel, by decide +kernel, by decide +kernel⟩, by decide +kernel, ⟨by decide +kernel, by decide +kernel, by decide +kernel⟩, by decide +kernel, by decide +kernel, by decide +kernel, by decide +kernel, by decide +kernel⟩
theorem wD_c : w2D method_4_code 15 := ⟨⟨by decide +kernel, by decide +kernel, by decide +kernel, by decide +kernel, by decide +kernel⟩, by decide +kernel, ⟨by decide +kernel, by decide +kernel, by decide +kernel⟩, by decide +kernel, by decide +kernel, by decide +kernel, by decide +kernel, by decide +kernel⟩
theorem wD_r : w1D method_5_code 18 := ⟨⟨by decide +kernel, by decide +kernel, by decide +kernel, by decide +kernel⟩, by decide +kernel, ⟨by decide +kernel, by decide +kernel, by decide +kernel⟩, by decide +kernel, by decide +kernel, by decide +kernel, by decide +kernel⟩
/-- such a method, as the law calls it -/
abbrev wM (l : Launch) (b : Nat) (aK : Nat → Nat) (D : va_G) (dA : Nat → ClassId) (adV sm : Nat → Nat) (sl : Nat) (sx : Nat → Int32) (y : MethodName) (cc : ByteArray) (nL : Nat) (hh : List (Nat × Nat × Nat × Nat)) (mc ms : Nat) (As : List Value) (h : gm_H) (t : Int32) (x : gs) : Prop :=
  vx_Met l y (Cond.codeWith y cc nL (some .int) hh :: gG) (wR mc ms) (wPc b aK D dA adV sm sl sx As h) (wQ b aK D dA t x) (fun _ _ _ => False) mc ms (gm_A b)
theorem wM_of {y : MethodName} {hh : List (Nat × Nat × Nat × Nat)} {As : List Value} {t : Int32} (hpl : plainName y.cls = true) (hy : y.cls = "CommandByTurnsLaw") (hlen : (gm_ent1 As).length ≤ nL)
    (body : ∀ (p : Program) (e : Env) (s : State) (m : MethodId) (below : List Frame) (meth : Method) (c : Code), wC p s m (As.map (gm_tv b aK)).toArray meth c b aK D dA adV sm sl sx cc nL → meth.sig.returnType = some .int → meth.locks = false → c.exceptionTable.toList.map (fun h => (h.startPc, h.endPc, h.handlerPc, h.catchType)) = hh → wK p l e mc ms s m (As.map (gm_tv b aK)).toArray below meth c (vx_MQ below (wQ b aK D dA t x) (fun _ _ _ => False) (As.map (gm_tv b aK)).toArray s mc ms (gm_A b)) b aK D dA sl sx nL (0, gm_ent nL As, [], h)) : wM l b aK D dA adV sm sl sx y cc nL hh mc ms As h t x := by
  refine vx_ofWH (cc := cc) (maxL := nL) (ret := some .int) (hh := hh) hpl rfl ?_
  intro p e s m args below meth c s₁ B hml hv
  obtain ⟨rfl, hhp, hE⟩ := hv
  have hts := atoms_spec (ws := Cond.codeWith y cc nL (some .int) hh :: gG) B.pre
  obtain ⟨m9, meth9, c9, g1, g2, g3, -, -, g6, -⟩ := Cond.codeWith_spec (hts _ List.mem_cons_self)
  cases Option.some.inj (g1.symm.trans B.named)
  cases Option.some.inj (g2.symm.trans B.method)
  cases Option.some.inj (g3.symm.trans (Stand.of_body B).code)
  have C : wC p s m (As.map (gm_tv b aK)).toArray meth c b aK D dA adV sm sl sx cc nL :=
    ⟨B.exec, B.bytes, hml, by rw [← hy]; exact findClass_of_methodNamed B.named, fun w hw => hts w (List.mem_cons_of_mem _ hw), hE, xpX_ok b aK adV sm, fun z => (by cases z), gG_good, Nat.le_trans (Nat.le_add_right _ _) hhp.1⟩
  exact x_entry (T := gt_T false sl sx) hlen hhp (body p e s m below meth c C B.returns B.notSynchronized g6)
theorem wb2 {y : MethodName} {u v : Int32} (hpl : plainName y.cls = true) (hy : y.cls = "CommandByTurnsLaw") (hd : w2D cc idx) (hR : RL h x) (hB : xB l b aK D dA adV sm sl sx j [.ref 0, .int u, .int v] x h) (ht : ((xW2 j idx).all fun w => lw_tbl.contains w && goodWord w) = true)
    (hnm : (gt_y j).cls = "CommandByTurns" ∧ (gt_y j).cls ≠ "java/lang/invoke/MethodHandle" ∧ (gt_y j).cls ≠ "java/lang/invoke/VarHandle" ∧ (parseMethodDescriptor (gt_y j).desc).map (fun d => d.parameters.length) = some 2) (hmx : (gt_d j).1 ≤ 3) : wM l b aK D dA adV sm sl sx y cc 5 wfH 1 6 [.ref 0, .int u, .int v, .ref 73] h 1 x := by
  refine wM_of hpl hy (Nat.le_of_ble_eq_true rfl) ?_
  intro p e s m below meth c C hr hlocks htab
  obtain ⟨⟨d0, d1, d2, d3, d4⟩, d5, ⟨d13, d15, d16⟩, -⟩ := hd
  have hx := C.1
  have hb := C.2.1
  show wK p l e 1 6 s m _ below meth c _ b aK D dA sl sx 5 (0, [some (.ref 0), some (.int u), some (.int v), some (.ref 73), none], [], h)
  refine w_step (.aload_n 3, 0, 0) C d0 trivial (st' := (1, [some (.ref 0), some (.int u), some (.int v), some (.ref 73), none], [.ref 73], h)) rfl ?_
  refine w_step (.iconst 0, 0, 0) C d1 trivial (st' := (2, [some (.ref 0), some (.int u), some (.int v), some (.ref 73), none], [.int 0, .ref 73], h)) rfl ?_
  refine w_step (.aload_n 0, 0, 0) C d2 trivial (st' := (3, [some (.ref 0), some (.int u), some (.int v), some (.ref 73), none], [.ref 0, .int 0, .ref 73], h)) rfl ?_
  refine w_step (.iload_n 1, 0, 0) C d3 trivial (st' := (4, [some (.ref 0), some (.int u), some (.int v), some (.ref 73), none], [.int u, .ref 0, .int 0, .ref 73], h)) rfl ?_
  refine w_step (.iload_n 2, 0, 0) C d4 trivial (st' := (5, [some (.ref 0), some (.int u), some (.int v), some (.ref 73), none], [.int v, .int u, .ref 0, .int 0, .ref 73], h)) rfl ?_
  refine w_catch (As0 := [.int u, .int v]) (rest0 := [.int 0, .ref 73]) C hB ht hnm hmx hR rfl (Nat.le_of_ble_eq_true rfl) d5 htab ⟨by decide, by decide⟩ (fun ls H locs q hsz hwf hq hS => ?_)
  refine lv_astore (i := 4) (lv := []) hx hb d13 ⟨hsz, hwf, fun q hq => (by cases hq)⟩ (by decide) rfl (fun ls' hl' => ?_)
  refine lv_iconst (v := 1) hx hb d15 rfl ?_
  exact vx_ret (W.iret hx hb hr (fun t ht _ => ⟨rfl, fun h9 hR9 => by rw [ht]; exact hq h9 hR9, hS.F ht⟩) hS.2.2 d16 hlocks)
theorem wb1 {y : MethodName} {u : Int32} (hpl : plainName y.cls = true) (hy : y.cls = "CommandByTurnsLaw") (hd : w1D cc idx) (hR : RL h x) (hB : xB l b aK D dA adV sm sl sx j [.ref 0, .int u] x h) (ht : ((xW2 j idx).all fun w => lw_tbl.contains w && goodWord w) = true)
    (hnm : (gt_y j).cls = "CommandByTurns" ∧ (gt_y j).cls ≠ "java/lang/invoke/MethodHandle" ∧ (gt_y j).cls ≠ "java/lang/invoke/VarHandle" ∧ (parseMethodDescriptor (gt_y j).desc).map (fun d => d.parameters.length) = some 1) (hmx : (gt_d j).1 ≤ 3) : wM l b aK D dA adV sm sl sx y cc 4 wrH 1 6 [.ref 0, .int u, .ref 73] h 1 x := by
  refine wM_of hpl hy (Nat.le_of_ble_eq_true rfl) ?_
  intro p e s m below meth c C hr hlocks htab
  obtain ⟨⟨d0, d1, d2, d3⟩, d4, ⟨d11, d12, d13⟩, -⟩ := hd
  have hx := C.1
  have hb := C.2.1
  show wK p l e 1 6 s m _ below meth c _ b aK D dA sl sx 4 (0, [some (.ref 0), some (.int u), some (.ref 73), none], [], h)
  refine w_step (.aload_n 2, 0, 0) C d0 trivial (st' := (1, [some (.ref 0), some (.int u), some (.ref 73), none], [.ref 73], h)) rfl ?_
  refine w_step (.iconst 0, 0, 0) C d1 trivial (st' := (2, [some (.ref 0), some (.int u), some (.ref 73), none], [.int 0, .ref 73], h)) rfl ?_
  refine w_step (.aload_n 0, 0, 0) C d2 trivial (st' := (3, [some (.ref 0), some (.int u), some (.ref 73), none], [.ref 0, .int 0, .ref 73], h)) rfl ?_
  refine w_step (.iload_n 1, 0, 0) C d3 trivial (st' := (4, [some (.ref 0), some (.int u), some (.ref 73), none], [.int u, .ref 0, .int 0, .ref 73], h)) rfl ?_
  refine w_catch (As0 := [.int u]) (rest0 := [.int 0, .ref 73]) C hB ht hnm hmx hR rfl (Nat.le_of_ble_eq_true rfl) d4 htab ⟨by decide, by decide⟩ (fun ls H locs q hsz hwf hq hS => ?_)
  refine lv_astore_n (i := 3) (lv := []) hx hb d11 rfl ⟨hsz, hwf, fun q hq => (by cases hq)⟩ (by decide) rfl (fun ls' hl' => ?_)
  refine lv_iconst (v := 1) hx hb d12 rfl ?_
  exact vx_ret (W.iret hx hb hr (fun t ht _ => ⟨rfl, fun h9 hR9 => by rw [ht]; exact hq h9 hR9, hS.F ht⟩) hS.2.2 d13 hlocks)
end WRAP
