/-! The class's three readers where they throw. -/
abbrev dcR : Cond := .declares (Bundle.initS "java/lang/RuntimeException")
abbrev dcE : Cond := .declares (Bundle.initS "java/lang/Exception")
abbrev dcT : Cond := .declares (Bundle.initS Bundle.tN)
def xpX (b : Nat) (aK adV sm : Nat → Nat) (U : State) : Prop :=
  zS (gm_A b) aK adV U ∧ (va_Nw (.castable nseE nseE) U ∧ va_Nw dcR U ∧ va_Nw dcE U ∧ va_Nw dcT U) ∧ (vx_Zq Bundle.tN "UNASSIGNED_STACK" Bundle.steD (gm_A b) U U.heap ∧ vx_Zq Bundle.tN "SUPPRESSED_SENTINEL" Bundle.listD (gm_A b) U U.heap) ∧
  (vk_R "CommandByTurns" 157 "no such field" (sm 0) U ∧ vk_R "CommandByTurns" 170 "no such number of a field" (sm 1) U ∧ vk_R "CommandByTurns" 172 "no such consul" (sm 2) U ∧ vk_R "CommandByTurns" 189 "no such number of a consul" (sm 3) U ∧ vk_R "CommandByTurns" 439 "no such number of the row" (sm 4) U)
theorem xpX_ok (b : Nat) (aK adV sm : Nat → Nat) : gm_ok b (xpX b aK adV sm) := by
  refine ⟨fun s U hW hq h => ?_, fun U g mk a h => ?_⟩
  · obtain ⟨h1, ⟨c1, c2, c3, c4⟩, ⟨z1, z2⟩, r1, r2, r3, r4, r5⟩ := h
    have hq' : ∀ a : Nat, a < s.heap.size → ¬ gm_A b a → U.heap[a]? = s.heap[a]? := fun a _ ha => hq a (Nat.lt_of_not_le ha)
    exact ⟨zS.move h1 hW.alike hq', ⟨va_Nw.warmC hW c1, va_Nw.warmD hW c2, va_Nw.warmD hW c3, va_Nw.warmD hW c4⟩, ⟨vx_Zq.moved hW.alike (z1.kept hq'), vx_Zq.moved hW.alike (z2.kept hq')⟩, vk_R.warm hW r1, vk_R.warm hW r2, vk_R.warm hW r3, vk_R.warm hW r4, vk_R.warm hW r5⟩
  · obtain ⟨h1, ⟨c1, c2, c3, c4⟩, ⟨z1, z2⟩, r1, r2, r3, r4, r5⟩ := h
    have hv : U.vm.Alike (U.calling g mk a).vm := Vm.Alike.refl U.vm
    exact ⟨zS.move h1 hv (fun _ _ _ => rfl), ⟨va_Nw.same rfl (rfl : U.vm = (U.calling g mk a).vm) c1, va_Nw.same rfl (rfl : U.vm = (U.calling g mk a).vm) c2, va_Nw.same rfl (rfl : U.vm = (U.calling g mk a).vm) c3, va_Nw.same rfl (rfl : U.vm = (U.calling g mk a).vm) c4⟩, ⟨vx_Zq.moved hv z1, vx_Zq.moved hv z2⟩,
      vk_R.same (u := U) (U := U.calling g mk a) rfl r1, vk_R.same (u := U) (U := U.calling g mk a) rfl r2, vk_R.same (u := U) (U := U.calling g mk a) rfl r3, vk_R.same (u := U) (U := U.calling g mk a) rfl r4, vk_R.same (u := U) (U := U.calling g mk a) rfl r5⟩
theorem xpX_z {b : Nat} {aK adV sm : Nat → Nat} : ∀ U, xpX b aK adV sm U → zS (gm_A b) aK adV U := fun _ h => h.1
theorem xW_in {k : Nat} {w : Cond} (h : xW[k]? = some w) : w ∈ gG := by
  have h1 := List.all_eq_true.mp xW_tbl w (List.mem_of_getElem? h)
  rw [Bool.and_eq_true] at h1
  exact List.mem_filter.mpr ⟨List.contains_iff_mem.mp h1.1, h1.2⟩
set_option maxRecDepth 100000 in
theorem nseA_bad : ∀ w ∈ ((nseA "CommandByTurns" 159).filter vx_no).filter (fun w => !goodWord w), w ∈ [.castable nseE nseE, dcR, dcE, dcT] := by decide +kernel
theorem nse_hat {args : Array Value} {s : State} {b : Nat} {aK adV sm : Nat → Nat} (hts : ∀ w ∈ gG, w.before args s = true) (h : xpX b aK adV sm s) : ∀ w ∈ (nseA "CommandByTurns" 159).filter vx_no, w.before args s = true := by
  obtain ⟨-, ⟨c1, c2, c3, c4⟩, -⟩ := h
  refine vx_hat (B := [.castable nseE nseE, dcR, dcE, dcT]) (fun w hw => ?_) nseA_bad (vx_c (va_Nw.use rfl c1) (vx_c (va_Nw.use rfl c2) (vx_c (va_Nw.use rfl c3) (vx_c (va_Nw.use rfl c4) vx_n))))
  obtain ⟨h1, h2⟩ := List.mem_filter.mp hw
  exact hts w (List.mem_filter.mpr ⟨List.contains_iff_mem.mp (List.all_eq_true.mp nseA_tbl w h1), h2⟩)
abbrev xR : Room := { frames := 1198, cells := 1, slots := 6, locals := 1198 * 64 }
/-- what is known where one has been thrown -/
def xXC (b : Nat) (aK : Nat → Nat) (D : va_G) (dA : Nat → ClassId) (x : gs) : String → State → State → Prop := fun E st t => E = nseE ∧ (∀ h, RL h x → gm_hp b aK D gt_cl dA false h t.heap) ∧ va_F (gm_A b) st t
theorem RL_hp {b : Nat} {aK : Nat → Nat} {D : va_G} {cl : List vw_C} {dA : Nat → ClassId} {x : gs} {h h' : gm_H} {H : Heap} (hR : RL h x) (hR' : RL h' x) (hh : gm_hp b aK D cl dA false h H) : gm_hp b aK D cl dA false h' H := by
  obtain ⟨g1, g2, g3⟩ := hh
  refine ⟨by rw [hR'.1]; rw [hR.1] at g1; exact g1, fun z => (by cases z), ?_⟩
  have e : gm_w b aK dA h' = gm_w b aK dA h := by
    unfold gm_w
    rw [hR.1, hR'.1]
    refine List.map_congr_left (fun i hi => ?_)
    have hi' : i < 74 := List.mem_range.mp hi
    rw [hR.2 i hi', hR'.2 i hi']
  rw [e]
  exact g3
section BAD
variable {p : Program} {l : Launch} {e : Env} {s : State} {m : MethodId} {args : Array Value} {below : List Frame} {meth : Method} {c : Code} {Q : State → Prop}
variable {b : Nat} {aK adV sm : Nat → Nat} {D : va_G} {dA : Nat → ClassId} {sl : Nat} {sx : Nat → Int32} {pc nL j : Nat} {L : gm_L} {S : List Value} {h : gm_H} {st st' : gm_S}
abbrev xK (p : Program) (l : Launch) (e : Env) (s : State) (m : MethodId) (args : Array Value) (below : List Frame) (meth : Method) (c : Code) (Q : State → Prop) (b : Nat) (aK : Nat → Nat) (D : va_G) (dA : Nat → ClassId) (sl : Nat) (sx : Nat → Int32) (nL : Nat) (st : gm_S) : Prop := gm_K p l e xR s m args below meth c Q b aK D gt_cl dA (gt_T false sl sx) nL st 0 0
abbrev xC (p : Program) (s : State) (m : MethodId) (args : Array Value) (meth : Method) (c : Code) (b : Nat) (aK : Nat → Nat) (D : va_G) (dA : Nat → ClassId) (adV sm : Nat → Nat) (sl : Nat) (sx : Nat → Int32) (j nL : Nat) : Prop := gm_Cx p s m args meth c b aK D gt_cl dA (gt_T false sl sx) gG gNW gSR (xpX b aK adV sm) (gt_y j).cls (decide ((gt_y j).name = "<init>")) (gt_b j) nL
theorem x_next {i : gm_I} {d : Nat} (hd : d ≤ 1197) {call : Nat → List Value → gm_H → Option gm_R} (C : xC p s m args meth c b aK D dA adV sm sl sx j nL) (hM : gm_mok gt_cl gG gNW gSR (gt_T false sl sx) gt_y gt_b j) (hf : gm_code (gt_T false sl sx) j pc = some i) (hst : gm_stp (gt_T false sl sx) call j i pc L S h = some (.inl (st', 0, 0)))
    (hcall : ∀ j As r, call j As h = some r → gm_Met l b aK D gt_cl dA (gt_T false sl sx) gG gt_y gt_b (gm_E b aK D gt_cl dA gNW gSR (gt_T false sl sx) (xpX b aK adV sm)) d j As h r)
    (k : xK p l e s m args below meth c Q b aK D dA sl sx nL st') : xK p l e s m args below meth c Q b aK D dA sl sx nL (pc, L, S, h) :=
  fun ls H locs hl hh hS => gm_next (d := d) C (hM.2 pc i hf).1 (hM.2 pc i hf).2 hst hl hh hS (show 0 + 0 ≤ 1 by decide) (show 0 + 0 ≤ 6 by decide) (show d + 1 ≤ 1198 by omega) (show (d + 1) * 64 ≤ 1198 * 64 by omega) hcall k
theorem x_step {i : gm_I} (C : xC p s m args meth c b aK D dA adV sm sl sx j nL) (hM : gm_mok gt_cl gG gNW gSR (gt_T false sl sx) gt_y gt_b j) (hf : gm_code (gt_T false sl sx) j pc = some i) (hst : gm_stp (gt_T false sl sx) (fun _ _ _ => none) j i pc L S h = some (.inl (st', 0, 0)))
    (k : xK p l e s m args below meth c Q b aK D dA sl sx nL st') : xK p l e s m args below meth c Q b aK D dA sl sx nL (pc, L, S, h) :=
  x_next (d := 0) (by decide) C hM hf hst (fun _ _ _ z => by cases z) k
theorem x_call {i : gm_I} {jj : Nat} {As rest : List Value} (C : xC p s m args meth c b aK D dA adV sm sl sx j nL) (hM : gm_mok gt_cl gG gNW gSR (gt_T false sl sx) gt_y gt_b j) (hf : gm_code (gt_T false sl sx) j pc = some i) (hi : ∀ call, gm_stp (gt_T false sl sx) call j i pc L S h = gm_cal (gt_T false sl sx) call jj (pc + 3) L S h) (hS : S = As.reverse ++ rest) (hl : (gt_d jj).2.2.1 = As.length) (hc : gm_cat rest ≤ 8) (hr : gm_rcv (gt_T false sl sx) jj h As = true)
    (k : ge (gt_T false sl sx) gp_prim 1190 jj As h (fun v h' => xK p l e s m args below meth c Q b aK D dA sl sx nL (pc + 3, L, v.toList ++ rest, h'))) : xK p l e s m args below meth c Q b aK D dA sl sx nL (pc, L, S, h) := by
  obtain ⟨n, v, h1, he, hp⟩ := k
  have hst : gm_stp (gt_T false sl sx) (gm_ev (gt_T false sl sx) gp_prim n 1190) j i pc L S h = some (.inl ((pc + 3, L, v.toList ++ rest, h1), 0, 0)) := by
    rw [hi]
    unfold gm_cal
    have hl' : (gm_dat (gt_T false sl sx) jj).2.2.1 = As.length := hl
    have e1 : (S.take (gm_dat (gt_T false sl sx) jj).2.2.1).reverse = As := by
      rw [hS, hl', ← List.length_reverse, List.take_left, List.reverse_reverse]
    have e2 : S.drop (gm_dat (gt_T false sl sx) jj).2.2.1 = rest := by
      rw [hS, hl', ← List.length_reverse, List.drop_left]
    have e3 : ¬ S.length < (gm_dat (gt_T false sl sx) jj).2.2.1 := by
      rw [hS, hl', List.length_append, List.length_reverse]
      omega
    rw [if_neg e3, e2, if_neg (by omega), e1, if_pos hr, he]
  exact x_next (d := 1190) (by decide) C hM hf hst (fun j As r hr => lwP_sound C.2.2.2.2.2.2.1 (lwP_ok xpX_z) hr) hp
/-- at 'new' -/
theorem x_throw {k is sa : Nat} {text : String} {Qc : Array Value → State → Outcome → State → Prop} (hl0 : l.stackTraces = false) (C : xC p s m args meth c b aK D dA adV sm sl sx j nL) (hj : (gt_y j).cls = "CommandByTurns") {x : gs} (hR : RL h x) (hout : ∀ x ∈ c.exceptionTable.toList, False) (hlocks : meth.locks = false) (hstr : vk_R "CommandByTurns" is text sa s)
    (d0 : decode (gt_b j) pc = .ok (.new 155, 3)) (d3 : decode (gt_b j) (pc + 3) = .ok (.dup, 1)) (d4 : (k = 2 ∧ decode (gt_b j) (pc + 4) = .ok (.ldc is, 2)) ∨ (k = 3 ∧ decode (gt_b j) (pc + 4) = .ok (.ldc_w is, 3))) (d6 : decode (gt_b j) (pc + 4 + k) = .ok (.invokespecial 159, 3)) (d9 : decode (gt_b j) (pc + 4 + k + 3) = .ok (.athrow, 1)) :
    xK p l e s m args below meth c (vx_MQ below Qc (xXC b aK D dA x) args s 1 6 (gm_A b)) b aK D dA sl sx nL (pc, L, [], h) := by
  intro ls H locs hl hh hS
  obtain ⟨hx, hb, hml, hown, hts, hE, hX, -, hgood, hbs⟩ := C
  have hxp : xpX b aK adV sm s := hE.2.2.2.2.2.2.2.2
  rw [hj] at hown
  refine nse_throw (k := k) (text := text) (is := is) (sa := sa) (A := gm_A b) hx hb hl0 hown (hts _ (xW_in (k := 11) rfl)) (hts _ (xW_in (k := 12) rfl)) hstr (nse_hat hts hxp) hxp.2.2.1.1 hxp.2.2.1.2 hS (hl.1.trans hml.symm) d0 d3 d4 d6 d9 (fun x hx => (hout x hx).elim) (show 5 < 1198 by decide) (show 0 + 82 ≤ 1198 * 64 by decide) (show 0 + 1 ≤ 1 by decide) (show 0 + 6 ≤ 6 by decide) hlocks (fun t ha hsz hq => ⟨rfl, fun h9 hR9 => RL_hp hR hR9 ?_, ?_⟩) hS.2.2 (Nat.le_refl _) (Nat.le_refl _)
  · obtain ⟨g1, g2, g3⟩ := hh
    refine ⟨Nat.le_trans g1 hsz, fun z => (by cases z), va_P.kept g3 (fun k q hk => ?_)⟩
    obtain ⟨hlk, rfl⟩ := gm_w_at hk
    exact hq (b + k) (Nat.lt_of_lt_of_le (Nat.add_lt_add_left hlk b) g1)
  · exact ⟨Nat.le_trans hS.1 hsz, fun q h1 h2 => by rw [hq q (Nat.lt_of_lt_of_le h1 hS.1)]; exact hS.2.1 q h1 h2⟩
theorem gm_gf_of {a ci k : Nat} {v : Value} {r : List Value} (hg : gm_fld h a ci k = some v) : gm_gf pc ci k L (.ref a :: r) h = gm_nx pc L (v :: r) h := by
  obtain ⟨fs, h1, h2⟩ := gm_fld_of hg
  show (match gm_get h a with
    | some (.inr (ci', fs)) => if ci' = ci then match fs[k]? with
      | some v => gm_nx pc L (v :: r) h
      | none => none
      else none
    | _ => none) = _
  rw [h1]
  show (if ci = ci then match fs[k]? with
    | some v => gm_nx pc L (v :: r) h
    | none => none
    else none) = _
  rw [if_pos rfl, h2]
theorem x_entry {R : Room} {T : gm_T} {cl : List vw_C} {As : List Value} (hlen : (gm_ent1 As).length ≤ nL) (hh : gm_hp b aK D cl dA (gm_al T) h s.heap) (k : gm_K p l e R s m args below meth c Q b aK D cl dA T nL (0, gm_ent nL As, [], h) 0 0) : W p l e R s m args below meth c s.heap [] 0 0 Q (entryFrame m (As.map (gm_tv b aK)).toArray nL) := by
  have hl := lv_entry (As.map (gm_tv b aK)) (n := nL) (by rw [gm_ent1_len]; exact hlen)
  rw [lg_entry_eq]
  generalize (lg_sl (As.map (gm_tv b aK)) ++ List.replicate (nL - (lg_sl (As.map (gm_tv b aK))).length) Slot.unset).toArray = ls at hl ⊢
  have hlh : gm_lh b aK ls nL (gm_ent nL As) := by
    refine ⟨hl.1, hl.2.1, ?_, fun k w hk => ?_⟩
    · unfold gm_ent
      rw [List.length_append, List.length_replicate]
      omega
    · unfold gm_ent at hk
      by_cases hkl : k < (gm_ent1 As).length
      · rw [List.getElem?_append_left hkl] at hk
        have := gm_ent1_args (b := b) (aK := aK) As 0 k w hk
        rw [Nat.zero_add] at this
        exact hl.2.2 _ this
      · rw [List.getElem?_append_right (by omega)] at hk
        have := List.eq_of_mem_replicate (List.mem_of_getElem? hk)
        cases this
  exact k ls s.heap [] hlh hh va_S.rf
/-- a reader of the class that throws -/
abbrev xB (l : Launch) (b : Nat) (aK : Nat → Nat) (D : va_G) (dA : Nat → ClassId) (adV sm : Nat → Nat) (sl : Nat) (sx : Nat → Int32) (j : Nat) (As : List Value) (x : gs) (h : gm_H) : Prop :=
  vx_Met l (gt_y j) (Cond.code (gt_y j) (gt_b j) (gt_d j).1 (gt_d j).2.1 :: gG) xR (gm_Pc b aK D gt_cl dA false (gm_E b aK D gt_cl dA gNW gSR (gt_T false sl sx) (xpX b aK adV sm)) As h) (fun _ _ _ _ => False) (xXC b aK D dA x) 1 6 (gm_A b)
theorem xB_of {As : List Value} {x : gs} (hj : j < 1000) (hc0 : gm_code (gt_T false sl sx) j 0 ≠ none) (hlen : (gm_ent1 As).length ≤ (gt_d j).1)
    (body : ∀ (p : Program) (e : Env) (s : State) (m : MethodId) (below : List Frame) (meth : Method) (c : Code), gm_mok gt_cl gG gNW gSR (gt_T false sl sx) gt_y gt_b j → xC p s m (As.map (gm_tv b aK)).toArray meth c b aK D dA adV sm sl sx j (gt_d j).1 → meth.locks = false → (∀ z ∈ c.exceptionTable.toList, False) → xK p l e s m (As.map (gm_tv b aK)).toArray below meth c (vx_MQ below (fun _ _ _ _ => False) (xXC b aK D dA x) (As.map (gm_tv b aK)).toArray s 1 6 (gm_A b)) b aK D dA sl sx (gt_d j).1 (0, gm_ent (gt_d j).1 As, [], h)) : xB l b aK D dA adV sm sl sx j As x h := by
  have hM : gm_mok gt_cl gG gNW gSR (gt_T false sl sx) gt_y gt_b j := gt_mok j hj hc0
  refine vx_ofW hM.1 rfl ?_
  intro p e s m args below meth c s₁ B hml hout hv
  obtain ⟨rfl, hhp, hE⟩ := hv
  have hts := atoms_spec (ws := Cond.code (gt_y j) (gt_b j) (gt_d j).1 (gt_d j).2.1 :: gG) B.pre
  have C : xC p s m (As.map (gm_tv b aK)).toArray meth c b aK D dA adV sm sl sx j (gt_d j).1 :=
    ⟨B.exec, B.bytes, hml, findClass_of_methodNamed B.named, fun w hw => hts w (List.mem_cons_of_mem _ hw), hE, xpX_ok b aK adV sm, fun z => (name_of_methodNamed B.named B.method).1.trans (of_decide_eq_true z), gG_good, Nat.le_trans (Nat.le_add_right _ _) hhp.1⟩
  exact x_entry (T := gt_T false sl sx) hlen hhp (body p e s m below meth c hM C B.notSynchronized hout)
theorem bad_field {x : gs} {E : DD} {u v : Int32} (hl0 : l.stackTraces = false) (hR : RL h x) (hq : QX x E) (hn : ¬ (fld E u ∧ 0 ≤ v ∧ v ≤ 3)) : xB l b aK D dA adV sm sl sx 80 [.ref 0, .int u, .int v] x h := by
  refine xB_of (by decide) (fun z => (by cases z)) (Nat.le_of_ble_eq_true rfl) ?_
  intro p e s m below meth c hM C hlocks hout
  have hxp : xpX b aK adV sm s := C.2.2.2.2.2.1.2.2.2.2.2.2.2.2
  have hk : ∀ pc i, gm_find gk_80 pc = some i → gm_code (gt_T false sl sx) 80 pc = some i := fun _ _ z => z
  show xK p l e s m _ below meth c _ b aK D dA sl sx 3 (0, [some (.ref 0), some (.int u), some (.int v)], [], h)
  refine x_step C hM (hk 0 _ rfl) (st' := (1, [some (.ref 0), some (.int u), some (.int v)], [.ref 0], h)) rfl ?_
  refine x_step C hM (hk 1 _ rfl) (st' := (4, [some (.ref 0), some (.int u), some (.int v)], [.ref 3], h)) (gm_gf_of (RL_fR (n := 3) hR rfl)) ?_
  refine x_step C hM (hk 4 _ rfl) (st' := (5, [some (.ref 0), some (.int u), some (.int v)], [.int u, .ref 3], h)) rfl ?_
  obtain ⟨fs2, e2⟩ := RL_o hR (r := 3) (ci := 1) rfl
  refine x_call (jj := 14) (As := [.ref 3, .int u]) (rest := []) C hM (hk 5 _ rfl) (fun _ => rfl) rfl rfl (Nat.le_of_ble_eq_true rfl) (gm_rcv_v rfl e2 rfl) ?_
  refine ge_imp (s14 (c := (false, sl, sx, gp_prim)) (d := 1190) (by decide) hq.2.1 u (Post := fun r x' => x' = x ∧ r = some (.int (bI (fld E u)))) ⟨rfl, rfl⟩ h hR) (fun r h1 hr => ?_)
  obtain ⟨x', hR1, rfl, rfl⟩ := hr
  show xK p l e s m _ below meth c _ b aK D dA sl sx 3 (8, [some (.ref 0), some (.int u), some (.int v)], [.int (bI (fld E u))], h1)
  by_cases q : fld E u
  · rw [bI_t q]
    have hv : v.toInt < 0 ∨ 3 < v.toInt := by
      have z : ¬ (0 ≤ v ∧ v ≤ 3) := fun z => hn ⟨q, z⟩
      rw [i_le, i_le] at z
      have e0 : (0 : Int32).toInt = 0 := rfl
      have e3 : (3 : Int32).toInt = 3 := rfl
      rw [e0, e3] at z
      omega
    refine x_step C hM (hk 8 _ rfl) (st' := (21, [some (.ref 0), some (.int u), some (.int v)], [], h1)) rfl ?_
    refine x_step C hM (hk 21 _ rfl) (st' := (22, [some (.ref 0), some (.int u), some (.int v)], [.int v], h1)) rfl ?_
    refine x_step C hM (hk 22 _ rfl) (st' := (107, [some (.ref 0), some (.int u), some (.int v)], [], h1)) ?_ ?_
    · show (if v.toInt < 0 ∨ 3 < v.toInt then gm_sw 22 85 [some (.ref 0), some (.int u), some (.int v)] [] h1 else _) = _
      rw [if_pos hv]
      rfl
    exact x_throw (k := 2) hl0 C rfl hR1 hout hlocks hxp.2.2.2.2.1 (by decide +kernel) (by decide +kernel) (Or.inl ⟨rfl, by decide +kernel⟩) (by decide +kernel) (by decide +kernel)
  · rw [bI_f q]
    refine x_step C hM (hk 8 _ rfl) (st' := (11, [some (.ref 0), some (.int u), some (.int v)], [], h1)) rfl ?_
    exact x_throw (k := 2) hl0 C rfl hR1 hout hlocks hxp.2.2.2.1 (by decide +kernel) (by decide +kernel) (Or.inl ⟨rfl, by decide +kernel⟩) (by decide +kernel) (by decide +kernel)
theorem bad_consul {x : gs} {u v : Int32} (hl0 : l.stackTraces = false) (hR : RL h x) (hn : ¬ ((u = 0 ∨ u = 1) ∧ 0 ≤ v ∧ v ≤ 4)) : xB l b aK D dA adV sm sl sx 81 [.ref 0, .int u, .int v] x h := by
  refine xB_of (by decide) (fun z => (by cases z)) (Nat.le_of_ble_eq_true rfl) ?_
  intro p e s m below meth c hM C hlocks hout
  have hxp : xpX b aK adV sm s := C.2.2.2.2.2.1.2.2.2.2.2.2.2.2
  have hk : ∀ pc i, gm_find gk_81 pc = some i → gm_code (gt_T false sl sx) 81 pc = some i := fun _ _ z => z
  show xK p l e s m _ below meth c _ b aK D dA sl sx 3 (0, [some (.ref 0), some (.int u), some (.int v)], [], h)
  refine x_step C hM (hk 0 _ rfl) (st' := (1, [some (.ref 0), some (.int u), some (.int v)], [.int u], h)) rfl ?_
  refine x_call (jj := 147) (As := [.int u]) (rest := []) C hM (hk 1 _ rfl) (fun _ => rfl) rfl rfl (Nat.le_of_ble_eq_true rfl) rfl ?_
  refine ge_imp (s147 (c := (false, sl, sx, gp_prim)) (d := 1190) (s := x) (by decide) u (Post := fun r x' => x' = x ∧ r = some (.int (bI (u = 0 ∨ u = 1)))) ⟨rfl, rfl⟩ h hR) (fun r h1 hr => ?_)
  obtain ⟨x', hR1, rfl, rfl⟩ := hr
  show xK p l e s m _ below meth c _ b aK D dA sl sx 3 (4, [some (.ref 0), some (.int u), some (.int v)], [.int (bI (u = 0 ∨ u = 1))], h1)
  by_cases q : u = 0 ∨ u = 1
  · rw [bI_t q]
    have hv : v.toInt < 0 ∨ 4 < v.toInt := by
      have z : ¬ (0 ≤ v ∧ v ≤ 4) := fun z => hn ⟨q, z⟩
      rw [i_le, i_le] at z
      have e0 : (0 : Int32).toInt = 0 := rfl
      have e3 : (4 : Int32).toInt = 4 := rfl
      rw [e0, e3] at z
      omega
    refine x_step C hM (hk 4 _ rfl) (st' := (17, [some (.ref 0), some (.int u), some (.int v)], [], h1)) rfl ?_
    refine x_step C hM (hk 17 _ rfl) (st' := (18, [some (.ref 0), some (.int u), some (.int v)], [.int v], h1)) rfl ?_
    refine x_step C hM (hk 18 _ rfl) (st' := (104, [some (.ref 0), some (.int u), some (.int v)], [], h1)) ?_ ?_
    · show (if v.toInt < 0 ∨ 4 < v.toInt then gm_sw 18 86 [some (.ref 0), some (.int u), some (.int v)] [] h1 else _) = _
      rw [if_pos hv]
      rfl
    exact x_throw (k := 2) hl0 C rfl hR1 hout hlocks hxp.2.2.2.2.2.2.1 (by decide +kernel) (by decide +kernel) (Or.inl ⟨rfl, by decide +kernel⟩) (by decide +kernel) (by decide +kernel)
  · rw [bI_f q]
    refine x_step C hM (hk 4 _ rfl) (st' := (7, [some (.ref 0), some (.int u), some (.int v)], [], h1)) rfl ?_
    exact x_throw (k := 2) hl0 C rfl hR1 hout hlocks hxp.2.2.2.2.2.1 (by decide +kernel) (by decide +kernel) (Or.inl ⟨rfl, by decide +kernel⟩) (by decide +kernel) (by decide +kernel)
theorem bad_row {x : gs} {E : DD} {u : Int32} (hl0 : l.stackTraces = false) (hR : RL h x) (hq : QX x E) (hn : ¬ (0 ≤ u ∧ u < nI (dm E))) : xB l b aK D dA adV sm sl sx 146 [.ref 0, .int u] x h := by
  refine xB_of (by decide) (fun z => (by cases z)) (Nat.le_of_ble_eq_true rfl) ?_
  intro p e s m below meth c hM C hlocks hout
  have hxp : xpX b aK adV sm s := C.2.2.2.2.2.1.2.2.2.2.2.2.2.2
  have hk : ∀ pc i, gm_find gk_146 pc = some i → gm_code (gt_T false sl sx) 146 pc = some i := fun _ _ z => z
  have hw : gsV x 34 1 = nI (dm E) := hq.2.2.2.2.2.2.2.2.1.2.1
  have kT : xK p l e s m ([Value.ref 0, .int u].map (gm_tv b aK)).toArray below meth c (vx_MQ below (fun _ _ _ _ => False) (xXC b aK D dA x) ([Value.ref 0, .int u].map (gm_tv b aK)).toArray s 1 6 (gm_A b)) b aK D dA sl sx 2 (27, [some (.ref 0), some (.int u)], [], h) :=
    x_throw (k := 3) hl0 C rfl hR hout hlocks hxp.2.2.2.2.2.2.2 (by decide +kernel) (by decide +kernel) (Or.inr ⟨rfl, by decide +kernel⟩) (by decide +kernel) (by decide +kernel)
  show xK p l e s m _ below meth c _ b aK D dA sl sx 2 (0, [some (.ref 0), some (.int u)], [], h)
  refine x_step C hM (hk 0 _ rfl) (st' := (1, [some (.ref 0), some (.int u)], [.int u], h)) rfl ?_
  by_cases q : u < 0
  · refine x_step C hM (hk 1 _ rfl) (st' := (27, [some (.ref 0), some (.int u)], [], h)) ?_ kT
    show (if u < 0 then gm_nx 27 [some (.ref 0), some (.int u)] [] h else gm_nx (1 + 3) [some (.ref 0), some (.int u)] [] h) = _
    rw [if_pos q]
    rfl
  · refine x_step C hM (hk 1 _ rfl) (st' := (4, [some (.ref 0), some (.int u)], [], h)) ?_ ?_
    · show (if u < 0 then gm_nx 27 [some (.ref 0), some (.int u)] [] h else gm_nx (1 + 3) [some (.ref 0), some (.int u)] [] h) = _
      rw [if_neg q]
      rfl
    refine x_step C hM (hk 4 _ rfl) (st' := (5, [some (.ref 0), some (.int u)], [.int u], h)) rfl ?_
    refine x_step C hM (hk 5 _ rfl) (st' := (6, [some (.ref 0), some (.int u)], [.ref 0, .int u], h)) rfl ?_
    refine x_step C hM (hk 6 _ rfl) (st' := (9, [some (.ref 0), some (.int u)], [.ref 34, .int u], h)) (gm_gf_of (RL_fR (n := 34) hR rfl)) ?_
    refine x_step C hM (hk 9 _ rfl) (st' := (12, [some (.ref 0), some (.int u)], [.int (nI (dm E)), .int u], h)) ((gm_gf_of (RL_fI hR rfl)).trans (by rw [hw]; rfl)) ?_
    refine x_step C hM (hk 12 _ rfl) (st' := (27, [some (.ref 0), some (.int u)], [], h)) ?_ kT
    show (if nI (dm E) ≤ u then gm_nx 27 [some (.ref 0), some (.int u)] [] h else gm_nx (12 + 3) [some (.ref 0), some (.int u)] [] h) = _
    rw [if_pos (i_nlt.mp (fun z => hn ⟨i_nlt.mp q, z⟩))]
    rfl
end BAD
