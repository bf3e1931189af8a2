/-! .. where nothing is thrown; the law's calls of them. -/
section WRAP
variable {p : Program} {l : Launch} {e : Env} {R : Room} {s : State} {m : MethodId} {args : Array Value} {below : List Frame} {meth : Method} {c : Code} {Q : State → Prop}
variable {b : Nat} {aK adV sm : Nat → Nat} {D : va_G} {dA : Nat → ClassId} {sl : Nat} {sx : Nat → Int32} {pc nL j idx kc ks mc ms : Nat} {L : gm_L} {S : List Value} {h : gm_H} {st st' : gm_S} {cc : ByteArray} {x : gs}
theorem w_call {As0 rest0 : List Value} (C : wC p s m args meth c b aK D dA adV sm sl sx cc nL) (ht : ((xW2 j idx).all fun w => lw_tbl.contains w && goodWord w) = true)
    (hnm : (gt_y j).cls = "CommandByTurns" ∧ (gt_y j).cls ≠ "java/lang/invoke/MethodHandle" ∧ (gt_y j).cls ≠ "java/lang/invoke/VarHandle" ∧ (parseMethodDescriptor (gt_y j).desc).map (fun d => d.parameters.length) = some As0.length) (hmx : (gt_d j).1 ≤ 3) (hkd : (gt_d j).2.2.2.1 = 1) (hcl : (gt_d j).2.2.2.2 = 9) (hn : (gt_d j).2.2.1 = As0.length + 1) (hR : RL h x)
    (hc : gm_cat rest0 ≤ 8) (hdg : decode cc pc = .ok (.invokevirtual idx, 3))
    (kk : tE (false, sl, sx, gp_prim) 1190 j (.ref 0 :: As0) x (fun v x' => ∀ h', RL h' x' → wK p l e mc ms s m args below meth c Q b aK D dA sl sx nL (pc + 3, L, v.toList ++ rest0, h'))) : wK p l e mc ms s m args below meth c Q b aK D dA sl sx nL (pc, L, As0.reverse ++ .ref 0 :: rest0, h) := by
  obtain ⟨n, v, h1, he, x', hR', hp⟩ := kk h hR
  obtain ⟨fs, hg⟩ := RL_o hR (r := 0) (ci := 9) rfl
  have hS : As0.reverse ++ .ref 0 :: rest0 = (Value.ref 0 :: As0).reverse ++ rest0 := by rw [List.reverse_cons, List.append_assoc]; rfl
  have hst : gm_stp (gt_T false sl sx) (gm_ev (gt_T false sl sx) gp_prim n 1190) 900 (.invokevirtual idx, j, 0) pc L (As0.reverse ++ .ref 0 :: rest0) h = some (.inl ((pc + 3, L, v.toList ++ rest0, h1), 0, 0)) := by
    show (if (gt_d j).2.2.2.1 = 1 ∨ (gt_d j).2.2.2.1 = 3 then gm_cal (gt_T false sl sx) (gm_ev (gt_T false sl sx) gp_prim n 1190) j (pc + 3) L (As0.reverse ++ .ref 0 :: rest0) h else none) = _
    rw [if_pos (Or.inl hkd), hS]
    unfold gm_cal
    have hl' : (gm_dat (gt_T false sl sx) j).2.2.1 = (Value.ref 0 :: As0).length := hn
    have e1 : (((Value.ref 0 :: As0).reverse ++ rest0).take (gm_dat (gt_T false sl sx) j).2.2.1).reverse = Value.ref 0 :: As0 := by
      rw [hl', ← List.length_reverse, List.take_left, List.reverse_reverse]
    have e2 : ((Value.ref 0 :: As0).reverse ++ rest0).drop (gm_dat (gt_T false sl sx) j).2.2.1 = rest0 := by
      rw [hl', ← List.length_reverse, List.drop_left]
    have e3 : ¬ ((Value.ref 0 :: As0).reverse ++ rest0).length < (gm_dat (gt_T false sl sx) j).2.2.1 := by
      rw [hl', List.length_append, List.length_reverse]
      omega
    have hr : gm_rcv (gt_T false sl sx) j h (Value.ref 0 :: As0) = true := by
      unfold gm_rcv
      rw [show (gm_dat (gt_T false sl sx) j).2.2.2.1 = 1 from hkd]
      show (match gm_get h 0 with
        | some (.inr (ci, _)) => Nat.beq ci (gt_d j).2.2.2.2
        | _ => false) = true
      rw [hg, hcl]
      rfl
    rw [if_neg e3, e2, if_neg (by omega), e1, if_pos hr, he]
  have hE := C.2.2.2.2.2.1
  have hini : Cond.initialized (gt_y j).cls ∈ gG := by rw [hnm.1]; exact xW2_in (k := 3) ht rfl
  have hlk : gm_lk gt_cl gG gNW gSR (gt_T false sl sx) gt_y gt_b "CommandByTurnsLaw" false pc (.invokevirtual idx, j, 0) := by
    refine ⟨⟨xW2_in (k := 4) ht rfl, hini, ⟨hnm.2.1, hnm.2.2.1, ?_⟩, ?_⟩, xW2_in (k := 0) ht rfl, xW2_in (k := 1) ht rfl, fun _ => ⟨("CommandByTurns", gt_TT 9, 17), ?_, xW2_in (k := 2) ht rfl⟩, fun z => ?_⟩
    · show (parseMethodDescriptor (gt_y j).desc).map (fun d => d.parameters.length) = some ((gt_d j).2.2.1 - (if (gt_d j).2.2.2.1 = 0 then 0 else 1))
      rw [hkd, hn, hnm.2.2.2]
      rfl
    · show (gt_d j).1 ≤ 45
      omega
    · show gt_cl[(gt_d j).2.2.2.2]? = some _
      rw [hcl]
      rfl
    · have z' : (gt_d j).2.2.2.1 = 3 := z
      rw [hkd] at z'
      cases z'
  exact fun ls H locs hl hh hS9 => gm_next (d := 1190) (i := (.invokevirtual idx, j, 0)) C (show gm_dc cc pc (.invokevirtual idx) from hdg) hlk hst hl hh hS9 (Nat.zero_le _) (Nat.zero_le _) (show 1190 + 1 ≤ 1199 by decide) (show (1190 + 1) * 64 ≤ 1199 * 64 by decide) (fun j As r hr => lwP_sound (xpX_ok b aK adV sm) (lwP_ok xpX_z) hr) (hp h1 hR')
theorem last_ok {v : Int64} {L : gm_L} {r : List Value} (hR : RL h x) : gm_last pc L (.long v :: .int 0 :: .ref 73 :: r) h = gm_nx pc L r (gm_put h 73 (.inl (2, 1, .inr (.inl (vp_updL (gsR x 73) 0 v))))) := by
  show (match gm_get h 73 with
    | some (.inl (t', n, .inr (.inl f))) => if t' = 2 then (if (0 : Int32) < 0 ∨ n ≤ (0 : Int32).toNatClampNeg then none else gm_nx pc L r (gm_put h 73 (.inl (t', n, .inr (.inl (vp_updL f (0 : Int32).toNatClampNeg v)))))) else none
    | _ => none) = _
  rw [RL_aJ hR (a := 73) (n := 1) rfl]
  rfl
theorem wg2 {y : MethodName} {u v w : Int32} (hpl : plainName y.cls = true) (hy : y.cls = "CommandByTurnsLaw") (hd : w2D cc idx) (hR : RL h x) (ht : ((xW2 j idx).all fun w => lw_tbl.contains w && goodWord w) = true)
    (hnm : (gt_y j).cls = "CommandByTurns" ∧ (gt_y j).cls ≠ "java/lang/invoke/MethodHandle" ∧ (gt_y j).cls ≠ "java/lang/invoke/VarHandle" ∧ (parseMethodDescriptor (gt_y j).desc).map (fun d => d.parameters.length) = some 2) (hmx : (gt_d j).1 ≤ 3) (hkd : (gt_d j).2.2.2.1 = 1) (hcl : (gt_d j).2.2.2.2 = 9) (hn : (gt_d j).2.2.1 = 3)
    (hG : ∀ Post : Option Value → gs → Prop, Post (some (.int w)) x → tE (false, sl, sx, gp_prim) 1190 j [.ref 0, .int u, .int v] x Post) : wM l b aK D dA adV sm sl sx y cc 5 wfH 0 0 [.ref 0, .int u, .int v, .ref 73] h 0 (gs_R x 73 0 w.toInt64) := by
  refine wM_of hpl hy (Nat.le_of_ble_eq_true rfl) ?_
  intro p e s m below meth c C hr hlocks htab
  obtain ⟨⟨d0, d1, d2, d3, d4⟩, d5, -, d8, d9, d10, d17, d18⟩ := hd
  have hx := C.1
  have hb := C.2.1
  show wK p l e 0 0 s m _ below meth c _ b aK D dA sl sx 5 (0, [some (.ref 0), some (.int u), some (.int v), some (.ref 73), none], [], h)
  refine w_step (.aload_n 3, 0, 0) C d0 trivial (st' := (1, [some (.ref 0), some (.int u), some (.int v), some (.ref 73), none], [.ref 73], h)) rfl ?_
  refine w_step (.iconst 0, 0, 0) C d1 trivial (st' := (2, [some (.ref 0), some (.int u), some (.int v), some (.ref 73), none], [.int 0, .ref 73], h)) rfl ?_
  refine w_step (.aload_n 0, 0, 0) C d2 trivial (st' := (3, [some (.ref 0), some (.int u), some (.int v), some (.ref 73), none], [.ref 0, .int 0, .ref 73], h)) rfl ?_
  refine w_step (.iload_n 1, 0, 0) C d3 trivial (st' := (4, [some (.ref 0), some (.int u), some (.int v), some (.ref 73), none], [.int u, .ref 0, .int 0, .ref 73], h)) rfl ?_
  refine w_step (.iload_n 2, 0, 0) C d4 trivial (st' := (5, [some (.ref 0), some (.int u), some (.int v), some (.ref 73), none], [.int v, .int u, .ref 0, .int 0, .ref 73], h)) rfl ?_
  refine w_call (As0 := [.int u, .int v]) (rest0 := [.int 0, .ref 73]) C ht hnm hmx hkd hcl hn hR (Nat.le_of_ble_eq_true rfl) d5 (hG _ (fun h1 hR1 => ?_))
  show wK p l e 0 0 s m _ below meth c _ b aK D dA sl sx 5 (8, [some (.ref 0), some (.int u), some (.int v), some (.ref 73), none], [.int w, .int 0, .ref 73], h1)
  refine w_step (.i2l, 0, 0) C d8 trivial (st' := (9, [some (.ref 0), some (.int u), some (.int v), some (.ref 73), none], [.long w.toInt64, .int 0, .ref 73], h1)) rfl ?_
  refine w_step (.lastore, 0, 0) C d9 trivial (last_ok hR1) ?_
  have hR2 := RL_pR (x := w.toInt64) (k := 0) hR1 (a := 73) (n := 1) rfl
  refine w_step (.goto 7, 17, 0) C d10 (show ((10 : Nat) : Int) + 7 = ((17 : Nat) : Int) by decide) (st' := (17, [some (.ref 0), some (.int u), some (.int v), some (.ref 73), none], [], _)) rfl ?_
  refine w_step (.iconst 0, 0, 0) C d17 trivial (st' := (18, [some (.ref 0), some (.int u), some (.int v), some (.ref 73), none], [.int 0], _)) rfl ?_
  intro ls H locs hl hh hS
  exact vx_ret (W.iret hx hb hr (fun t ht _ => ⟨rfl, fun h9 hR9 => by rw [ht]; exact RL_hp hR2 hR9 hh, hS.F ht⟩) hS.2.2 d18 hlocks)
theorem wg1 {y : MethodName} {u : Int32} {w : Int64} (hpl : plainName y.cls = true) (hy : y.cls = "CommandByTurnsLaw") (hd : w1D cc idx) (hR : RL h x) (ht : ((xW2 j idx).all fun w => lw_tbl.contains w && goodWord w) = true)
    (hnm : (gt_y j).cls = "CommandByTurns" ∧ (gt_y j).cls ≠ "java/lang/invoke/MethodHandle" ∧ (gt_y j).cls ≠ "java/lang/invoke/VarHandle" ∧ (parseMethodDescriptor (gt_y j).desc).map (fun d => d.parameters.length) = some 1) (hmx : (gt_d j).1 ≤ 3) (hkd : (gt_d j).2.2.2.1 = 1) (hcl : (gt_d j).2.2.2.2 = 9) (hn : (gt_d j).2.2.1 = 2)
    (hG : ∀ Post : Option Value → gs → Prop, Post (some (.long w)) x → tE (false, sl, sx, gp_prim) 1190 j [.ref 0, .int u] x Post) : wM l b aK D dA adV sm sl sx y cc 4 wrH 0 0 [.ref 0, .int u, .ref 73] h 0 (gs_R x 73 0 w) := by
  refine wM_of hpl hy (Nat.le_of_ble_eq_true rfl) ?_
  intro p e s m below meth c C hr hlocks htab
  obtain ⟨⟨d0, d1, d2, d3⟩, d4, -, d7, d8, d14, d15⟩ := hd
  have hx := C.1
  have hb := C.2.1
  show wK p l e 0 0 s m _ below meth c _ b aK D dA sl sx 4 (0, [some (.ref 0), some (.int u), some (.ref 73), none], [], h)
  refine w_step (.aload_n 2, 0, 0) C d0 trivial (st' := (1, [some (.ref 0), some (.int u), some (.ref 73), none], [.ref 73], h)) rfl ?_
  refine w_step (.iconst 0, 0, 0) C d1 trivial (st' := (2, [some (.ref 0), some (.int u), some (.ref 73), none], [.int 0, .ref 73], h)) rfl ?_
  refine w_step (.aload_n 0, 0, 0) C d2 trivial (st' := (3, [some (.ref 0), some (.int u), some (.ref 73), none], [.ref 0, .int 0, .ref 73], h)) rfl ?_
  refine w_step (.iload_n 1, 0, 0) C d3 trivial (st' := (4, [some (.ref 0), some (.int u), some (.ref 73), none], [.int u, .ref 0, .int 0, .ref 73], h)) rfl ?_
  refine w_call (As0 := [.int u]) (rest0 := [.int 0, .ref 73]) C ht hnm hmx hkd hcl hn hR (Nat.le_of_ble_eq_true rfl) d4 (hG _ (fun h1 hR1 => ?_))
  show wK p l e 0 0 s m _ below meth c _ b aK D dA sl sx 4 (7, [some (.ref 0), some (.int u), some (.ref 73), none], [.long w, .int 0, .ref 73], h1)
  refine w_step (.lastore, 0, 0) C d7 trivial (last_ok hR1) ?_
  have hR2 := RL_pR (x := w) (k := 0) hR1 (a := 73) (n := 1) rfl
  refine w_step (.goto 6, 14, 0) C d8 (show ((8 : Nat) : Int) + 6 = ((14 : Nat) : Int) by decide) (st' := (14, [some (.ref 0), some (.int u), some (.ref 73), none], [], _)) rfl ?_
  refine w_step (.iconst 0, 0, 0) C d14 trivial (st' := (15, [some (.ref 0), some (.int u), some (.ref 73), none], [.int 0], _)) rfl ?_
  intro ls H locs hl hh hS
  exact vx_ret (W.iret hx hb hr (fun t ht _ => ⟨rfl, fun h9 hR9 => by rw [ht]; exact RL_hp hR2 hR9 hh, hS.F ht⟩) hS.2.2 d15 hlocks)
/-- the law's call of such a method -/
theorem law_call {y : MethodName} {hh9 : List (Nat × Nat × Nat × Nat)} {As : List Value} {t : Int32} {x' : gs} (C : lwC p s m args meth c b aK D dA (xpX b aK adV sm) false sl sx) (hM : wM l b aK D dA adV sm sl sx y cc nL hh9 mc ms As h t x') (hnL : nL ≤ 5) (hy : y.cls = "CommandByTurnsLaw") (h1 : Cond.methodLink "CommandByTurnsLaw" idx y ∈ gG) (h2 : Cond.static y ∈ gG) (h4 : Cond.codeWith y cc nL (some .int) hh9 ∈ gG)
    (hds : y.cls ≠ "java/lang/invoke/MethodHandle" ∧ y.cls ≠ "java/lang/invoke/VarHandle" ∧ (parseMethodDescriptor y.desc).map (fun d => d.parameters.length) = some As.length) (hk : kc + mc ≤ 601024) (hs : ks + ms ≤ 7293034) (hdg : decode code pc = .ok (.invokestatic idx, 3))
    (kk : lwS p l e s m args below meth c Q b aK D dA sl sx x' (pc + 3) L [.int t] (kc + mc) (ks + ms)) : lwK p l e s m args below meth c Q b aK D dA false sl sx (pc, L, As.reverse, h) kc ks := by
  intro ls H locs hl hh hS9
  have C0 := C
  obtain ⟨hx, hb, hml, hown, hts, hE, hX, -, hgood, hbs⟩ := C
  have hini : Cond.initialized y.cls ∈ gG := by rw [hy]; exact xW_in (k := 2) rfl
  have hG : GoodIn gG (va_wsS "CommandByTurnsLaw" idx y (Cond.codeWith y cc nL (some .int) hh9 :: gG)) := by
    intro w hw
    have : w ∈ gG := by
      unfold va_wsS at hw
      rcases List.mem_append.mp hw with h | h
      · rcases List.mem_cons.mp h with rfl | h
        · exact h1
        · rcases List.mem_cons.mp h with rfl | h
          · exact h2
          · rcases List.mem_cons.mp h with rfl | h
            · exact hini
            · cases h
      · rcases List.mem_cons.mp h with rfl | h
        · exact h4
        · exact h
    exact ⟨this, good_of_word (gG_good _ this)⟩
  have hSt : As.reverse.map (gm_tv b aK) = (As.map (gm_tv b aK)).reverse ++ [] := by rw [List.append_nil, List.map_reverse]
  have hr := vx_runSX (e := e) (below := below) (meth := meth) (H := H) (locs := locs) (cells := kc) (slots := ks) (R := room_1) (As := As.map (gm_tv b aK)) (rest := []) (g := F0 m pc ls (As.reverse.map (gm_tv b aK))) ⟨hx, hb, hml, hown, hts⟩ hM
    (vx_cwSW As.length hts hG rfl rfl rfl hds ⟨show 1199 + 1 ≤ 2048 by decide, show 8 + (nL + 11) + 1199 * 64 ≤ 84000 by omega⟩) ⟨gm_blind hX _ h, gm_pre (As := As) C0 hh hS9⟩ rfl (List.length_map _) hl.1 hSt (lv_room (by decide)) hdg ⟨hk, hs⟩
  intro T hT X
  rcases hr T hT X with ⟨v, st₀, u, T', Lc, h0, X', hL, e1, e2, ⟨hv, hq, hF⟩, stp⟩ | ⟨q, st₀, u, T', Lc, E, ce, h0, X', hL, e1, e2, hq, hce, hcv, hcl, stp⟩
  · cases hv
    obtain ⟨k1, k2, k3⟩ := vx_keep h0 e1 hS9 (fun _ _ z => z) (fun _ z => z) hL hF
    have hR9 : RL (74, gs_cell x') x' := ⟨rfl, fun _ _ => rfl⟩
    obtain ⟨t2, a1, b1⟩ := kk (74, gs_cell x') hR9 ls T'.heap (locs ++ Lc) hl (by rw [e1]; exact hq _ hR9) k3 T' rfl X'
    exact ⟨t2, stp t2 a1, b1⟩
  · exact hq.elim
end WRAP
