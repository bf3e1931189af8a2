/-! Calls, and one step on. -/
section GMN
variable {p : Program} {l : Launch} {e : Env} {R : Room} {s : State} {m : MethodId} {args : Array Value} {below : List Frame} {meth : Method} {c : Code} {H : Heap} {locs : List Loc} {cells slots : Nat} {Q : State → Prop}
variable {b : Nat} {aK : Nat → Nat} {D : va_G} {cl : List vw_C} {dA : Nat → ClassId} {T : gm_T} {G : List Cond} {h : gm_H} {cc : ByteArray} {pc nL : Nat} {ls : Array Slot} {L : gm_L} {S : List Value} {st : gm_S} {dc ds : Nat}
variable {NW : List (String × Nat × MethodName × String)} {SR : List (String × Nat × Nat × String)} {yn : Nat → MethodName} {bc : Nat → ByteArray} {XP : State → Prop} {own : String} {isI : Bool}
theorem gm_callW {al : Bool} {v : Option Value} {h' : gm_H} {a : Array Value} {mc ms : Nat} {rest st0 : List Value} (hr : va_Run p l e R s m args below meth c H locs cells slots mc ms (F0 m pc ls st0) rest (gm_Qc b aK D cl dA al v h' a) (gm_A b)) (hS : va_S (gm_A b) s.heap H locs)
    (kk : ∀ (H1 : Heap) (locs1 : List Loc), gm_hp b aK D cl dA al h' H1 → va_S (gm_A b) s.heap H1 locs1 → W p l e R s m args below meth c H1 locs1 (cells + mc) (slots + ms) Q (F0 m (pc + 3) ls ((v.map (gm_tv b aK)).toList ++ rest))) : W p l e R s m args below meth c H locs cells slots Q (F0 m pc ls st0) := by
  intro T hT X
  obtain ⟨v', st₀, t, T', Lc, h0, X', hL, e1, e2, ⟨hv, hq, hF⟩, stp⟩ := hr T hT X
  cases hv
  obtain ⟨hz, hk⟩ := hF
  rw [h0] at hz hk
  obtain ⟨t2, a1, b1⟩ := kk T'.heap (locs ++ Lc) (by rw [e1]; exact hq)
    ⟨Nat.le_trans hS.1 (by rw [e1]; exact hz), fun q h1 h2 => by rw [e1, hk q (Nat.lt_of_lt_of_le h1 hS.1) h2]; exact hS.2.1 q h1 h2, fun q hq => by
      rcases List.mem_append.mp hq with h | h
      · exact hS.2.2 q h
      · exact hL q h⟩ T' rfl X'
  exact ⟨t2, stp t2 a1, b1⟩
theorem gm_blind {al : Bool} (hX : gm_ok b XP) (As : List Value) (h : gm_H) : FrameBlind (gm_Pc b aK D cl dA al (gm_E b aK D cl dA NW SR T XP) As h) := fun a U g mk q => ⟨q.1, q.2.1, gm_E.call hX q.2.2 g mk a⟩
/-- what holds through a method's run -/
def gm_Cx (p : Program) (s : State) (m : MethodId) (args : Array Value) (meth : Method) (c : Code) (b : Nat) (aK : Nat → Nat) (D : va_G) (cl : List vw_C) (dA : Nat → ClassId) (T : gm_T) (G : List Cond) (NW : List (String × Nat × MethodName × String)) (SR : List (String × Nat × Nat × String)) (XP : State → Prop) (own : String) (isI : Bool) (cc : ByteArray) (nL : Nat) : Prop :=
  p.tables.exec = Jvm.exec ∧ c.code = cc ∧ c.maxLocals = nL ∧ s.vm.findClass own = some m.cls ∧ (∀ w ∈ G, w.before args s = true) ∧ gm_E b aK D cl dA NW SR T XP s ∧ gm_ok b XP ∧ (isI = true → meth.name = "<init>") ∧ (∀ w ∈ G, goodWord w = true) ∧ b ≤ s.heap.size
theorem gm_pre {al : Bool} {As : List Value} (C : gm_Cx p s m args meth c b aK D cl dA T G NW SR XP own isI cc nL) (hh : gm_hp b aK D cl dA al h H) (hS : va_S (gm_A b) s.heap H locs) : ∀ U : State, U.heap = H → s.WarmedH U.vm → gm_Pc b aK D cl dA al (gm_E b aK D cl dA NW SR T XP) As h (As.map (gm_tv b aK)).toArray U := by
  intro U hU hW
  obtain ⟨-, -, -, -, -, hE, hX, -, -, hbs⟩ := C
  exact ⟨rfl, by rw [hU]; exact hh, gm_E.move hX hE hW (fun q hq => by rw [hU]; exact hS.2.1 q (by omega) (fun z => by have : b ≤ q := z; omega)) (by rw [hU]; exact hS.1)⟩
theorem gm_goodIn {j : Nat} (hg : ∀ w ∈ G, goodWord w = true) (hm : gm_mth G T yn bc j) : GoodIn G (Cond.code (yn j) (bc j) (gm_dat T j).1 (gm_dat T j).2.1 :: G) := fun w hw => by
  rcases List.mem_cons.mp hw with rfl | h1
  · exact ⟨hm.1, good_of_word (hg _ hm.1)⟩
  · exact ⟨h1, good_of_word (hg _ h1)⟩
theorem gm_cal_W {call : Nat → List Value → gm_H → Option gm_R} {j d idx : Nat} {ig : Instr} (C : gm_Cx p s m args meth c b aK D cl dA T G NW SR XP own isI cc nL)
    (hst : gm_cal T call j (pc + 3) L S h = some (.inl (st, dc, ds))) (hl : gm_lh b aK ls nL L) (hh : gm_hp b aK D cl dA (gm_al T) h H) (hS : va_S (gm_A b) s.heap H locs) (hcells : cells + dc ≤ R.cells) (hslots : slots + ds ≤ R.slots) (hfr : d + 1 ≤ R.frames) (hlo : (d + 1) * 64 ≤ R.locals)
    (hcall : ∀ As r, call j As h = some r → gm_Met l b aK D cl dA T G yn bc (gm_E b aK D cl dA NW SR T XP) d j As h r)
    (hm : gm_mth G T yn bc j) (hdg : decode cc pc = .ok (ig, 3))
    (hkind : ((gm_dat T j).2.2.2.1 = 0 ∧ ig = .invokestatic idx ∧ Cond.methodLink own idx (yn j) ∈ G ∧ Cond.static (yn j) ∈ G)
      ∨ ((gm_dat T j).2.2.2.1 = 1 ∧ ig = .invokevirtual idx ∧ Cond.methodLink own idx (yn j) ∈ G ∧ Cond.instanceMethod (yn j) ∈ G ∧ ∃ r, cl[(gm_dat T j).2.2.2.2]? = some r ∧ Cond.selects r.1 (yn j) (yn j) ∈ G)
      ∨ ((gm_dat T j).2.2.2.1 = 3 ∧ ig = .invokevirtual idx ∧ Cond.methodLink own idx (yn j) ∈ G ∧ Cond.instanceMethod (yn j) ∈ G ∧ Cond.selects "java/lang/String" (yn j) (yn j) ∈ G)
      ∨ ((gm_dat T j).2.2.2.1 = 2 ∧ ig = .invokespecial idx ∧ Cond.instanceMethod (yn j) ∈ G ∧ (yn j).name = "<init>" ∧ (gm_dat T j).2.1 = none ∧ (Cond.methodLink own idx (yn j) ∈ G ∨ ∃ host, (own, idx, yn j, host) ∈ NW)))
    (kk : gm_K p l e R s m args below meth c Q b aK D cl dA T nL st (cells + dc) (slots + ds)) : W p l e R s m args below meth c H locs cells slots Q (F0 m pc ls (S.map (gm_tv b aK))) := by
  have C0 := C
  obtain ⟨hx, hb, hml, hown, hts, hE, hX, -, hgood, hbs⟩ := C
  unfold gm_cal at hst
  by_cases q1 : S.length < (gm_dat T j).2.2.1
  · rw [if_pos q1] at hst; cases hst
  rw [if_neg q1] at hst
  by_cases q2 : 8 < gm_cat (S.drop (gm_dat T j).2.2.1)
  · rw [if_pos q2] at hst; cases hst
  rw [if_neg q2] at hst
  by_cases q3 : gm_rcv T j h (S.take (gm_dat T j).2.2.1).reverse = true
  case neg => rw [if_neg q3] at hst; cases hst
  rw [if_pos q3] at hst
  generalize hAs : (S.take (gm_dat T j).2.2.1).reverse = As at hst q3
  have hAl : As.length = (gm_dat T j).2.2.1 := by rw [← hAs, List.length_reverse, List.length_take]; omega
  have hSt : S.map (gm_tv b aK) = (As.map (gm_tv b aK)).reverse ++ (S.drop (gm_dat T j).2.2.1).map (gm_tv b aK) := by
    rw [← hAs, List.map_reverse, List.reverse_reverse, ← List.map_append, List.take_append_drop]
  have hWr : 2 * (F0 m pc ls (S.map (gm_tv b aK))).monitorRoom + (((S.drop (gm_dat T j).2.2.1).map (gm_tv b aK)).map fun v => v.category).sum ≤ 8 := by
    have e1 : (((S.drop (gm_dat T j).2.2.1).map (gm_tv b aK)).map fun v => v.category) = (S.drop (gm_dat T j).2.2.1).map fun v => v.category := by
      rw [List.map_map]
      exact List.map_congr_left (fun v _ => gm_tv_cat b aK v)
    rw [e1]
    exact lv_room (by have := q2; unfold gm_cat at this; omega)
  cases hc : call j As h with
  | none => rw [hc] at hst; cases hst
  | some r =>
    obtain ⟨v, h', mc, ms⟩ := r
    rw [hc] at hst
    have hM := hcall As _ hc
    obtain ⟨hm1, hm2, hm3, hm4⟩ := id hm
    cases hst
    have hG := gm_goodIn (yn := yn) (bc := bc) hgood hm
    have hR : (gm_rm d (v, h', dc, ds)).frames + 1 ≤ R.frames ∧ 8 + ((gm_dat T j).1 + 11) + (gm_rm d (v, h', dc, ds)).locals ≤ R.locals := ⟨hfr, by show 8 + ((gm_dat T j).1 + 11) + d * 64 ≤ R.locals; omega⟩
    have fin : ∀ (H1 : Heap) (locs1 : List Loc), gm_hp b aK D cl dA (gm_al T) h' H1 → va_S (gm_A b) s.heap H1 locs1 → W p l e R s m args below meth c H1 locs1 (cells + dc) (slots + ds) Q (F0 m (pc + 3) ls ((v.map (gm_tv b aK)).toList ++ (S.drop (gm_dat T j).2.2.1).map (gm_tv b aK))) := by
      intro H1 locs1 hh1 hS1
      have := kk ls H1 locs1 hl hh1 hS1
      have e1 : ((v.toList ++ S.drop (gm_dat T j).2.2.1).map (gm_tv b aK)) = (v.map (gm_tv b aK)).toList ++ (S.drop (gm_dat T j).2.2.1).map (gm_tv b aK) := by
        rw [List.map_append]
        cases v <;> rfl
      have this' : W p l e R s m args below meth c H1 locs1 (cells + dc) (slots + ds) Q (F0 m (pc + 3) ls ((v.toList ++ S.drop (gm_dat T j).2.2.1).map (gm_tv b aK))) := this
      rw [e1] at this'
      exact this'
    rcases hkind with ⟨k0, rfl, k1, k2⟩ | ⟨k0, rfl, k1, k2, r9, k3, k4⟩ | ⟨k0, rfl, k1, k2, k3⟩ | ⟨k0, rfl, k1, k2, k3, k4⟩
    · have hn : (As.map (gm_tv b aK)).length = (gm_dat T j).2.2.1 - (if (gm_dat T j).2.2.2.1 = 0 then 0 else 1) := by rw [List.length_map, hAl, if_pos k0]; rfl
      exact gm_callW (va_runS (As := As.map (gm_tv b aK)) (rest := (S.drop (gm_dat T j).2.2.1).map (gm_tv b aK)) ⟨hx, hb, hml, hown, hts⟩ hM ⟨callB_of _ hts hG rfl rfl rfl (hts _ hm2) (hts _ k1) hm3 hR, hts _ k2⟩ ⟨gm_blind hX As h, gm_pre C0 hh hS⟩ rfl hn hl.1 hSt hWr hdg ⟨hcells, hslots⟩) hS fin
    · unfold gm_rcv at q3
      rw [k0] at q3
      rcases As with _ | ⟨v0, As⟩
      · cases q3
      cases v0 with
      | ref a =>
        have q3' : (match gm_get h a with
          | some (.inr (ci, _)) => Nat.beq ci (gm_dat T j).2.2.2.2
          | _ => false) = true := q3
        cases hg : gm_get h a with
        | none => rw [hg] at q3'; cases q3'
        | some cel =>
          rcases cel with ar | ⟨ci, fs⟩
          · rw [hg] at q3'; cases q3'
          rw [hg] at q3'
          have hci : ci = (gm_dat T j).2.2.2.2 := Nat.eq_of_beq_eq_true q3'
          subst hci
          have hn : (As.map (gm_tv b aK)).length = (gm_dat T j).2.2.1 - (if (gm_dat T j).2.2.2.1 = 0 then 0 else 1) := by
            have : As.length + 1 = (gm_dat T j).2.2.1 := hAl
            rw [List.length_map, if_neg (by rw [k0]; decide)]; omega
          have hSt2 : S.map (gm_tv b aK) = (As.map (gm_tv b aK)).reverse ++ .ref (b + a) :: (S.drop (gm_dat T j).2.2.1).map (gm_tv b aK) := by
            rw [hSt, List.map_cons, List.reverse_cons, List.append_assoc]
            rfl
          exact gm_callW (va_runV (C := r9.1) (b := b + a) (As := As.map (gm_tv b aK)) (rest := (S.drop (gm_dat T j).2.2.1).map (gm_tv b aK)) ⟨hx, hb, hml, hown, hts⟩ hM ⟨callB_of _ hts hG rfl rfl rfl (hts _ hm2) (hts _ k1) hm3 hR, hts _ k2, hts _ k4⟩ ⟨gm_blind hX _ h, va_recv hE.1 hh.2.2 k3 (gm_w_get hg), gm_pre (As := .ref a :: As) C0 hh hS⟩ rfl hn hl.1 hSt2 hWr hdg ⟨hcells, hslots⟩) hS fin
      | _ => cases q3
    · unfold gm_rcv at q3
      rw [k0] at q3
      rcases As with _ | ⟨v0, As⟩
      · cases q3
      cases v0 with
      | float k =>
        have q3' : decide (k < 99) = true := q3
        have hk : k.toNat < 99 := by
          have := of_decide_eq_true q3'
          exact this
        obtain ⟨-, -, -, -, -, -, -, hstr, -⟩ := hE
        obtain ⟨cell, c1, c2, c3, c4⟩ := hstr k.toNat hk
        have hn : (As.map (gm_tv b aK)).length = (gm_dat T j).2.2.1 - (if (gm_dat T j).2.2.2.1 = 0 then 0 else 1) := by
          have : As.length + 1 = (gm_dat T j).2.2.1 := hAl
          rw [List.length_map, if_neg (by rw [k0]; decide)]; omega
        have hSt2 : S.map (gm_tv b aK) = (As.map (gm_tv b aK)).reverse ++ .ref (aK k.toNat) :: (S.drop (gm_dat T j).2.2.1).map (gm_tv b aK) := by
          rw [hSt, List.map_cons, List.reverse_cons, List.append_assoc]
          rfl
        exact gm_callW (va_runV (C := "java/lang/String") (b := aK k.toNat) (As := As.map (gm_tv b aK)) (rest := (S.drop (gm_dat T j).2.2.1).map (gm_tv b aK)) ⟨hx, hb, hml, hown, hts⟩ hM ⟨callB_of _ hts hG rfl rfl rfl (hts _ hm2) (hts _ k1) hm3 hR, hts _ k2, hts _ k3⟩ ⟨gm_blind hX _ h, ⟨cell, by rw [hS.2.1 _ (by omega) (fun z => by have : b ≤ aK k.toNat := z; omega)]; exact c1, c2, c3⟩, gm_pre (As := .float k :: As) C0 hh hS⟩ rfl hn hl.1 hSt2 hWr hdg ⟨hcells, hslots⟩) hS fin
      | _ => cases q3
    · unfold gm_rcv at q3
      rw [k0] at q3
      rcases As with _ | ⟨v0, As⟩
      · cases q3
      cases v0 with
      | ref a =>
        have hn : (As.map (gm_tv b aK)).length = (gm_dat T j).2.2.1 - (if (gm_dat T j).2.2.2.1 = 0 then 0 else 1) := by
          have : As.length + 1 = (gm_dat T j).2.2.1 := hAl
          rw [List.length_map, if_neg (by rw [k0]; decide)]; omega
        have hSt2 : S.map (gm_tv b aK) = (As.map (gm_tv b aK)).reverse ++ .ref (b + a) :: (S.drop (gm_dat T j).2.2.1).map (gm_tv b aK) := by
          rw [hSt, List.map_cons, List.reverse_cons, List.append_assoc]
          rfl
        have hw : (Cond.code (yn j) (bc j) (gm_dat T j).1 (gm_dat T j).2.1 :: G) = Cond.code (yn j) (bc j) (gm_dat T j).1 none :: G := by rw [k3]
        rcases k4 with k4 | ⟨host, k4⟩
        · exact gm_callW (va_runI (b := b + a) (As := As.map (gm_tv b aK)) (rest := (S.drop (gm_dat T j).2.2.1).map (gm_tv b aK)) ⟨hx, hb, hml, hown, hts⟩ hM ⟨callB_of _ hts hG hw rfl rfl (hts _ hm2) (hts _ k4) hm3 hR, k2, hts _ k1⟩ ⟨gm_blind hX _ h, gm_pre (As := .ref a :: As) C0 hh hS⟩ rfl hn hl.1 hSt2 hWr hdg ⟨hcells, hslots⟩) hS fin
        · exact gm_callW (va_runIN (host := host) (b := b + a) (As := As.map (gm_tv b aK)) (rest := (S.drop (gm_dat T j).2.2.1).map (gm_tv b aK)) ⟨hx, hb, hml, hown, hts⟩ hM ⟨va_cnB _ hts hG hw rfl rfl (hE.2.1 _ k4) (hts _ hm2) hm3 hR, k2, hts _ k1⟩ ⟨gm_blind hX _ h, gm_pre (As := .ref a :: As) C0 hh hS⟩ rfl hn hl.1 hSt2 hWr hdg ⟨hcells, hslots⟩) hS fin
      | _ => cases q3
end GMN
