/-! The start, and the claim. -/
def flG : List Cond := flatC (Jvm.Cond.and given_1 narrow_1)
def zT : Nat → Term
  | 0 => .string "CommandByTurns$Formula" 44
  | _ => .string "CommandByTurns$Formula" 51
def xT : Nat → Term
  | 0 => .string "CommandByTurns" 157
  | 1 => .string "CommandByTurns" 170
  | 2 => .string "CommandByTurns" 172
  | 3 => .string "CommandByTurns" 189
  | _ => .string "CommandByTurns" 439
theorem st_ex : ∀ i, i < 2 → Cond.exactly (zT i) "java/lang/String" ∈ flG := by decide +kernel
theorem st_co : ∀ i, i < 2 → Cond.eq (.field (zT i) "java/lang/String" "coder" "B") (.int 0) ∈ flG := by decide +kernel
theorem st_ar : ∀ i, i < 2 → Cond.arrayOf (.field (zT i) "java/lang/String" "value" "[B") .byte ∈ flG := by decide +kernel
theorem st_le : ∀ i, i < 2 → Cond.eq (.length (.field (zT i) "java/lang/String" "value" "[B")) (.int (Int32.ofNat (zL.getD i 0))) ∈ flG := by decide +kernel
theorem st_el : ∀ i, i < 2 → ∀ j, j < zL.getD i 0 → Cond.eq (.elem (.field (zT i) "java/lang/String" "value" "[B") (.int (Int32.ofNat j))) (.int ((zB.getD i []).getD j 0)) ∈ flG := by decide +kernel
theorem st_ne : Cond.not (Cond.eq (zT 1) (zT 0)) ∈ flG := by decide +kernel
theorem st_xx : ∀ i, i < 5 → Cond.exactly (xT i) "java/lang/String" ∈ flG := by decide +kernel
theorem st_87 : Cond.exactly (.string "CommandByTurns" 87) "java/lang/String" ∈ flG ∧ Cond.eq (zT 0) (.string "CommandByTurns" 87) ∈ flG := by decide +kernel
theorem st_st : Cond.eq (.static "java/lang/String" "COMPACT_STRINGS" "Z") (.int 1) ∈ flG ∧ Cond.isRef (.static "jdk/internal/util/Preconditions" "SIOOBE_FORMATTER" "Ljava/util/function/BiFunction;") ∈ flG ∧ Cond.isRef (.static Bundle.tN "UNASSIGNED_STACK" Bundle.steD) ∈ flG ∧ Cond.isRef (.static Bundle.tN "SUPPRESSED_SENTINEL" Bundle.listD) ∈ flG := by decide +kernel
theorem st_sr : ∀ q ∈ gS, Cond.stringRef (gt_own.getD q.1 "") q.2.1 (gt_str.getD q.2.2.1 "") ∈ lw_tbl := by decide +kernel
theorem st_nw : ∀ q ∈ gNt, Cond.methodLinkNest (gt_own.getD q.1 "") q.2.1 (gt_y q.2.2.1) "CommandByTurns" ∈ lw_tbl := by decide +kernel
theorem eq_ref {args : Array Value} {s : State} {t u : Term} {a b : Nat} (h : (Cond.eq t u).before args s = true) (h1 : t.eval args s none [] s = some (.ref a)) (h2 : u.eval args s none [] s = some (.ref b)) : a = b := by
  simp [Cond.before, Cond.holds, Cond.value, h1, h2] at h
  exact h
theorem ex_eval {args : Array Value} {s : State} {t : Term} (h : (Cond.exactly t "java/lang/String").before args s = true) : ∃ a : Nat, t.eval args s none [] s = some (.ref a) := by
  obtain ⟨a, c, cA, kA, q1, -⟩ := Cond.exactly_spec (args := args) (first := s) (o := none) (s := s) (idx := []) (t := t) (cls := "java/lang/String") h
  exact ⟨a, q1⟩
theorem lw_flags {l : Launch} (h : l.flags = flags0) : l.stackTraces = false := by
  unfold Launch.stackTraces
  rw [h]
  decide
theorem whole_start {p : Program} {e : Env} {s : State} {m : MethodId} {below : List Frame} {meth : Method} {c : Code} (l : Launch) (hl0 : l.stackTraces = false) {b L : Nat} {xs : Nat → Int32} (hL : L ≤ 2560) (C0 : lw_At p s m meth c b L xs) : W p l e room_1 s m #[Value.ref b] below meth c s.heap [] 0 0 (lw_Z below #[Value.ref b] s) (entryFrame m ([Value.ref b] : List Value).toArray 8) := by
  obtain ⟨hx, hb, hr, hml, hown, hts, hXX, hbl, hlocks, hgv⟩ := id C0
  have hfl : ∀ w ∈ flG, w.before #[Value.ref b] s = true := flat_of_before _ hgv
  have hA : ∀ a : Nat, a < s.heap.size → ¬ gm_A s.heap.size a := fun a ha => Nat.not_le.mpr ha
  obtain ⟨D, dA, hK⟩ := st_K hts
  obtain ⟨adK, adV, hSt, hev⟩ := vk_Sof (args := #[Value.ref b]) (s := s) (N := 2) (tm := zT) (len := zL) (byt := zB) (A := gm_A s.heap.size) (by decide) (fun i hi => hfl _ (st_ex i hi)) (fun i hi => hfl _ (st_co i hi)) (fun i hi => hfl _ (st_ar i hi)) (fun i hi => hfl _ (st_le i hi)) (fun i hi j hj => hfl _ (st_el i hi j hj))
    (fun i j hi hj hij => by
      have : (i = 1 ∧ j = 0) ∨ (i = 0 ∧ j = 1) := by omega
      rcases this with ⟨rfl, rfl⟩ | ⟨rfl, rfl⟩
      · exact Or.inl (hfl _ st_ne)
      · exact Or.inr (hfl _ st_ne)) hA
  obtain ⟨a87, h87⟩ := ex_eval (hfl _ st_87.1)
  have e87 : adK 0 = a87 := eq_ref (hfl _ st_87.2) (hev 0 (by decide)) h87
  have hxm : ∀ i : Nat, ∃ a : Nat, i < 5 → (xT i).eval #[Value.ref b] s none [] s = some (.ref a) := by
    intro i
    by_cases hi : i < 5
    · obtain ⟨a, ha⟩ := ex_eval (hfl _ (st_xx i hi))
      exact ⟨a, fun _ => ha⟩
    · exact ⟨0, fun z => absurd z hi⟩
  obtain ⟨sm, hsm⟩ := Classical.axiomOfChoice hxm
  obtain ⟨aK, haK⟩ : ∃ aK : Nat → Nat, aK = fun k => if k = 99 then b else if k = 0 then adK 0 else adK 1 := ⟨_, rfl⟩
  have k0 : aK 0 = adK 0 := by rw [haK]; rfl
  have k1 : aK 1 = adK 1 := by rw [haK]; rfl
  have k99 : aK 99 = b := by rw [haK]; rfl
  have hSt' : vk_S 2 zL zB aK adV (gm_A s.heap.size) s s.heap := by
    refine ⟨fun i hi => ?_, fun i j hi hj he => ?_⟩
    · have : i = 0 ∨ i = 1 := by omega
      rcases this with rfl | rfl
      · rw [k0]; exact hSt.1 0 (by decide)
      · rw [k1]; exact hSt.1 1 (by decide)
    · have hi' : i = 0 ∨ i = 1 := by omega
      have hj' : j = 0 ∨ j = 1 := by omega
      refine hSt.2 i j hi hj ?_
      rcases hi' with rfl | rfl <;> rcases hj' with rfl | rfl <;> simpa [k0, k1] using he
  have hz : zS (gm_A s.heap.size) aK adV s := by
    refine ⟨hSt', va_Zof (hts _ (sW_in (k := 17) rfl)) (hts _ (sW_in (k := 18) rfl)) (va_eqt (hfl _ st_st.1)) hA, ?_⟩
    rcases va_Zqof (hts _ (sW_in (k := 19) rfl)) (hts _ (sW_in (k := 20) rfl)) (hfl _ st_st.2.1) hA with h | ⟨t, h⟩
    · exact ⟨.null, Or.inl rfl, h⟩
    · exact ⟨.ref t, Or.inr ⟨t, rfl⟩, h⟩
  have hX : xpX s.heap.size aK adV sm s := by
    refine ⟨hz, ⟨va_Nw.of rfl (hts _ (sW_in (k := 24) rfl)), va_Nw.of rfl (hts _ (sW_in (k := 25) rfl)), va_Nw.of rfl (hts _ (sW_in (k := 26) rfl)), va_Nw.of rfl (hts _ (sW_in (k := 27) rfl))⟩, ⟨vx_Zqof (hts _ (sW_in (k := 21) rfl)) (hts _ (sW_in (k := 23) rfl)) (hfl _ st_st.2.2.1) hA, vx_Zqof (hts _ (sW_in (k := 22) rfl)) (hts _ (sW_in (k := 23) rfl)) (hfl _ st_st.2.2.2) hA⟩,
      vk_R.of (hts _ (sW_in (k := 28) rfl)) (hsm 0 (by decide)), vk_R.of (hts _ (sW_in (k := 29) rfl)) (hsm 1 (by decide)), vk_R.of (hts _ (sW_in (k := 30) rfl)) (hsm 2 (by decide)), vk_R.of (hts _ (sW_in (k := 31) rfl)) (hsm 3 (by decide)), vk_R.of (hts _ (sW_in (k := 32) rfl)) (hsm 4 (by decide))⟩
  have hE : gm_E s.heap.size aK D gt_cl dA gNW gSR (gt_T true L xs) (xpX s.heap.size aK adV sm) s := by
    refine ⟨hK, fun q hq => ?_, va_AO.of (hts _ (sW_in (k := 16) rfl)), fun q hq => ?_, by rw [k99]; exact hXX, by rw [k99]; exact hbl, by rw [k99]; exact hbl, fun k hk => ?_, hX⟩
    · obtain ⟨q0, hq0, rfl⟩ := List.mem_map.mp hq
      exact va_Nw.of rfl (hts _ (st_nw q0 hq0))
    · obtain ⟨q0, hq0, rfl⟩ := List.mem_map.mp hq
      have h1 := st_sr q0 hq0
      have e3 : q0 = (0, 44, 0, 1, 147) ∨ q0 = (0, 51, 1, 1, 79) ∨ q0 = (9, 87, 0, 2, 149) := by
        rcases List.mem_cons.mp hq0 with h | h
        · exact Or.inl h
        · rcases List.mem_cons.mp h with h | h
          · exact Or.inr (Or.inl h)
          · rcases List.mem_cons.mp h with h | h
            · exact Or.inr (Or.inr h)
            · cases h
      rcases e3 with rfl | rfl | rfl
      · exact vk_R.of (hts _ h1) (by rw [show aK (0, 44, 0, 1, 147).2.2.1 = adK 0 from k0]; exact hev 0 (by decide))
      · exact vk_R.of (hts _ h1) (by rw [show aK (0, 51, 1, 1, 79).2.2.1 = adK 1 from k1]; exact hev 1 (by decide))
      · exact vk_R.of (hts _ h1) (by rw [show aK (9, 87, 0, 2, 149).2.2.1 = a87 from k0.trans e87]; exact h87)
    · have e2 : ∃ i, i < 2 ∧ aK k = adK i := by
        rw [haK]
        by_cases z : k = 0
        · exact ⟨0, by decide, by subst z; rfl⟩
        · refine ⟨1, by decide, ?_⟩
          show (if k = 99 then b else if k = 0 then adK 0 else adK 1) = adK 1
          rw [if_neg (by omega), if_neg z]
      obtain ⟨i, hi, hki⟩ := e2
      obtain ⟨cell, g1, g2, g3, -⟩ := (hSt.1 i hi).1
      exact ⟨cell, by rw [hki]; exact g1, g2, g3, by rw [hki]; exact (Array.getElem?_eq_some_iff.mp g1).1⟩
  exact lw_begin l hL C0 k99 hE (xpX_ok s.heap.size aK adV sm) (lwP_ok xpX_z) (lwP_ok xpX_z) (fun C => lwW_ok hl0 C)
set_option maxHeartbeats 4000000 in
theorem lw_walk (l : Launch) (hl0 : l.stackTraces = false) (b : Addr) (xs : List Int32) : MetFree l x (headSpec (Jvm.Cond.code x code maxLocals ret :: tables_1) room_1) (lw_P b xs) (fun _ _ _ _ _ => True) lw_Q := by
  refine MetFree.of_bodyS (code := code) (maxLocals := maxLocals) (ret := ret) (by decide) ?_ ?_
  · intro args s m h hn
    obtain ⟨meth, c, h1, h2, h3, h4, h5, h6, -, -⟩ := Cond.code_spec hn (atoms_spec (ws := Jvm.Cond.code x code maxLocals ret :: tables_1) h _ List.mem_cons_self)
    exact ⟨meth, c, h1, h2, h3, h4, h5, h6⟩
  · intro p e s m args below meth c s₁ B hml0 hP _
    obtain ⟨rfl, hx, hbd, hgv⟩ := hP
    obtain ⟨scr, harrAt, hlist, hof, hsmall⟩ := hx
    obtain ⟨hcb, hkn, -, -⟩ := State.arrayAt?_spec harrAt
    have hown : s.vm.findClass R_law = some m.cls := findClass_of_methodNamed B.named
    have hts0 : ∀ c ∈ (Jvm.Cond.code x code maxLocals ret :: tables_1), c.before #[Value.ref b] s = true := atoms_spec (ws := Jvm.Cond.code x code maxLocals ret :: tables_1) B.pre
    have hts : ∀ w ∈ lw_tbl, w.before #[Value.ref b] s = true := k2_hts_sels lw_privs (fun w hw => hts0 w (List.mem_cons_of_mem _ hw)) lw_privs_ok
    have hml : c.maxLocals = 8 := B.maxLocals_eq (hts0 _ List.mem_cons_self)
    have X₀ : Stand p l e room_1 s m #[Value.ref b] below meth c s₁ [] 0 0 := Stand.of_body B
    have hh0 : s₁.heap = s.heap := by rw [B.state]; rfl
    have hsz : scr.slots.size = xs.length := by rw [← Array.length_toList, hlist, List.length_map]
    have hval : ∀ j : Nat, j < xs.length → scr.slots[j]? = some (.int (xs.getD j 0)) := fun j hj => by
      rw [← Array.getElem?_toList, hlist]
      simp [hj]
    have hbl : b < s.heap.size := (Array.getElem?_eq_some_iff.mp hcb).1
    have hX : va_X b xs.length (fun j => xs.getD j 0) s s.heap := ⟨scr, hcb, hof, hkn, hsz, hval⟩
    have K : W p l e room_1 s m #[Value.ref b] below meth c s₁.heap [] 0 0 (lw_Z below #[Value.ref b] s) (entryFrame m ([Value.ref b] : List Value).toArray 8) := by
      rw [hh0]
      exact whole_start l hl0 hbd ⟨B.exec, B.bytes, B.returns, hml, hown, hts, hX, hbl, B.notSynchronized, hgv⟩
    obtain ⟨t, a1, o, b1, b2, b3⟩ := K s₁ rfl X₀
    exact ⟨t, o, a1, b1, b2, b3⟩
theorem lw_pre_spec {args : Array Value} {s : State} (h : (Jvm.Cond.and given_1 narrow_1).before args s = true) (hr : rest_1_c.before args s = true) : ∃ (b : Addr) (xs : List Int32), lw_P b xs args s := by
  have hs := flat_of_before _ h
  have hq := flat_of_before _ hr
  have hc : (Cond.count 1).before args s = true := hs _ (by decide +kernel)
  have harr : (Cond.arrayOf (.arg 0) .int).before args s = true := hs _ (by decide +kernel)
  have hle : (Cond.le (.length (.arg 0)) (.int 2560)).before args s = true := hs _ (by decide +kernel)
  have hlen : (Cond.isInt (.length (.arg 0))).before args s = true := hq _ (by decide +kernel)
  have hall : (Cond.all (.arg 0) (.isInt (.elem (.arg 0) (.index 0)))).before args s = true := hq _ (by decide +kernel)
  obtain ⟨b, xs, hb, hx⟩ := State.ints_of_pre rfl harr hlen hall
  have hsm : xs.length < 2 ^ 31 := hx.choose_spec.2.2.2
  have hev : (Term.length (.arg 0)).eval args s none [] s = some (.int xs.length.toInt32) := hx.length_eval hb
  have hv := Cond.le_ints hev (show (Term.int 2560).eval args s none [] s = some (.int 2560) from rfl)
  have hd : xs.length.toInt32 ≤ 2560 := by
    simpa [Cond.before, Cond.holds, hv] using hle
  have hN : xs.length ≤ 2560 := (Int32.ofNat_le_ofNat hsm (by decide)).mp (show Int32.ofNat xs.length ≤ Int32.ofNat 2560 from hd)
  exact ⟨b, xs, Cond.one_arg hc (show args[0]? = some (.ref b) from hb), hx, hN, h⟩
theorem lw_comes (l : Launch) (hl0 : l.stackTraces = false) : Comes l x (Jvm.Cond.code x code maxLocals ret :: tables_1) room_1 (fun tb e args s => Calls_1 tb e args s ∧ rest_1 tb e args s ∧ Pre_1 tb e args s)
    (fun _ _ args s o t => lw_Q args s o t) := by
  intro p e ha hc hk s m args below hf hfit hheap happ hpre
  obtain ⟨b, xs, hP⟩ := lw_pre_spec hpre.2.2 hpre.2.1
  obtain ⟨k, o, h1, h2, h3, hQ⟩ := lw_walk l hl0 b xs p e ha hc hk s m args below hf ((Spec.applies_iff_loose hf).mp happ).1 hP trivial
  exact ⟨k, o, h1, h2, h3, hQ⟩
theorem lw_frame {s t : State} {o : Outcome} {args : Array Value} (h : Framed s o t [] 601024 7293034) :
    Framed s o t (fieldLocs frame_1_writes args s ++ arrayLocs frame_1_arrays args s ++ staticLocs frame_1_statics s) 601024 7293034 := h
theorem lw_limb (L : Cond) (hL : ∀ (args : Array Value) (s t : State), L.after args s (.returned (some (.int 1))) t = true) :
    ArmFor flags0 classFile x code maxLocals ret World_1 tables_1 room_1 Calls_1 rest_1 Pre_1
      (fun tb e a s o t => postC L tb e a s o t ∧ Framed s o t (fieldLocs frame_1_writes a s ++ arrayLocs frame_1_arrays a s ++ staticLocs frame_1_statics s) 601024 7293034) := by
  intro l hfl _ _ p e ha hc hk s m args below hf hfit hheap happ hpre
  obtain ⟨k, o, h1, h2, h3, rfl, hF⟩ := lw_comes l (lw_flags hfl) p e ha hc hk s m args below hf hfit hheap happ hpre
  exact ⟨k, _, h1, h2, h3, hL args s _, lw_frame hF⟩
theorem i_vc : Claimed_1_1 ∧ Claimed_1_2 := ⟨lw_limb limb_1_1 (fun args s t => by simp [limb_1_1, Cond.after, Cond.holds, Cond.value]), lw_limb limb_1_2 (fun args s t => Cond.after_iff.mpr (by
  first | (rw [show limb_1_2 = Cond.eq .result (.int 1) from rfl, Cond.eq_ints (x := 1) (y := 1) rfl rfl]; simp; done) | (simp [limb_1_2, Cond.value, Term.eval]; done)))⟩
