/-! 'throw new NoSuchElementException(text)'. The library's own law for such a throw (Stand.ctorThrowS, which vx_throwS stands on) asks that each constructor of the chain finds the one above at 7; this class's finds it at 13. So: the same, with the first link by PassC.ofS_atoms at 13; of the cell only what is needed here. -/
theorem nse_0 : decode prog_27_method_4_code 0 = .ok (.aload_n 0, 1) := by decide +kernel
theorem nse_1 : decode prog_27_method_4_code 1 = .ok (.aload_n 1, 1) := by decide +kernel
theorem nse_2 : decode prog_27_method_4_code 2 = .ok (.invokespecial 13, 3) := by decide +kernel
theorem nse_5 : decode prog_27_method_4_code 5 = .ok (.return_, 1) := by decide +kernel
section NSE
variable {p : Program} {l : Launch} {e : Env} {R : Room} {s : State} {m : MethodId} {args : Array Value} {below : List Frame} {meth : Method} {c : Code} {T0 : State} {locs : List Loc} {cells slots : Nat}
set_option maxHeartbeats 1000000 in
theorem nse_ctor (X : Stand p l e R s m args below meth c T0 locs cells slots) (hexec : p.tables.exec = Jvm.exec) (htr : e.platform.stackTraces = false) {own : String} {ic : Nat} (hown : s.vm.findClass own = some m.cls) (h : ∀ w ∈ nseA own ic, w.before args s = true)
    (hlocs : ∀ x ∈ locs, ∀ cell, s.heap[x.base]? = some cell → cell.vm.isStatics = false) {a : Addr} {cX : ClassId} {kX : Class} (hfX : s.vm.findClass nseE = some cX) (hkX : s.vm.classes[cX]? = some kX) (hcell : T0.heap[a]? = some (freshCell cX kX)) (hnew : s.heap.size ≤ a) {msg : Value} (hmsg : msg.isRef = true)
    {g : JFrame} (hg : g.method = m) (hsize : g.locals.size = c.maxLocals) (hlocked : g.locked = none) (hentered : g.entered = []) {rest : List Value} (hstack : g.stack = msg :: .ref a :: .ref a :: rest) (hd6 : decode c.code g.pc = .ok (.invokespecial ic, 3)) (hd9 : decode c.code (g.pc + 3) = .ok (.athrow, 1)) (hout : ∀ x ∈ c.exceptionTable.toList, covers x (g.pc + 3) = false)
    (hRf : 5 < R.frames) (hRl : 2 * g.monitorRoom + ((Value.ref a :: rest).map fun v => v.category).sum + 81 ≤ R.locals) (hlocks : meth.locks = false) :
    ∃ U : State, Steps p.tables e below (T0.setTop g) U ∧ U.status = .running ∧ Ended U below (.threw a) ∧ s.WarmedH U.vm ∧ s.sameButNew ({ U with vm := s.vm } : State) locs cells slots ∧ ∃ ce, U.heap[a]? = some ce ∧ ce.vm = .none ∧ s.vm.findClass nseE = some ce.cls := by
  have hmon : e.platform.frameOwnsMonitors = true := by rw [X.admits.platform]
  have hfin : e.platform.finalization = false := by rw [X.admits.platform]
  have hpl : e.platform.magicAccessors = ({} : Platform).magicAccessors := by rw [X.admits.platform]
  have q : ∀ w, w ∈ nseA own ic → w.holds args s none s [] = true := fun w hw => h w hw
  obtain ⟨T, Z0, L, -, Y⟩ := ThrowableC.of_atoms (args := args) hmon hfin hpl (fun w hw => h w (by simp [nseA, hw]))
  obtain ⟨Z, M, LZ, LM, hnZ⟩ := Init0T.ofS_atoms (args := args) hpl L Y (fun w hw => h w (by simp [nseA, hw]))
  obtain ⟨P2, Ps, hlen, L2, hL2, hP2m, hsup2, hpass2⟩ := Bundle.chainS (args := args) hpl hnZ ["java/lang/Exception"] "java/lang/RuntimeException" (by decide +kernel) (by decide +kernel) (fun w hw => h w (by simp [nseA, hw]))
  obtain ⟨P1, L1, hP1m, hP1s⟩ := PassC.ofS_atoms (args := args) (s := s) hpl (X := nseE) (Y := "java/lang/RuntimeException") (by decide +kernel) (by decide) nse_0 nse_1 nse_2 nse_5 (fun w hw => h w (by simp [nseA, hw]))
  have hP12 : P1.sup = P2.m := Option.some.inj (hP1s.symm.trans hP2m)
  have hfound : s.vm.findClass nseE = some P1.m.cls := findClass_of_methodNamed hP1m
  cases Option.some.inj (hfX.symm.trans hfound)
  obtain ⟨c1, kX', hc1, hk, hord, -, -, hn6⟩ := Cond.instantiable_spec (q (.instantiable nseE 6) (by simp [nseA]))
  cases Option.some.inj (hc1.symm.trans hfound)
  cases Option.some.inj (hkX.symm.trans hk)
  have hsel0 : selectMethod e.platform s.vm P1.m.cls T.fill0 = .method T.fill0 := by
    obtain ⟨c2, r2, m2, q1, q2, q3, q4, -⟩ := Cond.selects_spec (q (.selects nseE Bundle.tFill0 Bundle.tFill0) (by simp [nseA]))
    cases Option.some.inj (q1.symm.trans hfound)
    cases Option.some.inj (q2.symm.trans (State.methodFound?_of_named Y.fill0 (by decide)))
    cases Option.some.inj (q3.symm.trans Y.fill0)
    rw [Launch.admits_selectMethod X.admits]; exact q4
  have hselF : selectMethod e.platform s.vm P1.m.cls T.fill = .method T.fill := by
    obtain ⟨c2, r2, m2, q1, q2, q3, q4, -⟩ := Cond.selects_spec (q (.selects nseE Bundle.tFill Bundle.tFill) (by simp [nseA]))
    cases Option.some.inj (q1.symm.trans hfound)
    cases Option.some.inj (q2.symm.trans (State.methodFound?_of_named Y.fill (by decide)))
    cases Option.some.inj (q3.symm.trans Y.fill)
    rw [Launch.admits_selectMethod X.admits]; exact q4
  obtain ⟨sc, hsc, hss⟩ := Y.statics
  obtain ⟨u0, hu0⟩ := Cond.staticRefV Y.unassigned L.unassignedStatic L.statics hsc hss (q (.isRef (.static Bundle.tN "UNASSIGNED_STACK" Bundle.steD)) (by simp [nseA]))
  obtain ⟨v0, hv0⟩ := Cond.staticRefV Y.sentinel L.sentinelStatic L.statics hsc hss (q (.isRef (.static Bundle.tN "SUPPRESSED_SENTINEL" Bundle.listD)) (by simp [nseA]))
  obtain ⟨ciB, iB, fB, kB, gB, aB, sB, -, nB, tB, ffB⟩ := Cond.ownField (t := .object "java/lang/Object") Y.found L.cls (by decide +kernel) (q (.fieldLink Bundle.tN 198 Bundle.tN "backtrace" "Ljava/lang/Object;") (by simp [nseA])) (q (.lays Bundle.tN Bundle.tN "backtrace" "Ljava/lang/Object;") (by simp [nseA])) e.platform hpl
  obtain ⟨sc', hsc', hse, -, hkeep⟩ := X.same.2.2.2.2.2 T.aS sc hsc
  have hscT : T0.heap[T.aS]? = some sc' := hsc'
  have hfree : ∀ i, (⟨T.aS, i⟩ : Loc) ∉ locs := fun i hm => by
    have := hlocs _ hm sc hsc
    rw [hss] at this; cases this
  have hknown : sc'.vm ≠ .unknown := by
    rw [hse]; intro hu
    rw [show sc.vm = .unknown from hu] at hss
    cases hss
  have hne : T.aS ≠ a := Nat.ne_of_lt (Nat.lt_of_lt_of_le (Array.getElem?_eq_some_iff.mp hsc).1 hnew)
  obtain ⟨iM, ffM⟩ := Y.msg
  obtain ⟨tyC, dC, hdC, hnC⟩ := Cond.laysAt hfound hk Y.cause (q (.lays nseE Bundle.tN "cause" "Ljava/lang/Throwable;") (by simp [nseA]))
  obtain ⟨tyS, dS, hdS, hnS⟩ := Cond.laysAt hfound hk Y.stack (q (.lays nseE Bundle.tN "stackTrace" Bundle.steD) (by simp [nseA]))
  obtain ⟨tyP, dP, hdP, hnP⟩ := Cond.laysAt hfound hk Y.supp (q (.lays nseE Bundle.tN "suppressedExceptions" Bundle.listD) (by simp [nseA]))
  obtain ⟨tyM, dM, hdM, hnM⟩ := Cond.laysAt hfound hk ffM (q (.lays nseE Bundle.tN "detailMessage" "Ljava/lang/String;") (by simp [nseA]))
  obtain ⟨tyB, dB, hdB, hnB⟩ := Cond.laysAt hfound hk ffB (q (.lays nseE Bundle.tN "backtrace" "Ljava/lang/Object;") (by simp [nseA]))
  have bC := Cond.laysApart hdB hdC hnB hnC (by rw [nB, Y.causeName]; decide)
  have bS := Cond.laysApart hdB hdS hnB hnS (by rw [nB, Y.stackName]; decide)
  have bP := Cond.laysApart hdB hdP hnB hnP (by rw [nB, Y.suppName]; decide)
  have hskip : SkipFacts T e.platform s (fun u => u) u0 ((preparedCellV T.toThrowableT (freshCell P1.m.cls kX) a u0 v0).withEntry T0.cur) :=
    ⟨{ ci198 := ciB, i198 := iB, fBack := fB }, ⟨kB, gB, aB, sB⟩, by
      have := fresh_default (c := P1.m.cls) tyB
      rw [tB] at this
      simpa [preparedCellV, Cell.setSlot, Cell.withEntry, Array.getElem?_setIfInBounds, bC, bS, bP, bC.symm, bS.symm, bP.symm, defaultValue] using this, fun _ _ => rfl⟩
  obtain ⟨tm, methC, cdC, kC, vm₁, hnm, -, -, -, -, -, -, -, hW₁, st1⟩ := Steps.initColdS (tb := p.tables) (e := e) (below := below) (s := s) (U := T0) X.here hexec X.warmed hpl hown (t := Bundle.initS nseE) rfl rfl (by decide)
    (q (.methodLink own ic (Bundle.initS nseE)) (by simp [nseA])) (h (.instanceMethod (Bundle.initS nseE)) (by simp [nseA, Bundle.passSAtoms])) (bytes := prog_27_method_4_code) (maxL := 2) (h (.code (Bundle.initS nseE) prog_27_method_4_code 2 none) (by simp [nseA, Bundle.passSAtoms]))
    (f := g) hg (a := a) (msg := msg) (rest := .ref a :: rest) hstack hd6
  cases Option.some.inj (hnm.symm.trans hP1m)
  have X₁ := X.noted hW₁
  have hlen1 : Ps.length = 1 := hlen
  obtain ⟨vm₂, X₂, st2⟩ := X₁.ctorMessageOffV hexec (g := { g with stack := .ref a :: rest }) hg hsize T L Z LZ M LM (P1 :: P2 :: Ps)
    (fun P hP => by
      rcases List.mem_cons.mp hP with rfl | hP
      · exact L1
      · rcases List.mem_cons.mp hP with rfl | hP
        · exact L2
        · exact hL2 P hP) ⟨hP12, hsup2, hpass2⟩ (u0 := u0) (sen := v0) (self := a) hmsg (cell := freshCell P1.m.cls kX) (cellS := sc')
    hcell (fun _ => by simp) (by simp) rfl rfl hsel0 hselF hscT hne hknown (by rw [hkeep _ (hfree _)]; exact hu0) (by rw [hkeep _ (hfree _)]; exact hv0)
    (Takes.of_laid hk hord tyC (by rw [Y.causeType]; rfl)) (Takes.of_laid hk hord tyS (by rw [Y.stackType]; exact fits_refV_array _ u0)) (Takes.of_laid hk hord tyP (by rw [Y.suppType]; exact fits_refV_object _ v0))
    (Takes.of_laid hk hord tyM (by rw [Y.msgType]; exact fits_refV_object _ ⟨msg, hmsg⟩)) Y.objLocals hskip htr [] hd6
    (by simp only [List.length_cons, hlen1]; omega) (by simp only [List.length_cons, hlen1]; exact hRl)
  obtain ⟨hwalk, hrun, hended, hWU, hsame⟩ := X₂.athrowLeaves hexec (g := { g with stack := .ref a :: rest, pc := g.pc + 3 }) hg hlocked hentered hout (a := a) (rest := rest) rfl hd9
  have hlt : a < ((T0.setVm vm₁).setVm vm₂).heap.size := (Array.getElem?_eq_some_iff.mp hcell).1
  have hU := heapAt_setCell_self (s := (T0.setVm vm₁).setVm vm₂) (plainBareV T.toThrowableT (freshCell P1.m.cls kX) a u0 v0 msg) hlt
  refine ⟨_, st1 _ (fun acts => ?_), hrun, hended, hWU, hsame.weaken (fun y hy hlt' => ?_) (Nat.le_refl _) (Nat.le_refl _), _, hU, rfl, hfound⟩
  · rw [doInvoke_state]
    exact st2 _ hwalk
  · rcases List.mem_append.mp hy with h1 | h1
    · exact h1
    · exfalso
      have hb : y.base = a := by
        simp only [List.mem_cons, List.not_mem_nil, or_false] at h1
        rcases h1 with rfl | rfl | rfl | rfl | rfl <;> rfl
      rw [hb] at hlt'
      exact Nat.not_lt.mpr hnew hlt'
end NSE
