/-! THE CLAIM OUT OF ONE WALK OF THE LAW'S BODY. Your part is whole_start (and what it stands on); all else here is the same for every law, but numbers. -/
def R_law : String := "CommandByTurnsLaw"
def lw_P (b : Addr) (xs : List Int32) (args : Array Value) (s : State) : Prop := args = #[.ref b] ∧ s.IntsAt b xs ∧ xs.length ≤ 2560 ∧ (Jvm.Cond.and given_1 narrow_1).before args s = true
def lw_Q (_ : Array Value) (s : State) (o : Outcome) (t : State) : Prop := o = .returned (some (.int 1)) ∧ Framed s o t [] 601024 7293034
def lw_Z (below : List Frame) (a : Array Value) (s : State) : State → Prop := fun t => ∃ o, t.status = .running ∧ Ended t below o ∧ lw_Q a s o t
/-- the law's own end, with 1 on the stack, nothing written that was there before, its room as the claim has it -/
theorem lw_ret {p : Program} {l : Launch} {e : Env} {s : State} {m : MethodId} {below : List Frame} {meth : Method} {c : Code} {b : Nat} (hx : p.tables.exec = Jvm.exec) (hb : c.code = code) (hr : meth.sig.returnType = ret) (hlocks : meth.locks = false) {pc : Nat} {H : Heap} {ls : Array Slot} (hdg : decode code pc = .ok (.ireturn, 1)) : W p l e room_1 s m #[Value.ref b] below meth c H [] 601024 7293034 (lw_Z below #[Value.ref b] s) (F0 m pc ls [.int 1]) := by
  intro T hT X
  obtain ⟨fs, hret, hrun, hended, hW, hframe⟩ := X.leave (v := some (.int 1)) (hlocks := hlocks) (fun h => by rw [hr] at h; cases h)
  have hmeth' : T.vm.method? m = some meth := X.method'
  refine ⟨T.setFrames fs, ?_, .returned (some (.int 1)), hrun, hended, rfl, ⟨_, rfl⟩, hW, hframe⟩
  jvm_step X.here [X.here.top, hx, hb, hdg, hmeth', hr, ret, narrow_b1]
  (try refine ⟨rfl, ?_⟩); (try refine ⟨rfl, ?_⟩)
  first | (intro acts; rw [hret _ acts rfl rfl rfl]) | rw [hret _ _ rfl rfl rfl]
  exact Steps.refl _
/-- what holds at the law's entry: the machine, the code, the tables' words (any of lw_tbl by 'hts w (by decide +kernel)'), the script of L ints xs at the cell b, what the Statement gives of the start (any of its parts by flat_of_before) -/
def lw_At (p : Program) (s : State) (m : MethodId) (meth : Method) (c : Code) (b L : Nat) (xs : Nat → Int32) : Prop :=
  p.tables.exec = Jvm.exec ∧ c.code = code ∧ meth.sig.returnType = ret ∧ c.maxLocals = 8 ∧ s.vm.findClass R_law = some m.cls ∧ (∀ w ∈ lw_tbl, w.before #[Value.ref b] s = true) ∧ va_X b L xs s s.heap ∧ b < s.heap.size ∧ meth.locks = false ∧ (Jvm.Cond.and given_1 narrow_1).before #[Value.ref b] s = true
theorem lw_begin {p : Program} {e : Env} {s : State} {m : MethodId} {below : List Frame} {meth : Method} {c : Code} (l : Launch) {b0 L : Nat} {xs : Nat → Int32} (hL : L ≤ 2560) (C0 : lw_At p s m meth c b0 L xs) {aK : Nat → Nat} {D : va_G} {dA : Nat → ClassId} {XP : State → Prop} (h99 : aK 99 = b0) (hE : gm_E s.heap.size aK D gt_cl dA gNW gSR (gt_T true L xs) XP s) (hX : gm_ok s.heap.size XP)
    (hP1 : lwP l s.heap.size aK D dA XP true L xs) (hP0 : lwP l s.heap.size aK D dA XP false L xs) (hW : lwC p s m #[Value.ref b0] meth c s.heap.size aK D dA XP false L xs → lwW p l e s m #[Value.ref b0] below meth c (lw_Z below #[Value.ref b0] s) s.heap.size aK D dA L xs) : W p l e room_1 s m #[Value.ref b0] below meth c s.heap [] 0 0 (lw_Z below #[Value.ref b0] s) (entryFrame m ([Value.ref b0] : List Value).toArray 8) := by
  obtain ⟨hx, hb, hr, hml, hown, hts, hXX, hbl, hlocks, hgv⟩ := id C0
  have hG : ∀ w ∈ gG, w.before #[Value.ref b0] s = true := fun w hw => hts w (List.mem_filter.mp hw).1
  have C1 : lwC p s m #[Value.ref b0] meth c s.heap.size aK D dA XP true L xs := ⟨hx, hb, hml, hown, hG, hE, hX, fun z => (by cases z), gG_good, Nat.le_refl _⟩
  have C2 : lwC p s m #[Value.ref b0] meth c s.heap.size aK D dA XP false L xs := ⟨hx, hb, hml, hown, hG, hE, hX, fun z => (by cases z), gG_good, Nat.le_refl _⟩
  obtain ⟨h, kc, ks, hst, h74, hkc, hks, hsh, hdat⟩ := gSt_ex
  have fin : ∀ (x : gs) (k kc ks : Nat), kc ≤ 601024 → ks ≤ 7293034 → lwS p l e s m #[Value.ref b0] below meth c (lw_Z below #[Value.ref b0] s) s.heap.size aK D dA L xs x 1603 (gLi k) [.int 1] kc ks := by
    intro x k kc ks hk hs h hR ls H locs hl hh hS
    refine va_forget (fun q hq => hS.2.2 q hq) ?_
    refine W.widen (k := 601024) (n := 7293034) hk hs ?_
    exact lw_ret hx hb hr hlocks (show decode code 1603 = .ok (.ireturn, 1) by decide +kernel)
  have hloop := lw_loop C2 hP0 (hW C2) hL fin L 0 kc ks (sOf h) (by omega) (by omega) (start_OK hsh hdat) (by omega) (by omega)
  have k23 : lwK p l e s m #[Value.ref b0] below meth c (lw_Z below #[Value.ref b0] s) s.heap.size aK D dA true L xs (23, gL1, [], h) kc ks := fun ls H locs hl hh hS => hloop _ (RL_sOf h) ls H locs hl (hp_sOf h74 hsh hh) hS
  have k0 := (lk_stsN C1 hP1 (n0 := 600) (d0 := 60) (by decide) 13 (0, gL0, [], gH0) _ 0 0 kc ks hst (by omega) (by omega) k23).1
  have hl := lv_entry ([.ref b0]) (n := 8) (Nat.le_of_ble_eq_true rfl)
  rw [lg_entry_eq]
  generalize (lg_sl ([.ref b0]) ++ List.replicate (8 - (lg_sl ([.ref b0])).length) Slot.unset).toArray = ls at hl ⊢
  have hl : lv_has ls 8 [(0, .ref b0)] := hl
  refine k0 ls s.heap [] ⟨hl.1, hl.2.1, rfl, fun k v hk => ?_⟩ ⟨Nat.le_refl _, fun _ => rfl, fun k q hk => (by cases hk)⟩ va_S.rf
  have hk8 : k < 8 := (List.getElem?_eq_some_iff.mp hk).1
  have e8 : k = 0 ∨ k = 1 ∨ k = 2 ∨ k = 3 ∨ k = 4 ∨ k = 5 ∨ k = 6 ∨ k = 7 := by omega
  rcases e8 with rfl | rfl | rfl | rfl | rfl | rfl | rfl | rfl
  · have e1 : v = .float 99 := by cases hk; rfl
    rw [e1]
    show ls[0]? = some (.val (.ref (aK 99)))
    rw [h99]
    exact hl.2.2 (0, .ref b0) List.mem_cons_self
  all_goals cases hk
