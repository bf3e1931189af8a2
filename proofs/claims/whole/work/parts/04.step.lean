/-! One instruction of the small machine is one of the real one. -/
def gm_len : Instr → Nat
  | .bipush _ => 2
  | .sipush _ => 3
  | .ldc _ => 2
  | .ldc_w _ => 3
  | .ldc2_w _ => 3
  | .iload _ => 2
  | .lload _ => 2
  | .aload _ => 2
  | .istore _ => 2
  | .lstore _ => 2
  | .astore _ => 2
  | .iinc _ _ => 3
  | .goto _ => 3
  | .if_icmp _ _ => 3
  | .ifCond _ _ => 3
  | .getfield _ => 3
  | .putfield _ => 3
  | .new _ => 3
  | .anewarray _ => 3
  | .newarray _ => 2
  | .invokestatic _ => 3
  | .invokevirtual _ => 3
  | .invokespecial _ => 3
  | _ => 1
/-- the bytes say this instruction -/
def gm_dc (cc : ByteArray) (pc : Nat) (ig : Instr) : Prop := match ig with
  | .tableswitch d lo hi o => ∃ len, decode cc pc = .ok (.tableswitch d lo hi o, len)
  | .lookupswitch d ps => (∃ len, decode cc pc = .ok (.lookupswitch d ps, len)) ∧ (ps.toList.zip (ps.toList.drop 1)).all (fun (a, next) => a.1 < next.1) = true
  | ig => decode cc pc = .ok (ig, gm_len ig)
/-- a method that is called: its words -/
def gm_mth (G : List Cond) (T : gm_T) (yn : Nat → MethodName) (bc : Nat → ByteArray) (j : Nat) : Prop :=
  Cond.code (yn j) (bc j) (gm_dat T j).1 (gm_dat T j).2.1 ∈ G ∧ Cond.initialized (yn j).cls ∈ G ∧ ((yn j).cls ≠ "java/lang/invoke/MethodHandle" ∧ (yn j).cls ≠ "java/lang/invoke/VarHandle" ∧ (parseMethodDescriptor (yn j).desc).map (fun d => d.parameters.length) = some ((gm_dat T j).2.2.1 - (if (gm_dat T j).2.2.2.1 = 0 then 0 else 1))) ∧ (gm_dat T j).1 ≤ 45
/-- Math's own -/
def gm_mw (G : List Cond) (yn : Nat → MethodName) (k j : Nat) : Prop :=
  (k = 5 → yn j = Lib.Math.max.name ∧ Cond.initialized "java/lang/Math" ∈ G ∧ Cond.code Lib.Math.max.name Lib.Math.max.code 2 (some .int) ∈ G) ∧
  (k = 6 → yn j = Lib.Math.min.name ∧ Cond.initialized "java/lang/Math" ∈ G ∧ Cond.code Lib.Math.min.name Lib.Math.min.code 2 (some .int) ∈ G) ∧
  (k = 7 → yn j = Lib.Math.abs.name ∧ Cond.initialized "java/lang/Math" ∈ G ∧ Cond.code Lib.Math.abs.name Lib.Math.abs.code 1 (some .int) ∈ G) ∧
  (k = 8 → yn j = Lib.MathLoose.max_long.x ∧ Cond.initialized "java/lang/Math" ∈ G ∧ Cond.code Lib.MathLoose.max_long.x Lib.MathLoose.max_long.code 4 (some .long) ∈ G)
/-- what the tables must say for an instruction -/
def gm_lk (cl : List vw_C) (G : List Cond) (NW : List (String × Nat × MethodName × String)) (SR : List (String × Nat × Nat × String)) (T : gm_T) (yn : Nat → MethodName) (bc : Nat → ByteArray) (own : String) (isI : Bool) (pc : Nat) (i : gm_I) : Prop := match i.1 with
  | .ldc idx => (i.2.2 = 0 → Cond.constant own idx (Int32.ofNat i.2.1) ∈ G) ∧ (i.2.2 = 2 → i.2.1 < 99 ∧ ∃ tx, (own, idx, i.2.1, tx) ∈ SR)
  | .ldc_w idx => Cond.constant own idx (Int32.ofNat i.2.1) ∈ G
  | .ldc2_w idx => Cond.constantLong own idx (Int64.ofNat i.2.1) ∈ G
  | .goto off => (pc : Int) + off = (i.2.1 : Int)
  | .if_icmp _ off => (pc : Int) + off = (i.2.1 : Int)
  | .ifCond _ off => (pc : Int) + off = (i.2.1 : Int)
  | .getfield idx => ∃ C TT N, gm_cls cl G T i.2.1 C TT N ∧ i.2.2 < N ∧ Cond.fieldLink own idx (TT i.2.2).1 (TT i.2.2).2.1 (TT i.2.2).2.2.1 ∈ G
  | .putfield idx => ∃ C TT N, gm_cls cl G T i.2.1 C TT N ∧ i.2.2 < N ∧ Cond.fieldLink own idx (TT i.2.2).1 (TT i.2.2).2.1 (TT i.2.2).2.2.1 ∈ G ∧ ((TT i.2.2).2.2.2 = false ∨ ((TT i.2.2).2.2.2 = true ∧ isI = true ∧ (TT i.2.2).1 = own))
  | .new idx => ∃ C TT N, gm_cls cl G T i.2.1 C TT N ∧ Cond.classLink own idx C ∈ G ∧ Cond.instantiable C N ∈ G ∧ Cond.initialized C ∈ G ∧ (gm_dfl T i.2.1).length = N ∧ (∀ j, j < N → defaultValue (gm_fty T i.2.1 j) = vp_V (gm_dfl T i.2.1) j) ∧ ∀ v ∈ gm_dfl T i.2.1, gm_isR v = false
  | .newarray at_ => Cond.arrayClass (newarray.typeOf at_) ∈ G
  | .anewarray idx => Cond.classLink own idx "CommandByTurns$Standing" ∈ G
  | .aastore => ∃ TT N, cl[6]? = some ("CommandByTurns$Standing", TT, N)
  | .invokestatic idx => Cond.methodLink own idx (yn i.2.1) ∈ G ∧ Cond.static (yn i.2.1) ∈ G ∧ ((gm_dat T i.2.1).2.2.2.1 = 0 → gm_mth G T yn bc i.2.1) ∧ gm_mw G yn (gm_dat T i.2.1).2.2.2.1 i.2.1
  | .invokevirtual idx => gm_mth G T yn bc i.2.1 ∧ Cond.methodLink own idx (yn i.2.1) ∈ G ∧ Cond.instanceMethod (yn i.2.1) ∈ G ∧ ((gm_dat T i.2.1).2.2.2.1 = 1 → ∃ r, cl[(gm_dat T i.2.1).2.2.2.2]? = some r ∧ Cond.selects r.1 (yn i.2.1) (yn i.2.1) ∈ G) ∧ ((gm_dat T i.2.1).2.2.2.1 = 3 → Cond.selects "java/lang/String" (yn i.2.1) (yn i.2.1) ∈ G)
  | .invokespecial idx => ((gm_dat T i.2.1).2.2.2.1 = 4 → Cond.methodLink own idx objectInit ∈ G ∧ Cond.instanceMethod objectInit ∈ G ∧ Cond.code objectInit ⟨#[0xb1]⟩ 1 none ∈ G) ∧ ((gm_dat T i.2.1).2.2.2.1 = 2 → gm_mth G T yn bc i.2.1 ∧ Cond.instanceMethod (yn i.2.1) ∈ G ∧ (yn i.2.1).name = "<init>" ∧ (gm_dat T i.2.1).2.1 = none ∧ (Cond.methodLink own idx (yn i.2.1) ∈ G ∨ ∃ host, (own, idx, yn i.2.1, host) ∈ NW))
  | _ => True
/-- what lies beside the heap's own cells and stays -/
def gm_E (b : Nat) (aK : Nat → Nat) (D : va_G) (cl : List vw_C) (dA : Nat → ClassId) (NW : List (String × Nat × MethodName × String)) (SR : List (String × Nat × Nat × String)) (T : gm_T) (XP : State → Prop) (U : State) : Prop :=
  va_K D cl (gm_tys dA) U ∧ (∀ q ∈ NW, va_Nw (.methodLinkNest q.1 q.2.1 q.2.2.1 q.2.2.2) U) ∧ va_AO "CommandByTurns$Standing" U ∧ (∀ q ∈ SR, vk_R q.1 q.2.1 q.2.2.2 (aK q.2.2.1) U) ∧ va_X (aK 99) (gm_sl T) (gm_sx T) U U.heap ∧ aK 99 < b ∧ aK 99 < U.heap.size ∧ (∀ k, k < 99 → ∃ cell : Cell, U.heap[aK k]? = some cell ∧ cell.vm.isStatics = false ∧ U.vm.findClass "java/lang/String" = some cell.cls ∧ aK k < b) ∧ XP U
/-- .. and what else stays, does -/
def gm_ok (b : Nat) (XP : State → Prop) : Prop := (∀ (s U : State), s.WarmedH U.vm → (∀ q : Nat, q < b → U.heap[q]? = s.heap[q]?) → XP s → XP U) ∧ ∀ (U : State) (g : JFrame) (mk : MethodId) (a : Array Value), XP U → XP (U.calling g mk a)
theorem gm_E.move {b : Nat} {aK : Nat → Nat} {D : va_G} {cl : List vw_C} {dA : Nat → ClassId} {NW : List (String × Nat × MethodName × String)} {SR : List (String × Nat × Nat × String)} {T : gm_T} {XP : State → Prop} (hX : gm_ok b XP) {s U : State} (h : gm_E b aK D cl dA NW SR T XP s) (hW : s.WarmedH U.vm) (hq : ∀ q : Nat, q < b → U.heap[q]? = s.heap[q]?) (hz : s.heap.size ≤ U.heap.size) : gm_E b aK D cl dA NW SR T XP U := by
  obtain ⟨h1, h2, h3, h4, h5, h6, h7, h8, h9⟩ := h
  refine ⟨va_K.moved hW.alike h1, fun q hq => va_Nw.warmM hW (h2 q hq), va_AO.moved hW.alike h3, fun q hq => vk_R.warm hW (h4 q hq), va_X.moved hW.alike (va_X.kept h5 (hq _ h6)), h6, Nat.lt_of_lt_of_le h7 hz, fun k hk => ?_, hX.1 s U hW hq h9⟩
  obtain ⟨cell, c1, c2, c3, c4⟩ := h8 k hk
  exact ⟨cell, by rw [hq _ c4]; exact c1, c2, by rw [hW.alike.findClass]; exact c3, c4⟩
theorem gm_E.call {b : Nat} {aK : Nat → Nat} {D : va_G} {cl : List vw_C} {dA : Nat → ClassId} {NW : List (String × Nat × MethodName × String)} {SR : List (String × Nat × Nat × String)} {T : gm_T} {XP : State → Prop} (hX : gm_ok b XP) {U : State} (h : gm_E b aK D cl dA NW SR T XP U) (g : JFrame) (mk : MethodId) (a : Array Value) : gm_E b aK D cl dA NW SR T XP (U.calling g mk a) := by
  obtain ⟨h1, h2, h3, h4, h5, h6, h7, h8, h9⟩ := h
  exact ⟨va_K.moved (u := U) (U := U.calling g mk a) (Vm.Alike.refl U.vm) h1, fun q hq => va_Nw.same rfl (rfl : U.vm = (U.calling g mk a).vm) (h2 q hq), va_AO.moved (u := U) (U := U.calling g mk a) (Vm.Alike.refl U.vm) h3, fun q hq => vk_R.same (u := U) (U := U.calling g mk a) rfl (h4 q hq), va_X.moved (u := U) (U := U.calling g mk a) (Vm.Alike.refl U.vm) h5, h6, h7, h8, hX.2 U g mk a h9⟩
/-- a method's start and end -/
def gm_Pc (b : Nat) (aK : Nat → Nat) (D : va_G) (cl : List vw_C) (dA : Nat → ClassId) (al : Bool) (E : State → Prop) (As : List Value) (h : gm_H) : Array Value → State → Prop := fun a U => a = (As.map (gm_tv b aK)).toArray ∧ gm_hp b aK D cl dA al h U.heap ∧ E U
def gm_Qc (b : Nat) (aK : Nat → Nat) (D : va_G) (cl : List vw_C) (dA : Nat → ClassId) (al : Bool) (v : Option Value) (h : gm_H) : Array Value → State → Outcome → State → Prop := fun _ st oc t => oc = .returned (v.map (gm_tv b aK)) ∧ gm_hp b aK D cl dA al h t.heap ∧ va_F (gm_A b) st t
def gm_rm (d : Nat) (r : gm_R) : Room := { frames := d, cells := r.2.2.1, slots := r.2.2.2, locals := d * 64 }
def gm_Met (l : Launch) (b : Nat) (aK : Nat → Nat) (D : va_G) (cl : List vw_C) (dA : Nat → ClassId) (T : gm_T) (G : List Cond) (yn : Nat → MethodName) (bc : Nat → ByteArray) (E : State → Prop) (d j : Nat) (As : List Value) (h : gm_H) (r : gm_R) : Prop :=
  Met l (yn j) (Cond.code (yn j) (bc j) (gm_dat T j).1 (gm_dat T j).2.1 :: G) (gm_rm d r) (gm_Pc b aK D cl dA (gm_al T) E As h) (gm_Qc b aK D cl dA (gm_al T) r.1 r.2.1) r.2.2.1 r.2.2.2 (gm_A b)
theorem gm_nx_inj {pc : Nat} {L : gm_L} {S : List Value} {h : gm_H} {st : gm_S} {dc ds : Nat} (e : gm_nx pc L S h = some (.inl (st, dc, ds))) : st = (pc, L, S, h) ∧ dc = 0 ∧ ds = 0 := by
  unfold gm_nx at e
  cases e
  exact ⟨rfl, rfl, rfl⟩
theorem gm_nx_nr {pc : Nat} {L : gm_L} {S : List Value} {h : gm_H} {r : Option Value × gm_H} (e : gm_nx pc L S h = some (.inr r)) : False := by
  unfold gm_nx at e
  cases e
section GMS
variable {p : Program} {l : Launch} {e : Env} {R : Room} {s : State} {m : MethodId} {args : Array Value} {below : List Frame} {meth : Method} {c : Code} {H : Heap} {locs : List Loc} {cells slots : Nat} {Q : State → Prop}
variable {b : Nat} {aK : Nat → Nat} {D : va_G} {cl : List vw_C} {dA : Nat → ClassId} {T : gm_T} {G : List Cond} {h : gm_H} {cc : ByteArray} {pc nL : Nat} {ls : Array Slot} {L : gm_L} {S : List Value} {st : gm_S} {dc ds : Nat}
/-- the way on from a state of the small machine -/
def gm_K (p : Program) (l : Launch) (e : Env) (R : Room) (s : State) (m : MethodId) (args : Array Value) (below : List Frame) (meth : Method) (c : Code) (Q : State → Prop) (b : Nat) (aK : Nat → Nat) (D : va_G) (cl : List vw_C) (dA : Nat → ClassId) (T : gm_T) (nL : Nat) (st : gm_S) (kc ks : Nat) : Prop :=
  ∀ (ls : Array Slot) (H : Heap) (locs : List Loc), gm_lh b aK ls nL st.2.1 → gm_hp b aK D cl dA (gm_al T) st.2.2.2 H → va_S (gm_A b) s.heap H locs → W p l e R s m args below meth c H locs kc ks Q (F0 m st.1 ls (st.2.2.1.map (gm_tv b aK)))
theorem gm_W_ld {q : Value → Bool} {pc' k : Nat} (hst : gm_ld q pc' k L S h = some (.inl (st, dc, ds))) (row : ∀ v : Value, q v = true → ls[k]? = some (.val (gm_tv b aK v)) → W p l e R s m args below meth c H locs cells slots Q (F0 m pc' ls (gm_tv b aK v :: S.map (gm_tv b aK))) → W p l e R s m args below meth c H locs cells slots Q (F0 m pc ls (S.map (gm_tv b aK))))
    (hl : gm_lh b aK ls nL L) (hh : gm_hp b aK D cl dA (gm_al T) h H) (hS : va_S (gm_A b) s.heap H locs) (kk : gm_K p l e R s m args below meth c Q b aK D cl dA T nL st (cells + dc) (slots + ds)) : W p l e R s m args below meth c H locs cells slots Q (F0 m pc ls (S.map (gm_tv b aK))) := by
  unfold gm_ld at hst
  split at hst
  · rename_i v hv
    split at hst
    · rename_i hq
      obtain ⟨rfl, rfl, rfl⟩ := gm_nx_inj hst
      exact row v hq (hl.2.2.2 _ _ hv) (kk ls H locs hl hh hS)
    · cases hst
  · cases hst
theorem gm_W_st1 {q : Value → Bool} {pc' i : Nat} (hst : gm_st1 q pc' i L S h = some (.inl (st, dc, ds))) (hn : L.length = nL)
    (row : ∀ (v : Value) (r : List Value), q v = true → i < nL → (∀ ls' : Array Slot, lv_has ls' nL ((i, gm_tv b aK v) :: (gm_lv b aK L).filter (fun q => !(q.1 == i) && !(q.1 + 1 == i && q.2.category == 2))) → W p l e R s m args below meth c H locs cells slots Q (F0 m pc' ls' (r.map (gm_tv b aK)))) → W p l e R s m args below meth c H locs cells slots Q (F0 m pc ls (gm_tv b aK v :: r.map (gm_tv b aK))))
    (hh : gm_hp b aK D cl dA (gm_al T) h H) (hS : va_S (gm_A b) s.heap H locs) (kk : gm_K p l e R s m args below meth c Q b aK D cl dA T nL st (cells + dc) (slots + ds)) : W p l e R s m args below meth c H locs cells slots Q (F0 m pc ls (S.map (gm_tv b aK))) := by
  unfold gm_st1 at hst
  split at hst
  · rename_i v r
    split at hst
    · rename_i hq
      split at hst
      · rename_i hi
        rw [hn] at hi
        obtain ⟨rfl, rfl, rfl⟩ := gm_nx_inj hst
        exact row v r hq hi (fun ls' hl' => kk ls' H locs (gm_lh_st1 hn hi hl') hh hS)
      · cases hst
    · cases hst
  · cases hst
theorem gm_W_st2 {pc' i : Nat} (hst : gm_st2 pc' i L S h = some (.inl (st, dc, ds))) (hn : L.length = nL)
    (row : ∀ (x : Int64) (r : List Value), i + 1 < nL → (∀ ls' : Array Slot, lv_has ls' nL ((i, Value.long x) :: (gm_lv b aK L).filter (fun q => !(q.1 == i) && (!(q.1 == i + 1) && !(q.1 + 1 == i && q.2.category == 2)))) → W p l e R s m args below meth c H locs cells slots Q (F0 m pc' ls' (r.map (gm_tv b aK)))) → W p l e R s m args below meth c H locs cells slots Q (F0 m pc ls (.long x :: r.map (gm_tv b aK))))
    (hh : gm_hp b aK D cl dA (gm_al T) h H) (hS : va_S (gm_A b) s.heap H locs) (kk : gm_K p l e R s m args below meth c Q b aK D cl dA T nL st (cells + dc) (slots + ds)) : W p l e R s m args below meth c H locs cells slots Q (F0 m pc ls (S.map (gm_tv b aK))) := by
  rcases S with _ | ⟨v, r⟩
  · cases hst
  cases v with
  | long x =>
    have hst' : (if i + 1 < L.length then gm_nx pc' (gm_set2 L i (.long x)) r h else none) = some (.inl (st, dc, ds)) := hst
    by_cases hi : i + 1 < L.length
    · rw [if_pos hi] at hst'
      rw [hn] at hi
      obtain ⟨rfl, rfl, rfl⟩ := gm_nx_inj hst'
      exact row x r hi (fun ls' hl' => kk ls' H locs (gm_lh_st2 (v := .long x) hn hi hl') hh hS)
    · rw [if_neg hi] at hst'
      cases hst'
  | _ => cases hst
theorem gm_W_ii {f : Int32 → Int32 → Int32} {pc' : Nat} (hst : gm_ii f pc' L S h = some (.inl (st, dc, ds)))
    (row : ∀ x y (r : List Value), W p l e R s m args below meth c H locs cells slots Q (F0 m pc' ls (.int (f x y) :: r)) → W p l e R s m args below meth c H locs cells slots Q (F0 m pc ls (.int y :: .int x :: r)))
    (hl : gm_lh b aK ls nL L) (hh : gm_hp b aK D cl dA (gm_al T) h H) (hS : va_S (gm_A b) s.heap H locs) (kk : gm_K p l e R s m args below meth c Q b aK D cl dA T nL st (cells + dc) (slots + ds)) : W p l e R s m args below meth c H locs cells slots Q (F0 m pc ls (S.map (gm_tv b aK))) := by
  unfold gm_ii at hst
  split at hst
  · obtain ⟨rfl, rfl, rfl⟩ := gm_nx_inj hst
    exact row _ _ _ (kk ls H locs hl hh hS)
  · cases hst
theorem gm_W_i1 {f : Int32 → Int32} {pc' : Nat} (hst : gm_i1 f pc' L S h = some (.inl (st, dc, ds)))
    (row : ∀ x (r : List Value), W p l e R s m args below meth c H locs cells slots Q (F0 m pc' ls (.int (f x) :: r)) → W p l e R s m args below meth c H locs cells slots Q (F0 m pc ls (.int x :: r)))
    (hl : gm_lh b aK ls nL L) (hh : gm_hp b aK D cl dA (gm_al T) h H) (hS : va_S (gm_A b) s.heap H locs) (kk : gm_K p l e R s m args below meth c Q b aK D cl dA T nL st (cells + dc) (slots + ds)) : W p l e R s m args below meth c H locs cells slots Q (F0 m pc ls (S.map (gm_tv b aK))) := by
  unfold gm_i1 at hst
  split at hst
  · obtain ⟨rfl, rfl, rfl⟩ := gm_nx_inj hst
    exact row _ _ (kk ls H locs hl hh hS)
  · cases hst
theorem gm_W_ll {f : Int64 → Int64 → Int64} {pc' : Nat} (hst : gm_ll f pc' L S h = some (.inl (st, dc, ds)))
    (row : ∀ x y (r : List Value), W p l e R s m args below meth c H locs cells slots Q (F0 m pc' ls (.long (f x y) :: r)) → W p l e R s m args below meth c H locs cells slots Q (F0 m pc ls (.long y :: .long x :: r)))
    (hl : gm_lh b aK ls nL L) (hh : gm_hp b aK D cl dA (gm_al T) h H) (hS : va_S (gm_A b) s.heap H locs) (kk : gm_K p l e R s m args below meth c Q b aK D cl dA T nL st (cells + dc) (slots + ds)) : W p l e R s m args below meth c H locs cells slots Q (F0 m pc ls (S.map (gm_tv b aK))) := by
  unfold gm_ll at hst
  split at hst
  · obtain ⟨rfl, rfl, rfl⟩ := gm_nx_inj hst
    exact row _ _ _ (kk ls H locs hl hh hS)
  · cases hst
theorem gm_W_lI {f : Int64 → Int32 → Int64} {pc' : Nat} (hst : gm_lI f pc' L S h = some (.inl (st, dc, ds)))
    (row : ∀ x y (r : List Value), W p l e R s m args below meth c H locs cells slots Q (F0 m pc' ls (.long (f x y) :: r)) → W p l e R s m args below meth c H locs cells slots Q (F0 m pc ls (.int y :: .long x :: r)))
    (hl : gm_lh b aK ls nL L) (hh : gm_hp b aK D cl dA (gm_al T) h H) (hS : va_S (gm_A b) s.heap H locs) (kk : gm_K p l e R s m args below meth c Q b aK D cl dA T nL st (cells + dc) (slots + ds)) : W p l e R s m args below meth c H locs cells slots Q (F0 m pc ls (S.map (gm_tv b aK))) := by
  unfold gm_lI at hst
  split at hst
  · obtain ⟨rfl, rfl, rfl⟩ := gm_nx_inj hst
    exact row _ _ _ (kk ls H locs hl hh hS)
  · cases hst
/-- a branch -/
theorem gm_W_if {P : Prop} [Decidable P] {A B : Option gm_O} (hst : (if P then A else B) = some (.inl (st, dc, ds))) {Z : Prop} (hA : P → A = some (.inl (st, dc, ds)) → Z) (hB : ¬ P → B = some (.inl (st, dc, ds)) → Z) : Z := by
  by_cases q : P
  · rw [if_pos q] at hst; exact hA q hst
  · rw [if_neg q] at hst; exact hB q hst
theorem gm_W_nx {pc' : Nat} {S' : List Value} (hst : gm_nx pc' L S' h = some (.inl (st, dc, ds))) (hl : gm_lh b aK ls nL L) (hh : gm_hp b aK D cl dA (gm_al T) h H) (hS : va_S (gm_A b) s.heap H locs) (kk : gm_K p l e R s m args below meth c Q b aK D cl dA T nL st (cells + dc) (slots + ds)) : W p l e R s m args below meth c H locs cells slots Q (F0 m pc' ls (S'.map (gm_tv b aK))) := by
  obtain ⟨rfl, rfl, rfl⟩ := gm_nx_inj hst
  exact kk ls H locs hl hh hS
end GMS
