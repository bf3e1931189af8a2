/-! The real machine's rows over the small machine's heap: stores and new cells, with the heap's size. -/
/-- a class of the world: its fields' words are among G, their types are T's -/
def gm_cls (cl : List vw_C) (G : List Cond) (T : gm_T) (ci : Nat) (C : String) (TT : u_T) (N : Nat) : Prop :=
  cl[ci]? = some (C, TT, N) ∧ (∀ w ∈ u_ws C TT N, w ∈ G) ∧ (∀ k, k < N → parseFieldDescriptor (TT k).2.2.1 = some (gm_fty T ci k)) ∧ (∀ a, a < N → ∀ b, b < N → a ≠ b → (TT a).2.1 ≠ (TT b).2.1)
theorem gm_tyl_at {dA : Nat → ClassId} {t : Nat} (h : t < 6) : (gm_tys dA)[t]? = some (dA t, gm_tyl.getD t .int) := by
  unfold gm_tys
  rw [List.getElem?_map, List.getElem?_range h]
  rfl
theorem gm_fok_n {b : Nat} {aK : Nat → Nat} {ty : FieldType} {v : Value} (h : gm_fok ty v = true) : narrow ty (gm_tv b aK v) = gm_tv b aK v ∧ fits ty (gm_tv b aK v) = true := by
  cases ty <;> cases v <;> first | (cases h; done) | exact ⟨rfl, rfl⟩ | skip
  rename_i x
  have h' : (decide (x = 0) || decide (x = 1)) = true := h
  simp only [Bool.or_eq_true, decide_eq_true_eq] at h'
  rcases h' with rfl | rfl <;> exact ⟨rfl, rfl⟩
section GMR
variable {p : Program} {l : Launch} {e : Env} {R : Room} {s : State} {m : MethodId} {args : Array Value} {below : List Frame} {meth : Method} {c : Code} {H : Heap} {locs : List Loc} {cells slots : Nat} {Q : State → Prop}
variable {b : Nat} {aK : Nat → Nat} {D : va_G} {cl : List vw_C} {dA : Nat → ClassId} {al : Bool} {T : gm_T} {G : List Cond} {h : gm_H} {H0 : Heap} {cc : ByteArray} {pc : Nat} {ls : Array Slot} {rest : List Value} {a : Nat}
theorem gm_S_put (hS : va_S (gm_A b) H0 H locs) {H1 : Heap} {k : Nat} (z : H1.size = H.size) (oq : ∀ q : Nat, q ≠ b + a → H1[q]? = H[q]?) : va_S (gm_A b) H0 H1 (locs ++ [⟨b + a, k⟩]) := hS.put z oq (Nat.le_add_right b a)
theorem gm_rget (hx : p.tables.exec = Jvm.exec) (hb : c.code = cc) {own : String} {index ci k N : Nat} {C : String} {TT : u_T} (hts : ∀ w ∈ G, w.before args s = true) (hown : s.vm.findClass own = some m.cls) (hK : va_K D cl (gm_tys dA) s) (hc : gm_cls cl G T ci C TT N) (hk : k < N)
    (hlink : Cond.fieldLink own index (TT k).1 (TT k).2.1 (TT k).2.2.1 ∈ G) (hh : gm_hp b aK D cl dA al h H) {fs : List Value} (hg : gm_get h a = some (.inr (ci, fs))) {v : Value} (hv : fs[k]? = some v) (hdg : decode cc pc = .ok (.getfield index, 3))
    (kk : W p l e R s m args below meth c H locs cells slots Q (F0 m (pc + 3) ls (gm_tv b aK v :: rest))) : W p l e R s m args below meth c H locs cells slots Q (F0 m pc ls (.ref (b + a) :: rest)) :=
  va_get hx hb hts hc.2.1 hown hK hh.2.2 a (gm_w_get hg) hc.1 k hk (hts _ hlink) (fun _ q => q) (by rw [List.getElem?_map, hv]; rfl) hdg kk
theorem gm_rput (hx : p.tables.exec = Jvm.exec) (hb : c.code = cc) {own : String} {index ci k N : Nat} {C : String} {TT : u_T} (hts : ∀ w ∈ G, w.before args s = true) (hown : s.vm.findClass own = some m.cls) (hK : va_K D cl (gm_tys dA) s) (hc : gm_cls cl G T ci C TT N) (hk : k < N)
    (hlink : Cond.fieldLink own index (TT k).1 (TT k).2.1 (TT k).2.2.1 ∈ G) (hfin : (TT k).2.2.2 = false ∨ ((TT k).2.2.2 = true ∧ meth.name = "<init>" ∧ (TT k).1 = own)) (hh : gm_hp b aK D cl dA al h H) (hS0 : va_S (gm_A b) H0 H locs) {fs : List Value} (hg : gm_get h a = some (.inr (ci, fs))) (hl : k < fs.length) {v : Value} (hv : gm_fok (gm_fty T ci k) v = true)
    (hdg : decode cc pc = .ok (.putfield index, 3)) (kk : ∀ (H1 : Heap) (locs1 : List Loc), gm_hp b aK D cl dA al (gm_put h a (.inr (ci, fs.set k v))) H1 → va_S (gm_A b) H0 H1 locs1 → W p l e R s m args below meth c H1 locs1 cells slots Q (F0 m (pc + 3) ls rest)) :
    W p l e R s m args below meth c H locs cells slots Q (F0 m pc ls (gm_tv b aK v :: .ref (b + a) :: rest)) := by
  obtain ⟨hc, hin, hty, hnm⟩ := hc
  have hap := va_apart (own := own) (tys := gm_tys dA) hts hin (gm_fty T ci) hty hnm hK hc
  obtain ⟨hn, hfit⟩ := gm_fok_n (b := b) (aK := aK) hv
  obtain ⟨r, h1, cell, q1, q2, q3, q4⟩ := gm_hp_P hh hg
  have hr : r = (C, TT, N) := Option.some.inj (h1.symm.trans hc)
  subst hr
  obtain ⟨hS, hfc, kC, hkC, hkind⟩ := hK.1 ci _ hc
  obtain ⟨cf, kf, fi, f, hi, hsl⟩ := hS k hk
  have hlay := hts _ (hin _ (u_in_lay hk))
  unfold u_lay at hlay
  have hst := (u_facts hfc hkC (u_lays hts hin hk) hi).1
  have fin : ∀ (H' : Heap), H'[b + a]? = some (cell.setSlot (D.2 ci k) (gm_tv b aK v)) → (∀ q, q ≠ b + a → H'[q]? = H[q]?) → H'.size = H.size → gm_hp b aK D cl dA al (gm_put h a (.inr (ci, fs.set k v))) H' := by
    intro H' e1 e3 e2
    refine gm_hp_set hh hg ?_ e2 e3
    refine ⟨_, hc, ?_⟩
    show t_OB (b + a) (D.1 ci) N (D.2 ci) H' (vp_V ((fs.set k v).map (gm_tv b aK)))
    rw [List.map_set]
    exact t_OB.to (V := updV (vp_V (fs.map (gm_tv b aK))) k (gm_tv b aK v)) ⟨_, e1, q2, q3, t_set q4 hap hk (gm_tv b aK v)⟩ (fun j _ => vp_updV_set (by rw [List.length_map]; exact hl) (gm_tv b aK v) j)
  rcases hfin with hfin | ⟨hfin, hin2, hdecl⟩
  · rw [if_neg (by rw [hfin]; decide)] at hlay
    have h6 := u_store hfc hkC hkind hlay hi (hty k hk) hn hfit
    refine W.putK hx hb (f := f) ⟨hown, hts _ hlink, ⟨_, _, _, hi⟩, hst⟩ (by rw [q2]; exact h6) q1 q3 (by rw [hsl]; exact k2_hasslot (q4 k hk)) rfl rfl hdg fun H' e1 e2 e3 => ?_
    rw [hsl] at e1 ⊢
    exact kk H' _ (fin H' e1 e3 e2) (gm_S_put hS0 e2 e3)
  · rw [if_pos hfin] at hlay
    have hcf : m.cls = cf := by
      obtain ⟨_, _, c', _, _, _, -, -, hf', -, -, -, hown2, -⟩ := Cond.laysFinal_spec hlay
      have e1 : c' = cf := by have := hi.symm.trans hf'; simp at this; exact this.1.symm
      rw [hdecl] at hown2
      rw [← e1]; exact Option.some.inj (hown.symm.trans hown2)
    have h6 := u_fits hfc hkC hkind (Or.inr hlay) hi (hty k hk) hn hfit
    refine W.putFinK hx hb hown (hts _ hlink) hi hst hcf hin2 (by rw [q2]; exact h6) q1 q3 (by rw [hsl]; exact k2_hasslot (q4 k hk)) rfl rfl hdg fun H' e1 e2 e3 => ?_
    rw [hsl] at e1 ⊢
    exact kk H' _ (fin H' e1 e3 e2) (gm_S_put hS0 e2 e3)
theorem gm_rnew (hx : p.tables.exec = Jvm.exec) (hb : c.code = cc) {own : String} {index ci N : Nat} {C : String} {TT : u_T} (hts : ∀ w ∈ G, w.before args s = true) (hown : s.vm.findClass own = some m.cls) (hK : va_K D cl (gm_tys dA) s) (hc : gm_cls cl G T ci C TT N)
    (hcl : Cond.classLink own index C ∈ G) (hinst : Cond.instantiable C N ∈ G) (hini : Cond.initialized C ∈ G) (hfs : ∀ j, j < N → defaultValue (gm_fty T ci j) = vp_V ((gm_dfl T ci).map (gm_tv b aK)) j)
    (hh : gm_hp b aK D cl dA true h H) (hS : va_S (gm_A b) H0 H locs) (hcells : cells + 1 ≤ R.cells) (hslots : slots + N ≤ R.slots) (hdg : decode cc pc = .ok (.new index, 3))
    (kk : ∀ H1 : Heap, gm_hp b aK D cl dA true (gm_app h (.inr (ci, gm_dfl T ci))) H1 → va_S (gm_A b) H0 H1 locs → W p l e R s m args below meth c H1 locs (cells + 1) (slots + N) Q (F0 m (pc + 3) ls (.ref (b + h.1) :: rest))) : W p l e R s m args below meth c H locs cells slots Q (F0 m pc ls rest) := by
  obtain ⟨hc, hin, hty, hnm⟩ := hc
  have hKn := hK.1 ci _ hc
  have hz := hh.2.1 rfl
  refine W.newcK hx hb hown (hts _ hcl) (hts _ hinst) (hts _ hini) rfl hdg hcells hslots hKn.2.1 hz fun H1 kC hkC e1 z1 o1 => ?_
  refine kk H1 (gm_hp_app hh ?_ (by rw [z1, hz]) (fun q hq => o1 q (by rw [← hz]; exact hq))) ⟨Nat.le_trans hS.1 (by omega), fun x h1 h2 => (o1 x (by have := hS.1; omega)).trans (hS.2.1 x h1 h2), hS.2.2⟩
  exact ⟨_, hc, (u_born (gm_fty T ci) hts hin hKn hkC e1 hty).to hfs⟩
theorem gm_RA {U : State} {cA cB : ClassId} {ty : FieldType} (h : va_RA U cA ty) (hN : U.vm.findClass ("[" ++ ty.toString) = some cB) : cA = cB := by
  cases ty with
  | object C =>
    obtain ⟨_, _, -, -, -, h4⟩ := h
    exact Option.some.inj (h4.symm.trans hN)
  | _ => exact Option.some.inj (Eq.trans (Eq.symm h) hN)
theorem gm_rnewa (hx : p.tables.exec = Jvm.exec) (hb : c.code = cc) {atype : ArrayType} {t : Nat} (ht : t < 6) (hty : gm_tyl.getD t .int = newarray.typeOf atype) (hts : ∀ w ∈ G, w.before args s = true) (harr : Cond.arrayClass (newarray.typeOf atype) ∈ G) (hK : va_K D cl (gm_tys dA) s)
    (hh : gm_hp b aK D cl dA true h H) (hS : va_S (gm_A b) H0 H locs) {n : Int32} {z : vp_A} (hzc : gm_tc b aK dA (.inl (t, z)) = .inl (dA t, z)) (hz : ∀ cA : ClassId, vp_cell cA z = arrV cA n.toNatClampNeg (fun _ => defaultValue (newarray.typeOf atype))) (hn : ¬ n < 0) (hN : n.toNatClampNeg ≤ 10000) (hcells : cells + 1 ≤ R.cells) (hslots : slots + n.toNatClampNeg ≤ R.slots) (hdg : decode cc pc = .ok (.newarray atype, 2))
    (kk : ∀ H1 : Heap, gm_hp b aK D cl dA true (gm_app h (.inl (t, z))) H1 → va_S (gm_A b) H0 H1 locs → W p l e R s m args below meth c H1 locs (cells + 1) (slots + n.toNatClampNeg) Q (F0 m (pc + 2) ls (.ref (b + h.1) :: rest))) : W p l e R s m args below meth c H locs cells slots Q (F0 m pc ls (.int n :: rest)) := by
  have h2 := hh.2.1 rfl
  refine va_newaK hx hb (hts _ harr) rfl hdg rfl hn rfl ?_ hcells hslots h2 fun H1 cA e1 z1 o1 hAr hNm => ?_
  · have : componentBytes (newarray.typeOf atype) ≤ 8 := by cases atype <;> decide
    calc n.toNatClampNeg * componentBytes (newarray.typeOf atype) ≤ 10000 * 8 := Nat.mul_le_mul hN this
      _ ≤ 536870912 := by decide
  · have hA : dA t = cA := gm_RA (hK.2 t _ (gm_tyl_at ht)).2 (by show s.vm.findClass ("[" ++ (gm_tyl.getD t .int).toString) = some cA; rw [hty]; exact hNm)
    refine kk H1 (gm_hp_app hh ?_ (by rw [z1, h2]) (fun q hq => o1 q (by rw [← h2]; exact hq))) ⟨Nat.le_trans hS.1 (by omega), fun x h1 h2' => (o1 x (by have := hS.1; omega)).trans (hS.2.1 x h1 h2'), hS.2.2⟩
    rw [hzc]
    show H1[b + h.1]? = some (vp_cell (dA t) z)
    rw [hz, hA]
    exact e1
theorem gm_rnewq (hx : p.tables.exec = Jvm.exec) (hb : c.code = cc) {own : String} {index : Nat} (hts : ∀ w ∈ G, w.before args s = true) (hown : s.vm.findClass own = some m.cls) (hcl : Cond.classLink own index "CommandByTurns$Standing" ∈ G) (hover : va_AO "CommandByTurns$Standing" s) (hK : va_K D cl (gm_tys dA) s)
    (hh : gm_hp b aK D cl dA true h H) (hS : va_S (gm_A b) H0 H locs) {n : Int32} (hn : ¬ n < 0) (hN : n.toNatClampNeg ≤ 10000) (hcells : cells + 1 ≤ R.cells) (hslots : slots + n.toNatClampNeg ≤ R.slots) (hdg : decode cc pc = .ok (.anewarray index, 3))
    (kk : ∀ H1 : Heap, gm_hp b aK D cl dA true (gm_app h (.inl (5, n.toNatClampNeg, .inr (.inr (.inr (.inr fun _ => none)))))) H1 → va_S (gm_A b) H0 H1 locs → W p l e R s m args below meth c H1 locs (cells + 1) (slots + n.toNatClampNeg) Q (F0 m (pc + 3) ls (.ref (b + h.1) :: rest))) : W p l e R s m args below meth c H locs cells slots Q (F0 m pc ls (.int n :: rest)) := by
  have h2 := hh.2.1 rfl
  refine W.anew hx hb hown (hts _ hcl) (va_AO.use hover) rfl hdg rfl hn (by omega) hcells hslots fun cA kA comp f1 f2 f3 f4 => ?_
  generalize hH1 : H.push ({ cls := cA, slots := Array.replicate n.toNatClampNeg .null, vm := .none } : Cell) = H1
  have z1 : H1.size = H.size + 1 := by rw [← hH1, Array.size_push]
  have e1 : H1[H.size]? = some (arrV cA n.toNatClampNeg (fun _ => .null)) := by rw [← hH1, Array.getElem?_push_size, ← arrV_new]
  have o1 : ∀ q : Nat, q < H.size → H1[q]? = H[q]? := fun q hq => by rw [← hH1, Array.getElem?_push, if_neg (Nat.ne_of_lt hq)]
  have hA : dA 5 = cA := gm_RA (ty := .object "CommandByTurns$Standing") (hK.2 5 _ (gm_tyl_at (by decide))).2 f1
  refine W.eq (g2 := F0 m (pc + 3) ls (.ref (b + h.1) :: rest)) (by rw [h2]) ?_
  refine kk H1 (gm_hp_app hh ?_ z1 o1) ⟨Nat.le_trans hS.1 (by omega), fun x h1 h2' => (o1 x (by have := hS.1; omega)).trans (hS.2.1 x h1 h2'), hS.2.2⟩
  show H1[b + h.1]? = some (vp_cell (dA 5) (n.toNatClampNeg, .inr (.inr (.inr (.inr fun _ => Option.map (fun q => b + q) none)))))
  rw [← h2, e1, vp_cell_q, hA]
  rfl
/-- stores into arrays -/
theorem gm_upd_i (f : Nat → Int32) (k : Nat) (x : Int32) (ty : FieldType) (hx : narrow ty (.int x) = .int (vp_nar ty x)) : updV (fun j => Value.int (f j)) k (narrow ty (.int x)) = fun j => Value.int (upd f k (vp_nar ty x) j) := by
  funext q
  rw [hx]
  by_cases hq : q = k
  · subst hq
    simp [updV, upd]
  · simp [updV, upd, hq]
theorem gm_rast (hx : p.tables.exec = Jvm.exec) (hb : c.code = cc) {t : Nat} {ty : FieldType} {ig : Instr} (hK : va_K D cl (gm_tys dA) s) (ht : (t = 0 ∧ ty = .int ∧ ig = .iastore) ∨ (t = 1 ∧ ty = .char ∧ ig = .castore) ∨ (t = 3 ∧ ty = .byte ∧ ig = .bastore) ∨ (t = 4 ∧ ty = .boolean ∧ ig = .bastore))
    (hh : gm_hp b aK D cl dA al h H) (hS : va_S (gm_A b) H0 H locs) {n : Nat} {f : Nat → Int32} (hg : gm_get h a = some (.inl (t, n, .inl f))) {i x : Int32} (hin : ¬ (i < 0 ∨ n ≤ i.toNatClampNeg)) (hdg : decode cc pc = .ok (ig, 1))
    (kk : ∀ (H1 : Heap) (locs1 : List Loc), gm_hp b aK D cl dA al (gm_put h a (.inl (t, n, .inl (upd f i.toNatClampNeg (vp_nar ty x))))) H1 → va_S (gm_A b) H0 H1 locs1 → W p l e R s m args below meth c H1 locs1 cells slots Q (F0 m (pc + 1) ls rest)) :
    W p l e R s m args below meth c H locs cells slots Q (F0 m pc ls (.int x :: .int i :: .ref (b + a) :: rest)) := by
  have hc : H[b + a]? = some (arrV (dA t) n (fun j => .int (f j))) := gm_hp_P hh hg
  have hz : ¬ (i < 0 ∨ (arrV (dA t) n (fun j => Value.int (f j))).slots.size ≤ i.toNatClampNeg) := by rw [arrV_size]; exact hin
  have fin : ∀ (H1 : Heap), H1[b + a]? = some ((arrV (dA t) n (fun j => Value.int (f j))).setSlot i.toNatClampNeg (narrow ty (.int x))) → H1.size = H.size → (∀ q, q ≠ b + a → H1[q]? = H[q]?) → narrow ty (.int x) = .int (vp_nar ty x) → gm_hp b aK D cl dA al (gm_put h a (.inl (t, n, .inl (upd f i.toNatClampNeg (vp_nar ty x))))) H1 := by
    intro H1 e z oq hn
    refine gm_hp_set hh hg ?_ z oq
    show H1[b + a]? = some (vp_cell (dA t) (n, .inl (upd f i.toNatClampNeg (vp_nar ty x))))
    rw [e, arrV_store, vp_cell_i, gm_upd_i f _ x ty hn]
  rcases ht with ⟨rfl, rfl, rfl⟩ | ⟨rfl, rfl, rfl⟩ | ⟨rfl, rfl, rfl⟩ | ⟨rfl, rfl, rfl⟩
  · exact W.iast hx hb hc ((hK.2 0 _ (gm_tyl_at (by decide))).1 n _) (fun q => by cases q) hz rfl rfl hdg fun H1 e z oq => kk H1 _ (fin H1 e z oq rfl) (gm_S_put hS z oq)
  · exact W.cast hx hb hc ((hK.2 1 _ (gm_tyl_at (by decide))).1 n _) (fun q => by cases q) hz rfl rfl hdg fun H1 e z oq => kk H1 _ (fin H1 e z oq rfl) (gm_S_put hS z oq)
  · exact W.bast hx hb hc ((hK.2 3 _ (gm_tyl_at (by decide))).1 n _) (fun q => by cases q) hz rfl rfl hdg fun H1 e z oq => kk H1 _ (fin H1 e z oq rfl) (gm_S_put hS z oq)
  · exact W.zast hx hb hc ((hK.2 4 _ (gm_tyl_at (by decide))).1 n _) (fun q => by cases q) hz rfl rfl hdg fun H1 e z oq => kk H1 _ (fin H1 e z oq rfl) (gm_S_put hS z oq)
theorem gm_rlast (hx : p.tables.exec = Jvm.exec) (hb : c.code = cc) (hK : va_K D cl (gm_tys dA) s)
    (hh : gm_hp b aK D cl dA al h H) (hS : va_S (gm_A b) H0 H locs) {n : Nat} {f : Nat → Int64} (hg : gm_get h a = some (.inl (2, n, .inr (.inl f)))) {i : Int32} {x : Int64} (hin : ¬ (i < 0 ∨ n ≤ i.toNatClampNeg)) (hdg : decode cc pc = .ok (.lastore, 1))
    (kk : ∀ (H1 : Heap) (locs1 : List Loc), gm_hp b aK D cl dA al (gm_put h a (.inl (2, n, .inr (.inl (vp_updL f i.toNatClampNeg x))))) H1 → va_S (gm_A b) H0 H1 locs1 → W p l e R s m args below meth c H1 locs1 cells slots Q (F0 m (pc + 1) ls rest)) :
    W p l e R s m args below meth c H locs cells slots Q (F0 m pc ls (.long x :: .int i :: .ref (b + a) :: rest)) := by
  have hc : H[b + a]? = some (arrV (dA 2) n (fun j => .long (f j))) := gm_hp_P hh hg
  have hz : ¬ (i < 0 ∨ (arrV (dA 2) n (fun j => Value.long (f j))).slots.size ≤ i.toNatClampNeg) := by rw [arrV_size]; exact hin
  refine W.last hx hb hc ((hK.2 2 _ (gm_tyl_at (by decide))).1 n _) (fun q => by cases q) hz rfl rfl hdg fun H1 e z oq => kk H1 _ (gm_hp_set hh hg ?_ z oq) (gm_S_put hS z oq)
  show H1[b + a]? = some (vp_cell (dA 2) (n, .inr (.inl (vp_updL f i.toNatClampNeg x))))
  rw [e, arrV_store, vp_cell_l]
  congr 2
  funext q
  by_cases hq : q = i.toNatClampNeg
  · subst hq
    simp [updV, vp_updL]
  · simp [updV, vp_updL, hq]
theorem gm_raast (hx : p.tables.exec = Jvm.exec) (hb : c.code = cc) (hK : va_K D cl (gm_tys dA) s) {TT : u_T} {N : Nat} (h6 : cl[6]? = some ("CommandByTurns$Standing", TT, N))
    (hh : gm_hp b aK D cl dA al h H) (hS : va_S (gm_A b) H0 H locs) {n v : Nat} {f : Nat → Option Nat} (hg : gm_get h a = some (.inl (5, n, .inr (.inr (.inr (.inr f)))))) {vs : List Value} (hgv : gm_get h v = some (.inr (6, vs))) {i : Int32} (hin : ¬ (i < 0 ∨ n ≤ i.toNatClampNeg)) (hdg : decode cc pc = .ok (.aastore, 1))
    (kk : ∀ (H1 : Heap) (locs1 : List Loc), gm_hp b aK D cl dA al (gm_put h a (.inl (5, n, .inr (.inr (.inr (.inr (va_up f i.toNatClampNeg (some v)))))))) H1 → va_S (gm_A b) H0 H1 locs1 → W p l e R s m args below meth c H1 locs1 cells slots Q (F0 m (pc + 1) ls rest)) :
    W p l e R s m args below meth c H locs cells slots Q (F0 m pc ls (.ref (b + v) :: .int i :: .ref (b + a) :: rest)) := by
  have hc : H[b + a]? = some (arrV (dA 5) n (fun j => va_rf ((f j).map (fun q => b + q)))) := gm_hp_P hh hg
  have hlt : i.toNatClampNeg < n := Nat.not_le.mp fun q => hin (Or.inr q)
  have h0 : ¬ i < 0 := fun q => hin (Or.inl q)
  obtain ⟨r', hr', cellV, g1, g2, g3, -⟩ := gm_hp_P hh hgv
  have hcls := (hK.1 6 _ h6).2
  obtain ⟨kA, comp, k1, k2, k3, -⟩ := (hK.2 5 _ (gm_tyl_at (by decide))).2
  have hcomp : comp = D.1 6 := Option.some.inj (k3.symm.trans hcls.1)
  subst hcomp
  obtain ⟨kC, hkC, -⟩ := hcls.2
  refine W.aast hx hb hc (fun q h => by cases h) (fun h => by cases h) k1 k2 rfl hkC ⟨h0, by rw [arrV_size]; exact hlt⟩ g1 (fun q h => by rw [g3] at h; cases h) (by rw [g2]; exact hkC) (by rw [g2]; exact va_assign hcls) rfl rfl hdg fun H1 e z oq => ?_
  refine kk H1 _ (gm_hp_set hh hg ?_ z oq) (gm_S_put hS z oq)
  show H1[b + a]? = some (vp_cell (dA 5) (n, .inr (.inr (.inr (.inr fun k => (va_up f i.toNatClampNeg (some v) k).map (fun q => b + q))))))
  rw [e, arrV_store, vp_cell_q]
  congr 2
  funext q
  by_cases hq : q = i.toNatClampNeg
  · subst hq
    simp [updV, va_up, va_rf]
  · simp [updV, va_up, hq]
end GMR
