/-! The law's cases: an ordinary call of both. -/
def cEq (pc : Nat) (ig : Instr) : Bool := match gm_find gk_900 pc with
  | some (i, _, _) => decide (i = ig)
  | none => false
theorem cEq_of {pc : Nat} {ig : Instr} (h : cEq pc ig = true) : ∃ ia ib, gm_find gk_900 pc = some (ig, ia, ib) := by
  unfold cEq at h
  cases hf : gm_find gk_900 pc with
  | none => rw [hf] at h; cases h
  | some q =>
    obtain ⟨i, ia, ib⟩ := q
    rw [hf] at h
    have : i = ig := of_decide_eq_true h
    rw [this]
    exact ⟨ia, ib, rfl⟩
def vEq (pc j ci na : Nat) : Bool := match gm_find gk_900 pc with
  | some (.invokevirtual _, j', _) => Nat.beq j' j && (Nat.beq (gt_d j).2.2.2.1 1 && (Nat.beq (gt_d j).2.2.2.2 ci && Nat.beq (gt_d j).2.2.1 (na + 1)))
  | _ => false
theorem vEq_of {pc j ci na : Nat} (h : vEq pc j ci na = true) : (∃ idx ib, gm_find gk_900 pc = some (.invokevirtual idx, j, ib)) ∧ (gt_d j).2.2.2.1 = 1 ∧ (gt_d j).2.2.2.2 = ci ∧ (gt_d j).2.2.1 = na + 1 := by
  unfold vEq at h
  split at h
  · rename_i idx j' ib hf
    rw [Bool.and_eq_true, Bool.and_eq_true, Bool.and_eq_true] at h
    obtain ⟨h1, h2, h3, h4⟩ := h
    have e : j' = j := Nat.eq_of_beq_eq_true h1
    rw [e] at hf
    exact ⟨⟨idx, ib, hf⟩, Nat.eq_of_beq_eq_true h2, Nat.eq_of_beq_eq_true h3, Nat.eq_of_beq_eq_true h4⟩
  · cases h
def bEq (pc tg : Nat) : Bool := match gm_find gk_900 pc with
  | some (.if_icmp .eq _, t, _) => Nat.beq t tg
  | _ => false
theorem bEq_of {pc tg : Nat} (h : bEq pc tg = true) : ∃ off ib, gm_find gk_900 pc = some (.if_icmp .eq off, tg, ib) := by
  unfold bEq at h
  split at h
  · rename_i off t ib hf
    have e : t = tg := Nat.eq_of_beq_eq_true h
    rw [e] at hf
    exact ⟨off, ib, hf⟩
  · cases h
def argB (pc na : Nat) : Bool := (List.range na).all fun j => cEq (pc + 6 * j) (.aload_n 0) && (cEq (pc + 6 * j + 1) (.iload 4) && (cEq (pc + 6 * j + 3) (.iconst (j + 1 : Nat)) && (cEq (pc + 6 * j + 4) .iadd && cEq (pc + 6 * j + 5) .iaload)))
def caseB (pc na jx jm : Nat) : Bool := cEq pc (.aload_n 1) && (argB (pc + 1) na && (vEq (pc + 1 + 6 * na) jx 9 na && (cEq (pc + 4 + 6 * na) (.aload_n 2) && (argB (pc + 5 + 6 * na) na && (vEq (pc + 5 + 12 * na) jm 10 na && (bEq (pc + 8 + 12 * na) 1596 && Nat.ble na 4))))))
def gLi (k : Nat) : gm_L := [some (.float 99), some (.ref 0), some (.ref 48), some (.ref 73), some (.int (nI (5 * k))), none, none, none]
def asO (sx : Nat → Int32) (k na : Nat) : List Value := (List.range na).map fun j => Value.int (sx (5 * k + 1 + j))
theorem asO_s (sx : Nat → Int32) (k na : Nat) : (asO sx k (na + 1)).reverse = Value.int (sx (5 * k + 1 + na)) :: (asO sx k na).reverse := by
  unfold asO
  rw [List.range_succ, List.map_append, List.reverse_append]
  rfl
theorem asO_len (sx : Nat → Int32) (k na : Nat) : (asO sx k na).length = na := by
  unfold asO
  rw [List.length_map, List.length_range]
theorem icst : ∀ j, j < 6 → Int32.ofInt (j : Nat) = nI j := by decide
section LAW
variable {p : Program} {l : Launch} {e : Env} {s : State} {m : MethodId} {args : Array Value} {below : List Frame} {meth : Method} {c : Code} {Q : State → Prop}
variable {b : Nat} {aK : Nat → Nat} {D : va_G} {dA : Nat → ClassId} {XP : State → Prop} {al : Bool} {sl : Nat} {sx : Nat → Int32} {pc kc ks : Nat} {L : gm_L} {S : List Value} {h : gm_H}
/-- over states -/
def lwS (p : Program) (l : Launch) (e : Env) (s : State) (m : MethodId) (args : Array Value) (below : List Frame) (meth : Method) (c : Code) (Q : State → Prop) (b : Nat) (aK : Nat → Nat) (D : va_G) (dA : Nat → ClassId) (sl : Nat) (sx : Nat → Int32) (x : gs) (pc : Nat) (L : gm_L) (S : List Value) (kc ks : Nat) : Prop := ∀ h, RL h x → lwK p l e s m args below meth c Q b aK D dA false sl sx (pc, L, S, h) kc ks
theorem lk_arg1 (C : lwC p s m args meth c b aK D dA XP al sl sx) {k j : Nat} (hj : j < 4) (hk5 : 5 * k + 5 ≤ sl) (hsl : sl ≤ 2560) (hb : (cEq pc (.aload_n 0) && (cEq (pc + 1) (.iload 4) && (cEq (pc + 3) (.iconst (j + 1 : Nat)) && (cEq (pc + 4) .iadd && cEq (pc + 5) .iaload)))) = true) (hk : kc ≤ 601024) (hs : ks ≤ 7293034)
    (kk : lwK p l e s m args below meth c Q b aK D dA al sl sx (pc + 6, gLi k, .int (sx (5 * k + 1 + j)) :: S, h) kc ks) : lwK p l e s m args below meth c Q b aK D dA al sl sx (pc, gLi k, S, h) kc ks := by
  rw [Bool.and_eq_true, Bool.and_eq_true, Bool.and_eq_true, Bool.and_eq_true] at hb
  obtain ⟨b1, b2, b3, b4, b5⟩ := hb
  obtain ⟨_, _, f1⟩ := cEq_of b1
  obtain ⟨_, _, f2⟩ := cEq_of b2
  obtain ⟨_, _, f3⟩ := cEq_of b3
  obtain ⟨_, _, f4⟩ := cEq_of b4
  obtain ⟨_, _, f5⟩ := cEq_of b5
  refine lk_step C f1 (st' := (pc + 1, gLi k, .float 99 :: S, h)) rfl hk hs ?_
  refine lk_step C f2 (st' := (pc + 3, gLi k, .int (nI (5 * k)) :: .float 99 :: S, h)) rfl hk hs ?_
  refine lk_step C f3 (st' := (pc + 4, gLi k, .int (nI (j + 1)) :: .int (nI (5 * k)) :: .float 99 :: S, h)) ?_ hk hs ?_
  · show gm_nx (pc + 3 + 1) (gLi k) (.int (Int32.ofInt ((j + 1 : Nat) : Int)) :: .int (nI (5 * k)) :: .float 99 :: S) h = _
    rw [icst (j + 1) (by omega)]
    rfl
  refine lk_step C f4 (st' := (pc + 5, gLi k, .int (nI (5 * k + 1 + j)) :: .float 99 :: S, h)) ?_ hk hs ?_
  · show gm_nx (pc + 4 + 1) (gLi k) (.int (nI (5 * k) + nI (j + 1)) :: .float 99 :: S) h = _
    rw [nI_add, show 5 * k + (j + 1) = 5 * k + 1 + j by omega]
    rfl
  refine lk_step C f5 (st' := (pc + 6, gLi k, .int (sx (5 * k + 1 + j)) :: S, h)) ?_ hk hs kk
  show (if (99 : UInt32) = 99 ∧ (0 : Nat) = 0 then (if nI (5 * k + 1 + j) < 0 ∨ sl ≤ (nI (5 * k + 1 + j)).toNatClampNeg then none else gm_nx (pc + 5 + 1) (gLi k) (.int (sx (nI (5 * k + 1 + j)).toNatClampNeg) :: S) h) else none) = _
  rw [if_pos ⟨rfl, rfl⟩, nI_clamp (by omega), if_neg (fun z => z.elim (fun w => nI_pos (by omega) w) (fun w => by omega))]
  rfl
theorem lk_args (C : lwC p s m args meth c b aK D dA XP al sl sx) {k na : Nat} (hna : na ≤ 4) (hk5 : 5 * k + 5 ≤ sl) (hsl : sl ≤ 2560) (hb : argB pc na = true) (hk : kc ≤ 601024) (hs : ks ≤ 7293034)
    (kk : lwK p l e s m args below meth c Q b aK D dA al sl sx (pc + 6 * na, gLi k, (asO sx k na).reverse ++ S, h) kc ks) : lwK p l e s m args below meth c Q b aK D dA al sl sx (pc, gLi k, S, h) kc ks := by
  have go : ∀ m9 j, j + m9 = na → lwK p l e s m args below meth c Q b aK D dA al sl sx (pc + 6 * j, gLi k, (asO sx k j).reverse ++ S, h) kc ks := by
    intro m9
    induction m9 with
    | zero =>
      intro j hj
      have : j = na := by omega
      subst this
      exact kk
    | succ m9 ih =>
      intro j hj
      have h1 := ih (j + 1) (by omega)
      rw [asO_s] at h1
      exact lk_arg1 C (j := j) (by omega) hk5 hsl (all_r hb (show j < na by omega)) hk hs h1
  exact go na 0 (by omega)
theorem ls_virt (C : lwC p s m args meth c b aK D dA XP false sl sx) (hP : lwP l b aK D dA XP false sl sx) {x : gs} {j ci na r : Nat} {As rest : List Value} (hv : vEq pc j ci na = true) (hr : gs_isC r ci = true) (hA : As.length = na) (hc : gm_cat rest ≤ 8) (hk : kc ≤ 601024) (hs : ks ≤ 7293034)
    (kk : tE (false, sl, sx, gp_prim) 1200 j (.ref r :: As) x (fun v x' => lwS p l e s m args below meth c Q b aK D dA sl sx x' (pc + 3) L (v.toList ++ rest) kc ks)) : lwS p l e s m args below meth c Q b aK D dA sl sx x pc L (As.reverse ++ .ref r :: rest) kc ks := by
  obtain ⟨⟨idx, ib, hf⟩, h1, h2, h3⟩ := vEq_of hv
  intro h hR
  obtain ⟨fs, hg⟩ := RL_o hR hr
  refine lk_call (As := .ref r :: As) (rest := rest) (jj := j) C hP hf (fun call => ?_) (by rw [List.reverse_cons, List.append_assoc]; rfl) (by rw [h3, List.length_cons, hA]) hc ?_ hk hs (ge_imp (kk h hR) (fun v h' hp => ?_))
  · show (if (gt_d j).2.2.2.1 = 1 ∨ (gt_d j).2.2.2.1 = 3 then gm_cal (gt_T false sl sx) call j (pc + 3) L _ h else none) = _
    rw [if_pos (Or.inl h1)]
  · unfold gm_rcv
    rw [show (gm_dat (gt_T false sl sx) j).2.2.2.1 = 1 from h1]
    show (match gm_get h r with
      | some (.inr (ci, _)) => Nat.beq ci (gt_d j).2.2.2.2
      | _ => false) = true
    rw [hg, h2]
    exact Nat.beq_refl ci
  · obtain ⟨x', hR', hq⟩ := hp
    exact hq h' hR'
theorem lw_case (C : lwC p s m args meth c b aK D dA XP false sl sx) (hP : lwP l b aK D dA XP false sl sx) {x : gs} {k na jx jm B : Nat} (hk5 : 5 * k + 5 ≤ sl) (hsl : sl ≤ 2560) (hb : caseB pc na jx jm = true) (hk : kc ≤ 601024) (hs : ks ≤ 7293034)
    (hCL : CL (false, sl, sx, gp_prim) 1200 jx jm (asO sx k na) x B) (kk : ∀ x', OK2 (B + 60) x' → lwS p l e s m args below meth c Q b aK D dA sl sx x' 1596 (gLi k) [] kc ks) : lwS p l e s m args below meth c Q b aK D dA sl sx x pc (gLi k) [] kc ks := by
  unfold caseB at hb
  rw [Bool.and_eq_true, Bool.and_eq_true, Bool.and_eq_true, Bool.and_eq_true, Bool.and_eq_true, Bool.and_eq_true, Bool.and_eq_true] at hb
  obtain ⟨b1, b2, b3, b4, b5, b6, b7, b8⟩ := hb
  have hna : na ≤ 4 := Nat.le_of_ble_eq_true b8
  obtain ⟨_, _, f1⟩ := cEq_of b1
  obtain ⟨_, _, f4⟩ := cEq_of b4
  obtain ⟨off, ib, f7⟩ := bEq_of b7
  intro h hR
  refine lk_step C f1 (st' := (pc + 1, gLi k, [.ref 0], h)) rfl hk hs ?_
  refine lk_args C hna hk5 hsl b2 hk hs ?_
  refine ls_virt (x := x) (rest := []) C hP b3 rfl (asO_len sx k na) (by decide) hk hs (tE_imp hCL (fun v x1 hv => ?_)) h hR
  obtain ⟨y, rfl, hv2⟩ := hv
  intro h1 hR1
  rw [show pc + 1 + 6 * na + 3 = pc + 4 + 6 * na by omega]
  refine lk_step C f4 (st' := (pc + 4 + 6 * na + 1, gLi k, [.ref 48, .int y], h1)) rfl hk hs ?_
  rw [show pc + 4 + 6 * na + 1 = pc + 5 + 6 * na by omega]
  refine lk_args C hna hk5 hsl b5 hk hs ?_
  rw [show pc + 5 + 6 * na + 6 * na = pc + 5 + 12 * na by omega]
  refine ls_virt (x := x1) (rest := [.int y]) C hP b6 rfl (asO_len sx k na) (show 1 ≤ 8 by decide) hk hs (tE_imp hv2 (fun v x2 hv3 => ?_)) h1 hR1
  obtain ⟨rfl, hok⟩ := hv3
  intro h2 hR2
  rw [show pc + 5 + 12 * na + 3 = pc + 8 + 12 * na by omega]
  refine lk_step C f7 (st' := (1596, gLi k, [], h2)) ?_ hk hs (kk x2 hok h2 hR2)
  show (if y = y then gm_nx 1596 (gLi k) [] h2 else gm_nx (pc + 8 + 12 * na + 3) (gLi k) [] h2) = _
  rw [if_pos rfl]
  rfl
end LAW
