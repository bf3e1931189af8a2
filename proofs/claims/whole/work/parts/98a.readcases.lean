/-! The law's three cases with a reader that may throw: all but the call of the reader itself. -/
def jEq (pc tg : Nat) (cd : Jvm.ClassFile.Cond) : Bool := match gm_find gk_900 pc with
  | some (.ifCond cd' _, t, _) => decide (cd' = cd) && Nat.beq t tg
  | _ => false
theorem jEq_of {pc tg : Nat} {cd : Jvm.ClassFile.Cond} (h : jEq pc tg cd = true) : ∃ off ib, gm_find gk_900 pc = some (.ifCond cd off, tg, ib) := by
  unfold jEq at h
  split at h
  · rename_i cd' off t ib hf
    rw [Bool.and_eq_true] at h
    have e1 : cd' = cd := of_decide_eq_true h.1
    have e2 : t = tg := Nat.eq_of_beq_eq_true h.2
    rw [e1, e2] at hf
    exact ⟨off, ib, hf⟩
  · cases h
def oEq (pc tg : Nat) : Bool := match gm_find gk_900 pc with
  | some (.goto _, t, _) => Nat.beq t tg
  | _ => false
theorem oEq_of {pc tg : Nat} (h : oEq pc tg = true) : ∃ off ib, gm_find gk_900 pc = some (.goto off, tg, ib) := by
  unfold oEq at h
  split at h
  · rename_i off t ib hf
    have e2 : t = tg := Nat.eq_of_beq_eq_true h
    rw [e2] at hf
    exact ⟨off, ib, hf⟩
  · cases h
def gLr (k : Nat) (t : Int32) (u v : Option Value) : gm_L := [some (.float 99), some (.ref 0), some (.ref 48), some (.ref 73), some (.int (nI (5 * k))), some (.int t), u, v]
/-- the head: both texts' arguments; then aload_3 -/
def rhB (pc na : Nat) : Bool := cEq pc (.aload_n 1) && (argB (pc + 1) na && cEq (pc + 1 + 6 * na) (.aload_n 3))
/-- from behind the call on, up to the compare; pc at istore 5 -/
def rmB (pc na jm : Nat) : Bool := cEq pc (.istore 5) && (cEq (pc + 2) (.aload_n 2) && (argB (pc + 3) na && vEq (pc + 3 + 6 * na) jm 10 na))
/-- pc behind the storing of the answer -/
def rtB (pc e : Nat) : Bool := cEq pc (.aload_n 2) && (vEq (pc + 1) 153 10 0 && (cEq (pc + 4) (.iload 5) && (bEq (pc + 6) (pc + 11) && (cEq (pc + 11) (.iload 5) && (jEq (pc + 13) e .ne && (cEq (pc + 16) (.aload_n 3) && (cEq (pc + 17) (.iconst 0) && (cEq (pc + 18) .laload && oEq e 1596))))))))
theorem lcmp_rf (x : Int64) : lg_cmp x x = 0 := by
  unfold lg_cmp
  rw [if_neg (fun z => Int.lt_irrefl _ (Int64.lt_iff_toInt_lt.mp z)), if_pos rfl]
section LAW
variable {p : Program} {l : Launch} {e : Env} {s : State} {m : MethodId} {args : Array Value} {below : List Frame} {meth : Method} {c : Code} {Q : State → Prop}
variable {b : Nat} {aK : Nat → Nat} {D : va_G} {dA : Nat → ClassId} {XP : State → Prop} {al : Bool} {sl : Nat} {sx : Nat → Int32} {pc kc ks : Nat} {L : gm_L} {S : List Value} {h : gm_H}
theorem lr_arg1 (C : lwC p s m args meth c b aK D dA XP al sl sx) {k j : Nat} (h0 : L[0]? = some (some (.float 99))) (h4 : L[4]? = some (some (.int (nI (5 * k))))) (hj : j < 4) (hk5 : 5 * k + 5 ≤ sl) (hsl : sl ≤ 2560) (hb : (cEq pc (.aload_n 0) && (cEq (pc + 1) (.iload 4) && (cEq (pc + 3) (.iconst (j + 1 : Nat)) && (cEq (pc + 4) .iadd && cEq (pc + 5) .iaload)))) = true) (hk : kc ≤ 601024) (hs : ks ≤ 7293034)
    (kk : lwK p l e s m args below meth c Q b aK D dA al sl sx (pc + 6, L, .int (sx (5 * k + 1 + j)) :: S, h) kc ks) : lwK p l e s m args below meth c Q b aK D dA al sl sx (pc, L, S, h) kc ks := by
  rw [Bool.and_eq_true, Bool.and_eq_true, Bool.and_eq_true, Bool.and_eq_true] at hb
  obtain ⟨b1, b2, b3, b4, b5⟩ := hb
  obtain ⟨_, _, f1⟩ := cEq_of b1
  obtain ⟨_, _, f2⟩ := cEq_of b2
  obtain ⟨_, _, f3⟩ := cEq_of b3
  obtain ⟨_, _, f4⟩ := cEq_of b4
  obtain ⟨_, _, f5⟩ := cEq_of b5
  refine lk_step C f1 (st' := (pc + 1, L, .float 99 :: S, h)) ?_ hk hs ?_
  · show gm_ld gm_isR (pc + 1) 0 L S h = _
    unfold gm_ld
    rw [h0]
    rfl
  refine lk_step C f2 (st' := (pc + 3, L, .int (nI (5 * k)) :: .float 99 :: S, h)) ?_ hk hs ?_
  · show gm_ld gm_isI (pc + 1 + 2) 4 L (.float 99 :: S) h = _
    unfold gm_ld
    rw [h4]
    rfl
  refine lk_step C f3 (st' := (pc + 4, L, .int (nI (j + 1)) :: .int (nI (5 * k)) :: .float 99 :: S, h)) ?_ hk hs ?_
  · show gm_nx (pc + 3 + 1) L (.int (Int32.ofInt ((j + 1 : Nat) : Int)) :: .int (nI (5 * k)) :: .float 99 :: S) h = _
    rw [icst (j + 1) (by omega)]
    rfl
  refine lk_step C f4 (st' := (pc + 5, L, .int (nI (5 * k + 1 + j)) :: .float 99 :: S, h)) ?_ hk hs ?_
  · show gm_nx (pc + 4 + 1) L (.int (nI (5 * k) + nI (j + 1)) :: .float 99 :: S) h = _
    rw [nI_add, show 5 * k + (j + 1) = 5 * k + 1 + j by omega]
    rfl
  refine lk_step C f5 (st' := (pc + 6, L, .int (sx (5 * k + 1 + j)) :: S, h)) ?_ hk hs kk
  show (if (99 : UInt32) = 99 ∧ (0 : Nat) = 0 then (if nI (5 * k + 1 + j) < 0 ∨ sl ≤ (nI (5 * k + 1 + j)).toNatClampNeg then none else gm_nx (pc + 5 + 1) L (.int (sx (nI (5 * k + 1 + j)).toNatClampNeg) :: S) h) else none) = _
  rw [if_pos ⟨rfl, rfl⟩, nI_clamp (by omega), if_neg (fun z => z.elim (fun w => nI_pos (by omega) w) (fun w => by omega))]
  rfl
theorem lr_args (C : lwC p s m args meth c b aK D dA XP al sl sx) {k na : Nat} (h0 : L[0]? = some (some (.float 99))) (h4 : L[4]? = some (some (.int (nI (5 * k))))) (hna : na ≤ 4) (hk5 : 5 * k + 5 ≤ sl) (hsl : sl ≤ 2560) (hb : argB pc na = true) (hk : kc ≤ 601024) (hs : ks ≤ 7293034)
    (kk : lwK p l e s m args below meth c Q b aK D dA al sl sx (pc + 6 * na, L, (asO sx k na).reverse ++ S, h) kc ks) : lwK p l e s m args below meth c Q b aK D dA al sl sx (pc, L, S, h) kc ks := by
  have go : ∀ m9 j, j + m9 = na → lwK p l e s m args below meth c Q b aK D dA al sl sx (pc + 6 * j, L, (asO sx k j).reverse ++ S, h) kc ks := by
    intro m9
    induction m9 with
    | zero =>
      intro j hj
      have : j = na := by omega
      subst this
      exact kk
    | succ m9 ih =>
      intro j hj
      have h1 := ih (j + 1) (by omega)
      rw [asO_s] at h1
      exact lr_arg1 C (j := j) h0 h4 (by omega) hk5 hsl (all_r hb (show j < na by omega)) hk hs h1
  exact go na 0 (by omega)
/-- up to the call of the reader -/
theorem lr_head (C : lwC p s m args meth c b aK D dA XP false sl sx) {x : gs} {k na : Nat} (hna : na ≤ 4) (hk5 : 5 * k + 5 ≤ sl) (hsl : sl ≤ 2560) (hb : rhB pc na = true) (hk : kc ≤ 601024) (hs : ks ≤ 7293034)
    (kk : lwS p l e s m args below meth c Q b aK D dA sl sx x (pc + 2 + 6 * na) (gLi k) (.ref 73 :: ((asO sx k na).reverse ++ [.ref 0])) kc ks) : lwS p l e s m args below meth c Q b aK D dA sl sx x pc (gLi k) [] kc ks := by
  unfold rhB at hb
  rw [Bool.and_eq_true, Bool.and_eq_true] at hb
  obtain ⟨b1, b2, b3⟩ := hb
  obtain ⟨_, _, f1⟩ := cEq_of b1
  obtain ⟨_, _, f3⟩ := cEq_of b3
  intro h hR
  refine lk_step C f1 (st' := (pc + 1, gLi k, [.ref 0], h)) rfl hk hs ?_
  refine lk_args C hna hk5 hsl b2 hk hs ?_
  refine lk_step C f3 (st' := (pc + 1 + 6 * na + 1, gLi k, .ref 73 :: ((asO sx k na).reverse ++ [.ref 0]), h)) rfl hk hs ?_
  rw [show pc + 1 + 6 * na + 1 = pc + 2 + 6 * na by omega]
  exact kk h hR
/-- behind it: the reference's reader -/
theorem lr_mid (C : lwC p s m args meth c b aK D dA XP false sl sx) (hP : lwP l b aK D dA XP false sl sx) {x : gs} {k na jm : Nat} {t : Int32} (hna : na ≤ 4) (hk5 : 5 * k + 5 ≤ sl) (hsl : sl ≤ 2560) (hb : rmB pc na jm = true) (hk : kc ≤ 601024) (hs : ks ≤ 7293034)
    (kk : tE (false, sl, sx, gp_prim) 1200 jm (.ref 48 :: asO sx k na) x (fun v x' => lwS p l e s m args below meth c Q b aK D dA sl sx x' (pc + 6 + 6 * na) (gLr k t none none) v.toList kc ks)) : lwS p l e s m args below meth c Q b aK D dA sl sx x pc (gLi k) [.int t] kc ks := by
  unfold rmB at hb
  rw [Bool.and_eq_true, Bool.and_eq_true, Bool.and_eq_true] at hb
  obtain ⟨b1, b2, b3, b4⟩ := hb
  obtain ⟨_, _, f1⟩ := cEq_of b1
  obtain ⟨_, _, f2⟩ := cEq_of b2
  intro h hR
  refine lk_step C f1 (st' := (pc + 2, gLr k t none none, [], h)) rfl hk hs ?_
  refine lk_step C f2 (st' := (pc + 3, gLr k t none none, [.ref 48], h)) rfl hk hs ?_
  refine lr_args C (k := k) rfl rfl hna hk5 hsl b3 hk hs ?_
  refine ls_virt (x := x) (rest := []) C hP b4 rfl (asO_len sx k na) (by decide) hk hs (tE_imp kk (fun v x1 hv => ?_)) h hR
  rw [show pc + 3 + 6 * na + 3 = pc + 6 + 6 * na by omega, List.append_nil]
  exact hv
/-- the compare; pc behind the storing of the reference's answer; fin: from lload / iload on -/
theorem lr_tail (C : lwC p s m args meth c b aK D dA XP false sl sx) (hP : lwP l b aK D dA XP false sl sx) {x : gs} {k e9 : Nat} {t : Int32} {u w : Option Value} (hb : rtB pc e9 = true) (hk : kc ≤ 601024) (hs : ks ≤ 7293034) (ht : gsV x 48 13 = t)
    (kk : lwS p l e s m args below meth c Q b aK D dA sl sx x 1596 (gLi k) [] kc ks)
    (k0 : t = 0 → lwS p l e s m args below meth c Q b aK D dA sl sx x e9 (gLi k) [] kc ks → lwS p l e s m args below meth c Q b aK D dA sl sx x (pc + 19) (gLr k t u w) [.long (gsR x 73 0)] kc ks) : lwS p l e s m args below meth c Q b aK D dA sl sx x pc (gLr k t u w) [] kc ks := by
  unfold rtB at hb
  rw [Bool.and_eq_true, Bool.and_eq_true, Bool.and_eq_true, Bool.and_eq_true, Bool.and_eq_true, Bool.and_eq_true, Bool.and_eq_true, Bool.and_eq_true, Bool.and_eq_true] at hb
  obtain ⟨b1, b2, b3, b4, b5, b6, b7, b8, b9, b10⟩ := hb
  obtain ⟨_, _, f1⟩ := cEq_of b1
  obtain ⟨_, _, f3⟩ := cEq_of b3
  obtain ⟨_, _, f4⟩ := bEq_of b4
  obtain ⟨_, _, f5⟩ := cEq_of b5
  obtain ⟨_, _, f6⟩ := jEq_of b6
  obtain ⟨_, _, f7⟩ := cEq_of b7
  obtain ⟨_, _, f8⟩ := cEq_of b8
  obtain ⟨_, _, f9⟩ := cEq_of b9
  obtain ⟨_, _, f10⟩ := oEq_of b10
  have kE : lwS p l e s m args below meth c Q b aK D dA sl sx x e9 (gLi k) [] kc ks := fun h hR => lk_step C f10 (st' := (1596, gLi k, [], h)) rfl hk hs (kk h hR)
  intro h hR
  refine lk_step C f1 (st' := (pc + 1, gLr k t u w, [.ref 48], h)) rfl hk hs ?_
  refine ls_virt (x := x) (rest := []) (As := []) C hP b2 rfl rfl (by decide) hk hs (m153 (by decide) ?_) h hR
  rw [ht]
  clear hR h
  intro h hR
  refine lk_step C f3 (st' := (pc + 6, gLr k t u w, [.int t, .int t], h)) rfl hk hs ?_
  refine lk_step C f4 (st' := (pc + 11, gLr k t u w, [], h)) ?_ hk hs ?_
  · show (if t = t then gm_nx (pc + 11) (gLr k t u w) [] h else gm_nx (pc + 6 + 3) (gLr k t u w) [] h) = _
    rw [if_pos rfl]
    rfl
  refine lk_step C f5 (st' := (pc + 13, gLr k t u w, [.int t], h)) rfl hk hs ?_
  by_cases q : t = 0
  · refine lk_step C f6 (st' := (pc + 16, gLr k t u w, [], h)) ?_ hk hs ?_
    · show (if t = 0 then gm_nx (pc + 13 + 3) (gLr k t u w) [] h else gm_nx e9 (gLr k t u w) [] h) = _
      rw [if_pos q]
      rfl
    refine lk_step C f7 (st' := (pc + 17, gLr k t u w, [.ref 73], h)) rfl hk hs ?_
    refine lk_step C f8 (st' := (pc + 18, gLr k t u w, [.int 0, .ref 73], h)) rfl hk hs ?_
    refine lk_step C f9 (st' := (pc + 19, gLr k t u w, [.long (gsR x 73 0)], h)) ?_ hk hs (k0 q kE h hR)
    show gm_lald (pc + 18 + 1) (gLr k t u w) [.int 0, .ref 73] h = _
    show (match gm_get h 73 with
      | some (.inl (t', n, .inr (.inl f))) => if t' = 2 then (if (0 : Int32) < 0 ∨ n ≤ (0 : Int32).toNatClampNeg then none else gm_nx (pc + 18 + 1) (gLr k t u w) [.long (f (0 : Int32).toNatClampNeg)] h) else none
      | _ => none) = _
    rw [RL_aJ hR (a := 73) (n := 1) rfl]
    rfl
  · refine lk_step C f6 (st' := (e9, gLr k t u w, [], h)) ?_ hk hs ?_
    · show (if t = 0 then gm_nx (pc + 13 + 3) (gLr k t u w) [] h else gm_nx e9 (gLr k t u w) [] h) = _
      rw [if_neg q]
      rfl
    refine lk_forget (L' := gLi k) rfl ?_ (kE h hR)
    intro j v hj
    have hj8 : j < 8 := (List.getElem?_eq_some_iff.mp hj).1
    have e8 : j = 0 ∨ j = 1 ∨ j = 2 ∨ j = 3 ∨ j = 4 ∨ j = 5 ∨ j = 6 ∨ j = 7 := by omega
    rcases e8 with rfl | rfl | rfl | rfl | rfl | rfl | rfl | rfl
    all_goals first
      | exact hj
      | cases hj
theorem lr_fgt {k : Nat} {t : Int32} {u w : Option Value} {x : gs} (kk : lwS p l e s m args below meth c Q b aK D dA sl sx x pc (gLi k) S kc ks) : lwS p l e s m args below meth c Q b aK D dA sl sx x pc (gLr k t u w) S kc ks := by
  intro h hR
  refine lk_forget (L' := gLi k) rfl ?_ (kk h hR)
  intro j v hj
  have hj8 : j < 8 := (List.getElem?_eq_some_iff.mp hj).1
  have e8 : j = 0 ∨ j = 1 ∨ j = 2 ∨ j = 3 ∨ j = 4 ∨ j = 5 ∨ j = 6 ∨ j = 7 := by omega
  rcases e8 with rfl | rfl | rfl | rfl | rfl | rfl | rfl | rfl
  all_goals first
    | exact hj
    | cases hj
/-- the end, an int: iload 6; i2l; lcmp; ifeq -/
def rzB (pc e : Nat) : Bool := cEq pc (.iload 6) && (cEq (pc + 2) .i2l && (cEq (pc + 3) .lcmp && jEq (pc + 4) e .eq))
theorem lr_fin (C : lwC p s m args meth c b aK D dA XP false sl sx) {x : gs} {k e9 : Nat} {t y : Int32} (hb : rzB pc e9 = true) (hk : kc ≤ 601024) (hs : ks ≤ 7293034)
    (kk : lwS p l e s m args below meth c Q b aK D dA sl sx x e9 (gLi k) [] kc ks) : lwS p l e s m args below meth c Q b aK D dA sl sx x pc (gLr k t (some (.int y)) none) [.long y.toInt64] kc ks := by
  unfold rzB at hb
  rw [Bool.and_eq_true, Bool.and_eq_true, Bool.and_eq_true] at hb
  obtain ⟨b1, b2, b3, b4⟩ := hb
  obtain ⟨_, _, f1⟩ := cEq_of b1
  obtain ⟨_, _, f2⟩ := cEq_of b2
  obtain ⟨_, _, f3⟩ := cEq_of b3
  obtain ⟨_, _, f4⟩ := jEq_of b4
  intro h hR
  refine lk_step C f1 (st' := (pc + 2, gLr k t (some (.int y)) none, [.int y, .long y.toInt64], h)) rfl hk hs ?_
  refine lk_step C f2 (st' := (pc + 3, gLr k t (some (.int y)) none, [.long y.toInt64, .long y.toInt64], h)) rfl hk hs ?_
  refine lk_step C f3 (st' := (pc + 4, gLr k t (some (.int y)) none, [.int 0], h)) ?_ hk hs ?_
  · show gm_nx (pc + 3 + 1) (gLr k t (some (.int y)) none) [.int (lg_cmp y.toInt64 y.toInt64)] h = _
    rw [lcmp_rf]
    rfl
  refine lk_step C f4 (st' := (e9, gLr k t (some (.int y)) none, [], h)) rfl hk hs (lr_fgt kk h hR)
def rgB (pc e : Nat) : Bool := cEq pc (.lload 6) && (cEq (pc + 2) .lcmp && jEq (pc + 3) e .eq)
theorem lr_fing (C : lwC p s m args meth c b aK D dA XP false sl sx) {x : gs} {k e9 : Nat} {t : Int32} {y : Int64} (hb : rgB pc e9 = true) (hk : kc ≤ 601024) (hs : ks ≤ 7293034)
    (kk : lwS p l e s m args below meth c Q b aK D dA sl sx x e9 (gLi k) [] kc ks) : lwS p l e s m args below meth c Q b aK D dA sl sx x pc (gLr k t (some (.long y)) none) [.long y] kc ks := by
  unfold rgB at hb
  rw [Bool.and_eq_true, Bool.and_eq_true] at hb
  obtain ⟨b1, b3, b4⟩ := hb
  obtain ⟨_, _, f1⟩ := cEq_of b1
  obtain ⟨_, _, f3⟩ := cEq_of b3
  obtain ⟨_, _, f4⟩ := jEq_of b4
  intro h hR
  refine lk_step C f1 (st' := (pc + 2, gLr k t (some (.long y)) none, [.long y, .long y], h)) rfl hk hs ?_
  refine lk_step C f3 (st' := (pc + 3, gLr k t (some (.long y)) none, [.int 0], h)) ?_ hk hs ?_
  · show gm_nx (pc + 2 + 1) (gLr k t (some (.long y)) none) [.int (lg_cmp y y)] h = _
    rw [lcmp_rf]
    rfl
  refine lk_step C f4 (st' := (e9, gLr k t (some (.long y)) none, [], h)) rfl hk hs (lr_fgt kk h hR)
/-- the reader with two numbers, behind its call -/
theorem lr_two (C : lwC p s m args meth c b aK D dA XP false sl sx) (hP : lwP l b aK D dA XP false sl sx) {x : gs} {k jm e9 : Nat} {t : Int32} {O : gs → Prop} (hk5 : 5 * k + 5 ≤ sl) (hsl : sl ≤ 2560) (hb : (rmB pc 2 jm && (cEq (pc + 18) (.istore 6) && (rtB (pc + 20) e9 && rzB (pc + 39) e9))) = true) (hk : kc ≤ 601024) (hs : ks ≤ 7293034)
    (hT : tE (false, sl, sx, gp_prim) 1200 jm (.ref 48 :: asO sx k 2) x (fun r x' => ∃ y, r = some (.int y) ∧ gsV x' 48 13 = t ∧ (t = 0 → gsR x' 73 0 = y.toInt64) ∧ O x'))
    (kk : ∀ x', O x' → lwS p l e s m args below meth c Q b aK D dA sl sx x' 1596 (gLi k) [] kc ks) : lwS p l e s m args below meth c Q b aK D dA sl sx x pc (gLi k) [.int t] kc ks := by
  rw [Bool.and_eq_true, Bool.and_eq_true, Bool.and_eq_true] at hb
  obtain ⟨b1, b2, b3, b4⟩ := hb
  obtain ⟨_, _, f2⟩ := cEq_of b2
  refine lr_mid C hP (by decide) hk5 hsl b1 hk hs (tE_imp hT (fun r x' hr => ?_))
  obtain ⟨y, rfl, h1, h2, h3⟩ := hr
  intro h hR
  refine lk_step C f2 (st' := (pc + 20, gLr k t (some (.int y)) none, [], h)) rfl hk hs ?_
  refine lr_tail C hP b3 hk hs h1 (kk x' h3) (fun h0 kE => ?_) h hR
  rw [h2 h0]
  exact lr_fin C b4 hk hs kE
theorem lr_one (C : lwC p s m args meth c b aK D dA XP false sl sx) (hP : lwP l b aK D dA XP false sl sx) {x : gs} {k jm e9 : Nat} {t : Int32} {O : gs → Prop} (hk5 : 5 * k + 5 ≤ sl) (hsl : sl ≤ 2560) (hb : (rmB pc 1 jm && (cEq (pc + 12) (.lstore 6) && (rtB (pc + 14) e9 && rgB (pc + 33) e9))) = true) (hk : kc ≤ 601024) (hs : ks ≤ 7293034)
    (hT : tE (false, sl, sx, gp_prim) 1200 jm (.ref 48 :: asO sx k 1) x (fun r x' => ∃ y, r = some (.long y) ∧ gsV x' 48 13 = t ∧ (t = 0 → gsR x' 73 0 = y) ∧ O x'))
    (kk : ∀ x', O x' → lwS p l e s m args below meth c Q b aK D dA sl sx x' 1596 (gLi k) [] kc ks) : lwS p l e s m args below meth c Q b aK D dA sl sx x pc (gLi k) [.int t] kc ks := by
  rw [Bool.and_eq_true, Bool.and_eq_true, Bool.and_eq_true] at hb
  obtain ⟨b1, b2, b3, b4⟩ := hb
  obtain ⟨_, _, f2⟩ := cEq_of b2
  refine lr_mid C hP (by decide) hk5 hsl b1 hk hs (tE_imp hT (fun r x' hr => ?_))
  obtain ⟨y, rfl, h1, h2, h3⟩ := hr
  intro h hR
  refine lk_step C f2 (st' := (pc + 14, gLr k t (some (.long y)) none, [], h)) rfl hk hs ?_
  refine lr_tail C hP b3 hk hs h1 (kk x' h3) (fun h0 kE => ?_) h hR
  rw [h2 h0]
  exact lr_fing C b4 hk hs kE
end LAW
theorem rd_field : (rhB 345 2 && (rmB 362 2 190 && (cEq 380 (.istore 6) && (rtB 382 410 && rzB 401 410)))) = true := by decide +kernel
theorem rd_consul : (rhB 413 2 && (rmB 430 2 191 && (cEq 448 (.istore 6) && (rtB 450 478 && rzB 469 478)))) = true := by decide +kernel
theorem rd_row : (rhB 1541 1 && (rmB 1552 1 263 && (cEq 1564 (.lstore 6) && (rtB 1566 1593 && rgB 1585 1593)))) = true := by decide +kernel
