/-! What must hold for a run to end with Post: by program (wip/whole/gen_wp.py). -/
/-- CommandByTurnsModel.goMarch(I)V -/
def wm200 (c : gx) (d : Nat) (Post : Option Value → gs → Prop) (x1 : Int32) (s : gs) : Prop :=
  vp_in 1 108 ∧ vp_in 1 108 ∧ ∀ s_3 : gs, s_3 = gs_A s 49 (1 : Int32).toNatClampNeg (vp_nar .int ((gsA s 49 (1 : Int32).toNatClampNeg) + x1)) → tE c d 197 [.ref 49] s_3 (fun v5 s_5 => v5 = none ∧ Post none s_5)
theorem okm200 (c : gx) (d : Nat) (Post : Option Value → gs → Prop) (x1 : Int32) (s : gs) (w : wm200 c d Post x1 s) : tE c (d + 1) 200 [.ref 48, .int x1] s Post := by
  intro h hR
  have hk : ∀ pc i, gm_find gk_200 pc = some i → gm_code (gt_T c.1 c.2.1 c.2.2.1) 200 pc = some i := fun _ _ z => z
  unfold wm200 at w
  refine ge_of (by decide) (Nat.le_of_ble_eq_true rfl) ?_
  show gw (gt_T c.1 c.2.1 c.2.2.1) c.2.2.2 d 200 (0, [some (.ref 48), some (.int x1)], [], h) _
  refine gw_pst hk 1 (st' := (1, [some (.ref 48), some (.int x1)], [.ref 48], h)) rfl ?_
  refine gw_gf (hk _ _ rfl) (RL_fR (n := 49) hR rfl) ?_
  refine gw_pst hk 2 (st' := (6, [some (.ref 48), some (.int x1)], [.int 1, .ref 49, .int 1, .ref 49], h)) rfl ?_
  obtain ⟨b2, w⟩ := w
  refine gw_ald (hk _ _ rfl) (Or.inl ⟨rfl, rfl⟩) (RL_a (t := 0) (n := 108) hR rfl (by decide)) b2 ?_
  refine gw_pst hk 2 (st' := (9, [some (.ref 48), some (.int x1)], [.int ((gsA s 49 (1 : Int32).toNatClampNeg) + x1), .int 1, .ref 49], h)) rfl ?_
  obtain ⟨b3, w⟩ := w
  have hR3 := RL_pA (a := 49) (t := 0) (n := 108) (k := (1 : Int32).toNatClampNeg) (x := (vp_nar .int ((gsA s 49 (1 : Int32).toNatClampNeg) + x1))) hR rfl (by decide)
  refine gw_ast (hk _ _ rfl) (Or.inl ⟨rfl, rfl, rfl⟩) (RL_a (t := 0) (n := 108) hR rfl (by decide)) b3 ?_
  generalize gm_put h _ _ = h at hR3 ⊢
  obtain ⟨s_3, es3⟩ : ∃ z, z = gs_A s 49 (1 : Int32).toNatClampNeg (vp_nar .int ((gsA s 49 (1 : Int32).toNatClampNeg) + x1)) := ⟨_, rfl⟩
  rw [← es3] at hR3
  replace w := w s_3 es3
  replace hR := hR3
  refine gw_pst hk 1 (st' := (11, [some (.ref 48), some (.int x1)], [.ref 48], h)) rfl ?_
  refine gw_gf (hk _ _ rfl) (RL_fR (n := 49) hR rfl) ?_
  refine gw_call (jj := 197) (As := [.ref 49]) (rest := []) (hk _ _ rfl) (fun _ => rfl) rfl rfl (Nat.le_of_ble_eq_true rfl) rfl ?_
  refine ge_imp (w h hR) (fun v5 h w => ?_)
  obtain ⟨s_5, hR, rfl, w⟩ := w
  show gw (gt_T c.1 c.2.1 c.2.2.1) c.2.2.2 d 200 (17, [some (.ref 48), some (.int x1)], [], h) _
  exact gw_ret (hk _ _ rfl) rfl ⟨_, hR, w⟩
/-- CommandByTurnsModel.march(I)I -/
def wm201 (c : gx) (d : Nat) (Post : Option Value → gs → Prop) (x1 : Int32) (s : gs) : Prop :=
  ∀ s_1 : gs, s_1 = gs_V s 48 13 0 → tE c d 199 [.ref 48, .int x1] s_1 (fun v2 s_2 => ∃ x_2 : Int32, v2 = some (.int x_2) ∧ ((0 ≤ x_2 → tE c d 195 [.ref 48, .ref 49] s_2 (fun v5 s_5 => v5 = none ∧ vp_in 0 108 ∧ tE c d 184 [.ref 49, .int (gsA s_5 49 (0 : Int32).toNatClampNeg)] s_5 (fun v9 s_9 => ∃ x_9 : Int32, v9 = some (.int x_9) ∧ tE c d 200 [.ref 48, .int x1] s_9 (fun v10 s_10 => v10 = none ∧ ∀ s_11 : gs, s_11 = gs_V s_10 48 12 0 → tE c d 157 [.ref 48, .long ((x_9 : Int32).toInt64)] s_11 (fun v12 s_12 => v12 = none ∧ vp_in 5 108 ∧ tE c d 157 [.ref 48, .long ((gsA s_12 49 (5 : Int32).toNatClampNeg : Int32).toInt64)] s_12 (fun v15 s_15 => v15 = none ∧ vp_in 1 108 ∧ Post (some (.int (gsA s_15 49 (1 : Int32).toNatClampNeg))) s_15)))))) ∧ (¬ (0 ≤ x_2) → Post (some (.int x_2)) s_2)))
theorem okm201 (c : gx) (d : Nat) (Post : Option Value → gs → Prop) (x1 : Int32) (s : gs) (w : wm201 c d Post x1 s) : tE c (d + 1) 201 [.ref 48, .int x1] s Post := by
  intro h hR
  have hk : ∀ pc i, gm_find gk_201 pc = some i → gm_code (gt_T c.1 c.2.1 c.2.2.1) 201 pc = some i := fun _ _ z => z
  unfold wm201 at w
  refine ge_of (by decide) (Nat.le_of_ble_eq_true rfl) ?_
  show gw (gt_T c.1 c.2.1 c.2.2.1) c.2.2.2 d 201 (0, [some (.ref 48), some (.int x1), none, none], [], h) _
  refine gw_pst hk 2 (st' := (2, [some (.ref 48), some (.int x1), none, none], [.int 0, .ref 48], h)) rfl ?_
  obtain ⟨fs1, e1⟩ := RL_o hR (r := 48) (ci := 10) rfl
  obtain ⟨l1, hR1⟩ := RL_pI (k := 13) (x := 0) hR rfl e1
  refine gw_pf (hk _ _ rfl) e1 l1 rfl ?_
  generalize gm_put h _ _ = h at hR1 ⊢
  obtain ⟨s_1, es1⟩ : ∃ z, z = gs_V s 48 13 0 := ⟨_, rfl⟩
  rw [← es1] at hR1
  replace w := w s_1 es1
  replace hR := hR1
  refine gw_pst hk 2 (st' := (7, [some (.ref 48), some (.int x1), none, none], [.int x1, .ref 48], h)) rfl ?_
  obtain ⟨fs2, e2⟩ := RL_o hR (r := 48) (ci := 10) rfl
  refine gw_call (jj := 199) (As := [.ref 48, .int x1]) (rest := []) (hk _ _ rfl) (fun _ => rfl) rfl rfl (Nat.le_of_ble_eq_true rfl) (gm_rcv_v rfl e2 rfl) ?_
  refine ge_imp (w h hR) (fun v2 h w => ?_)
  obtain ⟨s_2, hR, x_2, rfl, w⟩ := w
  show gw (gt_T c.1 c.2.1 c.2.2.1) c.2.2.2 d 201 (10, [some (.ref 48), some (.int x1), none, none], [.int x_2], h) _
  refine gw_pst hk 2 (st' := (12, [some (.ref 48), some (.int x1), some (.int x_2), none], [.int x_2], h)) rfl ?_
  refine gw_br (c := 0 ≤ x_2) (a := (17, [some (.ref 48), some (.int x1), some (.int x_2), none], [], h)) (b := (15, [some (.ref 48), some (.int x1), some (.int x_2), none], [], h)) (hk _ _ rfl) rfl ⟨fun z3 => ?_, fun z3 => ?_⟩
  · replace w := w.1 z3
    refine gw_pst hk 2 (st' := (19, [some (.ref 48), some (.int x1), some (.int x_2), none], [.ref 48, .ref 48], h)) rfl ?_
    refine gw_gf (hk _ _ rfl) (RL_fR (n := 49) hR rfl) ?_
    obtain ⟨fs5, e5⟩ := RL_o hR (r := 48) (ci := 10) rfl
    refine gw_call (jj := 195) (As := [.ref 48, .ref 49]) (rest := []) (hk _ _ rfl) (fun _ => rfl) rfl rfl (Nat.le_of_ble_eq_true rfl) (gm_rcv_v rfl e5 rfl) ?_
    refine ge_imp (w h hR) (fun v5 h w => ?_)
    obtain ⟨s_5, hR, rfl, w⟩ := w
    show gw (gt_T c.1 c.2.1 c.2.2.1) c.2.2.2 d 201 (25, [some (.ref 48), some (.int x1), some (.int x_2), none], [], h) _
    refine gw_pst hk 1 (st' := (26, [some (.ref 48), some (.int x1), some (.int x_2), none], [.ref 48], h)) rfl ?_
    refine gw_gf (hk _ _ rfl) (RL_fR (n := 49) hR rfl) ?_
    refine gw_pst hk 1 (st' := (30, [some (.ref 48), some (.int x1), some (.int x_2), none], [.ref 48, .ref 49], h)) rfl ?_
    refine gw_gf (hk _ _ rfl) (RL_fR (n := 49) hR rfl) ?_
    refine gw_pst hk 1 (st' := (34, [some (.ref 48), some (.int x1), some (.int x_2), none], [.int 0, .ref 49, .ref 49], h)) rfl ?_
    obtain ⟨b8, w⟩ := w
    refine gw_ald (hk _ _ rfl) (Or.inl ⟨rfl, rfl⟩) (RL_a (t := 0) (n := 108) hR rfl (by decide)) b8 ?_
    refine gw_call (jj := 184) (As := [.ref 49, .int (gsA s_5 49 (0 : Int32).toNatClampNeg)]) (rest := []) (hk _ _ rfl) (fun _ => rfl) rfl rfl (Nat.le_of_ble_eq_true rfl) rfl ?_
    refine ge_imp (w h hR) (fun v9 h w => ?_)
    obtain ⟨s_9, hR, x_9, rfl, w⟩ := w
    show gw (gt_T c.1 c.2.1 c.2.2.1) c.2.2.2 d 201 (38, [some (.ref 48), some (.int x1), some (.int x_2), none], [.int x_9], h) _
    refine gw_pst hk 3 (st' := (41, [some (.ref 48), some (.int x1), some (.int x_2), some (.int x_9)], [.int x1, .ref 48], h)) rfl ?_
    obtain ⟨fs10, e10⟩ := RL_o hR (r := 48) (ci := 10) rfl
    refine gw_call (jj := 200) (As := [.ref 48, .int x1]) (rest := []) (hk _ _ rfl) (fun _ => rfl) rfl rfl (Nat.le_of_ble_eq_true rfl) (gm_rcv_v rfl e10 rfl) ?_
    refine ge_imp (w h hR) (fun v10 h w => ?_)
    obtain ⟨s_10, hR, rfl, w⟩ := w
    show gw (gt_T c.1 c.2.1 c.2.2.1) c.2.2.2 d 201 (44, [some (.ref 48), some (.int x1), some (.int x_2), some (.int x_9)], [], h) _
    refine gw_pst hk 2 (st' := (46, [some (.ref 48), some (.int x1), some (.int x_2), some (.int x_9)], [.int 0, .ref 48], h)) rfl ?_
    obtain ⟨fs11, e11⟩ := RL_o hR (r := 48) (ci := 10) rfl
    obtain ⟨l11, hR11⟩ := RL_pI (k := 12) (x := 0) hR rfl e11
    refine gw_pf (hk _ _ rfl) e11 l11 rfl ?_
    generalize gm_put h _ _ = h at hR11 ⊢
    obtain ⟨s_11, es11⟩ : ∃ z, z = gs_V s_10 48 12 0 := ⟨_, rfl⟩
    rw [← es11] at hR11
    replace w := w s_11 es11
    replace hR := hR11
    refine gw_pst hk 3 (st' := (52, [some (.ref 48), some (.int x1), some (.int x_2), some (.int x_9)], [.long ((x_9 : Int32).toInt64), .ref 48], h)) rfl ?_
    obtain ⟨fs12, e12⟩ := RL_o hR (r := 48) (ci := 10) rfl
    refine gw_call (jj := 157) (As := [.ref 48, .long ((x_9 : Int32).toInt64)]) (rest := []) (hk _ _ rfl) (fun _ => rfl) rfl rfl (Nat.le_of_ble_eq_true rfl) (gm_rcv_v rfl e12 rfl) ?_
    refine ge_imp (w h hR) (fun v12 h w => ?_)
    obtain ⟨s_12, hR, rfl, w⟩ := w
    show gw (gt_T c.1 c.2.1 c.2.2.1) c.2.2.2 d 201 (55, [some (.ref 48), some (.int x1), some (.int x_2), some (.int x_9)], [], h) _
    refine gw_pst hk 2 (st' := (57, [some (.ref 48), some (.int x1), some (.int x_2), some (.int x_9)], [.ref 48, .ref 48], h)) rfl ?_
    refine gw_gf (hk _ _ rfl) (RL_fR (n := 49) hR rfl) ?_
    refine gw_pst hk 1 (st' := (61, [some (.ref 48), some (.int x1), some (.int x_2), some (.int x_9)], [.int 5, .ref 49, .ref 48], h)) rfl ?_
    obtain ⟨b14, w⟩ := w
    refine gw_ald (hk _ _ rfl) (Or.inl ⟨rfl, rfl⟩) (RL_a (t := 0) (n := 108) hR rfl (by decide)) b14 ?_
    refine gw_pst hk 1 (st' := (63, [some (.ref 48), some (.int x1), some (.int x_2), some (.int x_9)], [.long ((gsA s_12 49 (5 : Int32).toNatClampNeg : Int32).toInt64), .ref 48], h)) rfl ?_
    obtain ⟨fs15, e15⟩ := RL_o hR (r := 48) (ci := 10) rfl
    refine gw_call (jj := 157) (As := [.ref 48, .long ((gsA s_12 49 (5 : Int32).toNatClampNeg : Int32).toInt64)]) (rest := []) (hk _ _ rfl) (fun _ => rfl) rfl rfl (Nat.le_of_ble_eq_true rfl) (gm_rcv_v rfl e15 rfl) ?_
    refine ge_imp (w h hR) (fun v15 h w => ?_)
    obtain ⟨s_15, hR, rfl, w⟩ := w
    show gw (gt_T c.1 c.2.1 c.2.2.1) c.2.2.2 d 201 (66, [some (.ref 48), some (.int x1), some (.int x_2), some (.int x_9)], [], h) _
    refine gw_pst hk 1 (st' := (67, [some (.ref 48), some (.int x1), some (.int x_2), some (.int x_9)], [.ref 48], h)) rfl ?_
    refine gw_gf (hk _ _ rfl) (RL_fR (n := 49) hR rfl) ?_
    refine gw_pst hk 1 (st' := (71, [some (.ref 48), some (.int x1), some (.int x_2), some (.int x_9)], [.int 1, .ref 49], h)) rfl ?_
    obtain ⟨b17, w⟩ := w
    refine gw_ald (hk _ _ rfl) (Or.inl ⟨rfl, rfl⟩) (RL_a (t := 0) (n := 108) hR rfl (by decide)) b17 ?_
    exact gw_ret (hk _ _ rfl) rfl ⟨_, hR, w⟩
  · replace w := w.2 z3
    refine gw_pst hk 1 (st' := (16, [some (.ref 48), some (.int x1), some (.int x_2), none], [.int x_2], h)) rfl ?_
    exact gw_ret (hk _ _ rfl) rfl ⟨_, hR, w⟩
/-- CommandByTurnsModel.halt()I -/
def wm202 (c : gx) (d : Nat) (Post : Option Value → gs → Prop)  (s : gs) : Prop :=
  ∀ s_1 : gs, s_1 = gs_V s 48 13 0 → tE c d 195 [.ref 48, .ref 49] s_1 (fun v3 s_3 => v3 = none ∧ vp_in 0 108 ∧ tE c d 184 [.ref 49, .int (gsA s_3 49 (0 : Int32).toNatClampNeg)] s_3 (fun v7 s_7 => ∃ x_7 : Int32, v7 = some (.int x_7) ∧ tE c d 197 [.ref 49] s_7 (fun v9 s_9 => v9 = none ∧ ∀ s_10 : gs, s_10 = gs_V s_9 48 12 0 → tE c d 157 [.ref 48, .long ((x_7 : Int32).toInt64)] s_10 (fun v11 s_11 => v11 = none ∧ vp_in 5 108 ∧ Post (some (.int (gsA s_11 49 (5 : Int32).toNatClampNeg))) s_11))))
theorem okm202 (c : gx) (d : Nat) (Post : Option Value → gs → Prop)  (s : gs) (w : wm202 c d Post  s) : tE c (d + 1) 202 [.ref 48] s Post := by
  intro h hR
  have hk : ∀ pc i, gm_find gk_202 pc = some i → gm_code (gt_T c.1 c.2.1 c.2.2.1) 202 pc = some i := fun _ _ z => z
  unfold wm202 at w
  refine ge_of (by decide) (Nat.le_of_ble_eq_true rfl) ?_
  show gw (gt_T c.1 c.2.1 c.2.2.1) c.2.2.2 d 202 (0, [some (.ref 48), none], [], h) _
  refine gw_pst hk 2 (st' := (2, [some (.ref 48), none], [.int 0, .ref 48], h)) rfl ?_
  obtain ⟨fs1, e1⟩ := RL_o hR (r := 48) (ci := 10) rfl
  obtain ⟨l1, hR1⟩ := RL_pI (k := 13) (x := 0) hR rfl e1
  refine gw_pf (hk _ _ rfl) e1 l1 rfl ?_
  generalize gm_put h _ _ = h at hR1 ⊢
  obtain ⟨s_1, es1⟩ : ∃ z, z = gs_V s 48 13 0 := ⟨_, rfl⟩
  rw [← es1] at hR1
  replace w := w s_1 es1
  replace hR := hR1
  refine gw_pst hk 2 (st' := (7, [some (.ref 48), none], [.ref 48, .ref 48], h)) rfl ?_
  refine gw_gf (hk _ _ rfl) (RL_fR (n := 49) hR rfl) ?_
  obtain ⟨fs3, e3⟩ := RL_o hR (r := 48) (ci := 10) rfl
  refine gw_call (jj := 195) (As := [.ref 48, .ref 49]) (rest := []) (hk _ _ rfl) (fun _ => rfl) rfl rfl (Nat.le_of_ble_eq_true rfl) (gm_rcv_v rfl e3 rfl) ?_
  refine ge_imp (w h hR) (fun v3 h w => ?_)
  obtain ⟨s_3, hR, rfl, w⟩ := w
  show gw (gt_T c.1 c.2.1 c.2.2.1) c.2.2.2 d 202 (13, [some (.ref 48), none], [], h) _
  refine gw_pst hk 1 (st' := (14, [some (.ref 48), none], [.ref 48], h)) rfl ?_
  refine gw_gf (hk _ _ rfl) (RL_fR (n := 49) hR rfl) ?_
  refine gw_pst hk 1 (st' := (18, [some (.ref 48), none], [.ref 48, .ref 49], h)) rfl ?_
  refine gw_gf (hk _ _ rfl) (RL_fR (n := 49) hR rfl) ?_
  refine gw_pst hk 1 (st' := (22, [some (.ref 48), none], [.int 0, .ref 49, .ref 49], h)) rfl ?_
  obtain ⟨b6, w⟩ := w
  refine gw_ald (hk _ _ rfl) (Or.inl ⟨rfl, rfl⟩) (RL_a (t := 0) (n := 108) hR rfl (by decide)) b6 ?_
  refine gw_call (jj := 184) (As := [.ref 49, .int (gsA s_3 49 (0 : Int32).toNatClampNeg)]) (rest := []) (hk _ _ rfl) (fun _ => rfl) rfl rfl (Nat.le_of_ble_eq_true rfl) rfl ?_
  refine ge_imp (w h hR) (fun v7 h w => ?_)
  obtain ⟨s_7, hR, x_7, rfl, w⟩ := w
  show gw (gt_T c.1 c.2.1 c.2.2.1) c.2.2.2 d 202 (26, [some (.ref 48), none], [.int x_7], h) _
  refine gw_pst hk 2 (st' := (28, [some (.ref 48), some (.int x_7)], [.ref 48], h)) rfl ?_
  refine gw_gf (hk _ _ rfl) (RL_fR (n := 49) hR rfl) ?_
  refine gw_call (jj := 197) (As := [.ref 49]) (rest := []) (hk _ _ rfl) (fun _ => rfl) rfl rfl (Nat.le_of_ble_eq_true rfl) rfl ?_
  refine ge_imp (w h hR) (fun v9 h w => ?_)
  obtain ⟨s_9, hR, rfl, w⟩ := w
  show gw (gt_T c.1 c.2.1 c.2.2.1) c.2.2.2 d 202 (34, [some (.ref 48), some (.int x_7)], [], h) _
  refine gw_pst hk 2 (st' := (36, [some (.ref 48), some (.int x_7)], [.int 0, .ref 48], h)) rfl ?_
  obtain ⟨fs10, e10⟩ := RL_o hR (r := 48) (ci := 10) rfl
  obtain ⟨l10, hR10⟩ := RL_pI (k := 12) (x := 0) hR rfl e10
  refine gw_pf (hk _ _ rfl) e10 l10 rfl ?_
  generalize gm_put h _ _ = h at hR10 ⊢
  obtain ⟨s_10, es10⟩ : ∃ z, z = gs_V s_9 48 12 0 := ⟨_, rfl⟩
  rw [← es10] at hR10
  replace w := w s_10 es10
  replace hR := hR10
  refine gw_pst hk 3 (st' := (42, [some (.ref 48), some (.int x_7)], [.long ((x_7 : Int32).toInt64), .ref 48], h)) rfl ?_
  obtain ⟨fs11, e11⟩ := RL_o hR (r := 48) (ci := 10) rfl
  refine gw_call (jj := 157) (As := [.ref 48, .long ((x_7 : Int32).toInt64)]) (rest := []) (hk _ _ rfl) (fun _ => rfl) rfl rfl (Nat.le_of_ble_eq_true rfl) (gm_rcv_v rfl e11 rfl) ?_
  refine ge_imp (w h hR) (fun v11 h w => ?_)
  obtain ⟨s_11, hR, rfl, w⟩ := w
  show gw (gt_T c.1 c.2.1 c.2.2.1) c.2.2.2 d 202 (45, [some (.ref 48), some (.int x_7)], [], h) _
  refine gw_pst hk 1 (st' := (46, [some (.ref 48), some (.int x_7)], [.ref 48], h)) rfl ?_
  refine gw_gf (hk _ _ rfl) (RL_fR (n := 49) hR rfl) ?_
  refine gw_pst hk 1 (st' := (50, [some (.ref 48), some (.int x_7)], [.int 5, .ref 49], h)) rfl ?_
  obtain ⟨b13, w⟩ := w
  refine gw_ald (hk _ _ rfl) (Or.inl ⟨rfl, rfl⟩) (RL_a (t := 0) (n := 108) hR rfl (by decide)) b13 ?_
  exact gw_ret (hk _ _ rfl) rfl ⟨_, hR, w⟩
def w203_47 (c : gx) (d : Nat) (Post : Option Value → gs → Prop) (xs0 : Int32) (s : gs) : Prop :=
  Post (some (.int xs0)) s
theorem ok203_47 (c : gx) (d : Nat) (Post : Option Value → gs → Prop)  (xs0 : Int32) (s : gs) (w : w203_47 c d Post xs0 s) : tV c d 203 47 [none, none] [.int xs0] s Post := by
  intro h hR
  have hk : ∀ pc i, gm_find gk_203 pc = some i → gm_code (gt_T c.1 c.2.1 c.2.2.1) 203 pc = some i := fun _ _ z => z
  unfold w203_47 at w
  unfold gV
  exact gw_ret (hk _ _ rfl) rfl ⟨_, hR, w⟩
def w203_41 (c : gx) (d : Nat) (Post : Option Value → gs → Prop)  (s : gs) : Prop :=
  w203_47 c d Post (-4) s
theorem ok203_41 (c : gx) (d : Nat) (Post : Option Value → gs → Prop)   (s : gs) (w : w203_41 c d Post  s) : tV c d 203 41 [none, none] [] s Post := by
  intro h hR
  have hk : ∀ pc i, gm_find gk_203 pc = some i → gm_code (gt_T c.1 c.2.1 c.2.2.1) 203 pc = some i := fun _ _ z => z
  unfold w203_41 at w
  unfold gV
  refine gw_pst hk 2 (st' := (47, [none, none], [.int (-4)], h)) rfl ?_
  exact ok203_47 c d Post _ _ w _ hR
/-- CommandByTurnsModel.refusesFight([I)I -/
def wm203 (c : gx) (d : Nat) (Post : Option Value → gs → Prop) (r1 : Nat) (s : gs) : Prop :=
  ∃ n1, gs_isA r1 0 n1 = true ∧ vp_in 0 n1 ∧ tE c d 184 [.ref r1, .int (gsA s r1 (0 : Int32).toNatClampNeg)] s (fun v2 s_2 => ∃ x_2 : Int32, v2 = some (.int x_2) ∧ ((x_2 = (-1) → Post (some (.int (-2))) s_2) ∧ (¬ (x_2 = (-1)) → ∃ n4, gs_isA r1 0 n4 = true ∧ vp_in 1 n4 ∧ ∃ n5, gs_isA r1 0 n5 = true ∧ vp_in 2 n5 ∧ tE c d 185 [.int (gsA s_2 r1 (1 : Int32).toNatClampNeg), .int (gsA s_2 r1 (2 : Int32).toNatClampNeg)] s_2 (fun v6 s_6 => ∃ x_6 : Int32, v6 = some (.int x_6) ∧ ((x_6 = 0 → Post (some (.int (-3))) s_6) ∧ (¬ (x_6 = 0) → ∃ n8, gs_isA r1 0 n8 = true ∧ vp_in 3 n8 ∧ (((gsA s_6 r1 (3 : Int32).toNatClampNeg) = 0 → w203_41 c d Post s_6) ∧ (¬ ((gsA s_6 r1 (3 : Int32).toNatClampNeg) = 0) → ∃ n10, gs_isA r1 0 n10 = true ∧ vp_in 4 n10 ∧ (((gsA s_6 r1 (4 : Int32).toNatClampNeg) = 0 → w203_41 c d Post s_6) ∧ (¬ ((gsA s_6 r1 (4 : Int32).toNatClampNeg) = 0) → w203_47 c d Post 0 s_6))))))))))
theorem okm203 (c : gx) (d : Nat) (Post : Option Value → gs → Prop) (r1 : Nat) (s : gs) (w : wm203 c d Post r1 s) : tE c (d + 1) 203 [.ref 48, .ref r1] s Post := by
  intro h hR
  have hk : ∀ pc i, gm_find gk_203 pc = some i → gm_code (gt_T c.1 c.2.1 c.2.2.1) 203 pc = some i := fun _ _ z => z
  unfold wm203 at w
  refine ge_of (by decide) (Nat.le_of_ble_eq_true rfl) ?_
  show gw (gt_T c.1 c.2.1 c.2.2.1) c.2.2.2 d 203 (0, [some (.ref 48), some (.ref r1)], [], h) _
  refine gw_pst hk 3 (st' := (3, [some (.ref 48), some (.ref r1)], [.int 0, .ref r1, .ref r1], h)) rfl ?_
  obtain ⟨n1, a1, b1, w⟩ := w
  refine gw_ald (hk _ _ rfl) (Or.inl ⟨rfl, rfl⟩) (RL_a (t := 0) (n := n1) hR a1 (by decide)) b1 ?_
  refine gw_call (jj := 184) (As := [.ref r1, .int (gsA s r1 (0 : Int32).toNatClampNeg)]) (rest := []) (hk _ _ rfl) (fun _ => rfl) rfl rfl (Nat.le_of_ble_eq_true rfl) rfl ?_
  refine ge_imp (w h hR) (fun v2 h w => ?_)
  obtain ⟨s_2, hR, x_2, rfl, w⟩ := w
  show gw (gt_T c.1 c.2.1 c.2.2.1) c.2.2.2 d 203 (7, [some (.ref 48), some (.ref r1)], [.int x_2], h) _
  refine gw_pst hk 1 (st' := (8, [some (.ref 48), some (.ref r1)], [.int (-1), .int x_2], h)) rfl ?_
  refine gw_br (c := x_2 = (-1)) (a := (11, [some (.ref 48), some (.ref r1)], [], h)) (b := (14, [some (.ref 48), some (.ref r1)], [], h)) (hk _ _ rfl) rfl ⟨fun z3 => ?_, fun z3 => ?_⟩
  · replace w := w.1 z3
    refine gw_pst hk 1 (st' := (13, [some (.ref 48), some (.ref r1)], [.int (-2)], h)) rfl ?_
    exact gw_ret (hk _ _ rfl) rfl ⟨_, hR, w⟩
  · replace w := w.2 z3
    refine gw_pst hk 2 (st' := (16, [some (.ref 48), some (.ref r1)], [.int 1, .ref r1], h)) rfl ?_
    obtain ⟨n4, a4, b4, w⟩ := w
    refine gw_ald (hk _ _ rfl) (Or.inl ⟨rfl, rfl⟩) (RL_a (t := 0) (n := n4) hR a4 (by decide)) b4 ?_
    refine gw_pst hk 2 (st' := (19, [some (.ref 48), some (.ref r1)], [.int 2, .ref r1, .int (gsA s_2 r1 (1 : Int32).toNatClampNeg)], h)) rfl ?_
    obtain ⟨n5, a5, b5, w⟩ := w
    refine gw_ald (hk _ _ rfl) (Or.inl ⟨rfl, rfl⟩) (RL_a (t := 0) (n := n5) hR a5 (by decide)) b5 ?_
    refine gw_call (jj := 185) (As := [.int (gsA s_2 r1 (1 : Int32).toNatClampNeg), .int (gsA s_2 r1 (2 : Int32).toNatClampNeg)]) (rest := []) (hk _ _ rfl) (fun _ => rfl) rfl rfl (Nat.le_of_ble_eq_true rfl) rfl ?_
    refine ge_imp (w h hR) (fun v6 h w => ?_)
    obtain ⟨s_6, hR, x_6, rfl, w⟩ := w
    show gw (gt_T c.1 c.2.1 c.2.2.1) c.2.2.2 d 203 (23, [some (.ref 48), some (.ref r1)], [.int x_6], h) _
    refine gw_br (c := x_6 = 0) (a := (26, [some (.ref 48), some (.ref r1)], [], h)) (b := (29, [some (.ref 48), some (.ref r1)], [], h)) (hk _ _ rfl) rfl ⟨fun z7 => ?_, fun z7 => ?_⟩
    · replace w := w.1 z7
      refine gw_pst hk 1 (st' := (28, [some (.ref 48), some (.ref r1)], [.int (-3)], h)) rfl ?_
      exact gw_ret (hk _ _ rfl) rfl ⟨_, hR, w⟩
    · replace w := w.2 z7
      refine gw_pst hk 2 (st' := (31, [some (.ref 48), some (.ref r1)], [.int 3, .ref r1], h)) rfl ?_
      obtain ⟨n8, a8, b8, w⟩ := w
      refine gw_ald (hk _ _ rfl) (Or.inl ⟨rfl, rfl⟩) (RL_a (t := 0) (n := n8) hR a8 (by decide)) b8 ?_
      refine gw_br (c := (gsA s_6 r1 (3 : Int32).toNatClampNeg) = 0) (a := (41, [some (.ref 48), some (.ref r1)], [], h)) (b := (35, [some (.ref 48), some (.ref r1)], [], h)) (hk _ _ rfl) rfl ⟨fun z9 => ?_, fun z9 => ?_⟩
      · replace w := w.1 z9
        refine gw_le (L' := [none, none]) (gm_le_n _ (gm_le_n _ gm_le_nil)) ?_
        exact ok203_41 c d Post _ w _ hR
      · replace w := w.2 z9
        refine gw_pst hk 2 (st' := (37, [some (.ref 48), some (.ref r1)], [.int 4, .ref r1], h)) rfl ?_
        obtain ⟨n10, a10, b10, w⟩ := w
        refine gw_ald (hk _ _ rfl) (Or.inl ⟨rfl, rfl⟩) (RL_a (t := 0) (n := n10) hR a10 (by decide)) b10 ?_
        refine gw_br (c := (gsA s_6 r1 (4 : Int32).toNatClampNeg) = 0) (a := (41, [some (.ref 48), some (.ref r1)], [], h)) (b := (46, [some (.ref 48), some (.ref r1)], [], h)) (hk _ _ rfl) rfl ⟨fun z11 => ?_, fun z11 => ?_⟩
        · replace w := w.1 z11
          refine gw_le (L' := [none, none]) (gm_le_n _ (gm_le_n _ gm_le_nil)) ?_
          exact ok203_41 c d Post _ w _ hR
        · replace w := w.2 z11
          refine gw_pst hk 1 (st' := (47, [some (.ref 48), some (.ref r1)], [.int 0], h)) rfl ?_
          refine gw_le (L' := [none, none]) (gm_le_n _ (gm_le_n _ gm_le_nil)) ?_
          exact ok203_47 c d Post _ _ w _ hR
def w204_44 (c : gx) (d : Nat) (Post : Option Value → gs → Prop) (r1 : Nat) (x2 : Int32) (x3 : Int32) (xs0 : Int32) (s : gs) : Prop :=
  ∃ n1, gs_isA r1 0 n1 = true ∧ vp_in 3 n1 ∧ ∃ n2, gs_isA r1 0 n2 = true ∧ vp_in 3 n2 ∧ ∀ s_2 : gs, s_2 = gs_A s r1 (3 : Int32).toNatClampNeg (vp_nar .int (if 0 < ((gsA s r1 (3 : Int32).toNatClampNeg) - x3) then ((gsA s r1 (3 : Int32).toNatClampNeg) - x3) else 0)) → ∃ n3, gs_isA r1 0 n3 = true ∧ vp_in 4 n3 ∧ ∃ n4, gs_isA r1 0 n4 = true ∧ vp_in 4 n4 ∧ ∀ s_4 : gs, s_4 = gs_A s_2 r1 (4 : Int32).toNatClampNeg (vp_nar .int (if 0 < ((gsA s_2 r1 (4 : Int32).toNatClampNeg) - xs0) then ((gsA s_2 r1 (4 : Int32).toNatClampNeg) - xs0) else 0)) → Post (some (.int x2)) s_4
theorem ok204_44 (c : gx) (d : Nat) (Post : Option Value → gs → Prop)  (r1 : Nat) (x2 : Int32) (x3 : Int32) (xs0 : Int32) (s : gs) (w : w204_44 c d Post r1 x2 x3 xs0 s) : tV c d 204 44 [none, some (.ref r1), some (.int x2), some (.int x3), none] [.int xs0] s Post := by
  intro h hR
  have hk : ∀ pc i, gm_find gk_204 pc = some i → gm_code (gt_T c.1 c.2.1 c.2.2.1) 204 pc = some i := fun _ _ z => z
  unfold w204_44 at w
  unfold gV
  refine gw_pst hk 6 (st' := (51, [none, some (.ref r1), some (.int x2), some (.int x3), some (.int xs0)], [.int 3, .ref r1, .int 0, .int 3, .ref r1], h)) rfl ?_
  obtain ⟨n1, a1, b1, w⟩ := w
  refine gw_ald (hk _ _ rfl) (Or.inl ⟨rfl, rfl⟩) (RL_a (t := 0) (n := n1) hR a1 (by decide)) b1 ?_
  refine gw_pst hk 3 (st' := (57, [none, some (.ref r1), some (.int x2), some (.int x3), some (.int xs0)], [.int (if 0 < ((gsA s r1 (3 : Int32).toNatClampNeg) - x3) then ((gsA s r1 (3 : Int32).toNatClampNeg) - x3) else 0), .int 3, .ref r1], h)) rfl ?_
  obtain ⟨n2, a2, b2, w⟩ := w
  have hR2 := RL_pA (a := r1) (t := 0) (n := n2) (k := (3 : Int32).toNatClampNeg) (x := (vp_nar .int (if 0 < ((gsA s r1 (3 : Int32).toNatClampNeg) - x3) then ((gsA s r1 (3 : Int32).toNatClampNeg) - x3) else 0))) hR a2 (by decide)
  refine gw_ast (hk _ _ rfl) (Or.inl ⟨rfl, rfl, rfl⟩) (RL_a (t := 0) (n := n2) hR a2 (by decide)) b2 ?_
  generalize gm_put h _ _ = h at hR2 ⊢
  obtain ⟨s_2, es2⟩ : ∃ z, z = gs_A s r1 (3 : Int32).toNatClampNeg (vp_nar .int (if 0 < ((gsA s r1 (3 : Int32).toNatClampNeg) - x3) then ((gsA s r1 (3 : Int32).toNatClampNeg) - x3) else 0)) := ⟨_, rfl⟩
  rw [← es2] at hR2
  replace w := w s_2 es2
  replace hR := hR2
  refine gw_pst hk 5 (st' := (63, [none, some (.ref r1), some (.int x2), some (.int x3), some (.int xs0)], [.int 4, .ref r1, .int 0, .int 4, .ref r1], h)) rfl ?_
  obtain ⟨n3, a3, b3, w⟩ := w
  refine gw_ald (hk _ _ rfl) (Or.inl ⟨rfl, rfl⟩) (RL_a (t := 0) (n := n3) hR a3 (by decide)) b3 ?_
  refine gw_pst hk 3 (st' := (70, [none, some (.ref r1), some (.int x2), some (.int x3), some (.int xs0)], [.int (if 0 < ((gsA s_2 r1 (4 : Int32).toNatClampNeg) - xs0) then ((gsA s_2 r1 (4 : Int32).toNatClampNeg) - xs0) else 0), .int 4, .ref r1], h)) rfl ?_
  obtain ⟨n4, a4, b4, w⟩ := w
  have hR4 := RL_pA (a := r1) (t := 0) (n := n4) (k := (4 : Int32).toNatClampNeg) (x := (vp_nar .int (if 0 < ((gsA s_2 r1 (4 : Int32).toNatClampNeg) - xs0) then ((gsA s_2 r1 (4 : Int32).toNatClampNeg) - xs0) else 0))) hR a4 (by decide)
  refine gw_ast (hk _ _ rfl) (Or.inl ⟨rfl, rfl, rfl⟩) (RL_a (t := 0) (n := n4) hR a4 (by decide)) b4 ?_
  generalize gm_put h _ _ = h at hR4 ⊢
  obtain ⟨s_4, es4⟩ : ∃ z, z = gs_A s_2 r1 (4 : Int32).toNatClampNeg (vp_nar .int (if 0 < ((gsA s_2 r1 (4 : Int32).toNatClampNeg) - xs0) then ((gsA s_2 r1 (4 : Int32).toNatClampNeg) - xs0) else 0)) := ⟨_, rfl⟩
  rw [← es4] at hR4
  replace w := w s_4 es4
  replace hR := hR4
  refine gw_pst hk 1 (st' := (72, [none, some (.ref r1), some (.int x2), some (.int x3), some (.int xs0)], [.int x2], h)) rfl ?_
  exact gw_ret (hk _ _ rfl) rfl ⟨_, hR, w⟩
def w204_31 (c : gx) (d : Nat) (Post : Option Value → gs → Prop) (r1 : Nat) (x2 : Int32) (xs0 : Int32) (s : gs) : Prop :=
  ((x2 ≤ 0 → w204_44 c d Post r1 x2 xs0 ((-x2) / 3) s) ∧ (¬ (x2 ≤ 0) → w204_44 c d Post r1 x2 xs0 x2 s))
theorem ok204_31 (c : gx) (d : Nat) (Post : Option Value → gs → Prop)  (r1 : Nat) (x2 : Int32) (xs0 : Int32) (s : gs) (w : w204_31 c d Post r1 x2 xs0 s) : tV c d 204 31 [none, some (.ref r1), some (.int x2), none, none] [.int xs0] s Post := by
  intro h hR
  have hk : ∀ pc i, gm_find gk_204 pc = some i → gm_code (gt_T c.1 c.2.1 c.2.2.1) 204 pc = some i := fun _ _ z => z
  unfold w204_31 at w
  unfold gV
  refine gw_pst hk 2 (st' := (33, [none, some (.ref r1), some (.int x2), some (.int xs0), none], [.int x2], h)) rfl ?_
  refine gw_br (c := x2 ≤ 0) (a := (40, [none, some (.ref r1), some (.int x2), some (.int xs0), none], [], h)) (b := (36, [none, some (.ref r1), some (.int x2), some (.int xs0), none], [], h)) (hk _ _ rfl) rfl ⟨fun z1 => ?_, fun z1 => ?_⟩
  · replace w := w.1 z1
    refine gw_pst hk 3 (st' := (43, [none, some (.ref r1), some (.int x2), some (.int xs0), none], [.int 3, .int (-x2)], h)) rfl ?_
    refine gw_idiv (hk _ _ rfl) (by decide) ?_ rfl
    exact ok204_44 c d Post _ _ _ _ _ w _ hR
  · replace w := w.2 z1
    refine gw_pst hk 2 (st' := (44, [none, some (.ref r1), some (.int x2), some (.int xs0), none], [.int x2], h)) rfl ?_
    exact ok204_44 c d Post _ _ _ _ _ w _ hR
/-- CommandByTurnsModel.goBattle([I)I -/
def wm204 (c : gx) (d : Nat) (Post : Option Value → gs → Prop) (r1 : Nat) (s : gs) : Prop :=
  ∃ n1, gs_isA r1 0 n1 = true ∧ vp_in 0 n1 ∧ tE c d 184 [.ref r1, .int (gsA s r1 (0 : Int32).toNatClampNeg)] s (fun v2 s_2 => ∃ x_2 : Int32, v2 = some (.int x_2) ∧ ∃ n3, gs_isA r1 0 n3 = true ∧ vp_in 1 n3 ∧ ∃ n4, gs_isA r1 0 n4 = true ∧ vp_in 0 n4 ∧ tE c d 182 [.ref 48, .ref r1, .int x_2, .int (gsA s_2 r1 (1 : Int32).toNatClampNeg), .int (gsA s_2 r1 (0 : Int32).toNatClampNeg)] s_2 (fun v5 s_5 => ∃ x_5 : Int32, v5 = some (.int x_5) ∧ ((x_5 ≤ 0 → w204_31 c d Post r1 x_5 (-x_5) s_5) ∧ (¬ (x_5 ≤ 0) → w204_31 c d Post r1 x_5 (x_5 / 3) s_5))))
theorem okm204 (c : gx) (d : Nat) (Post : Option Value → gs → Prop) (r1 : Nat) (s : gs) (w : wm204 c d Post r1 s) : tE c (d + 1) 204 [.ref 48, .ref r1] s Post := by
  intro h hR
  have hk : ∀ pc i, gm_find gk_204 pc = some i → gm_code (gt_T c.1 c.2.1 c.2.2.1) 204 pc = some i := fun _ _ z => z
  unfold wm204 at w
  refine ge_of (by decide) (Nat.le_of_ble_eq_true rfl) ?_
  show gw (gt_T c.1 c.2.1 c.2.2.1) c.2.2.2 d 204 (0, [some (.ref 48), some (.ref r1), none, none, none], [], h) _
  refine gw_pst hk 5 (st' := (5, [some (.ref 48), some (.ref r1), none, none, none], [.int 0, .ref r1, .ref r1, .ref r1, .ref 48], h)) rfl ?_
  obtain ⟨n1, a1, b1, w⟩ := w
  refine gw_ald (hk _ _ rfl) (Or.inl ⟨rfl, rfl⟩) (RL_a (t := 0) (n := n1) hR a1 (by decide)) b1 ?_
  refine gw_call (jj := 184) (As := [.ref r1, .int (gsA s r1 (0 : Int32).toNatClampNeg)]) (rest := [.ref r1, .ref 48]) (hk _ _ rfl) (fun _ => rfl) rfl rfl (Nat.le_of_ble_eq_true rfl) rfl ?_
  refine ge_imp (w h hR) (fun v2 h w => ?_)
  obtain ⟨s_2, hR, x_2, rfl, w⟩ := w
  show gw (gt_T c.1 c.2.1 c.2.2.1) c.2.2.2 d 204 (9, [some (.ref 48), some (.ref r1), none, none, none], [.int x_2, .ref r1, .ref 48], h) _
  refine gw_pst hk 2 (st' := (11, [some (.ref 48), some (.ref r1), none, none, none], [.int 1, .ref r1, .int x_2, .ref r1, .ref 48], h)) rfl ?_
  obtain ⟨n3, a3, b3, w⟩ := w
  refine gw_ald (hk _ _ rfl) (Or.inl ⟨rfl, rfl⟩) (RL_a (t := 0) (n := n3) hR a3 (by decide)) b3 ?_
  refine gw_pst hk 2 (st' := (14, [some (.ref 48), some (.ref r1), none, none, none], [.int 0, .ref r1, .int (gsA s_2 r1 (1 : Int32).toNatClampNeg), .int x_2, .ref r1, .ref 48], h)) rfl ?_
  obtain ⟨n4, a4, b4, w⟩ := w
  refine gw_ald (hk _ _ rfl) (Or.inl ⟨rfl, rfl⟩) (RL_a (t := 0) (n := n4) hR a4 (by decide)) b4 ?_
  obtain ⟨fs5, e5⟩ := RL_o hR (r := 48) (ci := 10) rfl
  refine gw_call (jj := 182) (As := [.ref 48, .ref r1, .int x_2, .int (gsA s_2 r1 (1 : Int32).toNatClampNeg), .int (gsA s_2 r1 (0 : Int32).toNatClampNeg)]) (rest := []) (hk _ _ rfl) (fun _ => rfl) rfl rfl (Nat.le_of_ble_eq_true rfl) (gm_rcv_v rfl e5 rfl) ?_
  refine ge_imp (w h hR) (fun v5 h w => ?_)
  obtain ⟨s_5, hR, x_5, rfl, w⟩ := w
  show gw (gt_T c.1 c.2.1 c.2.2.1) c.2.2.2 d 204 (18, [some (.ref 48), some (.ref r1), none, none, none], [.int x_5], h) _
  refine gw_pst hk 2 (st' := (20, [some (.ref 48), some (.ref r1), some (.int x_5), none, none], [.int x_5], h)) rfl ?_
  refine gw_br (c := x_5 ≤ 0) (a := (29, [some (.ref 48), some (.ref r1), some (.int x_5), none, none], [], h)) (b := (23, [some (.ref 48), some (.ref r1), some (.int x_5), none, none], [], h)) (hk _ _ rfl) rfl ⟨fun z6 => ?_, fun z6 => ?_⟩
  · replace w := w.1 z6
    refine gw_pst hk 2 (st' := (31, [some (.ref 48), some (.ref r1), some (.int x_5), none, none], [.int (-x_5)], h)) rfl ?_
    refine gw_le (L' := [none, some (.ref r1), some (.int x_5), none, none]) (gm_le_n _ (gm_le_k _ (gm_le_k _ (gm_le_k _ (gm_le_k _ gm_le_nil))))) ?_
    exact ok204_31 c d Post _ _ _ _ w _ hR
  · replace w := w.2 z6
    refine gw_pst hk 2 (st' := (25, [some (.ref 48), some (.ref r1), some (.int x_5), none, none], [.int 3, .int x_5], h)) rfl ?_
    refine gw_idiv (hk _ _ rfl) (by decide) ?_ rfl
    refine gw_pst hk 1 (st' := (31, [some (.ref 48), some (.ref r1), some (.int x_5), none, none], [.int (x_5 / 3)], h)) rfl ?_
    refine gw_le (L' := [none, some (.ref r1), some (.int x_5), none, none]) (gm_le_n _ (gm_le_k _ (gm_le_k _ (gm_le_k _ (gm_le_k _ gm_le_nil))))) ?_
    exact ok204_31 c d Post _ _ _ _ w _ hR
/-- CommandByTurnsModel.fight()I -/
def wm205 (c : gx) (d : Nat) (Post : Option Value → gs → Prop)  (s : gs) : Prop :=
  ∀ s_1 : gs, s_1 = gs_V s 48 13 0 → tE c d 203 [.ref 48, .ref 49] s_1 (fun v3 s_3 => ∃ x_3 : Int32, v3 = some (.int x_3) ∧ ((0 ≤ x_3 → tE c d 195 [.ref 48, .ref 49] s_3 (fun v6 s_6 => v6 = none ∧ tE c d 204 [.ref 48, .ref 49] s_6 (fun v8 s_8 => ∃ x_8 : Int32, v8 = some (.int x_8) ∧ ∀ s_9 : gs, s_9 = gs_V s_8 48 12 0 → vp_in 3 108 ∧ tE c d 157 [.ref 48, .long ((gsA s_9 49 (3 : Int32).toNatClampNeg : Int32).toInt64)] s_9 (fun v12 s_12 => v12 = none ∧ vp_in 4 108 ∧ tE c d 157 [.ref 48, .long ((gsA s_12 49 (4 : Int32).toNatClampNeg : Int32).toInt64)] s_12 (fun v15 s_15 => v15 = none ∧ tE c d 197 [.ref 49] s_15 (fun v17 s_17 => v17 = none ∧ Post (some (.int (501 + x_8))) s_17)))))) ∧ (¬ (0 ≤ x_3) → Post (some (.int x_3)) s_3)))
theorem okm205 (c : gx) (d : Nat) (Post : Option Value → gs → Prop)  (s : gs) (w : wm205 c d Post  s) : tE c (d + 1) 205 [.ref 48] s Post := by
  intro h hR
  have hk : ∀ pc i, gm_find gk_205 pc = some i → gm_code (gt_T c.1 c.2.1 c.2.2.1) 205 pc = some i := fun _ _ z => z
  unfold wm205 at w
  refine ge_of (by decide) (Nat.le_of_ble_eq_true rfl) ?_
  show gw (gt_T c.1 c.2.1 c.2.2.1) c.2.2.2 d 205 (0, [some (.ref 48), none, none], [], h) _
  refine gw_pst hk 2 (st' := (2, [some (.ref 48), none, none], [.int 0, .ref 48], h)) rfl ?_
  obtain ⟨fs1, e1⟩ := RL_o hR (r := 48) (ci := 10) rfl
  obtain ⟨l1, hR1⟩ := RL_pI (k := 13) (x := 0) hR rfl e1
  refine gw_pf (hk _ _ rfl) e1 l1 rfl ?_
  generalize gm_put h _ _ = h at hR1 ⊢
  obtain ⟨s_1, es1⟩ : ∃ z, z = gs_V s 48 13 0 := ⟨_, rfl⟩
  rw [← es1] at hR1
  replace w := w s_1 es1
  replace hR := hR1
  refine gw_pst hk 2 (st' := (7, [some (.ref 48), none, none], [.ref 48, .ref 48], h)) rfl ?_
  refine gw_gf (hk _ _ rfl) (RL_fR (n := 49) hR rfl) ?_
  obtain ⟨fs3, e3⟩ := RL_o hR (r := 48) (ci := 10) rfl
  refine gw_call (jj := 203) (As := [.ref 48, .ref 49]) (rest := []) (hk _ _ rfl) (fun _ => rfl) rfl rfl (Nat.le_of_ble_eq_true rfl) (gm_rcv_v rfl e3 rfl) ?_
  refine ge_imp (w h hR) (fun v3 h w => ?_)
  obtain ⟨s_3, hR, x_3, rfl, w⟩ := w
  show gw (gt_T c.1 c.2.1 c.2.2.1) c.2.2.2 d 205 (13, [some (.ref 48), none, none], [.int x_3], h) _
  refine gw_pst hk 2 (st' := (15, [some (.ref 48), some (.int x_3), none], [.int x_3], h)) rfl ?_
  refine gw_br (c := 0 ≤ x_3) (a := (20, [some (.ref 48), some (.int x_3), none], [], h)) (b := (18, [some (.ref 48), some (.int x_3), none], [], h)) (hk _ _ rfl) rfl ⟨fun z4 => ?_, fun z4 => ?_⟩
  · replace w := w.1 z4
    refine gw_pst hk 2 (st' := (22, [some (.ref 48), some (.int x_3), none], [.ref 48, .ref 48], h)) rfl ?_
    refine gw_gf (hk _ _ rfl) (RL_fR (n := 49) hR rfl) ?_
    obtain ⟨fs6, e6⟩ := RL_o hR (r := 48) (ci := 10) rfl
    refine gw_call (jj := 195) (As := [.ref 48, .ref 49]) (rest := []) (hk _ _ rfl) (fun _ => rfl) rfl rfl (Nat.le_of_ble_eq_true rfl) (gm_rcv_v rfl e6 rfl) ?_
    refine ge_imp (w h hR) (fun v6 h w => ?_)
    obtain ⟨s_6, hR, rfl, w⟩ := w
    show gw (gt_T c.1 c.2.1 c.2.2.1) c.2.2.2 d 205 (28, [some (.ref 48), some (.int x_3), none], [], h) _
    refine gw_pst hk 2 (st' := (30, [some (.ref 48), some (.int x_3), none], [.ref 48, .ref 48], h)) rfl ?_
    refine gw_gf (hk _ _ rfl) (RL_fR (n := 49) hR rfl) ?_
    obtain ⟨fs8, e8⟩ := RL_o hR (r := 48) (ci := 10) rfl
    refine gw_call (jj := 204) (As := [.ref 48, .ref 49]) (rest := []) (hk _ _ rfl) (fun _ => rfl) rfl rfl (Nat.le_of_ble_eq_true rfl) (gm_rcv_v rfl e8 rfl) ?_
    refine ge_imp (w h hR) (fun v8 h w => ?_)
    obtain ⟨s_8, hR, x_8, rfl, w⟩ := w
    show gw (gt_T c.1 c.2.1 c.2.2.1) c.2.2.2 d 205 (36, [some (.ref 48), some (.int x_3), none], [.int x_8], h) _
    refine gw_pst hk 3 (st' := (39, [some (.ref 48), some (.int x_3), some (.int x_8)], [.int 0, .ref 48], h)) rfl ?_
    obtain ⟨fs9, e9⟩ := RL_o hR (r := 48) (ci := 10) rfl
    obtain ⟨l9, hR9⟩ := RL_pI (k := 12) (x := 0) hR rfl e9
    refine gw_pf (hk _ _ rfl) e9 l9 rfl ?_
    generalize gm_put h _ _ = h at hR9 ⊢
    obtain ⟨s_9, es9⟩ : ∃ z, z = gs_V s_8 48 12 0 := ⟨_, rfl⟩
    rw [← es9] at hR9
    replace w := w s_9 es9
    replace hR := hR9
    refine gw_pst hk 2 (st' := (44, [some (.ref 48), some (.int x_3), some (.int x_8)], [.ref 48, .ref 48], h)) rfl ?_
    refine gw_gf (hk _ _ rfl) (RL_fR (n := 49) hR rfl) ?_
    refine gw_pst hk 1 (st' := (48, [some (.ref 48), some (.int x_3), some (.int x_8)], [.int 3, .ref 49, .ref 48], h)) rfl ?_
    obtain ⟨b11, w⟩ := w
    refine gw_ald (hk _ _ rfl) (Or.inl ⟨rfl, rfl⟩) (RL_a (t := 0) (n := 108) hR rfl (by decide)) b11 ?_
    refine gw_pst hk 1 (st' := (50, [some (.ref 48), some (.int x_3), some (.int x_8)], [.long ((gsA s_9 49 (3 : Int32).toNatClampNeg : Int32).toInt64), .ref 48], h)) rfl ?_
    obtain ⟨fs12, e12⟩ := RL_o hR (r := 48) (ci := 10) rfl
    refine gw_call (jj := 157) (As := [.ref 48, .long ((gsA s_9 49 (3 : Int32).toNatClampNeg : Int32).toInt64)]) (rest := []) (hk _ _ rfl) (fun _ => rfl) rfl rfl (Nat.le_of_ble_eq_true rfl) (gm_rcv_v rfl e12 rfl) ?_
    refine ge_imp (w h hR) (fun v12 h w => ?_)
    obtain ⟨s_12, hR, rfl, w⟩ := w
    show gw (gt_T c.1 c.2.1 c.2.2.1) c.2.2.2 d 205 (53, [some (.ref 48), some (.int x_3), some (.int x_8)], [], h) _
    refine gw_pst hk 2 (st' := (55, [some (.ref 48), some (.int x_3), some (.int x_8)], [.ref 48, .ref 48], h)) rfl ?_
    refine gw_gf (hk _ _ rfl) (RL_fR (n := 49) hR rfl) ?_
    refine gw_pst hk 1 (st' := (59, [some (.ref 48), some (.int x_3), some (.int x_8)], [.int 4, .ref 49, .ref 48], h)) rfl ?_
    obtain ⟨b14, w⟩ := w
    refine gw_ald (hk _ _ rfl) (Or.inl ⟨rfl, rfl⟩) (RL_a (t := 0) (n := 108) hR rfl (by decide)) b14 ?_
    refine gw_pst hk 1 (st' := (61, [some (.ref 48), some (.int x_3), some (.int x_8)], [.long ((gsA s_12 49 (4 : Int32).toNatClampNeg : Int32).toInt64), .ref 48], h)) rfl ?_
    obtain ⟨fs15, e15⟩ := RL_o hR (r := 48) (ci := 10) rfl
    refine gw_call (jj := 157) (As := [.ref 48, .long ((gsA s_12 49 (4 : Int32).toNatClampNeg : Int32).toInt64)]) (rest := []) (hk _ _ rfl) (fun _ => rfl) rfl rfl (Nat.le_of_ble_eq_true rfl) (gm_rcv_v rfl e15 rfl) ?_
    refine ge_imp (w h hR) (fun v15 h w => ?_)
    obtain ⟨s_15, hR, rfl, w⟩ := w
    show gw (gt_T c.1 c.2.1 c.2.2.1) c.2.2.2 d 205 (64, [some (.ref 48), some (.int x_3), some (.int x_8)], [], h) _
    refine gw_pst hk 1 (st' := (65, [some (.ref 48), some (.int x_3), some (.int x_8)], [.ref 48], h)) rfl ?_
    refine gw_gf (hk _ _ rfl) (RL_fR (n := 49) hR rfl) ?_
    refine gw_call (jj := 197) (As := [.ref 49]) (rest := []) (hk _ _ rfl) (fun _ => rfl) rfl rfl (Nat.le_of_ble_eq_true rfl) rfl ?_
    refine ge_imp (w h hR) (fun v17 h w => ?_)
    obtain ⟨s_17, hR, rfl, w⟩ := w
    show gw (gt_T c.1 c.2.1 c.2.2.1) c.2.2.2 d 205 (71, [some (.ref 48), some (.int x_3), some (.int x_8)], [], h) _
    refine gw_pst hk 3 (st' := (76, [some (.ref 48), some (.int x_3), some (.int x_8)], [.int (501 + x_8)], h)) rfl ?_
    exact gw_ret (hk _ _ rfl) rfl ⟨_, hR, w⟩
  · replace w := w.2 z4
    refine gw_pst hk 1 (st' := (19, [some (.ref 48), some (.int x_3), none], [.int x_3], h)) rfl ?_
    exact gw_ret (hk _ _ rfl) rfl ⟨_, hR, w⟩
/-- CommandByTurnsModel.foe(I)I -/
def wm206 (c : gx) (d : Nat) (Post : Option Value → gs → Prop) (x1 : Int32) (s : gs) : Prop :=
  ∀ s_1 : gs, s_1 = gs_V s 48 13 0 → tE c d 158 [.ref 48, .int x1] s_1 (fun v2 s_2 => ∃ x_2 : Int32, v2 = some (.int x_2) ∧ ((x_2 = 0 → Post (some (.int (-1))) s_2) ∧ (¬ (x_2 = 0) → tE c d 195 [.ref 48, .ref 49] s_2 (fun v5 s_5 => v5 = none ∧ vp_in 2 108 ∧ vp_in 2 108 ∧ ∀ s_9 : gs, s_9 = gs_A s_5 49 (2 : Int32).toNatClampNeg (vp_nar .int x1) → Post (some (.int (gsA s_5 49 (2 : Int32).toNatClampNeg))) s_9))))
theorem okm206 (c : gx) (d : Nat) (Post : Option Value → gs → Prop) (x1 : Int32) (s : gs) (w : wm206 c d Post x1 s) : tE c (d + 1) 206 [.ref 48, .int x1] s Post := by
  intro h hR
  have hk : ∀ pc i, gm_find gk_206 pc = some i → gm_code (gt_T c.1 c.2.1 c.2.2.1) 206 pc = some i := fun _ _ z => z
  unfold wm206 at w
  refine ge_of (by decide) (Nat.le_of_ble_eq_true rfl) ?_
  show gw (gt_T c.1 c.2.1 c.2.2.1) c.2.2.2 d 206 (0, [some (.ref 48), some (.int x1), none], [], h) _
  refine gw_pst hk 2 (st' := (2, [some (.ref 48), some (.int x1), none], [.int 0, .ref 48], h)) rfl ?_
  obtain ⟨fs1, e1⟩ := RL_o hR (r := 48) (ci := 10) rfl
  obtain ⟨l1, hR1⟩ := RL_pI (k := 13) (x := 0) hR rfl e1
  refine gw_pf (hk _ _ rfl) e1 l1 rfl ?_
  generalize gm_put h _ _ = h at hR1 ⊢
  obtain ⟨s_1, es1⟩ : ∃ z, z = gs_V s 48 13 0 := ⟨_, rfl⟩
  rw [← es1] at hR1
  replace w := w s_1 es1
  replace hR := hR1
  refine gw_pst hk 2 (st' := (7, [some (.ref 48), some (.int x1), none], [.int x1, .ref 48], h)) rfl ?_
  obtain ⟨fs2, e2⟩ := RL_o hR (r := 48) (ci := 10) rfl
  refine gw_call (jj := 158) (As := [.ref 48, .int x1]) (rest := []) (hk _ _ rfl) (fun _ => rfl) rfl rfl (Nat.le_of_ble_eq_true rfl) (gm_rcv_v rfl e2 rfl) ?_
  refine ge_imp (w h hR) (fun v2 h w => ?_)
  obtain ⟨s_2, hR, x_2, rfl, w⟩ := w
  show gw (gt_T c.1 c.2.1 c.2.2.1) c.2.2.2 d 206 (10, [some (.ref 48), some (.int x1), none], [.int x_2], h) _
  refine gw_br (c := x_2 = 0) (a := (13, [some (.ref 48), some (.int x1), none], [], h)) (b := (15, [some (.ref 48), some (.int x1), none], [], h)) (hk _ _ rfl) rfl ⟨fun z3 => ?_, fun z3 => ?_⟩
  · replace w := w.1 z3
    refine gw_pst hk 1 (st' := (14, [some (.ref 48), some (.int x1), none], [.int (-1)], h)) rfl ?_
    exact gw_ret (hk _ _ rfl) rfl ⟨_, hR, w⟩
  · replace w := w.2 z3
    refine gw_pst hk 2 (st' := (17, [some (.ref 48), some (.int x1), none], [.ref 48, .ref 48], h)) rfl ?_
    refine gw_gf (hk _ _ rfl) (RL_fR (n := 49) hR rfl) ?_
    obtain ⟨fs5, e5⟩ := RL_o hR (r := 48) (ci := 10) rfl
    refine gw_call (jj := 195) (As := [.ref 48, .ref 49]) (rest := []) (hk _ _ rfl) (fun _ => rfl) rfl rfl (Nat.le_of_ble_eq_true rfl) (gm_rcv_v rfl e5 rfl) ?_
    refine ge_imp (w h hR) (fun v5 h w => ?_)
    obtain ⟨s_5, hR, rfl, w⟩ := w
    show gw (gt_T c.1 c.2.1 c.2.2.1) c.2.2.2 d 206 (23, [some (.ref 48), some (.int x1), none], [], h) _
    refine gw_pst hk 1 (st' := (24, [some (.ref 48), some (.int x1), none], [.ref 48], h)) rfl ?_
    refine gw_gf (hk _ _ rfl) (RL_fR (n := 49) hR rfl) ?_
    refine gw_pst hk 1 (st' := (28, [some (.ref 48), some (.int x1), none], [.int 2, .ref 49], h)) rfl ?_
    obtain ⟨b7, w⟩ := w
    refine gw_ald (hk _ _ rfl) (Or.inl ⟨rfl, rfl⟩) (RL_a (t := 0) (n := 108) hR rfl (by decide)) b7 ?_
    refine gw_pst hk 2 (st' := (31, [some (.ref 48), some (.int x1), some (.int (gsA s_5 49 (2 : Int32).toNatClampNeg))], [.ref 48], h)) rfl ?_
    refine gw_gf (hk _ _ rfl) (RL_fR (n := 49) hR rfl) ?_
    refine gw_pst hk 2 (st' := (36, [some (.ref 48), some (.int x1), some (.int (gsA s_5 49 (2 : Int32).toNatClampNeg))], [.int x1, .int 2, .ref 49], h)) rfl ?_
    obtain ⟨b9, w⟩ := w
    have hR9 := RL_pA (a := 49) (t := 0) (n := 108) (k := (2 : Int32).toNatClampNeg) (x := (vp_nar .int x1)) hR rfl (by decide)
    refine gw_ast (hk _ _ rfl) (Or.inl ⟨rfl, rfl, rfl⟩) (RL_a (t := 0) (n := 108) hR rfl (by decide)) b9 ?_
    generalize gm_put h _ _ = h at hR9 ⊢
    obtain ⟨s_9, es9⟩ : ∃ z, z = gs_A s_5 49 (2 : Int32).toNatClampNeg (vp_nar .int x1) := ⟨_, rfl⟩
    rw [← es9] at hR9
    replace w := w s_9 es9
    replace hR := hR9
    refine gw_pst hk 1 (st' := (38, [some (.ref 48), some (.int x1), some (.int (gsA s_5 49 (2 : Int32).toNatClampNeg))], [.int (gsA s_5 49 (2 : Int32).toNatClampNeg)], h)) rfl ?_
    exact gw_ret (hk _ _ rfl) rfl ⟨_, hR, w⟩
def w207_25 (c : gx) (d : Nat) (Post : Option Value → gs → Prop)  (s : gs) : Prop :=
  Post (some (.int (-1))) s
theorem ok207_25 (c : gx) (d : Nat) (Post : Option Value → gs → Prop)   (s : gs) (w : w207_25 c d Post  s) : tV c d 207 25 [none, none, none, none] [] s Post := by
  intro h hR
  have hk : ∀ pc i, gm_find gk_207 pc = some i → gm_code (gt_T c.1 c.2.1 c.2.2.1) 207 pc = some i := fun _ _ z => z
  unfold w207_25 at w
  unfold gV
  refine gw_pst hk 1 (st' := (26, [none, none, none, none], [.int (-1)], h)) rfl ?_
  exact gw_ret (hk _ _ rfl) rfl ⟨_, hR, w⟩
def w207_53 (c : gx) (d : Nat) (Post : Option Value → gs → Prop) (x2 : Int32) (xs0 : Int32) (s : gs) : Prop :=
  vp_in xs0 108 ∧ vp_in xs0 108 ∧ ∀ s_4 : gs, s_4 = gs_A s 49 (xs0 : Int32).toNatClampNeg (vp_nar .int (if ((gsA s 49 (xs0 : Int32).toNatClampNeg) + x2) < 9999 then ((gsA s 49 (xs0 : Int32).toNatClampNeg) + x2) else 9999)) → vp_in xs0 108 ∧ Post (some (.int (gsA s_4 49 (xs0 : Int32).toNatClampNeg))) s_4
theorem ok207_53 (c : gx) (d : Nat) (Post : Option Value → gs → Prop)  (x2 : Int32) (xs0 : Int32) (s : gs) (w : w207_53 c d Post x2 xs0 s) : tV c d 207 53 [some (.ref 48), none, some (.int x2), none] [.int xs0] s Post := by
  intro h hR
  have hk : ∀ pc i, gm_find gk_207 pc = some i → gm_code (gt_T c.1 c.2.1 c.2.2.1) 207 pc = some i := fun _ _ z => z
  unfold w207_53 at w
  unfold gV
  refine gw_pst hk 2 (st' := (55, [some (.ref 48), none, some (.int x2), some (.int xs0)], [.ref 48], h)) rfl ?_
  refine gw_gf (hk _ _ rfl) (RL_fR (n := 49) hR rfl) ?_
  refine gw_pst hk 3 (st' := (63, [some (.ref 48), none, some (.int x2), some (.int xs0)], [.ref 48, .int 9999, .int xs0, .ref 49], h)) rfl ?_
  refine gw_gf (hk _ _ rfl) (RL_fR (n := 49) hR rfl) ?_
  refine gw_pst hk 1 (st' := (67, [some (.ref 48), none, some (.int x2), some (.int xs0)], [.int xs0, .ref 49, .int 9999, .int xs0, .ref 49], h)) rfl ?_
  obtain ⟨b3, w⟩ := w
  refine gw_ald (hk _ _ rfl) (Or.inl ⟨rfl, rfl⟩) (RL_a (t := 0) (n := 108) hR rfl (by decide)) b3 ?_
  refine gw_pst hk 3 (st' := (73, [some (.ref 48), none, some (.int x2), some (.int xs0)], [.int (if ((gsA s 49 (xs0 : Int32).toNatClampNeg) + x2) < 9999 then ((gsA s 49 (xs0 : Int32).toNatClampNeg) + x2) else 9999), .int xs0, .ref 49], h)) rfl ?_
  obtain ⟨b4, w⟩ := w
  have hR4 := RL_pA (a := 49) (t := 0) (n := 108) (k := (xs0 : Int32).toNatClampNeg) (x := (vp_nar .int (if ((gsA s 49 (xs0 : Int32).toNatClampNeg) + x2) < 9999 then ((gsA s 49 (xs0 : Int32).toNatClampNeg) + x2) else 9999))) hR rfl (by decide)
  refine gw_ast (hk _ _ rfl) (Or.inl ⟨rfl, rfl, rfl⟩) (RL_a (t := 0) (n := 108) hR rfl (by decide)) b4 ?_
  generalize gm_put h _ _ = h at hR4 ⊢
  obtain ⟨s_4, es4⟩ : ∃ z, z = gs_A s 49 (xs0 : Int32).toNatClampNeg (vp_nar .int (if ((gsA s 49 (xs0 : Int32).toNatClampNeg) + x2) < 9999 then ((gsA s 49 (xs0 : Int32).toNatClampNeg) + x2) else 9999)) := ⟨_, rfl⟩
  rw [← es4] at hR4
  replace w := w s_4 es4
  replace hR := hR4
  refine gw_pst hk 1 (st' := (75, [some (.ref 48), none, some (.int x2), some (.int xs0)], [.ref 48], h)) rfl ?_
  refine gw_gf (hk _ _ rfl) (RL_fR (n := 49) hR rfl) ?_
  refine gw_pst hk 1 (st' := (79, [some (.ref 48), none, some (.int x2), some (.int xs0)], [.int xs0, .ref 49], h)) rfl ?_
  obtain ⟨b6, w⟩ := w
  refine gw_ald (hk _ _ rfl) (Or.inl ⟨rfl, rfl⟩) (RL_a (t := 0) (n := 108) hR rfl (by decide)) b6 ?_
  exact gw_ret (hk _ _ rfl) rfl ⟨_, hR, w⟩
/-- CommandByTurnsModel.send(II)I -/
def wm207 (c : gx) (d : Nat) (Post : Option Value → gs → Prop) (x1 : Int32) (x2 : Int32) (s : gs) : Prop :=
  ∀ s_1 : gs, s_1 = gs_V s 48 13 0 → tE c d 154 [.int x1, .int 0, .int 2] s_1 (fun v2 s_2 => ∃ x_2 : Int32, v2 = some (.int x_2) ∧ ((x_2 = 0 → w207_25 c d Post s_2) ∧ (¬ (x_2 = 0) → tE c d 154 [.int x2, .int 1, .int 999] s_2 (fun v4 s_4 => ∃ x_4 : Int32, v4 = some (.int x_4) ∧ ((x_4 = 0 → w207_25 c d Post s_4) ∧ (¬ (x_4 = 0) → tE c d 195 [.ref 48, .ref 49] s_4 (fun v7 s_7 => v7 = none ∧ ((x1 = 0 → w207_53 c d Post x2 5 s_7) ∧ (¬ (x1 = 0) → ((x1 = 1 → w207_53 c d Post x2 3 s_7) ∧ (¬ (x1 = 1) → w207_53 c d Post x2 4 s_7)))))))))))
theorem okm207 (c : gx) (d : Nat) (Post : Option Value → gs → Prop) (x1 : Int32) (x2 : Int32) (s : gs) (w : wm207 c d Post x1 x2 s) : tE c (d + 1) 207 [.ref 48, .int x1, .int x2] s Post := by
  intro h hR
  have hk : ∀ pc i, gm_find gk_207 pc = some i → gm_code (gt_T c.1 c.2.1 c.2.2.1) 207 pc = some i := fun _ _ z => z
  unfold wm207 at w
  refine ge_of (by decide) (Nat.le_of_ble_eq_true rfl) ?_
  show gw (gt_T c.1 c.2.1 c.2.2.1) c.2.2.2 d 207 (0, [some (.ref 48), some (.int x1), some (.int x2), none], [], h) _
  refine gw_pst hk 2 (st' := (2, [some (.ref 48), some (.int x1), some (.int x2), none], [.int 0, .ref 48], h)) rfl ?_
  obtain ⟨fs1, e1⟩ := RL_o hR (r := 48) (ci := 10) rfl
  obtain ⟨l1, hR1⟩ := RL_pI (k := 13) (x := 0) hR rfl e1
  refine gw_pf (hk _ _ rfl) e1 l1 rfl ?_
  generalize gm_put h _ _ = h at hR1 ⊢
  obtain ⟨s_1, es1⟩ : ∃ z, z = gs_V s 48 13 0 := ⟨_, rfl⟩
  rw [← es1] at hR1
  replace w := w s_1 es1
  replace hR := hR1
  refine gw_pst hk 3 (st' := (8, [some (.ref 48), some (.int x1), some (.int x2), none], [.int 2, .int 0, .int x1], h)) rfl ?_
  refine gw_call (jj := 154) (As := [.int x1, .int 0, .int 2]) (rest := []) (hk _ _ rfl) (fun _ => rfl) rfl rfl (Nat.le_of_ble_eq_true rfl) rfl ?_
  refine ge_imp (w h hR) (fun v2 h w => ?_)
  obtain ⟨s_2, hR, x_2, rfl, w⟩ := w
  show gw (gt_T c.1 c.2.1 c.2.2.1) c.2.2.2 d 207 (11, [some (.ref 48), some (.int x1), some (.int x2), none], [.int x_2], h) _
  refine gw_br (c := x_2 = 0) (a := (25, [some (.ref 48), some (.int x1), some (.int x2), none], [], h)) (b := (14, [some (.ref 48), some (.int x1), some (.int x2), none], [], h)) (hk _ _ rfl) rfl ⟨fun z3 => ?_, fun z3 => ?_⟩
  · replace w := w.1 z3
    refine gw_le (L' := [none, none, none, none]) (gm_le_n _ (gm_le_n _ (gm_le_n _ (gm_le_k _ gm_le_nil)))) ?_
    exact ok207_25 c d Post _ w _ hR
  · replace w := w.2 z3
    refine gw_pst hk 3 (st' := (19, [some (.ref 48), some (.int x1), some (.int x2), none], [.int 999, .int 1, .int x2], h)) rfl ?_
    refine gw_call (jj := 154) (As := [.int x2, .int 1, .int 999]) (rest := []) (hk _ _ rfl) (fun _ => rfl) rfl rfl (Nat.le_of_ble_eq_true rfl) rfl ?_
    refine ge_imp (w h hR) (fun v4 h w => ?_)
    obtain ⟨s_4, hR, x_4, rfl, w⟩ := w
    show gw (gt_T c.1 c.2.1 c.2.2.1) c.2.2.2 d 207 (22, [some (.ref 48), some (.int x1), some (.int x2), none], [.int x_4], h) _
    refine gw_br (c := x_4 = 0) (a := (25, [some (.ref 48), some (.int x1), some (.int x2), none], [], h)) (b := (27, [some (.ref 48), some (.int x1), some (.int x2), none], [], h)) (hk _ _ rfl) rfl ⟨fun z5 => ?_, fun z5 => ?_⟩
    · replace w := w.1 z5
      refine gw_le (L' := [none, none, none, none]) (gm_le_n _ (gm_le_n _ (gm_le_n _ (gm_le_k _ gm_le_nil)))) ?_
      exact ok207_25 c d Post _ w _ hR
    · replace w := w.2 z5
      refine gw_pst hk 2 (st' := (29, [some (.ref 48), some (.int x1), some (.int x2), none], [.ref 48, .ref 48], h)) rfl ?_
      refine gw_gf (hk _ _ rfl) (RL_fR (n := 49) hR rfl) ?_
      obtain ⟨fs7, e7⟩ := RL_o hR (r := 48) (ci := 10) rfl
      refine gw_call (jj := 195) (As := [.ref 48, .ref 49]) (rest := []) (hk _ _ rfl) (fun _ => rfl) rfl rfl (Nat.le_of_ble_eq_true rfl) (gm_rcv_v rfl e7 rfl) ?_
      refine ge_imp (w h hR) (fun v7 h w => ?_)
      obtain ⟨s_7, hR, rfl, w⟩ := w
      show gw (gt_T c.1 c.2.1 c.2.2.1) c.2.2.2 d 207 (35, [some (.ref 48), some (.int x1), some (.int x2), none], [], h) _
      refine gw_pst hk 1 (st' := (36, [some (.ref 48), some (.int x1), some (.int x2), none], [.int x1], h)) rfl ?_
      refine gw_br (c := x1 = 0) (a := (39, [some (.ref 48), some (.int x1), some (.int x2), none], [], h)) (b := (43, [some (.ref 48), some (.int x1), some (.int x2), none], [], h)) (hk _ _ rfl) rfl ⟨fun z8 => ?_, fun z8 => ?_⟩
      · replace w := w.1 z8
        refine gw_pst hk 2 (st' := (53, [some (.ref 48), some (.int x1), some (.int x2), none], [.int 5], h)) rfl ?_
        refine gw_le (L' := [some (.ref 48), none, some (.int x2), none]) (gm_le_k _ (gm_le_n _ (gm_le_k _ (gm_le_k _ gm_le_nil)))) ?_
        exact ok207_53 c d Post _ _ _ w _ hR
      · replace w := w.2 z8
        refine gw_pst hk 2 (st' := (45, [some (.ref 48), some (.int x1), some (.int x2), none], [.int 1, .int x1], h)) rfl ?_
        refine gw_br (c := x1 = 1) (a := (48, [some (.ref 48), some (.int x1), some (.int x2), none], [], h)) (b := (52, [some (.ref 48), some (.int x1), some (.int x2), none], [], h)) (hk _ _ rfl) rfl ⟨fun z9 => ?_, fun z9 => ?_⟩
        · replace w := w.1 z9
          refine gw_pst hk 2 (st' := (53, [some (.ref 48), some (.int x1), some (.int x2), none], [.int 3], h)) rfl ?_
          refine gw_le (L' := [some (.ref 48), none, some (.int x2), none]) (gm_le_k _ (gm_le_n _ (gm_le_k _ (gm_le_k _ gm_le_nil)))) ?_
          exact ok207_53 c d Post _ _ _ w _ hR
        · replace w := w.2 z9
          refine gw_pst hk 1 (st' := (53, [some (.ref 48), some (.int x1), some (.int x2), none], [.int 4], h)) rfl ?_
          refine gw_le (L' := [some (.ref 48), none, some (.int x2), none]) (gm_le_k _ (gm_le_n _ (gm_le_k _ (gm_le_k _ gm_le_nil)))) ?_
          exact ok207_53 c d Post _ _ _ w _ hR
def wb208_9 (c : gx) (d : Nat) (Post : Option Value → gs → Prop) (K9 : Int32 → Int32 → gs → Prop) (x1 : Int32) (x2 : Int32) (s : gs) : Prop :=
  ((100 ≤ x2 → Post (some (.int x1)) s) ∧ (¬ (100 ≤ x2) → vp_in (8 + x2) 108 ∧ K9 (x1 + (gsA s 49 (8 + x2 : Int32).toNatClampNeg)) (x2 + 1) s))
theorem okb208_9 (c : gx) (d : Nat) (Post : Option Value → gs → Prop) (K9 : Int32 → Int32 → gs → Prop)  (hK9 : ∀ (x1 : Int32) (x2 : Int32) (s : gs), K9 x1 x2 s → tV c d 208 9 [some (.ref 48), some (.int x1), some (.int x2)] [] s Post) (x1 : Int32) (x2 : Int32) (s : gs) (w : wb208_9 c d Post K9 x1 x2 s) : tV c d 208 9 [some (.ref 48), some (.int x1), some (.int x2)] [] s Post := by
  intro h hR
  have hk : ∀ pc i, gm_find gk_208 pc = some i → gm_code (gt_T c.1 c.2.1 c.2.2.1) 208 pc = some i := fun _ _ z => z
  unfold wb208_9 at w
  unfold gV
  refine gw_pst hk 2 (st' := (12, [some (.ref 48), some (.int x1), some (.int x2)], [.int 100, .int x2], h)) rfl ?_
  refine gw_br (c := 100 ≤ x2) (a := (33, [some (.ref 48), some (.int x1), some (.int x2)], [], h)) (b := (15, [some (.ref 48), some (.int x1), some (.int x2)], [], h)) (hk _ _ rfl) rfl ⟨fun z1 => ?_, fun z1 => ?_⟩
  · replace w := w.1 z1
    refine gw_pst hk 1 (st' := (34, [some (.ref 48), some (.int x1), some (.int x2)], [.int x1], h)) rfl ?_
    exact gw_ret (hk _ _ rfl) rfl ⟨_, hR, w⟩
  · replace w := w.2 z1
    refine gw_pst hk 2 (st' := (17, [some (.ref 48), some (.int x1), some (.int x2)], [.ref 48, .int x1], h)) rfl ?_
    refine gw_gf (hk _ _ rfl) (RL_fR (n := 49) hR rfl) ?_
    refine gw_pst hk 3 (st' := (24, [some (.ref 48), some (.int x1), some (.int x2)], [.int (8 + x2), .ref 49, .int x1], h)) rfl ?_
    obtain ⟨b3, w⟩ := w
    refine gw_ald (hk _ _ rfl) (Or.inl ⟨rfl, rfl⟩) (RL_a (t := 0) (n := 108) hR rfl (by decide)) b3 ?_
    refine gw_pst hk 4 (st' := (9, [some (.ref 48), some (.int (x1 + (gsA s 49 (8 + x2 : Int32).toNatClampNeg))), some (.int (x2 + 1))], [], h)) rfl ?_
    exact hK9 _ _ _ w _ hR
def wl208_9 (c : gx) (d : Nat) (Post : Option Value → gs → Prop) : Nat → Int32 → Int32 → gs → Prop
  | 0 => fun _ _ _ => False
  | n + 1 => wb208_9 c d Post (wl208_9 c d Post n)
theorem okl208_9 (c : gx) (d : Nat) (Post : Option Value → gs → Prop) : ∀ (n : Nat) (x1 : Int32) (x2 : Int32) (s : gs), wl208_9 c d Post n x1 x2 s → tV c d 208 9 [some (.ref 48), some (.int x1), some (.int x2)] [] s Post
  | 0, _, _, _, w => w.elim
  | n + 1, x1, x2, s, w => okb208_9 c d Post (wl208_9 c d Post n) (okl208_9 c d Post n) x1 x2 s w
/-- CommandByTurnsModel.lentFrom()I -/
def wm208 (c : gx) (d : Nat) (Post : Option Value → gs → Prop)  (s : gs) : Prop :=
  vp_in 0 108 ∧ ∃ n, wl208_9 c d Post n 0 (gsA s 49 (0 : Int32).toNatClampNeg) s
theorem okm208 (c : gx) (d : Nat) (Post : Option Value → gs → Prop)  (s : gs) (w : wm208 c d Post  s) : tE c (d + 1) 208 [.ref 48] s Post := by
  intro h hR
  have hk : ∀ pc i, gm_find gk_208 pc = some i → gm_code (gt_T c.1 c.2.1 c.2.2.1) 208 pc = some i := fun _ _ z => z
  unfold wm208 at w
  refine ge_of (by decide) (Nat.le_of_ble_eq_true rfl) ?_
  show gw (gt_T c.1 c.2.1 c.2.2.1) c.2.2.2 d 208 (0, [some (.ref 48), none, none], [], h) _
  refine gw_pst hk 3 (st' := (3, [some (.ref 48), some (.int 0), none], [.ref 48], h)) rfl ?_
  refine gw_gf (hk _ _ rfl) (RL_fR (n := 49) hR rfl) ?_
  refine gw_pst hk 1 (st' := (7, [some (.ref 48), some (.int 0), none], [.int 0, .ref 49], h)) rfl ?_
  obtain ⟨b2, w⟩ := w
  refine gw_ald (hk _ _ rfl) (Or.inl ⟨rfl, rfl⟩) (RL_a (t := 0) (n := 108) hR rfl (by decide)) b2 ?_
  refine gw_pst hk 1 (st' := (9, [some (.ref 48), some (.int 0), some (.int (gsA s 49 (0 : Int32).toNatClampNeg))], [], h)) rfl ?_
  obtain ⟨n, w⟩ := w
  exact okl208_9 c d Post n _ _ _ w _ hR
/-- CommandByTurnsModel.lend(I)I -/
def wm209 (c : gx) (d : Nat) (Post : Option Value → gs → Prop) (x1 : Int32) (s : gs) : Prop :=
  ∀ s_1 : gs, s_1 = gs_V s 48 13 0 → vp_in 0 108 ∧ tE c d 154 [.int x1, .int (gsA s_1 49 (0 : Int32).toNatClampNeg), .int 99] s_1 (fun v4 s_4 => ∃ x_4 : Int32, v4 = some (.int x_4) ∧ ((x_4 = 0 → Post (some (.int (-1))) s_4) ∧ (¬ (x_4 = 0) → tE c d 195 [.ref 48, .ref 49] s_4 (fun v7 s_7 => v7 = none ∧ vp_in (8 + x1) 108 ∧ vp_in (8 + x1) 108 ∧ ∀ s_11 : gs, s_11 = gs_A s_7 49 (8 + x1 : Int32).toNatClampNeg (vp_nar .int (1 - (gsA s_7 49 (8 + x1 : Int32).toNatClampNeg))) → tE c d 208 [.ref 48] s_11 (fun v12 s_12 => ∃ x_12 : Int32, v12 = some (.int x_12) ∧ Post (some (.int x_12)) s_12)))))
theorem okm209 (c : gx) (d : Nat) (Post : Option Value → gs → Prop) (x1 : Int32) (s : gs) (w : wm209 c d Post x1 s) : tE c (d + 1) 209 [.ref 48, .int x1] s Post := by
  intro h hR
  have hk : ∀ pc i, gm_find gk_209 pc = some i → gm_code (gt_T c.1 c.2.1 c.2.2.1) 209 pc = some i := fun _ _ z => z
  unfold wm209 at w
  refine ge_of (by decide) (Nat.le_of_ble_eq_true rfl) ?_
  show gw (gt_T c.1 c.2.1 c.2.2.1) c.2.2.2 d 209 (0, [some (.ref 48), some (.int x1)], [], h) _
  refine gw_pst hk 2 (st' := (2, [some (.ref 48), some (.int x1)], [.int 0, .ref 48], h)) rfl ?_
  obtain ⟨fs1, e1⟩ := RL_o hR (r := 48) (ci := 10) rfl
  obtain ⟨l1, hR1⟩ := RL_pI (k := 13) (x := 0) hR rfl e1
  refine gw_pf (hk _ _ rfl) e1 l1 rfl ?_
  generalize gm_put h _ _ = h at hR1 ⊢
  obtain ⟨s_1, es1⟩ : ∃ z, z = gs_V s 48 13 0 := ⟨_, rfl⟩
  rw [← es1] at hR1
  replace w := w s_1 es1
  replace hR := hR1
  refine gw_pst hk 2 (st' := (7, [some (.ref 48), some (.int x1)], [.ref 48, .int x1], h)) rfl ?_
  refine gw_gf (hk _ _ rfl) (RL_fR (n := 49) hR rfl) ?_
  refine gw_pst hk 1 (st' := (11, [some (.ref 48), some (.int x1)], [.int 0, .ref 49, .int x1], h)) rfl ?_
  obtain ⟨b3, w⟩ := w
  refine gw_ald (hk _ _ rfl) (Or.inl ⟨rfl, rfl⟩) (RL_a (t := 0) (n := 108) hR rfl (by decide)) b3 ?_
  refine gw_pst hk 1 (st' := (14, [some (.ref 48), some (.int x1)], [.int 99, .int (gsA s_1 49 (0 : Int32).toNatClampNeg), .int x1], h)) rfl ?_
  refine gw_call (jj := 154) (As := [.int x1, .int (gsA s_1 49 (0 : Int32).toNatClampNeg), .int 99]) (rest := []) (hk _ _ rfl) (fun _ => rfl) rfl rfl (Nat.le_of_ble_eq_true rfl) rfl ?_
  refine ge_imp (w h hR) (fun v4 h w => ?_)
  obtain ⟨s_4, hR, x_4, rfl, w⟩ := w
  show gw (gt_T c.1 c.2.1 c.2.2.1) c.2.2.2 d 209 (17, [some (.ref 48), some (.int x1)], [.int x_4], h) _
  refine gw_br (c := x_4 = 0) (a := (20, [some (.ref 48), some (.int x1)], [], h)) (b := (22, [some (.ref 48), some (.int x1)], [], h)) (hk _ _ rfl) rfl ⟨fun z5 => ?_, fun z5 => ?_⟩
  · replace w := w.1 z5
    refine gw_pst hk 1 (st' := (21, [some (.ref 48), some (.int x1)], [.int (-1)], h)) rfl ?_
    exact gw_ret (hk _ _ rfl) rfl ⟨_, hR, w⟩
  · replace w := w.2 z5
    refine gw_pst hk 2 (st' := (24, [some (.ref 48), some (.int x1)], [.ref 48, .ref 48], h)) rfl ?_
    refine gw_gf (hk _ _ rfl) (RL_fR (n := 49) hR rfl) ?_
    obtain ⟨fs7, e7⟩ := RL_o hR (r := 48) (ci := 10) rfl
    refine gw_call (jj := 195) (As := [.ref 48, .ref 49]) (rest := []) (hk _ _ rfl) (fun _ => rfl) rfl rfl (Nat.le_of_ble_eq_true rfl) (gm_rcv_v rfl e7 rfl) ?_
    refine ge_imp (w h hR) (fun v7 h w => ?_)
    obtain ⟨s_7, hR, rfl, w⟩ := w
    show gw (gt_T c.1 c.2.1 c.2.2.1) c.2.2.2 d 209 (30, [some (.ref 48), some (.int x1)], [], h) _
    refine gw_pst hk 1 (st' := (31, [some (.ref 48), some (.int x1)], [.ref 48], h)) rfl ?_
    refine gw_gf (hk _ _ rfl) (RL_fR (n := 49) hR rfl) ?_
    refine gw_pst hk 5 (st' := (40, [some (.ref 48), some (.int x1)], [.ref 48, .int 1, .int (8 + x1), .ref 49], h)) rfl ?_
    refine gw_gf (hk _ _ rfl) (RL_fR (n := 49) hR rfl) ?_
    refine gw_pst hk 3 (st' := (47, [some (.ref 48), some (.int x1)], [.int (8 + x1), .ref 49, .int 1, .int (8 + x1), .ref 49], h)) rfl ?_
    obtain ⟨b10, w⟩ := w
    refine gw_ald (hk _ _ rfl) (Or.inl ⟨rfl, rfl⟩) (RL_a (t := 0) (n := 108) hR rfl (by decide)) b10 ?_
    refine gw_pst hk 1 (st' := (49, [some (.ref 48), some (.int x1)], [.int (1 - (gsA s_7 49 (8 + x1 : Int32).toNatClampNeg)), .int (8 + x1), .ref 49], h)) rfl ?_
    obtain ⟨b11, w⟩ := w
    have hR11 := RL_pA (a := 49) (t := 0) (n := 108) (k := (8 + x1 : Int32).toNatClampNeg) (x := (vp_nar .int (1 - (gsA s_7 49 (8 + x1 : Int32).toNatClampNeg)))) hR rfl (by decide)
    refine gw_ast (hk _ _ rfl) (Or.inl ⟨rfl, rfl, rfl⟩) (RL_a (t := 0) (n := 108) hR rfl (by decide)) b11 ?_
    generalize gm_put h _ _ = h at hR11 ⊢
    obtain ⟨s_11, es11⟩ : ∃ z, z = gs_A s_7 49 (8 + x1 : Int32).toNatClampNeg (vp_nar .int (1 - (gsA s_7 49 (8 + x1 : Int32).toNatClampNeg))) := ⟨_, rfl⟩
    rw [← es11] at hR11
    replace w := w s_11 es11
    replace hR := hR11
    refine gw_pst hk 1 (st' := (51, [some (.ref 48), some (.int x1)], [.ref 48], h)) rfl ?_
    obtain ⟨fs12, e12⟩ := RL_o hR (r := 48) (ci := 10) rfl
    refine gw_call (jj := 208) (As := [.ref 48]) (rest := []) (hk _ _ rfl) (fun _ => rfl) rfl rfl (Nat.le_of_ble_eq_true rfl) (gm_rcv_v rfl e12 rfl) ?_
    refine ge_imp (w h hR) (fun v12 h w => ?_)
    obtain ⟨s_12, hR, x_12, rfl, w⟩ := w
    show gw (gt_T c.1 c.2.1 c.2.2.1) c.2.2.2 d 209 (54, [some (.ref 48), some (.int x1)], [.int x_12], h) _
    exact gw_ret (hk _ _ rfl) rfl ⟨_, hR, w⟩
def w210_22 (c : gx) (d : Nat) (Post : Option Value → gs → Prop)  (s : gs) : Prop :=
  Post (some (.int (-1))) s
theorem ok210_22 (c : gx) (d : Nat) (Post : Option Value → gs → Prop)   (s : gs) (w : w210_22 c d Post  s) : tV c d 210 22 [none, none, none] [] s Post := by
  intro h hR
  have hk : ∀ pc i, gm_find gk_210 pc = some i → gm_code (gt_T c.1 c.2.1 c.2.2.1) 210 pc = some i := fun _ _ z => z
  unfold w210_22 at w
  unfold gV
  refine gw_pst hk 1 (st' := (23, [none, none, none], [.int (-1)], h)) rfl ?_
  exact gw_ret (hk _ _ rfl) rfl ⟨_, hR, w⟩
/-- CommandByTurnsModel.sick(II)I -/
def wm210 (c : gx) (d : Nat) (Post : Option Value → gs → Prop) (x1 : Int32) (x2 : Int32) (s : gs) : Prop :=
  ∀ s_1 : gs, s_1 = gs_V s 48 13 0 → tE c d 159 [.int x1] s_1 (fun v2 s_2 => ∃ x_2 : Int32, v2 = some (.int x_2) ∧ ((x_2 = 0 → w210_22 c d Post s_2) ∧ (¬ (x_2 = 0) → tE c d 154 [.int x2, .int 1, .int 30] s_2 (fun v4 s_4 => ∃ x_4 : Int32, v4 = some (.int x_4) ∧ ((x_4 = 0 → w210_22 c d Post s_4) ∧ (¬ (x_4 = 0) → tE c d 195 [.ref 48, .ref 49] s_4 (fun v7 s_7 => v7 = none ∧ vp_in 0 108 ∧ vp_in (6 + x1) 108 ∧ ∀ s_11 : gs, s_11 = gs_A s_7 49 (6 + x1 : Int32).toNatClampNeg (vp_nar .int (((gsA s_7 49 (0 : Int32).toNatClampNeg) + x2) - 1)) → vp_in (6 + x1) 108 ∧ Post (some (.int (gsA s_11 49 (6 + x1 : Int32).toNatClampNeg))) s_11)))))))
theorem okm210 (c : gx) (d : Nat) (Post : Option Value → gs → Prop) (x1 : Int32) (x2 : Int32) (s : gs) (w : wm210 c d Post x1 x2 s) : tE c (d + 1) 210 [.ref 48, .int x1, .int x2] s Post := by
  intro h hR
  have hk : ∀ pc i, gm_find gk_210 pc = some i → gm_code (gt_T c.1 c.2.1 c.2.2.1) 210 pc = some i := fun _ _ z => z
  unfold wm210 at w
  refine ge_of (by decide) (Nat.le_of_ble_eq_true rfl) ?_
  show gw (gt_T c.1 c.2.1 c.2.2.1) c.2.2.2 d 210 (0, [some (.ref 48), some (.int x1), some (.int x2)], [], h) _
  refine gw_pst hk 2 (st' := (2, [some (.ref 48), some (.int x1), some (.int x2)], [.int 0, .ref 48], h)) rfl ?_
  obtain ⟨fs1, e1⟩ := RL_o hR (r := 48) (ci := 10) rfl
  obtain ⟨l1, hR1⟩ := RL_pI (k := 13) (x := 0) hR rfl e1
  refine gw_pf (hk _ _ rfl) e1 l1 rfl ?_
  generalize gm_put h _ _ = h at hR1 ⊢
  obtain ⟨s_1, es1⟩ : ∃ z, z = gs_V s 48 13 0 := ⟨_, rfl⟩
  rw [← es1] at hR1
  replace w := w s_1 es1
  replace hR := hR1
  refine gw_pst hk 1 (st' := (6, [some (.ref 48), some (.int x1), some (.int x2)], [.int x1], h)) rfl ?_
  refine gw_call (jj := 159) (As := [.int x1]) (rest := []) (hk _ _ rfl) (fun _ => rfl) rfl rfl (Nat.le_of_ble_eq_true rfl) rfl ?_
  refine ge_imp (w h hR) (fun v2 h w => ?_)
  obtain ⟨s_2, hR, x_2, rfl, w⟩ := w
  show gw (gt_T c.1 c.2.1 c.2.2.1) c.2.2.2 d 210 (9, [some (.ref 48), some (.int x1), some (.int x2)], [.int x_2], h) _
  refine gw_br (c := x_2 = 0) (a := (22, [some (.ref 48), some (.int x1), some (.int x2)], [], h)) (b := (12, [some (.ref 48), some (.int x1), some (.int x2)], [], h)) (hk _ _ rfl) rfl ⟨fun z3 => ?_, fun z3 => ?_⟩
  · replace w := w.1 z3
    refine gw_le (L' := [none, none, none]) (gm_le_n _ (gm_le_n _ (gm_le_n _ gm_le_nil))) ?_
    exact ok210_22 c d Post _ w _ hR
  · replace w := w.2 z3
    refine gw_pst hk 3 (st' := (16, [some (.ref 48), some (.int x1), some (.int x2)], [.int 30, .int 1, .int x2], h)) rfl ?_
    refine gw_call (jj := 154) (As := [.int x2, .int 1, .int 30]) (rest := []) (hk _ _ rfl) (fun _ => rfl) rfl rfl (Nat.le_of_ble_eq_true rfl) rfl ?_
    refine ge_imp (w h hR) (fun v4 h w => ?_)
    obtain ⟨s_4, hR, x_4, rfl, w⟩ := w
    show gw (gt_T c.1 c.2.1 c.2.2.1) c.2.2.2 d 210 (19, [some (.ref 48), some (.int x1), some (.int x2)], [.int x_4], h) _
    refine gw_br (c := x_4 = 0) (a := (22, [some (.ref 48), some (.int x1), some (.int x2)], [], h)) (b := (24, [some (.ref 48), some (.int x1), some (.int x2)], [], h)) (hk _ _ rfl) rfl ⟨fun z5 => ?_, fun z5 => ?_⟩
    · replace w := w.1 z5
      refine gw_le (L' := [none, none, none]) (gm_le_n _ (gm_le_n _ (gm_le_n _ gm_le_nil))) ?_
      exact ok210_22 c d Post _ w _ hR
    · replace w := w.2 z5
      refine gw_pst hk 2 (st' := (26, [some (.ref 48), some (.int x1), some (.int x2)], [.ref 48, .ref 48], h)) rfl ?_
      refine gw_gf (hk _ _ rfl) (RL_fR (n := 49) hR rfl) ?_
      obtain ⟨fs7, e7⟩ := RL_o hR (r := 48) (ci := 10) rfl
      refine gw_call (jj := 195) (As := [.ref 48, .ref 49]) (rest := []) (hk _ _ rfl) (fun _ => rfl) rfl rfl (Nat.le_of_ble_eq_true rfl) (gm_rcv_v rfl e7 rfl) ?_
      refine ge_imp (w h hR) (fun v7 h w => ?_)
      obtain ⟨s_7, hR, rfl, w⟩ := w
      show gw (gt_T c.1 c.2.1 c.2.2.1) c.2.2.2 d 210 (32, [some (.ref 48), some (.int x1), some (.int x2)], [], h) _
      refine gw_pst hk 1 (st' := (33, [some (.ref 48), some (.int x1), some (.int x2)], [.ref 48], h)) rfl ?_
      refine gw_gf (hk _ _ rfl) (RL_fR (n := 49) hR rfl) ?_
      refine gw_pst hk 4 (st' := (41, [some (.ref 48), some (.int x1), some (.int x2)], [.ref 48, .int (6 + x1), .ref 49], h)) rfl ?_
      refine gw_gf (hk _ _ rfl) (RL_fR (n := 49) hR rfl) ?_
      refine gw_pst hk 1 (st' := (45, [some (.ref 48), some (.int x1), some (.int x2)], [.int 0, .ref 49, .int (6 + x1), .ref 49], h)) rfl ?_
      obtain ⟨b10, w⟩ := w
      refine gw_ald (hk _ _ rfl) (Or.inl ⟨rfl, rfl⟩) (RL_a (t := 0) (n := 108) hR rfl (by decide)) b10 ?_
      refine gw_pst hk 4 (st' := (50, [some (.ref 48), some (.int x1), some (.int x2)], [.int (((gsA s_7 49 (0 : Int32).toNatClampNeg) + x2) - 1), .int (6 + x1), .ref 49], h)) rfl ?_
      obtain ⟨b11, w⟩ := w
      have hR11 := RL_pA (a := 49) (t := 0) (n := 108) (k := (6 + x1 : Int32).toNatClampNeg) (x := (vp_nar .int (((gsA s_7 49 (0 : Int32).toNatClampNeg) + x2) - 1))) hR rfl (by decide)
      refine gw_ast (hk _ _ rfl) (Or.inl ⟨rfl, rfl, rfl⟩) (RL_a (t := 0) (n := 108) hR rfl (by decide)) b11 ?_
      generalize gm_put h _ _ = h at hR11 ⊢
      obtain ⟨s_11, es11⟩ : ∃ z, z = gs_A s_7 49 (6 + x1 : Int32).toNatClampNeg (vp_nar .int (((gsA s_7 49 (0 : Int32).toNatClampNeg) + x2) - 1)) := ⟨_, rfl⟩
      rw [← es11] at hR11
      replace w := w s_11 es11
      replace hR := hR11
      refine gw_pst hk 1 (st' := (52, [some (.ref 48), some (.int x1), some (.int x2)], [.ref 48], h)) rfl ?_
      refine gw_gf (hk _ _ rfl) (RL_fR (n := 49) hR rfl) ?_
      refine gw_pst hk 3 (st' := (59, [some (.ref 48), some (.int x1), some (.int x2)], [.int (6 + x1), .ref 49], h)) rfl ?_
      obtain ⟨b13, w⟩ := w
      refine gw_ald (hk _ _ rfl) (Or.inl ⟨rfl, rfl⟩) (RL_a (t := 0) (n := 108) hR rfl (by decide)) b13 ?_
      exact gw_ret (hk _ _ rfl) rfl ⟨_, hR, w⟩
def w211_136 (c : gx) (d : Nat) (Post : Option Value → gs → Prop) (x2 : Int32) (xs1 : Int64) (s : gs) : Prop :=
  tE c d 157 [.ref 48, .long xs1] s (fun v1 s_1 => v1 = none ∧ vp_in 0 108 ∧ tE c d 157 [.ref 48, .long ((gsA s_1 49 (0 : Int32).toNatClampNeg : Int32).toInt64)] s_1 (fun v4 s_4 => v4 = none ∧ Post (some (.int x2)) s_4))
theorem ok211_136 (c : gx) (d : Nat) (Post : Option Value → gs → Prop)  (x2 : Int32) (xs1 : Int64) (s : gs) (w : w211_136 c d Post x2 xs1 s) : tV c d 211 136 [some (.ref 48), none, some (.int x2)] [.long xs1, .ref 48] s Post := by
  intro h hR
  have hk : ∀ pc i, gm_find gk_211 pc = some i → gm_code (gt_T c.1 c.2.1 c.2.2.1) 211 pc = some i := fun _ _ z => z
  unfold w211_136 at w
  unfold gV
  obtain ⟨fs1, e1⟩ := RL_o hR (r := 48) (ci := 10) rfl
  refine gw_call (jj := 157) (As := [.ref 48, .long xs1]) (rest := []) (hk _ _ rfl) (fun _ => rfl) rfl rfl (Nat.le_of_ble_eq_true rfl) (gm_rcv_v rfl e1 rfl) ?_
  refine ge_imp (w h hR) (fun v1 h w => ?_)
  obtain ⟨s_1, hR, rfl, w⟩ := w
  show gw (gt_T c.1 c.2.1 c.2.2.1) c.2.2.2 d 211 (139, [some (.ref 48), none, some (.int x2)], [], h) _
  refine gw_pst hk 2 (st' := (141, [some (.ref 48), none, some (.int x2)], [.ref 48, .ref 48], h)) rfl ?_
  refine gw_gf (hk _ _ rfl) (RL_fR (n := 49) hR rfl) ?_
  refine gw_pst hk 1 (st' := (145, [some (.ref 48), none, some (.int x2)], [.int 0, .ref 49, .ref 48], h)) rfl ?_
  obtain ⟨b3, w⟩ := w
  refine gw_ald (hk _ _ rfl) (Or.inl ⟨rfl, rfl⟩) (RL_a (t := 0) (n := 108) hR rfl (by decide)) b3 ?_
  refine gw_pst hk 1 (st' := (147, [some (.ref 48), none, some (.int x2)], [.long ((gsA s_1 49 (0 : Int32).toNatClampNeg : Int32).toInt64), .ref 48], h)) rfl ?_
  obtain ⟨fs4, e4⟩ := RL_o hR (r := 48) (ci := 10) rfl
  refine gw_call (jj := 157) (As := [.ref 48, .long ((gsA s_1 49 (0 : Int32).toNatClampNeg : Int32).toInt64)]) (rest := []) (hk _ _ rfl) (fun _ => rfl) rfl rfl (Nat.le_of_ble_eq_true rfl) (gm_rcv_v rfl e4 rfl) ?_
  refine ge_imp (w h hR) (fun v4 h w => ?_)
  obtain ⟨s_4, hR, rfl, w⟩ := w
  show gw (gt_T c.1 c.2.1 c.2.2.1) c.2.2.2 d 211 (150, [some (.ref 48), none, some (.int x2)], [], h) _
  refine gw_pst hk 1 (st' := (151, [some (.ref 48), none, some (.int x2)], [.int x2], h)) rfl ?_
  exact gw_ret (hk _ _ rfl) rfl ⟨_, hR, w⟩
def w211_120 (c : gx) (d : Nat) (Post : Option Value → gs → Prop) (x1 : Int32) (x2 : Int32) (s : gs) : Prop :=
  ∀ s_1 : gs, s_1 = gs_V s 48 12 0 → ((x1 ≤ x2 → w211_136 c d Post x2 0 s_1) ∧ (¬ (x1 ≤ x2) → w211_136 c d Post x2 1 s_1))
theorem ok211_120 (c : gx) (d : Nat) (Post : Option Value → gs → Prop)  (x1 : Int32) (x2 : Int32) (s : gs) (w : w211_120 c d Post x1 x2 s) : tV c d 211 120 [some (.ref 48), some (.int x1), some (.int x2)] [] s Post := by
  intro h hR
  have hk : ∀ pc i, gm_find gk_211 pc = some i → gm_code (gt_T c.1 c.2.1 c.2.2.1) 211 pc = some i := fun _ _ z => z
  unfold w211_120 at w
  unfold gV
  refine gw_pst hk 2 (st' := (122, [some (.ref 48), some (.int x1), some (.int x2)], [.int 0, .ref 48], h)) rfl ?_
  obtain ⟨fs1, e1⟩ := RL_o hR (r := 48) (ci := 10) rfl
  obtain ⟨l1, hR1⟩ := RL_pI (k := 12) (x := 0) hR rfl e1
  refine gw_pf (hk _ _ rfl) e1 l1 rfl ?_
  generalize gm_put h _ _ = h at hR1 ⊢
  obtain ⟨s_1, es1⟩ : ∃ z, z = gs_V s 48 12 0 := ⟨_, rfl⟩
  rw [← es1] at hR1
  replace w := w s_1 es1
  replace hR := hR1
  refine gw_pst hk 3 (st' := (128, [some (.ref 48), some (.int x1), some (.int x2)], [.int x1, .int x2, .ref 48], h)) rfl ?_
  refine gw_br (c := x1 ≤ x2) (a := (135, [some (.ref 48), some (.int x1), some (.int x2)], [.ref 48], h)) (b := (131, [some (.ref 48), some (.int x1), some (.int x2)], [.ref 48], h)) (hk _ _ rfl) rfl ⟨fun z2 => ?_, fun z2 => ?_⟩
  · replace w := w.1 z2
    refine gw_pst hk 1 (st' := (136, [some (.ref 48), some (.int x1), some (.int x2)], [.long 0, .ref 48], h)) rfl ?_
    refine gw_le (L' := [some (.ref 48), none, some (.int x2)]) (gm_le_k _ (gm_le_n _ (gm_le_k _ gm_le_nil))) ?_
    exact ok211_136 c d Post _ _ _ w _ hR
  · replace w := w.2 z2
    refine gw_pst hk 2 (st' := (136, [some (.ref 48), some (.int x1), some (.int x2)], [.long 1, .ref 48], h)) rfl ?_
    refine gw_le (L' := [some (.ref 48), none, some (.int x2)]) (gm_le_k _ (gm_le_n _ (gm_le_k _ gm_le_nil))) ?_
    exact ok211_136 c d Post _ _ _ w _ hR
def w211_108 (c : gx) (d : Nat) (Post : Option Value → gs → Prop) (x1 : Int32) (x2 : Int32) (s : gs) : Prop :=
  ((x2 ≤ 0 → w211_120 c d Post x1 x2 s) ∧ (¬ (x2 ≤ 0) → tE c d 195 [.ref 48, .ref 64] s (fun v3 s_3 => v3 = none ∧ w211_120 c d Post x1 x2 s_3)))
theorem ok211_108 (c : gx) (d : Nat) (Post : Option Value → gs → Prop)  (x1 : Int32) (x2 : Int32) (s : gs) (w : w211_108 c d Post x1 x2 s) : tV c d 211 108 [some (.ref 48), some (.int x1), some (.int x2)] [] s Post := by
  intro h hR
  have hk : ∀ pc i, gm_find gk_211 pc = some i → gm_code (gt_T c.1 c.2.1 c.2.2.1) 211 pc = some i := fun _ _ z => z
  unfold w211_108 at w
  unfold gV
  refine gw_pst hk 1 (st' := (109, [some (.ref 48), some (.int x1), some (.int x2)], [.int x2], h)) rfl ?_
  refine gw_br (c := x2 ≤ 0) (a := (120, [some (.ref 48), some (.int x1), some (.int x2)], [], h)) (b := (112, [some (.ref 48), some (.int x1), some (.int x2)], [], h)) (hk _ _ rfl) rfl ⟨fun z1 => ?_, fun z1 => ?_⟩
  · replace w := w.1 z1
    exact ok211_120 c d Post _ _ _ w _ hR
  · replace w := w.2 z1
    refine gw_pst hk 2 (st' := (114, [some (.ref 48), some (.int x1), some (.int x2)], [.ref 48, .ref 48], h)) rfl ?_
    refine gw_gf (hk _ _ rfl) (RL_fR (n := 64) hR rfl) ?_
    obtain ⟨fs3, e3⟩ := RL_o hR (r := 48) (ci := 10) rfl
    refine gw_call (jj := 195) (As := [.ref 48, .ref 64]) (rest := []) (hk _ _ rfl) (fun _ => rfl) rfl rfl (Nat.le_of_ble_eq_true rfl) (gm_rcv_v rfl e3 rfl) ?_
    refine ge_imp (w h hR) (fun v3 h w => ?_)
    obtain ⟨s_3, hR, rfl, w⟩ := w
    show gw (gt_T c.1 c.2.1 c.2.2.1) c.2.2.2 d 211 (120, [some (.ref 48), some (.int x1), some (.int x2)], [], h) _
    exact ok211_120 c d Post _ _ _ w _ hR
def wb211_72 (c : gx) (d : Nat) (Post : Option Value → gs → Prop) (K72 : Int32 → Int32 → gs → Prop) (x1 : Int32) (x2 : Int32) (s : gs) : Prop :=
  ((x1 ≤ x2 → w211_108 c d Post x1 x2 s) ∧ (¬ (x1 ≤ x2) → vp_in (2 * x2) 160 ∧ vp_in ((2 * x2) + 1) 160 ∧ tE c d 213 [.ref 48, .int (gsA s 66 (2 * x2 : Int32).toNatClampNeg), .int (gsA s 66 ((2 * x2) + 1 : Int32).toNatClampNeg)] s (fun v6 s_6 => ∃ x_6 : Int32, v6 = some (.int x_6) ∧ ((x_6 = 0 → w211_108 c d Post x1 x2 s_6) ∧ (¬ (x_6 = 0) → K72 x1 (x2 + 1) s_6)))))
theorem okb211_72 (c : gx) (d : Nat) (Post : Option Value → gs → Prop) (K72 : Int32 → Int32 → gs → Prop)  (hK72 : ∀ (x1 : Int32) (x2 : Int32) (s : gs), K72 x1 x2 s → tV c d 211 72 [some (.ref 48), some (.int x1), some (.int x2)] [] s Post) (x1 : Int32) (x2 : Int32) (s : gs) (w : wb211_72 c d Post K72 x1 x2 s) : tV c d 211 72 [some (.ref 48), some (.int x1), some (.int x2)] [] s Post := by
  intro h hR
  have hk : ∀ pc i, gm_find gk_211 pc = some i → gm_code (gt_T c.1 c.2.1 c.2.2.1) 211 pc = some i := fun _ _ z => z
  unfold wb211_72 at w
  unfold gV
  refine gw_pst hk 2 (st' := (74, [some (.ref 48), some (.int x1), some (.int x2)], [.int x1, .int x2], h)) rfl ?_
  refine gw_br (c := x1 ≤ x2) (a := (108, [some (.ref 48), some (.int x1), some (.int x2)], [], h)) (b := (77, [some (.ref 48), some (.int x1), some (.int x2)], [], h)) (hk _ _ rfl) rfl ⟨fun z1 => ?_, fun z1 => ?_⟩
  · replace w := w.1 z1
    exact ok211_108 c d Post _ _ _ w _ hR
  · replace w := w.2 z1
    refine gw_pst hk 2 (st' := (79, [some (.ref 48), some (.int x1), some (.int x2)], [.ref 48, .ref 48], h)) rfl ?_
    refine gw_gf (hk _ _ rfl) (RL_fR (n := 66) hR rfl) ?_
    refine gw_pst hk 3 (st' := (85, [some (.ref 48), some (.int x1), some (.int x2)], [.int (2 * x2), .ref 66, .ref 48], h)) rfl ?_
    obtain ⟨b3, w⟩ := w
    refine gw_ald (hk _ _ rfl) (Or.inl ⟨rfl, rfl⟩) (RL_a (t := 0) (n := 160) hR rfl (by decide)) b3 ?_
    refine gw_pst hk 1 (st' := (87, [some (.ref 48), some (.int x1), some (.int x2)], [.ref 48, .int (gsA s 66 (2 * x2 : Int32).toNatClampNeg), .ref 48], h)) rfl ?_
    refine gw_gf (hk _ _ rfl) (RL_fR (n := 66) hR rfl) ?_
    refine gw_pst hk 5 (st' := (95, [some (.ref 48), some (.int x1), some (.int x2)], [.int ((2 * x2) + 1), .ref 66, .int (gsA s 66 (2 * x2 : Int32).toNatClampNeg), .ref 48], h)) rfl ?_
    obtain ⟨b5, w⟩ := w
    refine gw_ald (hk _ _ rfl) (Or.inl ⟨rfl, rfl⟩) (RL_a (t := 0) (n := 160) hR rfl (by decide)) b5 ?_
    obtain ⟨fs6, e6⟩ := RL_o hR (r := 48) (ci := 10) rfl
    refine gw_call (jj := 213) (As := [.ref 48, .int (gsA s 66 (2 * x2 : Int32).toNatClampNeg), .int (gsA s 66 ((2 * x2) + 1 : Int32).toNatClampNeg)]) (rest := []) (hk _ _ rfl) (fun _ => rfl) rfl rfl (Nat.le_of_ble_eq_true rfl) (gm_rcv_v rfl e6 rfl) ?_
    refine ge_imp (w h hR) (fun v6 h w => ?_)
    obtain ⟨s_6, hR, x_6, rfl, w⟩ := w
    show gw (gt_T c.1 c.2.1 c.2.2.1) c.2.2.2 d 211 (99, [some (.ref 48), some (.int x1), some (.int x2)], [.int x_6], h) _
    refine gw_br (c := x_6 = 0) (a := (108, [some (.ref 48), some (.int x1), some (.int x2)], [], h)) (b := (102, [some (.ref 48), some (.int x1), some (.int x2)], [], h)) (hk _ _ rfl) rfl ⟨fun z7 => ?_, fun z7 => ?_⟩
    · replace w := w.1 z7
      exact ok211_108 c d Post _ _ _ w _ hR
    · replace w := w.2 z7
      refine gw_pst hk 2 (st' := (72, [some (.ref 48), some (.int x1), some (.int (x2 + 1))], [], h)) rfl ?_
      exact hK72 _ _ _ w _ hR
def wl211_72 (c : gx) (d : Nat) (Post : Option Value → gs → Prop) : Nat → Int32 → Int32 → gs → Prop
  | 0 => fun _ _ _ => False
  | n + 1 => wb211_72 c d Post (wl211_72 c d Post n)
theorem okl211_72 (c : gx) (d : Nat) (Post : Option Value → gs → Prop) : ∀ (n : Nat) (x1 : Int32) (x2 : Int32) (s : gs), wl211_72 c d Post n x1 x2 s → tV c d 211 72 [some (.ref 48), some (.int x1), some (.int x2)] [] s Post
  | 0, _, _, _, w => w.elim
  | n + 1, x1, x2, s, w => okb211_72 c d Post (wl211_72 c d Post n) (okl211_72 c d Post n) x1 x2 s w
def w211_44 (c : gx) (d : Nat) (Post : Option Value → gs → Prop) (x1 : Int32) (s : gs) : Prop :=
  tE c d 171 [.ref 48] s (fun v1 s_1 => ∃ x_1 : Int32, v1 = some (.int x_1) ∧ ((x_1 = 0 → Post (some (.int ((-1) - (gsV s_1 48 18)))) s_1) ∧ (¬ (x_1 = 0) → tE c d 194 [.ref 49, .ref 64, .int 0] s_1 (fun v6 s_6 => v6 = none ∧ ∃ n, wl211_72 c d Post n x1 0 s_6))))
theorem ok211_44 (c : gx) (d : Nat) (Post : Option Value → gs → Prop)  (x1 : Int32) (s : gs) (w : w211_44 c d Post x1 s) : tV c d 211 44 [some (.ref 48), some (.int x1), none] [] s Post := by
  intro h hR
  have hk : ∀ pc i, gm_find gk_211 pc = some i → gm_code (gt_T c.1 c.2.1 c.2.2.1) 211 pc = some i := fun _ _ z => z
  unfold w211_44 at w
  unfold gV
  refine gw_pst hk 1 (st' := (45, [some (.ref 48), some (.int x1), none], [.ref 48], h)) rfl ?_
  obtain ⟨fs1, e1⟩ := RL_o hR (r := 48) (ci := 10) rfl
  refine gw_call (jj := 171) (As := [.ref 48]) (rest := []) (hk _ _ rfl) (fun _ => rfl) rfl rfl (Nat.le_of_ble_eq_true rfl) (gm_rcv_v rfl e1 rfl) ?_
  refine ge_imp (w h hR) (fun v1 h w => ?_)
  obtain ⟨s_1, hR, x_1, rfl, w⟩ := w
  show gw (gt_T c.1 c.2.1 c.2.2.1) c.2.2.2 d 211 (48, [some (.ref 48), some (.int x1), none], [.int x_1], h) _
  refine gw_br (c := x_1 = 0) (a := (51, [some (.ref 48), some (.int x1), none], [], h)) (b := (58, [some (.ref 48), some (.int x1), none], [], h)) (hk _ _ rfl) rfl ⟨fun z2 => ?_, fun z2 => ?_⟩
  · replace w := w.1 z2
    refine gw_pst hk 2 (st' := (53, [some (.ref 48), some (.int x1), none], [.ref 48, .int (-1)], h)) rfl ?_
    refine gw_gf (hk _ _ rfl) (RL_fI hR rfl) ?_
    refine gw_pst hk 1 (st' := (57, [some (.ref 48), some (.int x1), none], [.int ((-1) - (gsV s_1 48 18))], h)) rfl ?_
    exact gw_ret (hk _ _ rfl) rfl ⟨_, hR, w⟩
  · replace w := w.2 z2
    refine gw_pst hk 1 (st' := (59, [some (.ref 48), some (.int x1), none], [.ref 48], h)) rfl ?_
    refine gw_gf (hk _ _ rfl) (RL_fR (n := 49) hR rfl) ?_
    refine gw_pst hk 1 (st' := (63, [some (.ref 48), some (.int x1), none], [.ref 48, .ref 49], h)) rfl ?_
    refine gw_gf (hk _ _ rfl) (RL_fR (n := 64) hR rfl) ?_
    refine gw_pst hk 1 (st' := (67, [some (.ref 48), some (.int x1), none], [.int 0, .ref 64, .ref 49], h)) rfl ?_
    refine gw_call (jj := 194) (As := [.ref 49, .ref 64, .int 0]) (rest := []) (hk _ _ rfl) (fun _ => rfl) rfl rfl (Nat.le_of_ble_eq_true rfl) rfl ?_
    refine ge_imp (w h hR) (fun v6 h w => ?_)
    obtain ⟨s_6, hR, rfl, w⟩ := w
    show gw (gt_T c.1 c.2.1 c.2.2.1) c.2.2.2 d 211 (70, [some (.ref 48), some (.int x1), none], [], h) _
    refine gw_pst hk 2 (st' := (72, [some (.ref 48), some (.int x1), some (.int 0)], [], h)) rfl ?_
    obtain ⟨n, w⟩ := w
    exact okl211_72 c d Post n _ _ _ w _ hR
def wb211_13 (c : gx) (d : Nat) (Post : Option Value → gs → Prop) (K13 : Int32 → gs → Prop) (x1 : Int32) (s : gs) : Prop :=
  tE c d 165 [.ref 48] s (fun v1 s_1 => ∃ x_1 : Int32, v1 = some (.int x_1) ∧ ((x_1 = 0 → w211_44 c d Post x1 s_1) ∧ (¬ (x_1 = 0) → (((gsV s_1 48 15) ≤ (gsV s_1 48 17) → w211_44 c d Post x1 s_1) ∧ (¬ ((gsV s_1 48 15) ≤ (gsV s_1 48 17)) → tE c d 212 [.ref 48, .int (2 * x1)] s_1 (fun v6 s_6 => v6 = none ∧ K13 (x1 + 1) s_6))))))
theorem okb211_13 (c : gx) (d : Nat) (Post : Option Value → gs → Prop) (K13 : Int32 → gs → Prop)  (hK13 : ∀ (x1 : Int32) (s : gs), K13 x1 s → tV c d 211 13 [some (.ref 48), some (.int x1), none] [] s Post) (x1 : Int32) (s : gs) (w : wb211_13 c d Post K13 x1 s) : tV c d 211 13 [some (.ref 48), some (.int x1), none] [] s Post := by
  intro h hR
  have hk : ∀ pc i, gm_find gk_211 pc = some i → gm_code (gt_T c.1 c.2.1 c.2.2.1) 211 pc = some i := fun _ _ z => z
  unfold wb211_13 at w
  unfold gV
  refine gw_pst hk 1 (st' := (14, [some (.ref 48), some (.int x1), none], [.ref 48], h)) rfl ?_
  obtain ⟨fs1, e1⟩ := RL_o hR (r := 48) (ci := 10) rfl
  refine gw_call (jj := 165) (As := [.ref 48]) (rest := []) (hk _ _ rfl) (fun _ => rfl) rfl rfl (Nat.le_of_ble_eq_true rfl) (gm_rcv_v rfl e1 rfl) ?_
  refine ge_imp (w h hR) (fun v1 h w => ?_)
  obtain ⟨s_1, hR, x_1, rfl, w⟩ := w
  show gw (gt_T c.1 c.2.1 c.2.2.1) c.2.2.2 d 211 (17, [some (.ref 48), some (.int x1), none], [.int x_1], h) _
  refine gw_br (c := x_1 = 0) (a := (44, [some (.ref 48), some (.int x1), none], [], h)) (b := (20, [some (.ref 48), some (.int x1), none], [], h)) (hk _ _ rfl) rfl ⟨fun z2 => ?_, fun z2 => ?_⟩
  · replace w := w.1 z2
    exact ok211_44 c d Post _ _ w _ hR
  · replace w := w.2 z2
    refine gw_pst hk 1 (st' := (21, [some (.ref 48), some (.int x1), none], [.ref 48], h)) rfl ?_
    refine gw_gf (hk _ _ rfl) (RL_fI hR rfl) ?_
    refine gw_pst hk 1 (st' := (25, [some (.ref 48), some (.int x1), none], [.ref 48, .int (gsV s_1 48 17)], h)) rfl ?_
    refine gw_gf (hk _ _ rfl) (RL_fI hR rfl) ?_
    refine gw_br (c := (gsV s_1 48 15) ≤ (gsV s_1 48 17)) (a := (44, [some (.ref 48), some (.int x1), none], [], h)) (b := (31, [some (.ref 48), some (.int x1), none], [], h)) (hk _ _ rfl) rfl ⟨fun z5 => ?_, fun z5 => ?_⟩
    · replace w := w.1 z5
      exact ok211_44 c d Post _ _ w _ hR
    · replace w := w.2 z5
      refine gw_pst hk 4 (st' := (35, [some (.ref 48), some (.int x1), none], [.int (2 * x1), .ref 48], h)) rfl ?_
      obtain ⟨fs6, e6⟩ := RL_o hR (r := 48) (ci := 10) rfl
      refine gw_call (jj := 212) (As := [.ref 48, .int (2 * x1)]) (rest := []) (hk _ _ rfl) (fun _ => rfl) rfl rfl (Nat.le_of_ble_eq_true rfl) (gm_rcv_v rfl e6 rfl) ?_
      refine ge_imp (w h hR) (fun v6 h w => ?_)
      obtain ⟨s_6, hR, rfl, w⟩ := w
      show gw (gt_T c.1 c.2.1 c.2.2.1) c.2.2.2 d 211 (38, [some (.ref 48), some (.int x1), none], [], h) _
      refine gw_pst hk 2 (st' := (13, [some (.ref 48), some (.int (x1 + 1)), none], [], h)) rfl ?_
      exact hK13 _ _ w _ hR
def wl211_13 (c : gx) (d : Nat) (Post : Option Value → gs → Prop) : Nat → Int32 → gs → Prop
  | 0 => fun _ _ => False
  | n + 1 => wb211_13 c d Post (wl211_13 c d Post n)
theorem okl211_13 (c : gx) (d : Nat) (Post : Option Value → gs → Prop) : ∀ (n : Nat) (x1 : Int32) (s : gs), wl211_13 c d Post n x1 s → tV c d 211 13 [some (.ref 48), some (.int x1), none] [] s Post
  | 0, _, _, w => w.elim
  | n + 1, x1, s, w => okb211_13 c d Post (wl211_13 c d Post n) (okl211_13 c d Post n) x1 s w
/-- CommandByTurnsModel.war()I -/
def wm211 (c : gx) (d : Nat) (Post : Option Value → gs → Prop)  (s : gs) : Prop :=
  ∀ s_1 : gs, s_1 = gs_V s 48 13 0 → tE c d 163 [.ref 48, .int 60] s_1 (fun v2 s_2 => v2 = none ∧ ∃ n, wl211_13 c d Post n 0 s_2)
theorem okm211 (c : gx) (d : Nat) (Post : Option Value → gs → Prop)  (s : gs) (w : wm211 c d Post  s) : tE c (d + 1) 211 [.ref 48] s Post := by
  intro h hR
  have hk : ∀ pc i, gm_find gk_211 pc = some i → gm_code (gt_T c.1 c.2.1 c.2.2.1) 211 pc = some i := fun _ _ z => z
  unfold wm211 at w
  refine ge_of (by decide) (Nat.le_of_ble_eq_true rfl) ?_
  show gw (gt_T c.1 c.2.1 c.2.2.1) c.2.2.2 d 211 (0, [some (.ref 48), none, none], [], h) _
  refine gw_pst hk 2 (st' := (2, [some (.ref 48), none, none], [.int 0, .ref 48], h)) rfl ?_
  obtain ⟨fs1, e1⟩ := RL_o hR (r := 48) (ci := 10) rfl
  obtain ⟨l1, hR1⟩ := RL_pI (k := 13) (x := 0) hR rfl e1
  refine gw_pf (hk _ _ rfl) e1 l1 rfl ?_
  generalize gm_put h _ _ = h at hR1 ⊢
  obtain ⟨s_1, es1⟩ : ∃ z, z = gs_V s 48 13 0 := ⟨_, rfl⟩
  rw [← es1] at hR1
  replace w := w s_1 es1
  replace hR := hR1
  refine gw_pst hk 2 (st' := (8, [some (.ref 48), none, none], [.int 60, .ref 48], h)) rfl ?_
  obtain ⟨fs2, e2⟩ := RL_o hR (r := 48) (ci := 10) rfl
  refine gw_call (jj := 163) (As := [.ref 48, .int 60]) (rest := []) (hk _ _ rfl) (fun _ => rfl) rfl rfl (Nat.le_of_ble_eq_true rfl) (gm_rcv_v rfl e2 rfl) ?_
  refine ge_imp (w h hR) (fun v2 h w => ?_)
  obtain ⟨s_2, hR, rfl, w⟩ := w
  show gw (gt_T c.1 c.2.1 c.2.2.1) c.2.2.2 d 211 (11, [some (.ref 48), none, none], [], h) _
  refine gw_pst hk 2 (st' := (13, [some (.ref 48), some (.int 0), none], [], h)) rfl ?_
  obtain ⟨n, w⟩ := w
  exact okl211_13 c d Post n _ _ w _ hR
def w212_146 (c : gx) (d : Nat) (Post : Option Value → gs → Prop)  (s : gs) : Prop :=
  Post none s
theorem ok212_146 (c : gx) (d : Nat) (Post : Option Value → gs → Prop)   (s : gs) (w : w212_146 c d Post  s) : tV c d 212 146 [none, none, none] [] s Post := by
  intro h hR
  have hk : ∀ pc i, gm_find gk_212 pc = some i → gm_code (gt_T c.1 c.2.1 c.2.2.1) 212 pc = some i := fun _ _ z => z
  unfold w212_146 at w
  unfold gV
  exact gw_ret (hk _ _ rfl) rfl ⟨_, hR, w⟩
def w212_145 (c : gx) (d : Nat) (Post : Option Value → gs → Prop) (rs0 : Nat) (xs1 : Int32) (xs2 : Int32) (s : gs) : Prop :=
  ∃ n1, gs_isA rs0 0 n1 = true ∧ vp_in xs1 n1 ∧ ∀ s_1 : gs, s_1 = gs_A s rs0 (xs1 : Int32).toNatClampNeg (vp_nar .int xs2) → w212_146 c d Post s_1
theorem ok212_145 (c : gx) (d : Nat) (Post : Option Value → gs → Prop)  (rs0 : Nat) (xs1 : Int32) (xs2 : Int32) (s : gs) (w : w212_145 c d Post rs0 xs1 xs2 s) : tV c d 212 145 [none, none, none] [.int xs2, .int xs1, .ref rs0] s Post := by
  intro h hR
  have hk : ∀ pc i, gm_find gk_212 pc = some i → gm_code (gt_T c.1 c.2.1 c.2.2.1) 212 pc = some i := fun _ _ z => z
  unfold w212_145 at w
  unfold gV
  obtain ⟨n1, a1, b1, w⟩ := w
  have hR1 := RL_pA (a := rs0) (t := 0) (n := n1) (k := (xs1 : Int32).toNatClampNeg) (x := (vp_nar .int xs2)) hR a1 (by decide)
  refine gw_ast (hk _ _ rfl) (Or.inl ⟨rfl, rfl, rfl⟩) (RL_a (t := 0) (n := n1) hR a1 (by decide)) b1 ?_
  generalize gm_put h _ _ = h at hR1 ⊢
  obtain ⟨s_1, es1⟩ : ∃ z, z = gs_A s rs0 (xs1 : Int32).toNatClampNeg (vp_nar .int xs2) := ⟨_, rfl⟩
  rw [← es1] at hR1
  replace w := w s_1 es1
  replace hR := hR1
  exact ok212_146 c d Post _ w _ hR
def w212_97 (c : gx) (d : Nat) (Post : Option Value → gs → Prop) (x1 : Int32) (x2 : Int32) (s : gs) : Prop :=
  ((x2 = 102 → tE c d 164 [.ref 48] s (fun v3 s_3 => ∃ x_3 : Int32, v3 = some (.int x_3) ∧ tE c d 154 [.int x_3, .int 97, .int 98] s_3 (fun v4 s_4 => ∃ x_4 : Int32, v4 = some (.int x_4) ∧ ((x_4 = 0 → tE c d 169 [.ref 48, .int 48, .int 10] s_4 (fun v6 s_6 => ∃ x_6 : Int32, v6 = some (.int x_6) ∧ w212_145 c d Post 66 (x1 + 1) x_6 s_6)) ∧ (¬ (x_4 = 0) → tE c d 169 [.ref 48, .int 97, .int 2] s_4 (fun v7 s_7 => ∃ x_7 : Int32, v7 = some (.int x_7) ∧ w212_145 c d Post 66 (x1 + 1) (10 + x_7) s_7)))))) ∧ (¬ (x2 = 102) → w212_146 c d Post s))
theorem ok212_97 (c : gx) (d : Nat) (Post : Option Value → gs → Prop)  (x1 : Int32) (x2 : Int32) (s : gs) (w : w212_97 c d Post x1 x2 s) : tV c d 212 97 [some (.ref 48), some (.int x1), some (.int x2)] [] s Post := by
  intro h hR
  have hk : ∀ pc i, gm_find gk_212 pc = some i → gm_code (gt_T c.1 c.2.1 c.2.2.1) 212 pc = some i := fun _ _ z => z
  unfold w212_97 at w
  unfold gV
  refine gw_pst hk 2 (st' := (100, [some (.ref 48), some (.int x1), some (.int x2)], [.int 102, .int x2], h)) rfl ?_
  refine gw_br (c := x2 = 102) (a := (103, [some (.ref 48), some (.int x1), some (.int x2)], [], h)) (b := (146, [some (.ref 48), some (.int x1), some (.int x2)], [], h)) (hk _ _ rfl) rfl ⟨fun z1 => ?_, fun z1 => ?_⟩
  · replace w := w.1 z1
    refine gw_pst hk 1 (st' := (104, [some (.ref 48), some (.int x1), some (.int x2)], [.ref 48], h)) rfl ?_
    refine gw_gf (hk _ _ rfl) (RL_fR (n := 66) hR rfl) ?_
    refine gw_pst hk 4 (st' := (111, [some (.ref 48), some (.int x1), some (.int x2)], [.ref 48, .int (x1 + 1), .ref 66], h)) rfl ?_
    obtain ⟨fs3, e3⟩ := RL_o hR (r := 48) (ci := 10) rfl
    refine gw_call (jj := 164) (As := [.ref 48]) (rest := [.int (x1 + 1), .ref 66]) (hk _ _ rfl) (fun _ => rfl) rfl rfl (Nat.le_of_ble_eq_true rfl) (gm_rcv_v rfl e3 rfl) ?_
    refine ge_imp (w h hR) (fun v3 h w => ?_)
    obtain ⟨s_3, hR, x_3, rfl, w⟩ := w
    show gw (gt_T c.1 c.2.1 c.2.2.1) c.2.2.2 d 212 (114, [some (.ref 48), some (.int x1), some (.int x2)], [.int x_3, .int (x1 + 1), .ref 66], h) _
    refine gw_pst hk 2 (st' := (118, [some (.ref 48), some (.int x1), some (.int x2)], [.int 98, .int 97, .int x_3, .int (x1 + 1), .ref 66], h)) rfl ?_
    refine gw_call (jj := 154) (As := [.int x_3, .int 97, .int 98]) (rest := [.int (x1 + 1), .ref 66]) (hk _ _ rfl) (fun _ => rfl) rfl rfl (Nat.le_of_ble_eq_true rfl) rfl ?_
    refine ge_imp (w h hR) (fun v4 h w => ?_)
    obtain ⟨s_4, hR, x_4, rfl, w⟩ := w
    show gw (gt_T c.1 c.2.1 c.2.2.1) c.2.2.2 d 212 (121, [some (.ref 48), some (.int x1), some (.int x2)], [.int x_4, .int (x1 + 1), .ref 66], h) _
    refine gw_br (c := x_4 = 0) (a := (137, [some (.ref 48), some (.int x1), some (.int x2)], [.int (x1 + 1), .ref 66], h)) (b := (124, [some (.ref 48), some (.int x1), some (.int x2)], [.int (x1 + 1), .ref 66], h)) (hk _ _ rfl) rfl ⟨fun z5 => ?_, fun z5 => ?_⟩
    · replace w := w.1 z5
      refine gw_pst hk 3 (st' := (142, [some (.ref 48), some (.int x1), some (.int x2)], [.int 10, .int 48, .ref 48, .int (x1 + 1), .ref 66], h)) rfl ?_
      obtain ⟨fs6, e6⟩ := RL_o hR (r := 48) (ci := 10) rfl
      refine gw_call (jj := 169) (As := [.ref 48, .int 48, .int 10]) (rest := [.int (x1 + 1), .ref 66]) (hk _ _ rfl) (fun _ => rfl) rfl rfl (Nat.le_of_ble_eq_true rfl) (gm_rcv_v rfl e6 rfl) ?_
      refine ge_imp (w h hR) (fun v6 h w => ?_)
      obtain ⟨s_6, hR, x_6, rfl, w⟩ := w
      show gw (gt_T c.1 c.2.1 c.2.2.1) c.2.2.2 d 212 (145, [some (.ref 48), some (.int x1), some (.int x2)], [.int x_6, .int (x1 + 1), .ref 66], h) _
      refine gw_le (L' := [none, none, none]) (gm_le_n _ (gm_le_n _ (gm_le_n _ gm_le_nil))) ?_
      exact ok212_145 c d Post _ _ _ _ w _ hR
    · replace w := w.2 z5
      refine gw_pst hk 4 (st' := (130, [some (.ref 48), some (.int x1), some (.int x2)], [.int 2, .int 97, .ref 48, .int 10, .int (x1 + 1), .ref 66], h)) rfl ?_
      obtain ⟨fs7, e7⟩ := RL_o hR (r := 48) (ci := 10) rfl
      refine gw_call (jj := 169) (As := [.ref 48, .int 97, .int 2]) (rest := [.int 10, .int (x1 + 1), .ref 66]) (hk _ _ rfl) (fun _ => rfl) rfl rfl (Nat.le_of_ble_eq_true rfl) (gm_rcv_v rfl e7 rfl) ?_
      refine ge_imp (w h hR) (fun v7 h w => ?_)
      obtain ⟨s_7, hR, x_7, rfl, w⟩ := w
      show gw (gt_T c.1 c.2.1 c.2.2.1) c.2.2.2 d 212 (133, [some (.ref 48), some (.int x1), some (.int x2)], [.int x_7, .int 10, .int (x1 + 1), .ref 66], h) _
      refine gw_pst hk 2 (st' := (145, [some (.ref 48), some (.int x1), some (.int x2)], [.int (10 + x_7), .int (x1 + 1), .ref 66], h)) rfl ?_
      refine gw_le (L' := [none, none, none]) (gm_le_n _ (gm_le_n _ (gm_le_n _ gm_le_nil))) ?_
      exact ok212_145 c d Post _ _ _ _ w _ hR
  · replace w := w.2 z1
    refine gw_le (L' := [none, none, none]) (gm_le_n _ (gm_le_n _ (gm_le_n _ gm_le_nil))) ?_
    exact ok212_146 c d Post _ w _ hR
def w212_79 (c : gx) (d : Nat) (Post : Option Value → gs → Prop) (x1 : Int32) (x2 : Int32) (s : gs) : Prop :=
  tE c d 169 [.ref 48, .int 49, .int 9] s (fun v2 s_2 => ∃ x_2 : Int32, v2 = some (.int x_2) ∧ vp_in (x1 + 1) 160 ∧ ∀ s_3 : gs, s_3 = gs_A s_2 66 (x1 + 1 : Int32).toNatClampNeg (vp_nar .int (x_2 + 1)) → w212_97 c d Post x1 x2 s_3)
theorem ok212_79 (c : gx) (d : Nat) (Post : Option Value → gs → Prop)  (x1 : Int32) (x2 : Int32) (s : gs) (w : w212_79 c d Post x1 x2 s) : tV c d 212 79 [some (.ref 48), some (.int x1), some (.int x2)] [] s Post := by
  intro h hR
  have hk : ∀ pc i, gm_find gk_212 pc = some i → gm_code (gt_T c.1 c.2.1 c.2.2.1) 212 pc = some i := fun _ _ z => z
  unfold w212_79 at w
  unfold gV
  refine gw_pst hk 1 (st' := (80, [some (.ref 48), some (.int x1), some (.int x2)], [.ref 48], h)) rfl ?_
  refine gw_gf (hk _ _ rfl) (RL_fR (n := 66) hR rfl) ?_
  refine gw_pst hk 6 (st' := (91, [some (.ref 48), some (.int x1), some (.int x2)], [.int 9, .int 49, .ref 48, .int (x1 + 1), .ref 66], h)) rfl ?_
  obtain ⟨fs2, e2⟩ := RL_o hR (r := 48) (ci := 10) rfl
  refine gw_call (jj := 169) (As := [.ref 48, .int 49, .int 9]) (rest := [.int (x1 + 1), .ref 66]) (hk _ _ rfl) (fun _ => rfl) rfl rfl (Nat.le_of_ble_eq_true rfl) (gm_rcv_v rfl e2 rfl) ?_
  refine ge_imp (w h hR) (fun v2 h w => ?_)
  obtain ⟨s_2, hR, x_2, rfl, w⟩ := w
  show gw (gt_T c.1 c.2.1 c.2.2.1) c.2.2.2 d 212 (94, [some (.ref 48), some (.int x1), some (.int x2)], [.int x_2, .int (x1 + 1), .ref 66], h) _
  refine gw_pst hk 2 (st' := (96, [some (.ref 48), some (.int x1), some (.int x2)], [.int (x_2 + 1), .int (x1 + 1), .ref 66], h)) rfl ?_
  obtain ⟨b3, w⟩ := w
  have hR3 := RL_pA (a := 66) (t := 0) (n := 160) (k := (x1 + 1 : Int32).toNatClampNeg) (x := (vp_nar .int (x_2 + 1))) hR rfl (by decide)
  refine gw_ast (hk _ _ rfl) (Or.inl ⟨rfl, rfl, rfl⟩) (RL_a (t := 0) (n := 160) hR rfl (by decide)) b3 ?_
  generalize gm_put h _ _ = h at hR3 ⊢
  obtain ⟨s_3, es3⟩ : ∃ z, z = gs_A s_2 66 (x1 + 1 : Int32).toNatClampNeg (vp_nar .int (x_2 + 1)) := ⟨_, rfl⟩
  rw [← es3] at hR3
  replace w := w s_3 es3
  replace hR := hR3
  exact ok212_97 c d Post _ _ _ w _ hR
def w212_50 (c : gx) (d : Nat) (Post : Option Value → gs → Prop) (x1 : Int32) (x2 : Int32) (s : gs) : Prop :=
  ∀ s_2 : gs, s_2 = gs_V s 48 17 ((gsV s 48 17) + 1) → vp_in x1 160 ∧ ∀ s_4 : gs, s_4 = gs_A s_2 66 (x1 : Int32).toNatClampNeg (vp_nar .int x2) → ((x2 = 62 → w212_79 c d Post x1 x2 s_4) ∧ (¬ (x2 = 62) → ((x2 = 60 → w212_79 c d Post x1 x2 s_4) ∧ (¬ (x2 = 60) → w212_97 c d Post x1 x2 s_4))))
theorem ok212_50 (c : gx) (d : Nat) (Post : Option Value → gs → Prop)  (x1 : Int32) (x2 : Int32) (s : gs) (w : w212_50 c d Post x1 x2 s) : tV c d 212 50 [some (.ref 48), some (.int x1), some (.int x2)] [] s Post := by
  intro h hR
  have hk : ∀ pc i, gm_find gk_212 pc = some i → gm_code (gt_T c.1 c.2.1 c.2.2.1) 212 pc = some i := fun _ _ z => z
  unfold w212_50 at w
  unfold gV
  refine gw_pst hk 2 (st' := (52, [some (.ref 48), some (.int x1), some (.int x2)], [.ref 48, .ref 48], h)) rfl ?_
  refine gw_gf (hk _ _ rfl) (RL_fI hR rfl) ?_
  refine gw_pst hk 2 (st' := (57, [some (.ref 48), some (.int x1), some (.int x2)], [.int ((gsV s 48 17) + 1), .ref 48], h)) rfl ?_
  obtain ⟨fs2, e2⟩ := RL_o hR (r := 48) (ci := 10) rfl
  obtain ⟨l2, hR2⟩ := RL_pI (k := 17) (x := (gsV s 48 17) + 1) hR rfl e2
  refine gw_pf (hk _ _ rfl) e2 l2 rfl ?_
  generalize gm_put h _ _ = h at hR2 ⊢
  obtain ⟨s_2, es2⟩ : ∃ z, z = gs_V s 48 17 ((gsV s 48 17) + 1) := ⟨_, rfl⟩
  rw [← es2] at hR2
  replace w := w s_2 es2
  replace hR := hR2
  refine gw_pst hk 1 (st' := (61, [some (.ref 48), some (.int x1), some (.int x2)], [.ref 48], h)) rfl ?_
  refine gw_gf (hk _ _ rfl) (RL_fR (n := 66) hR rfl) ?_
  refine gw_pst hk 2 (st' := (66, [some (.ref 48), some (.int x1), some (.int x2)], [.int x2, .int x1, .ref 66], h)) rfl ?_
  obtain ⟨b4, w⟩ := w
  have hR4 := RL_pA (a := 66) (t := 0) (n := 160) (k := (x1 : Int32).toNatClampNeg) (x := (vp_nar .int x2)) hR rfl (by decide)
  refine gw_ast (hk _ _ rfl) (Or.inl ⟨rfl, rfl, rfl⟩) (RL_a (t := 0) (n := 160) hR rfl (by decide)) b4 ?_
  generalize gm_put h _ _ = h at hR4 ⊢
  obtain ⟨s_4, es4⟩ : ∃ z, z = gs_A s_2 66 (x1 : Int32).toNatClampNeg (vp_nar .int x2) := ⟨_, rfl⟩
  rw [← es4] at hR4
  replace w := w s_4 es4
  replace hR := hR4
  refine gw_pst hk 2 (st' := (70, [some (.ref 48), some (.int x1), some (.int x2)], [.int 62, .int x2], h)) rfl ?_
  refine gw_br (c := x2 = 62) (a := (79, [some (.ref 48), some (.int x1), some (.int x2)], [], h)) (b := (73, [some (.ref 48), some (.int x1), some (.int x2)], [], h)) (hk _ _ rfl) rfl ⟨fun z5 => ?_, fun z5 => ?_⟩
  · replace w := w.1 z5
    exact ok212_79 c d Post _ _ _ w _ hR
  · replace w := w.2 z5
    refine gw_pst hk 2 (st' := (76, [some (.ref 48), some (.int x1), some (.int x2)], [.int 60, .int x2], h)) rfl ?_
    refine gw_br (c := x2 = 60) (a := (79, [some (.ref 48), some (.int x1), some (.int x2)], [], h)) (b := (97, [some (.ref 48), some (.int x1), some (.int x2)], [], h)) (hk _ _ rfl) rfl ⟨fun z6 => ?_, fun z6 => ?_⟩
    · replace w := w.1 z6
      exact ok212_79 c d Post _ _ _ w _ hR
    · replace w := w.2 z6
      exact ok212_97 c d Post _ _ _ w _ hR
/-- CommandByTurnsModel.readAct(I)V -/
def wm212 (c : gx) (d : Nat) (Post : Option Value → gs → Prop) (x1 : Int32) (s : gs) : Prop :=
  tE c d 164 [.ref 48] s (fun v1 s_1 => ∃ x_1 : Int32, v1 = some (.int x_1) ∧ ((x_1 = 62 → w212_50 c d Post x1 x_1 s_1) ∧ (¬ (x_1 = 62) → ((x_1 = 60 → w212_50 c d Post x1 x_1 s_1) ∧ (¬ (x_1 = 60) → ((x_1 = 104 → w212_50 c d Post x1 x_1 s_1) ∧ (¬ (x_1 = 104) → ((x_1 = 120 → w212_50 c d Post x1 x_1 s_1) ∧ (¬ (x_1 = 120) → ((x_1 = 102 → w212_50 c d Post x1 x_1 s_1) ∧ (¬ (x_1 = 102) → ((x_1 = 108 → w212_50 c d Post x1 x_1 s_1) ∧ (¬ (x_1 = 108) → tE c d 166 [.ref 48, .int (gsV s_1 48 17)] s_1 (fun v9 s_9 => v9 = none ∧ Post none s_9))))))))))))))
theorem okm212 (c : gx) (d : Nat) (Post : Option Value → gs → Prop) (x1 : Int32) (s : gs) (w : wm212 c d Post x1 s) : tE c (d + 1) 212 [.ref 48, .int x1] s Post := by
  intro h hR
  have hk : ∀ pc i, gm_find gk_212 pc = some i → gm_code (gt_T c.1 c.2.1 c.2.2.1) 212 pc = some i := fun _ _ z => z
  unfold wm212 at w
  refine ge_of (by decide) (Nat.le_of_ble_eq_true rfl) ?_
  show gw (gt_T c.1 c.2.1 c.2.2.1) c.2.2.2 d 212 (0, [some (.ref 48), some (.int x1), none], [], h) _
  refine gw_pst hk 1 (st' := (1, [some (.ref 48), some (.int x1), none], [.ref 48], h)) rfl ?_
  obtain ⟨fs1, e1⟩ := RL_o hR (r := 48) (ci := 10) rfl
  refine gw_call (jj := 164) (As := [.ref 48]) (rest := []) (hk _ _ rfl) (fun _ => rfl) rfl rfl (Nat.le_of_ble_eq_true rfl) (gm_rcv_v rfl e1 rfl) ?_
  refine ge_imp (w h hR) (fun v1 h w => ?_)
  obtain ⟨s_1, hR, x_1, rfl, w⟩ := w
  show gw (gt_T c.1 c.2.1 c.2.2.1) c.2.2.2 d 212 (4, [some (.ref 48), some (.int x1), none], [.int x_1], h) _
  refine gw_pst hk 3 (st' := (8, [some (.ref 48), some (.int x1), some (.int x_1)], [.int 62, .int x_1], h)) rfl ?_
  refine gw_br (c := x_1 = 62) (a := (50, [some (.ref 48), some (.int x1), some (.int x_1)], [], h)) (b := (11, [some (.ref 48), some (.int x1), some (.int x_1)], [], h)) (hk _ _ rfl) rfl ⟨fun z2 => ?_, fun z2 => ?_⟩
  · replace w := w.1 z2
    exact ok212_50 c d Post _ _ _ w _ hR
  · replace w := w.2 z2
    refine gw_pst hk 2 (st' := (14, [some (.ref 48), some (.int x1), some (.int x_1)], [.int 60, .int x_1], h)) rfl ?_
    refine gw_br (c := x_1 = 60) (a := (50, [some (.ref 48), some (.int x1), some (.int x_1)], [], h)) (b := (17, [some (.ref 48), some (.int x1), some (.int x_1)], [], h)) (hk _ _ rfl) rfl ⟨fun z3 => ?_, fun z3 => ?_⟩
    · replace w := w.1 z3
      exact ok212_50 c d Post _ _ _ w _ hR
    · replace w := w.2 z3
      refine gw_pst hk 2 (st' := (20, [some (.ref 48), some (.int x1), some (.int x_1)], [.int 104, .int x_1], h)) rfl ?_
      refine gw_br (c := x_1 = 104) (a := (50, [some (.ref 48), some (.int x1), some (.int x_1)], [], h)) (b := (23, [some (.ref 48), some (.int x1), some (.int x_1)], [], h)) (hk _ _ rfl) rfl ⟨fun z4 => ?_, fun z4 => ?_⟩
      · replace w := w.1 z4
        exact ok212_50 c d Post _ _ _ w _ hR
      · replace w := w.2 z4
        refine gw_pst hk 2 (st' := (26, [some (.ref 48), some (.int x1), some (.int x_1)], [.int 120, .int x_1], h)) rfl ?_
        refine gw_br (c := x_1 = 120) (a := (50, [some (.ref 48), some (.int x1), some (.int x_1)], [], h)) (b := (29, [some (.ref 48), some (.int x1), some (.int x_1)], [], h)) (hk _ _ rfl) rfl ⟨fun z5 => ?_, fun z5 => ?_⟩
        · replace w := w.1 z5
          exact ok212_50 c d Post _ _ _ w _ hR
        · replace w := w.2 z5
          refine gw_pst hk 2 (st' := (32, [some (.ref 48), some (.int x1), some (.int x_1)], [.int 102, .int x_1], h)) rfl ?_
          refine gw_br (c := x_1 = 102) (a := (50, [some (.ref 48), some (.int x1), some (.int x_1)], [], h)) (b := (35, [some (.ref 48), some (.int x1), some (.int x_1)], [], h)) (hk _ _ rfl) rfl ⟨fun z6 => ?_, fun z6 => ?_⟩
          · replace w := w.1 z6
            exact ok212_50 c d Post _ _ _ w _ hR
          · replace w := w.2 z6
            refine gw_pst hk 2 (st' := (38, [some (.ref 48), some (.int x1), some (.int x_1)], [.int 108, .int x_1], h)) rfl ?_
            refine gw_br (c := x_1 = 108) (a := (50, [some (.ref 48), some (.int x1), some (.int x_1)], [], h)) (b := (41, [some (.ref 48), some (.int x1), some (.int x_1)], [], h)) (hk _ _ rfl) rfl ⟨fun z7 => ?_, fun z7 => ?_⟩
            · replace w := w.1 z7
              exact ok212_50 c d Post _ _ _ w _ hR
            · replace w := w.2 z7
              refine gw_pst hk 2 (st' := (43, [some (.ref 48), some (.int x1), some (.int x_1)], [.ref 48, .ref 48], h)) rfl ?_
              refine gw_gf (hk _ _ rfl) (RL_fI hR rfl) ?_
              obtain ⟨fs9, e9⟩ := RL_o hR (r := 48) (ci := 10) rfl
              refine gw_call (jj := 166) (As := [.ref 48, .int (gsV s_1 48 17)]) (rest := []) (hk _ _ rfl) (fun _ => rfl) rfl rfl (Nat.le_of_ble_eq_true rfl) (gm_rcv_v rfl e9 rfl) ?_
              refine ge_imp (w h hR) (fun v9 h w => ?_)
              obtain ⟨s_9, hR, rfl, w⟩ := w
              show gw (gt_T c.1 c.2.1 c.2.2.1) c.2.2.2 d 212 (49, [some (.ref 48), some (.int x1), some (.int x_1)], [], h) _
              exact gw_ret (hk _ _ rfl) rfl ⟨_, hR, w⟩
def w213_64 (c : gx) (d : Nat) (Post : Option Value → gs → Prop) (xs0 : Int32) (s : gs) : Prop :=
  tE c d 199 [.ref 48, .int xs0] s (fun v1 s_1 => ∃ x_1 : Int32, v1 = some (.int x_1) ∧ ((0 ≤ x_1 → tE c d 200 [.ref 48, .int xs0] s_1 (fun v3 s_3 => v3 = none ∧ Post (some (.int 1)) s_3)) ∧ (¬ (0 ≤ x_1) → Post (some (.int 0)) s_1)))
theorem ok213_64 (c : gx) (d : Nat) (Post : Option Value → gs → Prop)  (xs0 : Int32) (s : gs) (w : w213_64 c d Post xs0 s) : tV c d 213 64 [some (.ref 48), none, none, none] [.int xs0] s Post := by
  intro h hR
  have hk : ∀ pc i, gm_find gk_213 pc = some i → gm_code (gt_T c.1 c.2.1 c.2.2.1) 213 pc = some i := fun _ _ z => z
  unfold w213_64 at w
  unfold gV
  refine gw_pst hk 3 (st' := (67, [some (.ref 48), none, none, some (.int xs0)], [.int xs0, .ref 48], h)) rfl ?_
  obtain ⟨fs1, e1⟩ := RL_o hR (r := 48) (ci := 10) rfl
  refine gw_call (jj := 199) (As := [.ref 48, .int xs0]) (rest := []) (hk _ _ rfl) (fun _ => rfl) rfl rfl (Nat.le_of_ble_eq_true rfl) (gm_rcv_v rfl e1 rfl) ?_
  refine ge_imp (w h hR) (fun v1 h w => ?_)
  obtain ⟨s_1, hR, x_1, rfl, w⟩ := w
  show gw (gt_T c.1 c.2.1 c.2.2.1) c.2.2.2 d 213 (70, [some (.ref 48), none, none, some (.int xs0)], [.int x_1], h) _
  refine gw_br (c := 0 ≤ x_1) (a := (75, [some (.ref 48), none, none, some (.int xs0)], [], h)) (b := (73, [some (.ref 48), none, none, some (.int xs0)], [], h)) (hk _ _ rfl) rfl ⟨fun z2 => ?_, fun z2 => ?_⟩
  · replace w := w.1 z2
    refine gw_pst hk 2 (st' := (77, [some (.ref 48), none, none, some (.int xs0)], [.int xs0, .ref 48], h)) rfl ?_
    obtain ⟨fs3, e3⟩ := RL_o hR (r := 48) (ci := 10) rfl
    refine gw_call (jj := 200) (As := [.ref 48, .int xs0]) (rest := []) (hk _ _ rfl) (fun _ => rfl) rfl rfl (Nat.le_of_ble_eq_true rfl) (gm_rcv_v rfl e3 rfl) ?_
    refine ge_imp (w h hR) (fun v3 h w => ?_)
    obtain ⟨s_3, hR, rfl, w⟩ := w
    show gw (gt_T c.1 c.2.1 c.2.2.1) c.2.2.2 d 213 (80, [some (.ref 48), none, none, some (.int xs0)], [], h) _
    refine gw_pst hk 1 (st' := (81, [some (.ref 48), none, none, some (.int xs0)], [.int 1], h)) rfl ?_
    exact gw_ret (hk _ _ rfl) rfl ⟨_, hR, w⟩
  · replace w := w.2 z2
    refine gw_pst hk 1 (st' := (74, [some (.ref 48), none, none, some (.int xs0)], [.int 0], h)) rfl ?_
    exact gw_ret (hk _ _ rfl) rfl ⟨_, hR, w⟩
def w213_52 (c : gx) (d : Nat) (Post : Option Value → gs → Prop) (x1 : Int32) (x2 : Int32) (s : gs) : Prop :=
  ((x1 = 62 → w213_64 c d Post x2 s) ∧ (¬ (x1 = 62) → w213_64 c d Post (-x2) s))
theorem ok213_52 (c : gx) (d : Nat) (Post : Option Value → gs → Prop)  (x1 : Int32) (x2 : Int32) (s : gs) (w : w213_52 c d Post x1 x2 s) : tV c d 213 52 [some (.ref 48), some (.int x1), some (.int x2), none] [] s Post := by
  intro h hR
  have hk : ∀ pc i, gm_find gk_213 pc = some i → gm_code (gt_T c.1 c.2.1 c.2.2.1) 213 pc = some i := fun _ _ z => z
  unfold w213_52 at w
  unfold gV
  refine gw_pst hk 2 (st' := (55, [some (.ref 48), some (.int x1), some (.int x2), none], [.int 62, .int x1], h)) rfl ?_
  refine gw_br (c := x1 = 62) (a := (58, [some (.ref 48), some (.int x1), some (.int x2), none], [], h)) (b := (62, [some (.ref 48), some (.int x1), some (.int x2), none], [], h)) (hk _ _ rfl) rfl ⟨fun z1 => ?_, fun z1 => ?_⟩
  · replace w := w.1 z1
    refine gw_pst hk 2 (st' := (64, [some (.ref 48), some (.int x1), some (.int x2), none], [.int x2], h)) rfl ?_
    refine gw_le (L' := [some (.ref 48), none, none, none]) (gm_le_k _ (gm_le_n _ (gm_le_n _ (gm_le_k _ gm_le_nil)))) ?_
    exact ok213_64 c d Post _ _ w _ hR
  · replace w := w.2 z1
    refine gw_pst hk 2 (st' := (64, [some (.ref 48), some (.int x1), some (.int x2), none], [.int (-x2)], h)) rfl ?_
    refine gw_le (L' := [some (.ref 48), none, none, none]) (gm_le_k _ (gm_le_n _ (gm_le_n _ (gm_le_k _ gm_le_nil)))) ?_
    exact ok213_64 c d Post _ _ w _ hR
/-- CommandByTurnsModel.act(II)Z -/
def wm213 (c : gx) (d : Nat) (Post : Option Value → gs → Prop) (x1 : Int32) (x2 : Int32) (s : gs) : Prop :=
  ((x1 = 60 → w213_52 c d Post x1 x2 s) ∧ (x1 = 62 → w213_52 c d Post x1 x2 s) ∧ (x1 = 102 → tE c d 158 [.ref 48, .int x2] s (fun v2 s_2 => ∃ x_2 : Int32, v2 = some (.int x_2) ∧ ((x_2 = 0 → Post (some (.int 0)) s_2) ∧ (¬ (x_2 = 0) → vp_in 2 108 ∧ ∀ s_5 : gs, s_5 = gs_A s_2 49 (2 : Int32).toNatClampNeg (vp_nar .int x2) → Post (some (.int 1)) s_5)))) ∧ (x1 = 104 → tE c d 197 [.ref 49] s (fun v7 s_7 => v7 = none ∧ Post (some (.int 1)) s_7)) ∧ (x1 = 120 → tE c d 203 [.ref 48, .ref 49] s (fun v9 s_9 => ∃ x_9 : Int32, v9 = some (.int x_9) ∧ ((0 ≤ x_9 → tE c d 204 [.ref 48, .ref 49] s_9 (fun v12 s_12 => ∃ x_12 : Int32, v12 = some (.int x_12) ∧ tE c d 197 [.ref 49] s_12 (fun v14 s_14 => v14 = none ∧ Post (some (.int 1)) s_14))) ∧ (¬ (0 ≤ x_9) → Post (some (.int 0)) s_9)))) ∧ (¬ x1 = 60 ∧ ¬ x1 = 62 ∧ ¬ x1 = 102 ∧ ¬ x1 = 104 ∧ ¬ x1 = 120 → vp_in 0 108 ∧ (((gsA s 49 (0 : Int32).toNatClampNeg) < 100 → vp_in 0 108 ∧ vp_in 0 108 ∧ vp_in (8 + (gsA s 49 (0 : Int32).toNatClampNeg)) 108 ∧ vp_in (8 + (gsA s 49 (0 : Int32).toNatClampNeg)) 108 ∧ ∀ s_25 : gs, s_25 = gs_A s 49 (8 + (gsA s 49 (0 : Int32).toNatClampNeg) : Int32).toNatClampNeg (vp_nar .int (1 - (gsA s 49 (8 + (gsA s 49 (0 : Int32).toNatClampNeg) : Int32).toNatClampNeg))) → Post (some (.int 1)) s_25) ∧ (¬ ((gsA s 49 (0 : Int32).toNatClampNeg) < 100) → Post (some (.int 0)) s))))
theorem okm213 (c : gx) (d : Nat) (Post : Option Value → gs → Prop) (x1 : Int32) (x2 : Int32) (s : gs) (w : wm213 c d Post x1 x2 s) : tE c (d + 1) 213 [.ref 48, .int x1, .int x2] s Post := by
  intro h hR
  have hk : ∀ pc i, gm_find gk_213 pc = some i → gm_code (gt_T c.1 c.2.1 c.2.2.1) 213 pc = some i := fun _ _ z => z
  unfold wm213 at w
  refine ge_of (by decide) (Nat.le_of_ble_eq_true rfl) ?_
  show gw (gt_T c.1 c.2.1 c.2.2.1) c.2.2.2 d 213 (0, [some (.ref 48), some (.int x1), some (.int x2), none], [], h) _
  refine gw_pst hk 1 (st' := (1, [some (.ref 48), some (.int x1), some (.int x2), none], [.int x1], h)) rfl ?_
  by_cases z1_0 : x1 = 60
  · replace w := w.1 z1_0
    refine gw_swk (st' := (52, [some (.ref 48), some (.int x1), some (.int x2), none], [], h)) (hk _ _ rfl) z1_0 rfl ?_
    exact ok213_52 c d Post _ _ _ w _ hR
  by_cases z1_1 : x1 = 62
  · replace w := w.2.1 z1_1
    refine gw_swk (st' := (52, [some (.ref 48), some (.int x1), some (.int x2), none], [], h)) (hk _ _ rfl) z1_1 rfl ?_
    exact ok213_52 c d Post _ _ _ w _ hR
  by_cases z1_2 : x1 = 102
  · replace w := w.2.2.1 z1_2
    refine gw_swk (st' := (122, [some (.ref 48), some (.int x1), some (.int x2), none], [], h)) (hk _ _ rfl) z1_2 rfl ?_
    refine gw_pst hk 2 (st' := (124, [some (.ref 48), some (.int x1), some (.int x2), none], [.int x2, .ref 48], h)) rfl ?_
    obtain ⟨fs2, e2⟩ := RL_o hR (r := 48) (ci := 10) rfl
    refine gw_call (jj := 158) (As := [.ref 48, .int x2]) (rest := []) (hk _ _ rfl) (fun _ => rfl) rfl rfl (Nat.le_of_ble_eq_true rfl) (gm_rcv_v rfl e2 rfl) ?_
    refine ge_imp (w h hR) (fun v2 h w => ?_)
    obtain ⟨s_2, hR, x_2, rfl, w⟩ := w
    show gw (gt_T c.1 c.2.1 c.2.2.1) c.2.2.2 d 213 (127, [some (.ref 48), some (.int x1), some (.int x2), none], [.int x_2], h) _
    refine gw_br (c := x_2 = 0) (a := (130, [some (.ref 48), some (.int x1), some (.int x2), none], [], h)) (b := (132, [some (.ref 48), some (.int x1), some (.int x2), none], [], h)) (hk _ _ rfl) rfl ⟨fun z3 => ?_, fun z3 => ?_⟩
    · replace w := w.1 z3
      refine gw_pst hk 1 (st' := (131, [some (.ref 48), some (.int x1), some (.int x2), none], [.int 0], h)) rfl ?_
      exact gw_ret (hk _ _ rfl) rfl ⟨_, hR, w⟩
    · replace w := w.2 z3
      refine gw_pst hk 1 (st' := (133, [some (.ref 48), some (.int x1), some (.int x2), none], [.ref 48], h)) rfl ?_
      refine gw_gf (hk _ _ rfl) (RL_fR (n := 49) hR rfl) ?_
      refine gw_pst hk 2 (st' := (138, [some (.ref 48), some (.int x1), some (.int x2), none], [.int x2, .int 2, .ref 49], h)) rfl ?_
      obtain ⟨b5, w⟩ := w
      have hR5 := RL_pA (a := 49) (t := 0) (n := 108) (k := (2 : Int32).toNatClampNeg) (x := (vp_nar .int x2)) hR rfl (by decide)
      refine gw_ast (hk _ _ rfl) (Or.inl ⟨rfl, rfl, rfl⟩) (RL_a (t := 0) (n := 108) hR rfl (by decide)) b5 ?_
      generalize gm_put h _ _ = h at hR5 ⊢
      obtain ⟨s_5, es5⟩ : ∃ z, z = gs_A s_2 49 (2 : Int32).toNatClampNeg (vp_nar .int x2) := ⟨_, rfl⟩
      rw [← es5] at hR5
      replace w := w s_5 es5
      replace hR := hR5
      refine gw_pst hk 1 (st' := (140, [some (.ref 48), some (.int x1), some (.int x2), none], [.int 1], h)) rfl ?_
      exact gw_ret (hk _ _ rfl) rfl ⟨_, hR, w⟩
  by_cases z1_3 : x1 = 104
  · replace w := w.2.2.2.1 z1_3
    refine gw_swk (st' := (82, [some (.ref 48), some (.int x1), some (.int x2), none], [], h)) (hk _ _ rfl) z1_3 rfl ?_
    refine gw_pst hk 1 (st' := (83, [some (.ref 48), some (.int x1), some (.int x2), none], [.ref 48], h)) rfl ?_
    refine gw_gf (hk _ _ rfl) (RL_fR (n := 49) hR rfl) ?_
    refine gw_call (jj := 197) (As := [.ref 49]) (rest := []) (hk _ _ rfl) (fun _ => rfl) rfl rfl (Nat.le_of_ble_eq_true rfl) rfl ?_
    refine ge_imp (w h hR) (fun v7 h w => ?_)
    obtain ⟨s_7, hR, rfl, w⟩ := w
    show gw (gt_T c.1 c.2.1 c.2.2.1) c.2.2.2 d 213 (89, [some (.ref 48), some (.int x1), some (.int x2), none], [], h) _
    refine gw_pst hk 1 (st' := (90, [some (.ref 48), some (.int x1), some (.int x2), none], [.int 1], h)) rfl ?_
    exact gw_ret (hk _ _ rfl) rfl ⟨_, hR, w⟩
  by_cases z1_4 : x1 = 120
  · replace w := w.2.2.2.2.1 z1_4
    refine gw_swk (st' := (91, [some (.ref 48), some (.int x1), some (.int x2), none], [], h)) (hk _ _ rfl) z1_4 rfl ?_
    refine gw_pst hk 2 (st' := (93, [some (.ref 48), some (.int x1), some (.int x2), none], [.ref 48, .ref 48], h)) rfl ?_
    refine gw_gf (hk _ _ rfl) (RL_fR (n := 49) hR rfl) ?_
    obtain ⟨fs9, e9⟩ := RL_o hR (r := 48) (ci := 10) rfl
    refine gw_call (jj := 203) (As := [.ref 48, .ref 49]) (rest := []) (hk _ _ rfl) (fun _ => rfl) rfl rfl (Nat.le_of_ble_eq_true rfl) (gm_rcv_v rfl e9 rfl) ?_
    refine ge_imp (w h hR) (fun v9 h w => ?_)
    obtain ⟨s_9, hR, x_9, rfl, w⟩ := w
    show gw (gt_T c.1 c.2.1 c.2.2.1) c.2.2.2 d 213 (99, [some (.ref 48), some (.int x1), some (.int x2), none], [.int x_9], h) _
    refine gw_br (c := 0 ≤ x_9) (a := (104, [some (.ref 48), some (.int x1), some (.int x2), none], [], h)) (b := (102, [some (.ref 48), some (.int x1), some (.int x2), none], [], h)) (hk _ _ rfl) rfl ⟨fun z10 => ?_, fun z10 => ?_⟩
    · replace w := w.1 z10
      refine gw_pst hk 2 (st' := (106, [some (.ref 48), some (.int x1), some (.int x2), none], [.ref 48, .ref 48], h)) rfl ?_
      refine gw_gf (hk _ _ rfl) (RL_fR (n := 49) hR rfl) ?_
      obtain ⟨fs12, e12⟩ := RL_o hR (r := 48) (ci := 10) rfl
      refine gw_call (jj := 204) (As := [.ref 48, .ref 49]) (rest := []) (hk _ _ rfl) (fun _ => rfl) rfl rfl (Nat.le_of_ble_eq_true rfl) (gm_rcv_v rfl e12 rfl) ?_
      refine ge_imp (w h hR) (fun v12 h w => ?_)
      obtain ⟨s_12, hR, x_12, rfl, w⟩ := w
      show gw (gt_T c.1 c.2.1 c.2.2.1) c.2.2.2 d 213 (112, [some (.ref 48), some (.int x1), some (.int x2), none], [.int x_12], h) _
      refine gw_pst hk 2 (st' := (114, [some (.ref 48), some (.int x1), some (.int x2), none], [.ref 48], h)) rfl ?_
      refine gw_gf (hk _ _ rfl) (RL_fR (n := 49) hR rfl) ?_
      refine gw_call (jj := 197) (As := [.ref 49]) (rest := []) (hk _ _ rfl) (fun _ => rfl) rfl rfl (Nat.le_of_ble_eq_true rfl) rfl ?_
      refine ge_imp (w h hR) (fun v14 h w => ?_)
      obtain ⟨s_14, hR, rfl, w⟩ := w
      show gw (gt_T c.1 c.2.1 c.2.2.1) c.2.2.2 d 213 (120, [some (.ref 48), some (.int x1), some (.int x2), none], [], h) _
      refine gw_pst hk 1 (st' := (121, [some (.ref 48), some (.int x1), some (.int x2), none], [.int 1], h)) rfl ?_
      exact gw_ret (hk _ _ rfl) rfl ⟨_, hR, w⟩
    · replace w := w.2 z10
      refine gw_pst hk 1 (st' := (103, [some (.ref 48), some (.int x1), some (.int x2), none], [.int 0], h)) rfl ?_
      exact gw_ret (hk _ _ rfl) rfl ⟨_, hR, w⟩
  replace w := w.2.2.2.2.2 ⟨z1_0, z1_1, z1_2, z1_3, z1_4⟩
  refine gw_lsd (st' := (141, [some (.ref 48), some (.int x1), some (.int x2), none], [], h)) (hk _ _ rfl) (by
      have y0 : ¬ 60 = (x1 : Int32).toInt := fun z => z1_0 (Int32.toInt_inj.mp z.symm)
      have y1 : ¬ 62 = (x1 : Int32).toInt := fun z => z1_1 (Int32.toInt_inj.mp z.symm)
      have y2 : ¬ 102 = (x1 : Int32).toInt := fun z => z1_2 (Int32.toInt_inj.mp z.symm)
      have y3 : ¬ 104 = (x1 : Int32).toInt := fun z => z1_3 (Int32.toInt_inj.mp z.symm)
      have y4 : ¬ 120 = (x1 : Int32).toInt := fun z => z1_4 (Int32.toInt_inj.mp z.symm)
      simp [Op.lookupswitch.offset, y0, y1, y2, y3, y4]) rfl ?_
  refine gw_pst hk 1 (st' := (142, [some (.ref 48), some (.int x1), some (.int x2), none], [.ref 48], h)) rfl ?_
  refine gw_gf (hk _ _ rfl) (RL_fR (n := 49) hR rfl) ?_
  refine gw_pst hk 1 (st' := (146, [some (.ref 48), some (.int x1), some (.int x2), none], [.int 0, .ref 49], h)) rfl ?_
  obtain ⟨b16, w⟩ := w
  refine gw_ald (hk _ _ rfl) (Or.inl ⟨rfl, rfl⟩) (RL_a (t := 0) (n := 108) hR rfl (by decide)) b16 ?_
  refine gw_pst hk 1 (st' := (149, [some (.ref 48), some (.int x1), some (.int x2), none], [.int 100, .int (gsA s 49 (0 : Int32).toNatClampNeg)], h)) rfl ?_
  refine gw_br (c := (gsA s 49 (0 : Int32).toNatClampNeg) < 100) (a := (154, [some (.ref 48), some (.int x1), some (.int x2), none], [], h)) (b := (152, [some (.ref 48), some (.int x1), some (.int x2), none], [], h)) (hk _ _ rfl) rfl ⟨fun z17 => ?_, fun z17 => ?_⟩
  · replace w := w.1 z17
    refine gw_pst hk 1 (st' := (155, [some (.ref 48), some (.int x1), some (.int x2), none], [.ref 48], h)) rfl ?_
    refine gw_gf (hk _ _ rfl) (RL_fR (n := 49) hR rfl) ?_
    refine gw_pst hk 2 (st' := (161, [some (.ref 48), some (.int x1), some (.int x2), none], [.ref 48, .int 8, .ref 49], h)) rfl ?_
    refine gw_gf (hk _ _ rfl) (RL_fR (n := 49) hR rfl) ?_
    refine gw_pst hk 1 (st' := (165, [some (.ref 48), some (.int x1), some (.int x2), none], [.int 0, .ref 49, .int 8, .ref 49], h)) rfl ?_
    obtain ⟨b20, w⟩ := w
    refine gw_ald (hk _ _ rfl) (Or.inl ⟨rfl, rfl⟩) (RL_a (t := 0) (n := 108) hR rfl (by decide)) b20 ?_
    refine gw_pst hk 3 (st' := (169, [some (.ref 48), some (.int x1), some (.int x2), none], [.ref 48, .int 1, .int (8 + (gsA s 49 (0 : Int32).toNatClampNeg)), .ref 49], h)) rfl ?_
    refine gw_gf (hk _ _ rfl) (RL_fR (n := 49) hR rfl) ?_
    refine gw_pst hk 2 (st' := (175, [some (.ref 48), some (.int x1), some (.int x2), none], [.ref 48, .int 8, .ref 49, .int 1, .int (8 + (gsA s 49 (0 : Int32).toNatClampNeg)), .ref 49], h)) rfl ?_
    refine gw_gf (hk _ _ rfl) (RL_fR (n := 49) hR rfl) ?_
    refine gw_pst hk 1 (st' := (179, [some (.ref 48), some (.int x1), some (.int x2), none], [.int 0, .ref 49, .int 8, .ref 49, .int 1, .int (8 + (gsA s 49 (0 : Int32).toNatClampNeg)), .ref 49], h)) rfl ?_
    obtain ⟨b23, w⟩ := w
    refine gw_ald (hk _ _ rfl) (Or.inl ⟨rfl, rfl⟩) (RL_a (t := 0) (n := 108) hR rfl (by decide)) b23 ?_
    refine gw_pst hk 1 (st' := (181, [some (.ref 48), some (.int x1), some (.int x2), none], [.int (8 + (gsA s 49 (0 : Int32).toNatClampNeg)), .ref 49, .int 1, .int (8 + (gsA s 49 (0 : Int32).toNatClampNeg)), .ref 49], h)) rfl ?_
    obtain ⟨b24, w⟩ := w
    refine gw_ald (hk _ _ rfl) (Or.inl ⟨rfl, rfl⟩) (RL_a (t := 0) (n := 108) hR rfl (by decide)) b24 ?_
    refine gw_pst hk 1 (st' := (183, [some (.ref 48), some (.int x1), some (.int x2), none], [.int (1 - (gsA s 49 (8 + (gsA s 49 (0 : Int32).toNatClampNeg) : Int32).toNatClampNeg)), .int (8 + (gsA s 49 (0 : Int32).toNatClampNeg)), .ref 49], h)) rfl ?_
    obtain ⟨b25, w⟩ := w
    have hR25 := RL_pA (a := 49) (t := 0) (n := 108) (k := (8 + (gsA s 49 (0 : Int32).toNatClampNeg) : Int32).toNatClampNeg) (x := (vp_nar .int (1 - (gsA s 49 (8 + (gsA s 49 (0 : Int32).toNatClampNeg) : Int32).toNatClampNeg)))) hR rfl (by decide)
    refine gw_ast (hk _ _ rfl) (Or.inl ⟨rfl, rfl, rfl⟩) (RL_a (t := 0) (n := 108) hR rfl (by decide)) b25 ?_
    generalize gm_put h _ _ = h at hR25 ⊢
    obtain ⟨s_25, es25⟩ : ∃ z, z = gs_A s 49 (8 + (gsA s 49 (0 : Int32).toNatClampNeg) : Int32).toNatClampNeg (vp_nar .int (1 - (gsA s 49 (8 + (gsA s 49 (0 : Int32).toNatClampNeg) : Int32).toNatClampNeg))) := ⟨_, rfl⟩
    rw [← es25] at hR25
    replace w := w s_25 es25
    replace hR := hR25
    refine gw_pst hk 1 (st' := (185, [some (.ref 48), some (.int x1), some (.int x2), none], [.int 1], h)) rfl ?_
    exact gw_ret (hk _ _ rfl) rfl ⟨_, hR, w⟩
  · replace w := w.2 z17
    refine gw_pst hk 1 (st' := (153, [some (.ref 48), some (.int x1), some (.int x2), none], [.int 0], h)) rfl ?_
    exact gw_ret (hk _ _ rfl) rfl ⟨_, hR, w⟩
def wb214_26 (c : gx) (d : Nat) (Post : Option Value → gs → Prop) (K26 : Int32 → gs → Prop) (x1 : Int32) (s : gs) : Prop :=
  ((108 ≤ x1 → Post (some (.int (gsV s 48 26))) s) ∧ (¬ (108 ≤ x1) → vp_in ((108 * (gsV s 48 26)) + x1) 1296 ∧ vp_in x1 108 ∧ ∀ s_7 : gs, s_7 = gs_A s 49 (x1 : Int32).toNatClampNeg (vp_nar .int (gsA s 63 ((108 * (gsV s 48 26)) + x1 : Int32).toNatClampNeg)) → K26 (x1 + 1) s_7))
theorem okb214_26 (c : gx) (d : Nat) (Post : Option Value → gs → Prop) (K26 : Int32 → gs → Prop)  (hK26 : ∀ (x1 : Int32) (s : gs), K26 x1 s → tV c d 214 26 [some (.ref 48), some (.int x1)] [] s Post) (x1 : Int32) (s : gs) (w : wb214_26 c d Post K26 x1 s) : tV c d 214 26 [some (.ref 48), some (.int x1)] [] s Post := by
  intro h hR
  have hk : ∀ pc i, gm_find gk_214 pc = some i → gm_code (gt_T c.1 c.2.1 c.2.2.1) 214 pc = some i := fun _ _ z => z
  unfold wb214_26 at w
  unfold gV
  refine gw_pst hk 2 (st' := (29, [some (.ref 48), some (.int x1)], [.int 108, .int x1], h)) rfl ?_
  refine gw_br (c := 108 ≤ x1) (a := (58, [some (.ref 48), some (.int x1)], [], h)) (b := (32, [some (.ref 48), some (.int x1)], [], h)) (hk _ _ rfl) rfl ⟨fun z1 => ?_, fun z1 => ?_⟩
  · replace w := w.1 z1
    refine gw_pst hk 1 (st' := (59, [some (.ref 48), some (.int x1)], [.ref 48], h)) rfl ?_
    refine gw_gf (hk _ _ rfl) (RL_fI hR rfl) ?_
    exact gw_ret (hk _ _ rfl) rfl ⟨_, hR, w⟩
  · replace w := w.2 z1
    refine gw_pst hk 1 (st' := (33, [some (.ref 48), some (.int x1)], [.ref 48], h)) rfl ?_
    refine gw_gf (hk _ _ rfl) (RL_fR (n := 49) hR rfl) ?_
    refine gw_pst hk 2 (st' := (38, [some (.ref 48), some (.int x1)], [.ref 48, .int x1, .ref 49], h)) rfl ?_
    refine gw_gf (hk _ _ rfl) (RL_fR (n := 63) hR rfl) ?_
    refine gw_pst hk 2 (st' := (44, [some (.ref 48), some (.int x1)], [.ref 48, .int 108, .ref 63, .int x1, .ref 49], h)) rfl ?_
    refine gw_gf (hk _ _ rfl) (RL_fI hR rfl) ?_
    refine gw_pst hk 3 (st' := (50, [some (.ref 48), some (.int x1)], [.int ((108 * (gsV s 48 26)) + x1), .ref 63, .int x1, .ref 49], h)) rfl ?_
    obtain ⟨b6, w⟩ := w
    refine gw_ald (hk _ _ rfl) (Or.inl ⟨rfl, rfl⟩) (RL_a (t := 0) (n := 1296) hR rfl (by decide)) b6 ?_
    obtain ⟨b7, w⟩ := w
    have hR7 := RL_pA (a := 49) (t := 0) (n := 108) (k := (x1 : Int32).toNatClampNeg) (x := (vp_nar .int (gsA s 63 ((108 * (gsV s 48 26)) + x1 : Int32).toNatClampNeg))) hR rfl (by decide)
    refine gw_ast (hk _ _ rfl) (Or.inl ⟨rfl, rfl, rfl⟩) (RL_a (t := 0) (n := 108) hR rfl (by decide)) b7 ?_
    generalize gm_put h _ _ = h at hR7 ⊢
    obtain ⟨s_7, es7⟩ : ∃ z, z = gs_A s 49 (x1 : Int32).toNatClampNeg (vp_nar .int (gsA s 63 ((108 * (gsV s 48 26)) + x1 : Int32).toNatClampNeg)) := ⟨_, rfl⟩
    rw [← es7] at hR7
    replace w := w s_7 es7
    replace hR := hR7
    refine gw_pst hk 2 (st' := (26, [some (.ref 48), some (.int (x1 + 1))], [], h)) rfl ?_
    exact hK26 _ _ w _ hR
def wl214_26 (c : gx) (d : Nat) (Post : Option Value → gs → Prop) : Nat → Int32 → gs → Prop
  | 0 => fun _ _ => False
  | n + 1 => wb214_26 c d Post (wl214_26 c d Post n)
theorem okl214_26 (c : gx) (d : Nat) (Post : Option Value → gs → Prop) : ∀ (n : Nat) (x1 : Int32) (s : gs), wl214_26 c d Post n x1 s → tV c d 214 26 [some (.ref 48), some (.int x1)] [] s Post
  | 0, _, _, w => w.elim
  | n + 1, x1, s, w => okb214_26 c d Post (wl214_26 c d Post n) (okl214_26 c d Post n) x1 s w
/-- CommandByTurnsModel.undo()I -/
def wm214 (c : gx) (d : Nat) (Post : Option Value → gs → Prop)  (s : gs) : Prop :=
  ∀ s_1 : gs, s_1 = gs_V s 48 13 0 → (((gsV s_1 48 26) = 0 → Post (some (.int (-1))) s_1) ∧ (¬ ((gsV s_1 48 26) = 0) → ∀ s_5 : gs, s_5 = gs_V s_1 48 26 ((gsV s_1 48 26) - 1) → ∃ n, wl214_26 c d Post n 0 s_5))
theorem okm214 (c : gx) (d : Nat) (Post : Option Value → gs → Prop)  (s : gs) (w : wm214 c d Post  s) : tE c (d + 1) 214 [.ref 48] s Post := by
  intro h hR
  have hk : ∀ pc i, gm_find gk_214 pc = some i → gm_code (gt_T c.1 c.2.1 c.2.2.1) 214 pc = some i := fun _ _ z => z
  unfold wm214 at w
  refine ge_of (by decide) (Nat.le_of_ble_eq_true rfl) ?_
  show gw (gt_T c.1 c.2.1 c.2.2.1) c.2.2.2 d 214 (0, [some (.ref 48), none], [], h) _
  refine gw_pst hk 2 (st' := (2, [some (.ref 48), none], [.int 0, .ref 48], h)) rfl ?_
  obtain ⟨fs1, e1⟩ := RL_o hR (r := 48) (ci := 10) rfl
  obtain ⟨l1, hR1⟩ := RL_pI (k := 13) (x := 0) hR rfl e1
  refine gw_pf (hk _ _ rfl) e1 l1 rfl ?_
  generalize gm_put h _ _ = h at hR1 ⊢
  obtain ⟨s_1, es1⟩ : ∃ z, z = gs_V s 48 13 0 := ⟨_, rfl⟩
  rw [← es1] at hR1
  replace w := w s_1 es1
  replace hR := hR1
  refine gw_pst hk 1 (st' := (6, [some (.ref 48), none], [.ref 48], h)) rfl ?_
  refine gw_gf (hk _ _ rfl) (RL_fI hR rfl) ?_
  refine gw_br (c := (gsV s_1 48 26) = 0) (a := (12, [some (.ref 48), none], [], h)) (b := (14, [some (.ref 48), none], [], h)) (hk _ _ rfl) rfl ⟨fun z3 => ?_, fun z3 => ?_⟩
  · replace w := w.1 z3
    refine gw_pst hk 1 (st' := (13, [some (.ref 48), none], [.int (-1)], h)) rfl ?_
    exact gw_ret (hk _ _ rfl) rfl ⟨_, hR, w⟩
  · replace w := w.2 z3
    refine gw_pst hk 2 (st' := (16, [some (.ref 48), none], [.ref 48, .ref 48], h)) rfl ?_
    refine gw_gf (hk _ _ rfl) (RL_fI hR rfl) ?_
    refine gw_pst hk 2 (st' := (21, [some (.ref 48), none], [.int ((gsV s_1 48 26) - 1), .ref 48], h)) rfl ?_
    obtain ⟨fs5, e5⟩ := RL_o hR (r := 48) (ci := 10) rfl
    obtain ⟨l5, hR5⟩ := RL_pI (k := 26) (x := (gsV s_1 48 26) - 1) hR rfl e5
    refine gw_pf (hk _ _ rfl) e5 l5 rfl ?_
    generalize gm_put h _ _ = h at hR5 ⊢
    obtain ⟨s_5, es5⟩ : ∃ z, z = gs_V s_1 48 26 ((gsV s_1 48 26) - 1) := ⟨_, rfl⟩
    rw [← es5] at hR5
    replace w := w s_5 es5
    replace hR := hR5
    refine gw_pst hk 2 (st' := (26, [some (.ref 48), some (.int 0)], [], h)) rfl ?_
    obtain ⟨n, w⟩ := w
    exact okl214_26 c d Post n _ _ w _ hR
def w215_22 (c : gx) (d : Nat) (Post : Option Value → gs → Prop)  (s : gs) : Prop :=
  Post (some (.int (-1))) s
theorem ok215_22 (c : gx) (d : Nat) (Post : Option Value → gs → Prop)   (s : gs) (w : w215_22 c d Post  s) : tV c d 215 22 [none, none, none, none, none, none, none] [] s Post := by
  intro h hR
  have hk : ∀ pc i, gm_find gk_215 pc = some i → gm_code (gt_T c.1 c.2.1 c.2.2.1) 215 pc = some i := fun _ _ z => z
  unfold w215_22 at w
  unfold gV
  refine gw_pst hk 1 (st' := (23, [none, none, none, none, none, none, none], [.int (-1)], h)) rfl ?_
  exact gw_ret (hk _ _ rfl) rfl ⟨_, hR, w⟩
def w215_86 (c : gx) (d : Nat) (Post : Option Value → gs → Prop) (K32 : Int32 → Int32 → Int32 → Int32 → Int32 → gs → Prop) (x1 : Int32) (x2 : Int32) (x3 : Int32) (x5 : Int32) (xs0 : Int32) (xs1 : Int32) (s : gs) : Prop :=
  K32 x1 x2 x3 (xs0 + xs1) (x5 + 1) s
theorem ok215_86 (c : gx) (d : Nat) (Post : Option Value → gs → Prop) (K32 : Int32 → Int32 → Int32 → Int32 → Int32 → gs → Prop)  (hK32 : ∀ (x1 : Int32) (x2 : Int32) (x3 : Int32) (x4 : Int32) (x5 : Int32) (s : gs), K32 x1 x2 x3 x4 x5 s → tV c d 215 32 [some (.ref 48), some (.int x1), some (.int x2), some (.int x3), some (.int x4), some (.int x5), none] [] s Post) (x1 : Int32) (x2 : Int32) (x3 : Int32) (x5 : Int32) (xs0 : Int32) (xs1 : Int32) (s : gs) (w : w215_86 c d Post K32 x1 x2 x3 x5 xs0 xs1 s) : tV c d 215 86 [some (.ref 48), some (.int x1), some (.int x2), some (.int x3), none, some (.int x5), none] [.int xs1, .int xs0] s Post := by
  intro h hR
  have hk : ∀ pc i, gm_find gk_215 pc = some i → gm_code (gt_T c.1 c.2.1 c.2.2.1) 215 pc = some i := fun _ _ z => z
  unfold w215_86 at w
  unfold gV
  refine gw_pst hk 4 (st' := (32, [some (.ref 48), some (.int x1), some (.int x2), some (.int x3), some (.int (xs0 + xs1)), some (.int (x5 + 1)), none], [], h)) rfl ?_
  exact hK32 _ _ _ _ _ _ w _ hR
def w215_71 (c : gx) (d : Nat) (Post : Option Value → gs → Prop) (K32 : Int32 → Int32 → Int32 → Int32 → Int32 → gs → Prop) (x1 : Int32) (x2 : Int32) (x4 : Int32) (x5 : Int32) (x6 : Int32) (xs0 : Int32) (xs1 : Int32) (s : gs) : Prop :=
  ((x6 = (-1) → w215_86 c d Post K32 x1 x2 (xs0 ||| xs1) x5 x4 1 s) ∧ (¬ (x6 = (-1)) → w215_86 c d Post K32 x1 x2 (xs0 ||| xs1) x5 x4 0 s))
theorem ok215_71 (c : gx) (d : Nat) (Post : Option Value → gs → Prop) (K32 : Int32 → Int32 → Int32 → Int32 → Int32 → gs → Prop)  (hK32 : ∀ (x1 : Int32) (x2 : Int32) (x3 : Int32) (x4 : Int32) (x5 : Int32) (s : gs), K32 x1 x2 x3 x4 x5 s → tV c d 215 32 [some (.ref 48), some (.int x1), some (.int x2), some (.int x3), some (.int x4), some (.int x5), none] [] s Post) (x1 : Int32) (x2 : Int32) (x4 : Int32) (x5 : Int32) (x6 : Int32) (xs0 : Int32) (xs1 : Int32) (s : gs) (w : w215_71 c d Post K32 x1 x2 x4 x5 x6 xs0 xs1 s) : tV c d 215 71 [some (.ref 48), some (.int x1), some (.int x2), none, some (.int x4), some (.int x5), some (.int x6)] [.int xs1, .int xs0] s Post := by
  intro h hR
  have hk : ∀ pc i, gm_find gk_215 pc = some i → gm_code (gt_T c.1 c.2.1 c.2.2.1) 215 pc = some i := fun _ _ z => z
  unfold w215_71 at w
  unfold gV
  refine gw_pst hk 5 (st' := (78, [some (.ref 48), some (.int x1), some (.int x2), some (.int (xs0 ||| xs1)), some (.int x4), some (.int x5), some (.int x6)], [.int (-1), .int x6, .int x4], h)) rfl ?_
  refine gw_br (c := x6 = (-1)) (a := (81, [some (.ref 48), some (.int x1), some (.int x2), some (.int (xs0 ||| xs1)), some (.int x4), some (.int x5), some (.int x6)], [.int x4], h)) (b := (85, [some (.ref 48), some (.int x1), some (.int x2), some (.int (xs0 ||| xs1)), some (.int x4), some (.int x5), some (.int x6)], [.int x4], h)) (hk _ _ rfl) rfl ⟨fun z1 => ?_, fun z1 => ?_⟩
  · replace w := w.1 z1
    refine gw_pst hk 2 (st' := (86, [some (.ref 48), some (.int x1), some (.int x2), some (.int (xs0 ||| xs1)), some (.int x4), some (.int x5), some (.int x6)], [.int 1, .int x4], h)) rfl ?_
    refine gw_le (L' := [some (.ref 48), some (.int x1), some (.int x2), some (.int (xs0 ||| xs1)), none, some (.int x5), none]) (gm_le_k _ (gm_le_k _ (gm_le_k _ (gm_le_k _ (gm_le_n _ (gm_le_k _ (gm_le_n _ gm_le_nil))))))) ?_
    exact ok215_86 c d Post K32 hK32 _ _ _ _ _ _ _ w _ hR
  · replace w := w.2 z1
    refine gw_pst hk 1 (st' := (86, [some (.ref 48), some (.int x1), some (.int x2), some (.int (xs0 ||| xs1)), some (.int x4), some (.int x5), some (.int x6)], [.int 0, .int x4], h)) rfl ?_
    refine gw_le (L' := [some (.ref 48), some (.int x1), some (.int x2), some (.int (xs0 ||| xs1)), none, some (.int x5), none]) (gm_le_k _ (gm_le_k _ (gm_le_k _ (gm_le_k _ (gm_le_n _ (gm_le_k _ (gm_le_n _ gm_le_nil))))))) ?_
    exact ok215_86 c d Post K32 hK32 _ _ _ _ _ _ _ w _ hR
def wb215_32 (c : gx) (d : Nat) (Post : Option Value → gs → Prop) (K32 : Int32 → Int32 → Int32 → Int32 → Int32 → gs → Prop) (x1 : Int32) (x2 : Int32) (x3 : Int32) (x4 : Int32) (x5 : Int32) (s : gs) : Prop :=
  ((x2 ≤ x5 → ∀ s_2 : gs, s_2 = gs_V s 48 12 0 → tE c d 266 [.int x3] s_2 (fun v3 s_3 => ∃ x_3 : Int32, v3 = some (.int x_3) ∧ tE c d 157 [.ref 48, .long ((x_3 : Int32).toInt64)] s_3 (fun v4 s_4 => v4 = none ∧ tE c d 157 [.ref 48, .long ((x4 : Int32).toInt64)] s_4 (fun v5 s_5 => v5 = none ∧ Post (some (.int x3)) s_5)))) ∧ (¬ (x2 ≤ x5) → vp_in 0 108 ∧ tE c d 184 [.ref 49, .int ((gsA s 49 (0 : Int32).toNatClampNeg) + x5)] s (fun v9 s_9 => ∃ x_9 : Int32, v9 = some (.int x_9) ∧ ((x_9 = x1 → w215_71 c d Post K32 x1 x2 x4 x5 x_9 x3 (1 <<< (x5 &&& 31)) s_9) ∧ (¬ (x_9 = x1) → w215_71 c d Post K32 x1 x2 x4 x5 x_9 x3 0 s_9)))))
theorem okb215_32 (c : gx) (d : Nat) (Post : Option Value → gs → Prop) (K32 : Int32 → Int32 → Int32 → Int32 → Int32 → gs → Prop)  (hK32 : ∀ (x1 : Int32) (x2 : Int32) (x3 : Int32) (x4 : Int32) (x5 : Int32) (s : gs), K32 x1 x2 x3 x4 x5 s → tV c d 215 32 [some (.ref 48), some (.int x1), some (.int x2), some (.int x3), some (.int x4), some (.int x5), none] [] s Post) (x1 : Int32) (x2 : Int32) (x3 : Int32) (x4 : Int32) (x5 : Int32) (s : gs) (w : wb215_32 c d Post K32 x1 x2 x3 x4 x5 s) : tV c d 215 32 [some (.ref 48), some (.int x1), some (.int x2), some (.int x3), some (.int x4), some (.int x5), none] [] s Post := by
  intro h hR
  have hk : ∀ pc i, gm_find gk_215 pc = some i → gm_code (gt_T c.1 c.2.1 c.2.2.1) 215 pc = some i := fun _ _ z => z
  unfold wb215_32 at w
  unfold gV
  refine gw_pst hk 2 (st' := (35, [some (.ref 48), some (.int x1), some (.int x2), some (.int x3), some (.int x4), some (.int x5), none], [.int x2, .int x5], h)) rfl ?_
  refine gw_br (c := x2 ≤ x5) (a := (95, [some (.ref 48), some (.int x1), some (.int x2), some (.int x3), some (.int x4), some (.int x5), none], [], h)) (b := (38, [some (.ref 48), some (.int x1), some (.int x2), some (.int x3), some (.int x4), some (.int x5), none], [], h)) (hk _ _ rfl) rfl ⟨fun z1 => ?_, fun z1 => ?_⟩
  · replace w := w.1 z1
    refine gw_pst hk 2 (st' := (97, [some (.ref 48), some (.int x1), some (.int x2), some (.int x3), some (.int x4), some (.int x5), none], [.int 0, .ref 48], h)) rfl ?_
    obtain ⟨fs2, e2⟩ := RL_o hR (r := 48) (ci := 10) rfl
    obtain ⟨l2, hR2⟩ := RL_pI (k := 12) (x := 0) hR rfl e2
    refine gw_pf (hk _ _ rfl) e2 l2 rfl ?_
    generalize gm_put h _ _ = h at hR2 ⊢
    obtain ⟨s_2, es2⟩ : ∃ z, z = gs_V s 48 12 0 := ⟨_, rfl⟩
    rw [← es2] at hR2
    replace w := w s_2 es2
    replace hR := hR2
    refine gw_pst hk 2 (st' := (102, [some (.ref 48), some (.int x1), some (.int x2), some (.int x3), some (.int x4), some (.int x5), none], [.int x3, .ref 48], h)) rfl ?_
    refine gw_call (jj := 266) (As := [.int x3]) (rest := [.ref 48]) (hk _ _ rfl) (fun _ => rfl) rfl rfl (Nat.le_of_ble_eq_true rfl) rfl ?_
    refine ge_imp (w h hR) (fun v3 h w => ?_)
    obtain ⟨s_3, hR, x_3, rfl, w⟩ := w
    show gw (gt_T c.1 c.2.1 c.2.2.1) c.2.2.2 d 215 (105, [some (.ref 48), some (.int x1), some (.int x2), some (.int x3), some (.int x4), some (.int x5), none], [.int x_3, .ref 48], h) _
    refine gw_pst hk 1 (st' := (106, [some (.ref 48), some (.int x1), some (.int x2), some (.int x3), some (.int x4), some (.int x5), none], [.long ((x_3 : Int32).toInt64), .ref 48], h)) rfl ?_
    obtain ⟨fs4, e4⟩ := RL_o hR (r := 48) (ci := 10) rfl
    refine gw_call (jj := 157) (As := [.ref 48, .long ((x_3 : Int32).toInt64)]) (rest := []) (hk _ _ rfl) (fun _ => rfl) rfl rfl (Nat.le_of_ble_eq_true rfl) (gm_rcv_v rfl e4 rfl) ?_
    refine ge_imp (w h hR) (fun v4 h w => ?_)
    obtain ⟨s_4, hR, rfl, w⟩ := w
    show gw (gt_T c.1 c.2.1 c.2.2.1) c.2.2.2 d 215 (109, [some (.ref 48), some (.int x1), some (.int x2), some (.int x3), some (.int x4), some (.int x5), none], [], h) _
    refine gw_pst hk 3 (st' := (113, [some (.ref 48), some (.int x1), some (.int x2), some (.int x3), some (.int x4), some (.int x5), none], [.long ((x4 : Int32).toInt64), .ref 48], h)) rfl ?_
    obtain ⟨fs5, e5⟩ := RL_o hR (r := 48) (ci := 10) rfl
    refine gw_call (jj := 157) (As := [.ref 48, .long ((x4 : Int32).toInt64)]) (rest := []) (hk _ _ rfl) (fun _ => rfl) rfl rfl (Nat.le_of_ble_eq_true rfl) (gm_rcv_v rfl e5 rfl) ?_
    refine ge_imp (w h hR) (fun v5 h w => ?_)
    obtain ⟨s_5, hR, rfl, w⟩ := w
    show gw (gt_T c.1 c.2.1 c.2.2.1) c.2.2.2 d 215 (116, [some (.ref 48), some (.int x1), some (.int x2), some (.int x3), some (.int x4), some (.int x5), none], [], h) _
    refine gw_pst hk 1 (st' := (117, [some (.ref 48), some (.int x1), some (.int x2), some (.int x3), some (.int x4), some (.int x5), none], [.int x3], h)) rfl ?_
    exact gw_ret (hk _ _ rfl) rfl ⟨_, hR, w⟩
  · replace w := w.2 z1
    refine gw_pst hk 1 (st' := (39, [some (.ref 48), some (.int x1), some (.int x2), some (.int x3), some (.int x4), some (.int x5), none], [.ref 48], h)) rfl ?_
    refine gw_gf (hk _ _ rfl) (RL_fR (n := 49) hR rfl) ?_
    refine gw_pst hk 1 (st' := (43, [some (.ref 48), some (.int x1), some (.int x2), some (.int x3), some (.int x4), some (.int x5), none], [.ref 48, .ref 49], h)) rfl ?_
    refine gw_gf (hk _ _ rfl) (RL_fR (n := 49) hR rfl) ?_
    refine gw_pst hk 1 (st' := (47, [some (.ref 48), some (.int x1), some (.int x2), some (.int x3), some (.int x4), some (.int x5), none], [.int 0, .ref 49, .ref 49], h)) rfl ?_
    obtain ⟨b8, w⟩ := w
    refine gw_ald (hk _ _ rfl) (Or.inl ⟨rfl, rfl⟩) (RL_a (t := 0) (n := 108) hR rfl (by decide)) b8 ?_
    refine gw_pst hk 2 (st' := (51, [some (.ref 48), some (.int x1), some (.int x2), some (.int x3), some (.int x4), some (.int x5), none], [.int ((gsA s 49 (0 : Int32).toNatClampNeg) + x5), .ref 49], h)) rfl ?_
    refine gw_call (jj := 184) (As := [.ref 49, .int ((gsA s 49 (0 : Int32).toNatClampNeg) + x5)]) (rest := []) (hk _ _ rfl) (fun _ => rfl) rfl rfl (Nat.le_of_ble_eq_true rfl) rfl ?_
    refine ge_imp (w h hR) (fun v9 h w => ?_)
    obtain ⟨s_9, hR, x_9, rfl, w⟩ := w
    show gw (gt_T c.1 c.2.1 c.2.2.1) c.2.2.2 d 215 (54, [some (.ref 48), some (.int x1), some (.int x2), some (.int x3), some (.int x4), some (.int x5), none], [.int x_9], h) _
    refine gw_pst hk 4 (st' := (60, [some (.ref 48), some (.int x1), some (.int x2), some (.int x3), some (.int x4), some (.int x5), some (.int x_9)], [.int x1, .int x_9, .int x3], h)) rfl ?_
    refine gw_br (c := x_9 = x1) (a := (63, [some (.ref 48), some (.int x1), some (.int x2), some (.int x3), some (.int x4), some (.int x5), some (.int x_9)], [.int x3], h)) (b := (70, [some (.ref 48), some (.int x1), some (.int x2), some (.int x3), some (.int x4), some (.int x5), some (.int x_9)], [.int x3], h)) (hk _ _ rfl) rfl ⟨fun z10 => ?_, fun z10 => ?_⟩
    · replace w := w.1 z10
      refine gw_pst hk 4 (st' := (71, [some (.ref 48), some (.int x1), some (.int x2), some (.int x3), some (.int x4), some (.int x5), some (.int x_9)], [.int (1 <<< (x5 &&& 31)), .int x3], h)) rfl ?_
      refine gw_le (L' := [some (.ref 48), some (.int x1), some (.int x2), none, some (.int x4), some (.int x5), some (.int x_9)]) (gm_le_k _ (gm_le_k _ (gm_le_k _ (gm_le_n _ (gm_le_k _ (gm_le_k _ (gm_le_k _ gm_le_nil))))))) ?_
      exact ok215_71 c d Post K32 hK32 _ _ _ _ _ _ _ _ w _ hR
    · replace w := w.2 z10
      refine gw_pst hk 1 (st' := (71, [some (.ref 48), some (.int x1), some (.int x2), some (.int x3), some (.int x4), some (.int x5), some (.int x_9)], [.int 0, .int x3], h)) rfl ?_
      refine gw_le (L' := [some (.ref 48), some (.int x1), some (.int x2), none, some (.int x4), some (.int x5), some (.int x_9)]) (gm_le_k _ (gm_le_k _ (gm_le_k _ (gm_le_n _ (gm_le_k _ (gm_le_k _ (gm_le_k _ gm_le_nil))))))) ?_
      exact ok215_71 c d Post K32 hK32 _ _ _ _ _ _ _ _ w _ hR
def wl215_32 (c : gx) (d : Nat) (Post : Option Value → gs → Prop) : Nat → Int32 → Int32 → Int32 → Int32 → Int32 → gs → Prop
  | 0 => fun _ _ _ _ _ _ => False
  | n + 1 => wb215_32 c d Post (wl215_32 c d Post n)
theorem okl215_32 (c : gx) (d : Nat) (Post : Option Value → gs → Prop) : ∀ (n : Nat) (x1 : Int32) (x2 : Int32) (x3 : Int32) (x4 : Int32) (x5 : Int32) (s : gs), wl215_32 c d Post n x1 x2 x3 x4 x5 s → tV c d 215 32 [some (.ref 48), some (.int x1), some (.int x2), some (.int x3), some (.int x4), some (.int x5), none] [] s Post
  | 0, _, _, _, _, _, _, w => w.elim
  | n + 1, x1, x2, x3, x4, x5, s, w => okb215_32 c d Post (wl215_32 c d Post n) (okl215_32 c d Post n) x1 x2 x3 x4 x5 s w
/-- CommandByTurnsModel.comes(II)I -/
def wm215 (c : gx) (d : Nat) (Post : Option Value → gs → Prop) (x1 : Int32) (x2 : Int32) (s : gs) : Prop :=
  ∀ s_1 : gs, s_1 = gs_V s 48 13 0 → tE c d 159 [.int x1] s_1 (fun v2 s_2 => ∃ x_2 : Int32, v2 = some (.int x_2) ∧ ((x_2 = 0 → w215_22 c d Post s_2) ∧ (¬ (x_2 = 0) → tE c d 154 [.int x2, .int 1, .int 30] s_2 (fun v4 s_4 => ∃ x_4 : Int32, v4 = some (.int x_4) ∧ ((x_4 = 0 → w215_22 c d Post s_4) ∧ (¬ (x_4 = 0) → ∃ n, wl215_32 c d Post n x1 x2 0 0 0 s_4))))))
theorem okm215 (c : gx) (d : Nat) (Post : Option Value → gs → Prop) (x1 : Int32) (x2 : Int32) (s : gs) (w : wm215 c d Post x1 x2 s) : tE c (d + 1) 215 [.ref 48, .int x1, .int x2] s Post := by
  intro h hR
  have hk : ∀ pc i, gm_find gk_215 pc = some i → gm_code (gt_T c.1 c.2.1 c.2.2.1) 215 pc = some i := fun _ _ z => z
  unfold wm215 at w
  refine ge_of (by decide) (Nat.le_of_ble_eq_true rfl) ?_
  show gw (gt_T c.1 c.2.1 c.2.2.1) c.2.2.2 d 215 (0, [some (.ref 48), some (.int x1), some (.int x2), none, none, none, none], [], h) _
  refine gw_pst hk 2 (st' := (2, [some (.ref 48), some (.int x1), some (.int x2), none, none, none, none], [.int 0, .ref 48], h)) rfl ?_
  obtain ⟨fs1, e1⟩ := RL_o hR (r := 48) (ci := 10) rfl
  obtain ⟨l1, hR1⟩ := RL_pI (k := 13) (x := 0) hR rfl e1
  refine gw_pf (hk _ _ rfl) e1 l1 rfl ?_
  generalize gm_put h _ _ = h at hR1 ⊢
  obtain ⟨s_1, es1⟩ : ∃ z, z = gs_V s 48 13 0 := ⟨_, rfl⟩
  rw [← es1] at hR1
  replace w := w s_1 es1
  replace hR := hR1
  refine gw_pst hk 1 (st' := (6, [some (.ref 48), some (.int x1), some (.int x2), none, none, none, none], [.int x1], h)) rfl ?_
  refine gw_call (jj := 159) (As := [.int x1]) (rest := []) (hk _ _ rfl) (fun _ => rfl) rfl rfl (Nat.le_of_ble_eq_true rfl) rfl ?_
  refine ge_imp (w h hR) (fun v2 h w => ?_)
  obtain ⟨s_2, hR, x_2, rfl, w⟩ := w
  show gw (gt_T c.1 c.2.1 c.2.2.1) c.2.2.2 d 215 (9, [some (.ref 48), some (.int x1), some (.int x2), none, none, none, none], [.int x_2], h) _
  refine gw_br (c := x_2 = 0) (a := (22, [some (.ref 48), some (.int x1), some (.int x2), none, none, none, none], [], h)) (b := (12, [some (.ref 48), some (.int x1), some (.int x2), none, none, none, none], [], h)) (hk _ _ rfl) rfl ⟨fun z3 => ?_, fun z3 => ?_⟩
  · replace w := w.1 z3
    refine gw_le (L' := [none, none, none, none, none, none, none]) (gm_le_n _ (gm_le_n _ (gm_le_n _ (gm_le_k _ (gm_le_k _ (gm_le_k _ (gm_le_k _ gm_le_nil))))))) ?_
    exact ok215_22 c d Post _ w _ hR
  · replace w := w.2 z3
    refine gw_pst hk 3 (st' := (16, [some (.ref 48), some (.int x1), some (.int x2), none, none, none, none], [.int 30, .int 1, .int x2], h)) rfl ?_
    refine gw_call (jj := 154) (As := [.int x2, .int 1, .int 30]) (rest := []) (hk _ _ rfl) (fun _ => rfl) rfl rfl (Nat.le_of_ble_eq_true rfl) rfl ?_
    refine ge_imp (w h hR) (fun v4 h w => ?_)
    obtain ⟨s_4, hR, x_4, rfl, w⟩ := w
    show gw (gt_T c.1 c.2.1 c.2.2.1) c.2.2.2 d 215 (19, [some (.ref 48), some (.int x1), some (.int x2), none, none, none, none], [.int x_4], h) _
    refine gw_br (c := x_4 = 0) (a := (22, [some (.ref 48), some (.int x1), some (.int x2), none, none, none, none], [], h)) (b := (24, [some (.ref 48), some (.int x1), some (.int x2), none, none, none, none], [], h)) (hk _ _ rfl) rfl ⟨fun z5 => ?_, fun z5 => ?_⟩
    · replace w := w.1 z5
      refine gw_le (L' := [none, none, none, none, none, none, none]) (gm_le_n _ (gm_le_n _ (gm_le_n _ (gm_le_k _ (gm_le_k _ (gm_le_k _ (gm_le_k _ gm_le_nil))))))) ?_
      exact ok215_22 c d Post _ w _ hR
    · replace w := w.2 z5
      refine gw_pst hk 6 (st' := (32, [some (.ref 48), some (.int x1), some (.int x2), some (.int 0), some (.int 0), some (.int 0), none], [], h)) rfl ?_
      obtain ⟨n, w⟩ := w
      exact okl215_32 c d Post n _ _ _ _ _ _ w _ hR
