/-! What must hold for a run to end with Post: by program (wip/whole/gen_wp.py). -/
/-- CommandByTurns.issueFrom(LCommandByTurns$Standing;III)I -/
def wm150 (c : gx) (d : Nat) (Post : Option Value → gs → Prop) (r1 : Nat) (x2 : Int32) (x3 : Int32) (x4 : Int32) (s : gs) : Prop :=
  gs_isC r1 6 = true ∧ tE c d 18 [.ref 3, .int x2, .int (gsV s r1 2)] s (fun v3 s_3 => ∃ x_3 : Int32, v3 = some (.int x_3) ∧ tE c d 148 [.ref 0, .int x3] s_3 (fun v4 s_4 => ∃ q_4 : Nat, v4 = some (.ref q_4) ∧ gs_isC r1 6 = true ∧ tE c d 149 [.ref 0, .int x2, .int (gsV s_4 r1 2)] s_4 (fun v6 s_6 => ∃ x_6 : Int32, v6 = some (.int x_6) ∧ gs_isC r1 6 = true ∧ gs_isC r1 6 = true ∧ gs_isC r1 6 = true ∧ tE c d 151 [.ref 0, .ref q_4, .int x_6, .int (gsV s_6 r1 3), .int (gsV s_6 r1 4), .int (gsV s_6 r1 5), .int x4, .int x_3] s_6 (fun v10 s_10 => ∃ x_10 : Int32, v10 = some (.int x_10) ∧ Post (some (.int x_10)) s_10))))
theorem okm150 (c : gx) (d : Nat) (Post : Option Value → gs → Prop) (r1 : Nat) (x2 : Int32) (x3 : Int32) (x4 : Int32) (s : gs) (w : wm150 c d Post r1 x2 x3 x4 s) : tE c (d + 1) 150 [.ref 0, .ref r1, .int x2, .int x3, .int x4] s Post := by
  intro h hR
  have hk : ∀ pc i, gm_find gk_150 pc = some i → gm_code (gt_T c.1 c.2.1 c.2.2.1) 150 pc = some i := fun _ _ z => z
  unfold wm150 at w
  refine ge_of (by decide) (Nat.le_of_ble_eq_true rfl) ?_
  show gw (gt_T c.1 c.2.1 c.2.2.1) c.2.2.2 d 150 (0, [some (.ref 0), some (.ref r1), some (.int x2), some (.int x3), some (.int x4), none], [], h) _
  refine gw_pst hk 1 (st' := (1, [some (.ref 0), some (.ref r1), some (.int x2), some (.int x3), some (.int x4), none], [.ref 0], h)) rfl ?_
  refine gw_gf (hk _ _ rfl) (RL_fR (n := 3) hR rfl) ?_
  refine gw_pst hk 2 (st' := (6, [some (.ref 0), some (.ref r1), some (.int x2), some (.int x3), some (.int x4), none], [.ref r1, .int x2, .ref 3], h)) rfl ?_
  obtain ⟨z2, w⟩ := w
  refine gw_gf (hk _ _ rfl) (RL_fI hR (gs_ck_of z2 gs_ck_6_2)) ?_
  obtain ⟨fs3, e3⟩ := RL_o hR (r := 3) (ci := 1) rfl
  refine gw_call (jj := 18) (As := [.ref 3, .int x2, .int (gsV s r1 2)]) (rest := []) (hk _ _ rfl) (fun _ => rfl) rfl rfl (Nat.le_of_ble_eq_true rfl) (gm_rcv_v rfl e3 rfl) ?_
  refine ge_imp (w h hR) (fun v3 h w => ?_)
  obtain ⟨s_3, hR, x_3, rfl, w⟩ := w
  show gw (gt_T c.1 c.2.1 c.2.2.1) c.2.2.2 d 150 (12, [some (.ref 0), some (.ref r1), some (.int x2), some (.int x3), some (.int x4), none], [.int x_3], h) _
  refine gw_pst hk 4 (st' := (17, [some (.ref 0), some (.ref r1), some (.int x2), some (.int x3), some (.int x4), some (.int x_3)], [.int x3, .ref 0, .ref 0], h)) rfl ?_
  obtain ⟨fs4, e4⟩ := RL_o hR (r := 0) (ci := 9) rfl
  refine gw_call (jj := 148) (As := [.ref 0, .int x3]) (rest := [.ref 0]) (hk _ _ rfl) (fun _ => rfl) rfl rfl (Nat.le_of_ble_eq_true rfl) (gm_rcv_v rfl e4 rfl) ?_
  refine ge_imp (w h hR) (fun v4 h w => ?_)
  obtain ⟨s_4, hR, q_4, rfl, w⟩ := w
  show gw (gt_T c.1 c.2.1 c.2.2.1) c.2.2.2 d 150 (20, [some (.ref 0), some (.ref r1), some (.int x2), some (.int x3), some (.int x4), some (.int x_3)], [.ref q_4, .ref 0], h) _
  refine gw_pst hk 3 (st' := (23, [some (.ref 0), some (.ref r1), some (.int x2), some (.int x3), some (.int x4), some (.int x_3)], [.ref r1, .int x2, .ref 0, .ref q_4, .ref 0], h)) rfl ?_
  obtain ⟨z5, w⟩ := w
  refine gw_gf (hk _ _ rfl) (RL_fI hR (gs_ck_of z5 gs_ck_6_2)) ?_
  obtain ⟨fs6, e6⟩ := RL_o hR (r := 0) (ci := 9) rfl
  refine gw_call (jj := 149) (As := [.ref 0, .int x2, .int (gsV s_4 r1 2)]) (rest := [.ref q_4, .ref 0]) (hk _ _ rfl) (fun _ => rfl) rfl rfl (Nat.le_of_ble_eq_true rfl) (gm_rcv_v rfl e6 rfl) ?_
  refine ge_imp (w h hR) (fun v6 h w => ?_)
  obtain ⟨s_6, hR, x_6, rfl, w⟩ := w
  show gw (gt_T c.1 c.2.1 c.2.2.1) c.2.2.2 d 150 (29, [some (.ref 0), some (.ref r1), some (.int x2), some (.int x3), some (.int x4), some (.int x_3)], [.int x_6, .ref q_4, .ref 0], h) _
  refine gw_pst hk 1 (st' := (30, [some (.ref 0), some (.ref r1), some (.int x2), some (.int x3), some (.int x4), some (.int x_3)], [.ref r1, .int x_6, .ref q_4, .ref 0], h)) rfl ?_
  obtain ⟨z7, w⟩ := w
  refine gw_gf (hk _ _ rfl) (RL_fI hR (gs_ck_of z7 gs_ck_6_3)) ?_
  refine gw_pst hk 1 (st' := (34, [some (.ref 0), some (.ref r1), some (.int x2), some (.int x3), some (.int x4), some (.int x_3)], [.ref r1, .int (gsV s_6 r1 3), .int x_6, .ref q_4, .ref 0], h)) rfl ?_
  obtain ⟨z8, w⟩ := w
  refine gw_gf (hk _ _ rfl) (RL_fI hR (gs_ck_of z8 gs_ck_6_4)) ?_
  refine gw_pst hk 1 (st' := (38, [some (.ref 0), some (.ref r1), some (.int x2), some (.int x3), some (.int x4), some (.int x_3)], [.ref r1, .int (gsV s_6 r1 4), .int (gsV s_6 r1 3), .int x_6, .ref q_4, .ref 0], h)) rfl ?_
  obtain ⟨z9, w⟩ := w
  refine gw_gf (hk _ _ rfl) (RL_fI hR (gs_ck_of z9 gs_ck_6_5)) ?_
  refine gw_pst hk 2 (st' := (45, [some (.ref 0), some (.ref r1), some (.int x2), some (.int x3), some (.int x4), some (.int x_3)], [.int x_3, .int x4, .int (gsV s_6 r1 5), .int (gsV s_6 r1 4), .int (gsV s_6 r1 3), .int x_6, .ref q_4, .ref 0], h)) rfl ?_
  obtain ⟨fs10, e10⟩ := RL_o hR (r := 0) (ci := 9) rfl
  refine gw_call (jj := 151) (As := [.ref 0, .ref q_4, .int x_6, .int (gsV s_6 r1 3), .int (gsV s_6 r1 4), .int (gsV s_6 r1 5), .int x4, .int x_3]) (rest := []) (hk _ _ rfl) (fun _ => rfl) rfl rfl (Nat.le_of_ble_eq_true rfl) (gm_rcv_v rfl e10 rfl) ?_
  refine ge_imp (w h hR) (fun v10 h w => ?_)
  obtain ⟨s_10, hR, x_10, rfl, w⟩ := w
  show gw (gt_T c.1 c.2.1 c.2.2.1) c.2.2.2 d 150 (48, [some (.ref 0), some (.ref r1), some (.int x2), some (.int x3), some (.int x4), some (.int x_3)], [.int x_10], h) _
  exact gw_ret (hk _ _ rfl) rfl ⟨_, hR, w⟩
/-- CommandByTurns.issueOf(LCommandByTurns$Leader;IIIIII)I -/
def wm151 (c : gx) (d : Nat) (Post : Option Value → gs → Prop) (r1 : Nat) (x2 : Int32) (x3 : Int32) (x4 : Int32) (x5 : Int32) (x6 : Int32) (x7 : Int32) (s : gs) : Prop :=
  gs_isC r1 2 = true ∧ vp_in 0 8 ∧ ∀ s_3 : gs, s_3 = gs_A s 45 (0 : Int32).toNatClampNeg (vp_nar .int (gsV s r1 0)) → gs_isC r1 2 = true ∧ vp_in 1 8 ∧ ∀ s_6 : gs, s_6 = gs_A s_3 45 (1 : Int32).toNatClampNeg (vp_nar .int (gsV s_3 r1 1)) → vp_in 2 8 ∧ ∀ s_8 : gs, s_8 = gs_A s_6 45 (2 : Int32).toNatClampNeg (vp_nar .int x2) → vp_in 3 8 ∧ ∀ s_10 : gs, s_10 = gs_A s_8 45 (3 : Int32).toNatClampNeg (vp_nar .int (x3 / 10)) → vp_in 4 8 ∧ ∀ s_12 : gs, s_12 = gs_A s_10 45 (4 : Int32).toNatClampNeg (vp_nar .int (x4 / 10)) → vp_in 5 8 ∧ ∀ s_14 : gs, s_14 = gs_A s_12 45 (5 : Int32).toNatClampNeg (vp_nar .int (x5 / 10)) → vp_in 6 8 ∧ ∀ s_16 : gs, s_16 = gs_A s_14 45 (6 : Int32).toNatClampNeg (vp_nar .int (x6 - x6 / 10 * 10)) → vp_in 7 8 ∧ ∀ s_18 : gs, s_18 = gs_A s_16 45 (7 : Int32).toNatClampNeg (vp_nar .int x7) → tE c d 11 [.ref 5, .ref 45] s_18 (fun v21 s_21 => ∃ x_21 : Int32, v21 = some (.int x_21) ∧ Post (some (.int (if (-500) < (if x_21 < 500 then x_21 else 500) then (if x_21 < 500 then x_21 else 500) else (-500)))) s_21)
theorem okm151 (c : gx) (d : Nat) (Post : Option Value → gs → Prop) (r1 : Nat) (x2 : Int32) (x3 : Int32) (x4 : Int32) (x5 : Int32) (x6 : Int32) (x7 : Int32) (s : gs) (w : wm151 c d Post r1 x2 x3 x4 x5 x6 x7 s) : tE c (d + 1) 151 [.ref 0, .ref r1, .int x2, .int x3, .int x4, .int x5, .int x6, .int x7] s Post := by
  intro h hR
  have hk : ∀ pc i, gm_find gk_151 pc = some i → gm_code (gt_T c.1 c.2.1 c.2.2.1) 151 pc = some i := fun _ _ z => z
  unfold wm151 at w
  refine ge_of (by decide) (Nat.le_of_ble_eq_true rfl) ?_
  show gw (gt_T c.1 c.2.1 c.2.2.1) c.2.2.2 d 151 (0, [some (.ref 0), some (.ref r1), some (.int x2), some (.int x3), some (.int x4), some (.int x5), some (.int x6), some (.int x7)], [], h) _
  refine gw_pst hk 1 (st' := (1, [some (.ref 0), some (.ref r1), some (.int x2), some (.int x3), some (.int x4), some (.int x5), some (.int x6), some (.int x7)], [.ref 0], h)) rfl ?_
  refine gw_gf (hk _ _ rfl) (RL_fR (n := 45) hR rfl) ?_
  refine gw_pst hk 2 (st' := (6, [some (.ref 0), some (.ref r1), some (.int x2), some (.int x3), some (.int x4), some (.int x5), some (.int x6), some (.int x7)], [.ref r1, .int 0, .ref 45], h)) rfl ?_
  obtain ⟨z2, w⟩ := w
  refine gw_gf (hk _ _ rfl) (RL_fI hR (gs_ck_of z2 gs_ck_2_0)) ?_
  obtain ⟨b3, w⟩ := w
  have hR3 := RL_pA (a := 45) (t := 0) (n := 8) (k := (0 : Int32).toNatClampNeg) (x := (vp_nar .int (gsV s r1 0))) hR rfl (by decide)
  refine gw_ast (hk _ _ rfl) (Or.inl ⟨rfl, rfl, rfl⟩) (RL_a (t := 0) (n := 8) hR rfl (by decide)) b3 ?_
  generalize gm_put h _ _ = h at hR3 ⊢
  obtain ⟨s_3, es3⟩ : ∃ z, z = gs_A s 45 (0 : Int32).toNatClampNeg (vp_nar .int (gsV s r1 0)) := ⟨_, rfl⟩
  rw [← es3] at hR3
  replace w := w s_3 es3
  replace hR := hR3
  refine gw_pst hk 1 (st' := (11, [some (.ref 0), some (.ref r1), some (.int x2), some (.int x3), some (.int x4), some (.int x5), some (.int x6), some (.int x7)], [.ref 0], h)) rfl ?_
  refine gw_gf (hk _ _ rfl) (RL_fR (n := 45) hR rfl) ?_
  refine gw_pst hk 2 (st' := (16, [some (.ref 0), some (.ref r1), some (.int x2), some (.int x3), some (.int x4), some (.int x5), some (.int x6), some (.int x7)], [.ref r1, .int 1, .ref 45], h)) rfl ?_
  obtain ⟨z5, w⟩ := w
  refine gw_gf (hk _ _ rfl) (RL_fI hR (gs_ck_of z5 gs_ck_2_1)) ?_
  obtain ⟨b6, w⟩ := w
  have hR6 := RL_pA (a := 45) (t := 0) (n := 8) (k := (1 : Int32).toNatClampNeg) (x := (vp_nar .int (gsV s_3 r1 1))) hR rfl (by decide)
  refine gw_ast (hk _ _ rfl) (Or.inl ⟨rfl, rfl, rfl⟩) (RL_a (t := 0) (n := 8) hR rfl (by decide)) b6 ?_
  generalize gm_put h _ _ = h at hR6 ⊢
  obtain ⟨s_6, es6⟩ : ∃ z, z = gs_A s_3 45 (1 : Int32).toNatClampNeg (vp_nar .int (gsV s_3 r1 1)) := ⟨_, rfl⟩
  rw [← es6] at hR6
  replace w := w s_6 es6
  replace hR := hR6
  refine gw_pst hk 1 (st' := (21, [some (.ref 0), some (.ref r1), some (.int x2), some (.int x3), some (.int x4), some (.int x5), some (.int x6), some (.int x7)], [.ref 0], h)) rfl ?_
  refine gw_gf (hk _ _ rfl) (RL_fR (n := 45) hR rfl) ?_
  refine gw_pst hk 2 (st' := (26, [some (.ref 0), some (.ref r1), some (.int x2), some (.int x3), some (.int x4), some (.int x5), some (.int x6), some (.int x7)], [.int x2, .int 2, .ref 45], h)) rfl ?_
  obtain ⟨b8, w⟩ := w
  have hR8 := RL_pA (a := 45) (t := 0) (n := 8) (k := (2 : Int32).toNatClampNeg) (x := (vp_nar .int x2)) hR rfl (by decide)
  refine gw_ast (hk _ _ rfl) (Or.inl ⟨rfl, rfl, rfl⟩) (RL_a (t := 0) (n := 8) hR rfl (by decide)) b8 ?_
  generalize gm_put h _ _ = h at hR8 ⊢
  obtain ⟨s_8, es8⟩ : ∃ z, z = gs_A s_6 45 (2 : Int32).toNatClampNeg (vp_nar .int x2) := ⟨_, rfl⟩
  rw [← es8] at hR8
  replace w := w s_8 es8
  replace hR := hR8
  refine gw_pst hk 1 (st' := (28, [some (.ref 0), some (.ref r1), some (.int x2), some (.int x3), some (.int x4), some (.int x5), some (.int x6), some (.int x7)], [.ref 0], h)) rfl ?_
  refine gw_gf (hk _ _ rfl) (RL_fR (n := 45) hR rfl) ?_
  refine gw_pst hk 3 (st' := (35, [some (.ref 0), some (.ref r1), some (.int x2), some (.int x3), some (.int x4), some (.int x5), some (.int x6), some (.int x7)], [.int 10, .int x3, .int 3, .ref 45], h)) rfl ?_
  refine gw_idiv (hk _ _ rfl) (by decide) ?_ rfl
  obtain ⟨b10, w⟩ := w
  have hR10 := RL_pA (a := 45) (t := 0) (n := 8) (k := (3 : Int32).toNatClampNeg) (x := (vp_nar .int (x3 / 10))) hR rfl (by decide)
  refine gw_ast (hk _ _ rfl) (Or.inl ⟨rfl, rfl, rfl⟩) (RL_a (t := 0) (n := 8) hR rfl (by decide)) b10 ?_
  generalize gm_put h _ _ = h at hR10 ⊢
  obtain ⟨s_10, es10⟩ : ∃ z, z = gs_A s_8 45 (3 : Int32).toNatClampNeg (vp_nar .int (x3 / 10)) := ⟨_, rfl⟩
  rw [← es10] at hR10
  replace w := w s_10 es10
  replace hR := hR10
  refine gw_pst hk 1 (st' := (38, [some (.ref 0), some (.ref r1), some (.int x2), some (.int x3), some (.int x4), some (.int x5), some (.int x6), some (.int x7)], [.ref 0], h)) rfl ?_
  refine gw_gf (hk _ _ rfl) (RL_fR (n := 45) hR rfl) ?_
  refine gw_pst hk 3 (st' := (46, [some (.ref 0), some (.ref r1), some (.int x2), some (.int x3), some (.int x4), some (.int x5), some (.int x6), some (.int x7)], [.int 10, .int x4, .int 4, .ref 45], h)) rfl ?_
  refine gw_idiv (hk _ _ rfl) (by decide) ?_ rfl
  obtain ⟨b12, w⟩ := w
  have hR12 := RL_pA (a := 45) (t := 0) (n := 8) (k := (4 : Int32).toNatClampNeg) (x := (vp_nar .int (x4 / 10))) hR rfl (by decide)
  refine gw_ast (hk _ _ rfl) (Or.inl ⟨rfl, rfl, rfl⟩) (RL_a (t := 0) (n := 8) hR rfl (by decide)) b12 ?_
  generalize gm_put h _ _ = h at hR12 ⊢
  obtain ⟨s_12, es12⟩ : ∃ z, z = gs_A s_10 45 (4 : Int32).toNatClampNeg (vp_nar .int (x4 / 10)) := ⟨_, rfl⟩
  rw [← es12] at hR12
  replace w := w s_12 es12
  replace hR := hR12
  refine gw_pst hk 1 (st' := (49, [some (.ref 0), some (.ref r1), some (.int x2), some (.int x3), some (.int x4), some (.int x5), some (.int x6), some (.int x7)], [.ref 0], h)) rfl ?_
  refine gw_gf (hk _ _ rfl) (RL_fR (n := 45) hR rfl) ?_
  refine gw_pst hk 3 (st' := (57, [some (.ref 0), some (.ref r1), some (.int x2), some (.int x3), some (.int x4), some (.int x5), some (.int x6), some (.int x7)], [.int 10, .int x5, .int 5, .ref 45], h)) rfl ?_
  refine gw_idiv (hk _ _ rfl) (by decide) ?_ rfl
  obtain ⟨b14, w⟩ := w
  have hR14 := RL_pA (a := 45) (t := 0) (n := 8) (k := (5 : Int32).toNatClampNeg) (x := (vp_nar .int (x5 / 10))) hR rfl (by decide)
  refine gw_ast (hk _ _ rfl) (Or.inl ⟨rfl, rfl, rfl⟩) (RL_a (t := 0) (n := 8) hR rfl (by decide)) b14 ?_
  generalize gm_put h _ _ = h at hR14 ⊢
  obtain ⟨s_14, es14⟩ : ∃ z, z = gs_A s_12 45 (5 : Int32).toNatClampNeg (vp_nar .int (x5 / 10)) := ⟨_, rfl⟩
  rw [← es14] at hR14
  replace w := w s_14 es14
  replace hR := hR14
  refine gw_pst hk 1 (st' := (60, [some (.ref 0), some (.ref r1), some (.int x2), some (.int x3), some (.int x4), some (.int x5), some (.int x6), some (.int x7)], [.ref 0], h)) rfl ?_
  refine gw_gf (hk _ _ rfl) (RL_fR (n := 45) hR rfl) ?_
  refine gw_pst hk 3 (st' := (69, [some (.ref 0), some (.ref r1), some (.int x2), some (.int x3), some (.int x4), some (.int x5), some (.int x6), some (.int x7)], [.int 10, .int x6, .int 6, .ref 45], h)) rfl ?_
  refine gw_irem (hk _ _ rfl) (by decide) ?_ rfl
  obtain ⟨b16, w⟩ := w
  have hR16 := RL_pA (a := 45) (t := 0) (n := 8) (k := (6 : Int32).toNatClampNeg) (x := (vp_nar .int (x6 - x6 / 10 * 10))) hR rfl (by decide)
  refine gw_ast (hk _ _ rfl) (Or.inl ⟨rfl, rfl, rfl⟩) (RL_a (t := 0) (n := 8) hR rfl (by decide)) b16 ?_
  generalize gm_put h _ _ = h at hR16 ⊢
  obtain ⟨s_16, es16⟩ : ∃ z, z = gs_A s_14 45 (6 : Int32).toNatClampNeg (vp_nar .int (x6 - x6 / 10 * 10)) := ⟨_, rfl⟩
  rw [← es16] at hR16
  replace w := w s_16 es16
  replace hR := hR16
  refine gw_pst hk 1 (st' := (72, [some (.ref 0), some (.ref r1), some (.int x2), some (.int x3), some (.int x4), some (.int x5), some (.int x6), some (.int x7)], [.ref 0], h)) rfl ?_
  refine gw_gf (hk _ _ rfl) (RL_fR (n := 45) hR rfl) ?_
  refine gw_pst hk 2 (st' := (79, [some (.ref 0), some (.ref r1), some (.int x2), some (.int x3), some (.int x4), some (.int x5), some (.int x6), some (.int x7)], [.int x7, .int 7, .ref 45], h)) rfl ?_
  obtain ⟨b18, w⟩ := w
  have hR18 := RL_pA (a := 45) (t := 0) (n := 8) (k := (7 : Int32).toNatClampNeg) (x := (vp_nar .int x7)) hR rfl (by decide)
  refine gw_ast (hk _ _ rfl) (Or.inl ⟨rfl, rfl, rfl⟩) (RL_a (t := 0) (n := 8) hR rfl (by decide)) b18 ?_
  generalize gm_put h _ _ = h at hR18 ⊢
  obtain ⟨s_18, es18⟩ : ∃ z, z = gs_A s_16 45 (7 : Int32).toNatClampNeg (vp_nar .int x7) := ⟨_, rfl⟩
  rw [← es18] at hR18
  replace w := w s_18 es18
  replace hR := hR18
  refine gw_pst hk 3 (st' := (87, [some (.ref 0), some (.ref r1), some (.int x2), some (.int x3), some (.int x4), some (.int x5), some (.int x6), some (.int x7)], [.ref 0, .int 500, .int (-500)], h)) rfl ?_
  refine gw_gf (hk _ _ rfl) (RL_fR (n := 5) hR rfl) ?_
  refine gw_pst hk 1 (st' := (91, [some (.ref 0), some (.ref r1), some (.int x2), some (.int x3), some (.int x4), some (.int x5), some (.int x6), some (.int x7)], [.ref 0, .ref 5, .int 500, .int (-500)], h)) rfl ?_
  refine gw_gf (hk _ _ rfl) (RL_fR (n := 45) hR rfl) ?_
  obtain ⟨fs21, e21⟩ := RL_o hR (r := 5) (ci := 0) rfl
  refine gw_call (jj := 11) (As := [.ref 5, .ref 45]) (rest := [.int 500, .int (-500)]) (hk _ _ rfl) (fun _ => rfl) rfl rfl (Nat.le_of_ble_eq_true rfl) (gm_rcv_v rfl e21 rfl) ?_
  refine ge_imp (w h hR) (fun v21 h w => ?_)
  obtain ⟨s_21, hR, x_21, rfl, w⟩ := w
  show gw (gt_T c.1 c.2.1 c.2.2.1) c.2.2.2 d 151 (97, [some (.ref 0), some (.ref r1), some (.int x2), some (.int x3), some (.int x4), some (.int x5), some (.int x6), some (.int x7)], [.int x_21, .int 500, .int (-500)], h) _
  refine gw_pst hk 2 (st' := (103, [some (.ref 0), some (.ref r1), some (.int x2), some (.int x3), some (.int x4), some (.int x5), some (.int x6), some (.int x7)], [.int (if (-500) < (if x_21 < 500 then x_21 else 500) then (if x_21 < 500 then x_21 else 500) else (-500))], h)) rfl ?_
  exact gw_ret (hk _ _ rfl) rfl ⟨_, hR, w⟩
