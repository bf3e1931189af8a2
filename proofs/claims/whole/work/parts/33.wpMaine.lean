/-! What must hold for a run to end with Post: by program (wip/whole/gen_wp.py). -/
/-- CommandByTurns.issueFrom(LCommandByTurns$Standing;III)I -/
def wm150 (c : gx) (d : Nat) (Post : Option Value → gm_H → Prop) (r0 : Nat) (r1 : Nat) (x2 : Int32) (x3 : Int32) (x4 : Int32) (h : gm_H) : Prop :=
  ∃ q_1 : Nat, gm_fld h r0 9 1 = some (.ref q_1) ∧ ∃ x_2 : Int32, gm_fld h r1 6 2 = some (.int x_2) ∧ (∃ fs3, gm_get h q_1 = some (.inr (1, fs3))) ∧ gE c d 18 [.ref q_1, .int x2, .int x_2] h (fun v3 h_3 => ∃ x_3 : Int32, v3 = some (.int x_3) ∧ (∃ fs4, gm_get h_3 r0 = some (.inr (9, fs4))) ∧ gE c d 148 [.ref r0, .int x3] h_3 (fun v4 h_4 => ∃ q_4 : Nat, v4 = some (.ref q_4) ∧ ∃ x_5 : Int32, gm_fld h_4 r1 6 2 = some (.int x_5) ∧ (∃ fs6, gm_get h_4 r0 = some (.inr (9, fs6))) ∧ gE c d 149 [.ref r0, .int x2, .int x_5] h_4 (fun v6 h_6 => ∃ x_6 : Int32, v6 = some (.int x_6) ∧ ∃ x_7 : Int32, gm_fld h_6 r1 6 3 = some (.int x_7) ∧ ∃ x_8 : Int32, gm_fld h_6 r1 6 4 = some (.int x_8) ∧ ∃ x_9 : Int32, gm_fld h_6 r1 6 5 = some (.int x_9) ∧ (∃ fs10, gm_get h_6 r0 = some (.inr (9, fs10))) ∧ gE c d 151 [.ref r0, .ref q_4, .int x_6, .int x_7, .int x_8, .int x_9, .int x4, .int x_3] h_6 (fun v10 h_10 => ∃ x_10 : Int32, v10 = some (.int x_10) ∧ Post (some (.int x_10)) h_10))))
theorem okm150 (c : gx) (d : Nat) (Post : Option Value → gm_H → Prop) (r0 : Nat) (r1 : Nat) (x2 : Int32) (x3 : Int32) (x4 : Int32) (h : gm_H) (w : wm150 c d Post r0 r1 x2 x3 x4 h) : gE c (d + 1) 150 [.ref r0, .ref r1, .int x2, .int x3, .int x4] h Post := by
  have hk : ∀ pc i, gm_find gk_150 pc = some i → gm_code (gt_T c.1 c.2.1 c.2.2.1) 150 pc = some i := fun _ _ z => z
  unfold wm150 at w
  refine ge_of (by decide) (Nat.le_of_ble_eq_true rfl) ?_
  show gV c d 150 (0, [some (.ref r0), some (.ref r1), some (.int x2), some (.int x3), some (.int x4), none], [], h) Post
  unfold gV
  refine gw_pst hk 1 (st' := (1, [some (.ref r0), some (.ref r1), some (.int x2), some (.int x3), some (.int x4), none], [.ref r0], h)) rfl ?_
  obtain ⟨q_1, e1, w⟩ := w
  refine gw_gf (hk _ _ rfl) e1 ?_
  refine gw_pst hk 2 (st' := (6, [some (.ref r0), some (.ref r1), some (.int x2), some (.int x3), some (.int x4), none], [.ref r1, .int x2, .ref q_1], h)) rfl ?_
  obtain ⟨x_2, e2, w⟩ := w
  refine gw_gf (hk _ _ rfl) e2 ?_
  obtain ⟨⟨fs3, e3⟩, w⟩ := w
  refine gw_call (jj := 18) (As := [.ref q_1, .int x2, .int x_2]) (rest := []) (hk _ _ rfl) (fun _ => rfl) rfl rfl (Nat.le_of_ble_eq_true rfl) (gm_rcv_v rfl e3 rfl) ?_
  refine ge_imp w (fun v3 h_3 w => ?_)
  obtain ⟨x_3, rfl, w⟩ := w
  show gV c d 150 (12, [some (.ref r0), some (.ref r1), some (.int x2), some (.int x3), some (.int x4), none], [.int x_3], h_3) Post
  refine gw_pst hk 4 (st' := (17, [some (.ref r0), some (.ref r1), some (.int x2), some (.int x3), some (.int x4), some (.int x_3)], [.int x3, .ref r0, .ref r0], h_3)) rfl ?_
  obtain ⟨⟨fs4, e4⟩, w⟩ := w
  refine gw_call (jj := 148) (As := [.ref r0, .int x3]) (rest := [.ref r0]) (hk _ _ rfl) (fun _ => rfl) rfl rfl (Nat.le_of_ble_eq_true rfl) (gm_rcv_v rfl e4 rfl) ?_
  refine ge_imp w (fun v4 h_4 w => ?_)
  obtain ⟨q_4, rfl, w⟩ := w
  show gV c d 150 (20, [some (.ref r0), some (.ref r1), some (.int x2), some (.int x3), some (.int x4), some (.int x_3)], [.ref q_4, .ref r0], h_4) Post
  refine gw_pst hk 3 (st' := (23, [some (.ref r0), some (.ref r1), some (.int x2), some (.int x3), some (.int x4), some (.int x_3)], [.ref r1, .int x2, .ref r0, .ref q_4, .ref r0], h_4)) rfl ?_
  obtain ⟨x_5, e5, w⟩ := w
  refine gw_gf (hk _ _ rfl) e5 ?_
  obtain ⟨⟨fs6, e6⟩, w⟩ := w
  refine gw_call (jj := 149) (As := [.ref r0, .int x2, .int x_5]) (rest := [.ref q_4, .ref r0]) (hk _ _ rfl) (fun _ => rfl) rfl rfl (Nat.le_of_ble_eq_true rfl) (gm_rcv_v rfl e6 rfl) ?_
  refine ge_imp w (fun v6 h_6 w => ?_)
  obtain ⟨x_6, rfl, w⟩ := w
  show gV c d 150 (29, [some (.ref r0), some (.ref r1), some (.int x2), some (.int x3), some (.int x4), some (.int x_3)], [.int x_6, .ref q_4, .ref r0], h_6) Post
  refine gw_pst hk 1 (st' := (30, [some (.ref r0), some (.ref r1), some (.int x2), some (.int x3), some (.int x4), some (.int x_3)], [.ref r1, .int x_6, .ref q_4, .ref r0], h_6)) rfl ?_
  obtain ⟨x_7, e7, w⟩ := w
  refine gw_gf (hk _ _ rfl) e7 ?_
  refine gw_pst hk 1 (st' := (34, [some (.ref r0), some (.ref r1), some (.int x2), some (.int x3), some (.int x4), some (.int x_3)], [.ref r1, .int x_7, .int x_6, .ref q_4, .ref r0], h_6)) rfl ?_
  obtain ⟨x_8, e8, w⟩ := w
  refine gw_gf (hk _ _ rfl) e8 ?_
  refine gw_pst hk 1 (st' := (38, [some (.ref r0), some (.ref r1), some (.int x2), some (.int x3), some (.int x4), some (.int x_3)], [.ref r1, .int x_8, .int x_7, .int x_6, .ref q_4, .ref r0], h_6)) rfl ?_
  obtain ⟨x_9, e9, w⟩ := w
  refine gw_gf (hk _ _ rfl) e9 ?_
  refine gw_pst hk 2 (st' := (45, [some (.ref r0), some (.ref r1), some (.int x2), some (.int x3), some (.int x4), some (.int x_3)], [.int x_3, .int x4, .int x_9, .int x_8, .int x_7, .int x_6, .ref q_4, .ref r0], h_6)) rfl ?_
  obtain ⟨⟨fs10, e10⟩, w⟩ := w
  refine gw_call (jj := 151) (As := [.ref r0, .ref q_4, .int x_6, .int x_7, .int x_8, .int x_9, .int x4, .int x_3]) (rest := []) (hk _ _ rfl) (fun _ => rfl) rfl rfl (Nat.le_of_ble_eq_true rfl) (gm_rcv_v rfl e10 rfl) ?_
  refine ge_imp w (fun v10 h_10 w => ?_)
  obtain ⟨x_10, rfl, w⟩ := w
  show gV c d 150 (48, [some (.ref r0), some (.ref r1), some (.int x2), some (.int x3), some (.int x4), some (.int x_3)], [.int x_10], h_10) Post
  exact gw_ret (hk _ _ rfl) rfl w
/-- CommandByTurns.issueOf(LCommandByTurns$Leader;IIIIII)I -/
def wm151 (c : gx) (d : Nat) (Post : Option Value → gm_H → Prop) (r0 : Nat) (r1 : Nat) (x2 : Int32) (x3 : Int32) (x4 : Int32) (x5 : Int32) (x6 : Int32) (x7 : Int32) (h : gm_H) : Prop :=
  ∃ q_1 : Nat, gm_fld h r0 9 14 = some (.ref q_1) ∧ ∃ x_2 : Int32, gm_fld h r1 2 0 = some (.int x_2) ∧ ∃ (n3 : Nat) (f3 : Nat → Int32), gm_get h q_1 = some (.inl (0, n3, .inl f3)) ∧ vp_in 0 n3 ∧ ∀ h_3 : gm_H, h_3 = gm_put h q_1 (.inl (0, n3, .inl (upd f3 (0 : Int32).toNatClampNeg (vp_nar .int x_2)))) → ∃ q_4 : Nat, gm_fld h_3 r0 9 14 = some (.ref q_4) ∧ ∃ x_5 : Int32, gm_fld h_3 r1 2 1 = some (.int x_5) ∧ ∃ (n6 : Nat) (f6 : Nat → Int32), gm_get h_3 q_4 = some (.inl (0, n6, .inl f6)) ∧ vp_in 1 n6 ∧ ∀ h_6 : gm_H, h_6 = gm_put h_3 q_4 (.inl (0, n6, .inl (upd f6 (1 : Int32).toNatClampNeg (vp_nar .int x_5)))) → ∃ q_7 : Nat, gm_fld h_6 r0 9 14 = some (.ref q_7) ∧ ∃ (n8 : Nat) (f8 : Nat → Int32), gm_get h_6 q_7 = some (.inl (0, n8, .inl f8)) ∧ vp_in 2 n8 ∧ ∀ h_8 : gm_H, h_8 = gm_put h_6 q_7 (.inl (0, n8, .inl (upd f8 (2 : Int32).toNatClampNeg (vp_nar .int x2)))) → ∃ q_9 : Nat, gm_fld h_8 r0 9 14 = some (.ref q_9) ∧ ∃ (n10 : Nat) (f10 : Nat → Int32), gm_get h_8 q_9 = some (.inl (0, n10, .inl f10)) ∧ vp_in 3 n10 ∧ ∀ h_10 : gm_H, h_10 = gm_put h_8 q_9 (.inl (0, n10, .inl (upd f10 (3 : Int32).toNatClampNeg (vp_nar .int (x3 / 10))))) → ∃ q_11 : Nat, gm_fld h_10 r0 9 14 = some (.ref q_11) ∧ ∃ (n12 : Nat) (f12 : Nat → Int32), gm_get h_10 q_11 = some (.inl (0, n12, .inl f12)) ∧ vp_in 4 n12 ∧ ∀ h_12 : gm_H, h_12 = gm_put h_10 q_11 (.inl (0, n12, .inl (upd f12 (4 : Int32).toNatClampNeg (vp_nar .int (x4 / 10))))) → ∃ q_13 : Nat, gm_fld h_12 r0 9 14 = some (.ref q_13) ∧ ∃ (n14 : Nat) (f14 : Nat → Int32), gm_get h_12 q_13 = some (.inl (0, n14, .inl f14)) ∧ vp_in 5 n14 ∧ ∀ h_14 : gm_H, h_14 = gm_put h_12 q_13 (.inl (0, n14, .inl (upd f14 (5 : Int32).toNatClampNeg (vp_nar .int (x5 / 10))))) → ∃ q_15 : Nat, gm_fld h_14 r0 9 14 = some (.ref q_15) ∧ ∃ (n16 : Nat) (f16 : Nat → Int32), gm_get h_14 q_15 = some (.inl (0, n16, .inl f16)) ∧ vp_in 6 n16 ∧ ∀ h_16 : gm_H, h_16 = gm_put h_14 q_15 (.inl (0, n16, .inl (upd f16 (6 : Int32).toNatClampNeg (vp_nar .int (x6 - x6 / 10 * 10))))) → ∃ q_17 : Nat, gm_fld h_16 r0 9 14 = some (.ref q_17) ∧ ∃ (n18 : Nat) (f18 : Nat → Int32), gm_get h_16 q_17 = some (.inl (0, n18, .inl f18)) ∧ vp_in 7 n18 ∧ ∀ h_18 : gm_H, h_18 = gm_put h_16 q_17 (.inl (0, n18, .inl (upd f18 (7 : Int32).toNatClampNeg (vp_nar .int x7)))) → ∃ q_19 : Nat, gm_fld h_18 r0 9 2 = some (.ref q_19) ∧ ∃ q_20 : Nat, gm_fld h_18 r0 9 14 = some (.ref q_20) ∧ (∃ fs21, gm_get h_18 q_19 = some (.inr (0, fs21))) ∧ gE c d 11 [.ref q_19, .ref q_20] h_18 (fun v21 h_21 => ∃ x_21 : Int32, v21 = some (.int x_21) ∧ Post (some (.int (if (-500) < (if x_21 < 500 then x_21 else 500) then (if x_21 < 500 then x_21 else 500) else (-500)))) h_21)
theorem okm151 (c : gx) (d : Nat) (Post : Option Value → gm_H → Prop) (r0 : Nat) (r1 : Nat) (x2 : Int32) (x3 : Int32) (x4 : Int32) (x5 : Int32) (x6 : Int32) (x7 : Int32) (h : gm_H) (w : wm151 c d Post r0 r1 x2 x3 x4 x5 x6 x7 h) : gE c (d + 1) 151 [.ref r0, .ref r1, .int x2, .int x3, .int x4, .int x5, .int x6, .int x7] h Post := by
  have hk : ∀ pc i, gm_find gk_151 pc = some i → gm_code (gt_T c.1 c.2.1 c.2.2.1) 151 pc = some i := fun _ _ z => z
  unfold wm151 at w
  refine ge_of (by decide) (Nat.le_of_ble_eq_true rfl) ?_
  show gV c d 151 (0, [some (.ref r0), some (.ref r1), some (.int x2), some (.int x3), some (.int x4), some (.int x5), some (.int x6), some (.int x7)], [], h) Post
  unfold gV
  refine gw_pst hk 1 (st' := (1, [some (.ref r0), some (.ref r1), some (.int x2), some (.int x3), some (.int x4), some (.int x5), some (.int x6), some (.int x7)], [.ref r0], h)) rfl ?_
  obtain ⟨q_1, e1, w⟩ := w
  refine gw_gf (hk _ _ rfl) e1 ?_
  refine gw_pst hk 2 (st' := (6, [some (.ref r0), some (.ref r1), some (.int x2), some (.int x3), some (.int x4), some (.int x5), some (.int x6), some (.int x7)], [.ref r1, .int 0, .ref q_1], h)) rfl ?_
  obtain ⟨x_2, e2, w⟩ := w
  refine gw_gf (hk _ _ rfl) e2 ?_
  obtain ⟨n3, f3, e3, b3, w⟩ := w
  refine gw_ast (hk _ _ rfl) (Or.inl ⟨rfl, rfl, rfl⟩) e3 b3 ?_
  obtain ⟨h_3, eh3⟩ : ∃ z, z = gm_put h q_1 (.inl (0, n3, .inl (upd f3 (0 : Int32).toNatClampNeg (vp_nar .int x_2)))) := ⟨_, rfl⟩
  rw [← eh3]
  replace w := w h_3 eh3
  refine gw_pst hk 1 (st' := (11, [some (.ref r0), some (.ref r1), some (.int x2), some (.int x3), some (.int x4), some (.int x5), some (.int x6), some (.int x7)], [.ref r0], h_3)) rfl ?_
  obtain ⟨q_4, e4, w⟩ := w
  refine gw_gf (hk _ _ rfl) e4 ?_
  refine gw_pst hk 2 (st' := (16, [some (.ref r0), some (.ref r1), some (.int x2), some (.int x3), some (.int x4), some (.int x5), some (.int x6), some (.int x7)], [.ref r1, .int 1, .ref q_4], h_3)) rfl ?_
  obtain ⟨x_5, e5, w⟩ := w
  refine gw_gf (hk _ _ rfl) e5 ?_
  obtain ⟨n6, f6, e6, b6, w⟩ := w
  refine gw_ast (hk _ _ rfl) (Or.inl ⟨rfl, rfl, rfl⟩) e6 b6 ?_
  obtain ⟨h_6, eh6⟩ : ∃ z, z = gm_put h_3 q_4 (.inl (0, n6, .inl (upd f6 (1 : Int32).toNatClampNeg (vp_nar .int x_5)))) := ⟨_, rfl⟩
  rw [← eh6]
  replace w := w h_6 eh6
  refine gw_pst hk 1 (st' := (21, [some (.ref r0), some (.ref r1), some (.int x2), some (.int x3), some (.int x4), some (.int x5), some (.int x6), some (.int x7)], [.ref r0], h_6)) rfl ?_
  obtain ⟨q_7, e7, w⟩ := w
  refine gw_gf (hk _ _ rfl) e7 ?_
  refine gw_pst hk 2 (st' := (26, [some (.ref r0), some (.ref r1), some (.int x2), some (.int x3), some (.int x4), some (.int x5), some (.int x6), some (.int x7)], [.int x2, .int 2, .ref q_7], h_6)) rfl ?_
  obtain ⟨n8, f8, e8, b8, w⟩ := w
  refine gw_ast (hk _ _ rfl) (Or.inl ⟨rfl, rfl, rfl⟩) e8 b8 ?_
  obtain ⟨h_8, eh8⟩ : ∃ z, z = gm_put h_6 q_7 (.inl (0, n8, .inl (upd f8 (2 : Int32).toNatClampNeg (vp_nar .int x2)))) := ⟨_, rfl⟩
  rw [← eh8]
  replace w := w h_8 eh8
  refine gw_pst hk 1 (st' := (28, [some (.ref r0), some (.ref r1), some (.int x2), some (.int x3), some (.int x4), some (.int x5), some (.int x6), some (.int x7)], [.ref r0], h_8)) rfl ?_
  obtain ⟨q_9, e9, w⟩ := w
  refine gw_gf (hk _ _ rfl) e9 ?_
  refine gw_pst hk 3 (st' := (35, [some (.ref r0), some (.ref r1), some (.int x2), some (.int x3), some (.int x4), some (.int x5), some (.int x6), some (.int x7)], [.int 10, .int x3, .int 3, .ref q_9], h_8)) rfl ?_
  refine gw_idiv (hk _ _ rfl) (by decide) ?_ rfl
  obtain ⟨n10, f10, e10, b10, w⟩ := w
  refine gw_ast (hk _ _ rfl) (Or.inl ⟨rfl, rfl, rfl⟩) e10 b10 ?_
  obtain ⟨h_10, eh10⟩ : ∃ z, z = gm_put h_8 q_9 (.inl (0, n10, .inl (upd f10 (3 : Int32).toNatClampNeg (vp_nar .int (x3 / 10))))) := ⟨_, rfl⟩
  rw [← eh10]
  replace w := w h_10 eh10
  refine gw_pst hk 1 (st' := (38, [some (.ref r0), some (.ref r1), some (.int x2), some (.int x3), some (.int x4), some (.int x5), some (.int x6), some (.int x7)], [.ref r0], h_10)) rfl ?_
  obtain ⟨q_11, e11, w⟩ := w
  refine gw_gf (hk _ _ rfl) e11 ?_
  refine gw_pst hk 3 (st' := (46, [some (.ref r0), some (.ref r1), some (.int x2), some (.int x3), some (.int x4), some (.int x5), some (.int x6), some (.int x7)], [.int 10, .int x4, .int 4, .ref q_11], h_10)) rfl ?_
  refine gw_idiv (hk _ _ rfl) (by decide) ?_ rfl
  obtain ⟨n12, f12, e12, b12, w⟩ := w
  refine gw_ast (hk _ _ rfl) (Or.inl ⟨rfl, rfl, rfl⟩) e12 b12 ?_
  obtain ⟨h_12, eh12⟩ : ∃ z, z = gm_put h_10 q_11 (.inl (0, n12, .inl (upd f12 (4 : Int32).toNatClampNeg (vp_nar .int (x4 / 10))))) := ⟨_, rfl⟩
  rw [← eh12]
  replace w := w h_12 eh12
  refine gw_pst hk 1 (st' := (49, [some (.ref r0), some (.ref r1), some (.int x2), some (.int x3), some (.int x4), some (.int x5), some (.int x6), some (.int x7)], [.ref r0], h_12)) rfl ?_
  obtain ⟨q_13, e13, w⟩ := w
  refine gw_gf (hk _ _ rfl) e13 ?_
  refine gw_pst hk 3 (st' := (57, [some (.ref r0), some (.ref r1), some (.int x2), some (.int x3), some (.int x4), some (.int x5), some (.int x6), some (.int x7)], [.int 10, .int x5, .int 5, .ref q_13], h_12)) rfl ?_
  refine gw_idiv (hk _ _ rfl) (by decide) ?_ rfl
  obtain ⟨n14, f14, e14, b14, w⟩ := w
  refine gw_ast (hk _ _ rfl) (Or.inl ⟨rfl, rfl, rfl⟩) e14 b14 ?_
  obtain ⟨h_14, eh14⟩ : ∃ z, z = gm_put h_12 q_13 (.inl (0, n14, .inl (upd f14 (5 : Int32).toNatClampNeg (vp_nar .int (x5 / 10))))) := ⟨_, rfl⟩
  rw [← eh14]
  replace w := w h_14 eh14
  refine gw_pst hk 1 (st' := (60, [some (.ref r0), some (.ref r1), some (.int x2), some (.int x3), some (.int x4), some (.int x5), some (.int x6), some (.int x7)], [.ref r0], h_14)) rfl ?_
  obtain ⟨q_15, e15, w⟩ := w
  refine gw_gf (hk _ _ rfl) e15 ?_
  refine gw_pst hk 3 (st' := (69, [some (.ref r0), some (.ref r1), some (.int x2), some (.int x3), some (.int x4), some (.int x5), some (.int x6), some (.int x7)], [.int 10, .int x6, .int 6, .ref q_15], h_14)) rfl ?_
  refine gw_irem (hk _ _ rfl) (by decide) ?_ rfl
  obtain ⟨n16, f16, e16, b16, w⟩ := w
  refine gw_ast (hk _ _ rfl) (Or.inl ⟨rfl, rfl, rfl⟩) e16 b16 ?_
  obtain ⟨h_16, eh16⟩ : ∃ z, z = gm_put h_14 q_15 (.inl (0, n16, .inl (upd f16 (6 : Int32).toNatClampNeg (vp_nar .int (x6 - x6 / 10 * 10))))) := ⟨_, rfl⟩
  rw [← eh16]
  replace w := w h_16 eh16
  refine gw_pst hk 1 (st' := (72, [some (.ref r0), some (.ref r1), some (.int x2), some (.int x3), some (.int x4), some (.int x5), some (.int x6), some (.int x7)], [.ref r0], h_16)) rfl ?_
  obtain ⟨q_17, e17, w⟩ := w
  refine gw_gf (hk _ _ rfl) e17 ?_
  refine gw_pst hk 2 (st' := (79, [some (.ref r0), some (.ref r1), some (.int x2), some (.int x3), some (.int x4), some (.int x5), some (.int x6), some (.int x7)], [.int x7, .int 7, .ref q_17], h_16)) rfl ?_
  obtain ⟨n18, f18, e18, b18, w⟩ := w
  refine gw_ast (hk _ _ rfl) (Or.inl ⟨rfl, rfl, rfl⟩) e18 b18 ?_
  obtain ⟨h_18, eh18⟩ : ∃ z, z = gm_put h_16 q_17 (.inl (0, n18, .inl (upd f18 (7 : Int32).toNatClampNeg (vp_nar .int x7)))) := ⟨_, rfl⟩
  rw [← eh18]
  replace w := w h_18 eh18
  refine gw_pst hk 3 (st' := (87, [some (.ref r0), some (.ref r1), some (.int x2), some (.int x3), some (.int x4), some (.int x5), some (.int x6), some (.int x7)], [.ref r0, .int 500, .int (-500)], h_18)) rfl ?_
  obtain ⟨q_19, e19, w⟩ := w
  refine gw_gf (hk _ _ rfl) e19 ?_
  refine gw_pst hk 1 (st' := (91, [some (.ref r0), some (.ref r1), some (.int x2), some (.int x3), some (.int x4), some (.int x5), some (.int x6), some (.int x7)], [.ref r0, .ref q_19, .int 500, .int (-500)], h_18)) rfl ?_
  obtain ⟨q_20, e20, w⟩ := w
  refine gw_gf (hk _ _ rfl) e20 ?_
  obtain ⟨⟨fs21, e21⟩, w⟩ := w
  refine gw_call (jj := 11) (As := [.ref q_19, .ref q_20]) (rest := [.int 500, .int (-500)]) (hk _ _ rfl) (fun _ => rfl) rfl rfl (Nat.le_of_ble_eq_true rfl) (gm_rcv_v rfl e21 rfl) ?_
  refine ge_imp w (fun v21 h_21 w => ?_)
  obtain ⟨x_21, rfl, w⟩ := w
  show gV c d 151 (97, [some (.ref r0), some (.ref r1), some (.int x2), some (.int x3), some (.int x4), some (.int x5), some (.int x6), some (.int x7)], [.int x_21, .int 500, .int (-500)], h_21) Post
  refine gw_pst hk 2 (st' := (103, [some (.ref r0), some (.ref r1), some (.int x2), some (.int x3), some (.int x4), some (.int x5), some (.int x6), some (.int x7)], [.int (if (-500) < (if x_21 < 500 then x_21 else 500) then (if x_21 < 500 then x_21 else 500) else (-500))], h_21)) rfl ?_
  exact gw_ret (hk _ _ rfl) rfl w
