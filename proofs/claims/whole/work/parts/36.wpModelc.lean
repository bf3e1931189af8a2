/-! What must hold for a run to end with Post: by program (wip/whole/gen_wp.py). -/
/-- CommandByTurnsModel.goMarch(I)V -/
def wm200 (c : gx) (d : Nat) (Post : Option Value → gm_H → Prop) (r0 : Nat) (x1 : Int32) (h : gm_H) : Prop :=
  ∃ q_1 : Nat, gm_fld h r0 10 0 = some (.ref q_1) ∧ ∃ (n2 : Nat) (f2 : Nat → Int32), gm_get h q_1 = some (.inl (0, n2, .inl f2)) ∧ vp_in 1 n2 ∧ ∃ (n3 : Nat) (f3 : Nat → Int32), gm_get h q_1 = some (.inl (0, n3, .inl f3)) ∧ vp_in 1 n3 ∧ ∀ h_3 : gm_H, h_3 = gm_put h q_1 (.inl (0, n3, .inl (upd f3 (1 : Int32).toNatClampNeg (vp_nar .int ((f2 (1 : Int32).toNatClampNeg) + x1))))) → ∃ q_4 : Nat, gm_fld h_3 r0 10 0 = some (.ref q_4) ∧ gE c d 197 [.ref q_4] h_3 (fun v5 h_5 => v5 = none ∧ Post none h_5)
theorem okm200 (c : gx) (d : Nat) (Post : Option Value → gm_H → Prop) (r0 : Nat) (x1 : Int32) (h : gm_H) (w : wm200 c d Post r0 x1 h) : gE c (d + 1) 200 [.ref r0, .int x1] h Post := by
  have hk : ∀ pc i, gm_find gk_200 pc = some i → gm_code (gt_T c.1 c.2.1 c.2.2.1) 200 pc = some i := fun _ _ z => z
  unfold wm200 at w
  refine ge_of (by decide) (Nat.le_of_ble_eq_true rfl) ?_
  show gV c d 200 (0, [some (.ref r0), some (.int x1)], [], h) Post
  unfold gV
  refine gw_pst hk 1 (st' := (1, [some (.ref r0), some (.int x1)], [.ref r0], h)) rfl ?_
  obtain ⟨q_1, e1, w⟩ := w
  refine gw_gf (hk _ _ rfl) e1 ?_
  refine gw_pst hk 2 (st' := (6, [some (.ref r0), some (.int x1)], [.int 1, .ref q_1, .int 1, .ref q_1], h)) rfl ?_
  obtain ⟨n2, f2, e2, b2, w⟩ := w
  refine gw_ald (hk _ _ rfl) (Or.inl ⟨rfl, rfl⟩) e2 b2 ?_
  refine gw_pst hk 2 (st' := (9, [some (.ref r0), some (.int x1)], [.int ((f2 (1 : Int32).toNatClampNeg) + x1), .int 1, .ref q_1], h)) rfl ?_
  obtain ⟨n3, f3, e3, b3, w⟩ := w
  refine gw_ast (hk _ _ rfl) (Or.inl ⟨rfl, rfl, rfl⟩) e3 b3 ?_
  obtain ⟨h_3, eh3⟩ : ∃ z, z = gm_put h q_1 (.inl (0, n3, .inl (upd f3 (1 : Int32).toNatClampNeg (vp_nar .int ((f2 (1 : Int32).toNatClampNeg) + x1))))) := ⟨_, rfl⟩
  rw [← eh3]
  replace w := w h_3 eh3
  refine gw_pst hk 1 (st' := (11, [some (.ref r0), some (.int x1)], [.ref r0], h_3)) rfl ?_
  obtain ⟨q_4, e4, w⟩ := w
  refine gw_gf (hk _ _ rfl) e4 ?_
  refine gw_call (jj := 197) (As := [.ref q_4]) (rest := []) (hk _ _ rfl) (fun _ => rfl) rfl rfl (Nat.le_of_ble_eq_true rfl) rfl ?_
  refine ge_imp w (fun v5 h_5 w => ?_)
  obtain ⟨rfl, w⟩ := w
  show gV c d 200 (17, [some (.ref r0), some (.int x1)], [], h_5) Post
  exact gw_ret (hk _ _ rfl) rfl w
/-- CommandByTurnsModel.march(I)I -/
def wm201 (c : gx) (d : Nat) (Post : Option Value → gm_H → Prop) (r0 : Nat) (x1 : Int32) (h : gm_H) : Prop :=
  ∃ fs1 : List Value, gm_get h r0 = some (.inr (10, fs1)) ∧ 13 < fs1.length ∧ ∀ h_1 : gm_H, h_1 = gm_put h r0 (.inr (10, fs1.set 13 (.int 0))) → (∃ fs2, gm_get h_1 r0 = some (.inr (10, fs2))) ∧ gE c d 199 [.ref r0, .int x1] h_1 (fun v2 h_2 => ∃ x_2 : Int32, v2 = some (.int x_2) ∧ ((0 ≤ x_2 → ∃ q_4 : Nat, gm_fld h_2 r0 10 0 = some (.ref q_4) ∧ (∃ fs5, gm_get h_2 r0 = some (.inr (10, fs5))) ∧ gE c d 195 [.ref r0, .ref q_4] h_2 (fun v5 h_5 => v5 = none ∧ ∃ q_6 : Nat, gm_fld h_5 r0 10 0 = some (.ref q_6) ∧ ∃ q_7 : Nat, gm_fld h_5 r0 10 0 = some (.ref q_7) ∧ ∃ (n8 : Nat) (f8 : Nat → Int32), gm_get h_5 q_7 = some (.inl (0, n8, .inl f8)) ∧ vp_in 0 n8 ∧ gE c d 184 [.ref q_6, .int (f8 (0 : Int32).toNatClampNeg)] h_5 (fun v9 h_9 => ∃ x_9 : Int32, v9 = some (.int x_9) ∧ (∃ fs10, gm_get h_9 r0 = some (.inr (10, fs10))) ∧ gE c d 200 [.ref r0, .int x1] h_9 (fun v10 h_10 => v10 = none ∧ ∃ fs11 : List Value, gm_get h_10 r0 = some (.inr (10, fs11)) ∧ 12 < fs11.length ∧ ∀ h_11 : gm_H, h_11 = gm_put h_10 r0 (.inr (10, fs11.set 12 (.int 0))) → (∃ fs12, gm_get h_11 r0 = some (.inr (10, fs12))) ∧ gE c d 157 [.ref r0, .long ((x_9 : Int32).toInt64)] h_11 (fun v12 h_12 => v12 = none ∧ ∃ q_13 : Nat, gm_fld h_12 r0 10 0 = some (.ref q_13) ∧ ∃ (n14 : Nat) (f14 : Nat → Int32), gm_get h_12 q_13 = some (.inl (0, n14, .inl f14)) ∧ vp_in 5 n14 ∧ (∃ fs15, gm_get h_12 r0 = some (.inr (10, fs15))) ∧ gE c d 157 [.ref r0, .long ((f14 (5 : Int32).toNatClampNeg : Int32).toInt64)] h_12 (fun v15 h_15 => v15 = none ∧ ∃ q_16 : Nat, gm_fld h_15 r0 10 0 = some (.ref q_16) ∧ ∃ (n17 : Nat) (f17 : Nat → Int32), gm_get h_15 q_16 = some (.inl (0, n17, .inl f17)) ∧ vp_in 1 n17 ∧ Post (some (.int (f17 (1 : Int32).toNatClampNeg))) h_15)))))) ∧ (¬ (0 ≤ x_2) → Post (some (.int x_2)) h_2)))
theorem okm201 (c : gx) (d : Nat) (Post : Option Value → gm_H → Prop) (r0 : Nat) (x1 : Int32) (h : gm_H) (w : wm201 c d Post r0 x1 h) : gE c (d + 1) 201 [.ref r0, .int x1] h Post := by
  have hk : ∀ pc i, gm_find gk_201 pc = some i → gm_code (gt_T c.1 c.2.1 c.2.2.1) 201 pc = some i := fun _ _ z => z
  unfold wm201 at w
  refine ge_of (by decide) (Nat.le_of_ble_eq_true rfl) ?_
  show gV c d 201 (0, [some (.ref r0), some (.int x1), none, none], [], h) Post
  unfold gV
  refine gw_pst hk 2 (st' := (2, [some (.ref r0), some (.int x1), none, none], [.int 0, .ref r0], h)) rfl ?_
  obtain ⟨fs1, e1, l1, w⟩ := w
  refine gw_pf (hk _ _ rfl) e1 l1 rfl ?_
  obtain ⟨h_1, eh1⟩ : ∃ z, z = gm_put h r0 (.inr (10, fs1.set 13 (.int 0))) := ⟨_, rfl⟩
  rw [← eh1]
  replace w := w h_1 eh1
  refine gw_pst hk 2 (st' := (7, [some (.ref r0), some (.int x1), none, none], [.int x1, .ref r0], h_1)) rfl ?_
  obtain ⟨⟨fs2, e2⟩, w⟩ := w
  refine gw_call (jj := 199) (As := [.ref r0, .int x1]) (rest := []) (hk _ _ rfl) (fun _ => rfl) rfl rfl (Nat.le_of_ble_eq_true rfl) (gm_rcv_v rfl e2 rfl) ?_
  refine ge_imp w (fun v2 h_2 w => ?_)
  obtain ⟨x_2, rfl, w⟩ := w
  show gV c d 201 (10, [some (.ref r0), some (.int x1), none, none], [.int x_2], h_2) Post
  refine gw_pst hk 2 (st' := (12, [some (.ref r0), some (.int x1), some (.int x_2), none], [.int x_2], h_2)) rfl ?_
  refine gw_br (c := 0 ≤ x_2) (a := (17, [some (.ref r0), some (.int x1), some (.int x_2), none], [], h_2)) (b := (15, [some (.ref r0), some (.int x1), some (.int x_2), none], [], h_2)) (hk _ _ rfl) rfl ⟨fun z3 => ?_, fun z3 => ?_⟩
  · replace w := w.1 z3
    refine gw_pst hk 2 (st' := (19, [some (.ref r0), some (.int x1), some (.int x_2), none], [.ref r0, .ref r0], h_2)) rfl ?_
    obtain ⟨q_4, e4, w⟩ := w
    refine gw_gf (hk _ _ rfl) e4 ?_
    obtain ⟨⟨fs5, e5⟩, w⟩ := w
    refine gw_call (jj := 195) (As := [.ref r0, .ref q_4]) (rest := []) (hk _ _ rfl) (fun _ => rfl) rfl rfl (Nat.le_of_ble_eq_true rfl) (gm_rcv_v rfl e5 rfl) ?_
    refine ge_imp w (fun v5 h_5 w => ?_)
    obtain ⟨rfl, w⟩ := w
    show gV c d 201 (25, [some (.ref r0), some (.int x1), some (.int x_2), none], [], h_5) Post
    refine gw_pst hk 1 (st' := (26, [some (.ref r0), some (.int x1), some (.int x_2), none], [.ref r0], h_5)) rfl ?_
    obtain ⟨q_6, e6, w⟩ := w
    refine gw_gf (hk _ _ rfl) e6 ?_
    refine gw_pst hk 1 (st' := (30, [some (.ref r0), some (.int x1), some (.int x_2), none], [.ref r0, .ref q_6], h_5)) rfl ?_
    obtain ⟨q_7, e7, w⟩ := w
    refine gw_gf (hk _ _ rfl) e7 ?_
    refine gw_pst hk 1 (st' := (34, [some (.ref r0), some (.int x1), some (.int x_2), none], [.int 0, .ref q_7, .ref q_6], h_5)) rfl ?_
    obtain ⟨n8, f8, e8, b8, w⟩ := w
    refine gw_ald (hk _ _ rfl) (Or.inl ⟨rfl, rfl⟩) e8 b8 ?_
    refine gw_call (jj := 184) (As := [.ref q_6, .int (f8 (0 : Int32).toNatClampNeg)]) (rest := []) (hk _ _ rfl) (fun _ => rfl) rfl rfl (Nat.le_of_ble_eq_true rfl) rfl ?_
    refine ge_imp w (fun v9 h_9 w => ?_)
    obtain ⟨x_9, rfl, w⟩ := w
    show gV c d 201 (38, [some (.ref r0), some (.int x1), some (.int x_2), none], [.int x_9], h_9) Post
    refine gw_pst hk 3 (st' := (41, [some (.ref r0), some (.int x1), some (.int x_2), some (.int x_9)], [.int x1, .ref r0], h_9)) rfl ?_
    obtain ⟨⟨fs10, e10⟩, w⟩ := w
    refine gw_call (jj := 200) (As := [.ref r0, .int x1]) (rest := []) (hk _ _ rfl) (fun _ => rfl) rfl rfl (Nat.le_of_ble_eq_true rfl) (gm_rcv_v rfl e10 rfl) ?_
    refine ge_imp w (fun v10 h_10 w => ?_)
    obtain ⟨rfl, w⟩ := w
    show gV c d 201 (44, [some (.ref r0), some (.int x1), some (.int x_2), some (.int x_9)], [], h_10) Post
    refine gw_pst hk 2 (st' := (46, [some (.ref r0), some (.int x1), some (.int x_2), some (.int x_9)], [.int 0, .ref r0], h_10)) rfl ?_
    obtain ⟨fs11, e11, l11, w⟩ := w
    refine gw_pf (hk _ _ rfl) e11 l11 rfl ?_
    obtain ⟨h_11, eh11⟩ : ∃ z, z = gm_put h_10 r0 (.inr (10, fs11.set 12 (.int 0))) := ⟨_, rfl⟩
    rw [← eh11]
    replace w := w h_11 eh11
    refine gw_pst hk 3 (st' := (52, [some (.ref r0), some (.int x1), some (.int x_2), some (.int x_9)], [.long ((x_9 : Int32).toInt64), .ref r0], h_11)) rfl ?_
    obtain ⟨⟨fs12, e12⟩, w⟩ := w
    refine gw_call (jj := 157) (As := [.ref r0, .long ((x_9 : Int32).toInt64)]) (rest := []) (hk _ _ rfl) (fun _ => rfl) rfl rfl (Nat.le_of_ble_eq_true rfl) (gm_rcv_v rfl e12 rfl) ?_
    refine ge_imp w (fun v12 h_12 w => ?_)
    obtain ⟨rfl, w⟩ := w
    show gV c d 201 (55, [some (.ref r0), some (.int x1), some (.int x_2), some (.int x_9)], [], h_12) Post
    refine gw_pst hk 2 (st' := (57, [some (.ref r0), some (.int x1), some (.int x_2), some (.int x_9)], [.ref r0, .ref r0], h_12)) rfl ?_
    obtain ⟨q_13, e13, w⟩ := w
    refine gw_gf (hk _ _ rfl) e13 ?_
    refine gw_pst hk 1 (st' := (61, [some (.ref r0), some (.int x1), some (.int x_2), some (.int x_9)], [.int 5, .ref q_13, .ref r0], h_12)) rfl ?_
    obtain ⟨n14, f14, e14, b14, w⟩ := w
    refine gw_ald (hk _ _ rfl) (Or.inl ⟨rfl, rfl⟩) e14 b14 ?_
    refine gw_pst hk 1 (st' := (63, [some (.ref r0), some (.int x1), some (.int x_2), some (.int x_9)], [.long ((f14 (5 : Int32).toNatClampNeg : Int32).toInt64), .ref r0], h_12)) rfl ?_
    obtain ⟨⟨fs15, e15⟩, w⟩ := w
    refine gw_call (jj := 157) (As := [.ref r0, .long ((f14 (5 : Int32).toNatClampNeg : Int32).toInt64)]) (rest := []) (hk _ _ rfl) (fun _ => rfl) rfl rfl (Nat.le_of_ble_eq_true rfl) (gm_rcv_v rfl e15 rfl) ?_
    refine ge_imp w (fun v15 h_15 w => ?_)
    obtain ⟨rfl, w⟩ := w
    show gV c d 201 (66, [some (.ref r0), some (.int x1), some (.int x_2), some (.int x_9)], [], h_15) Post
    refine gw_pst hk 1 (st' := (67, [some (.ref r0), some (.int x1), some (.int x_2), some (.int x_9)], [.ref r0], h_15)) rfl ?_
    obtain ⟨q_16, e16, w⟩ := w
    refine gw_gf (hk _ _ rfl) e16 ?_
    refine gw_pst hk 1 (st' := (71, [some (.ref r0), some (.int x1), some (.int x_2), some (.int x_9)], [.int 1, .ref q_16], h_15)) rfl ?_
    obtain ⟨n17, f17, e17, b17, w⟩ := w
    refine gw_ald (hk _ _ rfl) (Or.inl ⟨rfl, rfl⟩) e17 b17 ?_
    exact gw_ret (hk _ _ rfl) rfl w
  · replace w := w.2 z3
    refine gw_pst hk 1 (st' := (16, [some (.ref r0), some (.int x1), some (.int x_2), none], [.int x_2], h_2)) rfl ?_
    exact gw_ret (hk _ _ rfl) rfl w
/-- CommandByTurnsModel.halt()I -/
def wm202 (c : gx) (d : Nat) (Post : Option Value → gm_H → Prop) (r0 : Nat) (h : gm_H) : Prop :=
  ∃ fs1 : List Value, gm_get h r0 = some (.inr (10, fs1)) ∧ 13 < fs1.length ∧ ∀ h_1 : gm_H, h_1 = gm_put h r0 (.inr (10, fs1.set 13 (.int 0))) → ∃ q_2 : Nat, gm_fld h_1 r0 10 0 = some (.ref q_2) ∧ (∃ fs3, gm_get h_1 r0 = some (.inr (10, fs3))) ∧ gE c d 195 [.ref r0, .ref q_2] h_1 (fun v3 h_3 => v3 = none ∧ ∃ q_4 : Nat, gm_fld h_3 r0 10 0 = some (.ref q_4) ∧ ∃ q_5 : Nat, gm_fld h_3 r0 10 0 = some (.ref q_5) ∧ ∃ (n6 : Nat) (f6 : Nat → Int32), gm_get h_3 q_5 = some (.inl (0, n6, .inl f6)) ∧ vp_in 0 n6 ∧ gE c d 184 [.ref q_4, .int (f6 (0 : Int32).toNatClampNeg)] h_3 (fun v7 h_7 => ∃ x_7 : Int32, v7 = some (.int x_7) ∧ ∃ q_8 : Nat, gm_fld h_7 r0 10 0 = some (.ref q_8) ∧ gE c d 197 [.ref q_8] h_7 (fun v9 h_9 => v9 = none ∧ ∃ fs10 : List Value, gm_get h_9 r0 = some (.inr (10, fs10)) ∧ 12 < fs10.length ∧ ∀ h_10 : gm_H, h_10 = gm_put h_9 r0 (.inr (10, fs10.set 12 (.int 0))) → (∃ fs11, gm_get h_10 r0 = some (.inr (10, fs11))) ∧ gE c d 157 [.ref r0, .long ((x_7 : Int32).toInt64)] h_10 (fun v11 h_11 => v11 = none ∧ ∃ q_12 : Nat, gm_fld h_11 r0 10 0 = some (.ref q_12) ∧ ∃ (n13 : Nat) (f13 : Nat → Int32), gm_get h_11 q_12 = some (.inl (0, n13, .inl f13)) ∧ vp_in 5 n13 ∧ Post (some (.int (f13 (5 : Int32).toNatClampNeg))) h_11))))
theorem okm202 (c : gx) (d : Nat) (Post : Option Value → gm_H → Prop) (r0 : Nat) (h : gm_H) (w : wm202 c d Post r0 h) : gE c (d + 1) 202 [.ref r0] h Post := by
  have hk : ∀ pc i, gm_find gk_202 pc = some i → gm_code (gt_T c.1 c.2.1 c.2.2.1) 202 pc = some i := fun _ _ z => z
  unfold wm202 at w
  refine ge_of (by decide) (Nat.le_of_ble_eq_true rfl) ?_
  show gV c d 202 (0, [some (.ref r0), none], [], h) Post
  unfold gV
  refine gw_pst hk 2 (st' := (2, [some (.ref r0), none], [.int 0, .ref r0], h)) rfl ?_
  obtain ⟨fs1, e1, l1, w⟩ := w
  refine gw_pf (hk _ _ rfl) e1 l1 rfl ?_
  obtain ⟨h_1, eh1⟩ : ∃ z, z = gm_put h r0 (.inr (10, fs1.set 13 (.int 0))) := ⟨_, rfl⟩
  rw [← eh1]
  replace w := w h_1 eh1
  refine gw_pst hk 2 (st' := (7, [some (.ref r0), none], [.ref r0, .ref r0], h_1)) rfl ?_
  obtain ⟨q_2, e2, w⟩ := w
  refine gw_gf (hk _ _ rfl) e2 ?_
  obtain ⟨⟨fs3, e3⟩, w⟩ := w
  refine gw_call (jj := 195) (As := [.ref r0, .ref q_2]) (rest := []) (hk _ _ rfl) (fun _ => rfl) rfl rfl (Nat.le_of_ble_eq_true rfl) (gm_rcv_v rfl e3 rfl) ?_
  refine ge_imp w (fun v3 h_3 w => ?_)
  obtain ⟨rfl, w⟩ := w
  show gV c d 202 (13, [some (.ref r0), none], [], h_3) Post
  refine gw_pst hk 1 (st' := (14, [some (.ref r0), none], [.ref r0], h_3)) rfl ?_
  obtain ⟨q_4, e4, w⟩ := w
  refine gw_gf (hk _ _ rfl) e4 ?_
  refine gw_pst hk 1 (st' := (18, [some (.ref r0), none], [.ref r0, .ref q_4], h_3)) rfl ?_
  obtain ⟨q_5, e5, w⟩ := w
  refine gw_gf (hk _ _ rfl) e5 ?_
  refine gw_pst hk 1 (st' := (22, [some (.ref r0), none], [.int 0, .ref q_5, .ref q_4], h_3)) rfl ?_
  obtain ⟨n6, f6, e6, b6, w⟩ := w
  refine gw_ald (hk _ _ rfl) (Or.inl ⟨rfl, rfl⟩) e6 b6 ?_
  refine gw_call (jj := 184) (As := [.ref q_4, .int (f6 (0 : Int32).toNatClampNeg)]) (rest := []) (hk _ _ rfl) (fun _ => rfl) rfl rfl (Nat.le_of_ble_eq_true rfl) rfl ?_
  refine ge_imp w (fun v7 h_7 w => ?_)
  obtain ⟨x_7, rfl, w⟩ := w
  show gV c d 202 (26, [some (.ref r0), none], [.int x_7], h_7) Post
  refine gw_pst hk 2 (st' := (28, [some (.ref r0), some (.int x_7)], [.ref r0], h_7)) rfl ?_
  obtain ⟨q_8, e8, w⟩ := w
  refine gw_gf (hk _ _ rfl) e8 ?_
  refine gw_call (jj := 197) (As := [.ref q_8]) (rest := []) (hk _ _ rfl) (fun _ => rfl) rfl rfl (Nat.le_of_ble_eq_true rfl) rfl ?_
  refine ge_imp w (fun v9 h_9 w => ?_)
  obtain ⟨rfl, w⟩ := w
  show gV c d 202 (34, [some (.ref r0), some (.int x_7)], [], h_9) Post
  refine gw_pst hk 2 (st' := (36, [some (.ref r0), some (.int x_7)], [.int 0, .ref r0], h_9)) rfl ?_
  obtain ⟨fs10, e10, l10, w⟩ := w
  refine gw_pf (hk _ _ rfl) e10 l10 rfl ?_
  obtain ⟨h_10, eh10⟩ : ∃ z, z = gm_put h_9 r0 (.inr (10, fs10.set 12 (.int 0))) := ⟨_, rfl⟩
  rw [← eh10]
  replace w := w h_10 eh10
  refine gw_pst hk 3 (st' := (42, [some (.ref r0), some (.int x_7)], [.long ((x_7 : Int32).toInt64), .ref r0], h_10)) rfl ?_
  obtain ⟨⟨fs11, e11⟩, w⟩ := w
  refine gw_call (jj := 157) (As := [.ref r0, .long ((x_7 : Int32).toInt64)]) (rest := []) (hk _ _ rfl) (fun _ => rfl) rfl rfl (Nat.le_of_ble_eq_true rfl) (gm_rcv_v rfl e11 rfl) ?_
  refine ge_imp w (fun v11 h_11 w => ?_)
  obtain ⟨rfl, w⟩ := w
  show gV c d 202 (45, [some (.ref r0), some (.int x_7)], [], h_11) Post
  refine gw_pst hk 1 (st' := (46, [some (.ref r0), some (.int x_7)], [.ref r0], h_11)) rfl ?_
  obtain ⟨q_12, e12, w⟩ := w
  refine gw_gf (hk _ _ rfl) e12 ?_
  refine gw_pst hk 1 (st' := (50, [some (.ref r0), some (.int x_7)], [.int 5, .ref q_12], h_11)) rfl ?_
  obtain ⟨n13, f13, e13, b13, w⟩ := w
  refine gw_ald (hk _ _ rfl) (Or.inl ⟨rfl, rfl⟩) e13 b13 ?_
  exact gw_ret (hk _ _ rfl) rfl w
def w203_47 (c : gx) (d : Nat) (Post : Option Value → gm_H → Prop) (xs0 : Int32) (h : gm_H) : Prop :=
  Post (some (.int xs0)) h
theorem ok203_47 (c : gx) (d : Nat) (Post : Option Value → gm_H → Prop)  (xs0 : Int32) (h : gm_H) (w : w203_47 c d Post xs0 h) : gV c d 203 (47, [none, none], [.int xs0], h) Post := by
  have hk : ∀ pc i, gm_find gk_203 pc = some i → gm_code (gt_T c.1 c.2.1 c.2.2.1) 203 pc = some i := fun _ _ z => z
  unfold w203_47 at w
  unfold gV
  exact gw_ret (hk _ _ rfl) rfl w
def w203_41 (c : gx) (d : Nat) (Post : Option Value → gm_H → Prop)  (h : gm_H) : Prop :=
  w203_47 c d Post (-4) h
theorem ok203_41 (c : gx) (d : Nat) (Post : Option Value → gm_H → Prop)   (h : gm_H) (w : w203_41 c d Post  h) : gV c d 203 (41, [none, none], [], h) Post := by
  have hk : ∀ pc i, gm_find gk_203 pc = some i → gm_code (gt_T c.1 c.2.1 c.2.2.1) 203 pc = some i := fun _ _ z => z
  unfold w203_41 at w
  unfold gV
  refine gw_pst hk 2 (st' := (47, [none, none], [.int (-4)], h)) rfl ?_
  exact ok203_47 c d Post _ _ w
/-- CommandByTurnsModel.refusesFight([I)I -/
def wm203 (c : gx) (d : Nat) (Post : Option Value → gm_H → Prop) (r0 : Nat) (r1 : Nat) (h : gm_H) : Prop :=
  ∃ (n1 : Nat) (f1 : Nat → Int32), gm_get h r1 = some (.inl (0, n1, .inl f1)) ∧ vp_in 0 n1 ∧ gE c d 184 [.ref r1, .int (f1 (0 : Int32).toNatClampNeg)] h (fun v2 h_2 => ∃ x_2 : Int32, v2 = some (.int x_2) ∧ ((x_2 = (-1) → Post (some (.int (-2))) h_2) ∧ (¬ (x_2 = (-1)) → ∃ (n4 : Nat) (f4 : Nat → Int32), gm_get h_2 r1 = some (.inl (0, n4, .inl f4)) ∧ vp_in 1 n4 ∧ ∃ (n5 : Nat) (f5 : Nat → Int32), gm_get h_2 r1 = some (.inl (0, n5, .inl f5)) ∧ vp_in 2 n5 ∧ gE c d 185 [.int (f4 (1 : Int32).toNatClampNeg), .int (f5 (2 : Int32).toNatClampNeg)] h_2 (fun v6 h_6 => ∃ x_6 : Int32, v6 = some (.int x_6) ∧ ((x_6 = 0 → Post (some (.int (-3))) h_6) ∧ (¬ (x_6 = 0) → ∃ (n8 : Nat) (f8 : Nat → Int32), gm_get h_6 r1 = some (.inl (0, n8, .inl f8)) ∧ vp_in 3 n8 ∧ (((f8 (3 : Int32).toNatClampNeg) = 0 → w203_41 c d Post h_6) ∧ (¬ ((f8 (3 : Int32).toNatClampNeg) = 0) → ∃ (n10 : Nat) (f10 : Nat → Int32), gm_get h_6 r1 = some (.inl (0, n10, .inl f10)) ∧ vp_in 4 n10 ∧ (((f10 (4 : Int32).toNatClampNeg) = 0 → w203_41 c d Post h_6) ∧ (¬ ((f10 (4 : Int32).toNatClampNeg) = 0) → w203_47 c d Post 0 h_6))))))))))
theorem okm203 (c : gx) (d : Nat) (Post : Option Value → gm_H → Prop) (r0 : Nat) (r1 : Nat) (h : gm_H) (w : wm203 c d Post r0 r1 h) : gE c (d + 1) 203 [.ref r0, .ref r1] h Post := by
  have hk : ∀ pc i, gm_find gk_203 pc = some i → gm_code (gt_T c.1 c.2.1 c.2.2.1) 203 pc = some i := fun _ _ z => z
  unfold wm203 at w
  refine ge_of (by decide) (Nat.le_of_ble_eq_true rfl) ?_
  show gV c d 203 (0, [some (.ref r0), some (.ref r1)], [], h) Post
  unfold gV
  refine gw_pst hk 3 (st' := (3, [some (.ref r0), some (.ref r1)], [.int 0, .ref r1, .ref r1], h)) rfl ?_
  obtain ⟨n1, f1, e1, b1, w⟩ := w
  refine gw_ald (hk _ _ rfl) (Or.inl ⟨rfl, rfl⟩) e1 b1 ?_
  refine gw_call (jj := 184) (As := [.ref r1, .int (f1 (0 : Int32).toNatClampNeg)]) (rest := []) (hk _ _ rfl) (fun _ => rfl) rfl rfl (Nat.le_of_ble_eq_true rfl) rfl ?_
  refine ge_imp w (fun v2 h_2 w => ?_)
  obtain ⟨x_2, rfl, w⟩ := w
  show gV c d 203 (7, [some (.ref r0), some (.ref r1)], [.int x_2], h_2) Post
  refine gw_pst hk 1 (st' := (8, [some (.ref r0), some (.ref r1)], [.int (-1), .int x_2], h_2)) rfl ?_
  refine gw_br (c := x_2 = (-1)) (a := (11, [some (.ref r0), some (.ref r1)], [], h_2)) (b := (14, [some (.ref r0), some (.ref r1)], [], h_2)) (hk _ _ rfl) rfl ⟨fun z3 => ?_, fun z3 => ?_⟩
  · replace w := w.1 z3
    refine gw_pst hk 1 (st' := (13, [some (.ref r0), some (.ref r1)], [.int (-2)], h_2)) rfl ?_
    exact gw_ret (hk _ _ rfl) rfl w
  · replace w := w.2 z3
    refine gw_pst hk 2 (st' := (16, [some (.ref r0), some (.ref r1)], [.int 1, .ref r1], h_2)) rfl ?_
    obtain ⟨n4, f4, e4, b4, w⟩ := w
    refine gw_ald (hk _ _ rfl) (Or.inl ⟨rfl, rfl⟩) e4 b4 ?_
    refine gw_pst hk 2 (st' := (19, [some (.ref r0), some (.ref r1)], [.int 2, .ref r1, .int (f4 (1 : Int32).toNatClampNeg)], h_2)) rfl ?_
    obtain ⟨n5, f5, e5, b5, w⟩ := w
    refine gw_ald (hk _ _ rfl) (Or.inl ⟨rfl, rfl⟩) e5 b5 ?_
    refine gw_call (jj := 185) (As := [.int (f4 (1 : Int32).toNatClampNeg), .int (f5 (2 : Int32).toNatClampNeg)]) (rest := []) (hk _ _ rfl) (fun _ => rfl) rfl rfl (Nat.le_of_ble_eq_true rfl) rfl ?_
    refine ge_imp w (fun v6 h_6 w => ?_)
    obtain ⟨x_6, rfl, w⟩ := w
    show gV c d 203 (23, [some (.ref r0), some (.ref r1)], [.int x_6], h_6) Post
    refine gw_br (c := x_6 = 0) (a := (26, [some (.ref r0), some (.ref r1)], [], h_6)) (b := (29, [some (.ref r0), some (.ref r1)], [], h_6)) (hk _ _ rfl) rfl ⟨fun z7 => ?_, fun z7 => ?_⟩
    · replace w := w.1 z7
      refine gw_pst hk 1 (st' := (28, [some (.ref r0), some (.ref r1)], [.int (-3)], h_6)) rfl ?_
      exact gw_ret (hk _ _ rfl) rfl w
    · replace w := w.2 z7
      refine gw_pst hk 2 (st' := (31, [some (.ref r0), some (.ref r1)], [.int 3, .ref r1], h_6)) rfl ?_
      obtain ⟨n8, f8, e8, b8, w⟩ := w
      refine gw_ald (hk _ _ rfl) (Or.inl ⟨rfl, rfl⟩) e8 b8 ?_
      refine gw_br (c := (f8 (3 : Int32).toNatClampNeg) = 0) (a := (41, [some (.ref r0), some (.ref r1)], [], h_6)) (b := (35, [some (.ref r0), some (.ref r1)], [], h_6)) (hk _ _ rfl) rfl ⟨fun z9 => ?_, fun z9 => ?_⟩
      · replace w := w.1 z9
        refine gw_le (L' := [none, none]) (gm_le_n _ (gm_le_n _ gm_le_nil)) ?_
        exact ok203_41 c d Post _ w
      · replace w := w.2 z9
        refine gw_pst hk 2 (st' := (37, [some (.ref r0), some (.ref r1)], [.int 4, .ref r1], h_6)) rfl ?_
        obtain ⟨n10, f10, e10, b10, w⟩ := w
        refine gw_ald (hk _ _ rfl) (Or.inl ⟨rfl, rfl⟩) e10 b10 ?_
        refine gw_br (c := (f10 (4 : Int32).toNatClampNeg) = 0) (a := (41, [some (.ref r0), some (.ref r1)], [], h_6)) (b := (46, [some (.ref r0), some (.ref r1)], [], h_6)) (hk _ _ rfl) rfl ⟨fun z11 => ?_, fun z11 => ?_⟩
        · replace w := w.1 z11
          refine gw_le (L' := [none, none]) (gm_le_n _ (gm_le_n _ gm_le_nil)) ?_
          exact ok203_41 c d Post _ w
        · replace w := w.2 z11
          refine gw_pst hk 1 (st' := (47, [some (.ref r0), some (.ref r1)], [.int 0], h_6)) rfl ?_
          refine gw_le (L' := [none, none]) (gm_le_n _ (gm_le_n _ gm_le_nil)) ?_
          exact ok203_47 c d Post _ _ w
def w204_44 (c : gx) (d : Nat) (Post : Option Value → gm_H → Prop) (r1 : Nat) (x2 : Int32) (x3 : Int32) (xs0 : Int32) (h : gm_H) : Prop :=
  ∃ (n1 : Nat) (f1 : Nat → Int32), gm_get h r1 = some (.inl (0, n1, .inl f1)) ∧ vp_in 3 n1 ∧ ∃ (n2 : Nat) (f2 : Nat → Int32), gm_get h r1 = some (.inl (0, n2, .inl f2)) ∧ vp_in 3 n2 ∧ ∀ h_2 : gm_H, h_2 = gm_put h r1 (.inl (0, n2, .inl (upd f2 (3 : Int32).toNatClampNeg (vp_nar .int (if 0 < ((f1 (3 : Int32).toNatClampNeg) - x3) then ((f1 (3 : Int32).toNatClampNeg) - x3) else 0))))) → ∃ (n3 : Nat) (f3 : Nat → Int32), gm_get h_2 r1 = some (.inl (0, n3, .inl f3)) ∧ vp_in 4 n3 ∧ ∃ (n4 : Nat) (f4 : Nat → Int32), gm_get h_2 r1 = some (.inl (0, n4, .inl f4)) ∧ vp_in 4 n4 ∧ ∀ h_4 : gm_H, h_4 = gm_put h_2 r1 (.inl (0, n4, .inl (upd f4 (4 : Int32).toNatClampNeg (vp_nar .int (if 0 < ((f3 (4 : Int32).toNatClampNeg) - xs0) then ((f3 (4 : Int32).toNatClampNeg) - xs0) else 0))))) → Post (some (.int x2)) h_4
theorem ok204_44 (c : gx) (d : Nat) (Post : Option Value → gm_H → Prop)  (r1 : Nat) (x2 : Int32) (x3 : Int32) (xs0 : Int32) (h : gm_H) (w : w204_44 c d Post r1 x2 x3 xs0 h) : gV c d 204 (44, [none, some (.ref r1), some (.int x2), some (.int x3), none], [.int xs0], h) Post := by
  have hk : ∀ pc i, gm_find gk_204 pc = some i → gm_code (gt_T c.1 c.2.1 c.2.2.1) 204 pc = some i := fun _ _ z => z
  unfold w204_44 at w
  unfold gV
  refine gw_pst hk 6 (st' := (51, [none, some (.ref r1), some (.int x2), some (.int x3), some (.int xs0)], [.int 3, .ref r1, .int 0, .int 3, .ref r1], h)) rfl ?_
  obtain ⟨n1, f1, e1, b1, w⟩ := w
  refine gw_ald (hk _ _ rfl) (Or.inl ⟨rfl, rfl⟩) e1 b1 ?_
  refine gw_pst hk 3 (st' := (57, [none, some (.ref r1), some (.int x2), some (.int x3), some (.int xs0)], [.int (if 0 < ((f1 (3 : Int32).toNatClampNeg) - x3) then ((f1 (3 : Int32).toNatClampNeg) - x3) else 0), .int 3, .ref r1], h)) rfl ?_
  obtain ⟨n2, f2, e2, b2, w⟩ := w
  refine gw_ast (hk _ _ rfl) (Or.inl ⟨rfl, rfl, rfl⟩) e2 b2 ?_
  obtain ⟨h_2, eh2⟩ : ∃ z, z = gm_put h r1 (.inl (0, n2, .inl (upd f2 (3 : Int32).toNatClampNeg (vp_nar .int (if 0 < ((f1 (3 : Int32).toNatClampNeg) - x3) then ((f1 (3 : Int32).toNatClampNeg) - x3) else 0))))) := ⟨_, rfl⟩
  rw [← eh2]
  replace w := w h_2 eh2
  refine gw_pst hk 5 (st' := (63, [none, some (.ref r1), some (.int x2), some (.int x3), some (.int xs0)], [.int 4, .ref r1, .int 0, .int 4, .ref r1], h_2)) rfl ?_
  obtain ⟨n3, f3, e3, b3, w⟩ := w
  refine gw_ald (hk _ _ rfl) (Or.inl ⟨rfl, rfl⟩) e3 b3 ?_
  refine gw_pst hk 3 (st' := (70, [none, some (.ref r1), some (.int x2), some (.int x3), some (.int xs0)], [.int (if 0 < ((f3 (4 : Int32).toNatClampNeg) - xs0) then ((f3 (4 : Int32).toNatClampNeg) - xs0) else 0), .int 4, .ref r1], h_2)) rfl ?_
  obtain ⟨n4, f4, e4, b4, w⟩ := w
  refine gw_ast (hk _ _ rfl) (Or.inl ⟨rfl, rfl, rfl⟩) e4 b4 ?_
  obtain ⟨h_4, eh4⟩ : ∃ z, z = gm_put h_2 r1 (.inl (0, n4, .inl (upd f4 (4 : Int32).toNatClampNeg (vp_nar .int (if 0 < ((f3 (4 : Int32).toNatClampNeg) - xs0) then ((f3 (4 : Int32).toNatClampNeg) - xs0) else 0))))) := ⟨_, rfl⟩
  rw [← eh4]
  replace w := w h_4 eh4
  refine gw_pst hk 1 (st' := (72, [none, some (.ref r1), some (.int x2), some (.int x3), some (.int xs0)], [.int x2], h_4)) rfl ?_
  exact gw_ret (hk _ _ rfl) rfl w
def w204_31 (c : gx) (d : Nat) (Post : Option Value → gm_H → Prop) (r1 : Nat) (x2 : Int32) (xs0 : Int32) (h : gm_H) : Prop :=
  ((x2 ≤ 0 → w204_44 c d Post r1 x2 xs0 ((-x2) / 3) h) ∧ (¬ (x2 ≤ 0) → w204_44 c d Post r1 x2 xs0 x2 h))
theorem ok204_31 (c : gx) (d : Nat) (Post : Option Value → gm_H → Prop)  (r1 : Nat) (x2 : Int32) (xs0 : Int32) (h : gm_H) (w : w204_31 c d Post r1 x2 xs0 h) : gV c d 204 (31, [none, some (.ref r1), some (.int x2), none, none], [.int xs0], h) Post := by
  have hk : ∀ pc i, gm_find gk_204 pc = some i → gm_code (gt_T c.1 c.2.1 c.2.2.1) 204 pc = some i := fun _ _ z => z
  unfold w204_31 at w
  unfold gV
  refine gw_pst hk 2 (st' := (33, [none, some (.ref r1), some (.int x2), some (.int xs0), none], [.int x2], h)) rfl ?_
  refine gw_br (c := x2 ≤ 0) (a := (40, [none, some (.ref r1), some (.int x2), some (.int xs0), none], [], h)) (b := (36, [none, some (.ref r1), some (.int x2), some (.int xs0), none], [], h)) (hk _ _ rfl) rfl ⟨fun z1 => ?_, fun z1 => ?_⟩
  · replace w := w.1 z1
    refine gw_pst hk 3 (st' := (43, [none, some (.ref r1), some (.int x2), some (.int xs0), none], [.int 3, .int (-x2)], h)) rfl ?_
    refine gw_idiv (hk _ _ rfl) (by decide) ?_ rfl
    exact ok204_44 c d Post _ _ _ _ _ w
  · replace w := w.2 z1
    refine gw_pst hk 2 (st' := (44, [none, some (.ref r1), some (.int x2), some (.int xs0), none], [.int x2], h)) rfl ?_
    exact ok204_44 c d Post _ _ _ _ _ w
/-- CommandByTurnsModel.goBattle([I)I -/
def wm204 (c : gx) (d : Nat) (Post : Option Value → gm_H → Prop) (r0 : Nat) (r1 : Nat) (h : gm_H) : Prop :=
  ∃ (n1 : Nat) (f1 : Nat → Int32), gm_get h r1 = some (.inl (0, n1, .inl f1)) ∧ vp_in 0 n1 ∧ gE c d 184 [.ref r1, .int (f1 (0 : Int32).toNatClampNeg)] h (fun v2 h_2 => ∃ x_2 : Int32, v2 = some (.int x_2) ∧ ∃ (n3 : Nat) (f3 : Nat → Int32), gm_get h_2 r1 = some (.inl (0, n3, .inl f3)) ∧ vp_in 1 n3 ∧ ∃ (n4 : Nat) (f4 : Nat → Int32), gm_get h_2 r1 = some (.inl (0, n4, .inl f4)) ∧ vp_in 0 n4 ∧ (∃ fs5, gm_get h_2 r0 = some (.inr (10, fs5))) ∧ gE c d 182 [.ref r0, .ref r1, .int x_2, .int (f3 (1 : Int32).toNatClampNeg), .int (f4 (0 : Int32).toNatClampNeg)] h_2 (fun v5 h_5 => ∃ x_5 : Int32, v5 = some (.int x_5) ∧ ((x_5 ≤ 0 → w204_31 c d Post r1 x_5 (-x_5) h_5) ∧ (¬ (x_5 ≤ 0) → w204_31 c d Post r1 x_5 (x_5 / 3) h_5))))
theorem okm204 (c : gx) (d : Nat) (Post : Option Value → gm_H → Prop) (r0 : Nat) (r1 : Nat) (h : gm_H) (w : wm204 c d Post r0 r1 h) : gE c (d + 1) 204 [.ref r0, .ref r1] h Post := by
  have hk : ∀ pc i, gm_find gk_204 pc = some i → gm_code (gt_T c.1 c.2.1 c.2.2.1) 204 pc = some i := fun _ _ z => z
  unfold wm204 at w
  refine ge_of (by decide) (Nat.le_of_ble_eq_true rfl) ?_
  show gV c d 204 (0, [some (.ref r0), some (.ref r1), none, none, none], [], h) Post
  unfold gV
  refine gw_pst hk 5 (st' := (5, [some (.ref r0), some (.ref r1), none, none, none], [.int 0, .ref r1, .ref r1, .ref r1, .ref r0], h)) rfl ?_
  obtain ⟨n1, f1, e1, b1, w⟩ := w
  refine gw_ald (hk _ _ rfl) (Or.inl ⟨rfl, rfl⟩) e1 b1 ?_
  refine gw_call (jj := 184) (As := [.ref r1, .int (f1 (0 : Int32).toNatClampNeg)]) (rest := [.ref r1, .ref r0]) (hk _ _ rfl) (fun _ => rfl) rfl rfl (Nat.le_of_ble_eq_true rfl) rfl ?_
  refine ge_imp w (fun v2 h_2 w => ?_)
  obtain ⟨x_2, rfl, w⟩ := w
  show gV c d 204 (9, [some (.ref r0), some (.ref r1), none, none, none], [.int x_2, .ref r1, .ref r0], h_2) Post
  refine gw_pst hk 2 (st' := (11, [some (.ref r0), some (.ref r1), none, none, none], [.int 1, .ref r1, .int x_2, .ref r1, .ref r0], h_2)) rfl ?_
  obtain ⟨n3, f3, e3, b3, w⟩ := w
  refine gw_ald (hk _ _ rfl) (Or.inl ⟨rfl, rfl⟩) e3 b3 ?_
  refine gw_pst hk 2 (st' := (14, [some (.ref r0), some (.ref r1), none, none, none], [.int 0, .ref r1, .int (f3 (1 : Int32).toNatClampNeg), .int x_2, .ref r1, .ref r0], h_2)) rfl ?_
  obtain ⟨n4, f4, e4, b4, w⟩ := w
  refine gw_ald (hk _ _ rfl) (Or.inl ⟨rfl, rfl⟩) e4 b4 ?_
  obtain ⟨⟨fs5, e5⟩, w⟩ := w
  refine gw_call (jj := 182) (As := [.ref r0, .ref r1, .int x_2, .int (f3 (1 : Int32).toNatClampNeg), .int (f4 (0 : Int32).toNatClampNeg)]) (rest := []) (hk _ _ rfl) (fun _ => rfl) rfl rfl (Nat.le_of_ble_eq_true rfl) (gm_rcv_v rfl e5 rfl) ?_
  refine ge_imp w (fun v5 h_5 w => ?_)
  obtain ⟨x_5, rfl, w⟩ := w
  show gV c d 204 (18, [some (.ref r0), some (.ref r1), none, none, none], [.int x_5], h_5) Post
  refine gw_pst hk 2 (st' := (20, [some (.ref r0), some (.ref r1), some (.int x_5), none, none], [.int x_5], h_5)) rfl ?_
  refine gw_br (c := x_5 ≤ 0) (a := (29, [some (.ref r0), some (.ref r1), some (.int x_5), none, none], [], h_5)) (b := (23, [some (.ref r0), some (.ref r1), some (.int x_5), none, none], [], h_5)) (hk _ _ rfl) rfl ⟨fun z6 => ?_, fun z6 => ?_⟩
  · replace w := w.1 z6
    refine gw_pst hk 2 (st' := (31, [some (.ref r0), some (.ref r1), some (.int x_5), none, none], [.int (-x_5)], h_5)) rfl ?_
    refine gw_le (L' := [none, some (.ref r1), some (.int x_5), none, none]) (gm_le_n _ (gm_le_k _ (gm_le_k _ (gm_le_k _ (gm_le_k _ gm_le_nil))))) ?_
    exact ok204_31 c d Post _ _ _ _ w
  · replace w := w.2 z6
    refine gw_pst hk 2 (st' := (25, [some (.ref r0), some (.ref r1), some (.int x_5), none, none], [.int 3, .int x_5], h_5)) rfl ?_
    refine gw_idiv (hk _ _ rfl) (by decide) ?_ rfl
    refine gw_pst hk 1 (st' := (31, [some (.ref r0), some (.ref r1), some (.int x_5), none, none], [.int (x_5 / 3)], h_5)) rfl ?_
    refine gw_le (L' := [none, some (.ref r1), some (.int x_5), none, none]) (gm_le_n _ (gm_le_k _ (gm_le_k _ (gm_le_k _ (gm_le_k _ gm_le_nil))))) ?_
    exact ok204_31 c d Post _ _ _ _ w
/-- CommandByTurnsModel.fight()I -/
def wm205 (c : gx) (d : Nat) (Post : Option Value → gm_H → Prop) (r0 : Nat) (h : gm_H) : Prop :=
  ∃ fs1 : List Value, gm_get h r0 = some (.inr (10, fs1)) ∧ 13 < fs1.length ∧ ∀ h_1 : gm_H, h_1 = gm_put h r0 (.inr (10, fs1.set 13 (.int 0))) → ∃ q_2 : Nat, gm_fld h_1 r0 10 0 = some (.ref q_2) ∧ (∃ fs3, gm_get h_1 r0 = some (.inr (10, fs3))) ∧ gE c d 203 [.ref r0, .ref q_2] h_1 (fun v3 h_3 => ∃ x_3 : Int32, v3 = some (.int x_3) ∧ ((0 ≤ x_3 → ∃ q_5 : Nat, gm_fld h_3 r0 10 0 = some (.ref q_5) ∧ (∃ fs6, gm_get h_3 r0 = some (.inr (10, fs6))) ∧ gE c d 195 [.ref r0, .ref q_5] h_3 (fun v6 h_6 => v6 = none ∧ ∃ q_7 : Nat, gm_fld h_6 r0 10 0 = some (.ref q_7) ∧ (∃ fs8, gm_get h_6 r0 = some (.inr (10, fs8))) ∧ gE c d 204 [.ref r0, .ref q_7] h_6 (fun v8 h_8 => ∃ x_8 : Int32, v8 = some (.int x_8) ∧ ∃ fs9 : List Value, gm_get h_8 r0 = some (.inr (10, fs9)) ∧ 12 < fs9.length ∧ ∀ h_9 : gm_H, h_9 = gm_put h_8 r0 (.inr (10, fs9.set 12 (.int 0))) → ∃ q_10 : Nat, gm_fld h_9 r0 10 0 = some (.ref q_10) ∧ ∃ (n11 : Nat) (f11 : Nat → Int32), gm_get h_9 q_10 = some (.inl (0, n11, .inl f11)) ∧ vp_in 3 n11 ∧ (∃ fs12, gm_get h_9 r0 = some (.inr (10, fs12))) ∧ gE c d 157 [.ref r0, .long ((f11 (3 : Int32).toNatClampNeg : Int32).toInt64)] h_9 (fun v12 h_12 => v12 = none ∧ ∃ q_13 : Nat, gm_fld h_12 r0 10 0 = some (.ref q_13) ∧ ∃ (n14 : Nat) (f14 : Nat → Int32), gm_get h_12 q_13 = some (.inl (0, n14, .inl f14)) ∧ vp_in 4 n14 ∧ (∃ fs15, gm_get h_12 r0 = some (.inr (10, fs15))) ∧ gE c d 157 [.ref r0, .long ((f14 (4 : Int32).toNatClampNeg : Int32).toInt64)] h_12 (fun v15 h_15 => v15 = none ∧ ∃ q_16 : Nat, gm_fld h_15 r0 10 0 = some (.ref q_16) ∧ gE c d 197 [.ref q_16] h_15 (fun v17 h_17 => v17 = none ∧ Post (some (.int (501 + x_8))) h_17)))))) ∧ (¬ (0 ≤ x_3) → Post (some (.int x_3)) h_3)))
theorem okm205 (c : gx) (d : Nat) (Post : Option Value → gm_H → Prop) (r0 : Nat) (h : gm_H) (w : wm205 c d Post r0 h) : gE c (d + 1) 205 [.ref r0] h Post := by
  have hk : ∀ pc i, gm_find gk_205 pc = some i → gm_code (gt_T c.1 c.2.1 c.2.2.1) 205 pc = some i := fun _ _ z => z
  unfold wm205 at w
  refine ge_of (by decide) (Nat.le_of_ble_eq_true rfl) ?_
  show gV c d 205 (0, [some (.ref r0), none, none], [], h) Post
  unfold gV
  refine gw_pst hk 2 (st' := (2, [some (.ref r0), none, none], [.int 0, .ref r0], h)) rfl ?_
  obtain ⟨fs1, e1, l1, w⟩ := w
  refine gw_pf (hk _ _ rfl) e1 l1 rfl ?_
  obtain ⟨h_1, eh1⟩ : ∃ z, z = gm_put h r0 (.inr (10, fs1.set 13 (.int 0))) := ⟨_, rfl⟩
  rw [← eh1]
  replace w := w h_1 eh1
  refine gw_pst hk 2 (st' := (7, [some (.ref r0), none, none], [.ref r0, .ref r0], h_1)) rfl ?_
  obtain ⟨q_2, e2, w⟩ := w
  refine gw_gf (hk _ _ rfl) e2 ?_
  obtain ⟨⟨fs3, e3⟩, w⟩ := w
  refine gw_call (jj := 203) (As := [.ref r0, .ref q_2]) (rest := []) (hk _ _ rfl) (fun _ => rfl) rfl rfl (Nat.le_of_ble_eq_true rfl) (gm_rcv_v rfl e3 rfl) ?_
  refine ge_imp w (fun v3 h_3 w => ?_)
  obtain ⟨x_3, rfl, w⟩ := w
  show gV c d 205 (13, [some (.ref r0), none, none], [.int x_3], h_3) Post
  refine gw_pst hk 2 (st' := (15, [some (.ref r0), some (.int x_3), none], [.int x_3], h_3)) rfl ?_
  refine gw_br (c := 0 ≤ x_3) (a := (20, [some (.ref r0), some (.int x_3), none], [], h_3)) (b := (18, [some (.ref r0), some (.int x_3), none], [], h_3)) (hk _ _ rfl) rfl ⟨fun z4 => ?_, fun z4 => ?_⟩
  · replace w := w.1 z4
    refine gw_pst hk 2 (st' := (22, [some (.ref r0), some (.int x_3), none], [.ref r0, .ref r0], h_3)) rfl ?_
    obtain ⟨q_5, e5, w⟩ := w
    refine gw_gf (hk _ _ rfl) e5 ?_
    obtain ⟨⟨fs6, e6⟩, w⟩ := w
    refine gw_call (jj := 195) (As := [.ref r0, .ref q_5]) (rest := []) (hk _ _ rfl) (fun _ => rfl) rfl rfl (Nat.le_of_ble_eq_true rfl) (gm_rcv_v rfl e6 rfl) ?_
    refine ge_imp w (fun v6 h_6 w => ?_)
    obtain ⟨rfl, w⟩ := w
    show gV c d 205 (28, [some (.ref r0), some (.int x_3), none], [], h_6) Post
    refine gw_pst hk 2 (st' := (30, [some (.ref r0), some (.int x_3), none], [.ref r0, .ref r0], h_6)) rfl ?_
    obtain ⟨q_7, e7, w⟩ := w
    refine gw_gf (hk _ _ rfl) e7 ?_
    obtain ⟨⟨fs8, e8⟩, w⟩ := w
    refine gw_call (jj := 204) (As := [.ref r0, .ref q_7]) (rest := []) (hk _ _ rfl) (fun _ => rfl) rfl rfl (Nat.le_of_ble_eq_true rfl) (gm_rcv_v rfl e8 rfl) ?_
    refine ge_imp w (fun v8 h_8 w => ?_)
    obtain ⟨x_8, rfl, w⟩ := w
    show gV c d 205 (36, [some (.ref r0), some (.int x_3), none], [.int x_8], h_8) Post
    refine gw_pst hk 3 (st' := (39, [some (.ref r0), some (.int x_3), some (.int x_8)], [.int 0, .ref r0], h_8)) rfl ?_
    obtain ⟨fs9, e9, l9, w⟩ := w
    refine gw_pf (hk _ _ rfl) e9 l9 rfl ?_
    obtain ⟨h_9, eh9⟩ : ∃ z, z = gm_put h_8 r0 (.inr (10, fs9.set 12 (.int 0))) := ⟨_, rfl⟩
    rw [← eh9]
    replace w := w h_9 eh9
    refine gw_pst hk 2 (st' := (44, [some (.ref r0), some (.int x_3), some (.int x_8)], [.ref r0, .ref r0], h_9)) rfl ?_
    obtain ⟨q_10, e10, w⟩ := w
    refine gw_gf (hk _ _ rfl) e10 ?_
    refine gw_pst hk 1 (st' := (48, [some (.ref r0), some (.int x_3), some (.int x_8)], [.int 3, .ref q_10, .ref r0], h_9)) rfl ?_
    obtain ⟨n11, f11, e11, b11, w⟩ := w
    refine gw_ald (hk _ _ rfl) (Or.inl ⟨rfl, rfl⟩) e11 b11 ?_
    refine gw_pst hk 1 (st' := (50, [some (.ref r0), some (.int x_3), some (.int x_8)], [.long ((f11 (3 : Int32).toNatClampNeg : Int32).toInt64), .ref r0], h_9)) rfl ?_
    obtain ⟨⟨fs12, e12⟩, w⟩ := w
    refine gw_call (jj := 157) (As := [.ref r0, .long ((f11 (3 : Int32).toNatClampNeg : Int32).toInt64)]) (rest := []) (hk _ _ rfl) (fun _ => rfl) rfl rfl (Nat.le_of_ble_eq_true rfl) (gm_rcv_v rfl e12 rfl) ?_
    refine ge_imp w (fun v12 h_12 w => ?_)
    obtain ⟨rfl, w⟩ := w
    show gV c d 205 (53, [some (.ref r0), some (.int x_3), some (.int x_8)], [], h_12) Post
    refine gw_pst hk 2 (st' := (55, [some (.ref r0), some (.int x_3), some (.int x_8)], [.ref r0, .ref r0], h_12)) rfl ?_
    obtain ⟨q_13, e13, w⟩ := w
    refine gw_gf (hk _ _ rfl) e13 ?_
    refine gw_pst hk 1 (st' := (59, [some (.ref r0), some (.int x_3), some (.int x_8)], [.int 4, .ref q_13, .ref r0], h_12)) rfl ?_
    obtain ⟨n14, f14, e14, b14, w⟩ := w
    refine gw_ald (hk _ _ rfl) (Or.inl ⟨rfl, rfl⟩) e14 b14 ?_
    refine gw_pst hk 1 (st' := (61, [some (.ref r0), some (.int x_3), some (.int x_8)], [.long ((f14 (4 : Int32).toNatClampNeg : Int32).toInt64), .ref r0], h_12)) rfl ?_
    obtain ⟨⟨fs15, e15⟩, w⟩ := w
    refine gw_call (jj := 157) (As := [.ref r0, .long ((f14 (4 : Int32).toNatClampNeg : Int32).toInt64)]) (rest := []) (hk _ _ rfl) (fun _ => rfl) rfl rfl (Nat.le_of_ble_eq_true rfl) (gm_rcv_v rfl e15 rfl) ?_
    refine ge_imp w (fun v15 h_15 w => ?_)
    obtain ⟨rfl, w⟩ := w
    show gV c d 205 (64, [some (.ref r0), some (.int x_3), some (.int x_8)], [], h_15) Post
    refine gw_pst hk 1 (st' := (65, [some (.ref r0), some (.int x_3), some (.int x_8)], [.ref r0], h_15)) rfl ?_
    obtain ⟨q_16, e16, w⟩ := w
    refine gw_gf (hk _ _ rfl) e16 ?_
    refine gw_call (jj := 197) (As := [.ref q_16]) (rest := []) (hk _ _ rfl) (fun _ => rfl) rfl rfl (Nat.le_of_ble_eq_true rfl) rfl ?_
    refine ge_imp w (fun v17 h_17 w => ?_)
    obtain ⟨rfl, w⟩ := w
    show gV c d 205 (71, [some (.ref r0), some (.int x_3), some (.int x_8)], [], h_17) Post
    refine gw_pst hk 3 (st' := (76, [some (.ref r0), some (.int x_3), some (.int x_8)], [.int (501 + x_8)], h_17)) rfl ?_
    exact gw_ret (hk _ _ rfl) rfl w
  · replace w := w.2 z4
    refine gw_pst hk 1 (st' := (19, [some (.ref r0), some (.int x_3), none], [.int x_3], h_3)) rfl ?_
    exact gw_ret (hk _ _ rfl) rfl w
/-- CommandByTurnsModel.foe(I)I -/
def wm206 (c : gx) (d : Nat) (Post : Option Value → gm_H → Prop) (r0 : Nat) (x1 : Int32) (h : gm_H) : Prop :=
  ∃ fs1 : List Value, gm_get h r0 = some (.inr (10, fs1)) ∧ 13 < fs1.length ∧ ∀ h_1 : gm_H, h_1 = gm_put h r0 (.inr (10, fs1.set 13 (.int 0))) → (∃ fs2, gm_get h_1 r0 = some (.inr (10, fs2))) ∧ gE c d 158 [.ref r0, .int x1] h_1 (fun v2 h_2 => ∃ x_2 : Int32, v2 = some (.int x_2) ∧ ((x_2 = 0 → Post (some (.int (-1))) h_2) ∧ (¬ (x_2 = 0) → ∃ q_4 : Nat, gm_fld h_2 r0 10 0 = some (.ref q_4) ∧ (∃ fs5, gm_get h_2 r0 = some (.inr (10, fs5))) ∧ gE c d 195 [.ref r0, .ref q_4] h_2 (fun v5 h_5 => v5 = none ∧ ∃ q_6 : Nat, gm_fld h_5 r0 10 0 = some (.ref q_6) ∧ ∃ (n7 : Nat) (f7 : Nat → Int32), gm_get h_5 q_6 = some (.inl (0, n7, .inl f7)) ∧ vp_in 2 n7 ∧ ∃ q_8 : Nat, gm_fld h_5 r0 10 0 = some (.ref q_8) ∧ ∃ (n9 : Nat) (f9 : Nat → Int32), gm_get h_5 q_8 = some (.inl (0, n9, .inl f9)) ∧ vp_in 2 n9 ∧ ∀ h_9 : gm_H, h_9 = gm_put h_5 q_8 (.inl (0, n9, .inl (upd f9 (2 : Int32).toNatClampNeg (vp_nar .int x1)))) → Post (some (.int (f7 (2 : Int32).toNatClampNeg))) h_9))))
theorem okm206 (c : gx) (d : Nat) (Post : Option Value → gm_H → Prop) (r0 : Nat) (x1 : Int32) (h : gm_H) (w : wm206 c d Post r0 x1 h) : gE c (d + 1) 206 [.ref r0, .int x1] h Post := by
  have hk : ∀ pc i, gm_find gk_206 pc = some i → gm_code (gt_T c.1 c.2.1 c.2.2.1) 206 pc = some i := fun _ _ z => z
  unfold wm206 at w
  refine ge_of (by decide) (Nat.le_of_ble_eq_true rfl) ?_
  show gV c d 206 (0, [some (.ref r0), some (.int x1), none], [], h) Post
  unfold gV
  refine gw_pst hk 2 (st' := (2, [some (.ref r0), some (.int x1), none], [.int 0, .ref r0], h)) rfl ?_
  obtain ⟨fs1, e1, l1, w⟩ := w
  refine gw_pf (hk _ _ rfl) e1 l1 rfl ?_
  obtain ⟨h_1, eh1⟩ : ∃ z, z = gm_put h r0 (.inr (10, fs1.set 13 (.int 0))) := ⟨_, rfl⟩
  rw [← eh1]
  replace w := w h_1 eh1
  refine gw_pst hk 2 (st' := (7, [some (.ref r0), some (.int x1), none], [.int x1, .ref r0], h_1)) rfl ?_
  obtain ⟨⟨fs2, e2⟩, w⟩ := w
  refine gw_call (jj := 158) (As := [.ref r0, .int x1]) (rest := []) (hk _ _ rfl) (fun _ => rfl) rfl rfl (Nat.le_of_ble_eq_true rfl) (gm_rcv_v rfl e2 rfl) ?_
  refine ge_imp w (fun v2 h_2 w => ?_)
  obtain ⟨x_2, rfl, w⟩ := w
  show gV c d 206 (10, [some (.ref r0), some (.int x1), none], [.int x_2], h_2) Post
  refine gw_br (c := x_2 = 0) (a := (13, [some (.ref r0), some (.int x1), none], [], h_2)) (b := (15, [some (.ref r0), some (.int x1), none], [], h_2)) (hk _ _ rfl) rfl ⟨fun z3 => ?_, fun z3 => ?_⟩
  · replace w := w.1 z3
    refine gw_pst hk 1 (st' := (14, [some (.ref r0), some (.int x1), none], [.int (-1)], h_2)) rfl ?_
    exact gw_ret (hk _ _ rfl) rfl w
  · replace w := w.2 z3
    refine gw_pst hk 2 (st' := (17, [some (.ref r0), some (.int x1), none], [.ref r0, .ref r0], h_2)) rfl ?_
    obtain ⟨q_4, e4, w⟩ := w
    refine gw_gf (hk _ _ rfl) e4 ?_
    obtain ⟨⟨fs5, e5⟩, w⟩ := w
    refine gw_call (jj := 195) (As := [.ref r0, .ref q_4]) (rest := []) (hk _ _ rfl) (fun _ => rfl) rfl rfl (Nat.le_of_ble_eq_true rfl) (gm_rcv_v rfl e5 rfl) ?_
    refine ge_imp w (fun v5 h_5 w => ?_)
    obtain ⟨rfl, w⟩ := w
    show gV c d 206 (23, [some (.ref r0), some (.int x1), none], [], h_5) Post
    refine gw_pst hk 1 (st' := (24, [some (.ref r0), some (.int x1), none], [.ref r0], h_5)) rfl ?_
    obtain ⟨q_6, e6, w⟩ := w
    refine gw_gf (hk _ _ rfl) e6 ?_
    refine gw_pst hk 1 (st' := (28, [some (.ref r0), some (.int x1), none], [.int 2, .ref q_6], h_5)) rfl ?_
    obtain ⟨n7, f7, e7, b7, w⟩ := w
    refine gw_ald (hk _ _ rfl) (Or.inl ⟨rfl, rfl⟩) e7 b7 ?_
    refine gw_pst hk 2 (st' := (31, [some (.ref r0), some (.int x1), some (.int (f7 (2 : Int32).toNatClampNeg))], [.ref r0], h_5)) rfl ?_
    obtain ⟨q_8, e8, w⟩ := w
    refine gw_gf (hk _ _ rfl) e8 ?_
    refine gw_pst hk 2 (st' := (36, [some (.ref r0), some (.int x1), some (.int (f7 (2 : Int32).toNatClampNeg))], [.int x1, .int 2, .ref q_8], h_5)) rfl ?_
    obtain ⟨n9, f9, e9, b9, w⟩ := w
    refine gw_ast (hk _ _ rfl) (Or.inl ⟨rfl, rfl, rfl⟩) e9 b9 ?_
    obtain ⟨h_9, eh9⟩ : ∃ z, z = gm_put h_5 q_8 (.inl (0, n9, .inl (upd f9 (2 : Int32).toNatClampNeg (vp_nar .int x1)))) := ⟨_, rfl⟩
    rw [← eh9]
    replace w := w h_9 eh9
    refine gw_pst hk 1 (st' := (38, [some (.ref r0), some (.int x1), some (.int (f7 (2 : Int32).toNatClampNeg))], [.int (f7 (2 : Int32).toNatClampNeg)], h_9)) rfl ?_
    exact gw_ret (hk _ _ rfl) rfl w
def w207_25 (c : gx) (d : Nat) (Post : Option Value → gm_H → Prop)  (h : gm_H) : Prop :=
  Post (some (.int (-1))) h
theorem ok207_25 (c : gx) (d : Nat) (Post : Option Value → gm_H → Prop)   (h : gm_H) (w : w207_25 c d Post  h) : gV c d 207 (25, [none, none, none, none], [], h) Post := by
  have hk : ∀ pc i, gm_find gk_207 pc = some i → gm_code (gt_T c.1 c.2.1 c.2.2.1) 207 pc = some i := fun _ _ z => z
  unfold w207_25 at w
  unfold gV
  refine gw_pst hk 1 (st' := (26, [none, none, none, none], [.int (-1)], h)) rfl ?_
  exact gw_ret (hk _ _ rfl) rfl w
def w207_53 (c : gx) (d : Nat) (Post : Option Value → gm_H → Prop) (r0 : Nat) (x2 : Int32) (xs0 : Int32) (h : gm_H) : Prop :=
  ∃ q_1 : Nat, gm_fld h r0 10 0 = some (.ref q_1) ∧ ∃ q_2 : Nat, gm_fld h r0 10 0 = some (.ref q_2) ∧ ∃ (n3 : Nat) (f3 : Nat → Int32), gm_get h q_2 = some (.inl (0, n3, .inl f3)) ∧ vp_in xs0 n3 ∧ ∃ (n4 : Nat) (f4 : Nat → Int32), gm_get h q_1 = some (.inl (0, n4, .inl f4)) ∧ vp_in xs0 n4 ∧ ∀ h_4 : gm_H, h_4 = gm_put h q_1 (.inl (0, n4, .inl (upd f4 (xs0 : Int32).toNatClampNeg (vp_nar .int (if ((f3 (xs0 : Int32).toNatClampNeg) + x2) < 9999 then ((f3 (xs0 : Int32).toNatClampNeg) + x2) else 9999))))) → ∃ q_5 : Nat, gm_fld h_4 r0 10 0 = some (.ref q_5) ∧ ∃ (n6 : Nat) (f6 : Nat → Int32), gm_get h_4 q_5 = some (.inl (0, n6, .inl f6)) ∧ vp_in xs0 n6 ∧ Post (some (.int (f6 (xs0 : Int32).toNatClampNeg))) h_4
theorem ok207_53 (c : gx) (d : Nat) (Post : Option Value → gm_H → Prop)  (r0 : Nat) (x2 : Int32) (xs0 : Int32) (h : gm_H) (w : w207_53 c d Post r0 x2 xs0 h) : gV c d 207 (53, [some (.ref r0), none, some (.int x2), none], [.int xs0], h) Post := by
  have hk : ∀ pc i, gm_find gk_207 pc = some i → gm_code (gt_T c.1 c.2.1 c.2.2.1) 207 pc = some i := fun _ _ z => z
  unfold w207_53 at w
  unfold gV
  refine gw_pst hk 2 (st' := (55, [some (.ref r0), none, some (.int x2), some (.int xs0)], [.ref r0], h)) rfl ?_
  obtain ⟨q_1, e1, w⟩ := w
  refine gw_gf (hk _ _ rfl) e1 ?_
  refine gw_pst hk 3 (st' := (63, [some (.ref r0), none, some (.int x2), some (.int xs0)], [.ref r0, .int 9999, .int xs0, .ref q_1], h)) rfl ?_
  obtain ⟨q_2, e2, w⟩ := w
  refine gw_gf (hk _ _ rfl) e2 ?_
  refine gw_pst hk 1 (st' := (67, [some (.ref r0), none, some (.int x2), some (.int xs0)], [.int xs0, .ref q_2, .int 9999, .int xs0, .ref q_1], h)) rfl ?_
  obtain ⟨n3, f3, e3, b3, w⟩ := w
  refine gw_ald (hk _ _ rfl) (Or.inl ⟨rfl, rfl⟩) e3 b3 ?_
  refine gw_pst hk 3 (st' := (73, [some (.ref r0), none, some (.int x2), some (.int xs0)], [.int (if ((f3 (xs0 : Int32).toNatClampNeg) + x2) < 9999 then ((f3 (xs0 : Int32).toNatClampNeg) + x2) else 9999), .int xs0, .ref q_1], h)) rfl ?_
  obtain ⟨n4, f4, e4, b4, w⟩ := w
  refine gw_ast (hk _ _ rfl) (Or.inl ⟨rfl, rfl, rfl⟩) e4 b4 ?_
  obtain ⟨h_4, eh4⟩ : ∃ z, z = gm_put h q_1 (.inl (0, n4, .inl (upd f4 (xs0 : Int32).toNatClampNeg (vp_nar .int (if ((f3 (xs0 : Int32).toNatClampNeg) + x2) < 9999 then ((f3 (xs0 : Int32).toNatClampNeg) + x2) else 9999))))) := ⟨_, rfl⟩
  rw [← eh4]
  replace w := w h_4 eh4
  refine gw_pst hk 1 (st' := (75, [some (.ref r0), none, some (.int x2), some (.int xs0)], [.ref r0], h_4)) rfl ?_
  obtain ⟨q_5, e5, w⟩ := w
  refine gw_gf (hk _ _ rfl) e5 ?_
  refine gw_pst hk 1 (st' := (79, [some (.ref r0), none, some (.int x2), some (.int xs0)], [.int xs0, .ref q_5], h_4)) rfl ?_
  obtain ⟨n6, f6, e6, b6, w⟩ := w
  refine gw_ald (hk _ _ rfl) (Or.inl ⟨rfl, rfl⟩) e6 b6 ?_
  exact gw_ret (hk _ _ rfl) rfl w
/-- CommandByTurnsModel.send(II)I -/
def wm207 (c : gx) (d : Nat) (Post : Option Value → gm_H → Prop) (r0 : Nat) (x1 : Int32) (x2 : Int32) (h : gm_H) : Prop :=
  ∃ fs1 : List Value, gm_get h r0 = some (.inr (10, fs1)) ∧ 13 < fs1.length ∧ ∀ h_1 : gm_H, h_1 = gm_put h r0 (.inr (10, fs1.set 13 (.int 0))) → gE c d 154 [.int x1, .int 0, .int 2] h_1 (fun v2 h_2 => ∃ x_2 : Int32, v2 = some (.int x_2) ∧ ((x_2 = 0 → w207_25 c d Post h_2) ∧ (¬ (x_2 = 0) → gE c d 154 [.int x2, .int 1, .int 999] h_2 (fun v4 h_4 => ∃ x_4 : Int32, v4 = some (.int x_4) ∧ ((x_4 = 0 → w207_25 c d Post h_4) ∧ (¬ (x_4 = 0) → ∃ q_6 : Nat, gm_fld h_4 r0 10 0 = some (.ref q_6) ∧ (∃ fs7, gm_get h_4 r0 = some (.inr (10, fs7))) ∧ gE c d 195 [.ref r0, .ref q_6] h_4 (fun v7 h_7 => v7 = none ∧ ((x1 = 0 → w207_53 c d Post r0 x2 5 h_7) ∧ (¬ (x1 = 0) → ((x1 = 1 → w207_53 c d Post r0 x2 3 h_7) ∧ (¬ (x1 = 1) → w207_53 c d Post r0 x2 4 h_7)))))))))))
theorem okm207 (c : gx) (d : Nat) (Post : Option Value → gm_H → Prop) (r0 : Nat) (x1 : Int32) (x2 : Int32) (h : gm_H) (w : wm207 c d Post r0 x1 x2 h) : gE c (d + 1) 207 [.ref r0, .int x1, .int x2] h Post := by
  have hk : ∀ pc i, gm_find gk_207 pc = some i → gm_code (gt_T c.1 c.2.1 c.2.2.1) 207 pc = some i := fun _ _ z => z
  unfold wm207 at w
  refine ge_of (by decide) (Nat.le_of_ble_eq_true rfl) ?_
  show gV c d 207 (0, [some (.ref r0), some (.int x1), some (.int x2), none], [], h) Post
  unfold gV
  refine gw_pst hk 2 (st' := (2, [some (.ref r0), some (.int x1), some (.int x2), none], [.int 0, .ref r0], h)) rfl ?_
  obtain ⟨fs1, e1, l1, w⟩ := w
  refine gw_pf (hk _ _ rfl) e1 l1 rfl ?_
  obtain ⟨h_1, eh1⟩ : ∃ z, z = gm_put h r0 (.inr (10, fs1.set 13 (.int 0))) := ⟨_, rfl⟩
  rw [← eh1]
  replace w := w h_1 eh1
  refine gw_pst hk 3 (st' := (8, [some (.ref r0), some (.int x1), some (.int x2), none], [.int 2, .int 0, .int x1], h_1)) rfl ?_
  refine gw_call (jj := 154) (As := [.int x1, .int 0, .int 2]) (rest := []) (hk _ _ rfl) (fun _ => rfl) rfl rfl (Nat.le_of_ble_eq_true rfl) rfl ?_
  refine ge_imp w (fun v2 h_2 w => ?_)
  obtain ⟨x_2, rfl, w⟩ := w
  show gV c d 207 (11, [some (.ref r0), some (.int x1), some (.int x2), none], [.int x_2], h_2) Post
  refine gw_br (c := x_2 = 0) (a := (25, [some (.ref r0), some (.int x1), some (.int x2), none], [], h_2)) (b := (14, [some (.ref r0), some (.int x1), some (.int x2), none], [], h_2)) (hk _ _ rfl) rfl ⟨fun z3 => ?_, fun z3 => ?_⟩
  · replace w := w.1 z3
    refine gw_le (L' := [none, none, none, none]) (gm_le_n _ (gm_le_n _ (gm_le_n _ (gm_le_k _ gm_le_nil)))) ?_
    exact ok207_25 c d Post _ w
  · replace w := w.2 z3
    refine gw_pst hk 3 (st' := (19, [some (.ref r0), some (.int x1), some (.int x2), none], [.int 999, .int 1, .int x2], h_2)) rfl ?_
    refine gw_call (jj := 154) (As := [.int x2, .int 1, .int 999]) (rest := []) (hk _ _ rfl) (fun _ => rfl) rfl rfl (Nat.le_of_ble_eq_true rfl) rfl ?_
    refine ge_imp w (fun v4 h_4 w => ?_)
    obtain ⟨x_4, rfl, w⟩ := w
    show gV c d 207 (22, [some (.ref r0), some (.int x1), some (.int x2), none], [.int x_4], h_4) Post
    refine gw_br (c := x_4 = 0) (a := (25, [some (.ref r0), some (.int x1), some (.int x2), none], [], h_4)) (b := (27, [some (.ref r0), some (.int x1), some (.int x2), none], [], h_4)) (hk _ _ rfl) rfl ⟨fun z5 => ?_, fun z5 => ?_⟩
    · replace w := w.1 z5
      refine gw_le (L' := [none, none, none, none]) (gm_le_n _ (gm_le_n _ (gm_le_n _ (gm_le_k _ gm_le_nil)))) ?_
      exact ok207_25 c d Post _ w
    · replace w := w.2 z5
      refine gw_pst hk 2 (st' := (29, [some (.ref r0), some (.int x1), some (.int x2), none], [.ref r0, .ref r0], h_4)) rfl ?_
      obtain ⟨q_6, e6, w⟩ := w
      refine gw_gf (hk _ _ rfl) e6 ?_
      obtain ⟨⟨fs7, e7⟩, w⟩ := w
      refine gw_call (jj := 195) (As := [.ref r0, .ref q_6]) (rest := []) (hk _ _ rfl) (fun _ => rfl) rfl rfl (Nat.le_of_ble_eq_true rfl) (gm_rcv_v rfl e7 rfl) ?_
      refine ge_imp w (fun v7 h_7 w => ?_)
      obtain ⟨rfl, w⟩ := w
      show gV c d 207 (35, [some (.ref r0), some (.int x1), some (.int x2), none], [], h_7) Post
      refine gw_pst hk 1 (st' := (36, [some (.ref r0), some (.int x1), some (.int x2), none], [.int x1], h_7)) rfl ?_
      refine gw_br (c := x1 = 0) (a := (39, [some (.ref r0), some (.int x1), some (.int x2), none], [], h_7)) (b := (43, [some (.ref r0), some (.int x1), some (.int x2), none], [], h_7)) (hk _ _ rfl) rfl ⟨fun z8 => ?_, fun z8 => ?_⟩
      · replace w := w.1 z8
        refine gw_pst hk 2 (st' := (53, [some (.ref r0), some (.int x1), some (.int x2), none], [.int 5], h_7)) rfl ?_
        refine gw_le (L' := [some (.ref r0), none, some (.int x2), none]) (gm_le_k _ (gm_le_n _ (gm_le_k _ (gm_le_k _ gm_le_nil)))) ?_
        exact ok207_53 c d Post _ _ _ _ w
      · replace w := w.2 z8
        refine gw_pst hk 2 (st' := (45, [some (.ref r0), some (.int x1), some (.int x2), none], [.int 1, .int x1], h_7)) rfl ?_
        refine gw_br (c := x1 = 1) (a := (48, [some (.ref r0), some (.int x1), some (.int x2), none], [], h_7)) (b := (52, [some (.ref r0), some (.int x1), some (.int x2), none], [], h_7)) (hk _ _ rfl) rfl ⟨fun z9 => ?_, fun z9 => ?_⟩
        · replace w := w.1 z9
          refine gw_pst hk 2 (st' := (53, [some (.ref r0), some (.int x1), some (.int x2), none], [.int 3], h_7)) rfl ?_
          refine gw_le (L' := [some (.ref r0), none, some (.int x2), none]) (gm_le_k _ (gm_le_n _ (gm_le_k _ (gm_le_k _ gm_le_nil)))) ?_
          exact ok207_53 c d Post _ _ _ _ w
        · replace w := w.2 z9
          refine gw_pst hk 1 (st' := (53, [some (.ref r0), some (.int x1), some (.int x2), none], [.int 4], h_7)) rfl ?_
          refine gw_le (L' := [some (.ref r0), none, some (.int x2), none]) (gm_le_k _ (gm_le_n _ (gm_le_k _ (gm_le_k _ gm_le_nil)))) ?_
          exact ok207_53 c d Post _ _ _ _ w
def wb208_9 (c : gx) (d : Nat) (Post : Option Value → gm_H → Prop) (K9 : Nat → Int32 → Int32 → gm_H → Prop) (r0 : Nat) (x1 : Int32) (x2 : Int32) (h : gm_H) : Prop :=
  ((100 ≤ x2 → Post (some (.int x1)) h) ∧ (¬ (100 ≤ x2) → ∃ q_2 : Nat, gm_fld h r0 10 0 = some (.ref q_2) ∧ ∃ (n3 : Nat) (f3 : Nat → Int32), gm_get h q_2 = some (.inl (0, n3, .inl f3)) ∧ vp_in (8 + x2) n3 ∧ K9 r0 (x1 + (f3 (8 + x2 : Int32).toNatClampNeg)) (x2 + 1) h))
theorem okb208_9 (c : gx) (d : Nat) (Post : Option Value → gm_H → Prop) (K9 : Nat → Int32 → Int32 → gm_H → Prop)  (hK9 : ∀ (r0 : Nat) (x1 : Int32) (x2 : Int32) (h : gm_H), K9 r0 x1 x2 h → gV c d 208 (9, [some (.ref r0), some (.int x1), some (.int x2)], [], h) Post) (r0 : Nat) (x1 : Int32) (x2 : Int32) (h : gm_H) (w : wb208_9 c d Post K9 r0 x1 x2 h) : gV c d 208 (9, [some (.ref r0), some (.int x1), some (.int x2)], [], h) Post := by
  have hk : ∀ pc i, gm_find gk_208 pc = some i → gm_code (gt_T c.1 c.2.1 c.2.2.1) 208 pc = some i := fun _ _ z => z
  unfold wb208_9 at w
  unfold gV
  refine gw_pst hk 2 (st' := (12, [some (.ref r0), some (.int x1), some (.int x2)], [.int 100, .int x2], h)) rfl ?_
  refine gw_br (c := 100 ≤ x2) (a := (33, [some (.ref r0), some (.int x1), some (.int x2)], [], h)) (b := (15, [some (.ref r0), some (.int x1), some (.int x2)], [], h)) (hk _ _ rfl) rfl ⟨fun z1 => ?_, fun z1 => ?_⟩
  · replace w := w.1 z1
    refine gw_pst hk 1 (st' := (34, [some (.ref r0), some (.int x1), some (.int x2)], [.int x1], h)) rfl ?_
    exact gw_ret (hk _ _ rfl) rfl w
  · replace w := w.2 z1
    refine gw_pst hk 2 (st' := (17, [some (.ref r0), some (.int x1), some (.int x2)], [.ref r0, .int x1], h)) rfl ?_
    obtain ⟨q_2, e2, w⟩ := w
    refine gw_gf (hk _ _ rfl) e2 ?_
    refine gw_pst hk 3 (st' := (24, [some (.ref r0), some (.int x1), some (.int x2)], [.int (8 + x2), .ref q_2, .int x1], h)) rfl ?_
    obtain ⟨n3, f3, e3, b3, w⟩ := w
    refine gw_ald (hk _ _ rfl) (Or.inl ⟨rfl, rfl⟩) e3 b3 ?_
    refine gw_pst hk 4 (st' := (9, [some (.ref r0), some (.int (x1 + (f3 (8 + x2 : Int32).toNatClampNeg))), some (.int (x2 + 1))], [], h)) rfl ?_
    exact hK9 _ _ _ _ w
def wl208_9 (c : gx) (d : Nat) (Post : Option Value → gm_H → Prop) : Nat → Nat → Int32 → Int32 → gm_H → Prop
  | 0 => fun _ _ _ _ => False
  | n + 1 => wb208_9 c d Post (wl208_9 c d Post n)
theorem okl208_9 (c : gx) (d : Nat) (Post : Option Value → gm_H → Prop) : ∀ (n : Nat) (r0 : Nat) (x1 : Int32) (x2 : Int32) (h : gm_H), wl208_9 c d Post n r0 x1 x2 h → gV c d 208 (9, [some (.ref r0), some (.int x1), some (.int x2)], [], h) Post
  | 0, _, _, _, _, w => w.elim
  | n + 1, r0, x1, x2, h, w => okb208_9 c d Post (wl208_9 c d Post n) (okl208_9 c d Post n) r0 x1 x2 h w
/-- CommandByTurnsModel.lentFrom()I -/
def wm208 (c : gx) (d : Nat) (Post : Option Value → gm_H → Prop) (r0 : Nat) (h : gm_H) : Prop :=
  ∃ q_1 : Nat, gm_fld h r0 10 0 = some (.ref q_1) ∧ ∃ (n2 : Nat) (f2 : Nat → Int32), gm_get h q_1 = some (.inl (0, n2, .inl f2)) ∧ vp_in 0 n2 ∧ ∃ n, wl208_9 c d Post n r0 0 (f2 (0 : Int32).toNatClampNeg) h
theorem okm208 (c : gx) (d : Nat) (Post : Option Value → gm_H → Prop) (r0 : Nat) (h : gm_H) (w : wm208 c d Post r0 h) : gE c (d + 1) 208 [.ref r0] h Post := by
  have hk : ∀ pc i, gm_find gk_208 pc = some i → gm_code (gt_T c.1 c.2.1 c.2.2.1) 208 pc = some i := fun _ _ z => z
  unfold wm208 at w
  refine ge_of (by decide) (Nat.le_of_ble_eq_true rfl) ?_
  show gV c d 208 (0, [some (.ref r0), none, none], [], h) Post
  unfold gV
  refine gw_pst hk 3 (st' := (3, [some (.ref r0), some (.int 0), none], [.ref r0], h)) rfl ?_
  obtain ⟨q_1, e1, w⟩ := w
  refine gw_gf (hk _ _ rfl) e1 ?_
  refine gw_pst hk 1 (st' := (7, [some (.ref r0), some (.int 0), none], [.int 0, .ref q_1], h)) rfl ?_
  obtain ⟨n2, f2, e2, b2, w⟩ := w
  refine gw_ald (hk _ _ rfl) (Or.inl ⟨rfl, rfl⟩) e2 b2 ?_
  refine gw_pst hk 1 (st' := (9, [some (.ref r0), some (.int 0), some (.int (f2 (0 : Int32).toNatClampNeg))], [], h)) rfl ?_
  obtain ⟨n, w⟩ := w
  exact okl208_9 c d Post n _ _ _ _ w
/-- CommandByTurnsModel.lend(I)I -/
def wm209 (c : gx) (d : Nat) (Post : Option Value → gm_H → Prop) (r0 : Nat) (x1 : Int32) (h : gm_H) : Prop :=
  ∃ fs1 : List Value, gm_get h r0 = some (.inr (10, fs1)) ∧ 13 < fs1.length ∧ ∀ h_1 : gm_H, h_1 = gm_put h r0 (.inr (10, fs1.set 13 (.int 0))) → ∃ q_2 : Nat, gm_fld h_1 r0 10 0 = some (.ref q_2) ∧ ∃ (n3 : Nat) (f3 : Nat → Int32), gm_get h_1 q_2 = some (.inl (0, n3, .inl f3)) ∧ vp_in 0 n3 ∧ gE c d 154 [.int x1, .int (f3 (0 : Int32).toNatClampNeg), .int 99] h_1 (fun v4 h_4 => ∃ x_4 : Int32, v4 = some (.int x_4) ∧ ((x_4 = 0 → Post (some (.int (-1))) h_4) ∧ (¬ (x_4 = 0) → ∃ q_6 : Nat, gm_fld h_4 r0 10 0 = some (.ref q_6) ∧ (∃ fs7, gm_get h_4 r0 = some (.inr (10, fs7))) ∧ gE c d 195 [.ref r0, .ref q_6] h_4 (fun v7 h_7 => v7 = none ∧ ∃ q_8 : Nat, gm_fld h_7 r0 10 0 = some (.ref q_8) ∧ ∃ q_9 : Nat, gm_fld h_7 r0 10 0 = some (.ref q_9) ∧ ∃ (n10 : Nat) (f10 : Nat → Int32), gm_get h_7 q_9 = some (.inl (0, n10, .inl f10)) ∧ vp_in (8 + x1) n10 ∧ ∃ (n11 : Nat) (f11 : Nat → Int32), gm_get h_7 q_8 = some (.inl (0, n11, .inl f11)) ∧ vp_in (8 + x1) n11 ∧ ∀ h_11 : gm_H, h_11 = gm_put h_7 q_8 (.inl (0, n11, .inl (upd f11 (8 + x1 : Int32).toNatClampNeg (vp_nar .int (1 - (f10 (8 + x1 : Int32).toNatClampNeg)))))) → (∃ fs12, gm_get h_11 r0 = some (.inr (10, fs12))) ∧ gE c d 208 [.ref r0] h_11 (fun v12 h_12 => ∃ x_12 : Int32, v12 = some (.int x_12) ∧ Post (some (.int x_12)) h_12)))))
theorem okm209 (c : gx) (d : Nat) (Post : Option Value → gm_H → Prop) (r0 : Nat) (x1 : Int32) (h : gm_H) (w : wm209 c d Post r0 x1 h) : gE c (d + 1) 209 [.ref r0, .int x1] h Post := by
  have hk : ∀ pc i, gm_find gk_209 pc = some i → gm_code (gt_T c.1 c.2.1 c.2.2.1) 209 pc = some i := fun _ _ z => z
  unfold wm209 at w
  refine ge_of (by decide) (Nat.le_of_ble_eq_true rfl) ?_
  show gV c d 209 (0, [some (.ref r0), some (.int x1)], [], h) Post
  unfold gV
  refine gw_pst hk 2 (st' := (2, [some (.ref r0), some (.int x1)], [.int 0, .ref r0], h)) rfl ?_
  obtain ⟨fs1, e1, l1, w⟩ := w
  refine gw_pf (hk _ _ rfl) e1 l1 rfl ?_
  obtain ⟨h_1, eh1⟩ : ∃ z, z = gm_put h r0 (.inr (10, fs1.set 13 (.int 0))) := ⟨_, rfl⟩
  rw [← eh1]
  replace w := w h_1 eh1
  refine gw_pst hk 2 (st' := (7, [some (.ref r0), some (.int x1)], [.ref r0, .int x1], h_1)) rfl ?_
  obtain ⟨q_2, e2, w⟩ := w
  refine gw_gf (hk _ _ rfl) e2 ?_
  refine gw_pst hk 1 (st' := (11, [some (.ref r0), some (.int x1)], [.int 0, .ref q_2, .int x1], h_1)) rfl ?_
  obtain ⟨n3, f3, e3, b3, w⟩ := w
  refine gw_ald (hk _ _ rfl) (Or.inl ⟨rfl, rfl⟩) e3 b3 ?_
  refine gw_pst hk 1 (st' := (14, [some (.ref r0), some (.int x1)], [.int 99, .int (f3 (0 : Int32).toNatClampNeg), .int x1], h_1)) rfl ?_
  refine gw_call (jj := 154) (As := [.int x1, .int (f3 (0 : Int32).toNatClampNeg), .int 99]) (rest := []) (hk _ _ rfl) (fun _ => rfl) rfl rfl (Nat.le_of_ble_eq_true rfl) rfl ?_
  refine ge_imp w (fun v4 h_4 w => ?_)
  obtain ⟨x_4, rfl, w⟩ := w
  show gV c d 209 (17, [some (.ref r0), some (.int x1)], [.int x_4], h_4) Post
  refine gw_br (c := x_4 = 0) (a := (20, [some (.ref r0), some (.int x1)], [], h_4)) (b := (22, [some (.ref r0), some (.int x1)], [], h_4)) (hk _ _ rfl) rfl ⟨fun z5 => ?_, fun z5 => ?_⟩
  · replace w := w.1 z5
    refine gw_pst hk 1 (st' := (21, [some (.ref r0), some (.int x1)], [.int (-1)], h_4)) rfl ?_
    exact gw_ret (hk _ _ rfl) rfl w
  · replace w := w.2 z5
    refine gw_pst hk 2 (st' := (24, [some (.ref r0), some (.int x1)], [.ref r0, .ref r0], h_4)) rfl ?_
    obtain ⟨q_6, e6, w⟩ := w
    refine gw_gf (hk _ _ rfl) e6 ?_
    obtain ⟨⟨fs7, e7⟩, w⟩ := w
    refine gw_call (jj := 195) (As := [.ref r0, .ref q_6]) (rest := []) (hk _ _ rfl) (fun _ => rfl) rfl rfl (Nat.le_of_ble_eq_true rfl) (gm_rcv_v rfl e7 rfl) ?_
    refine ge_imp w (fun v7 h_7 w => ?_)
    obtain ⟨rfl, w⟩ := w
    show gV c d 209 (30, [some (.ref r0), some (.int x1)], [], h_7) Post
    refine gw_pst hk 1 (st' := (31, [some (.ref r0), some (.int x1)], [.ref r0], h_7)) rfl ?_
    obtain ⟨q_8, e8, w⟩ := w
    refine gw_gf (hk _ _ rfl) e8 ?_
    refine gw_pst hk 5 (st' := (40, [some (.ref r0), some (.int x1)], [.ref r0, .int 1, .int (8 + x1), .ref q_8], h_7)) rfl ?_
    obtain ⟨q_9, e9, w⟩ := w
    refine gw_gf (hk _ _ rfl) e9 ?_
    refine gw_pst hk 3 (st' := (47, [some (.ref r0), some (.int x1)], [.int (8 + x1), .ref q_9, .int 1, .int (8 + x1), .ref q_8], h_7)) rfl ?_
    obtain ⟨n10, f10, e10, b10, w⟩ := w
    refine gw_ald (hk _ _ rfl) (Or.inl ⟨rfl, rfl⟩) e10 b10 ?_
    refine gw_pst hk 1 (st' := (49, [some (.ref r0), some (.int x1)], [.int (1 - (f10 (8 + x1 : Int32).toNatClampNeg)), .int (8 + x1), .ref q_8], h_7)) rfl ?_
    obtain ⟨n11, f11, e11, b11, w⟩ := w
    refine gw_ast (hk _ _ rfl) (Or.inl ⟨rfl, rfl, rfl⟩) e11 b11 ?_
    obtain ⟨h_11, eh11⟩ : ∃ z, z = gm_put h_7 q_8 (.inl (0, n11, .inl (upd f11 (8 + x1 : Int32).toNatClampNeg (vp_nar .int (1 - (f10 (8 + x1 : Int32).toNatClampNeg)))))) := ⟨_, rfl⟩
    rw [← eh11]
    replace w := w h_11 eh11
    refine gw_pst hk 1 (st' := (51, [some (.ref r0), some (.int x1)], [.ref r0], h_11)) rfl ?_
    obtain ⟨⟨fs12, e12⟩, w⟩ := w
    refine gw_call (jj := 208) (As := [.ref r0]) (rest := []) (hk _ _ rfl) (fun _ => rfl) rfl rfl (Nat.le_of_ble_eq_true rfl) (gm_rcv_v rfl e12 rfl) ?_
    refine ge_imp w (fun v12 h_12 w => ?_)
    obtain ⟨x_12, rfl, w⟩ := w
    show gV c d 209 (54, [some (.ref r0), some (.int x1)], [.int x_12], h_12) Post
    exact gw_ret (hk _ _ rfl) rfl w
def w210_22 (c : gx) (d : Nat) (Post : Option Value → gm_H → Prop)  (h : gm_H) : Prop :=
  Post (some (.int (-1))) h
theorem ok210_22 (c : gx) (d : Nat) (Post : Option Value → gm_H → Prop)   (h : gm_H) (w : w210_22 c d Post  h) : gV c d 210 (22, [none, none, none], [], h) Post := by
  have hk : ∀ pc i, gm_find gk_210 pc = some i → gm_code (gt_T c.1 c.2.1 c.2.2.1) 210 pc = some i := fun _ _ z => z
  unfold w210_22 at w
  unfold gV
  refine gw_pst hk 1 (st' := (23, [none, none, none], [.int (-1)], h)) rfl ?_
  exact gw_ret (hk _ _ rfl) rfl w
/-- CommandByTurnsModel.sick(II)I -/
def wm210 (c : gx) (d : Nat) (Post : Option Value → gm_H → Prop) (r0 : Nat) (x1 : Int32) (x2 : Int32) (h : gm_H) : Prop :=
  ∃ fs1 : List Value, gm_get h r0 = some (.inr (10, fs1)) ∧ 13 < fs1.length ∧ ∀ h_1 : gm_H, h_1 = gm_put h r0 (.inr (10, fs1.set 13 (.int 0))) → gE c d 159 [.int x1] h_1 (fun v2 h_2 => ∃ x_2 : Int32, v2 = some (.int x_2) ∧ ((x_2 = 0 → w210_22 c d Post h_2) ∧ (¬ (x_2 = 0) → gE c d 154 [.int x2, .int 1, .int 30] h_2 (fun v4 h_4 => ∃ x_4 : Int32, v4 = some (.int x_4) ∧ ((x_4 = 0 → w210_22 c d Post h_4) ∧ (¬ (x_4 = 0) → ∃ q_6 : Nat, gm_fld h_4 r0 10 0 = some (.ref q_6) ∧ (∃ fs7, gm_get h_4 r0 = some (.inr (10, fs7))) ∧ gE c d 195 [.ref r0, .ref q_6] h_4 (fun v7 h_7 => v7 = none ∧ ∃ q_8 : Nat, gm_fld h_7 r0 10 0 = some (.ref q_8) ∧ ∃ q_9 : Nat, gm_fld h_7 r0 10 0 = some (.ref q_9) ∧ ∃ (n10 : Nat) (f10 : Nat → Int32), gm_get h_7 q_9 = some (.inl (0, n10, .inl f10)) ∧ vp_in 0 n10 ∧ ∃ (n11 : Nat) (f11 : Nat → Int32), gm_get h_7 q_8 = some (.inl (0, n11, .inl f11)) ∧ vp_in (6 + x1) n11 ∧ ∀ h_11 : gm_H, h_11 = gm_put h_7 q_8 (.inl (0, n11, .inl (upd f11 (6 + x1 : Int32).toNatClampNeg (vp_nar .int (((f10 (0 : Int32).toNatClampNeg) + x2) - 1))))) → ∃ q_12 : Nat, gm_fld h_11 r0 10 0 = some (.ref q_12) ∧ ∃ (n13 : Nat) (f13 : Nat → Int32), gm_get h_11 q_12 = some (.inl (0, n13, .inl f13)) ∧ vp_in (6 + x1) n13 ∧ Post (some (.int (f13 (6 + x1 : Int32).toNatClampNeg))) h_11)))))))
theorem okm210 (c : gx) (d : Nat) (Post : Option Value → gm_H → Prop) (r0 : Nat) (x1 : Int32) (x2 : Int32) (h : gm_H) (w : wm210 c d Post r0 x1 x2 h) : gE c (d + 1) 210 [.ref r0, .int x1, .int x2] h Post := by
  have hk : ∀ pc i, gm_find gk_210 pc = some i → gm_code (gt_T c.1 c.2.1 c.2.2.1) 210 pc = some i := fun _ _ z => z
  unfold wm210 at w
  refine ge_of (by decide) (Nat.le_of_ble_eq_true rfl) ?_
  show gV c d 210 (0, [some (.ref r0), some (.int x1), some (.int x2)], [], h) Post
  unfold gV
  refine gw_pst hk 2 (st' := (2, [some (.ref r0), some (.int x1), some (.int x2)], [.int 0, .ref r0], h)) rfl ?_
  obtain ⟨fs1, e1, l1, w⟩ := w
  refine gw_pf (hk _ _ rfl) e1 l1 rfl ?_
  obtain ⟨h_1, eh1⟩ : ∃ z, z = gm_put h r0 (.inr (10, fs1.set 13 (.int 0))) := ⟨_, rfl⟩
  rw [← eh1]
  replace w := w h_1 eh1
  refine gw_pst hk 1 (st' := (6, [some (.ref r0), some (.int x1), some (.int x2)], [.int x1], h_1)) rfl ?_
  refine gw_call (jj := 159) (As := [.int x1]) (rest := []) (hk _ _ rfl) (fun _ => rfl) rfl rfl (Nat.le_of_ble_eq_true rfl) rfl ?_
  refine ge_imp w (fun v2 h_2 w => ?_)
  obtain ⟨x_2, rfl, w⟩ := w
  show gV c d 210 (9, [some (.ref r0), some (.int x1), some (.int x2)], [.int x_2], h_2) Post
  refine gw_br (c := x_2 = 0) (a := (22, [some (.ref r0), some (.int x1), some (.int x2)], [], h_2)) (b := (12, [some (.ref r0), some (.int x1), some (.int x2)], [], h_2)) (hk _ _ rfl) rfl ⟨fun z3 => ?_, fun z3 => ?_⟩
  · replace w := w.1 z3
    refine gw_le (L' := [none, none, none]) (gm_le_n _ (gm_le_n _ (gm_le_n _ gm_le_nil))) ?_
    exact ok210_22 c d Post _ w
  · replace w := w.2 z3
    refine gw_pst hk 3 (st' := (16, [some (.ref r0), some (.int x1), some (.int x2)], [.int 30, .int 1, .int x2], h_2)) rfl ?_
    refine gw_call (jj := 154) (As := [.int x2, .int 1, .int 30]) (rest := []) (hk _ _ rfl) (fun _ => rfl) rfl rfl (Nat.le_of_ble_eq_true rfl) rfl ?_
    refine ge_imp w (fun v4 h_4 w => ?_)
    obtain ⟨x_4, rfl, w⟩ := w
    show gV c d 210 (19, [some (.ref r0), some (.int x1), some (.int x2)], [.int x_4], h_4) Post
    refine gw_br (c := x_4 = 0) (a := (22, [some (.ref r0), some (.int x1), some (.int x2)], [], h_4)) (b := (24, [some (.ref r0), some (.int x1), some (.int x2)], [], h_4)) (hk _ _ rfl) rfl ⟨fun z5 => ?_, fun z5 => ?_⟩
    · replace w := w.1 z5
      refine gw_le (L' := [none, none, none]) (gm_le_n _ (gm_le_n _ (gm_le_n _ gm_le_nil))) ?_
      exact ok210_22 c d Post _ w
    · replace w := w.2 z5
      refine gw_pst hk 2 (st' := (26, [some (.ref r0), some (.int x1), some (.int x2)], [.ref r0, .ref r0], h_4)) rfl ?_
      obtain ⟨q_6, e6, w⟩ := w
      refine gw_gf (hk _ _ rfl) e6 ?_
      obtain ⟨⟨fs7, e7⟩, w⟩ := w
      refine gw_call (jj := 195) (As := [.ref r0, .ref q_6]) (rest := []) (hk _ _ rfl) (fun _ => rfl) rfl rfl (Nat.le_of_ble_eq_true rfl) (gm_rcv_v rfl e7 rfl) ?_
      refine ge_imp w (fun v7 h_7 w => ?_)
      obtain ⟨rfl, w⟩ := w
      show gV c d 210 (32, [some (.ref r0), some (.int x1), some (.int x2)], [], h_7) Post
      refine gw_pst hk 1 (st' := (33, [some (.ref r0), some (.int x1), some (.int x2)], [.ref r0], h_7)) rfl ?_
      obtain ⟨q_8, e8, w⟩ := w
      refine gw_gf (hk _ _ rfl) e8 ?_
      refine gw_pst hk 4 (st' := (41, [some (.ref r0), some (.int x1), some (.int x2)], [.ref r0, .int (6 + x1), .ref q_8], h_7)) rfl ?_
      obtain ⟨q_9, e9, w⟩ := w
      refine gw_gf (hk _ _ rfl) e9 ?_
      refine gw_pst hk 1 (st' := (45, [some (.ref r0), some (.int x1), some (.int x2)], [.int 0, .ref q_9, .int (6 + x1), .ref q_8], h_7)) rfl ?_
      obtain ⟨n10, f10, e10, b10, w⟩ := w
      refine gw_ald (hk _ _ rfl) (Or.inl ⟨rfl, rfl⟩) e10 b10 ?_
      refine gw_pst hk 4 (st' := (50, [some (.ref r0), some (.int x1), some (.int x2)], [.int (((f10 (0 : Int32).toNatClampNeg) + x2) - 1), .int (6 + x1), .ref q_8], h_7)) rfl ?_
      obtain ⟨n11, f11, e11, b11, w⟩ := w
      refine gw_ast (hk _ _ rfl) (Or.inl ⟨rfl, rfl, rfl⟩) e11 b11 ?_
      obtain ⟨h_11, eh11⟩ : ∃ z, z = gm_put h_7 q_8 (.inl (0, n11, .inl (upd f11 (6 + x1 : Int32).toNatClampNeg (vp_nar .int (((f10 (0 : Int32).toNatClampNeg) + x2) - 1))))) := ⟨_, rfl⟩
      rw [← eh11]
      replace w := w h_11 eh11
      refine gw_pst hk 1 (st' := (52, [some (.ref r0), some (.int x1), some (.int x2)], [.ref r0], h_11)) rfl ?_
      obtain ⟨q_12, e12, w⟩ := w
      refine gw_gf (hk _ _ rfl) e12 ?_
      refine gw_pst hk 3 (st' := (59, [some (.ref r0), some (.int x1), some (.int x2)], [.int (6 + x1), .ref q_12], h_11)) rfl ?_
      obtain ⟨n13, f13, e13, b13, w⟩ := w
      refine gw_ald (hk _ _ rfl) (Or.inl ⟨rfl, rfl⟩) e13 b13 ?_
      exact gw_ret (hk _ _ rfl) rfl w
def w211_136 (c : gx) (d : Nat) (Post : Option Value → gm_H → Prop) (r0 : Nat) (x2 : Int32) (rs0 : Nat) (xs1 : Int64) (h : gm_H) : Prop :=
  (∃ fs1, gm_get h rs0 = some (.inr (10, fs1))) ∧ gE c d 157 [.ref rs0, .long xs1] h (fun v1 h_1 => v1 = none ∧ ∃ q_2 : Nat, gm_fld h_1 r0 10 0 = some (.ref q_2) ∧ ∃ (n3 : Nat) (f3 : Nat → Int32), gm_get h_1 q_2 = some (.inl (0, n3, .inl f3)) ∧ vp_in 0 n3 ∧ (∃ fs4, gm_get h_1 r0 = some (.inr (10, fs4))) ∧ gE c d 157 [.ref r0, .long ((f3 (0 : Int32).toNatClampNeg : Int32).toInt64)] h_1 (fun v4 h_4 => v4 = none ∧ Post (some (.int x2)) h_4))
theorem ok211_136 (c : gx) (d : Nat) (Post : Option Value → gm_H → Prop)  (r0 : Nat) (x2 : Int32) (rs0 : Nat) (xs1 : Int64) (h : gm_H) (w : w211_136 c d Post r0 x2 rs0 xs1 h) : gV c d 211 (136, [some (.ref r0), none, some (.int x2)], [.long xs1, .ref rs0], h) Post := by
  have hk : ∀ pc i, gm_find gk_211 pc = some i → gm_code (gt_T c.1 c.2.1 c.2.2.1) 211 pc = some i := fun _ _ z => z
  unfold w211_136 at w
  unfold gV
  obtain ⟨⟨fs1, e1⟩, w⟩ := w
  refine gw_call (jj := 157) (As := [.ref rs0, .long xs1]) (rest := []) (hk _ _ rfl) (fun _ => rfl) rfl rfl (Nat.le_of_ble_eq_true rfl) (gm_rcv_v rfl e1 rfl) ?_
  refine ge_imp w (fun v1 h_1 w => ?_)
  obtain ⟨rfl, w⟩ := w
  show gV c d 211 (139, [some (.ref r0), none, some (.int x2)], [], h_1) Post
  refine gw_pst hk 2 (st' := (141, [some (.ref r0), none, some (.int x2)], [.ref r0, .ref r0], h_1)) rfl ?_
  obtain ⟨q_2, e2, w⟩ := w
  refine gw_gf (hk _ _ rfl) e2 ?_
  refine gw_pst hk 1 (st' := (145, [some (.ref r0), none, some (.int x2)], [.int 0, .ref q_2, .ref r0], h_1)) rfl ?_
  obtain ⟨n3, f3, e3, b3, w⟩ := w
  refine gw_ald (hk _ _ rfl) (Or.inl ⟨rfl, rfl⟩) e3 b3 ?_
  refine gw_pst hk 1 (st' := (147, [some (.ref r0), none, some (.int x2)], [.long ((f3 (0 : Int32).toNatClampNeg : Int32).toInt64), .ref r0], h_1)) rfl ?_
  obtain ⟨⟨fs4, e4⟩, w⟩ := w
  refine gw_call (jj := 157) (As := [.ref r0, .long ((f3 (0 : Int32).toNatClampNeg : Int32).toInt64)]) (rest := []) (hk _ _ rfl) (fun _ => rfl) rfl rfl (Nat.le_of_ble_eq_true rfl) (gm_rcv_v rfl e4 rfl) ?_
  refine ge_imp w (fun v4 h_4 w => ?_)
  obtain ⟨rfl, w⟩ := w
  show gV c d 211 (150, [some (.ref r0), none, some (.int x2)], [], h_4) Post
  refine gw_pst hk 1 (st' := (151, [some (.ref r0), none, some (.int x2)], [.int x2], h_4)) rfl ?_
  exact gw_ret (hk _ _ rfl) rfl w
def w211_120 (c : gx) (d : Nat) (Post : Option Value → gm_H → Prop) (r0 : Nat) (x1 : Int32) (x2 : Int32) (h : gm_H) : Prop :=
  ∃ fs1 : List Value, gm_get h r0 = some (.inr (10, fs1)) ∧ 12 < fs1.length ∧ ∀ h_1 : gm_H, h_1 = gm_put h r0 (.inr (10, fs1.set 12 (.int 0))) → ((x1 ≤ x2 → w211_136 c d Post r0 x2 r0 0 h_1) ∧ (¬ (x1 ≤ x2) → w211_136 c d Post r0 x2 r0 1 h_1))
theorem ok211_120 (c : gx) (d : Nat) (Post : Option Value → gm_H → Prop)  (r0 : Nat) (x1 : Int32) (x2 : Int32) (h : gm_H) (w : w211_120 c d Post r0 x1 x2 h) : gV c d 211 (120, [some (.ref r0), some (.int x1), some (.int x2)], [], h) Post := by
  have hk : ∀ pc i, gm_find gk_211 pc = some i → gm_code (gt_T c.1 c.2.1 c.2.2.1) 211 pc = some i := fun _ _ z => z
  unfold w211_120 at w
  unfold gV
  refine gw_pst hk 2 (st' := (122, [some (.ref r0), some (.int x1), some (.int x2)], [.int 0, .ref r0], h)) rfl ?_
  obtain ⟨fs1, e1, l1, w⟩ := w
  refine gw_pf (hk _ _ rfl) e1 l1 rfl ?_
  obtain ⟨h_1, eh1⟩ : ∃ z, z = gm_put h r0 (.inr (10, fs1.set 12 (.int 0))) := ⟨_, rfl⟩
  rw [← eh1]
  replace w := w h_1 eh1
  refine gw_pst hk 3 (st' := (128, [some (.ref r0), some (.int x1), some (.int x2)], [.int x1, .int x2, .ref r0], h_1)) rfl ?_
  refine gw_br (c := x1 ≤ x2) (a := (135, [some (.ref r0), some (.int x1), some (.int x2)], [.ref r0], h_1)) (b := (131, [some (.ref r0), some (.int x1), some (.int x2)], [.ref r0], h_1)) (hk _ _ rfl) rfl ⟨fun z2 => ?_, fun z2 => ?_⟩
  · replace w := w.1 z2
    refine gw_pst hk 1 (st' := (136, [some (.ref r0), some (.int x1), some (.int x2)], [.long 0, .ref r0], h_1)) rfl ?_
    refine gw_le (L' := [some (.ref r0), none, some (.int x2)]) (gm_le_k _ (gm_le_n _ (gm_le_k _ gm_le_nil))) ?_
    exact ok211_136 c d Post _ _ _ _ _ w
  · replace w := w.2 z2
    refine gw_pst hk 2 (st' := (136, [some (.ref r0), some (.int x1), some (.int x2)], [.long 1, .ref r0], h_1)) rfl ?_
    refine gw_le (L' := [some (.ref r0), none, some (.int x2)]) (gm_le_k _ (gm_le_n _ (gm_le_k _ gm_le_nil))) ?_
    exact ok211_136 c d Post _ _ _ _ _ w
def w211_108 (c : gx) (d : Nat) (Post : Option Value → gm_H → Prop) (r0 : Nat) (x1 : Int32) (x2 : Int32) (h : gm_H) : Prop :=
  ((x2 ≤ 0 → w211_120 c d Post r0 x1 x2 h) ∧ (¬ (x2 ≤ 0) → ∃ q_2 : Nat, gm_fld h r0 10 27 = some (.ref q_2) ∧ (∃ fs3, gm_get h r0 = some (.inr (10, fs3))) ∧ gE c d 195 [.ref r0, .ref q_2] h (fun v3 h_3 => v3 = none ∧ w211_120 c d Post r0 x1 x2 h_3)))
theorem ok211_108 (c : gx) (d : Nat) (Post : Option Value → gm_H → Prop)  (r0 : Nat) (x1 : Int32) (x2 : Int32) (h : gm_H) (w : w211_108 c d Post r0 x1 x2 h) : gV c d 211 (108, [some (.ref r0), some (.int x1), some (.int x2)], [], h) Post := by
  have hk : ∀ pc i, gm_find gk_211 pc = some i → gm_code (gt_T c.1 c.2.1 c.2.2.1) 211 pc = some i := fun _ _ z => z
  unfold w211_108 at w
  unfold gV
  refine gw_pst hk 1 (st' := (109, [some (.ref r0), some (.int x1), some (.int x2)], [.int x2], h)) rfl ?_
  refine gw_br (c := x2 ≤ 0) (a := (120, [some (.ref r0), some (.int x1), some (.int x2)], [], h)) (b := (112, [some (.ref r0), some (.int x1), some (.int x2)], [], h)) (hk _ _ rfl) rfl ⟨fun z1 => ?_, fun z1 => ?_⟩
  · replace w := w.1 z1
    exact ok211_120 c d Post _ _ _ _ w
  · replace w := w.2 z1
    refine gw_pst hk 2 (st' := (114, [some (.ref r0), some (.int x1), some (.int x2)], [.ref r0, .ref r0], h)) rfl ?_
    obtain ⟨q_2, e2, w⟩ := w
    refine gw_gf (hk _ _ rfl) e2 ?_
    obtain ⟨⟨fs3, e3⟩, w⟩ := w
    refine gw_call (jj := 195) (As := [.ref r0, .ref q_2]) (rest := []) (hk _ _ rfl) (fun _ => rfl) rfl rfl (Nat.le_of_ble_eq_true rfl) (gm_rcv_v rfl e3 rfl) ?_
    refine ge_imp w (fun v3 h_3 w => ?_)
    obtain ⟨rfl, w⟩ := w
    show gV c d 211 (120, [some (.ref r0), some (.int x1), some (.int x2)], [], h_3) Post
    exact ok211_120 c d Post _ _ _ _ w
def wb211_72 (c : gx) (d : Nat) (Post : Option Value → gm_H → Prop) (K72 : Nat → Int32 → Int32 → gm_H → Prop) (r0 : Nat) (x1 : Int32) (x2 : Int32) (h : gm_H) : Prop :=
  ((x1 ≤ x2 → w211_108 c d Post r0 x1 x2 h) ∧ (¬ (x1 ≤ x2) → ∃ q_2 : Nat, gm_fld h r0 10 29 = some (.ref q_2) ∧ ∃ (n3 : Nat) (f3 : Nat → Int32), gm_get h q_2 = some (.inl (0, n3, .inl f3)) ∧ vp_in (2 * x2) n3 ∧ ∃ q_4 : Nat, gm_fld h r0 10 29 = some (.ref q_4) ∧ ∃ (n5 : Nat) (f5 : Nat → Int32), gm_get h q_4 = some (.inl (0, n5, .inl f5)) ∧ vp_in ((2 * x2) + 1) n5 ∧ (∃ fs6, gm_get h r0 = some (.inr (10, fs6))) ∧ gE c d 213 [.ref r0, .int (f3 (2 * x2 : Int32).toNatClampNeg), .int (f5 ((2 * x2) + 1 : Int32).toNatClampNeg)] h (fun v6 h_6 => ∃ x_6 : Int32, v6 = some (.int x_6) ∧ ((x_6 = 0 → w211_108 c d Post r0 x1 x2 h_6) ∧ (¬ (x_6 = 0) → K72 r0 x1 (x2 + 1) h_6)))))
theorem okb211_72 (c : gx) (d : Nat) (Post : Option Value → gm_H → Prop) (K72 : Nat → Int32 → Int32 → gm_H → Prop)  (hK72 : ∀ (r0 : Nat) (x1 : Int32) (x2 : Int32) (h : gm_H), K72 r0 x1 x2 h → gV c d 211 (72, [some (.ref r0), some (.int x1), some (.int x2)], [], h) Post) (r0 : Nat) (x1 : Int32) (x2 : Int32) (h : gm_H) (w : wb211_72 c d Post K72 r0 x1 x2 h) : gV c d 211 (72, [some (.ref r0), some (.int x1), some (.int x2)], [], h) Post := by
  have hk : ∀ pc i, gm_find gk_211 pc = some i → gm_code (gt_T c.1 c.2.1 c.2.2.1) 211 pc = some i := fun _ _ z => z
  unfold wb211_72 at w
  unfold gV
  refine gw_pst hk 2 (st' := (74, [some (.ref r0), some (.int x1), some (.int x2)], [.int x1, .int x2], h)) rfl ?_
  refine gw_br (c := x1 ≤ x2) (a := (108, [some (.ref r0), some (.int x1), some (.int x2)], [], h)) (b := (77, [some (.ref r0), some (.int x1), some (.int x2)], [], h)) (hk _ _ rfl) rfl ⟨fun z1 => ?_, fun z1 => ?_⟩
  · replace w := w.1 z1
    exact ok211_108 c d Post _ _ _ _ w
  · replace w := w.2 z1
    refine gw_pst hk 2 (st' := (79, [some (.ref r0), some (.int x1), some (.int x2)], [.ref r0, .ref r0], h)) rfl ?_
    obtain ⟨q_2, e2, w⟩ := w
    refine gw_gf (hk _ _ rfl) e2 ?_
    refine gw_pst hk 3 (st' := (85, [some (.ref r0), some (.int x1), some (.int x2)], [.int (2 * x2), .ref q_2, .ref r0], h)) rfl ?_
    obtain ⟨n3, f3, e3, b3, w⟩ := w
    refine gw_ald (hk _ _ rfl) (Or.inl ⟨rfl, rfl⟩) e3 b3 ?_
    refine gw_pst hk 1 (st' := (87, [some (.ref r0), some (.int x1), some (.int x2)], [.ref r0, .int (f3 (2 * x2 : Int32).toNatClampNeg), .ref r0], h)) rfl ?_
    obtain ⟨q_4, e4, w⟩ := w
    refine gw_gf (hk _ _ rfl) e4 ?_
    refine gw_pst hk 5 (st' := (95, [some (.ref r0), some (.int x1), some (.int x2)], [.int ((2 * x2) + 1), .ref q_4, .int (f3 (2 * x2 : Int32).toNatClampNeg), .ref r0], h)) rfl ?_
    obtain ⟨n5, f5, e5, b5, w⟩ := w
    refine gw_ald (hk _ _ rfl) (Or.inl ⟨rfl, rfl⟩) e5 b5 ?_
    obtain ⟨⟨fs6, e6⟩, w⟩ := w
    refine gw_call (jj := 213) (As := [.ref r0, .int (f3 (2 * x2 : Int32).toNatClampNeg), .int (f5 ((2 * x2) + 1 : Int32).toNatClampNeg)]) (rest := []) (hk _ _ rfl) (fun _ => rfl) rfl rfl (Nat.le_of_ble_eq_true rfl) (gm_rcv_v rfl e6 rfl) ?_
    refine ge_imp w (fun v6 h_6 w => ?_)
    obtain ⟨x_6, rfl, w⟩ := w
    show gV c d 211 (99, [some (.ref r0), some (.int x1), some (.int x2)], [.int x_6], h_6) Post
    refine gw_br (c := x_6 = 0) (a := (108, [some (.ref r0), some (.int x1), some (.int x2)], [], h_6)) (b := (102, [some (.ref r0), some (.int x1), some (.int x2)], [], h_6)) (hk _ _ rfl) rfl ⟨fun z7 => ?_, fun z7 => ?_⟩
    · replace w := w.1 z7
      exact ok211_108 c d Post _ _ _ _ w
    · replace w := w.2 z7
      refine gw_pst hk 2 (st' := (72, [some (.ref r0), some (.int x1), some (.int (x2 + 1))], [], h_6)) rfl ?_
      exact hK72 _ _ _ _ w
def wl211_72 (c : gx) (d : Nat) (Post : Option Value → gm_H → Prop) : Nat → Nat → Int32 → Int32 → gm_H → Prop
  | 0 => fun _ _ _ _ => False
  | n + 1 => wb211_72 c d Post (wl211_72 c d Post n)
theorem okl211_72 (c : gx) (d : Nat) (Post : Option Value → gm_H → Prop) : ∀ (n : Nat) (r0 : Nat) (x1 : Int32) (x2 : Int32) (h : gm_H), wl211_72 c d Post n r0 x1 x2 h → gV c d 211 (72, [some (.ref r0), some (.int x1), some (.int x2)], [], h) Post
  | 0, _, _, _, _, w => w.elim
  | n + 1, r0, x1, x2, h, w => okb211_72 c d Post (wl211_72 c d Post n) (okl211_72 c d Post n) r0 x1 x2 h w
def w211_44 (c : gx) (d : Nat) (Post : Option Value → gm_H → Prop) (r0 : Nat) (x1 : Int32) (h : gm_H) : Prop :=
  (∃ fs1, gm_get h r0 = some (.inr (10, fs1))) ∧ gE c d 171 [.ref r0] h (fun v1 h_1 => ∃ x_1 : Int32, v1 = some (.int x_1) ∧ ((x_1 = 0 → ∃ x_3 : Int32, gm_fld h_1 r0 10 18 = some (.int x_3) ∧ Post (some (.int ((-1) - x_3))) h_1) ∧ (¬ (x_1 = 0) → ∃ q_4 : Nat, gm_fld h_1 r0 10 0 = some (.ref q_4) ∧ ∃ q_5 : Nat, gm_fld h_1 r0 10 27 = some (.ref q_5) ∧ gE c d 194 [.ref q_4, .ref q_5, .int 0] h_1 (fun v6 h_6 => v6 = none ∧ ∃ n, wl211_72 c d Post n r0 x1 0 h_6))))
theorem ok211_44 (c : gx) (d : Nat) (Post : Option Value → gm_H → Prop)  (r0 : Nat) (x1 : Int32) (h : gm_H) (w : w211_44 c d Post r0 x1 h) : gV c d 211 (44, [some (.ref r0), some (.int x1), none], [], h) Post := by
  have hk : ∀ pc i, gm_find gk_211 pc = some i → gm_code (gt_T c.1 c.2.1 c.2.2.1) 211 pc = some i := fun _ _ z => z
  unfold w211_44 at w
  unfold gV
  refine gw_pst hk 1 (st' := (45, [some (.ref r0), some (.int x1), none], [.ref r0], h)) rfl ?_
  obtain ⟨⟨fs1, e1⟩, w⟩ := w
  refine gw_call (jj := 171) (As := [.ref r0]) (rest := []) (hk _ _ rfl) (fun _ => rfl) rfl rfl (Nat.le_of_ble_eq_true rfl) (gm_rcv_v rfl e1 rfl) ?_
  refine ge_imp w (fun v1 h_1 w => ?_)
  obtain ⟨x_1, rfl, w⟩ := w
  show gV c d 211 (48, [some (.ref r0), some (.int x1), none], [.int x_1], h_1) Post
  refine gw_br (c := x_1 = 0) (a := (51, [some (.ref r0), some (.int x1), none], [], h_1)) (b := (58, [some (.ref r0), some (.int x1), none], [], h_1)) (hk _ _ rfl) rfl ⟨fun z2 => ?_, fun z2 => ?_⟩
  · replace w := w.1 z2
    refine gw_pst hk 2 (st' := (53, [some (.ref r0), some (.int x1), none], [.ref r0, .int (-1)], h_1)) rfl ?_
    obtain ⟨x_3, e3, w⟩ := w
    refine gw_gf (hk _ _ rfl) e3 ?_
    refine gw_pst hk 1 (st' := (57, [some (.ref r0), some (.int x1), none], [.int ((-1) - x_3)], h_1)) rfl ?_
    exact gw_ret (hk _ _ rfl) rfl w
  · replace w := w.2 z2
    refine gw_pst hk 1 (st' := (59, [some (.ref r0), some (.int x1), none], [.ref r0], h_1)) rfl ?_
    obtain ⟨q_4, e4, w⟩ := w
    refine gw_gf (hk _ _ rfl) e4 ?_
    refine gw_pst hk 1 (st' := (63, [some (.ref r0), some (.int x1), none], [.ref r0, .ref q_4], h_1)) rfl ?_
    obtain ⟨q_5, e5, w⟩ := w
    refine gw_gf (hk _ _ rfl) e5 ?_
    refine gw_pst hk 1 (st' := (67, [some (.ref r0), some (.int x1), none], [.int 0, .ref q_5, .ref q_4], h_1)) rfl ?_
    refine gw_call (jj := 194) (As := [.ref q_4, .ref q_5, .int 0]) (rest := []) (hk _ _ rfl) (fun _ => rfl) rfl rfl (Nat.le_of_ble_eq_true rfl) rfl ?_
    refine ge_imp w (fun v6 h_6 w => ?_)
    obtain ⟨rfl, w⟩ := w
    show gV c d 211 (70, [some (.ref r0), some (.int x1), none], [], h_6) Post
    refine gw_pst hk 2 (st' := (72, [some (.ref r0), some (.int x1), some (.int 0)], [], h_6)) rfl ?_
    obtain ⟨n, w⟩ := w
    exact okl211_72 c d Post n _ _ _ _ w
def wb211_13 (c : gx) (d : Nat) (Post : Option Value → gm_H → Prop) (K13 : Nat → Int32 → gm_H → Prop) (r0 : Nat) (x1 : Int32) (h : gm_H) : Prop :=
  (∃ fs1, gm_get h r0 = some (.inr (10, fs1))) ∧ gE c d 165 [.ref r0] h (fun v1 h_1 => ∃ x_1 : Int32, v1 = some (.int x_1) ∧ ((x_1 = 0 → w211_44 c d Post r0 x1 h_1) ∧ (¬ (x_1 = 0) → ∃ x_3 : Int32, gm_fld h_1 r0 10 17 = some (.int x_3) ∧ ∃ x_4 : Int32, gm_fld h_1 r0 10 15 = some (.int x_4) ∧ ((x_4 ≤ x_3 → w211_44 c d Post r0 x1 h_1) ∧ (¬ (x_4 ≤ x_3) → (∃ fs6, gm_get h_1 r0 = some (.inr (10, fs6))) ∧ gE c d 212 [.ref r0, .int (2 * x1)] h_1 (fun v6 h_6 => v6 = none ∧ K13 r0 (x1 + 1) h_6))))))
theorem okb211_13 (c : gx) (d : Nat) (Post : Option Value → gm_H → Prop) (K13 : Nat → Int32 → gm_H → Prop)  (hK13 : ∀ (r0 : Nat) (x1 : Int32) (h : gm_H), K13 r0 x1 h → gV c d 211 (13, [some (.ref r0), some (.int x1), none], [], h) Post) (r0 : Nat) (x1 : Int32) (h : gm_H) (w : wb211_13 c d Post K13 r0 x1 h) : gV c d 211 (13, [some (.ref r0), some (.int x1), none], [], h) Post := by
  have hk : ∀ pc i, gm_find gk_211 pc = some i → gm_code (gt_T c.1 c.2.1 c.2.2.1) 211 pc = some i := fun _ _ z => z
  unfold wb211_13 at w
  unfold gV
  refine gw_pst hk 1 (st' := (14, [some (.ref r0), some (.int x1), none], [.ref r0], h)) rfl ?_
  obtain ⟨⟨fs1, e1⟩, w⟩ := w
  refine gw_call (jj := 165) (As := [.ref r0]) (rest := []) (hk _ _ rfl) (fun _ => rfl) rfl rfl (Nat.le_of_ble_eq_true rfl) (gm_rcv_v rfl e1 rfl) ?_
  refine ge_imp w (fun v1 h_1 w => ?_)
  obtain ⟨x_1, rfl, w⟩ := w
  show gV c d 211 (17, [some (.ref r0), some (.int x1), none], [.int x_1], h_1) Post
  refine gw_br (c := x_1 = 0) (a := (44, [some (.ref r0), some (.int x1), none], [], h_1)) (b := (20, [some (.ref r0), some (.int x1), none], [], h_1)) (hk _ _ rfl) rfl ⟨fun z2 => ?_, fun z2 => ?_⟩
  · replace w := w.1 z2
    exact ok211_44 c d Post _ _ _ w
  · replace w := w.2 z2
    refine gw_pst hk 1 (st' := (21, [some (.ref r0), some (.int x1), none], [.ref r0], h_1)) rfl ?_
    obtain ⟨x_3, e3, w⟩ := w
    refine gw_gf (hk _ _ rfl) e3 ?_
    refine gw_pst hk 1 (st' := (25, [some (.ref r0), some (.int x1), none], [.ref r0, .int x_3], h_1)) rfl ?_
    obtain ⟨x_4, e4, w⟩ := w
    refine gw_gf (hk _ _ rfl) e4 ?_
    refine gw_br (c := x_4 ≤ x_3) (a := (44, [some (.ref r0), some (.int x1), none], [], h_1)) (b := (31, [some (.ref r0), some (.int x1), none], [], h_1)) (hk _ _ rfl) rfl ⟨fun z5 => ?_, fun z5 => ?_⟩
    · replace w := w.1 z5
      exact ok211_44 c d Post _ _ _ w
    · replace w := w.2 z5
      refine gw_pst hk 4 (st' := (35, [some (.ref r0), some (.int x1), none], [.int (2 * x1), .ref r0], h_1)) rfl ?_
      obtain ⟨⟨fs6, e6⟩, w⟩ := w
      refine gw_call (jj := 212) (As := [.ref r0, .int (2 * x1)]) (rest := []) (hk _ _ rfl) (fun _ => rfl) rfl rfl (Nat.le_of_ble_eq_true rfl) (gm_rcv_v rfl e6 rfl) ?_
      refine ge_imp w (fun v6 h_6 w => ?_)
      obtain ⟨rfl, w⟩ := w
      show gV c d 211 (38, [some (.ref r0), some (.int x1), none], [], h_6) Post
      refine gw_pst hk 2 (st' := (13, [some (.ref r0), some (.int (x1 + 1)), none], [], h_6)) rfl ?_
      exact hK13 _ _ _ w
def wl211_13 (c : gx) (d : Nat) (Post : Option Value → gm_H → Prop) : Nat → Nat → Int32 → gm_H → Prop
  | 0 => fun _ _ _ => False
  | n + 1 => wb211_13 c d Post (wl211_13 c d Post n)
theorem okl211_13 (c : gx) (d : Nat) (Post : Option Value → gm_H → Prop) : ∀ (n : Nat) (r0 : Nat) (x1 : Int32) (h : gm_H), wl211_13 c d Post n r0 x1 h → gV c d 211 (13, [some (.ref r0), some (.int x1), none], [], h) Post
  | 0, _, _, _, w => w.elim
  | n + 1, r0, x1, h, w => okb211_13 c d Post (wl211_13 c d Post n) (okl211_13 c d Post n) r0 x1 h w
/-- CommandByTurnsModel.war()I -/
def wm211 (c : gx) (d : Nat) (Post : Option Value → gm_H → Prop) (r0 : Nat) (h : gm_H) : Prop :=
  ∃ fs1 : List Value, gm_get h r0 = some (.inr (10, fs1)) ∧ 13 < fs1.length ∧ ∀ h_1 : gm_H, h_1 = gm_put h r0 (.inr (10, fs1.set 13 (.int 0))) → (∃ fs2, gm_get h_1 r0 = some (.inr (10, fs2))) ∧ gE c d 163 [.ref r0, .int 60] h_1 (fun v2 h_2 => v2 = none ∧ ∃ n, wl211_13 c d Post n r0 0 h_2)
theorem okm211 (c : gx) (d : Nat) (Post : Option Value → gm_H → Prop) (r0 : Nat) (h : gm_H) (w : wm211 c d Post r0 h) : gE c (d + 1) 211 [.ref r0] h Post := by
  have hk : ∀ pc i, gm_find gk_211 pc = some i → gm_code (gt_T c.1 c.2.1 c.2.2.1) 211 pc = some i := fun _ _ z => z
  unfold wm211 at w
  refine ge_of (by decide) (Nat.le_of_ble_eq_true rfl) ?_
  show gV c d 211 (0, [some (.ref r0), none, none], [], h) Post
  unfold gV
  refine gw_pst hk 2 (st' := (2, [some (.ref r0), none, none], [.int 0, .ref r0], h)) rfl ?_
  obtain ⟨fs1, e1, l1, w⟩ := w
  refine gw_pf (hk _ _ rfl) e1 l1 rfl ?_
  obtain ⟨h_1, eh1⟩ : ∃ z, z = gm_put h r0 (.inr (10, fs1.set 13 (.int 0))) := ⟨_, rfl⟩
  rw [← eh1]
  replace w := w h_1 eh1
  refine gw_pst hk 2 (st' := (8, [some (.ref r0), none, none], [.int 60, .ref r0], h_1)) rfl ?_
  obtain ⟨⟨fs2, e2⟩, w⟩ := w
  refine gw_call (jj := 163) (As := [.ref r0, .int 60]) (rest := []) (hk _ _ rfl) (fun _ => rfl) rfl rfl (Nat.le_of_ble_eq_true rfl) (gm_rcv_v rfl e2 rfl) ?_
  refine ge_imp w (fun v2 h_2 w => ?_)
  obtain ⟨rfl, w⟩ := w
  show gV c d 211 (11, [some (.ref r0), none, none], [], h_2) Post
  refine gw_pst hk 2 (st' := (13, [some (.ref r0), some (.int 0), none], [], h_2)) rfl ?_
  obtain ⟨n, w⟩ := w
  exact okl211_13 c d Post n _ _ _ w
def w212_146 (c : gx) (d : Nat) (Post : Option Value → gm_H → Prop)  (h : gm_H) : Prop :=
  Post none h
theorem ok212_146 (c : gx) (d : Nat) (Post : Option Value → gm_H → Prop)   (h : gm_H) (w : w212_146 c d Post  h) : gV c d 212 (146, [none, none, none], [], h) Post := by
  have hk : ∀ pc i, gm_find gk_212 pc = some i → gm_code (gt_T c.1 c.2.1 c.2.2.1) 212 pc = some i := fun _ _ z => z
  unfold w212_146 at w
  unfold gV
  exact gw_ret (hk _ _ rfl) rfl w
def w212_145 (c : gx) (d : Nat) (Post : Option Value → gm_H → Prop) (rs0 : Nat) (xs1 : Int32) (xs2 : Int32) (h : gm_H) : Prop :=
  ∃ (n1 : Nat) (f1 : Nat → Int32), gm_get h rs0 = some (.inl (0, n1, .inl f1)) ∧ vp_in xs1 n1 ∧ ∀ h_1 : gm_H, h_1 = gm_put h rs0 (.inl (0, n1, .inl (upd f1 (xs1 : Int32).toNatClampNeg (vp_nar .int xs2)))) → w212_146 c d Post h_1
theorem ok212_145 (c : gx) (d : Nat) (Post : Option Value → gm_H → Prop)  (rs0 : Nat) (xs1 : Int32) (xs2 : Int32) (h : gm_H) (w : w212_145 c d Post rs0 xs1 xs2 h) : gV c d 212 (145, [none, none, none], [.int xs2, .int xs1, .ref rs0], h) Post := by
  have hk : ∀ pc i, gm_find gk_212 pc = some i → gm_code (gt_T c.1 c.2.1 c.2.2.1) 212 pc = some i := fun _ _ z => z
  unfold w212_145 at w
  unfold gV
  obtain ⟨n1, f1, e1, b1, w⟩ := w
  refine gw_ast (hk _ _ rfl) (Or.inl ⟨rfl, rfl, rfl⟩) e1 b1 ?_
  obtain ⟨h_1, eh1⟩ : ∃ z, z = gm_put h rs0 (.inl (0, n1, .inl (upd f1 (xs1 : Int32).toNatClampNeg (vp_nar .int xs2)))) := ⟨_, rfl⟩
  rw [← eh1]
  replace w := w h_1 eh1
  exact ok212_146 c d Post _ w
def w212_97 (c : gx) (d : Nat) (Post : Option Value → gm_H → Prop) (r0 : Nat) (x1 : Int32) (x2 : Int32) (h : gm_H) : Prop :=
  ((x2 = 102 → ∃ q_2 : Nat, gm_fld h r0 10 29 = some (.ref q_2) ∧ (∃ fs3, gm_get h r0 = some (.inr (10, fs3))) ∧ gE c d 164 [.ref r0] h (fun v3 h_3 => ∃ x_3 : Int32, v3 = some (.int x_3) ∧ gE c d 154 [.int x_3, .int 97, .int 98] h_3 (fun v4 h_4 => ∃ x_4 : Int32, v4 = some (.int x_4) ∧ ((x_4 = 0 → (∃ fs6, gm_get h_4 r0 = some (.inr (10, fs6))) ∧ gE c d 169 [.ref r0, .int 48, .int 10] h_4 (fun v6 h_6 => ∃ x_6 : Int32, v6 = some (.int x_6) ∧ w212_145 c d Post q_2 (x1 + 1) x_6 h_6)) ∧ (¬ (x_4 = 0) → (∃ fs7, gm_get h_4 r0 = some (.inr (10, fs7))) ∧ gE c d 169 [.ref r0, .int 97, .int 2] h_4 (fun v7 h_7 => ∃ x_7 : Int32, v7 = some (.int x_7) ∧ w212_145 c d Post q_2 (x1 + 1) (10 + x_7) h_7)))))) ∧ (¬ (x2 = 102) → w212_146 c d Post h))
theorem ok212_97 (c : gx) (d : Nat) (Post : Option Value → gm_H → Prop)  (r0 : Nat) (x1 : Int32) (x2 : Int32) (h : gm_H) (w : w212_97 c d Post r0 x1 x2 h) : gV c d 212 (97, [some (.ref r0), some (.int x1), some (.int x2)], [], h) Post := by
  have hk : ∀ pc i, gm_find gk_212 pc = some i → gm_code (gt_T c.1 c.2.1 c.2.2.1) 212 pc = some i := fun _ _ z => z
  unfold w212_97 at w
  unfold gV
  refine gw_pst hk 2 (st' := (100, [some (.ref r0), some (.int x1), some (.int x2)], [.int 102, .int x2], h)) rfl ?_
  refine gw_br (c := x2 = 102) (a := (103, [some (.ref r0), some (.int x1), some (.int x2)], [], h)) (b := (146, [some (.ref r0), some (.int x1), some (.int x2)], [], h)) (hk _ _ rfl) rfl ⟨fun z1 => ?_, fun z1 => ?_⟩
  · replace w := w.1 z1
    refine gw_pst hk 1 (st' := (104, [some (.ref r0), some (.int x1), some (.int x2)], [.ref r0], h)) rfl ?_
    obtain ⟨q_2, e2, w⟩ := w
    refine gw_gf (hk _ _ rfl) e2 ?_
    refine gw_pst hk 4 (st' := (111, [some (.ref r0), some (.int x1), some (.int x2)], [.ref r0, .int (x1 + 1), .ref q_2], h)) rfl ?_
    obtain ⟨⟨fs3, e3⟩, w⟩ := w
    refine gw_call (jj := 164) (As := [.ref r0]) (rest := [.int (x1 + 1), .ref q_2]) (hk _ _ rfl) (fun _ => rfl) rfl rfl (Nat.le_of_ble_eq_true rfl) (gm_rcv_v rfl e3 rfl) ?_
    refine ge_imp w (fun v3 h_3 w => ?_)
    obtain ⟨x_3, rfl, w⟩ := w
    show gV c d 212 (114, [some (.ref r0), some (.int x1), some (.int x2)], [.int x_3, .int (x1 + 1), .ref q_2], h_3) Post
    refine gw_pst hk 2 (st' := (118, [some (.ref r0), some (.int x1), some (.int x2)], [.int 98, .int 97, .int x_3, .int (x1 + 1), .ref q_2], h_3)) rfl ?_
    refine gw_call (jj := 154) (As := [.int x_3, .int 97, .int 98]) (rest := [.int (x1 + 1), .ref q_2]) (hk _ _ rfl) (fun _ => rfl) rfl rfl (Nat.le_of_ble_eq_true rfl) rfl ?_
    refine ge_imp w (fun v4 h_4 w => ?_)
    obtain ⟨x_4, rfl, w⟩ := w
    show gV c d 212 (121, [some (.ref r0), some (.int x1), some (.int x2)], [.int x_4, .int (x1 + 1), .ref q_2], h_4) Post
    refine gw_br (c := x_4 = 0) (a := (137, [some (.ref r0), some (.int x1), some (.int x2)], [.int (x1 + 1), .ref q_2], h_4)) (b := (124, [some (.ref r0), some (.int x1), some (.int x2)], [.int (x1 + 1), .ref q_2], h_4)) (hk _ _ rfl) rfl ⟨fun z5 => ?_, fun z5 => ?_⟩
    · replace w := w.1 z5
      refine gw_pst hk 3 (st' := (142, [some (.ref r0), some (.int x1), some (.int x2)], [.int 10, .int 48, .ref r0, .int (x1 + 1), .ref q_2], h_4)) rfl ?_
      obtain ⟨⟨fs6, e6⟩, w⟩ := w
      refine gw_call (jj := 169) (As := [.ref r0, .int 48, .int 10]) (rest := [.int (x1 + 1), .ref q_2]) (hk _ _ rfl) (fun _ => rfl) rfl rfl (Nat.le_of_ble_eq_true rfl) (gm_rcv_v rfl e6 rfl) ?_
      refine ge_imp w (fun v6 h_6 w => ?_)
      obtain ⟨x_6, rfl, w⟩ := w
      show gV c d 212 (145, [some (.ref r0), some (.int x1), some (.int x2)], [.int x_6, .int (x1 + 1), .ref q_2], h_6) Post
      refine gw_le (L' := [none, none, none]) (gm_le_n _ (gm_le_n _ (gm_le_n _ gm_le_nil))) ?_
      exact ok212_145 c d Post _ _ _ _ w
    · replace w := w.2 z5
      refine gw_pst hk 4 (st' := (130, [some (.ref r0), some (.int x1), some (.int x2)], [.int 2, .int 97, .ref r0, .int 10, .int (x1 + 1), .ref q_2], h_4)) rfl ?_
      obtain ⟨⟨fs7, e7⟩, w⟩ := w
      refine gw_call (jj := 169) (As := [.ref r0, .int 97, .int 2]) (rest := [.int 10, .int (x1 + 1), .ref q_2]) (hk _ _ rfl) (fun _ => rfl) rfl rfl (Nat.le_of_ble_eq_true rfl) (gm_rcv_v rfl e7 rfl) ?_
      refine ge_imp w (fun v7 h_7 w => ?_)
      obtain ⟨x_7, rfl, w⟩ := w
      show gV c d 212 (133, [some (.ref r0), some (.int x1), some (.int x2)], [.int x_7, .int 10, .int (x1 + 1), .ref q_2], h_7) Post
      refine gw_pst hk 2 (st' := (145, [some (.ref r0), some (.int x1), some (.int x2)], [.int (10 + x_7), .int (x1 + 1), .ref q_2], h_7)) rfl ?_
      refine gw_le (L' := [none, none, none]) (gm_le_n _ (gm_le_n _ (gm_le_n _ gm_le_nil))) ?_
      exact ok212_145 c d Post _ _ _ _ w
  · replace w := w.2 z1
    refine gw_le (L' := [none, none, none]) (gm_le_n _ (gm_le_n _ (gm_le_n _ gm_le_nil))) ?_
    exact ok212_146 c d Post _ w
def w212_79 (c : gx) (d : Nat) (Post : Option Value → gm_H → Prop) (r0 : Nat) (x1 : Int32) (x2 : Int32) (h : gm_H) : Prop :=
  ∃ q_1 : Nat, gm_fld h r0 10 29 = some (.ref q_1) ∧ (∃ fs2, gm_get h r0 = some (.inr (10, fs2))) ∧ gE c d 169 [.ref r0, .int 49, .int 9] h (fun v2 h_2 => ∃ x_2 : Int32, v2 = some (.int x_2) ∧ ∃ (n3 : Nat) (f3 : Nat → Int32), gm_get h_2 q_1 = some (.inl (0, n3, .inl f3)) ∧ vp_in (x1 + 1) n3 ∧ ∀ h_3 : gm_H, h_3 = gm_put h_2 q_1 (.inl (0, n3, .inl (upd f3 (x1 + 1 : Int32).toNatClampNeg (vp_nar .int (x_2 + 1))))) → w212_97 c d Post r0 x1 x2 h_3)
theorem ok212_79 (c : gx) (d : Nat) (Post : Option Value → gm_H → Prop)  (r0 : Nat) (x1 : Int32) (x2 : Int32) (h : gm_H) (w : w212_79 c d Post r0 x1 x2 h) : gV c d 212 (79, [some (.ref r0), some (.int x1), some (.int x2)], [], h) Post := by
  have hk : ∀ pc i, gm_find gk_212 pc = some i → gm_code (gt_T c.1 c.2.1 c.2.2.1) 212 pc = some i := fun _ _ z => z
  unfold w212_79 at w
  unfold gV
  refine gw_pst hk 1 (st' := (80, [some (.ref r0), some (.int x1), some (.int x2)], [.ref r0], h)) rfl ?_
  obtain ⟨q_1, e1, w⟩ := w
  refine gw_gf (hk _ _ rfl) e1 ?_
  refine gw_pst hk 6 (st' := (91, [some (.ref r0), some (.int x1), some (.int x2)], [.int 9, .int 49, .ref r0, .int (x1 + 1), .ref q_1], h)) rfl ?_
  obtain ⟨⟨fs2, e2⟩, w⟩ := w
  refine gw_call (jj := 169) (As := [.ref r0, .int 49, .int 9]) (rest := [.int (x1 + 1), .ref q_1]) (hk _ _ rfl) (fun _ => rfl) rfl rfl (Nat.le_of_ble_eq_true rfl) (gm_rcv_v rfl e2 rfl) ?_
  refine ge_imp w (fun v2 h_2 w => ?_)
  obtain ⟨x_2, rfl, w⟩ := w
  show gV c d 212 (94, [some (.ref r0), some (.int x1), some (.int x2)], [.int x_2, .int (x1 + 1), .ref q_1], h_2) Post
  refine gw_pst hk 2 (st' := (96, [some (.ref r0), some (.int x1), some (.int x2)], [.int (x_2 + 1), .int (x1 + 1), .ref q_1], h_2)) rfl ?_
  obtain ⟨n3, f3, e3, b3, w⟩ := w
  refine gw_ast (hk _ _ rfl) (Or.inl ⟨rfl, rfl, rfl⟩) e3 b3 ?_
  obtain ⟨h_3, eh3⟩ : ∃ z, z = gm_put h_2 q_1 (.inl (0, n3, .inl (upd f3 (x1 + 1 : Int32).toNatClampNeg (vp_nar .int (x_2 + 1))))) := ⟨_, rfl⟩
  rw [← eh3]
  replace w := w h_3 eh3
  exact ok212_97 c d Post _ _ _ _ w
def w212_50 (c : gx) (d : Nat) (Post : Option Value → gm_H → Prop) (r0 : Nat) (x1 : Int32) (x2 : Int32) (h : gm_H) : Prop :=
  ∃ x_1 : Int32, gm_fld h r0 10 17 = some (.int x_1) ∧ ∃ fs2 : List Value, gm_get h r0 = some (.inr (10, fs2)) ∧ 17 < fs2.length ∧ ∀ h_2 : gm_H, h_2 = gm_put h r0 (.inr (10, fs2.set 17 (.int (x_1 + 1)))) → ∃ q_3 : Nat, gm_fld h_2 r0 10 29 = some (.ref q_3) ∧ ∃ (n4 : Nat) (f4 : Nat → Int32), gm_get h_2 q_3 = some (.inl (0, n4, .inl f4)) ∧ vp_in x1 n4 ∧ ∀ h_4 : gm_H, h_4 = gm_put h_2 q_3 (.inl (0, n4, .inl (upd f4 (x1 : Int32).toNatClampNeg (vp_nar .int x2)))) → ((x2 = 62 → w212_79 c d Post r0 x1 x2 h_4) ∧ (¬ (x2 = 62) → ((x2 = 60 → w212_79 c d Post r0 x1 x2 h_4) ∧ (¬ (x2 = 60) → w212_97 c d Post r0 x1 x2 h_4))))
theorem ok212_50 (c : gx) (d : Nat) (Post : Option Value → gm_H → Prop)  (r0 : Nat) (x1 : Int32) (x2 : Int32) (h : gm_H) (w : w212_50 c d Post r0 x1 x2 h) : gV c d 212 (50, [some (.ref r0), some (.int x1), some (.int x2)], [], h) Post := by
  have hk : ∀ pc i, gm_find gk_212 pc = some i → gm_code (gt_T c.1 c.2.1 c.2.2.1) 212 pc = some i := fun _ _ z => z
  unfold w212_50 at w
  unfold gV
  refine gw_pst hk 2 (st' := (52, [some (.ref r0), some (.int x1), some (.int x2)], [.ref r0, .ref r0], h)) rfl ?_
  obtain ⟨x_1, e1, w⟩ := w
  refine gw_gf (hk _ _ rfl) e1 ?_
  refine gw_pst hk 2 (st' := (57, [some (.ref r0), some (.int x1), some (.int x2)], [.int (x_1 + 1), .ref r0], h)) rfl ?_
  obtain ⟨fs2, e2, l2, w⟩ := w
  refine gw_pf (hk _ _ rfl) e2 l2 rfl ?_
  obtain ⟨h_2, eh2⟩ : ∃ z, z = gm_put h r0 (.inr (10, fs2.set 17 (.int (x_1 + 1)))) := ⟨_, rfl⟩
  rw [← eh2]
  replace w := w h_2 eh2
  refine gw_pst hk 1 (st' := (61, [some (.ref r0), some (.int x1), some (.int x2)], [.ref r0], h_2)) rfl ?_
  obtain ⟨q_3, e3, w⟩ := w
  refine gw_gf (hk _ _ rfl) e3 ?_
  refine gw_pst hk 2 (st' := (66, [some (.ref r0), some (.int x1), some (.int x2)], [.int x2, .int x1, .ref q_3], h_2)) rfl ?_
  obtain ⟨n4, f4, e4, b4, w⟩ := w
  refine gw_ast (hk _ _ rfl) (Or.inl ⟨rfl, rfl, rfl⟩) e4 b4 ?_
  obtain ⟨h_4, eh4⟩ : ∃ z, z = gm_put h_2 q_3 (.inl (0, n4, .inl (upd f4 (x1 : Int32).toNatClampNeg (vp_nar .int x2)))) := ⟨_, rfl⟩
  rw [← eh4]
  replace w := w h_4 eh4
  refine gw_pst hk 2 (st' := (70, [some (.ref r0), some (.int x1), some (.int x2)], [.int 62, .int x2], h_4)) rfl ?_
  refine gw_br (c := x2 = 62) (a := (79, [some (.ref r0), some (.int x1), some (.int x2)], [], h_4)) (b := (73, [some (.ref r0), some (.int x1), some (.int x2)], [], h_4)) (hk _ _ rfl) rfl ⟨fun z5 => ?_, fun z5 => ?_⟩
  · replace w := w.1 z5
    exact ok212_79 c d Post _ _ _ _ w
  · replace w := w.2 z5
    refine gw_pst hk 2 (st' := (76, [some (.ref r0), some (.int x1), some (.int x2)], [.int 60, .int x2], h_4)) rfl ?_
    refine gw_br (c := x2 = 60) (a := (79, [some (.ref r0), some (.int x1), some (.int x2)], [], h_4)) (b := (97, [some (.ref r0), some (.int x1), some (.int x2)], [], h_4)) (hk _ _ rfl) rfl ⟨fun z6 => ?_, fun z6 => ?_⟩
    · replace w := w.1 z6
      exact ok212_79 c d Post _ _ _ _ w
    · replace w := w.2 z6
      exact ok212_97 c d Post _ _ _ _ w
/-- CommandByTurnsModel.readAct(I)V -/
def wm212 (c : gx) (d : Nat) (Post : Option Value → gm_H → Prop) (r0 : Nat) (x1 : Int32) (h : gm_H) : Prop :=
  (∃ fs1, gm_get h r0 = some (.inr (10, fs1))) ∧ gE c d 164 [.ref r0] h (fun v1 h_1 => ∃ x_1 : Int32, v1 = some (.int x_1) ∧ ((x_1 = 62 → w212_50 c d Post r0 x1 x_1 h_1) ∧ (¬ (x_1 = 62) → ((x_1 = 60 → w212_50 c d Post r0 x1 x_1 h_1) ∧ (¬ (x_1 = 60) → ((x_1 = 104 → w212_50 c d Post r0 x1 x_1 h_1) ∧ (¬ (x_1 = 104) → ((x_1 = 120 → w212_50 c d Post r0 x1 x_1 h_1) ∧ (¬ (x_1 = 120) → ((x_1 = 102 → w212_50 c d Post r0 x1 x_1 h_1) ∧ (¬ (x_1 = 102) → ((x_1 = 108 → w212_50 c d Post r0 x1 x_1 h_1) ∧ (¬ (x_1 = 108) → ∃ x_8 : Int32, gm_fld h_1 r0 10 17 = some (.int x_8) ∧ (∃ fs9, gm_get h_1 r0 = some (.inr (10, fs9))) ∧ gE c d 166 [.ref r0, .int x_8] h_1 (fun v9 h_9 => v9 = none ∧ Post none h_9))))))))))))))
theorem okm212 (c : gx) (d : Nat) (Post : Option Value → gm_H → Prop) (r0 : Nat) (x1 : Int32) (h : gm_H) (w : wm212 c d Post r0 x1 h) : gE c (d + 1) 212 [.ref r0, .int x1] h Post := by
  have hk : ∀ pc i, gm_find gk_212 pc = some i → gm_code (gt_T c.1 c.2.1 c.2.2.1) 212 pc = some i := fun _ _ z => z
  unfold wm212 at w
  refine ge_of (by decide) (Nat.le_of_ble_eq_true rfl) ?_
  show gV c d 212 (0, [some (.ref r0), some (.int x1), none], [], h) Post
  unfold gV
  refine gw_pst hk 1 (st' := (1, [some (.ref r0), some (.int x1), none], [.ref r0], h)) rfl ?_
  obtain ⟨⟨fs1, e1⟩, w⟩ := w
  refine gw_call (jj := 164) (As := [.ref r0]) (rest := []) (hk _ _ rfl) (fun _ => rfl) rfl rfl (Nat.le_of_ble_eq_true rfl) (gm_rcv_v rfl e1 rfl) ?_
  refine ge_imp w (fun v1 h_1 w => ?_)
  obtain ⟨x_1, rfl, w⟩ := w
  show gV c d 212 (4, [some (.ref r0), some (.int x1), none], [.int x_1], h_1) Post
  refine gw_pst hk 3 (st' := (8, [some (.ref r0), some (.int x1), some (.int x_1)], [.int 62, .int x_1], h_1)) rfl ?_
  refine gw_br (c := x_1 = 62) (a := (50, [some (.ref r0), some (.int x1), some (.int x_1)], [], h_1)) (b := (11, [some (.ref r0), some (.int x1), some (.int x_1)], [], h_1)) (hk _ _ rfl) rfl ⟨fun z2 => ?_, fun z2 => ?_⟩
  · replace w := w.1 z2
    exact ok212_50 c d Post _ _ _ _ w
  · replace w := w.2 z2
    refine gw_pst hk 2 (st' := (14, [some (.ref r0), some (.int x1), some (.int x_1)], [.int 60, .int x_1], h_1)) rfl ?_
    refine gw_br (c := x_1 = 60) (a := (50, [some (.ref r0), some (.int x1), some (.int x_1)], [], h_1)) (b := (17, [some (.ref r0), some (.int x1), some (.int x_1)], [], h_1)) (hk _ _ rfl) rfl ⟨fun z3 => ?_, fun z3 => ?_⟩
    · replace w := w.1 z3
      exact ok212_50 c d Post _ _ _ _ w
    · replace w := w.2 z3
      refine gw_pst hk 2 (st' := (20, [some (.ref r0), some (.int x1), some (.int x_1)], [.int 104, .int x_1], h_1)) rfl ?_
      refine gw_br (c := x_1 = 104) (a := (50, [some (.ref r0), some (.int x1), some (.int x_1)], [], h_1)) (b := (23, [some (.ref r0), some (.int x1), some (.int x_1)], [], h_1)) (hk _ _ rfl) rfl ⟨fun z4 => ?_, fun z4 => ?_⟩
      · replace w := w.1 z4
        exact ok212_50 c d Post _ _ _ _ w
      · replace w := w.2 z4
        refine gw_pst hk 2 (st' := (26, [some (.ref r0), some (.int x1), some (.int x_1)], [.int 120, .int x_1], h_1)) rfl ?_
        refine gw_br (c := x_1 = 120) (a := (50, [some (.ref r0), some (.int x1), some (.int x_1)], [], h_1)) (b := (29, [some (.ref r0), some (.int x1), some (.int x_1)], [], h_1)) (hk _ _ rfl) rfl ⟨fun z5 => ?_, fun z5 => ?_⟩
        · replace w := w.1 z5
          exact ok212_50 c d Post _ _ _ _ w
        · replace w := w.2 z5
          refine gw_pst hk 2 (st' := (32, [some (.ref r0), some (.int x1), some (.int x_1)], [.int 102, .int x_1], h_1)) rfl ?_
          refine gw_br (c := x_1 = 102) (a := (50, [some (.ref r0), some (.int x1), some (.int x_1)], [], h_1)) (b := (35, [some (.ref r0), some (.int x1), some (.int x_1)], [], h_1)) (hk _ _ rfl) rfl ⟨fun z6 => ?_, fun z6 => ?_⟩
          · replace w := w.1 z6
            exact ok212_50 c d Post _ _ _ _ w
          · replace w := w.2 z6
            refine gw_pst hk 2 (st' := (38, [some (.ref r0), some (.int x1), some (.int x_1)], [.int 108, .int x_1], h_1)) rfl ?_
            refine gw_br (c := x_1 = 108) (a := (50, [some (.ref r0), some (.int x1), some (.int x_1)], [], h_1)) (b := (41, [some (.ref r0), some (.int x1), some (.int x_1)], [], h_1)) (hk _ _ rfl) rfl ⟨fun z7 => ?_, fun z7 => ?_⟩
            · replace w := w.1 z7
              exact ok212_50 c d Post _ _ _ _ w
            · replace w := w.2 z7
              refine gw_pst hk 2 (st' := (43, [some (.ref r0), some (.int x1), some (.int x_1)], [.ref r0, .ref r0], h_1)) rfl ?_
              obtain ⟨x_8, e8, w⟩ := w
              refine gw_gf (hk _ _ rfl) e8 ?_
              obtain ⟨⟨fs9, e9⟩, w⟩ := w
              refine gw_call (jj := 166) (As := [.ref r0, .int x_8]) (rest := []) (hk _ _ rfl) (fun _ => rfl) rfl rfl (Nat.le_of_ble_eq_true rfl) (gm_rcv_v rfl e9 rfl) ?_
              refine ge_imp w (fun v9 h_9 w => ?_)
              obtain ⟨rfl, w⟩ := w
              show gV c d 212 (49, [some (.ref r0), some (.int x1), some (.int x_1)], [], h_9) Post
              exact gw_ret (hk _ _ rfl) rfl w
def w213_64 (c : gx) (d : Nat) (Post : Option Value → gm_H → Prop) (r0 : Nat) (xs0 : Int32) (h : gm_H) : Prop :=
  (∃ fs1, gm_get h r0 = some (.inr (10, fs1))) ∧ gE c d 199 [.ref r0, .int xs0] h (fun v1 h_1 => ∃ x_1 : Int32, v1 = some (.int x_1) ∧ ((0 ≤ x_1 → (∃ fs3, gm_get h_1 r0 = some (.inr (10, fs3))) ∧ gE c d 200 [.ref r0, .int xs0] h_1 (fun v3 h_3 => v3 = none ∧ Post (some (.int 1)) h_3)) ∧ (¬ (0 ≤ x_1) → Post (some (.int 0)) h_1)))
theorem ok213_64 (c : gx) (d : Nat) (Post : Option Value → gm_H → Prop)  (r0 : Nat) (xs0 : Int32) (h : gm_H) (w : w213_64 c d Post r0 xs0 h) : gV c d 213 (64, [some (.ref r0), none, none, none], [.int xs0], h) Post := by
  have hk : ∀ pc i, gm_find gk_213 pc = some i → gm_code (gt_T c.1 c.2.1 c.2.2.1) 213 pc = some i := fun _ _ z => z
  unfold w213_64 at w
  unfold gV
  refine gw_pst hk 3 (st' := (67, [some (.ref r0), none, none, some (.int xs0)], [.int xs0, .ref r0], h)) rfl ?_
  obtain ⟨⟨fs1, e1⟩, w⟩ := w
  refine gw_call (jj := 199) (As := [.ref r0, .int xs0]) (rest := []) (hk _ _ rfl) (fun _ => rfl) rfl rfl (Nat.le_of_ble_eq_true rfl) (gm_rcv_v rfl e1 rfl) ?_
  refine ge_imp w (fun v1 h_1 w => ?_)
  obtain ⟨x_1, rfl, w⟩ := w
  show gV c d 213 (70, [some (.ref r0), none, none, some (.int xs0)], [.int x_1], h_1) Post
  refine gw_br (c := 0 ≤ x_1) (a := (75, [some (.ref r0), none, none, some (.int xs0)], [], h_1)) (b := (73, [some (.ref r0), none, none, some (.int xs0)], [], h_1)) (hk _ _ rfl) rfl ⟨fun z2 => ?_, fun z2 => ?_⟩
  · replace w := w.1 z2
    refine gw_pst hk 2 (st' := (77, [some (.ref r0), none, none, some (.int xs0)], [.int xs0, .ref r0], h_1)) rfl ?_
    obtain ⟨⟨fs3, e3⟩, w⟩ := w
    refine gw_call (jj := 200) (As := [.ref r0, .int xs0]) (rest := []) (hk _ _ rfl) (fun _ => rfl) rfl rfl (Nat.le_of_ble_eq_true rfl) (gm_rcv_v rfl e3 rfl) ?_
    refine ge_imp w (fun v3 h_3 w => ?_)
    obtain ⟨rfl, w⟩ := w
    show gV c d 213 (80, [some (.ref r0), none, none, some (.int xs0)], [], h_3) Post
    refine gw_pst hk 1 (st' := (81, [some (.ref r0), none, none, some (.int xs0)], [.int 1], h_3)) rfl ?_
    exact gw_ret (hk _ _ rfl) rfl w
  · replace w := w.2 z2
    refine gw_pst hk 1 (st' := (74, [some (.ref r0), none, none, some (.int xs0)], [.int 0], h_1)) rfl ?_
    exact gw_ret (hk _ _ rfl) rfl w
def w213_52 (c : gx) (d : Nat) (Post : Option Value → gm_H → Prop) (r0 : Nat) (x1 : Int32) (x2 : Int32) (h : gm_H) : Prop :=
  ((x1 = 62 → w213_64 c d Post r0 x2 h) ∧ (¬ (x1 = 62) → w213_64 c d Post r0 (-x2) h))
theorem ok213_52 (c : gx) (d : Nat) (Post : Option Value → gm_H → Prop)  (r0 : Nat) (x1 : Int32) (x2 : Int32) (h : gm_H) (w : w213_52 c d Post r0 x1 x2 h) : gV c d 213 (52, [some (.ref r0), some (.int x1), some (.int x2), none], [], h) Post := by
  have hk : ∀ pc i, gm_find gk_213 pc = some i → gm_code (gt_T c.1 c.2.1 c.2.2.1) 213 pc = some i := fun _ _ z => z
  unfold w213_52 at w
  unfold gV
  refine gw_pst hk 2 (st' := (55, [some (.ref r0), some (.int x1), some (.int x2), none], [.int 62, .int x1], h)) rfl ?_
  refine gw_br (c := x1 = 62) (a := (58, [some (.ref r0), some (.int x1), some (.int x2), none], [], h)) (b := (62, [some (.ref r0), some (.int x1), some (.int x2), none], [], h)) (hk _ _ rfl) rfl ⟨fun z1 => ?_, fun z1 => ?_⟩
  · replace w := w.1 z1
    refine gw_pst hk 2 (st' := (64, [some (.ref r0), some (.int x1), some (.int x2), none], [.int x2], h)) rfl ?_
    refine gw_le (L' := [some (.ref r0), none, none, none]) (gm_le_k _ (gm_le_n _ (gm_le_n _ (gm_le_k _ gm_le_nil)))) ?_
    exact ok213_64 c d Post _ _ _ w
  · replace w := w.2 z1
    refine gw_pst hk 2 (st' := (64, [some (.ref r0), some (.int x1), some (.int x2), none], [.int (-x2)], h)) rfl ?_
    refine gw_le (L' := [some (.ref r0), none, none, none]) (gm_le_k _ (gm_le_n _ (gm_le_n _ (gm_le_k _ gm_le_nil)))) ?_
    exact ok213_64 c d Post _ _ _ w
/-- CommandByTurnsModel.act(II)Z -/
def wm213 (c : gx) (d : Nat) (Post : Option Value → gm_H → Prop) (r0 : Nat) (x1 : Int32) (x2 : Int32) (h : gm_H) : Prop :=
  ((x1 = 60 → w213_52 c d Post r0 x1 x2 h) ∧ (x1 = 62 → w213_52 c d Post r0 x1 x2 h) ∧ (x1 = 102 → (∃ fs2, gm_get h r0 = some (.inr (10, fs2))) ∧ gE c d 158 [.ref r0, .int x2] h (fun v2 h_2 => ∃ x_2 : Int32, v2 = some (.int x_2) ∧ ((x_2 = 0 → Post (some (.int 0)) h_2) ∧ (¬ (x_2 = 0) → ∃ q_4 : Nat, gm_fld h_2 r0 10 0 = some (.ref q_4) ∧ ∃ (n5 : Nat) (f5 : Nat → Int32), gm_get h_2 q_4 = some (.inl (0, n5, .inl f5)) ∧ vp_in 2 n5 ∧ ∀ h_5 : gm_H, h_5 = gm_put h_2 q_4 (.inl (0, n5, .inl (upd f5 (2 : Int32).toNatClampNeg (vp_nar .int x2)))) → Post (some (.int 1)) h_5)))) ∧ (x1 = 104 → ∃ q_6 : Nat, gm_fld h r0 10 0 = some (.ref q_6) ∧ gE c d 197 [.ref q_6] h (fun v7 h_7 => v7 = none ∧ Post (some (.int 1)) h_7)) ∧ (x1 = 120 → ∃ q_8 : Nat, gm_fld h r0 10 0 = some (.ref q_8) ∧ (∃ fs9, gm_get h r0 = some (.inr (10, fs9))) ∧ gE c d 203 [.ref r0, .ref q_8] h (fun v9 h_9 => ∃ x_9 : Int32, v9 = some (.int x_9) ∧ ((0 ≤ x_9 → ∃ q_11 : Nat, gm_fld h_9 r0 10 0 = some (.ref q_11) ∧ (∃ fs12, gm_get h_9 r0 = some (.inr (10, fs12))) ∧ gE c d 204 [.ref r0, .ref q_11] h_9 (fun v12 h_12 => ∃ x_12 : Int32, v12 = some (.int x_12) ∧ ∃ q_13 : Nat, gm_fld h_12 r0 10 0 = some (.ref q_13) ∧ gE c d 197 [.ref q_13] h_12 (fun v14 h_14 => v14 = none ∧ Post (some (.int 1)) h_14))) ∧ (¬ (0 ≤ x_9) → Post (some (.int 0)) h_9)))) ∧ (¬ x1 = 60 ∧ ¬ x1 = 62 ∧ ¬ x1 = 102 ∧ ¬ x1 = 104 ∧ ¬ x1 = 120 → ∃ q_15 : Nat, gm_fld h r0 10 0 = some (.ref q_15) ∧ ∃ (n16 : Nat) (f16 : Nat → Int32), gm_get h q_15 = some (.inl (0, n16, .inl f16)) ∧ vp_in 0 n16 ∧ (((f16 (0 : Int32).toNatClampNeg) < 100 → ∃ q_18 : Nat, gm_fld h r0 10 0 = some (.ref q_18) ∧ ∃ q_19 : Nat, gm_fld h r0 10 0 = some (.ref q_19) ∧ ∃ (n20 : Nat) (f20 : Nat → Int32), gm_get h q_19 = some (.inl (0, n20, .inl f20)) ∧ vp_in 0 n20 ∧ ∃ q_21 : Nat, gm_fld h r0 10 0 = some (.ref q_21) ∧ ∃ q_22 : Nat, gm_fld h r0 10 0 = some (.ref q_22) ∧ ∃ (n23 : Nat) (f23 : Nat → Int32), gm_get h q_22 = some (.inl (0, n23, .inl f23)) ∧ vp_in 0 n23 ∧ ∃ (n24 : Nat) (f24 : Nat → Int32), gm_get h q_21 = some (.inl (0, n24, .inl f24)) ∧ vp_in (8 + (f23 (0 : Int32).toNatClampNeg)) n24 ∧ ∃ (n25 : Nat) (f25 : Nat → Int32), gm_get h q_18 = some (.inl (0, n25, .inl f25)) ∧ vp_in (8 + (f20 (0 : Int32).toNatClampNeg)) n25 ∧ ∀ h_25 : gm_H, h_25 = gm_put h q_18 (.inl (0, n25, .inl (upd f25 (8 + (f20 (0 : Int32).toNatClampNeg) : Int32).toNatClampNeg (vp_nar .int (1 - (f24 (8 + (f23 (0 : Int32).toNatClampNeg) : Int32).toNatClampNeg)))))) → Post (some (.int 1)) h_25) ∧ (¬ ((f16 (0 : Int32).toNatClampNeg) < 100) → Post (some (.int 0)) h))))
theorem okm213 (c : gx) (d : Nat) (Post : Option Value → gm_H → Prop) (r0 : Nat) (x1 : Int32) (x2 : Int32) (h : gm_H) (w : wm213 c d Post r0 x1 x2 h) : gE c (d + 1) 213 [.ref r0, .int x1, .int x2] h Post := by
  have hk : ∀ pc i, gm_find gk_213 pc = some i → gm_code (gt_T c.1 c.2.1 c.2.2.1) 213 pc = some i := fun _ _ z => z
  unfold wm213 at w
  refine ge_of (by decide) (Nat.le_of_ble_eq_true rfl) ?_
  show gV c d 213 (0, [some (.ref r0), some (.int x1), some (.int x2), none], [], h) Post
  unfold gV
  refine gw_pst hk 1 (st' := (1, [some (.ref r0), some (.int x1), some (.int x2), none], [.int x1], h)) rfl ?_
  by_cases z1_0 : x1 = 60
  · replace w := w.1 z1_0
    refine gw_swk (st' := (52, [some (.ref r0), some (.int x1), some (.int x2), none], [], h)) (hk _ _ rfl) z1_0 rfl ?_
    exact ok213_52 c d Post _ _ _ _ w
  by_cases z1_1 : x1 = 62
  · replace w := w.2.1 z1_1
    refine gw_swk (st' := (52, [some (.ref r0), some (.int x1), some (.int x2), none], [], h)) (hk _ _ rfl) z1_1 rfl ?_
    exact ok213_52 c d Post _ _ _ _ w
  by_cases z1_2 : x1 = 102
  · replace w := w.2.2.1 z1_2
    refine gw_swk (st' := (122, [some (.ref r0), some (.int x1), some (.int x2), none], [], h)) (hk _ _ rfl) z1_2 rfl ?_
    refine gw_pst hk 2 (st' := (124, [some (.ref r0), some (.int x1), some (.int x2), none], [.int x2, .ref r0], h)) rfl ?_
    obtain ⟨⟨fs2, e2⟩, w⟩ := w
    refine gw_call (jj := 158) (As := [.ref r0, .int x2]) (rest := []) (hk _ _ rfl) (fun _ => rfl) rfl rfl (Nat.le_of_ble_eq_true rfl) (gm_rcv_v rfl e2 rfl) ?_
    refine ge_imp w (fun v2 h_2 w => ?_)
    obtain ⟨x_2, rfl, w⟩ := w
    show gV c d 213 (127, [some (.ref r0), some (.int x1), some (.int x2), none], [.int x_2], h_2) Post
    refine gw_br (c := x_2 = 0) (a := (130, [some (.ref r0), some (.int x1), some (.int x2), none], [], h_2)) (b := (132, [some (.ref r0), some (.int x1), some (.int x2), none], [], h_2)) (hk _ _ rfl) rfl ⟨fun z3 => ?_, fun z3 => ?_⟩
    · replace w := w.1 z3
      refine gw_pst hk 1 (st' := (131, [some (.ref r0), some (.int x1), some (.int x2), none], [.int 0], h_2)) rfl ?_
      exact gw_ret (hk _ _ rfl) rfl w
    · replace w := w.2 z3
      refine gw_pst hk 1 (st' := (133, [some (.ref r0), some (.int x1), some (.int x2), none], [.ref r0], h_2)) rfl ?_
      obtain ⟨q_4, e4, w⟩ := w
      refine gw_gf (hk _ _ rfl) e4 ?_
      refine gw_pst hk 2 (st' := (138, [some (.ref r0), some (.int x1), some (.int x2), none], [.int x2, .int 2, .ref q_4], h_2)) rfl ?_
      obtain ⟨n5, f5, e5, b5, w⟩ := w
      refine gw_ast (hk _ _ rfl) (Or.inl ⟨rfl, rfl, rfl⟩) e5 b5 ?_
      obtain ⟨h_5, eh5⟩ : ∃ z, z = gm_put h_2 q_4 (.inl (0, n5, .inl (upd f5 (2 : Int32).toNatClampNeg (vp_nar .int x2)))) := ⟨_, rfl⟩
      rw [← eh5]
      replace w := w h_5 eh5
      refine gw_pst hk 1 (st' := (140, [some (.ref r0), some (.int x1), some (.int x2), none], [.int 1], h_5)) rfl ?_
      exact gw_ret (hk _ _ rfl) rfl w
  by_cases z1_3 : x1 = 104
  · replace w := w.2.2.2.1 z1_3
    refine gw_swk (st' := (82, [some (.ref r0), some (.int x1), some (.int x2), none], [], h)) (hk _ _ rfl) z1_3 rfl ?_
    refine gw_pst hk 1 (st' := (83, [some (.ref r0), some (.int x1), some (.int x2), none], [.ref r0], h)) rfl ?_
    obtain ⟨q_6, e6, w⟩ := w
    refine gw_gf (hk _ _ rfl) e6 ?_
    refine gw_call (jj := 197) (As := [.ref q_6]) (rest := []) (hk _ _ rfl) (fun _ => rfl) rfl rfl (Nat.le_of_ble_eq_true rfl) rfl ?_
    refine ge_imp w (fun v7 h_7 w => ?_)
    obtain ⟨rfl, w⟩ := w
    show gV c d 213 (89, [some (.ref r0), some (.int x1), some (.int x2), none], [], h_7) Post
    refine gw_pst hk 1 (st' := (90, [some (.ref r0), some (.int x1), some (.int x2), none], [.int 1], h_7)) rfl ?_
    exact gw_ret (hk _ _ rfl) rfl w
  by_cases z1_4 : x1 = 120
  · replace w := w.2.2.2.2.1 z1_4
    refine gw_swk (st' := (91, [some (.ref r0), some (.int x1), some (.int x2), none], [], h)) (hk _ _ rfl) z1_4 rfl ?_
    refine gw_pst hk 2 (st' := (93, [some (.ref r0), some (.int x1), some (.int x2), none], [.ref r0, .ref r0], h)) rfl ?_
    obtain ⟨q_8, e8, w⟩ := w
    refine gw_gf (hk _ _ rfl) e8 ?_
    obtain ⟨⟨fs9, e9⟩, w⟩ := w
    refine gw_call (jj := 203) (As := [.ref r0, .ref q_8]) (rest := []) (hk _ _ rfl) (fun _ => rfl) rfl rfl (Nat.le_of_ble_eq_true rfl) (gm_rcv_v rfl e9 rfl) ?_
    refine ge_imp w (fun v9 h_9 w => ?_)
    obtain ⟨x_9, rfl, w⟩ := w
    show gV c d 213 (99, [some (.ref r0), some (.int x1), some (.int x2), none], [.int x_9], h_9) Post
    refine gw_br (c := 0 ≤ x_9) (a := (104, [some (.ref r0), some (.int x1), some (.int x2), none], [], h_9)) (b := (102, [some (.ref r0), some (.int x1), some (.int x2), none], [], h_9)) (hk _ _ rfl) rfl ⟨fun z10 => ?_, fun z10 => ?_⟩
    · replace w := w.1 z10
      refine gw_pst hk 2 (st' := (106, [some (.ref r0), some (.int x1), some (.int x2), none], [.ref r0, .ref r0], h_9)) rfl ?_
      obtain ⟨q_11, e11, w⟩ := w
      refine gw_gf (hk _ _ rfl) e11 ?_
      obtain ⟨⟨fs12, e12⟩, w⟩ := w
      refine gw_call (jj := 204) (As := [.ref r0, .ref q_11]) (rest := []) (hk _ _ rfl) (fun _ => rfl) rfl rfl (Nat.le_of_ble_eq_true rfl) (gm_rcv_v rfl e12 rfl) ?_
      refine ge_imp w (fun v12 h_12 w => ?_)
      obtain ⟨x_12, rfl, w⟩ := w
      show gV c d 213 (112, [some (.ref r0), some (.int x1), some (.int x2), none], [.int x_12], h_12) Post
      refine gw_pst hk 2 (st' := (114, [some (.ref r0), some (.int x1), some (.int x2), none], [.ref r0], h_12)) rfl ?_
      obtain ⟨q_13, e13, w⟩ := w
      refine gw_gf (hk _ _ rfl) e13 ?_
      refine gw_call (jj := 197) (As := [.ref q_13]) (rest := []) (hk _ _ rfl) (fun _ => rfl) rfl rfl (Nat.le_of_ble_eq_true rfl) rfl ?_
      refine ge_imp w (fun v14 h_14 w => ?_)
      obtain ⟨rfl, w⟩ := w
      show gV c d 213 (120, [some (.ref r0), some (.int x1), some (.int x2), none], [], h_14) Post
      refine gw_pst hk 1 (st' := (121, [some (.ref r0), some (.int x1), some (.int x2), none], [.int 1], h_14)) rfl ?_
      exact gw_ret (hk _ _ rfl) rfl w
    · replace w := w.2 z10
      refine gw_pst hk 1 (st' := (103, [some (.ref r0), some (.int x1), some (.int x2), none], [.int 0], h_9)) rfl ?_
      exact gw_ret (hk _ _ rfl) rfl w
  replace w := w.2.2.2.2.2 ⟨z1_0, z1_1, z1_2, z1_3, z1_4⟩
  refine gw_lsd (st' := (141, [some (.ref r0), some (.int x1), some (.int x2), none], [], h)) (hk _ _ rfl) (by
      have y0 : ¬ 60 = (x1 : Int32).toInt := fun z => z1_0 (Int32.toInt_inj.mp z.symm)
      have y1 : ¬ 62 = (x1 : Int32).toInt := fun z => z1_1 (Int32.toInt_inj.mp z.symm)
      have y2 : ¬ 102 = (x1 : Int32).toInt := fun z => z1_2 (Int32.toInt_inj.mp z.symm)
      have y3 : ¬ 104 = (x1 : Int32).toInt := fun z => z1_3 (Int32.toInt_inj.mp z.symm)
      have y4 : ¬ 120 = (x1 : Int32).toInt := fun z => z1_4 (Int32.toInt_inj.mp z.symm)
      simp [Op.lookupswitch.offset, y0, y1, y2, y3, y4]) rfl ?_
  refine gw_pst hk 1 (st' := (142, [some (.ref r0), some (.int x1), some (.int x2), none], [.ref r0], h)) rfl ?_
  obtain ⟨q_15, e15, w⟩ := w
  refine gw_gf (hk _ _ rfl) e15 ?_
  refine gw_pst hk 1 (st' := (146, [some (.ref r0), some (.int x1), some (.int x2), none], [.int 0, .ref q_15], h)) rfl ?_
  obtain ⟨n16, f16, e16, b16, w⟩ := w
  refine gw_ald (hk _ _ rfl) (Or.inl ⟨rfl, rfl⟩) e16 b16 ?_
  refine gw_pst hk 1 (st' := (149, [some (.ref r0), some (.int x1), some (.int x2), none], [.int 100, .int (f16 (0 : Int32).toNatClampNeg)], h)) rfl ?_
  refine gw_br (c := (f16 (0 : Int32).toNatClampNeg) < 100) (a := (154, [some (.ref r0), some (.int x1), some (.int x2), none], [], h)) (b := (152, [some (.ref r0), some (.int x1), some (.int x2), none], [], h)) (hk _ _ rfl) rfl ⟨fun z17 => ?_, fun z17 => ?_⟩
  · replace w := w.1 z17
    refine gw_pst hk 1 (st' := (155, [some (.ref r0), some (.int x1), some (.int x2), none], [.ref r0], h)) rfl ?_
    obtain ⟨q_18, e18, w⟩ := w
    refine gw_gf (hk _ _ rfl) e18 ?_
    refine gw_pst hk 2 (st' := (161, [some (.ref r0), some (.int x1), some (.int x2), none], [.ref r0, .int 8, .ref q_18], h)) rfl ?_
    obtain ⟨q_19, e19, w⟩ := w
    refine gw_gf (hk _ _ rfl) e19 ?_
    refine gw_pst hk 1 (st' := (165, [some (.ref r0), some (.int x1), some (.int x2), none], [.int 0, .ref q_19, .int 8, .ref q_18], h)) rfl ?_
    obtain ⟨n20, f20, e20, b20, w⟩ := w
    refine gw_ald (hk _ _ rfl) (Or.inl ⟨rfl, rfl⟩) e20 b20 ?_
    refine gw_pst hk 3 (st' := (169, [some (.ref r0), some (.int x1), some (.int x2), none], [.ref r0, .int 1, .int (8 + (f20 (0 : Int32).toNatClampNeg)), .ref q_18], h)) rfl ?_
    obtain ⟨q_21, e21, w⟩ := w
    refine gw_gf (hk _ _ rfl) e21 ?_
    refine gw_pst hk 2 (st' := (175, [some (.ref r0), some (.int x1), some (.int x2), none], [.ref r0, .int 8, .ref q_21, .int 1, .int (8 + (f20 (0 : Int32).toNatClampNeg)), .ref q_18], h)) rfl ?_
    obtain ⟨q_22, e22, w⟩ := w
    refine gw_gf (hk _ _ rfl) e22 ?_
    refine gw_pst hk 1 (st' := (179, [some (.ref r0), some (.int x1), some (.int x2), none], [.int 0, .ref q_22, .int 8, .ref q_21, .int 1, .int (8 + (f20 (0 : Int32).toNatClampNeg)), .ref q_18], h)) rfl ?_
    obtain ⟨n23, f23, e23, b23, w⟩ := w
    refine gw_ald (hk _ _ rfl) (Or.inl ⟨rfl, rfl⟩) e23 b23 ?_
    refine gw_pst hk 1 (st' := (181, [some (.ref r0), some (.int x1), some (.int x2), none], [.int (8 + (f23 (0 : Int32).toNatClampNeg)), .ref q_21, .int 1, .int (8 + (f20 (0 : Int32).toNatClampNeg)), .ref q_18], h)) rfl ?_
    obtain ⟨n24, f24, e24, b24, w⟩ := w
    refine gw_ald (hk _ _ rfl) (Or.inl ⟨rfl, rfl⟩) e24 b24 ?_
    refine gw_pst hk 1 (st' := (183, [some (.ref r0), some (.int x1), some (.int x2), none], [.int (1 - (f24 (8 + (f23 (0 : Int32).toNatClampNeg) : Int32).toNatClampNeg)), .int (8 + (f20 (0 : Int32).toNatClampNeg)), .ref q_18], h)) rfl ?_
    obtain ⟨n25, f25, e25, b25, w⟩ := w
    refine gw_ast (hk _ _ rfl) (Or.inl ⟨rfl, rfl, rfl⟩) e25 b25 ?_
    obtain ⟨h_25, eh25⟩ : ∃ z, z = gm_put h q_18 (.inl (0, n25, .inl (upd f25 (8 + (f20 (0 : Int32).toNatClampNeg) : Int32).toNatClampNeg (vp_nar .int (1 - (f24 (8 + (f23 (0 : Int32).toNatClampNeg) : Int32).toNatClampNeg)))))) := ⟨_, rfl⟩
    rw [← eh25]
    replace w := w h_25 eh25
    refine gw_pst hk 1 (st' := (185, [some (.ref r0), some (.int x1), some (.int x2), none], [.int 1], h_25)) rfl ?_
    exact gw_ret (hk _ _ rfl) rfl w
  · replace w := w.2 z17
    refine gw_pst hk 1 (st' := (153, [some (.ref r0), some (.int x1), some (.int x2), none], [.int 0], h)) rfl ?_
    exact gw_ret (hk _ _ rfl) rfl w
def wb214_26 (c : gx) (d : Nat) (Post : Option Value → gm_H → Prop) (K26 : Nat → Int32 → gm_H → Prop) (r0 : Nat) (x1 : Int32) (h : gm_H) : Prop :=
  ((108 ≤ x1 → ∃ x_2 : Int32, gm_fld h r0 10 26 = some (.int x_2) ∧ Post (some (.int x_2)) h) ∧ (¬ (108 ≤ x1) → ∃ q_3 : Nat, gm_fld h r0 10 0 = some (.ref q_3) ∧ ∃ q_4 : Nat, gm_fld h r0 10 25 = some (.ref q_4) ∧ ∃ x_5 : Int32, gm_fld h r0 10 26 = some (.int x_5) ∧ ∃ (n6 : Nat) (f6 : Nat → Int32), gm_get h q_4 = some (.inl (0, n6, .inl f6)) ∧ vp_in ((108 * x_5) + x1) n6 ∧ ∃ (n7 : Nat) (f7 : Nat → Int32), gm_get h q_3 = some (.inl (0, n7, .inl f7)) ∧ vp_in x1 n7 ∧ ∀ h_7 : gm_H, h_7 = gm_put h q_3 (.inl (0, n7, .inl (upd f7 (x1 : Int32).toNatClampNeg (vp_nar .int (f6 ((108 * x_5) + x1 : Int32).toNatClampNeg))))) → K26 r0 (x1 + 1) h_7))
theorem okb214_26 (c : gx) (d : Nat) (Post : Option Value → gm_H → Prop) (K26 : Nat → Int32 → gm_H → Prop)  (hK26 : ∀ (r0 : Nat) (x1 : Int32) (h : gm_H), K26 r0 x1 h → gV c d 214 (26, [some (.ref r0), some (.int x1)], [], h) Post) (r0 : Nat) (x1 : Int32) (h : gm_H) (w : wb214_26 c d Post K26 r0 x1 h) : gV c d 214 (26, [some (.ref r0), some (.int x1)], [], h) Post := by
  have hk : ∀ pc i, gm_find gk_214 pc = some i → gm_code (gt_T c.1 c.2.1 c.2.2.1) 214 pc = some i := fun _ _ z => z
  unfold wb214_26 at w
  unfold gV
  refine gw_pst hk 2 (st' := (29, [some (.ref r0), some (.int x1)], [.int 108, .int x1], h)) rfl ?_
  refine gw_br (c := 108 ≤ x1) (a := (58, [some (.ref r0), some (.int x1)], [], h)) (b := (32, [some (.ref r0), some (.int x1)], [], h)) (hk _ _ rfl) rfl ⟨fun z1 => ?_, fun z1 => ?_⟩
  · replace w := w.1 z1
    refine gw_pst hk 1 (st' := (59, [some (.ref r0), some (.int x1)], [.ref r0], h)) rfl ?_
    obtain ⟨x_2, e2, w⟩ := w
    refine gw_gf (hk _ _ rfl) e2 ?_
    exact gw_ret (hk _ _ rfl) rfl w
  · replace w := w.2 z1
    refine gw_pst hk 1 (st' := (33, [some (.ref r0), some (.int x1)], [.ref r0], h)) rfl ?_
    obtain ⟨q_3, e3, w⟩ := w
    refine gw_gf (hk _ _ rfl) e3 ?_
    refine gw_pst hk 2 (st' := (38, [some (.ref r0), some (.int x1)], [.ref r0, .int x1, .ref q_3], h)) rfl ?_
    obtain ⟨q_4, e4, w⟩ := w
    refine gw_gf (hk _ _ rfl) e4 ?_
    refine gw_pst hk 2 (st' := (44, [some (.ref r0), some (.int x1)], [.ref r0, .int 108, .ref q_4, .int x1, .ref q_3], h)) rfl ?_
    obtain ⟨x_5, e5, w⟩ := w
    refine gw_gf (hk _ _ rfl) e5 ?_
    refine gw_pst hk 3 (st' := (50, [some (.ref r0), some (.int x1)], [.int ((108 * x_5) + x1), .ref q_4, .int x1, .ref q_3], h)) rfl ?_
    obtain ⟨n6, f6, e6, b6, w⟩ := w
    refine gw_ald (hk _ _ rfl) (Or.inl ⟨rfl, rfl⟩) e6 b6 ?_
    obtain ⟨n7, f7, e7, b7, w⟩ := w
    refine gw_ast (hk _ _ rfl) (Or.inl ⟨rfl, rfl, rfl⟩) e7 b7 ?_
    obtain ⟨h_7, eh7⟩ : ∃ z, z = gm_put h q_3 (.inl (0, n7, .inl (upd f7 (x1 : Int32).toNatClampNeg (vp_nar .int (f6 ((108 * x_5) + x1 : Int32).toNatClampNeg))))) := ⟨_, rfl⟩
    rw [← eh7]
    replace w := w h_7 eh7
    refine gw_pst hk 2 (st' := (26, [some (.ref r0), some (.int (x1 + 1))], [], h_7)) rfl ?_
    exact hK26 _ _ _ w
def wl214_26 (c : gx) (d : Nat) (Post : Option Value → gm_H → Prop) : Nat → Nat → Int32 → gm_H → Prop
  | 0 => fun _ _ _ => False
  | n + 1 => wb214_26 c d Post (wl214_26 c d Post n)
theorem okl214_26 (c : gx) (d : Nat) (Post : Option Value → gm_H → Prop) : ∀ (n : Nat) (r0 : Nat) (x1 : Int32) (h : gm_H), wl214_26 c d Post n r0 x1 h → gV c d 214 (26, [some (.ref r0), some (.int x1)], [], h) Post
  | 0, _, _, _, w => w.elim
  | n + 1, r0, x1, h, w => okb214_26 c d Post (wl214_26 c d Post n) (okl214_26 c d Post n) r0 x1 h w
/-- CommandByTurnsModel.undo()I -/
def wm214 (c : gx) (d : Nat) (Post : Option Value → gm_H → Prop) (r0 : Nat) (h : gm_H) : Prop :=
  ∃ fs1 : List Value, gm_get h r0 = some (.inr (10, fs1)) ∧ 13 < fs1.length ∧ ∀ h_1 : gm_H, h_1 = gm_put h r0 (.inr (10, fs1.set 13 (.int 0))) → ∃ x_2 : Int32, gm_fld h_1 r0 10 26 = some (.int x_2) ∧ ((x_2 = 0 → Post (some (.int (-1))) h_1) ∧ (¬ (x_2 = 0) → ∃ x_4 : Int32, gm_fld h_1 r0 10 26 = some (.int x_4) ∧ ∃ fs5 : List Value, gm_get h_1 r0 = some (.inr (10, fs5)) ∧ 26 < fs5.length ∧ ∀ h_5 : gm_H, h_5 = gm_put h_1 r0 (.inr (10, fs5.set 26 (.int (x_4 - 1)))) → ∃ n, wl214_26 c d Post n r0 0 h_5))
theorem okm214 (c : gx) (d : Nat) (Post : Option Value → gm_H → Prop) (r0 : Nat) (h : gm_H) (w : wm214 c d Post r0 h) : gE c (d + 1) 214 [.ref r0] h Post := by
  have hk : ∀ pc i, gm_find gk_214 pc = some i → gm_code (gt_T c.1 c.2.1 c.2.2.1) 214 pc = some i := fun _ _ z => z
  unfold wm214 at w
  refine ge_of (by decide) (Nat.le_of_ble_eq_true rfl) ?_
  show gV c d 214 (0, [some (.ref r0), none], [], h) Post
  unfold gV
  refine gw_pst hk 2 (st' := (2, [some (.ref r0), none], [.int 0, .ref r0], h)) rfl ?_
  obtain ⟨fs1, e1, l1, w⟩ := w
  refine gw_pf (hk _ _ rfl) e1 l1 rfl ?_
  obtain ⟨h_1, eh1⟩ : ∃ z, z = gm_put h r0 (.inr (10, fs1.set 13 (.int 0))) := ⟨_, rfl⟩
  rw [← eh1]
  replace w := w h_1 eh1
  refine gw_pst hk 1 (st' := (6, [some (.ref r0), none], [.ref r0], h_1)) rfl ?_
  obtain ⟨x_2, e2, w⟩ := w
  refine gw_gf (hk _ _ rfl) e2 ?_
  refine gw_br (c := x_2 = 0) (a := (12, [some (.ref r0), none], [], h_1)) (b := (14, [some (.ref r0), none], [], h_1)) (hk _ _ rfl) rfl ⟨fun z3 => ?_, fun z3 => ?_⟩
  · replace w := w.1 z3
    refine gw_pst hk 1 (st' := (13, [some (.ref r0), none], [.int (-1)], h_1)) rfl ?_
    exact gw_ret (hk _ _ rfl) rfl w
  · replace w := w.2 z3
    refine gw_pst hk 2 (st' := (16, [some (.ref r0), none], [.ref r0, .ref r0], h_1)) rfl ?_
    obtain ⟨x_4, e4, w⟩ := w
    refine gw_gf (hk _ _ rfl) e4 ?_
    refine gw_pst hk 2 (st' := (21, [some (.ref r0), none], [.int (x_4 - 1), .ref r0], h_1)) rfl ?_
    obtain ⟨fs5, e5, l5, w⟩ := w
    refine gw_pf (hk _ _ rfl) e5 l5 rfl ?_
    obtain ⟨h_5, eh5⟩ : ∃ z, z = gm_put h_1 r0 (.inr (10, fs5.set 26 (.int (x_4 - 1)))) := ⟨_, rfl⟩
    rw [← eh5]
    replace w := w h_5 eh5
    refine gw_pst hk 2 (st' := (26, [some (.ref r0), some (.int 0)], [], h_5)) rfl ?_
    obtain ⟨n, w⟩ := w
    exact okl214_26 c d Post n _ _ _ w
def w215_22 (c : gx) (d : Nat) (Post : Option Value → gm_H → Prop)  (h : gm_H) : Prop :=
  Post (some (.int (-1))) h
theorem ok215_22 (c : gx) (d : Nat) (Post : Option Value → gm_H → Prop)   (h : gm_H) (w : w215_22 c d Post  h) : gV c d 215 (22, [none, none, none, none, none, none, none], [], h) Post := by
  have hk : ∀ pc i, gm_find gk_215 pc = some i → gm_code (gt_T c.1 c.2.1 c.2.2.1) 215 pc = some i := fun _ _ z => z
  unfold w215_22 at w
  unfold gV
  refine gw_pst hk 1 (st' := (23, [none, none, none, none, none, none, none], [.int (-1)], h)) rfl ?_
  exact gw_ret (hk _ _ rfl) rfl w
def w215_86 (c : gx) (d : Nat) (Post : Option Value → gm_H → Prop) (K32 : Nat → Int32 → Int32 → Int32 → Int32 → Int32 → gm_H → Prop) (r0 : Nat) (x1 : Int32) (x2 : Int32) (x3 : Int32) (x5 : Int32) (xs0 : Int32) (xs1 : Int32) (h : gm_H) : Prop :=
  K32 r0 x1 x2 x3 (xs0 + xs1) (x5 + 1) h
theorem ok215_86 (c : gx) (d : Nat) (Post : Option Value → gm_H → Prop) (K32 : Nat → Int32 → Int32 → Int32 → Int32 → Int32 → gm_H → Prop)  (hK32 : ∀ (r0 : Nat) (x1 : Int32) (x2 : Int32) (x3 : Int32) (x4 : Int32) (x5 : Int32) (h : gm_H), K32 r0 x1 x2 x3 x4 x5 h → gV c d 215 (32, [some (.ref r0), some (.int x1), some (.int x2), some (.int x3), some (.int x4), some (.int x5), none], [], h) Post) (r0 : Nat) (x1 : Int32) (x2 : Int32) (x3 : Int32) (x5 : Int32) (xs0 : Int32) (xs1 : Int32) (h : gm_H) (w : w215_86 c d Post K32 r0 x1 x2 x3 x5 xs0 xs1 h) : gV c d 215 (86, [some (.ref r0), some (.int x1), some (.int x2), some (.int x3), none, some (.int x5), none], [.int xs1, .int xs0], h) Post := by
  have hk : ∀ pc i, gm_find gk_215 pc = some i → gm_code (gt_T c.1 c.2.1 c.2.2.1) 215 pc = some i := fun _ _ z => z
  unfold w215_86 at w
  unfold gV
  refine gw_pst hk 4 (st' := (32, [some (.ref r0), some (.int x1), some (.int x2), some (.int x3), some (.int (xs0 + xs1)), some (.int (x5 + 1)), none], [], h)) rfl ?_
  exact hK32 _ _ _ _ _ _ _ w
def w215_71 (c : gx) (d : Nat) (Post : Option Value → gm_H → Prop) (K32 : Nat → Int32 → Int32 → Int32 → Int32 → Int32 → gm_H → Prop) (r0 : Nat) (x1 : Int32) (x2 : Int32) (x4 : Int32) (x5 : Int32) (x6 : Int32) (xs0 : Int32) (xs1 : Int32) (h : gm_H) : Prop :=
  ((x6 = (-1) → w215_86 c d Post K32 r0 x1 x2 (xs0 ||| xs1) x5 x4 1 h) ∧ (¬ (x6 = (-1)) → w215_86 c d Post K32 r0 x1 x2 (xs0 ||| xs1) x5 x4 0 h))
theorem ok215_71 (c : gx) (d : Nat) (Post : Option Value → gm_H → Prop) (K32 : Nat → Int32 → Int32 → Int32 → Int32 → Int32 → gm_H → Prop)  (hK32 : ∀ (r0 : Nat) (x1 : Int32) (x2 : Int32) (x3 : Int32) (x4 : Int32) (x5 : Int32) (h : gm_H), K32 r0 x1 x2 x3 x4 x5 h → gV c d 215 (32, [some (.ref r0), some (.int x1), some (.int x2), some (.int x3), some (.int x4), some (.int x5), none], [], h) Post) (r0 : Nat) (x1 : Int32) (x2 : Int32) (x4 : Int32) (x5 : Int32) (x6 : Int32) (xs0 : Int32) (xs1 : Int32) (h : gm_H) (w : w215_71 c d Post K32 r0 x1 x2 x4 x5 x6 xs0 xs1 h) : gV c d 215 (71, [some (.ref r0), some (.int x1), some (.int x2), none, some (.int x4), some (.int x5), some (.int x6)], [.int xs1, .int xs0], h) Post := by
  have hk : ∀ pc i, gm_find gk_215 pc = some i → gm_code (gt_T c.1 c.2.1 c.2.2.1) 215 pc = some i := fun _ _ z => z
  unfold w215_71 at w
  unfold gV
  refine gw_pst hk 5 (st' := (78, [some (.ref r0), some (.int x1), some (.int x2), some (.int (xs0 ||| xs1)), some (.int x4), some (.int x5), some (.int x6)], [.int (-1), .int x6, .int x4], h)) rfl ?_
  refine gw_br (c := x6 = (-1)) (a := (81, [some (.ref r0), some (.int x1), some (.int x2), some (.int (xs0 ||| xs1)), some (.int x4), some (.int x5), some (.int x6)], [.int x4], h)) (b := (85, [some (.ref r0), some (.int x1), some (.int x2), some (.int (xs0 ||| xs1)), some (.int x4), some (.int x5), some (.int x6)], [.int x4], h)) (hk _ _ rfl) rfl ⟨fun z1 => ?_, fun z1 => ?_⟩
  · replace w := w.1 z1
    refine gw_pst hk 2 (st' := (86, [some (.ref r0), some (.int x1), some (.int x2), some (.int (xs0 ||| xs1)), some (.int x4), some (.int x5), some (.int x6)], [.int 1, .int x4], h)) rfl ?_
    refine gw_le (L' := [some (.ref r0), some (.int x1), some (.int x2), some (.int (xs0 ||| xs1)), none, some (.int x5), none]) (gm_le_k _ (gm_le_k _ (gm_le_k _ (gm_le_k _ (gm_le_n _ (gm_le_k _ (gm_le_n _ gm_le_nil))))))) ?_
    exact ok215_86 c d Post K32 hK32 _ _ _ _ _ _ _ _ w
  · replace w := w.2 z1
    refine gw_pst hk 1 (st' := (86, [some (.ref r0), some (.int x1), some (.int x2), some (.int (xs0 ||| xs1)), some (.int x4), some (.int x5), some (.int x6)], [.int 0, .int x4], h)) rfl ?_
    refine gw_le (L' := [some (.ref r0), some (.int x1), some (.int x2), some (.int (xs0 ||| xs1)), none, some (.int x5), none]) (gm_le_k _ (gm_le_k _ (gm_le_k _ (gm_le_k _ (gm_le_n _ (gm_le_k _ (gm_le_n _ gm_le_nil))))))) ?_
    exact ok215_86 c d Post K32 hK32 _ _ _ _ _ _ _ _ w
def wb215_32 (c : gx) (d : Nat) (Post : Option Value → gm_H → Prop) (K32 : Nat → Int32 → Int32 → Int32 → Int32 → Int32 → gm_H → Prop) (r0 : Nat) (x1 : Int32) (x2 : Int32) (x3 : Int32) (x4 : Int32) (x5 : Int32) (h : gm_H) : Prop :=
  ((x2 ≤ x5 → ∃ fs2 : List Value, gm_get h r0 = some (.inr (10, fs2)) ∧ 12 < fs2.length ∧ ∀ h_2 : gm_H, h_2 = gm_put h r0 (.inr (10, fs2.set 12 (.int 0))) → gE c d 266 [.int x3] h_2 (fun v3 h_3 => ∃ x_3 : Int32, v3 = some (.int x_3) ∧ (∃ fs4, gm_get h_3 r0 = some (.inr (10, fs4))) ∧ gE c d 157 [.ref r0, .long ((x_3 : Int32).toInt64)] h_3 (fun v4 h_4 => v4 = none ∧ (∃ fs5, gm_get h_4 r0 = some (.inr (10, fs5))) ∧ gE c d 157 [.ref r0, .long ((x4 : Int32).toInt64)] h_4 (fun v5 h_5 => v5 = none ∧ Post (some (.int x3)) h_5)))) ∧ (¬ (x2 ≤ x5) → ∃ q_6 : Nat, gm_fld h r0 10 0 = some (.ref q_6) ∧ ∃ q_7 : Nat, gm_fld h r0 10 0 = some (.ref q_7) ∧ ∃ (n8 : Nat) (f8 : Nat → Int32), gm_get h q_7 = some (.inl (0, n8, .inl f8)) ∧ vp_in 0 n8 ∧ gE c d 184 [.ref q_6, .int ((f8 (0 : Int32).toNatClampNeg) + x5)] h (fun v9 h_9 => ∃ x_9 : Int32, v9 = some (.int x_9) ∧ ((x_9 = x1 → w215_71 c d Post K32 r0 x1 x2 x4 x5 x_9 x3 (1 <<< (x5 &&& 31)) h_9) ∧ (¬ (x_9 = x1) → w215_71 c d Post K32 r0 x1 x2 x4 x5 x_9 x3 0 h_9)))))
theorem okb215_32 (c : gx) (d : Nat) (Post : Option Value → gm_H → Prop) (K32 : Nat → Int32 → Int32 → Int32 → Int32 → Int32 → gm_H → Prop)  (hK32 : ∀ (r0 : Nat) (x1 : Int32) (x2 : Int32) (x3 : Int32) (x4 : Int32) (x5 : Int32) (h : gm_H), K32 r0 x1 x2 x3 x4 x5 h → gV c d 215 (32, [some (.ref r0), some (.int x1), some (.int x2), some (.int x3), some (.int x4), some (.int x5), none], [], h) Post) (r0 : Nat) (x1 : Int32) (x2 : Int32) (x3 : Int32) (x4 : Int32) (x5 : Int32) (h : gm_H) (w : wb215_32 c d Post K32 r0 x1 x2 x3 x4 x5 h) : gV c d 215 (32, [some (.ref r0), some (.int x1), some (.int x2), some (.int x3), some (.int x4), some (.int x5), none], [], h) Post := by
  have hk : ∀ pc i, gm_find gk_215 pc = some i → gm_code (gt_T c.1 c.2.1 c.2.2.1) 215 pc = some i := fun _ _ z => z
  unfold wb215_32 at w
  unfold gV
  refine gw_pst hk 2 (st' := (35, [some (.ref r0), some (.int x1), some (.int x2), some (.int x3), some (.int x4), some (.int x5), none], [.int x2, .int x5], h)) rfl ?_
  refine gw_br (c := x2 ≤ x5) (a := (95, [some (.ref r0), some (.int x1), some (.int x2), some (.int x3), some (.int x4), some (.int x5), none], [], h)) (b := (38, [some (.ref r0), some (.int x1), some (.int x2), some (.int x3), some (.int x4), some (.int x5), none], [], h)) (hk _ _ rfl) rfl ⟨fun z1 => ?_, fun z1 => ?_⟩
  · replace w := w.1 z1
    refine gw_pst hk 2 (st' := (97, [some (.ref r0), some (.int x1), some (.int x2), some (.int x3), some (.int x4), some (.int x5), none], [.int 0, .ref r0], h)) rfl ?_
    obtain ⟨fs2, e2, l2, w⟩ := w
    refine gw_pf (hk _ _ rfl) e2 l2 rfl ?_
    obtain ⟨h_2, eh2⟩ : ∃ z, z = gm_put h r0 (.inr (10, fs2.set 12 (.int 0))) := ⟨_, rfl⟩
    rw [← eh2]
    replace w := w h_2 eh2
    refine gw_pst hk 2 (st' := (102, [some (.ref r0), some (.int x1), some (.int x2), some (.int x3), some (.int x4), some (.int x5), none], [.int x3, .ref r0], h_2)) rfl ?_
    refine gw_call (jj := 266) (As := [.int x3]) (rest := [.ref r0]) (hk _ _ rfl) (fun _ => rfl) rfl rfl (Nat.le_of_ble_eq_true rfl) rfl ?_
    refine ge_imp w (fun v3 h_3 w => ?_)
    obtain ⟨x_3, rfl, w⟩ := w
    show gV c d 215 (105, [some (.ref r0), some (.int x1), some (.int x2), some (.int x3), some (.int x4), some (.int x5), none], [.int x_3, .ref r0], h_3) Post
    refine gw_pst hk 1 (st' := (106, [some (.ref r0), some (.int x1), some (.int x2), some (.int x3), some (.int x4), some (.int x5), none], [.long ((x_3 : Int32).toInt64), .ref r0], h_3)) rfl ?_
    obtain ⟨⟨fs4, e4⟩, w⟩ := w
    refine gw_call (jj := 157) (As := [.ref r0, .long ((x_3 : Int32).toInt64)]) (rest := []) (hk _ _ rfl) (fun _ => rfl) rfl rfl (Nat.le_of_ble_eq_true rfl) (gm_rcv_v rfl e4 rfl) ?_
    refine ge_imp w (fun v4 h_4 w => ?_)
    obtain ⟨rfl, w⟩ := w
    show gV c d 215 (109, [some (.ref r0), some (.int x1), some (.int x2), some (.int x3), some (.int x4), some (.int x5), none], [], h_4) Post
    refine gw_pst hk 3 (st' := (113, [some (.ref r0), some (.int x1), some (.int x2), some (.int x3), some (.int x4), some (.int x5), none], [.long ((x4 : Int32).toInt64), .ref r0], h_4)) rfl ?_
    obtain ⟨⟨fs5, e5⟩, w⟩ := w
    refine gw_call (jj := 157) (As := [.ref r0, .long ((x4 : Int32).toInt64)]) (rest := []) (hk _ _ rfl) (fun _ => rfl) rfl rfl (Nat.le_of_ble_eq_true rfl) (gm_rcv_v rfl e5 rfl) ?_
    refine ge_imp w (fun v5 h_5 w => ?_)
    obtain ⟨rfl, w⟩ := w
    show gV c d 215 (116, [some (.ref r0), some (.int x1), some (.int x2), some (.int x3), some (.int x4), some (.int x5), none], [], h_5) Post
    refine gw_pst hk 1 (st' := (117, [some (.ref r0), some (.int x1), some (.int x2), some (.int x3), some (.int x4), some (.int x5), none], [.int x3], h_5)) rfl ?_
    exact gw_ret (hk _ _ rfl) rfl w
  · replace w := w.2 z1
    refine gw_pst hk 1 (st' := (39, [some (.ref r0), some (.int x1), some (.int x2), some (.int x3), some (.int x4), some (.int x5), none], [.ref r0], h)) rfl ?_
    obtain ⟨q_6, e6, w⟩ := w
    refine gw_gf (hk _ _ rfl) e6 ?_
    refine gw_pst hk 1 (st' := (43, [some (.ref r0), some (.int x1), some (.int x2), some (.int x3), some (.int x4), some (.int x5), none], [.ref r0, .ref q_6], h)) rfl ?_
    obtain ⟨q_7, e7, w⟩ := w
    refine gw_gf (hk _ _ rfl) e7 ?_
    refine gw_pst hk 1 (st' := (47, [some (.ref r0), some (.int x1), some (.int x2), some (.int x3), some (.int x4), some (.int x5), none], [.int 0, .ref q_7, .ref q_6], h)) rfl ?_
    obtain ⟨n8, f8, e8, b8, w⟩ := w
    refine gw_ald (hk _ _ rfl) (Or.inl ⟨rfl, rfl⟩) e8 b8 ?_
    refine gw_pst hk 2 (st' := (51, [some (.ref r0), some (.int x1), some (.int x2), some (.int x3), some (.int x4), some (.int x5), none], [.int ((f8 (0 : Int32).toNatClampNeg) + x5), .ref q_6], h)) rfl ?_
    refine gw_call (jj := 184) (As := [.ref q_6, .int ((f8 (0 : Int32).toNatClampNeg) + x5)]) (rest := []) (hk _ _ rfl) (fun _ => rfl) rfl rfl (Nat.le_of_ble_eq_true rfl) rfl ?_
    refine ge_imp w (fun v9 h_9 w => ?_)
    obtain ⟨x_9, rfl, w⟩ := w
    show gV c d 215 (54, [some (.ref r0), some (.int x1), some (.int x2), some (.int x3), some (.int x4), some (.int x5), none], [.int x_9], h_9) Post
    refine gw_pst hk 4 (st' := (60, [some (.ref r0), some (.int x1), some (.int x2), some (.int x3), some (.int x4), some (.int x5), some (.int x_9)], [.int x1, .int x_9, .int x3], h_9)) rfl ?_
    refine gw_br (c := x_9 = x1) (a := (63, [some (.ref r0), some (.int x1), some (.int x2), some (.int x3), some (.int x4), some (.int x5), some (.int x_9)], [.int x3], h_9)) (b := (70, [some (.ref r0), some (.int x1), some (.int x2), some (.int x3), some (.int x4), some (.int x5), some (.int x_9)], [.int x3], h_9)) (hk _ _ rfl) rfl ⟨fun z10 => ?_, fun z10 => ?_⟩
    · replace w := w.1 z10
      refine gw_pst hk 4 (st' := (71, [some (.ref r0), some (.int x1), some (.int x2), some (.int x3), some (.int x4), some (.int x5), some (.int x_9)], [.int (1 <<< (x5 &&& 31)), .int x3], h_9)) rfl ?_
      refine gw_le (L' := [some (.ref r0), some (.int x1), some (.int x2), none, some (.int x4), some (.int x5), some (.int x_9)]) (gm_le_k _ (gm_le_k _ (gm_le_k _ (gm_le_n _ (gm_le_k _ (gm_le_k _ (gm_le_k _ gm_le_nil))))))) ?_
      exact ok215_71 c d Post K32 hK32 _ _ _ _ _ _ _ _ _ w
    · replace w := w.2 z10
      refine gw_pst hk 1 (st' := (71, [some (.ref r0), some (.int x1), some (.int x2), some (.int x3), some (.int x4), some (.int x5), some (.int x_9)], [.int 0, .int x3], h_9)) rfl ?_
      refine gw_le (L' := [some (.ref r0), some (.int x1), some (.int x2), none, some (.int x4), some (.int x5), some (.int x_9)]) (gm_le_k _ (gm_le_k _ (gm_le_k _ (gm_le_n _ (gm_le_k _ (gm_le_k _ (gm_le_k _ gm_le_nil))))))) ?_
      exact ok215_71 c d Post K32 hK32 _ _ _ _ _ _ _ _ _ w
def wl215_32 (c : gx) (d : Nat) (Post : Option Value → gm_H → Prop) : Nat → Nat → Int32 → Int32 → Int32 → Int32 → Int32 → gm_H → Prop
  | 0 => fun _ _ _ _ _ _ _ => False
  | n + 1 => wb215_32 c d Post (wl215_32 c d Post n)
theorem okl215_32 (c : gx) (d : Nat) (Post : Option Value → gm_H → Prop) : ∀ (n : Nat) (r0 : Nat) (x1 : Int32) (x2 : Int32) (x3 : Int32) (x4 : Int32) (x5 : Int32) (h : gm_H), wl215_32 c d Post n r0 x1 x2 x3 x4 x5 h → gV c d 215 (32, [some (.ref r0), some (.int x1), some (.int x2), some (.int x3), some (.int x4), some (.int x5), none], [], h) Post
  | 0, _, _, _, _, _, _, _, w => w.elim
  | n + 1, r0, x1, x2, x3, x4, x5, h, w => okb215_32 c d Post (wl215_32 c d Post n) (okl215_32 c d Post n) r0 x1 x2 x3 x4 x5 h w
/-- CommandByTurnsModel.comes(II)I -/
def wm215 (c : gx) (d : Nat) (Post : Option Value → gm_H → Prop) (r0 : Nat) (x1 : Int32) (x2 : Int32) (h : gm_H) : Prop :=
  ∃ fs1 : List Value, gm_get h r0 = some (.inr (10, fs1)) ∧ 13 < fs1.length ∧ ∀ h_1 : gm_H, h_1 = gm_put h r0 (.inr (10, fs1.set 13 (.int 0))) → gE c d 159 [.int x1] h_1 (fun v2 h_2 => ∃ x_2 : Int32, v2 = some (.int x_2) ∧ ((x_2 = 0 → w215_22 c d Post h_2) ∧ (¬ (x_2 = 0) → gE c d 154 [.int x2, .int 1, .int 30] h_2 (fun v4 h_4 => ∃ x_4 : Int32, v4 = some (.int x_4) ∧ ((x_4 = 0 → w215_22 c d Post h_4) ∧ (¬ (x_4 = 0) → ∃ n, wl215_32 c d Post n r0 x1 x2 0 0 0 h_4))))))
theorem okm215 (c : gx) (d : Nat) (Post : Option Value → gm_H → Prop) (r0 : Nat) (x1 : Int32) (x2 : Int32) (h : gm_H) (w : wm215 c d Post r0 x1 x2 h) : gE c (d + 1) 215 [.ref r0, .int x1, .int x2] h Post := by
  have hk : ∀ pc i, gm_find gk_215 pc = some i → gm_code (gt_T c.1 c.2.1 c.2.2.1) 215 pc = some i := fun _ _ z => z
  unfold wm215 at w
  refine ge_of (by decide) (Nat.le_of_ble_eq_true rfl) ?_
  show gV c d 215 (0, [some (.ref r0), some (.int x1), some (.int x2), none, none, none, none], [], h) Post
  unfold gV
  refine gw_pst hk 2 (st' := (2, [some (.ref r0), some (.int x1), some (.int x2), none, none, none, none], [.int 0, .ref r0], h)) rfl ?_
  obtain ⟨fs1, e1, l1, w⟩ := w
  refine gw_pf (hk _ _ rfl) e1 l1 rfl ?_
  obtain ⟨h_1, eh1⟩ : ∃ z, z = gm_put h r0 (.inr (10, fs1.set 13 (.int 0))) := ⟨_, rfl⟩
  rw [← eh1]
  replace w := w h_1 eh1
  refine gw_pst hk 1 (st' := (6, [some (.ref r0), some (.int x1), some (.int x2), none, none, none, none], [.int x1], h_1)) rfl ?_
  refine gw_call (jj := 159) (As := [.int x1]) (rest := []) (hk _ _ rfl) (fun _ => rfl) rfl rfl (Nat.le_of_ble_eq_true rfl) rfl ?_
  refine ge_imp w (fun v2 h_2 w => ?_)
  obtain ⟨x_2, rfl, w⟩ := w
  show gV c d 215 (9, [some (.ref r0), some (.int x1), some (.int x2), none, none, none, none], [.int x_2], h_2) Post
  refine gw_br (c := x_2 = 0) (a := (22, [some (.ref r0), some (.int x1), some (.int x2), none, none, none, none], [], h_2)) (b := (12, [some (.ref r0), some (.int x1), some (.int x2), none, none, none, none], [], h_2)) (hk _ _ rfl) rfl ⟨fun z3 => ?_, fun z3 => ?_⟩
  · replace w := w.1 z3
    refine gw_le (L' := [none, none, none, none, none, none, none]) (gm_le_n _ (gm_le_n _ (gm_le_n _ (gm_le_k _ (gm_le_k _ (gm_le_k _ (gm_le_k _ gm_le_nil))))))) ?_
    exact ok215_22 c d Post _ w
  · replace w := w.2 z3
    refine gw_pst hk 3 (st' := (16, [some (.ref r0), some (.int x1), some (.int x2), none, none, none, none], [.int 30, .int 1, .int x2], h_2)) rfl ?_
    refine gw_call (jj := 154) (As := [.int x2, .int 1, .int 30]) (rest := []) (hk _ _ rfl) (fun _ => rfl) rfl rfl (Nat.le_of_ble_eq_true rfl) rfl ?_
    refine ge_imp w (fun v4 h_4 w => ?_)
    obtain ⟨x_4, rfl, w⟩ := w
    show gV c d 215 (19, [some (.ref r0), some (.int x1), some (.int x2), none, none, none, none], [.int x_4], h_4) Post
    refine gw_br (c := x_4 = 0) (a := (22, [some (.ref r0), some (.int x1), some (.int x2), none, none, none, none], [], h_4)) (b := (24, [some (.ref r0), some (.int x1), some (.int x2), none, none, none, none], [], h_4)) (hk _ _ rfl) rfl ⟨fun z5 => ?_, fun z5 => ?_⟩
    · replace w := w.1 z5
      refine gw_le (L' := [none, none, none, none, none, none, none]) (gm_le_n _ (gm_le_n _ (gm_le_n _ (gm_le_k _ (gm_le_k _ (gm_le_k _ (gm_le_k _ gm_le_nil))))))) ?_
      exact ok215_22 c d Post _ w
    · replace w := w.2 z5
      refine gw_pst hk 6 (st' := (32, [some (.ref r0), some (.int x1), some (.int x2), some (.int 0), some (.int 0), some (.int 0), none], [], h_4)) rfl ?_
      obtain ⟨n, w⟩ := w
      exact okl215_32 c d Post n _ _ _ _ _ _ _ w
