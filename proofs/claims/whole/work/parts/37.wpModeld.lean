/-! What must hold for a run to end with Post: by program (wip/whole/gen_wp.py). -/
def w216_23 (c : gx) (d : Nat) (Post : Option Value → gm_H → Prop)  (h : gm_H) : Prop :=
  Post (some (.int (-1))) h
theorem ok216_23 (c : gx) (d : Nat) (Post : Option Value → gm_H → Prop)   (h : gm_H) (w : w216_23 c d Post  h) : gV c d 216 (23, [none, none, none, none], [], h) Post := by
  have hk : ∀ pc i, gm_find gk_216 pc = some i → gm_code (gt_T c.1 c.2.1 c.2.2.1) 216 pc = some i := fun _ _ z => z
  unfold w216_23 at w
  unfold gV
  refine gw_pst hk 1 (st' := (24, [none, none, none, none], [.int (-1)], h)) rfl ?_
  exact gw_ret (hk _ _ rfl) rfl w
/-- CommandByTurnsModel.issue(II)I -/
def wm216 (c : gx) (d : Nat) (Post : Option Value → gm_H → Prop) (r0 : Nat) (x1 : Int32) (x2 : Int32) (h : gm_H) : Prop :=
  ∃ fs1 : List Value, gm_get h r0 = some (.inr (10, fs1)) ∧ 13 < fs1.length ∧ ∀ h_1 : gm_H, h_1 = gm_put h r0 (.inr (10, fs1.set 13 (.int 0))) → (∃ fs2, gm_get h_1 r0 = some (.inr (10, fs2))) ∧ gE c d 158 [.ref r0, .int x1] h_1 (fun v2 h_2 => ∃ x_2 : Int32, v2 = some (.int x_2) ∧ ((x_2 = 0 → w216_23 c d Post h_2) ∧ (¬ (x_2 = 0) → gE c d 154 [.int x2, .int 0, .int 30] h_2 (fun v4 h_4 => ∃ x_4 : Int32, v4 = some (.int x_4) ∧ ((x_4 = 0 → w216_23 c d Post h_4) ∧ (¬ (x_4 = 0) → ∃ q_6 : Nat, gm_fld h_4 r0 10 0 = some (.ref q_6) ∧ ∃ q_7 : Nat, gm_fld h_4 r0 10 0 = some (.ref q_7) ∧ ∃ (n8 : Nat) (f8 : Nat → Int32), gm_get h_4 q_7 = some (.inl (0, n8, .inl f8)) ∧ vp_in 0 n8 ∧ gE c d 184 [.ref q_6, .int ((f8 (0 : Int32).toNatClampNeg) + x2)] h_4 (fun v9 h_9 => ∃ x_9 : Int32, v9 = some (.int x_9) ∧ ((x_9 = (-1) → Post (some (.int (-2))) h_9) ∧ (¬ (x_9 = (-1)) → ∃ q_11 : Nat, gm_fld h_9 r0 10 0 = some (.ref q_11) ∧ ∃ (n12 : Nat) (f12 : Nat → Int32), gm_get h_9 q_11 = some (.inl (0, n12, .inl f12)) ∧ vp_in 2 n12 ∧ gE c d 185 [.int x1, .int (f12 (2 : Int32).toNatClampNeg)] h_9 (fun v13 h_13 => ∃ x_13 : Int32, v13 = some (.int x_13) ∧ ((x_13 = 0 → Post (some (.int (-3))) h_13) ∧ (¬ (x_13 = 0) → ∃ fs15 : List Value, gm_get h_13 r0 = some (.inr (10, fs15)) ∧ 12 < fs15.length ∧ ∀ h_15 : gm_H, h_15 = gm_put h_13 r0 (.inr (10, fs15.set 12 (.int 0))) → (∃ fs16, gm_get h_15 r0 = some (.inr (10, fs16))) ∧ gE c d 157 [.ref r0, .long ((x_9 : Int32).toInt64)] h_15 (fun v16 h_16 => v16 = none ∧ ∃ q_17 : Nat, gm_fld h_16 r0 10 0 = some (.ref q_17) ∧ ∃ q_18 : Nat, gm_fld h_16 r0 10 0 = some (.ref q_18) ∧ ∃ (n19 : Nat) (f19 : Nat → Int32), gm_get h_16 q_18 = some (.inl (0, n19, .inl f19)) ∧ vp_in 0 n19 ∧ (∃ fs20, gm_get h_16 r0 = some (.inr (10, fs20))) ∧ gE c d 182 [.ref r0, .ref q_17, .int x_9, .int x1, .int ((f19 (0 : Int32).toNatClampNeg) + x2)] h_16 (fun v20 h_20 => ∃ x_20 : Int32, v20 = some (.int x_20) ∧ Post (some (.int (501 + x_20))) h_20))))))))))))))
theorem okm216 (c : gx) (d : Nat) (Post : Option Value → gm_H → Prop) (r0 : Nat) (x1 : Int32) (x2 : Int32) (h : gm_H) (w : wm216 c d Post r0 x1 x2 h) : gE c (d + 1) 216 [.ref r0, .int x1, .int x2] h Post := by
  have hk : ∀ pc i, gm_find gk_216 pc = some i → gm_code (gt_T c.1 c.2.1 c.2.2.1) 216 pc = some i := fun _ _ z => z
  unfold wm216 at w
  refine ge_of (by decide) (Nat.le_of_ble_eq_true rfl) ?_
  show gV c d 216 (0, [some (.ref r0), some (.int x1), some (.int x2), none], [], h) Post
  unfold gV
  refine gw_pst hk 2 (st' := (2, [some (.ref r0), some (.int x1), some (.int x2), none], [.int 0, .ref r0], h)) rfl ?_
  obtain ⟨fs1, e1, l1, w⟩ := w
  refine gw_pf (hk _ _ rfl) e1 l1 rfl ?_
  obtain ⟨h_1, eh1⟩ : ∃ z, z = gm_put h r0 (.inr (10, fs1.set 13 (.int 0))) := ⟨_, rfl⟩
  rw [← eh1]
  replace w := w h_1 eh1
  refine gw_pst hk 2 (st' := (7, [some (.ref r0), some (.int x1), some (.int x2), none], [.int x1, .ref r0], h_1)) rfl ?_
  obtain ⟨⟨fs2, e2⟩, w⟩ := w
  refine gw_call (jj := 158) (As := [.ref r0, .int x1]) (rest := []) (hk _ _ rfl) (fun _ => rfl) rfl rfl (Nat.le_of_ble_eq_true rfl) (gm_rcv_v rfl e2 rfl) ?_
  refine ge_imp w (fun v2 h_2 w => ?_)
  obtain ⟨x_2, rfl, w⟩ := w
  show gV c d 216 (10, [some (.ref r0), some (.int x1), some (.int x2), none], [.int x_2], h_2) Post
  refine gw_br (c := x_2 = 0) (a := (23, [some (.ref r0), some (.int x1), some (.int x2), none], [], h_2)) (b := (13, [some (.ref r0), some (.int x1), some (.int x2), none], [], h_2)) (hk _ _ rfl) rfl ⟨fun z3 => ?_, fun z3 => ?_⟩
  · replace w := w.1 z3
    refine gw_le (L' := [none, none, none, none]) (gm_le_n _ (gm_le_n _ (gm_le_n _ (gm_le_k _ gm_le_nil)))) ?_
    exact ok216_23 c d Post _ w
  · replace w := w.2 z3
    refine gw_pst hk 3 (st' := (17, [some (.ref r0), some (.int x1), some (.int x2), none], [.int 30, .int 0, .int x2], h_2)) rfl ?_
    refine gw_call (jj := 154) (As := [.int x2, .int 0, .int 30]) (rest := []) (hk _ _ rfl) (fun _ => rfl) rfl rfl (Nat.le_of_ble_eq_true rfl) rfl ?_
    refine ge_imp w (fun v4 h_4 w => ?_)
    obtain ⟨x_4, rfl, w⟩ := w
    show gV c d 216 (20, [some (.ref r0), some (.int x1), some (.int x2), none], [.int x_4], h_4) Post
    refine gw_br (c := x_4 = 0) (a := (23, [some (.ref r0), some (.int x1), some (.int x2), none], [], h_4)) (b := (25, [some (.ref r0), some (.int x1), some (.int x2), none], [], h_4)) (hk _ _ rfl) rfl ⟨fun z5 => ?_, fun z5 => ?_⟩
    · replace w := w.1 z5
      refine gw_le (L' := [none, none, none, none]) (gm_le_n _ (gm_le_n _ (gm_le_n _ (gm_le_k _ gm_le_nil)))) ?_
      exact ok216_23 c d Post _ w
    · replace w := w.2 z5
      refine gw_pst hk 1 (st' := (26, [some (.ref r0), some (.int x1), some (.int x2), none], [.ref r0], h_4)) rfl ?_
      obtain ⟨q_6, e6, w⟩ := w
      refine gw_gf (hk _ _ rfl) e6 ?_
      refine gw_pst hk 1 (st' := (30, [some (.ref r0), some (.int x1), some (.int x2), none], [.ref r0, .ref q_6], h_4)) rfl ?_
      obtain ⟨q_7, e7, w⟩ := w
      refine gw_gf (hk _ _ rfl) e7 ?_
      refine gw_pst hk 1 (st' := (34, [some (.ref r0), some (.int x1), some (.int x2), none], [.int 0, .ref q_7, .ref q_6], h_4)) rfl ?_
      obtain ⟨n8, f8, e8, b8, w⟩ := w
      refine gw_ald (hk _ _ rfl) (Or.inl ⟨rfl, rfl⟩) e8 b8 ?_
      refine gw_pst hk 2 (st' := (37, [some (.ref r0), some (.int x1), some (.int x2), none], [.int ((f8 (0 : Int32).toNatClampNeg) + x2), .ref q_6], h_4)) rfl ?_
      refine gw_call (jj := 184) (As := [.ref q_6, .int ((f8 (0 : Int32).toNatClampNeg) + x2)]) (rest := []) (hk _ _ rfl) (fun _ => rfl) rfl rfl (Nat.le_of_ble_eq_true rfl) rfl ?_
      refine ge_imp w (fun v9 h_9 w => ?_)
      obtain ⟨x_9, rfl, w⟩ := w
      show gV c d 216 (40, [some (.ref r0), some (.int x1), some (.int x2), none], [.int x_9], h_9) Post
      refine gw_pst hk 3 (st' := (43, [some (.ref r0), some (.int x1), some (.int x2), some (.int x_9)], [.int (-1), .int x_9], h_9)) rfl ?_
      refine gw_br (c := x_9 = (-1)) (a := (46, [some (.ref r0), some (.int x1), some (.int x2), some (.int x_9)], [], h_9)) (b := (49, [some (.ref r0), some (.int x1), some (.int x2), some (.int x_9)], [], h_9)) (hk _ _ rfl) rfl ⟨fun z10 => ?_, fun z10 => ?_⟩
      · replace w := w.1 z10
        refine gw_pst hk 1 (st' := (48, [some (.ref r0), some (.int x1), some (.int x2), some (.int x_9)], [.int (-2)], h_9)) rfl ?_
        exact gw_ret (hk _ _ rfl) rfl w
      · replace w := w.2 z10
        refine gw_pst hk 2 (st' := (51, [some (.ref r0), some (.int x1), some (.int x2), some (.int x_9)], [.ref r0, .int x1], h_9)) rfl ?_
        obtain ⟨q_11, e11, w⟩ := w
        refine gw_gf (hk _ _ rfl) e11 ?_
        refine gw_pst hk 1 (st' := (55, [some (.ref r0), some (.int x1), some (.int x2), some (.int x_9)], [.int 2, .ref q_11, .int x1], h_9)) rfl ?_
        obtain ⟨n12, f12, e12, b12, w⟩ := w
        refine gw_ald (hk _ _ rfl) (Or.inl ⟨rfl, rfl⟩) e12 b12 ?_
        refine gw_call (jj := 185) (As := [.int x1, .int (f12 (2 : Int32).toNatClampNeg)]) (rest := []) (hk _ _ rfl) (fun _ => rfl) rfl rfl (Nat.le_of_ble_eq_true rfl) rfl ?_
        refine ge_imp w (fun v13 h_13 w => ?_)
        obtain ⟨x_13, rfl, w⟩ := w
        show gV c d 216 (59, [some (.ref r0), some (.int x1), some (.int x2), some (.int x_9)], [.int x_13], h_13) Post
        refine gw_br (c := x_13 = 0) (a := (62, [some (.ref r0), some (.int x1), some (.int x2), some (.int x_9)], [], h_13)) (b := (65, [some (.ref r0), some (.int x1), some (.int x2), some (.int x_9)], [], h_13)) (hk _ _ rfl) rfl ⟨fun z14 => ?_, fun z14 => ?_⟩
        · replace w := w.1 z14
          refine gw_pst hk 1 (st' := (64, [some (.ref r0), some (.int x1), some (.int x2), some (.int x_9)], [.int (-3)], h_13)) rfl ?_
          exact gw_ret (hk _ _ rfl) rfl w
        · replace w := w.2 z14
          refine gw_pst hk 2 (st' := (67, [some (.ref r0), some (.int x1), some (.int x2), some (.int x_9)], [.int 0, .ref r0], h_13)) rfl ?_
          obtain ⟨fs15, e15, l15, w⟩ := w
          refine gw_pf (hk _ _ rfl) e15 l15 rfl ?_
          obtain ⟨h_15, eh15⟩ : ∃ z, z = gm_put h_13 r0 (.inr (10, fs15.set 12 (.int 0))) := ⟨_, rfl⟩
          rw [← eh15]
          replace w := w h_15 eh15
          refine gw_pst hk 3 (st' := (73, [some (.ref r0), some (.int x1), some (.int x2), some (.int x_9)], [.long ((x_9 : Int32).toInt64), .ref r0], h_15)) rfl ?_
          obtain ⟨⟨fs16, e16⟩, w⟩ := w
          refine gw_call (jj := 157) (As := [.ref r0, .long ((x_9 : Int32).toInt64)]) (rest := []) (hk _ _ rfl) (fun _ => rfl) rfl rfl (Nat.le_of_ble_eq_true rfl) (gm_rcv_v rfl e16 rfl) ?_
          refine ge_imp w (fun v16 h_16 w => ?_)
          obtain ⟨rfl, w⟩ := w
          show gV c d 216 (76, [some (.ref r0), some (.int x1), some (.int x2), some (.int x_9)], [], h_16) Post
          refine gw_pst hk 3 (st' := (81, [some (.ref r0), some (.int x1), some (.int x2), some (.int x_9)], [.ref r0, .ref r0, .int 501], h_16)) rfl ?_
          obtain ⟨q_17, e17, w⟩ := w
          refine gw_gf (hk _ _ rfl) e17 ?_
          refine gw_pst hk 3 (st' := (87, [some (.ref r0), some (.int x1), some (.int x2), some (.int x_9)], [.ref r0, .int x1, .int x_9, .ref q_17, .ref r0, .int 501], h_16)) rfl ?_
          obtain ⟨q_18, e18, w⟩ := w
          refine gw_gf (hk _ _ rfl) e18 ?_
          refine gw_pst hk 1 (st' := (91, [some (.ref r0), some (.int x1), some (.int x2), some (.int x_9)], [.int 0, .ref q_18, .int x1, .int x_9, .ref q_17, .ref r0, .int 501], h_16)) rfl ?_
          obtain ⟨n19, f19, e19, b19, w⟩ := w
          refine gw_ald (hk _ _ rfl) (Or.inl ⟨rfl, rfl⟩) e19 b19 ?_
          refine gw_pst hk 2 (st' := (94, [some (.ref r0), some (.int x1), some (.int x2), some (.int x_9)], [.int ((f19 (0 : Int32).toNatClampNeg) + x2), .int x1, .int x_9, .ref q_17, .ref r0, .int 501], h_16)) rfl ?_
          obtain ⟨⟨fs20, e20⟩, w⟩ := w
          refine gw_call (jj := 182) (As := [.ref r0, .ref q_17, .int x_9, .int x1, .int ((f19 (0 : Int32).toNatClampNeg) + x2)]) (rest := [.int 501]) (hk _ _ rfl) (fun _ => rfl) rfl rfl (Nat.le_of_ble_eq_true rfl) (gm_rcv_v rfl e20 rfl) ?_
          refine ge_imp w (fun v20 h_20 w => ?_)
          obtain ⟨x_20, rfl, w⟩ := w
          show gV c d 216 (97, [some (.ref r0), some (.int x1), some (.int x2), some (.int x_9)], [.int x_20, .int 501], h_20) Post
          refine gw_pst hk 1 (st' := (98, [some (.ref r0), some (.int x1), some (.int x2), some (.int x_9)], [.int (501 + x_20)], h_20)) rfl ?_
          exact gw_ret (hk _ _ rfl) rfl w
/-- CommandByTurnsModel.reach(I)I -/
def wm217 (c : gx) (d : Nat) (Post : Option Value → gm_H → Prop) (r0 : Nat) (x1 : Int32) (h : gm_H) : Prop :=
  ∃ fs1 : List Value, gm_get h r0 = some (.inr (10, fs1)) ∧ 13 < fs1.length ∧ ∀ h_1 : gm_H, h_1 = gm_put h r0 (.inr (10, fs1.set 13 (.int 0))) → gE c d 159 [.int x1] h_1 (fun v2 h_2 => ∃ x_2 : Int32, v2 = some (.int x_2) ∧ ((x_2 = 0 → Post (some (.int (-1))) h_2) ∧ (¬ (x_2 = 0) → ∃ q_4 : Nat, gm_fld h_2 r0 10 0 = some (.ref q_4) ∧ ∃ (n5 : Nat) (f5 : Nat → Int32), gm_get h_2 q_4 = some (.inl (0, n5, .inl f5)) ∧ vp_in 1 n5 ∧ ∃ q_6 : Nat, gm_fld h_2 r0 10 0 = some (.ref q_6) ∧ ∃ (n7 : Nat) (f7 : Nat → Int32), gm_get h_2 q_6 = some (.inl (0, n7, .inl f7)) ∧ vp_in 2 n7 ∧ (∃ fs8, gm_get h_2 r0 = some (.inr (10, fs8))) ∧ gE c d 189 [.ref r0, .int x1, .int (f5 (1 : Int32).toNatClampNeg), .int (f7 (2 : Int32).toNatClampNeg)] h_2 (fun v8 h_8 => ∃ x_8 : Int32, v8 = some (.int x_8) ∧ ∃ fs9 : List Value, gm_get h_8 r0 = some (.inr (10, fs9)) ∧ 12 < fs9.length ∧ ∀ h_9 : gm_H, h_9 = gm_put h_8 r0 (.inr (10, fs9.set 12 (.int 0))) → gE c d 266 [.int x_8] h_9 (fun v10 h_10 => ∃ x_10 : Int32, v10 = some (.int x_10) ∧ (∃ fs11, gm_get h_10 r0 = some (.inr (10, fs11))) ∧ gE c d 157 [.ref r0, .long ((x_10 : Int32).toInt64)] h_10 (fun v11 h_11 => v11 = none ∧ Post (some (.int x_8)) h_11))))))
theorem okm217 (c : gx) (d : Nat) (Post : Option Value → gm_H → Prop) (r0 : Nat) (x1 : Int32) (h : gm_H) (w : wm217 c d Post r0 x1 h) : gE c (d + 1) 217 [.ref r0, .int x1] h Post := by
  have hk : ∀ pc i, gm_find gk_217 pc = some i → gm_code (gt_T c.1 c.2.1 c.2.2.1) 217 pc = some i := fun _ _ z => z
  unfold wm217 at w
  refine ge_of (by decide) (Nat.le_of_ble_eq_true rfl) ?_
  show gV c d 217 (0, [some (.ref r0), some (.int x1), none], [], h) Post
  unfold gV
  refine gw_pst hk 2 (st' := (2, [some (.ref r0), some (.int x1), none], [.int 0, .ref r0], h)) rfl ?_
  obtain ⟨fs1, e1, l1, w⟩ := w
  refine gw_pf (hk _ _ rfl) e1 l1 rfl ?_
  obtain ⟨h_1, eh1⟩ : ∃ z, z = gm_put h r0 (.inr (10, fs1.set 13 (.int 0))) := ⟨_, rfl⟩
  rw [← eh1]
  replace w := w h_1 eh1
  refine gw_pst hk 1 (st' := (6, [some (.ref r0), some (.int x1), none], [.int x1], h_1)) rfl ?_
  refine gw_call (jj := 159) (As := [.int x1]) (rest := []) (hk _ _ rfl) (fun _ => rfl) rfl rfl (Nat.le_of_ble_eq_true rfl) rfl ?_
  refine ge_imp w (fun v2 h_2 w => ?_)
  obtain ⟨x_2, rfl, w⟩ := w
  show gV c d 217 (9, [some (.ref r0), some (.int x1), none], [.int x_2], h_2) Post
  refine gw_br (c := x_2 = 0) (a := (12, [some (.ref r0), some (.int x1), none], [], h_2)) (b := (14, [some (.ref r0), some (.int x1), none], [], h_2)) (hk _ _ rfl) rfl ⟨fun z3 => ?_, fun z3 => ?_⟩
  · replace w := w.1 z3
    refine gw_pst hk 1 (st' := (13, [some (.ref r0), some (.int x1), none], [.int (-1)], h_2)) rfl ?_
    exact gw_ret (hk _ _ rfl) rfl w
  · replace w := w.2 z3
    refine gw_pst hk 3 (st' := (17, [some (.ref r0), some (.int x1), none], [.ref r0, .int x1, .ref r0], h_2)) rfl ?_
    obtain ⟨q_4, e4, w⟩ := w
    refine gw_gf (hk _ _ rfl) e4 ?_
    refine gw_pst hk 1 (st' := (21, [some (.ref r0), some (.int x1), none], [.int 1, .ref q_4, .int x1, .ref r0], h_2)) rfl ?_
    obtain ⟨n5, f5, e5, b5, w⟩ := w
    refine gw_ald (hk _ _ rfl) (Or.inl ⟨rfl, rfl⟩) e5 b5 ?_
    refine gw_pst hk 1 (st' := (23, [some (.ref r0), some (.int x1), none], [.ref r0, .int (f5 (1 : Int32).toNatClampNeg), .int x1, .ref r0], h_2)) rfl ?_
    obtain ⟨q_6, e6, w⟩ := w
    refine gw_gf (hk _ _ rfl) e6 ?_
    refine gw_pst hk 1 (st' := (27, [some (.ref r0), some (.int x1), none], [.int 2, .ref q_6, .int (f5 (1 : Int32).toNatClampNeg), .int x1, .ref r0], h_2)) rfl ?_
    obtain ⟨n7, f7, e7, b7, w⟩ := w
    refine gw_ald (hk _ _ rfl) (Or.inl ⟨rfl, rfl⟩) e7 b7 ?_
    obtain ⟨⟨fs8, e8⟩, w⟩ := w
    refine gw_call (jj := 189) (As := [.ref r0, .int x1, .int (f5 (1 : Int32).toNatClampNeg), .int (f7 (2 : Int32).toNatClampNeg)]) (rest := []) (hk _ _ rfl) (fun _ => rfl) rfl rfl (Nat.le_of_ble_eq_true rfl) (gm_rcv_v rfl e8 rfl) ?_
    refine ge_imp w (fun v8 h_8 w => ?_)
    obtain ⟨x_8, rfl, w⟩ := w
    show gV c d 217 (31, [some (.ref r0), some (.int x1), none], [.int x_8], h_8) Post
    refine gw_pst hk 3 (st' := (34, [some (.ref r0), some (.int x1), some (.int x_8)], [.int 0, .ref r0], h_8)) rfl ?_
    obtain ⟨fs9, e9, l9, w⟩ := w
    refine gw_pf (hk _ _ rfl) e9 l9 rfl ?_
    obtain ⟨h_9, eh9⟩ : ∃ z, z = gm_put h_8 r0 (.inr (10, fs9.set 12 (.int 0))) := ⟨_, rfl⟩
    rw [← eh9]
    replace w := w h_9 eh9
    refine gw_pst hk 2 (st' := (39, [some (.ref r0), some (.int x1), some (.int x_8)], [.int x_8, .ref r0], h_9)) rfl ?_
    refine gw_call (jj := 266) (As := [.int x_8]) (rest := [.ref r0]) (hk _ _ rfl) (fun _ => rfl) rfl rfl (Nat.le_of_ble_eq_true rfl) rfl ?_
    refine ge_imp w (fun v10 h_10 w => ?_)
    obtain ⟨x_10, rfl, w⟩ := w
    show gV c d 217 (42, [some (.ref r0), some (.int x1), some (.int x_8)], [.int x_10, .ref r0], h_10) Post
    refine gw_pst hk 1 (st' := (43, [some (.ref r0), some (.int x1), some (.int x_8)], [.long ((x_10 : Int32).toInt64), .ref r0], h_10)) rfl ?_
    obtain ⟨⟨fs11, e11⟩, w⟩ := w
    refine gw_call (jj := 157) (As := [.ref r0, .long ((x_10 : Int32).toInt64)]) (rest := []) (hk _ _ rfl) (fun _ => rfl) rfl rfl (Nat.le_of_ble_eq_true rfl) (gm_rcv_v rfl e11 rfl) ?_
    refine ge_imp w (fun v11 h_11 w => ?_)
    obtain ⟨rfl, w⟩ := w
    show gV c d 217 (46, [some (.ref r0), some (.int x1), some (.int x_8)], [], h_11) Post
    refine gw_pst hk 1 (st' := (47, [some (.ref r0), some (.int x1), some (.int x_8)], [.int x_8], h_11)) rfl ?_
    exact gw_ret (hk _ _ rfl) rfl w
def w218_193 (c : gx) (d : Nat) (Post : Option Value → gm_H → Prop) (K70 : Nat → Int32 → Int32 → Int32 → Int32 → Int32 → gm_H → Prop) (K90 : Nat → Int32 → Int32 → Int32 → Int32 → Int32 → Int32 → gm_H → Prop) (r0 : Nat) (x2 : Int32) (x3 : Int32) (x4 : Int32) (x5 : Int32) (x6 : Int32) (x7 : Int32) (h : gm_H) : Prop :=
  K90 r0 x2 x3 x4 x5 x6 (x7 + (if 1 < (2 * x6) then (2 * x6) else 1)) h
theorem ok218_193 (c : gx) (d : Nat) (Post : Option Value → gm_H → Prop) (K70 : Nat → Int32 → Int32 → Int32 → Int32 → Int32 → gm_H → Prop) (K90 : Nat → Int32 → Int32 → Int32 → Int32 → Int32 → Int32 → gm_H → Prop)  (hK70 : ∀ (r0 : Nat) (x2 : Int32) (x3 : Int32) (x4 : Int32) (x5 : Int32) (x6 : Int32) (h : gm_H), K70 r0 x2 x3 x4 x5 x6 h → gV c d 218 (70, [some (.ref r0), none, some (.int x2), some (.int x3), some (.int x4), some (.int x5), some (.int x6), none, none], [], h) Post) (hK90 : ∀ (r0 : Nat) (x2 : Int32) (x3 : Int32) (x4 : Int32) (x5 : Int32) (x6 : Int32) (x7 : Int32) (h : gm_H), K90 r0 x2 x3 x4 x5 x6 x7 h → gV c d 218 (90, [some (.ref r0), none, some (.int x2), some (.int x3), some (.int x4), some (.int x5), some (.int x6), some (.int x7), none], [], h) Post) (r0 : Nat) (x2 : Int32) (x3 : Int32) (x4 : Int32) (x5 : Int32) (x6 : Int32) (x7 : Int32) (h : gm_H) (w : w218_193 c d Post K70 K90 r0 x2 x3 x4 x5 x6 x7 h) : gV c d 218 (193, [some (.ref r0), none, some (.int x2), some (.int x3), some (.int x4), some (.int x5), some (.int x6), some (.int x7), none], [], h) Post := by
  have hk : ∀ pc i, gm_find gk_218 pc = some i → gm_code (gt_T c.1 c.2.1 c.2.2.1) 218 pc = some i := fun _ _ z => z
  unfold w218_193 at w
  unfold gV
  refine gw_pst hk 9 (st' := (90, [some (.ref r0), none, some (.int x2), some (.int x3), some (.int x4), some (.int x5), some (.int x6), some (.int (x7 + (if 1 < (2 * x6) then (2 * x6) else 1))), none], [], h)) rfl ?_
  exact hK90 _ _ _ _ _ _ _ _ w
def w218_185 (c : gx) (d : Nat) (Post : Option Value → gm_H → Prop) (K70 : Nat → Int32 → Int32 → Int32 → Int32 → Int32 → gm_H → Prop) (K90 : Nat → Int32 → Int32 → Int32 → Int32 → Int32 → Int32 → gm_H → Prop) (r0 : Nat) (x2 : Int32) (x3 : Int32) (x6 : Int32) (x7 : Int32) (x8 : Int32) (h : gm_H) : Prop :=
  w218_193 c d Post K70 K90 r0 x2 x3 x7 x8 x6 x7 h
theorem ok218_185 (c : gx) (d : Nat) (Post : Option Value → gm_H → Prop) (K70 : Nat → Int32 → Int32 → Int32 → Int32 → Int32 → gm_H → Prop) (K90 : Nat → Int32 → Int32 → Int32 → Int32 → Int32 → Int32 → gm_H → Prop)  (hK70 : ∀ (r0 : Nat) (x2 : Int32) (x3 : Int32) (x4 : Int32) (x5 : Int32) (x6 : Int32) (h : gm_H), K70 r0 x2 x3 x4 x5 x6 h → gV c d 218 (70, [some (.ref r0), none, some (.int x2), some (.int x3), some (.int x4), some (.int x5), some (.int x6), none, none], [], h) Post) (hK90 : ∀ (r0 : Nat) (x2 : Int32) (x3 : Int32) (x4 : Int32) (x5 : Int32) (x6 : Int32) (x7 : Int32) (h : gm_H), K90 r0 x2 x3 x4 x5 x6 x7 h → gV c d 218 (90, [some (.ref r0), none, some (.int x2), some (.int x3), some (.int x4), some (.int x5), some (.int x6), some (.int x7), none], [], h) Post) (r0 : Nat) (x2 : Int32) (x3 : Int32) (x6 : Int32) (x7 : Int32) (x8 : Int32) (h : gm_H) (w : w218_185 c d Post K70 K90 r0 x2 x3 x6 x7 x8 h) : gV c d 218 (185, [some (.ref r0), none, some (.int x2), some (.int x3), none, none, some (.int x6), some (.int x7), some (.int x8)], [], h) Post := by
  have hk : ∀ pc i, gm_find gk_218 pc = some i → gm_code (gt_T c.1 c.2.1 c.2.2.1) 218 pc = some i := fun _ _ z => z
  unfold w218_185 at w
  unfold gV
  refine gw_pst hk 4 (st' := (193, [some (.ref r0), none, some (.int x2), some (.int x3), some (.int x7), some (.int x8), some (.int x6), some (.int x7), some (.int x8)], [], h)) rfl ?_
  refine gw_le (L' := [some (.ref r0), none, some (.int x2), some (.int x3), some (.int x7), some (.int x8), some (.int x6), some (.int x7), none]) (gm_le_k _ (gm_le_k _ (gm_le_k _ (gm_le_k _ (gm_le_k _ (gm_le_k _ (gm_le_k _ (gm_le_k _ (gm_le_n _ gm_le_nil))))))))) ?_
  exact ok218_193 c d Post K70 K90 hK70 hK90 _ _ _ _ _ _ _ _ w
def w218_167 (c : gx) (d : Nat) (Post : Option Value → gm_H → Prop) (K70 : Nat → Int32 → Int32 → Int32 → Int32 → Int32 → gm_H → Prop) (K90 : Nat → Int32 → Int32 → Int32 → Int32 → Int32 → Int32 → gm_H → Prop) (r0 : Nat) (x2 : Int32) (x3 : Int32) (x4 : Int32) (x5 : Int32) (x6 : Int32) (x7 : Int32) (xs0 : Int32) (h : gm_H) : Prop :=
  ((x4 = (-1) → w218_185 c d Post K70 K90 r0 x2 x3 x6 x7 xs0 h) ∧ (¬ (x4 = (-1)) → ((x5 < xs0 → w218_185 c d Post K70 K90 r0 x2 x3 x6 x7 xs0 h) ∧ (¬ (x5 < xs0) → w218_193 c d Post K70 K90 r0 x2 x3 x4 x5 x6 x7 h))))
theorem ok218_167 (c : gx) (d : Nat) (Post : Option Value → gm_H → Prop) (K70 : Nat → Int32 → Int32 → Int32 → Int32 → Int32 → gm_H → Prop) (K90 : Nat → Int32 → Int32 → Int32 → Int32 → Int32 → Int32 → gm_H → Prop)  (hK70 : ∀ (r0 : Nat) (x2 : Int32) (x3 : Int32) (x4 : Int32) (x5 : Int32) (x6 : Int32) (h : gm_H), K70 r0 x2 x3 x4 x5 x6 h → gV c d 218 (70, [some (.ref r0), none, some (.int x2), some (.int x3), some (.int x4), some (.int x5), some (.int x6), none, none], [], h) Post) (hK90 : ∀ (r0 : Nat) (x2 : Int32) (x3 : Int32) (x4 : Int32) (x5 : Int32) (x6 : Int32) (x7 : Int32) (h : gm_H), K90 r0 x2 x3 x4 x5 x6 x7 h → gV c d 218 (90, [some (.ref r0), none, some (.int x2), some (.int x3), some (.int x4), some (.int x5), some (.int x6), some (.int x7), none], [], h) Post) (r0 : Nat) (x2 : Int32) (x3 : Int32) (x4 : Int32) (x5 : Int32) (x6 : Int32) (x7 : Int32) (xs0 : Int32) (h : gm_H) (w : w218_167 c d Post K70 K90 r0 x2 x3 x4 x5 x6 x7 xs0 h) : gV c d 218 (167, [some (.ref r0), none, some (.int x2), some (.int x3), some (.int x4), some (.int x5), some (.int x6), some (.int x7), none], [.int xs0], h) Post := by
  have hk : ∀ pc i, gm_find gk_218 pc = some i → gm_code (gt_T c.1 c.2.1 c.2.2.1) 218 pc = some i := fun _ _ z => z
  unfold w218_167 at w
  unfold gV
  refine gw_pst hk 3 (st' := (172, [some (.ref r0), none, some (.int x2), some (.int x3), some (.int x4), some (.int x5), some (.int x6), some (.int x7), some (.int xs0)], [.int (-1), .int x4], h)) rfl ?_
  refine gw_br (c := x4 = (-1)) (a := (185, [some (.ref r0), none, some (.int x2), some (.int x3), some (.int x4), some (.int x5), some (.int x6), some (.int x7), some (.int xs0)], [], h)) (b := (175, [some (.ref r0), none, some (.int x2), some (.int x3), some (.int x4), some (.int x5), some (.int x6), some (.int x7), some (.int xs0)], [], h)) (hk _ _ rfl) rfl ⟨fun z1 => ?_, fun z1 => ?_⟩
  · replace w := w.1 z1
    refine gw_le (L' := [some (.ref r0), none, some (.int x2), some (.int x3), none, none, some (.int x6), some (.int x7), some (.int xs0)]) (gm_le_k _ (gm_le_k _ (gm_le_k _ (gm_le_k _ (gm_le_n _ (gm_le_n _ (gm_le_k _ (gm_le_k _ (gm_le_k _ gm_le_nil))))))))) ?_
    exact ok218_185 c d Post K70 K90 hK70 hK90 _ _ _ _ _ _ _ w
  · replace w := w.2 z1
    refine gw_pst hk 2 (st' := (179, [some (.ref r0), none, some (.int x2), some (.int x3), some (.int x4), some (.int x5), some (.int x6), some (.int x7), some (.int xs0)], [.int x5, .int xs0], h)) rfl ?_
    refine gw_br (c := x5 < xs0) (a := (185, [some (.ref r0), none, some (.int x2), some (.int x3), some (.int x4), some (.int x5), some (.int x6), some (.int x7), some (.int xs0)], [], h)) (b := (182, [some (.ref r0), none, some (.int x2), some (.int x3), some (.int x4), some (.int x5), some (.int x6), some (.int x7), some (.int xs0)], [], h)) (hk _ _ rfl) rfl ⟨fun z2 => ?_, fun z2 => ?_⟩
    · replace w := w.1 z2
      refine gw_le (L' := [some (.ref r0), none, some (.int x2), some (.int x3), none, none, some (.int x6), some (.int x7), some (.int xs0)]) (gm_le_k _ (gm_le_k _ (gm_le_k _ (gm_le_k _ (gm_le_n _ (gm_le_n _ (gm_le_k _ (gm_le_k _ (gm_le_k _ gm_le_nil))))))))) ?_
      exact ok218_185 c d Post K70 K90 hK70 hK90 _ _ _ _ _ _ _ w
    · replace w := w.2 z2
      refine gw_pst hk 1 (st' := (193, [some (.ref r0), none, some (.int x2), some (.int x3), some (.int x4), some (.int x5), some (.int x6), some (.int x7), some (.int xs0)], [], h)) rfl ?_
      refine gw_le (L' := [some (.ref r0), none, some (.int x2), some (.int x3), some (.int x4), some (.int x5), some (.int x6), some (.int x7), none]) (gm_le_k _ (gm_le_k _ (gm_le_k _ (gm_le_k _ (gm_le_k _ (gm_le_k _ (gm_le_k _ (gm_le_k _ (gm_le_n _ gm_le_nil))))))))) ?_
      exact ok218_193 c d Post K70 K90 hK70 hK90 _ _ _ _ _ _ _ _ w
def w218_144 (c : gx) (d : Nat) (Post : Option Value → gm_H → Prop) (K70 : Nat → Int32 → Int32 → Int32 → Int32 → Int32 → gm_H → Prop) (K90 : Nat → Int32 → Int32 → Int32 → Int32 → Int32 → Int32 → gm_H → Prop) (r0 : Nat) (x2 : Int32) (x3 : Int32) (x4 : Int32) (x5 : Int32) (x6 : Int32) (x7 : Int32) (h : gm_H) : Prop :=
  w218_167 c d Post K70 K90 r0 x2 x3 x4 x5 x6 x7 0 h
theorem ok218_144 (c : gx) (d : Nat) (Post : Option Value → gm_H → Prop) (K70 : Nat → Int32 → Int32 → Int32 → Int32 → Int32 → gm_H → Prop) (K90 : Nat → Int32 → Int32 → Int32 → Int32 → Int32 → Int32 → gm_H → Prop)  (hK70 : ∀ (r0 : Nat) (x2 : Int32) (x3 : Int32) (x4 : Int32) (x5 : Int32) (x6 : Int32) (h : gm_H), K70 r0 x2 x3 x4 x5 x6 h → gV c d 218 (70, [some (.ref r0), none, some (.int x2), some (.int x3), some (.int x4), some (.int x5), some (.int x6), none, none], [], h) Post) (hK90 : ∀ (r0 : Nat) (x2 : Int32) (x3 : Int32) (x4 : Int32) (x5 : Int32) (x6 : Int32) (x7 : Int32) (h : gm_H), K90 r0 x2 x3 x4 x5 x6 x7 h → gV c d 218 (90, [some (.ref r0), none, some (.int x2), some (.int x3), some (.int x4), some (.int x5), some (.int x6), some (.int x7), none], [], h) Post) (r0 : Nat) (x2 : Int32) (x3 : Int32) (x4 : Int32) (x5 : Int32) (x6 : Int32) (x7 : Int32) (h : gm_H) (w : w218_144 c d Post K70 K90 r0 x2 x3 x4 x5 x6 x7 h) : gV c d 218 (144, [some (.ref r0), none, some (.int x2), some (.int x3), some (.int x4), some (.int x5), some (.int x6), some (.int x7), none], [], h) Post := by
  have hk : ∀ pc i, gm_find gk_218 pc = some i → gm_code (gt_T c.1 c.2.1 c.2.2.1) 218 pc = some i := fun _ _ z => z
  unfold w218_144 at w
  unfold gV
  refine gw_pst hk 2 (st' := (167, [some (.ref r0), none, some (.int x2), some (.int x3), some (.int x4), some (.int x5), some (.int x6), some (.int x7), none], [.int 0], h)) rfl ?_
  exact ok218_167 c d Post K70 K90 hK70 hK90 _ _ _ _ _ _ _ _ _ w
def wb218_90 (c : gx) (d : Nat) (Post : Option Value → gm_H → Prop) (K70 : Nat → Int32 → Int32 → Int32 → Int32 → Int32 → gm_H → Prop) (K90 : Nat → Int32 → Int32 → Int32 → Int32 → Int32 → Int32 → gm_H → Prop) (r0 : Nat) (x2 : Int32) (x3 : Int32) (x4 : Int32) (x5 : Int32) (x6 : Int32) (x7 : Int32) (h : gm_H) : Prop :=
  ∃ q_1 : Nat, gm_fld h r0 10 0 = some (.ref q_1) ∧ ∃ (n2 : Nat) (f2 : Nat → Int32), gm_get h q_1 = some (.inl (0, n2, .inl f2)) ∧ vp_in 1 n2 ∧ ((((f2 (1 : Int32).toNatClampNeg) + x6) < x7 → K70 r0 x2 x3 x4 x5 (x6 + 1) h) ∧ (¬ (((f2 (1 : Int32).toNatClampNeg) + x6) < x7) → (∃ fs4, gm_get h r0 = some (.inr (10, fs4))) ∧ gE c d 158 [.ref r0, .int x7] h (fun v4 h_4 => ∃ x_4 : Int32, v4 = some (.int x_4) ∧ ((x_4 = 0 → w218_193 c d Post K70 K90 r0 x2 x3 x4 x5 x6 x7 h_4) ∧ (¬ (x_4 = 0) → gE c d 155 [.int x3, .int x7] h_4 (fun v6 h_6 => ∃ x_6 : Int32, v6 = some (.int x_6) ∧ ((x_6 = 0 → w218_193 c d Post K70 K90 r0 x2 x3 x4 x5 x6 x7 h_6) ∧ (¬ (x_6 = 0) → ((x2 = (-1) → w218_144 c d Post K70 K90 r0 x2 x3 x4 x5 x6 x7 h_6) ∧ (¬ (x2 = (-1)) → ∃ q_9 : Nat, gm_fld h_6 r0 10 0 = some (.ref q_9) ∧ ∃ (n10 : Nat) (f10 : Nat → Int32), gm_get h_6 q_9 = some (.inl (0, n10, .inl f10)) ∧ vp_in 2 n10 ∧ gE c d 185 [.int x7, .int (f10 (2 : Int32).toNatClampNeg)] h_6 (fun v11 h_11 => ∃ x_11 : Int32, v11 = some (.int x_11) ∧ ((x_11 = 0 → w218_144 c d Post K70 K90 r0 x2 x3 x4 x5 x6 x7 h_11) ∧ (¬ (x_11 = 0) → ∃ q_13 : Nat, gm_fld h_11 r0 10 0 = some (.ref q_13) ∧ ∃ q_14 : Nat, gm_fld h_11 r0 10 0 = some (.ref q_14) ∧ ∃ (n15 : Nat) (f15 : Nat → Int32), gm_get h_11 q_14 = some (.inl (0, n15, .inl f15)) ∧ vp_in 0 n15 ∧ (∃ fs16, gm_get h_11 r0 = some (.inr (10, fs16))) ∧ gE c d 182 [.ref r0, .ref q_13, .int x2, .int x7, .int ((f15 (0 : Int32).toNatClampNeg) + 1)] h_11 (fun v16 h_16 => ∃ x_16 : Int32, v16 = some (.int x_16) ∧ w218_167 c d Post K70 K90 r0 x2 x3 x4 x5 x6 x7 x_16 h_16))))))))))))))
theorem okb218_90 (c : gx) (d : Nat) (Post : Option Value → gm_H → Prop) (K70 : Nat → Int32 → Int32 → Int32 → Int32 → Int32 → gm_H → Prop) (K90 : Nat → Int32 → Int32 → Int32 → Int32 → Int32 → Int32 → gm_H → Prop)  (hK70 : ∀ (r0 : Nat) (x2 : Int32) (x3 : Int32) (x4 : Int32) (x5 : Int32) (x6 : Int32) (h : gm_H), K70 r0 x2 x3 x4 x5 x6 h → gV c d 218 (70, [some (.ref r0), none, some (.int x2), some (.int x3), some (.int x4), some (.int x5), some (.int x6), none, none], [], h) Post) (hK90 : ∀ (r0 : Nat) (x2 : Int32) (x3 : Int32) (x4 : Int32) (x5 : Int32) (x6 : Int32) (x7 : Int32) (h : gm_H), K90 r0 x2 x3 x4 x5 x6 x7 h → gV c d 218 (90, [some (.ref r0), none, some (.int x2), some (.int x3), some (.int x4), some (.int x5), some (.int x6), some (.int x7), none], [], h) Post) (r0 : Nat) (x2 : Int32) (x3 : Int32) (x4 : Int32) (x5 : Int32) (x6 : Int32) (x7 : Int32) (h : gm_H) (w : wb218_90 c d Post K70 K90 r0 x2 x3 x4 x5 x6 x7 h) : gV c d 218 (90, [some (.ref r0), none, some (.int x2), some (.int x3), some (.int x4), some (.int x5), some (.int x6), some (.int x7), none], [], h) Post := by
  have hk : ∀ pc i, gm_find gk_218 pc = some i → gm_code (gt_T c.1 c.2.1 c.2.2.1) 218 pc = some i := fun _ _ z => z
  unfold wb218_90 at w
  unfold gV
  refine gw_pst hk 2 (st' := (93, [some (.ref r0), none, some (.int x2), some (.int x3), some (.int x4), some (.int x5), some (.int x6), some (.int x7), none], [.ref r0, .int x7], h)) rfl ?_
  obtain ⟨q_1, e1, w⟩ := w
  refine gw_gf (hk _ _ rfl) e1 ?_
  refine gw_pst hk 1 (st' := (97, [some (.ref r0), none, some (.int x2), some (.int x3), some (.int x4), some (.int x5), some (.int x6), some (.int x7), none], [.int 1, .ref q_1, .int x7], h)) rfl ?_
  obtain ⟨n2, f2, e2, b2, w⟩ := w
  refine gw_ald (hk _ _ rfl) (Or.inl ⟨rfl, rfl⟩) e2 b2 ?_
  refine gw_pst hk 2 (st' := (101, [some (.ref r0), none, some (.int x2), some (.int x3), some (.int x4), some (.int x5), some (.int x6), some (.int x7), none], [.int ((f2 (1 : Int32).toNatClampNeg) + x6), .int x7], h)) rfl ?_
  refine gw_br (c := ((f2 (1 : Int32).toNatClampNeg) + x6) < x7) (a := (209, [some (.ref r0), none, some (.int x2), some (.int x3), some (.int x4), some (.int x5), some (.int x6), some (.int x7), none], [], h)) (b := (104, [some (.ref r0), none, some (.int x2), some (.int x3), some (.int x4), some (.int x5), some (.int x6), some (.int x7), none], [], h)) (hk _ _ rfl) rfl ⟨fun z3 => ?_, fun z3 => ?_⟩
  · replace w := w.1 z3
    refine gw_pst hk 2 (st' := (70, [some (.ref r0), none, some (.int x2), some (.int x3), some (.int x4), some (.int x5), some (.int (x6 + 1)), some (.int x7), none], [], h)) rfl ?_
    refine gw_le (L' := [some (.ref r0), none, some (.int x2), some (.int x3), some (.int x4), some (.int x5), some (.int (x6 + 1)), none, none]) (gm_le_k _ (gm_le_k _ (gm_le_k _ (gm_le_k _ (gm_le_k _ (gm_le_k _ (gm_le_k _ (gm_le_n _ (gm_le_k _ gm_le_nil))))))))) ?_
    exact hK70 _ _ _ _ _ _ _ w
  · replace w := w.2 z3
    refine gw_pst hk 2 (st' := (107, [some (.ref r0), none, some (.int x2), some (.int x3), some (.int x4), some (.int x5), some (.int x6), some (.int x7), none], [.int x7, .ref r0], h)) rfl ?_
    obtain ⟨⟨fs4, e4⟩, w⟩ := w
    refine gw_call (jj := 158) (As := [.ref r0, .int x7]) (rest := []) (hk _ _ rfl) (fun _ => rfl) rfl rfl (Nat.le_of_ble_eq_true rfl) (gm_rcv_v rfl e4 rfl) ?_
    refine ge_imp w (fun v4 h_4 w => ?_)
    obtain ⟨x_4, rfl, w⟩ := w
    show gV c d 218 (110, [some (.ref r0), none, some (.int x2), some (.int x3), some (.int x4), some (.int x5), some (.int x6), some (.int x7), none], [.int x_4], h_4) Post
    refine gw_br (c := x_4 = 0) (a := (193, [some (.ref r0), none, some (.int x2), some (.int x3), some (.int x4), some (.int x5), some (.int x6), some (.int x7), none], [], h_4)) (b := (113, [some (.ref r0), none, some (.int x2), some (.int x3), some (.int x4), some (.int x5), some (.int x6), some (.int x7), none], [], h_4)) (hk _ _ rfl) rfl ⟨fun z5 => ?_, fun z5 => ?_⟩
    · replace w := w.1 z5
      exact ok218_193 c d Post K70 K90 hK70 hK90 _ _ _ _ _ _ _ _ w
    · replace w := w.2 z5
      refine gw_pst hk 2 (st' := (116, [some (.ref r0), none, some (.int x2), some (.int x3), some (.int x4), some (.int x5), some (.int x6), some (.int x7), none], [.int x7, .int x3], h_4)) rfl ?_
      refine gw_call (jj := 155) (As := [.int x3, .int x7]) (rest := []) (hk _ _ rfl) (fun _ => rfl) rfl rfl (Nat.le_of_ble_eq_true rfl) rfl ?_
      refine ge_imp w (fun v6 h_6 w => ?_)
      obtain ⟨x_6, rfl, w⟩ := w
      show gV c d 218 (119, [some (.ref r0), none, some (.int x2), some (.int x3), some (.int x4), some (.int x5), some (.int x6), some (.int x7), none], [.int x_6], h_6) Post
      refine gw_br (c := x_6 = 0) (a := (122, [some (.ref r0), none, some (.int x2), some (.int x3), some (.int x4), some (.int x5), some (.int x6), some (.int x7), none], [], h_6)) (b := (125, [some (.ref r0), none, some (.int x2), some (.int x3), some (.int x4), some (.int x5), some (.int x6), some (.int x7), none], [], h_6)) (hk _ _ rfl) rfl ⟨fun z7 => ?_, fun z7 => ?_⟩
      · replace w := w.1 z7
        refine gw_pst hk 1 (st' := (193, [some (.ref r0), none, some (.int x2), some (.int x3), some (.int x4), some (.int x5), some (.int x6), some (.int x7), none], [], h_6)) rfl ?_
        exact ok218_193 c d Post K70 K90 hK70 hK90 _ _ _ _ _ _ _ _ w
      · replace w := w.2 z7
        refine gw_pst hk 2 (st' := (127, [some (.ref r0), none, some (.int x2), some (.int x3), some (.int x4), some (.int x5), some (.int x6), some (.int x7), none], [.int (-1), .int x2], h_6)) rfl ?_
        refine gw_br (c := x2 = (-1)) (a := (144, [some (.ref r0), none, some (.int x2), some (.int x3), some (.int x4), some (.int x5), some (.int x6), some (.int x7), none], [], h_6)) (b := (130, [some (.ref r0), none, some (.int x2), some (.int x3), some (.int x4), some (.int x5), some (.int x6), some (.int x7), none], [], h_6)) (hk _ _ rfl) rfl ⟨fun z8 => ?_, fun z8 => ?_⟩
        · replace w := w.1 z8
          exact ok218_144 c d Post K70 K90 hK70 hK90 _ _ _ _ _ _ _ _ w
        · replace w := w.2 z8
          refine gw_pst hk 2 (st' := (133, [some (.ref r0), none, some (.int x2), some (.int x3), some (.int x4), some (.int x5), some (.int x6), some (.int x7), none], [.ref r0, .int x7], h_6)) rfl ?_
          obtain ⟨q_9, e9, w⟩ := w
          refine gw_gf (hk _ _ rfl) e9 ?_
          refine gw_pst hk 1 (st' := (137, [some (.ref r0), none, some (.int x2), some (.int x3), some (.int x4), some (.int x5), some (.int x6), some (.int x7), none], [.int 2, .ref q_9, .int x7], h_6)) rfl ?_
          obtain ⟨n10, f10, e10, b10, w⟩ := w
          refine gw_ald (hk _ _ rfl) (Or.inl ⟨rfl, rfl⟩) e10 b10 ?_
          refine gw_call (jj := 185) (As := [.int x7, .int (f10 (2 : Int32).toNatClampNeg)]) (rest := []) (hk _ _ rfl) (fun _ => rfl) rfl rfl (Nat.le_of_ble_eq_true rfl) rfl ?_
          refine ge_imp w (fun v11 h_11 w => ?_)
          obtain ⟨x_11, rfl, w⟩ := w
          show gV c d 218 (141, [some (.ref r0), none, some (.int x2), some (.int x3), some (.int x4), some (.int x5), some (.int x6), some (.int x7), none], [.int x_11], h_11) Post
          refine gw_br (c := x_11 = 0) (a := (144, [some (.ref r0), none, some (.int x2), some (.int x3), some (.int x4), some (.int x5), some (.int x6), some (.int x7), none], [], h_11)) (b := (148, [some (.ref r0), none, some (.int x2), some (.int x3), some (.int x4), some (.int x5), some (.int x6), some (.int x7), none], [], h_11)) (hk _ _ rfl) rfl ⟨fun z12 => ?_, fun z12 => ?_⟩
          · replace w := w.1 z12
            exact ok218_144 c d Post K70 K90 hK70 hK90 _ _ _ _ _ _ _ _ w
          · replace w := w.2 z12
            refine gw_pst hk 2 (st' := (150, [some (.ref r0), none, some (.int x2), some (.int x3), some (.int x4), some (.int x5), some (.int x6), some (.int x7), none], [.ref r0, .ref r0], h_11)) rfl ?_
            obtain ⟨q_13, e13, w⟩ := w
            refine gw_gf (hk _ _ rfl) e13 ?_
            refine gw_pst hk 3 (st' := (157, [some (.ref r0), none, some (.int x2), some (.int x3), some (.int x4), some (.int x5), some (.int x6), some (.int x7), none], [.ref r0, .int x7, .int x2, .ref q_13, .ref r0], h_11)) rfl ?_
            obtain ⟨q_14, e14, w⟩ := w
            refine gw_gf (hk _ _ rfl) e14 ?_
            refine gw_pst hk 1 (st' := (161, [some (.ref r0), none, some (.int x2), some (.int x3), some (.int x4), some (.int x5), some (.int x6), some (.int x7), none], [.int 0, .ref q_14, .int x7, .int x2, .ref q_13, .ref r0], h_11)) rfl ?_
            obtain ⟨n15, f15, e15, b15, w⟩ := w
            refine gw_ald (hk _ _ rfl) (Or.inl ⟨rfl, rfl⟩) e15 b15 ?_
            refine gw_pst hk 2 (st' := (164, [some (.ref r0), none, some (.int x2), some (.int x3), some (.int x4), some (.int x5), some (.int x6), some (.int x7), none], [.int ((f15 (0 : Int32).toNatClampNeg) + 1), .int x7, .int x2, .ref q_13, .ref r0], h_11)) rfl ?_
            obtain ⟨⟨fs16, e16⟩, w⟩ := w
            refine gw_call (jj := 182) (As := [.ref r0, .ref q_13, .int x2, .int x7, .int ((f15 (0 : Int32).toNatClampNeg) + 1)]) (rest := []) (hk _ _ rfl) (fun _ => rfl) rfl rfl (Nat.le_of_ble_eq_true rfl) (gm_rcv_v rfl e16 rfl) ?_
            refine ge_imp w (fun v16 h_16 w => ?_)
            obtain ⟨x_16, rfl, w⟩ := w
            show gV c d 218 (167, [some (.ref r0), none, some (.int x2), some (.int x3), some (.int x4), some (.int x5), some (.int x6), some (.int x7), none], [.int x_16], h_16) Post
            exact ok218_167 c d Post K70 K90 hK70 hK90 _ _ _ _ _ _ _ _ _ w
def wl218_90 (c : gx) (d : Nat) (Post : Option Value → gm_H → Prop) (K70 : Nat → Int32 → Int32 → Int32 → Int32 → Int32 → gm_H → Prop) : Nat → Nat → Int32 → Int32 → Int32 → Int32 → Int32 → Int32 → gm_H → Prop
  | 0 => fun _ _ _ _ _ _ _ _ => False
  | n + 1 => wb218_90 c d Post K70 (wl218_90 c d Post K70 n)
theorem okl218_90 (c : gx) (d : Nat) (Post : Option Value → gm_H → Prop) (K70 : Nat → Int32 → Int32 → Int32 → Int32 → Int32 → gm_H → Prop) (hK70 : ∀ (r0 : Nat) (x2 : Int32) (x3 : Int32) (x4 : Int32) (x5 : Int32) (x6 : Int32) (h : gm_H), K70 r0 x2 x3 x4 x5 x6 h → gV c d 218 (70, [some (.ref r0), none, some (.int x2), some (.int x3), some (.int x4), some (.int x5), some (.int x6), none, none], [], h) Post) : ∀ (n : Nat) (r0 : Nat) (x2 : Int32) (x3 : Int32) (x4 : Int32) (x5 : Int32) (x6 : Int32) (x7 : Int32) (h : gm_H), wl218_90 c d Post K70 n r0 x2 x3 x4 x5 x6 x7 h → gV c d 218 (90, [some (.ref r0), none, some (.int x2), some (.int x3), some (.int x4), some (.int x5), some (.int x6), some (.int x7), none], [], h) Post
  | 0, _, _, _, _, _, _, _, _, w => w.elim
  | n + 1, r0, x2, x3, x4, x5, x6, x7, h, w => okb218_90 c d Post K70 (wl218_90 c d Post K70 n) hK70 (okl218_90 c d Post K70 hK70 n) r0 x2 x3 x4 x5 x6 x7 h w
def wb218_70 (c : gx) (d : Nat) (Post : Option Value → gm_H → Prop) (K70 : Nat → Int32 → Int32 → Int32 → Int32 → Int32 → gm_H → Prop) (r0 : Nat) (x2 : Int32) (x3 : Int32) (x4 : Int32) (x5 : Int32) (x6 : Int32) (h : gm_H) : Prop :=
  ∃ x_1 : Int32, gm_fld h r0 10 1 = some (.int x_1) ∧ ((x_1 ≤ x6 → ∃ fs3 : List Value, gm_get h r0 = some (.inr (10, fs3)) ∧ 12 < fs3.length ∧ ∀ h_3 : gm_H, h_3 = gm_put h r0 (.inr (10, fs3.set 12 (.int 0))) → (∃ fs4, gm_get h_3 r0 = some (.inr (10, fs4))) ∧ gE c d 157 [.ref r0, .long ((501 + x5 : Int32).toInt64)] h_3 (fun v4 h_4 => v4 = none ∧ Post (some (.int x4)) h_4)) ∧ (¬ (x_1 ≤ x6) → ∃ q_5 : Nat, gm_fld h r0 10 0 = some (.ref q_5) ∧ ∃ (n6 : Nat) (f6 : Nat → Int32), gm_get h q_5 = some (.inl (0, n6, .inl f6)) ∧ vp_in 1 n6 ∧ ∃ n, wl218_90 c d Post K70 n r0 x2 x3 x4 x5 x6 ((f6 (1 : Int32).toNatClampNeg) - x6) h))
theorem okb218_70 (c : gx) (d : Nat) (Post : Option Value → gm_H → Prop) (K70 : Nat → Int32 → Int32 → Int32 → Int32 → Int32 → gm_H → Prop)  (hK70 : ∀ (r0 : Nat) (x2 : Int32) (x3 : Int32) (x4 : Int32) (x5 : Int32) (x6 : Int32) (h : gm_H), K70 r0 x2 x3 x4 x5 x6 h → gV c d 218 (70, [some (.ref r0), none, some (.int x2), some (.int x3), some (.int x4), some (.int x5), some (.int x6), none, none], [], h) Post) (r0 : Nat) (x2 : Int32) (x3 : Int32) (x4 : Int32) (x5 : Int32) (x6 : Int32) (h : gm_H) (w : wb218_70 c d Post K70 r0 x2 x3 x4 x5 x6 h) : gV c d 218 (70, [some (.ref r0), none, some (.int x2), some (.int x3), some (.int x4), some (.int x5), some (.int x6), none, none], [], h) Post := by
  have hk : ∀ pc i, gm_find gk_218 pc = some i → gm_code (gt_T c.1 c.2.1 c.2.2.1) 218 pc = some i := fun _ _ z => z
  unfold wb218_70 at w
  unfold gV
  refine gw_pst hk 2 (st' := (73, [some (.ref r0), none, some (.int x2), some (.int x3), some (.int x4), some (.int x5), some (.int x6), none, none], [.ref r0, .int x6], h)) rfl ?_
  obtain ⟨x_1, e1, w⟩ := w
  refine gw_gf (hk _ _ rfl) e1 ?_
  refine gw_br (c := x_1 ≤ x6) (a := (215, [some (.ref r0), none, some (.int x2), some (.int x3), some (.int x4), some (.int x5), some (.int x6), none, none], [], h)) (b := (79, [some (.ref r0), none, some (.int x2), some (.int x3), some (.int x4), some (.int x5), some (.int x6), none, none], [], h)) (hk _ _ rfl) rfl ⟨fun z2 => ?_, fun z2 => ?_⟩
  · replace w := w.1 z2
    refine gw_pst hk 2 (st' := (217, [some (.ref r0), none, some (.int x2), some (.int x3), some (.int x4), some (.int x5), some (.int x6), none, none], [.int 0, .ref r0], h)) rfl ?_
    obtain ⟨fs3, e3, l3, w⟩ := w
    refine gw_pf (hk _ _ rfl) e3 l3 rfl ?_
    obtain ⟨h_3, eh3⟩ : ∃ z, z = gm_put h r0 (.inr (10, fs3.set 12 (.int 0))) := ⟨_, rfl⟩
    rw [← eh3]
    replace w := w h_3 eh3
    refine gw_pst hk 5 (st' := (228, [some (.ref r0), none, some (.int x2), some (.int x3), some (.int x4), some (.int x5), some (.int x6), none, none], [.long ((501 + x5 : Int32).toInt64), .ref r0], h_3)) rfl ?_
    obtain ⟨⟨fs4, e4⟩, w⟩ := w
    refine gw_call (jj := 157) (As := [.ref r0, .long ((501 + x5 : Int32).toInt64)]) (rest := []) (hk _ _ rfl) (fun _ => rfl) rfl rfl (Nat.le_of_ble_eq_true rfl) (gm_rcv_v rfl e4 rfl) ?_
    refine ge_imp w (fun v4 h_4 w => ?_)
    obtain ⟨rfl, w⟩ := w
    show gV c d 218 (231, [some (.ref r0), none, some (.int x2), some (.int x3), some (.int x4), some (.int x5), some (.int x6), none, none], [], h_4) Post
    refine gw_pst hk 1 (st' := (233, [some (.ref r0), none, some (.int x2), some (.int x3), some (.int x4), some (.int x5), some (.int x6), none, none], [.int x4], h_4)) rfl ?_
    exact gw_ret (hk _ _ rfl) rfl w
  · replace w := w.2 z2
    refine gw_pst hk 1 (st' := (80, [some (.ref r0), none, some (.int x2), some (.int x3), some (.int x4), some (.int x5), some (.int x6), none, none], [.ref r0], h)) rfl ?_
    obtain ⟨q_5, e5, w⟩ := w
    refine gw_gf (hk _ _ rfl) e5 ?_
    refine gw_pst hk 1 (st' := (84, [some (.ref r0), none, some (.int x2), some (.int x3), some (.int x4), some (.int x5), some (.int x6), none, none], [.int 1, .ref q_5], h)) rfl ?_
    obtain ⟨n6, f6, e6, b6, w⟩ := w
    refine gw_ald (hk _ _ rfl) (Or.inl ⟨rfl, rfl⟩) e6 b6 ?_
    refine gw_pst hk 3 (st' := (90, [some (.ref r0), none, some (.int x2), some (.int x3), some (.int x4), some (.int x5), some (.int x6), some (.int ((f6 (1 : Int32).toNatClampNeg) - x6)), none], [], h)) rfl ?_
    obtain ⟨n, w⟩ := w
    exact okl218_90 c d Post K70 hK70 n _ _ _ _ _ _ _ _ w
def wl218_70 (c : gx) (d : Nat) (Post : Option Value → gm_H → Prop) : Nat → Nat → Int32 → Int32 → Int32 → Int32 → Int32 → gm_H → Prop
  | 0 => fun _ _ _ _ _ _ _ => False
  | n + 1 => wb218_70 c d Post (wl218_70 c d Post n)
theorem okl218_70 (c : gx) (d : Nat) (Post : Option Value → gm_H → Prop) : ∀ (n : Nat) (r0 : Nat) (x2 : Int32) (x3 : Int32) (x4 : Int32) (x5 : Int32) (x6 : Int32) (h : gm_H), wl218_70 c d Post n r0 x2 x3 x4 x5 x6 h → gV c d 218 (70, [some (.ref r0), none, some (.int x2), some (.int x3), some (.int x4), some (.int x5), some (.int x6), none, none], [], h) Post
  | 0, _, _, _, _, _, _, _, w => w.elim
  | n + 1, r0, x2, x3, x4, x5, x6, h, w => okb218_70 c d Post (wl218_70 c d Post n) (okl218_70 c d Post n) r0 x2 x3 x4 x5 x6 h w
/-- CommandByTurnsModel.evening()I -/
def wm218 (c : gx) (d : Nat) (Post : Option Value → gm_H → Prop) (r0 : Nat) (h : gm_H) : Prop :=
  ∃ fs1 : List Value, gm_get h r0 = some (.inr (10, fs1)) ∧ 13 < fs1.length ∧ ∀ h_1 : gm_H, h_1 = gm_put h r0 (.inr (10, fs1.set 13 (.int 0))) → ∃ q_2 : Nat, gm_fld h_1 r0 10 0 = some (.ref q_2) ∧ ∃ q_3 : Nat, gm_fld h_1 r0 10 0 = some (.ref q_3) ∧ ∃ (n4 : Nat) (f4 : Nat → Int32), gm_get h_1 q_3 = some (.inl (0, n4, .inl f4)) ∧ vp_in 0 n4 ∧ gE c d 184 [.ref q_2, .int (f4 (0 : Int32).toNatClampNeg)] h_1 (fun v5 h_5 => ∃ x_5 : Int32, v5 = some (.int x_5) ∧ ((x_5 = (-1) → Post (some (.int (-2))) h_5) ∧ (¬ (x_5 = (-1)) → ∃ q_7 : Nat, gm_fld h_5 r0 10 0 = some (.ref q_7) ∧ ∃ q_8 : Nat, gm_fld h_5 r0 10 0 = some (.ref q_8) ∧ ∃ (n9 : Nat) (f9 : Nat → Int32), gm_get h_5 q_8 = some (.inl (0, n9, .inl f9)) ∧ vp_in 0 n9 ∧ gE c d 184 [.ref q_7, .int ((f9 (0 : Int32).toNatClampNeg) + 1)] h_5 (fun v10 h_10 => ∃ x_10 : Int32, v10 = some (.int x_10) ∧ ∃ q_11 : Nat, gm_fld h_10 r0 10 0 = some (.ref q_11) ∧ ∃ (n12 : Nat) (f12 : Nat → Int32), gm_get h_10 q_11 = some (.inl (0, n12, .inl f12)) ∧ vp_in 1 n12 ∧ ∃ q_13 : Nat, gm_fld h_10 r0 10 0 = some (.ref q_13) ∧ ∃ (n14 : Nat) (f14 : Nat → Int32), gm_get h_10 q_13 = some (.inl (0, n14, .inl f14)) ∧ vp_in 2 n14 ∧ (∃ fs15, gm_get h_10 r0 = some (.inr (10, fs15))) ∧ gE c d 189 [.ref r0, .int x_5, .int (f12 (1 : Int32).toNatClampNeg), .int (f14 (2 : Int32).toNatClampNeg)] h_10 (fun v15 h_15 => ∃ x_15 : Int32, v15 = some (.int x_15) ∧ ∃ n, wl218_70 c d Post n r0 x_10 x_15 (-1) 0 0 h_15)))))
theorem okm218 (c : gx) (d : Nat) (Post : Option Value → gm_H → Prop) (r0 : Nat) (h : gm_H) (w : wm218 c d Post r0 h) : gE c (d + 1) 218 [.ref r0] h Post := by
  have hk : ∀ pc i, gm_find gk_218 pc = some i → gm_code (gt_T c.1 c.2.1 c.2.2.1) 218 pc = some i := fun _ _ z => z
  unfold wm218 at w
  refine ge_of (by decide) (Nat.le_of_ble_eq_true rfl) ?_
  show gV c d 218 (0, [some (.ref r0), none, none, none, none, none, none, none, none], [], h) Post
  unfold gV
  refine gw_pst hk 2 (st' := (2, [some (.ref r0), none, none, none, none, none, none, none, none], [.int 0, .ref r0], h)) rfl ?_
  obtain ⟨fs1, e1, l1, w⟩ := w
  refine gw_pf (hk _ _ rfl) e1 l1 rfl ?_
  obtain ⟨h_1, eh1⟩ : ∃ z, z = gm_put h r0 (.inr (10, fs1.set 13 (.int 0))) := ⟨_, rfl⟩
  rw [← eh1]
  replace w := w h_1 eh1
  refine gw_pst hk 1 (st' := (6, [some (.ref r0), none, none, none, none, none, none, none, none], [.ref r0], h_1)) rfl ?_
  obtain ⟨q_2, e2, w⟩ := w
  refine gw_gf (hk _ _ rfl) e2 ?_
  refine gw_pst hk 1 (st' := (10, [some (.ref r0), none, none, none, none, none, none, none, none], [.ref r0, .ref q_2], h_1)) rfl ?_
  obtain ⟨q_3, e3, w⟩ := w
  refine gw_gf (hk _ _ rfl) e3 ?_
  refine gw_pst hk 1 (st' := (14, [some (.ref r0), none, none, none, none, none, none, none, none], [.int 0, .ref q_3, .ref q_2], h_1)) rfl ?_
  obtain ⟨n4, f4, e4, b4, w⟩ := w
  refine gw_ald (hk _ _ rfl) (Or.inl ⟨rfl, rfl⟩) e4 b4 ?_
  refine gw_call (jj := 184) (As := [.ref q_2, .int (f4 (0 : Int32).toNatClampNeg)]) (rest := []) (hk _ _ rfl) (fun _ => rfl) rfl rfl (Nat.le_of_ble_eq_true rfl) rfl ?_
  refine ge_imp w (fun v5 h_5 w => ?_)
  obtain ⟨x_5, rfl, w⟩ := w
  show gV c d 218 (18, [some (.ref r0), none, none, none, none, none, none, none, none], [.int x_5], h_5) Post
  refine gw_pst hk 3 (st' := (21, [some (.ref r0), some (.int x_5), none, none, none, none, none, none, none], [.int (-1), .int x_5], h_5)) rfl ?_
  refine gw_br (c := x_5 = (-1)) (a := (24, [some (.ref r0), some (.int x_5), none, none, none, none, none, none, none], [], h_5)) (b := (27, [some (.ref r0), some (.int x_5), none, none, none, none, none, none, none], [], h_5)) (hk _ _ rfl) rfl ⟨fun z6 => ?_, fun z6 => ?_⟩
  · replace w := w.1 z6
    refine gw_pst hk 1 (st' := (26, [some (.ref r0), some (.int x_5), none, none, none, none, none, none, none], [.int (-2)], h_5)) rfl ?_
    exact gw_ret (hk _ _ rfl) rfl w
  · replace w := w.2 z6
    refine gw_pst hk 1 (st' := (28, [some (.ref r0), some (.int x_5), none, none, none, none, none, none, none], [.ref r0], h_5)) rfl ?_
    obtain ⟨q_7, e7, w⟩ := w
    refine gw_gf (hk _ _ rfl) e7 ?_
    refine gw_pst hk 1 (st' := (32, [some (.ref r0), some (.int x_5), none, none, none, none, none, none, none], [.ref r0, .ref q_7], h_5)) rfl ?_
    obtain ⟨q_8, e8, w⟩ := w
    refine gw_gf (hk _ _ rfl) e8 ?_
    refine gw_pst hk 1 (st' := (36, [some (.ref r0), some (.int x_5), none, none, none, none, none, none, none], [.int 0, .ref q_8, .ref q_7], h_5)) rfl ?_
    obtain ⟨n9, f9, e9, b9, w⟩ := w
    refine gw_ald (hk _ _ rfl) (Or.inl ⟨rfl, rfl⟩) e9 b9 ?_
    refine gw_pst hk 2 (st' := (39, [some (.ref r0), some (.int x_5), none, none, none, none, none, none, none], [.int ((f9 (0 : Int32).toNatClampNeg) + 1), .ref q_7], h_5)) rfl ?_
    refine gw_call (jj := 184) (As := [.ref q_7, .int ((f9 (0 : Int32).toNatClampNeg) + 1)]) (rest := []) (hk _ _ rfl) (fun _ => rfl) rfl rfl (Nat.le_of_ble_eq_true rfl) rfl ?_
    refine ge_imp w (fun v10 h_10 w => ?_)
    obtain ⟨x_10, rfl, w⟩ := w
    show gV c d 218 (42, [some (.ref r0), some (.int x_5), none, none, none, none, none, none, none], [.int x_10], h_10) Post
    refine gw_pst hk 4 (st' := (46, [some (.ref r0), some (.int x_5), some (.int x_10), none, none, none, none, none, none], [.ref r0, .int x_5, .ref r0], h_10)) rfl ?_
    obtain ⟨q_11, e11, w⟩ := w
    refine gw_gf (hk _ _ rfl) e11 ?_
    refine gw_pst hk 1 (st' := (50, [some (.ref r0), some (.int x_5), some (.int x_10), none, none, none, none, none, none], [.int 1, .ref q_11, .int x_5, .ref r0], h_10)) rfl ?_
    obtain ⟨n12, f12, e12, b12, w⟩ := w
    refine gw_ald (hk _ _ rfl) (Or.inl ⟨rfl, rfl⟩) e12 b12 ?_
    refine gw_pst hk 1 (st' := (52, [some (.ref r0), some (.int x_5), some (.int x_10), none, none, none, none, none, none], [.ref r0, .int (f12 (1 : Int32).toNatClampNeg), .int x_5, .ref r0], h_10)) rfl ?_
    obtain ⟨q_13, e13, w⟩ := w
    refine gw_gf (hk _ _ rfl) e13 ?_
    refine gw_pst hk 1 (st' := (56, [some (.ref r0), some (.int x_5), some (.int x_10), none, none, none, none, none, none], [.int 2, .ref q_13, .int (f12 (1 : Int32).toNatClampNeg), .int x_5, .ref r0], h_10)) rfl ?_
    obtain ⟨n14, f14, e14, b14, w⟩ := w
    refine gw_ald (hk _ _ rfl) (Or.inl ⟨rfl, rfl⟩) e14 b14 ?_
    obtain ⟨⟨fs15, e15⟩, w⟩ := w
    refine gw_call (jj := 189) (As := [.ref r0, .int x_5, .int (f12 (1 : Int32).toNatClampNeg), .int (f14 (2 : Int32).toNatClampNeg)]) (rest := []) (hk _ _ rfl) (fun _ => rfl) rfl rfl (Nat.le_of_ble_eq_true rfl) (gm_rcv_v rfl e15 rfl) ?_
    refine ge_imp w (fun v15 h_15 w => ?_)
    obtain ⟨x_15, rfl, w⟩ := w
    show gV c d 218 (60, [some (.ref r0), some (.int x_5), some (.int x_10), none, none, none, none, none, none], [.int x_15], h_15) Post
    refine gw_pst hk 7 (st' := (70, [some (.ref r0), some (.int x_5), some (.int x_10), some (.int x_15), some (.int (-1)), some (.int 0), some (.int 0), none, none], [], h_15)) rfl ?_
    refine gw_le (L' := [some (.ref r0), none, some (.int x_10), some (.int x_15), some (.int (-1)), some (.int 0), some (.int 0), none, none]) (gm_le_k _ (gm_le_n _ (gm_le_k _ (gm_le_k _ (gm_le_k _ (gm_le_k _ (gm_le_k _ (gm_le_k _ (gm_le_k _ gm_le_nil))))))))) ?_
    obtain ⟨n, w⟩ := w
    exact okl218_70 c d Post n _ _ _ _ _ _ _ w
def wb219_14 (c : gx) (d : Nat) (Post : Option Value → gm_H → Prop) (K14 : Nat → Int32 → Int32 → gm_H → Prop) (r0 : Nat) (x1 : Int32) (x2 : Int32) (h : gm_H) : Prop :=
  ((100 ≤ x2 → Post (some (.int (-2))) h) ∧ (¬ (100 ≤ x2) → ∃ q_2 : Nat, gm_fld h r0 10 0 = some (.ref q_2) ∧ gE c d 196 [.ref q_2] h (fun v3 h_3 => ∃ x_3 : Int32, v3 = some (.int x_3) ∧ ((x_3 ≤ x1 → ∃ q_5 : Nat, gm_fld h_3 r0 10 0 = some (.ref q_5) ∧ gE c d 196 [.ref q_5] h_3 (fun v6 h_6 => ∃ x_6 : Int32, v6 = some (.int x_6) ∧ K14 r0 (x1 - x_6) (x2 + 1) h_6)) ∧ (¬ (x_3 ≤ x1) → Post (some (.int x2)) h_3)))))
theorem okb219_14 (c : gx) (d : Nat) (Post : Option Value → gm_H → Prop) (K14 : Nat → Int32 → Int32 → gm_H → Prop)  (hK14 : ∀ (r0 : Nat) (x1 : Int32) (x2 : Int32) (h : gm_H), K14 r0 x1 x2 h → gV c d 219 (14, [some (.ref r0), some (.int x1), some (.int x2)], [], h) Post) (r0 : Nat) (x1 : Int32) (x2 : Int32) (h : gm_H) (w : wb219_14 c d Post K14 r0 x1 x2 h) : gV c d 219 (14, [some (.ref r0), some (.int x1), some (.int x2)], [], h) Post := by
  have hk : ∀ pc i, gm_find gk_219 pc = some i → gm_code (gt_T c.1 c.2.1 c.2.2.1) 219 pc = some i := fun _ _ z => z
  unfold wb219_14 at w
  unfold gV
  refine gw_pst hk 2 (st' := (17, [some (.ref r0), some (.int x1), some (.int x2)], [.int 100, .int x2], h)) rfl ?_
  refine gw_br (c := 100 ≤ x2) (a := (49, [some (.ref r0), some (.int x1), some (.int x2)], [], h)) (b := (20, [some (.ref r0), some (.int x1), some (.int x2)], [], h)) (hk _ _ rfl) rfl ⟨fun z1 => ?_, fun z1 => ?_⟩
  · replace w := w.1 z1
    refine gw_pst hk 1 (st' := (51, [some (.ref r0), some (.int x1), some (.int x2)], [.int (-2)], h)) rfl ?_
    exact gw_ret (hk _ _ rfl) rfl w
  · replace w := w.2 z1
    refine gw_pst hk 2 (st' := (22, [some (.ref r0), some (.int x1), some (.int x2)], [.ref r0, .int x1], h)) rfl ?_
    obtain ⟨q_2, e2, w⟩ := w
    refine gw_gf (hk _ _ rfl) e2 ?_
    refine gw_call (jj := 196) (As := [.ref q_2]) (rest := [.int x1]) (hk _ _ rfl) (fun _ => rfl) rfl rfl (Nat.le_of_ble_eq_true rfl) rfl ?_
    refine ge_imp w (fun v3 h_3 w => ?_)
    obtain ⟨x_3, rfl, w⟩ := w
    show gV c d 219 (28, [some (.ref r0), some (.int x1), some (.int x2)], [.int x_3, .int x1], h_3) Post
    refine gw_br (c := x_3 ≤ x1) (a := (33, [some (.ref r0), some (.int x1), some (.int x2)], [], h_3)) (b := (31, [some (.ref r0), some (.int x1), some (.int x2)], [], h_3)) (hk _ _ rfl) rfl ⟨fun z4 => ?_, fun z4 => ?_⟩
    · replace w := w.1 z4
      refine gw_pst hk 2 (st' := (35, [some (.ref r0), some (.int x1), some (.int x2)], [.ref r0, .int x1], h_3)) rfl ?_
      obtain ⟨q_5, e5, w⟩ := w
      refine gw_gf (hk _ _ rfl) e5 ?_
      refine gw_call (jj := 196) (As := [.ref q_5]) (rest := [.int x1]) (hk _ _ rfl) (fun _ => rfl) rfl rfl (Nat.le_of_ble_eq_true rfl) rfl ?_
      refine ge_imp w (fun v6 h_6 w => ?_)
      obtain ⟨x_6, rfl, w⟩ := w
      show gV c d 219 (41, [some (.ref r0), some (.int x1), some (.int x2)], [.int x_6, .int x1], h_6) Post
      refine gw_pst hk 4 (st' := (14, [some (.ref r0), some (.int (x1 - x_6)), some (.int (x2 + 1))], [], h_6)) rfl ?_
      exact hK14 _ _ _ _ w
    · replace w := w.2 z4
      refine gw_pst hk 1 (st' := (32, [some (.ref r0), some (.int x1), some (.int x2)], [.int x2], h_3)) rfl ?_
      exact gw_ret (hk _ _ rfl) rfl w
def wl219_14 (c : gx) (d : Nat) (Post : Option Value → gm_H → Prop) : Nat → Nat → Int32 → Int32 → gm_H → Prop
  | 0 => fun _ _ _ _ => False
  | n + 1 => wb219_14 c d Post (wl219_14 c d Post n)
theorem okl219_14 (c : gx) (d : Nat) (Post : Option Value → gm_H → Prop) : ∀ (n : Nat) (r0 : Nat) (x1 : Int32) (x2 : Int32) (h : gm_H), wl219_14 c d Post n r0 x1 x2 h → gV c d 219 (14, [some (.ref r0), some (.int x1), some (.int x2)], [], h) Post
  | 0, _, _, _, _, w => w.elim
  | n + 1, r0, x1, x2, h, w => okb219_14 c d Post (wl219_14 c d Post n) (okl219_14 c d Post n) r0 x1 x2 h w
/-- CommandByTurnsModel.lasts()I -/
def wm219 (c : gx) (d : Nat) (Post : Option Value → gm_H → Prop) (r0 : Nat) (h : gm_H) : Prop :=
  ∃ fs1 : List Value, gm_get h r0 = some (.inr (10, fs1)) ∧ 13 < fs1.length ∧ ∀ h_1 : gm_H, h_1 = gm_put h r0 (.inr (10, fs1.set 13 (.int 0))) → ∃ q_2 : Nat, gm_fld h_1 r0 10 0 = some (.ref q_2) ∧ ∃ (n3 : Nat) (f3 : Nat → Int32), gm_get h_1 q_2 = some (.inl (0, n3, .inl f3)) ∧ vp_in 5 n3 ∧ ∃ n, wl219_14 c d Post n r0 (f3 (5 : Int32).toNatClampNeg) 1 h_1
theorem okm219 (c : gx) (d : Nat) (Post : Option Value → gm_H → Prop) (r0 : Nat) (h : gm_H) (w : wm219 c d Post r0 h) : gE c (d + 1) 219 [.ref r0] h Post := by
  have hk : ∀ pc i, gm_find gk_219 pc = some i → gm_code (gt_T c.1 c.2.1 c.2.2.1) 219 pc = some i := fun _ _ z => z
  unfold wm219 at w
  refine ge_of (by decide) (Nat.le_of_ble_eq_true rfl) ?_
  show gV c d 219 (0, [some (.ref r0), none, none], [], h) Post
  unfold gV
  refine gw_pst hk 2 (st' := (2, [some (.ref r0), none, none], [.int 0, .ref r0], h)) rfl ?_
  obtain ⟨fs1, e1, l1, w⟩ := w
  refine gw_pf (hk _ _ rfl) e1 l1 rfl ?_
  obtain ⟨h_1, eh1⟩ : ∃ z, z = gm_put h r0 (.inr (10, fs1.set 13 (.int 0))) := ⟨_, rfl⟩
  rw [← eh1]
  replace w := w h_1 eh1
  refine gw_pst hk 1 (st' := (6, [some (.ref r0), none, none], [.ref r0], h_1)) rfl ?_
  obtain ⟨q_2, e2, w⟩ := w
  refine gw_gf (hk _ _ rfl) e2 ?_
  refine gw_pst hk 1 (st' := (10, [some (.ref r0), none, none], [.int 5, .ref q_2], h_1)) rfl ?_
  obtain ⟨n3, f3, e3, b3, w⟩ := w
  refine gw_ald (hk _ _ rfl) (Or.inl ⟨rfl, rfl⟩) e3 b3 ?_
  refine gw_pst hk 3 (st' := (14, [some (.ref r0), some (.int (f3 (5 : Int32).toNatClampNeg)), some (.int 1)], [], h_1)) rfl ?_
  obtain ⟨n, w⟩ := w
  exact okl219_14 c d Post n _ _ _ _ w
def wb220_31 (c : gx) (d : Nat) (Post : Option Value → gm_H → Prop) (K31 : Nat → Int32 → Int32 → gm_H → Prop) (r0 : Nat) (x1 : Int32) (x2 : Int32) (h : gm_H) : Prop :=
  ((x1 ≤ x2 → ∃ fs2 : List Value, gm_get h r0 = some (.inr (10, fs2)) ∧ 12 < fs2.length ∧ ∀ h_2 : gm_H, h_2 = gm_put h r0 (.inr (10, fs2.set 12 (.int 0))) → ∃ q_3 : Nat, gm_fld h_2 r0 10 28 = some (.ref q_3) ∧ ∃ (n4 : Nat) (f4 : Nat → Int32), gm_get h_2 q_3 = some (.inl (0, n4, .inl f4)) ∧ vp_in 5 n4 ∧ (∃ fs5, gm_get h_2 r0 = some (.inr (10, fs5))) ∧ gE c d 157 [.ref r0, .long ((f4 (5 : Int32).toNatClampNeg : Int32).toInt64)] h_2 (fun v5 h_5 => v5 = none ∧ ∃ q_6 : Nat, gm_fld h_5 r0 10 28 = some (.ref q_6) ∧ ∃ (n7 : Nat) (f7 : Nat → Int32), gm_get h_5 q_6 = some (.inl (0, n7, .inl f7)) ∧ vp_in 3 n7 ∧ Post (some (.int (f7 (3 : Int32).toNatClampNeg))) h_5)) ∧ (¬ (x1 ≤ x2) → ∃ q_8 : Nat, gm_fld h r0 10 28 = some (.ref q_8) ∧ gE c d 197 [.ref q_8] h (fun v9 h_9 => v9 = none ∧ K31 r0 x1 (x2 + 1) h_9)))
theorem okb220_31 (c : gx) (d : Nat) (Post : Option Value → gm_H → Prop) (K31 : Nat → Int32 → Int32 → gm_H → Prop)  (hK31 : ∀ (r0 : Nat) (x1 : Int32) (x2 : Int32) (h : gm_H), K31 r0 x1 x2 h → gV c d 220 (31, [some (.ref r0), some (.int x1), some (.int x2)], [], h) Post) (r0 : Nat) (x1 : Int32) (x2 : Int32) (h : gm_H) (w : wb220_31 c d Post K31 r0 x1 x2 h) : gV c d 220 (31, [some (.ref r0), some (.int x1), some (.int x2)], [], h) Post := by
  have hk : ∀ pc i, gm_find gk_220 pc = some i → gm_code (gt_T c.1 c.2.1 c.2.2.1) 220 pc = some i := fun _ _ z => z
  unfold wb220_31 at w
  unfold gV
  refine gw_pst hk 2 (st' := (33, [some (.ref r0), some (.int x1), some (.int x2)], [.int x1, .int x2], h)) rfl ?_
  refine gw_br (c := x1 ≤ x2) (a := (49, [some (.ref r0), some (.int x1), some (.int x2)], [], h)) (b := (36, [some (.ref r0), some (.int x1), some (.int x2)], [], h)) (hk _ _ rfl) rfl ⟨fun z1 => ?_, fun z1 => ?_⟩
  · replace w := w.1 z1
    refine gw_pst hk 2 (st' := (51, [some (.ref r0), some (.int x1), some (.int x2)], [.int 0, .ref r0], h)) rfl ?_
    obtain ⟨fs2, e2, l2, w⟩ := w
    refine gw_pf (hk _ _ rfl) e2 l2 rfl ?_
    obtain ⟨h_2, eh2⟩ : ∃ z, z = gm_put h r0 (.inr (10, fs2.set 12 (.int 0))) := ⟨_, rfl⟩
    rw [← eh2]
    replace w := w h_2 eh2
    refine gw_pst hk 2 (st' := (56, [some (.ref r0), some (.int x1), some (.int x2)], [.ref r0, .ref r0], h_2)) rfl ?_
    obtain ⟨q_3, e3, w⟩ := w
    refine gw_gf (hk _ _ rfl) e3 ?_
    refine gw_pst hk 1 (st' := (60, [some (.ref r0), some (.int x1), some (.int x2)], [.int 5, .ref q_3, .ref r0], h_2)) rfl ?_
    obtain ⟨n4, f4, e4, b4, w⟩ := w
    refine gw_ald (hk _ _ rfl) (Or.inl ⟨rfl, rfl⟩) e4 b4 ?_
    refine gw_pst hk 1 (st' := (62, [some (.ref r0), some (.int x1), some (.int x2)], [.long ((f4 (5 : Int32).toNatClampNeg : Int32).toInt64), .ref r0], h_2)) rfl ?_
    obtain ⟨⟨fs5, e5⟩, w⟩ := w
    refine gw_call (jj := 157) (As := [.ref r0, .long ((f4 (5 : Int32).toNatClampNeg : Int32).toInt64)]) (rest := []) (hk _ _ rfl) (fun _ => rfl) rfl rfl (Nat.le_of_ble_eq_true rfl) (gm_rcv_v rfl e5 rfl) ?_
    refine ge_imp w (fun v5 h_5 w => ?_)
    obtain ⟨rfl, w⟩ := w
    show gV c d 220 (65, [some (.ref r0), some (.int x1), some (.int x2)], [], h_5) Post
    refine gw_pst hk 1 (st' := (66, [some (.ref r0), some (.int x1), some (.int x2)], [.ref r0], h_5)) rfl ?_
    obtain ⟨q_6, e6, w⟩ := w
    refine gw_gf (hk _ _ rfl) e6 ?_
    refine gw_pst hk 1 (st' := (70, [some (.ref r0), some (.int x1), some (.int x2)], [.int 3, .ref q_6], h_5)) rfl ?_
    obtain ⟨n7, f7, e7, b7, w⟩ := w
    refine gw_ald (hk _ _ rfl) (Or.inl ⟨rfl, rfl⟩) e7 b7 ?_
    exact gw_ret (hk _ _ rfl) rfl w
  · replace w := w.2 z1
    refine gw_pst hk 1 (st' := (37, [some (.ref r0), some (.int x1), some (.int x2)], [.ref r0], h)) rfl ?_
    obtain ⟨q_8, e8, w⟩ := w
    refine gw_gf (hk _ _ rfl) e8 ?_
    refine gw_call (jj := 197) (As := [.ref q_8]) (rest := []) (hk _ _ rfl) (fun _ => rfl) rfl rfl (Nat.le_of_ble_eq_true rfl) rfl ?_
    refine ge_imp w (fun v9 h_9 w => ?_)
    obtain ⟨rfl, w⟩ := w
    show gV c d 220 (43, [some (.ref r0), some (.int x1), some (.int x2)], [], h_9) Post
    refine gw_pst hk 2 (st' := (31, [some (.ref r0), some (.int x1), some (.int (x2 + 1))], [], h_9)) rfl ?_
    exact hK31 _ _ _ _ w
def wl220_31 (c : gx) (d : Nat) (Post : Option Value → gm_H → Prop) : Nat → Nat → Int32 → Int32 → gm_H → Prop
  | 0 => fun _ _ _ _ => False
  | n + 1 => wb220_31 c d Post (wl220_31 c d Post n)
theorem okl220_31 (c : gx) (d : Nat) (Post : Option Value → gm_H → Prop) : ∀ (n : Nat) (r0 : Nat) (x1 : Int32) (x2 : Int32) (h : gm_H), wl220_31 c d Post n r0 x1 x2 h → gV c d 220 (31, [some (.ref r0), some (.int x1), some (.int x2)], [], h) Post
  | 0, _, _, _, _, w => w.elim
  | n + 1, r0, x1, x2, h, w => okb220_31 c d Post (wl220_31 c d Post n) (okl220_31 c d Post n) r0 x1 x2 h w
/-- CommandByTurnsModel.feeds(I)I -/
def wm220 (c : gx) (d : Nat) (Post : Option Value → gm_H → Prop) (r0 : Nat) (x1 : Int32) (h : gm_H) : Prop :=
  ∃ fs1 : List Value, gm_get h r0 = some (.inr (10, fs1)) ∧ 13 < fs1.length ∧ ∀ h_1 : gm_H, h_1 = gm_put h r0 (.inr (10, fs1.set 13 (.int 0))) → gE c d 154 [.int x1, .int 0, .int 99] h_1 (fun v2 h_2 => ∃ x_2 : Int32, v2 = some (.int x_2) ∧ ((x_2 = 0 → Post (some (.int (-1))) h_2) ∧ (¬ (x_2 = 0) → ∃ q_4 : Nat, gm_fld h_2 r0 10 0 = some (.ref q_4) ∧ ∃ q_5 : Nat, gm_fld h_2 r0 10 28 = some (.ref q_5) ∧ gE c d 194 [.ref q_4, .ref q_5, .int 0] h_2 (fun v6 h_6 => v6 = none ∧ ∃ n, wl220_31 c d Post n r0 x1 0 h_6))))
theorem okm220 (c : gx) (d : Nat) (Post : Option Value → gm_H → Prop) (r0 : Nat) (x1 : Int32) (h : gm_H) (w : wm220 c d Post r0 x1 h) : gE c (d + 1) 220 [.ref r0, .int x1] h Post := by
  have hk : ∀ pc i, gm_find gk_220 pc = some i → gm_code (gt_T c.1 c.2.1 c.2.2.1) 220 pc = some i := fun _ _ z => z
  unfold wm220 at w
  refine ge_of (by decide) (Nat.le_of_ble_eq_true rfl) ?_
  show gV c d 220 (0, [some (.ref r0), some (.int x1), none], [], h) Post
  unfold gV
  refine gw_pst hk 2 (st' := (2, [some (.ref r0), some (.int x1), none], [.int 0, .ref r0], h)) rfl ?_
  obtain ⟨fs1, e1, l1, w⟩ := w
  refine gw_pf (hk _ _ rfl) e1 l1 rfl ?_
  obtain ⟨h_1, eh1⟩ : ∃ z, z = gm_put h r0 (.inr (10, fs1.set 13 (.int 0))) := ⟨_, rfl⟩
  rw [← eh1]
  replace w := w h_1 eh1
  refine gw_pst hk 3 (st' := (9, [some (.ref r0), some (.int x1), none], [.int 99, .int 0, .int x1], h_1)) rfl ?_
  refine gw_call (jj := 154) (As := [.int x1, .int 0, .int 99]) (rest := []) (hk _ _ rfl) (fun _ => rfl) rfl rfl (Nat.le_of_ble_eq_true rfl) rfl ?_
  refine ge_imp w (fun v2 h_2 w => ?_)
  obtain ⟨x_2, rfl, w⟩ := w
  show gV c d 220 (12, [some (.ref r0), some (.int x1), none], [.int x_2], h_2) Post
  refine gw_br (c := x_2 = 0) (a := (15, [some (.ref r0), some (.int x1), none], [], h_2)) (b := (17, [some (.ref r0), some (.int x1), none], [], h_2)) (hk _ _ rfl) rfl ⟨fun z3 => ?_, fun z3 => ?_⟩
  · replace w := w.1 z3
    refine gw_pst hk 1 (st' := (16, [some (.ref r0), some (.int x1), none], [.int (-1)], h_2)) rfl ?_
    exact gw_ret (hk _ _ rfl) rfl w
  · replace w := w.2 z3
    refine gw_pst hk 1 (st' := (18, [some (.ref r0), some (.int x1), none], [.ref r0], h_2)) rfl ?_
    obtain ⟨q_4, e4, w⟩ := w
    refine gw_gf (hk _ _ rfl) e4 ?_
    refine gw_pst hk 1 (st' := (22, [some (.ref r0), some (.int x1), none], [.ref r0, .ref q_4], h_2)) rfl ?_
    obtain ⟨q_5, e5, w⟩ := w
    refine gw_gf (hk _ _ rfl) e5 ?_
    refine gw_pst hk 1 (st' := (26, [some (.ref r0), some (.int x1), none], [.int 0, .ref q_5, .ref q_4], h_2)) rfl ?_
    refine gw_call (jj := 194) (As := [.ref q_4, .ref q_5, .int 0]) (rest := []) (hk _ _ rfl) (fun _ => rfl) rfl rfl (Nat.le_of_ble_eq_true rfl) rfl ?_
    refine ge_imp w (fun v6 h_6 w => ?_)
    obtain ⟨rfl, w⟩ := w
    show gV c d 220 (29, [some (.ref r0), some (.int x1), none], [], h_6) Post
    refine gw_pst hk 2 (st' := (31, [some (.ref r0), some (.int x1), some (.int 0)], [], h_6)) rfl ?_
    obtain ⟨n, w⟩ := w
    exact okl220_31 c d Post n _ _ _ _ w
/-- CommandByTurnsModel.boldness(I)I -/
def wm221 (c : gx) (d : Nat) (Post : Option Value → gm_H → Prop) (r0 : Nat) (x1 : Int32) (h : gm_H) : Prop :=
  ∃ fs1 : List Value, gm_get h r0 = some (.inr (10, fs1)) ∧ 13 < fs1.length ∧ ∀ h_1 : gm_H, h_1 = gm_put h r0 (.inr (10, fs1.set 13 (.int 0))) → (∃ fs2, gm_get h_1 r0 = some (.inr (10, fs2))) ∧ gE c d 158 [.ref r0, .int x1] h_1 (fun v2 h_2 => ∃ x_2 : Int32, v2 = some (.int x_2) ∧ ((x_2 = 0 → Post (some (.int (-1000))) h_2) ∧ (¬ (x_2 = 0) → ∃ q_4 : Nat, gm_fld h_2 r0 10 0 = some (.ref q_4) ∧ ∃ (n5 : Nat) (f5 : Nat → Int32), gm_get h_2 q_4 = some (.inl (0, n5, .inl f5)) ∧ vp_in 2 n5 ∧ gE c d 185 [.int x1, .int (f5 (2 : Int32).toNatClampNeg)] h_2 (fun v6 h_6 => ∃ x_6 : Int32, v6 = some (.int x_6) ∧ ((x_6 = 0 → Post (some (.int (-2000))) h_6) ∧ (¬ (x_6 = 0) → ∃ q_8 : Nat, gm_fld h_6 r0 10 0 = some (.ref q_8) ∧ ∃ q_9 : Nat, gm_fld h_6 r0 10 0 = some (.ref q_9) ∧ ∃ (n10 : Nat) (f10 : Nat → Int32), gm_get h_6 q_9 = some (.inl (0, n10, .inl f10)) ∧ vp_in 0 n10 ∧ (∃ fs11, gm_get h_6 r0 = some (.inr (10, fs11))) ∧ gE c d 182 [.ref r0, .ref q_8, .int 0, .int x1, .int (f10 (0 : Int32).toNatClampNeg)] h_6 (fun v11 h_11 => ∃ x_11 : Int32, v11 = some (.int x_11) ∧ ∃ q_12 : Nat, gm_fld h_11 r0 10 0 = some (.ref q_12) ∧ ∃ q_13 : Nat, gm_fld h_11 r0 10 0 = some (.ref q_13) ∧ ∃ (n14 : Nat) (f14 : Nat → Int32), gm_get h_11 q_13 = some (.inl (0, n14, .inl f14)) ∧ vp_in 0 n14 ∧ (∃ fs15, gm_get h_11 r0 = some (.inr (10, fs15))) ∧ gE c d 182 [.ref r0, .ref q_12, .int 1, .int x1, .int (f14 (0 : Int32).toNatClampNeg)] h_11 (fun v15 h_15 => ∃ x_15 : Int32, v15 = some (.int x_15) ∧ ∃ fs16 : List Value, gm_get h_15 r0 = some (.inr (10, fs16)) ∧ 12 < fs16.length ∧ ∀ h_16 : gm_H, h_16 = gm_put h_15 r0 (.inr (10, fs16.set 12 (.int 0))) → (∃ fs17, gm_get h_16 r0 = some (.inr (10, fs17))) ∧ gE c d 157 [.ref r0, .long ((501 + x_11 : Int32).toInt64)] h_16 (fun v17 h_17 => v17 = none ∧ (∃ fs18, gm_get h_17 r0 = some (.inr (10, fs18))) ∧ gE c d 157 [.ref r0, .long ((501 + x_15 : Int32).toInt64)] h_17 (fun v18 h_18 => v18 = none ∧ Post (some (.int (x_11 - x_15))) h_18))))))))))
theorem okm221 (c : gx) (d : Nat) (Post : Option Value → gm_H → Prop) (r0 : Nat) (x1 : Int32) (h : gm_H) (w : wm221 c d Post r0 x1 h) : gE c (d + 1) 221 [.ref r0, .int x1] h Post := by
  have hk : ∀ pc i, gm_find gk_221 pc = some i → gm_code (gt_T c.1 c.2.1 c.2.2.1) 221 pc = some i := fun _ _ z => z
  unfold wm221 at w
  refine ge_of (by decide) (Nat.le_of_ble_eq_true rfl) ?_
  show gV c d 221 (0, [some (.ref r0), some (.int x1), none, none], [], h) Post
  unfold gV
  refine gw_pst hk 2 (st' := (2, [some (.ref r0), some (.int x1), none, none], [.int 0, .ref r0], h)) rfl ?_
  obtain ⟨fs1, e1, l1, w⟩ := w
  refine gw_pf (hk _ _ rfl) e1 l1 rfl ?_
  obtain ⟨h_1, eh1⟩ : ∃ z, z = gm_put h r0 (.inr (10, fs1.set 13 (.int 0))) := ⟨_, rfl⟩
  rw [← eh1]
  replace w := w h_1 eh1
  refine gw_pst hk 2 (st' := (7, [some (.ref r0), some (.int x1), none, none], [.int x1, .ref r0], h_1)) rfl ?_
  obtain ⟨⟨fs2, e2⟩, w⟩ := w
  refine gw_call (jj := 158) (As := [.ref r0, .int x1]) (rest := []) (hk _ _ rfl) (fun _ => rfl) rfl rfl (Nat.le_of_ble_eq_true rfl) (gm_rcv_v rfl e2 rfl) ?_
  refine ge_imp w (fun v2 h_2 w => ?_)
  obtain ⟨x_2, rfl, w⟩ := w
  show gV c d 221 (10, [some (.ref r0), some (.int x1), none, none], [.int x_2], h_2) Post
  refine gw_br (c := x_2 = 0) (a := (13, [some (.ref r0), some (.int x1), none, none], [], h_2)) (b := (17, [some (.ref r0), some (.int x1), none, none], [], h_2)) (hk _ _ rfl) rfl ⟨fun z3 => ?_, fun z3 => ?_⟩
  · replace w := w.1 z3
    refine gw_pst hk 1 (st' := (16, [some (.ref r0), some (.int x1), none, none], [.int (-1000)], h_2)) rfl ?_
    exact gw_ret (hk _ _ rfl) rfl w
  · replace w := w.2 z3
    refine gw_pst hk 2 (st' := (19, [some (.ref r0), some (.int x1), none, none], [.ref r0, .int x1], h_2)) rfl ?_
    obtain ⟨q_4, e4, w⟩ := w
    refine gw_gf (hk _ _ rfl) e4 ?_
    refine gw_pst hk 1 (st' := (23, [some (.ref r0), some (.int x1), none, none], [.int 2, .ref q_4, .int x1], h_2)) rfl ?_
    obtain ⟨n5, f5, e5, b5, w⟩ := w
    refine gw_ald (hk _ _ rfl) (Or.inl ⟨rfl, rfl⟩) e5 b5 ?_
    refine gw_call (jj := 185) (As := [.int x1, .int (f5 (2 : Int32).toNatClampNeg)]) (rest := []) (hk _ _ rfl) (fun _ => rfl) rfl rfl (Nat.le_of_ble_eq_true rfl) rfl ?_
    refine ge_imp w (fun v6 h_6 w => ?_)
    obtain ⟨x_6, rfl, w⟩ := w
    show gV c d 221 (27, [some (.ref r0), some (.int x1), none, none], [.int x_6], h_6) Post
    refine gw_br (c := x_6 = 0) (a := (30, [some (.ref r0), some (.int x1), none, none], [], h_6)) (b := (34, [some (.ref r0), some (.int x1), none, none], [], h_6)) (hk _ _ rfl) rfl ⟨fun z7 => ?_, fun z7 => ?_⟩
    · replace w := w.1 z7
      refine gw_pst hk 1 (st' := (33, [some (.ref r0), some (.int x1), none, none], [.int (-2000)], h_6)) rfl ?_
      exact gw_ret (hk _ _ rfl) rfl w
    · replace w := w.2 z7
      refine gw_pst hk 2 (st' := (36, [some (.ref r0), some (.int x1), none, none], [.ref r0, .ref r0], h_6)) rfl ?_
      obtain ⟨q_8, e8, w⟩ := w
      refine gw_gf (hk _ _ rfl) e8 ?_
      refine gw_pst hk 3 (st' := (42, [some (.ref r0), some (.int x1), none, none], [.ref r0, .int x1, .int 0, .ref q_8, .ref r0], h_6)) rfl ?_
      obtain ⟨q_9, e9, w⟩ := w
      refine gw_gf (hk _ _ rfl) e9 ?_
      refine gw_pst hk 1 (st' := (46, [some (.ref r0), some (.int x1), none, none], [.int 0, .ref q_9, .int x1, .int 0, .ref q_8, .ref r0], h_6)) rfl ?_
      obtain ⟨n10, f10, e10, b10, w⟩ := w
      refine gw_ald (hk _ _ rfl) (Or.inl ⟨rfl, rfl⟩) e10 b10 ?_
      obtain ⟨⟨fs11, e11⟩, w⟩ := w
      refine gw_call (jj := 182) (As := [.ref r0, .ref q_8, .int 0, .int x1, .int (f10 (0 : Int32).toNatClampNeg)]) (rest := []) (hk _ _ rfl) (fun _ => rfl) rfl rfl (Nat.le_of_ble_eq_true rfl) (gm_rcv_v rfl e11 rfl) ?_
      refine ge_imp w (fun v11 h_11 w => ?_)
      obtain ⟨x_11, rfl, w⟩ := w
      show gV c d 221 (50, [some (.ref r0), some (.int x1), none, none], [.int x_11], h_11) Post
      refine gw_pst hk 3 (st' := (53, [some (.ref r0), some (.int x1), some (.int x_11), none], [.ref r0, .ref r0], h_11)) rfl ?_
      obtain ⟨q_12, e12, w⟩ := w
      refine gw_gf (hk _ _ rfl) e12 ?_
      refine gw_pst hk 3 (st' := (59, [some (.ref r0), some (.int x1), some (.int x_11), none], [.ref r0, .int x1, .int 1, .ref q_12, .ref r0], h_11)) rfl ?_
      obtain ⟨q_13, e13, w⟩ := w
      refine gw_gf (hk _ _ rfl) e13 ?_
      refine gw_pst hk 1 (st' := (63, [some (.ref r0), some (.int x1), some (.int x_11), none], [.int 0, .ref q_13, .int x1, .int 1, .ref q_12, .ref r0], h_11)) rfl ?_
      obtain ⟨n14, f14, e14, b14, w⟩ := w
      refine gw_ald (hk _ _ rfl) (Or.inl ⟨rfl, rfl⟩) e14 b14 ?_
      obtain ⟨⟨fs15, e15⟩, w⟩ := w
      refine gw_call (jj := 182) (As := [.ref r0, .ref q_12, .int 1, .int x1, .int (f14 (0 : Int32).toNatClampNeg)]) (rest := []) (hk _ _ rfl) (fun _ => rfl) rfl rfl (Nat.le_of_ble_eq_true rfl) (gm_rcv_v rfl e15 rfl) ?_
      refine ge_imp w (fun v15 h_15 w => ?_)
      obtain ⟨x_15, rfl, w⟩ := w
      show gV c d 221 (67, [some (.ref r0), some (.int x1), some (.int x_11), none], [.int x_15], h_15) Post
      refine gw_pst hk 3 (st' := (70, [some (.ref r0), some (.int x1), some (.int x_11), some (.int x_15)], [.int 0, .ref r0], h_15)) rfl ?_
      obtain ⟨fs16, e16, l16, w⟩ := w
      refine gw_pf (hk _ _ rfl) e16 l16 rfl ?_
      obtain ⟨h_16, eh16⟩ : ∃ z, z = gm_put h_15 r0 (.inr (10, fs16.set 12 (.int 0))) := ⟨_, rfl⟩
      rw [← eh16]
      replace w := w h_16 eh16
      refine gw_pst hk 5 (st' := (80, [some (.ref r0), some (.int x1), some (.int x_11), some (.int x_15)], [.long ((501 + x_11 : Int32).toInt64), .ref r0], h_16)) rfl ?_
      obtain ⟨⟨fs17, e17⟩, w⟩ := w
      refine gw_call (jj := 157) (As := [.ref r0, .long ((501 + x_11 : Int32).toInt64)]) (rest := []) (hk _ _ rfl) (fun _ => rfl) rfl rfl (Nat.le_of_ble_eq_true rfl) (gm_rcv_v rfl e17 rfl) ?_
      refine ge_imp w (fun v17 h_17 w => ?_)
      obtain ⟨rfl, w⟩ := w
      show gV c d 221 (83, [some (.ref r0), some (.int x1), some (.int x_11), some (.int x_15)], [], h_17) Post
      refine gw_pst hk 5 (st' := (90, [some (.ref r0), some (.int x1), some (.int x_11), some (.int x_15)], [.long ((501 + x_15 : Int32).toInt64), .ref r0], h_17)) rfl ?_
      obtain ⟨⟨fs18, e18⟩, w⟩ := w
      refine gw_call (jj := 157) (As := [.ref r0, .long ((501 + x_15 : Int32).toInt64)]) (rest := []) (hk _ _ rfl) (fun _ => rfl) rfl rfl (Nat.le_of_ble_eq_true rfl) (gm_rcv_v rfl e18 rfl) ?_
      refine ge_imp w (fun v18 h_18 w => ?_)
      obtain ⟨rfl, w⟩ := w
      show gV c d 221 (93, [some (.ref r0), some (.int x1), some (.int x_11), some (.int x_15)], [], h_18) Post
      refine gw_pst hk 3 (st' := (96, [some (.ref r0), some (.int x1), some (.int x_11), some (.int x_15)], [.int (x_11 - x_15)], h_18)) rfl ?_
      exact gw_ret (hk _ _ rfl) rfl w
def w222_39 (c : gx) (d : Nat) (Post : Option Value → gm_H → Prop) (xs0 : Int32) (h : gm_H) : Prop :=
  Post (some (.int xs0)) h
theorem ok222_39 (c : gx) (d : Nat) (Post : Option Value → gm_H → Prop)  (xs0 : Int32) (h : gm_H) (w : w222_39 c d Post xs0 h) : gV c d 222 (39, [none, none, none, none], [.int xs0], h) Post := by
  have hk : ∀ pc i, gm_find gk_222 pc = some i → gm_code (gt_T c.1 c.2.1 c.2.2.1) 222 pc = some i := fun _ _ z => z
  unfold w222_39 at w
  unfold gV
  exact gw_ret (hk _ _ rfl) rfl w
/-- CommandByTurnsModel.moves(II)I -/
def wm222 (c : gx) (d : Nat) (Post : Option Value → gm_H → Prop) (r0 : Nat) (x1 : Int32) (x2 : Int32) (h : gm_H) : Prop :=
  ∃ q_1 : Nat, gm_fld h r0 10 0 = some (.ref q_1) ∧ ∃ q_2 : Nat, gm_fld h r0 10 0 = some (.ref q_2) ∧ ∃ (n3 : Nat) (f3 : Nat → Int32), gm_get h q_2 = some (.inl (0, n3, .inl f3)) ∧ vp_in 0 n3 ∧ gE c d 184 [.ref q_1, .int ((f3 (0 : Int32).toNatClampNeg) + x1)] h (fun v4 h_4 => ∃ x_4 : Int32, v4 = some (.int x_4) ∧ ((x_4 = (-1) → w222_39 c d Post (1 <<< (x2 &&& 31)) h_4) ∧ (¬ (x_4 = (-1)) → ∃ q_6 : Nat, gm_fld h_4 r0 10 0 = some (.ref q_6) ∧ ∃ (n7 : Nat) (f7 : Nat → Int32), gm_get h_4 q_6 = some (.inl (0, n7, .inl f7)) ∧ vp_in 2 n7 ∧ (∃ fs8, gm_get h_4 r0 = some (.inr (10, fs8))) ∧ gE c d 189 [.ref r0, .int x_4, .int x2, .int (f7 (2 : Int32).toNatClampNeg)] h_4 (fun v8 h_8 => ∃ x_8 : Int32, v8 = some (.int x_8) ∧ w222_39 c d Post x_8 h_8))))
theorem okm222 (c : gx) (d : Nat) (Post : Option Value → gm_H → Prop) (r0 : Nat) (x1 : Int32) (x2 : Int32) (h : gm_H) (w : wm222 c d Post r0 x1 x2 h) : gE c (d + 1) 222 [.ref r0, .int x1, .int x2] h Post := by
  have hk : ∀ pc i, gm_find gk_222 pc = some i → gm_code (gt_T c.1 c.2.1 c.2.2.1) 222 pc = some i := fun _ _ z => z
  unfold wm222 at w
  refine ge_of (by decide) (Nat.le_of_ble_eq_true rfl) ?_
  show gV c d 222 (0, [some (.ref r0), some (.int x1), some (.int x2), none], [], h) Post
  unfold gV
  refine gw_pst hk 1 (st' := (1, [some (.ref r0), some (.int x1), some (.int x2), none], [.ref r0], h)) rfl ?_
  obtain ⟨q_1, e1, w⟩ := w
  refine gw_gf (hk _ _ rfl) e1 ?_
  refine gw_pst hk 1 (st' := (5, [some (.ref r0), some (.int x1), some (.int x2), none], [.ref r0, .ref q_1], h)) rfl ?_
  obtain ⟨q_2, e2, w⟩ := w
  refine gw_gf (hk _ _ rfl) e2 ?_
  refine gw_pst hk 1 (st' := (9, [some (.ref r0), some (.int x1), some (.int x2), none], [.int 0, .ref q_2, .ref q_1], h)) rfl ?_
  obtain ⟨n3, f3, e3, b3, w⟩ := w
  refine gw_ald (hk _ _ rfl) (Or.inl ⟨rfl, rfl⟩) e3 b3 ?_
  refine gw_pst hk 2 (st' := (12, [some (.ref r0), some (.int x1), some (.int x2), none], [.int ((f3 (0 : Int32).toNatClampNeg) + x1), .ref q_1], h)) rfl ?_
  refine gw_call (jj := 184) (As := [.ref q_1, .int ((f3 (0 : Int32).toNatClampNeg) + x1)]) (rest := []) (hk _ _ rfl) (fun _ => rfl) rfl rfl (Nat.le_of_ble_eq_true rfl) rfl ?_
  refine ge_imp w (fun v4 h_4 w => ?_)
  obtain ⟨x_4, rfl, w⟩ := w
  show gV c d 222 (15, [some (.ref r0), some (.int x1), some (.int x2), none], [.int x_4], h_4) Post
  refine gw_pst hk 3 (st' := (18, [some (.ref r0), some (.int x1), some (.int x2), some (.int x_4)], [.int (-1), .int x_4], h_4)) rfl ?_
  refine gw_br (c := x_4 = (-1)) (a := (21, [some (.ref r0), some (.int x1), some (.int x2), some (.int x_4)], [], h_4)) (b := (27, [some (.ref r0), some (.int x1), some (.int x2), some (.int x_4)], [], h_4)) (hk _ _ rfl) rfl ⟨fun z5 => ?_, fun z5 => ?_⟩
  · replace w := w.1 z5
    refine gw_pst hk 4 (st' := (39, [some (.ref r0), some (.int x1), some (.int x2), some (.int x_4)], [.int (1 <<< (x2 &&& 31))], h_4)) rfl ?_
    refine gw_le (L' := [none, none, none, none]) (gm_le_n _ (gm_le_n _ (gm_le_n _ (gm_le_n _ gm_le_nil)))) ?_
    exact ok222_39 c d Post _ _ w
  · replace w := w.2 z5
    refine gw_pst hk 4 (st' := (31, [some (.ref r0), some (.int x1), some (.int x2), some (.int x_4)], [.ref r0, .int x2, .int x_4, .ref r0], h_4)) rfl ?_
    obtain ⟨q_6, e6, w⟩ := w
    refine gw_gf (hk _ _ rfl) e6 ?_
    refine gw_pst hk 1 (st' := (35, [some (.ref r0), some (.int x1), some (.int x2), some (.int x_4)], [.int 2, .ref q_6, .int x2, .int x_4, .ref r0], h_4)) rfl ?_
    obtain ⟨n7, f7, e7, b7, w⟩ := w
    refine gw_ald (hk _ _ rfl) (Or.inl ⟨rfl, rfl⟩) e7 b7 ?_
    obtain ⟨⟨fs8, e8⟩, w⟩ := w
    refine gw_call (jj := 189) (As := [.ref r0, .int x_4, .int x2, .int (f7 (2 : Int32).toNatClampNeg)]) (rest := []) (hk _ _ rfl) (fun _ => rfl) rfl rfl (Nat.le_of_ble_eq_true rfl) (gm_rcv_v rfl e8 rfl) ?_
    refine ge_imp w (fun v8 h_8 w => ?_)
    obtain ⟨x_8, rfl, w⟩ := w
    show gV c d 222 (39, [some (.ref r0), some (.int x1), some (.int x2), some (.int x_4)], [.int x_8], h_8) Post
    refine gw_le (L' := [none, none, none, none]) (gm_le_n _ (gm_le_n _ (gm_le_n _ (gm_le_n _ gm_le_nil)))) ?_
    exact ok222_39 c d Post _ _ w
def w223_70 (c : gx) (d : Nat) (Post : Option Value → gm_H → Prop) (K13 : Nat → Int32 → gm_H → Prop) (K27 : Nat → Int32 → Int32 → gm_H → Prop) (r0 : Nat) (x3 : Int32) (x4 : Int32) (rs0 : Nat) (xs1 : Int32) (xs2 : Int32) (xs3 : Int32) (h : gm_H) : Prop :=
  ∃ (n1 : Nat) (f1 : Nat → Int32), gm_get h rs0 = some (.inl (0, n1, .inl f1)) ∧ vp_in xs1 n1 ∧ ∀ h_1 : gm_H, h_1 = gm_put h rs0 (.inl (0, n1, .inl (upd f1 (xs1 : Int32).toNatClampNeg (vp_nar .int (xs2 ||| xs3))))) → K27 r0 x3 (x4 + 1) h_1
theorem ok223_70 (c : gx) (d : Nat) (Post : Option Value → gm_H → Prop) (K13 : Nat → Int32 → gm_H → Prop) (K27 : Nat → Int32 → Int32 → gm_H → Prop)  (hK13 : ∀ (r0 : Nat) (x3 : Int32) (h : gm_H), K13 r0 x3 h → gV c d 223 (13, [some (.ref r0), none, none, some (.int x3), none], [], h) Post) (hK27 : ∀ (r0 : Nat) (x3 : Int32) (x4 : Int32) (h : gm_H), K27 r0 x3 x4 h → gV c d 223 (27, [some (.ref r0), none, none, some (.int x3), some (.int x4)], [], h) Post) (r0 : Nat) (x3 : Int32) (x4 : Int32) (rs0 : Nat) (xs1 : Int32) (xs2 : Int32) (xs3 : Int32) (h : gm_H) (w : w223_70 c d Post K13 K27 r0 x3 x4 rs0 xs1 xs2 xs3 h) : gV c d 223 (70, [some (.ref r0), none, none, some (.int x3), some (.int x4)], [.int xs3, .int xs2, .int xs1, .ref rs0], h) Post := by
  have hk : ∀ pc i, gm_find gk_223 pc = some i → gm_code (gt_T c.1 c.2.1 c.2.2.1) 223 pc = some i := fun _ _ z => z
  unfold w223_70 at w
  unfold gV
  refine gw_pst hk 1 (st' := (71, [some (.ref r0), none, none, some (.int x3), some (.int x4)], [.int (xs2 ||| xs3), .int xs1, .ref rs0], h)) rfl ?_
  obtain ⟨n1, f1, e1, b1, w⟩ := w
  refine gw_ast (hk _ _ rfl) (Or.inl ⟨rfl, rfl, rfl⟩) e1 b1 ?_
  obtain ⟨h_1, eh1⟩ : ∃ z, z = gm_put h rs0 (.inl (0, n1, .inl (upd f1 (xs1 : Int32).toNatClampNeg (vp_nar .int (xs2 ||| xs3))))) := ⟨_, rfl⟩
  rw [← eh1]
  replace w := w h_1 eh1
  refine gw_pst hk 2 (st' := (27, [some (.ref r0), none, none, some (.int x3), some (.int (x4 + 1))], [], h_1)) rfl ?_
  exact hK27 _ _ _ _ w
def wb223_27 (c : gx) (d : Nat) (Post : Option Value → gm_H → Prop) (K13 : Nat → Int32 → gm_H → Prop) (K27 : Nat → Int32 → Int32 → gm_H → Prop) (r0 : Nat) (x3 : Int32) (x4 : Int32) (h : gm_H) : Prop :=
  ∃ x_1 : Int32, gm_fld h r0 10 1 = some (.int x_1) ∧ ((x_1 ≤ x4 → K13 r0 (x3 + (-1)) h) ∧ (¬ (x_1 ≤ x4) → ∃ q_3 : Nat, gm_fld h r0 10 30 = some (.ref q_3) ∧ ∃ (n4 : Nat) (f4 : Nat → Int32), gm_get h q_3 = some (.inl (0, n4, .inl f4)) ∧ vp_in x3 n4 ∧ (∃ fs5, gm_get h r0 = some (.inr (10, fs5))) ∧ gE c d 222 [.ref r0, .int x3, .int x4] h (fun v5 h_5 => ∃ x_5 : Int32, v5 = some (.int x_5) ∧ ∃ q_6 : Nat, gm_fld h_5 r0 10 30 = some (.ref q_6) ∧ ∃ (n7 : Nat) (f7 : Nat → Int32), gm_get h_5 q_6 = some (.inl (0, n7, .inl f7)) ∧ vp_in (x3 + 1) n7 ∧ (((x_5 &&& (f7 (x3 + 1 : Int32).toNatClampNeg)) = 0 → w223_70 c d Post K13 K27 r0 x3 x4 q_3 x3 (f4 (x3 : Int32).toNatClampNeg) 0 h_5) ∧ (¬ ((x_5 &&& (f7 (x3 + 1 : Int32).toNatClampNeg)) = 0) → w223_70 c d Post K13 K27 r0 x3 x4 q_3 x3 (f4 (x3 : Int32).toNatClampNeg) (1 <<< (x4 &&& 31)) h_5)))))
theorem okb223_27 (c : gx) (d : Nat) (Post : Option Value → gm_H → Prop) (K13 : Nat → Int32 → gm_H → Prop) (K27 : Nat → Int32 → Int32 → gm_H → Prop)  (hK13 : ∀ (r0 : Nat) (x3 : Int32) (h : gm_H), K13 r0 x3 h → gV c d 223 (13, [some (.ref r0), none, none, some (.int x3), none], [], h) Post) (hK27 : ∀ (r0 : Nat) (x3 : Int32) (x4 : Int32) (h : gm_H), K27 r0 x3 x4 h → gV c d 223 (27, [some (.ref r0), none, none, some (.int x3), some (.int x4)], [], h) Post) (r0 : Nat) (x3 : Int32) (x4 : Int32) (h : gm_H) (w : wb223_27 c d Post K13 K27 r0 x3 x4 h) : gV c d 223 (27, [some (.ref r0), none, none, some (.int x3), some (.int x4)], [], h) Post := by
  have hk : ∀ pc i, gm_find gk_223 pc = some i → gm_code (gt_T c.1 c.2.1 c.2.2.1) 223 pc = some i := fun _ _ z => z
  unfold wb223_27 at w
  unfold gV
  refine gw_pst hk 2 (st' := (30, [some (.ref r0), none, none, some (.int x3), some (.int x4)], [.ref r0, .int x4], h)) rfl ?_
  obtain ⟨x_1, e1, w⟩ := w
  refine gw_gf (hk _ _ rfl) e1 ?_
  refine gw_br (c := x_1 ≤ x4) (a := (78, [some (.ref r0), none, none, some (.int x3), some (.int x4)], [], h)) (b := (36, [some (.ref r0), none, none, some (.int x3), some (.int x4)], [], h)) (hk _ _ rfl) rfl ⟨fun z2 => ?_, fun z2 => ?_⟩
  · replace w := w.1 z2
    refine gw_pst hk 2 (st' := (13, [some (.ref r0), none, none, some (.int (x3 + (-1))), some (.int x4)], [], h)) rfl ?_
    refine gw_le (L' := [some (.ref r0), none, none, some (.int (x3 + (-1))), none]) (gm_le_k _ (gm_le_k _ (gm_le_k _ (gm_le_k _ (gm_le_n _ gm_le_nil))))) ?_
    exact hK13 _ _ _ w
  · replace w := w.2 z2
    refine gw_pst hk 1 (st' := (37, [some (.ref r0), none, none, some (.int x3), some (.int x4)], [.ref r0], h)) rfl ?_
    obtain ⟨q_3, e3, w⟩ := w
    refine gw_gf (hk _ _ rfl) e3 ?_
    refine gw_pst hk 2 (st' := (42, [some (.ref r0), none, none, some (.int x3), some (.int x4)], [.int x3, .ref q_3, .int x3, .ref q_3], h)) rfl ?_
    obtain ⟨n4, f4, e4, b4, w⟩ := w
    refine gw_ald (hk _ _ rfl) (Or.inl ⟨rfl, rfl⟩) e4 b4 ?_
    refine gw_pst hk 3 (st' := (47, [some (.ref r0), none, none, some (.int x3), some (.int x4)], [.int x4, .int x3, .ref r0, .int (f4 (x3 : Int32).toNatClampNeg), .int x3, .ref q_3], h)) rfl ?_
    obtain ⟨⟨fs5, e5⟩, w⟩ := w
    refine gw_call (jj := 222) (As := [.ref r0, .int x3, .int x4]) (rest := [.int (f4 (x3 : Int32).toNatClampNeg), .int x3, .ref q_3]) (hk _ _ rfl) (fun _ => rfl) rfl rfl (Nat.le_of_ble_eq_true rfl) (gm_rcv_v rfl e5 rfl) ?_
    refine ge_imp w (fun v5 h_5 w => ?_)
    obtain ⟨x_5, rfl, w⟩ := w
    show gV c d 223 (50, [some (.ref r0), none, none, some (.int x3), some (.int x4)], [.int x_5, .int (f4 (x3 : Int32).toNatClampNeg), .int x3, .ref q_3], h_5) Post
    refine gw_pst hk 1 (st' := (51, [some (.ref r0), none, none, some (.int x3), some (.int x4)], [.ref r0, .int x_5, .int (f4 (x3 : Int32).toNatClampNeg), .int x3, .ref q_3], h_5)) rfl ?_
    obtain ⟨q_6, e6, w⟩ := w
    refine gw_gf (hk _ _ rfl) e6 ?_
    refine gw_pst hk 3 (st' := (57, [some (.ref r0), none, none, some (.int x3), some (.int x4)], [.int (x3 + 1), .ref q_6, .int x_5, .int (f4 (x3 : Int32).toNatClampNeg), .int x3, .ref q_3], h_5)) rfl ?_
    obtain ⟨n7, f7, e7, b7, w⟩ := w
    refine gw_ald (hk _ _ rfl) (Or.inl ⟨rfl, rfl⟩) e7 b7 ?_
    refine gw_pst hk 1 (st' := (59, [some (.ref r0), none, none, some (.int x3), some (.int x4)], [.int (x_5 &&& (f7 (x3 + 1 : Int32).toNatClampNeg)), .int (f4 (x3 : Int32).toNatClampNeg), .int x3, .ref q_3], h_5)) rfl ?_
    refine gw_br (c := (x_5 &&& (f7 (x3 + 1 : Int32).toNatClampNeg)) = 0) (a := (69, [some (.ref r0), none, none, some (.int x3), some (.int x4)], [.int (f4 (x3 : Int32).toNatClampNeg), .int x3, .ref q_3], h_5)) (b := (62, [some (.ref r0), none, none, some (.int x3), some (.int x4)], [.int (f4 (x3 : Int32).toNatClampNeg), .int x3, .ref q_3], h_5)) (hk _ _ rfl) rfl ⟨fun z8 => ?_, fun z8 => ?_⟩
    · replace w := w.1 z8
      refine gw_pst hk 1 (st' := (70, [some (.ref r0), none, none, some (.int x3), some (.int x4)], [.int 0, .int (f4 (x3 : Int32).toNatClampNeg), .int x3, .ref q_3], h_5)) rfl ?_
      exact ok223_70 c d Post K13 K27 hK13 hK27 _ _ _ _ _ _ _ _ w
    · replace w := w.2 z8
      refine gw_pst hk 4 (st' := (70, [some (.ref r0), none, none, some (.int x3), some (.int x4)], [.int (1 <<< (x4 &&& 31)), .int (f4 (x3 : Int32).toNatClampNeg), .int x3, .ref q_3], h_5)) rfl ?_
      exact ok223_70 c d Post K13 K27 hK13 hK27 _ _ _ _ _ _ _ _ w
def wl223_27 (c : gx) (d : Nat) (Post : Option Value → gm_H → Prop) (K13 : Nat → Int32 → gm_H → Prop) : Nat → Nat → Int32 → Int32 → gm_H → Prop
  | 0 => fun _ _ _ _ => False
  | n + 1 => wb223_27 c d Post K13 (wl223_27 c d Post K13 n)
theorem okl223_27 (c : gx) (d : Nat) (Post : Option Value → gm_H → Prop) (K13 : Nat → Int32 → gm_H → Prop) (hK13 : ∀ (r0 : Nat) (x3 : Int32) (h : gm_H), K13 r0 x3 h → gV c d 223 (13, [some (.ref r0), none, none, some (.int x3), none], [], h) Post) : ∀ (n : Nat) (r0 : Nat) (x3 : Int32) (x4 : Int32) (h : gm_H), wl223_27 c d Post K13 n r0 x3 x4 h → gV c d 223 (27, [some (.ref r0), none, none, some (.int x3), some (.int x4)], [], h) Post
  | 0, _, _, _, _, w => w.elim
  | n + 1, r0, x3, x4, h, w => okb223_27 c d Post K13 (wl223_27 c d Post K13 n) hK13 (okl223_27 c d Post K13 hK13 n) r0 x3 x4 h w
def wb223_13 (c : gx) (d : Nat) (Post : Option Value → gm_H → Prop) (K13 : Nat → Int32 → gm_H → Prop) (r0 : Nat) (x3 : Int32) (h : gm_H) : Prop :=
  ((x3 < 0 → ∃ q_2 : Nat, gm_fld h r0 10 30 = some (.ref q_2) ∧ ∃ (n3 : Nat) (f3 : Nat → Int32), gm_get h q_2 = some (.inl (0, n3, .inl f3)) ∧ vp_in 0 n3 ∧ ∃ q_4 : Nat, gm_fld h r0 10 0 = some (.ref q_4) ∧ ∃ (n5 : Nat) (f5 : Nat → Int32), gm_get h q_4 = some (.inl (0, n5, .inl f5)) ∧ vp_in 1 n5 ∧ gE c d 155 [.int (f3 (0 : Int32).toNatClampNeg), .int (f5 (1 : Int32).toNatClampNeg)] h (fun v6 h_6 => ∃ x_6 : Int32, v6 = some (.int x_6) ∧ ((x_6 = 0 ∨ x_6 = 1) ∧ Post (some (.int x_6)) h_6))) ∧ (¬ (x3 < 0) → ∃ q_7 : Nat, gm_fld h r0 10 30 = some (.ref q_7) ∧ ∃ (n8 : Nat) (f8 : Nat → Int32), gm_get h q_7 = some (.inl (0, n8, .inl f8)) ∧ vp_in x3 n8 ∧ ∀ h_8 : gm_H, h_8 = gm_put h q_7 (.inl (0, n8, .inl (upd f8 (x3 : Int32).toNatClampNeg (vp_nar .int 0)))) → ∃ n, wl223_27 c d Post K13 n r0 x3 0 h_8))
theorem okb223_13 (c : gx) (d : Nat) (Post : Option Value → gm_H → Prop) (K13 : Nat → Int32 → gm_H → Prop)  (hK13 : ∀ (r0 : Nat) (x3 : Int32) (h : gm_H), K13 r0 x3 h → gV c d 223 (13, [some (.ref r0), none, none, some (.int x3), none], [], h) Post) (r0 : Nat) (x3 : Int32) (h : gm_H) (w : wb223_13 c d Post K13 r0 x3 h) : gV c d 223 (13, [some (.ref r0), none, none, some (.int x3), none], [], h) Post := by
  have hk : ∀ pc i, gm_find gk_223 pc = some i → gm_code (gt_T c.1 c.2.1 c.2.2.1) 223 pc = some i := fun _ _ z => z
  unfold wb223_13 at w
  unfold gV
  refine gw_pst hk 1 (st' := (14, [some (.ref r0), none, none, some (.int x3), none], [.int x3], h)) rfl ?_
  refine gw_br (c := x3 < 0) (a := (84, [some (.ref r0), none, none, some (.int x3), none], [], h)) (b := (17, [some (.ref r0), none, none, some (.int x3), none], [], h)) (hk _ _ rfl) rfl ⟨fun z1 => ?_, fun z1 => ?_⟩
  · replace w := w.1 z1
    refine gw_pst hk 1 (st' := (85, [some (.ref r0), none, none, some (.int x3), none], [.ref r0], h)) rfl ?_
    obtain ⟨q_2, e2, w⟩ := w
    refine gw_gf (hk _ _ rfl) e2 ?_
    refine gw_pst hk 1 (st' := (89, [some (.ref r0), none, none, some (.int x3), none], [.int 0, .ref q_2], h)) rfl ?_
    obtain ⟨n3, f3, e3, b3, w⟩ := w
    refine gw_ald (hk _ _ rfl) (Or.inl ⟨rfl, rfl⟩) e3 b3 ?_
    refine gw_pst hk 1 (st' := (91, [some (.ref r0), none, none, some (.int x3), none], [.ref r0, .int (f3 (0 : Int32).toNatClampNeg)], h)) rfl ?_
    obtain ⟨q_4, e4, w⟩ := w
    refine gw_gf (hk _ _ rfl) e4 ?_
    refine gw_pst hk 1 (st' := (95, [some (.ref r0), none, none, some (.int x3), none], [.int 1, .ref q_4, .int (f3 (0 : Int32).toNatClampNeg)], h)) rfl ?_
    obtain ⟨n5, f5, e5, b5, w⟩ := w
    refine gw_ald (hk _ _ rfl) (Or.inl ⟨rfl, rfl⟩) e5 b5 ?_
    refine gw_call (jj := 155) (As := [.int (f3 (0 : Int32).toNatClampNeg), .int (f5 (1 : Int32).toNatClampNeg)]) (rest := []) (hk _ _ rfl) (fun _ => rfl) rfl rfl (Nat.le_of_ble_eq_true rfl) rfl ?_
    refine ge_imp w (fun v6 h_6 w => ?_)
    obtain ⟨x_6, rfl, w⟩ := w
    show gV c d 223 (99, [some (.ref r0), none, none, some (.int x3), none], [.int x_6], h_6) Post
    exact gw_retZ (hk _ _ rfl) rfl w.1 w.2
  · replace w := w.2 z1
    refine gw_pst hk 1 (st' := (18, [some (.ref r0), none, none, some (.int x3), none], [.ref r0], h)) rfl ?_
    obtain ⟨q_7, e7, w⟩ := w
    refine gw_gf (hk _ _ rfl) e7 ?_
    refine gw_pst hk 2 (st' := (23, [some (.ref r0), none, none, some (.int x3), none], [.int 0, .int x3, .ref q_7], h)) rfl ?_
    obtain ⟨n8, f8, e8, b8, w⟩ := w
    refine gw_ast (hk _ _ rfl) (Or.inl ⟨rfl, rfl, rfl⟩) e8 b8 ?_
    obtain ⟨h_8, eh8⟩ : ∃ z, z = gm_put h q_7 (.inl (0, n8, .inl (upd f8 (x3 : Int32).toNatClampNeg (vp_nar .int 0)))) := ⟨_, rfl⟩
    rw [← eh8]
    replace w := w h_8 eh8
    refine gw_pst hk 2 (st' := (27, [some (.ref r0), none, none, some (.int x3), some (.int 0)], [], h_8)) rfl ?_
    obtain ⟨n, w⟩ := w
    exact okl223_27 c d Post K13 hK13 n _ _ _ _ w
def wl223_13 (c : gx) (d : Nat) (Post : Option Value → gm_H → Prop) : Nat → Nat → Int32 → gm_H → Prop
  | 0 => fun _ _ _ => False
  | n + 1 => wb223_13 c d Post (wl223_13 c d Post n)
theorem okl223_13 (c : gx) (d : Nat) (Post : Option Value → gm_H → Prop) : ∀ (n : Nat) (r0 : Nat) (x3 : Int32) (h : gm_H), wl223_13 c d Post n r0 x3 h → gV c d 223 (13, [some (.ref r0), none, none, some (.int x3), none], [], h) Post
  | 0, _, _, _, w => w.elim
  | n + 1, r0, x3, h, w => okb223_13 c d Post (wl223_13 c d Post n) (okl223_13 c d Post n) r0 x3 h w
/-- CommandByTurnsModel.canArrive(II)Z -/
def wm223 (c : gx) (d : Nat) (Post : Option Value → gm_H → Prop) (r0 : Nat) (x1 : Int32) (x2 : Int32) (h : gm_H) : Prop :=
  ∃ q_1 : Nat, gm_fld h r0 10 30 = some (.ref q_1) ∧ ∃ (n2 : Nat) (f2 : Nat → Int32), gm_get h q_1 = some (.inl (0, n2, .inl f2)) ∧ vp_in x1 n2 ∧ ∀ h_2 : gm_H, h_2 = gm_put h q_1 (.inl (0, n2, .inl (upd f2 (x1 : Int32).toNatClampNeg (vp_nar .int (1 <<< (x2 &&& 31)))))) → ∃ n, wl223_13 c d Post n r0 (x1 - 1) h_2
theorem okm223 (c : gx) (d : Nat) (Post : Option Value → gm_H → Prop) (r0 : Nat) (x1 : Int32) (x2 : Int32) (h : gm_H) (w : wm223 c d Post r0 x1 x2 h) : gE c (d + 1) 223 [.ref r0, .int x1, .int x2] h Post := by
  have hk : ∀ pc i, gm_find gk_223 pc = some i → gm_code (gt_T c.1 c.2.1 c.2.2.1) 223 pc = some i := fun _ _ z => z
  unfold wm223 at w
  refine ge_of (by decide) (Nat.le_of_ble_eq_true rfl) ?_
  show gV c d 223 (0, [some (.ref r0), some (.int x1), some (.int x2), none, none], [], h) Post
  unfold gV
  refine gw_pst hk 1 (st' := (1, [some (.ref r0), some (.int x1), some (.int x2), none, none], [.ref r0], h)) rfl ?_
  obtain ⟨q_1, e1, w⟩ := w
  refine gw_gf (hk _ _ rfl) e1 ?_
  refine gw_pst hk 4 (st' := (8, [some (.ref r0), some (.int x1), some (.int x2), none, none], [.int (1 <<< (x2 &&& 31)), .int x1, .ref q_1], h)) rfl ?_
  obtain ⟨n2, f2, e2, b2, w⟩ := w
  refine gw_ast (hk _ _ rfl) (Or.inl ⟨rfl, rfl, rfl⟩) e2 b2 ?_
  obtain ⟨h_2, eh2⟩ : ∃ z, z = gm_put h q_1 (.inl (0, n2, .inl (upd f2 (x1 : Int32).toNatClampNeg (vp_nar .int (1 <<< (x2 &&& 31)))))) := ⟨_, rfl⟩
  rw [← eh2]
  replace w := w h_2 eh2
  refine gw_pst hk 4 (st' := (13, [some (.ref r0), some (.int x1), some (.int x2), some (.int (x1 - 1)), none], [], h_2)) rfl ?_
  refine gw_le (L' := [some (.ref r0), none, none, some (.int (x1 - 1)), none]) (gm_le_k _ (gm_le_n _ (gm_le_n _ (gm_le_k _ (gm_le_k _ gm_le_nil))))) ?_
  obtain ⟨n, w⟩ := w
  exact okl223_13 c d Post n _ _ _ w
def wb224_62 (c : gx) (d : Nat) (Post : Option Value → gm_H → Prop) (K62 : Nat → Int32 → Int32 → Int32 → gm_H → Prop) (r0 : Nat) (x2 : Int32) (x3 : Int32) (x4 : Int32) (h : gm_H) : Prop :=
  ((x2 ≤ x4 → Post (some (.int x2)) h) ∧ (¬ (x2 ≤ x4) → (∃ fs2, gm_get h r0 = some (.inr (10, fs2))) ∧ gE c d 222 [.ref r0, .int x4, .int x3] h (fun v2 h_2 => ∃ x_2 : Int32, v2 = some (.int x_2) ∧ ∃ q_3 : Nat, gm_fld h_2 r0 10 30 = some (.ref q_3) ∧ ∃ (n4 : Nat) (f4 : Nat → Int32), gm_get h_2 q_3 = some (.inl (0, n4, .inl f4)) ∧ vp_in (x4 + 1) n4 ∧ gE c d 265 [.int (x_2 &&& (f4 (x4 + 1 : Int32).toNatClampNeg))] h_2 (fun v5 h_5 => ∃ x_5 : Int32, v5 = some (.int x_5) ∧ (∃ fs6, gm_get h_5 r0 = some (.inr (10, fs6))) ∧ gE c d 157 [.ref r0, .long ((x_5 : Int32).toInt64)] h_5 (fun v6 h_6 => v6 = none ∧ K62 r0 x2 x_5 (x4 + 1) h_6)))))
theorem okb224_62 (c : gx) (d : Nat) (Post : Option Value → gm_H → Prop) (K62 : Nat → Int32 → Int32 → Int32 → gm_H → Prop)  (hK62 : ∀ (r0 : Nat) (x2 : Int32) (x3 : Int32) (x4 : Int32) (h : gm_H), K62 r0 x2 x3 x4 h → gV c d 224 (62, [some (.ref r0), none, some (.int x2), some (.int x3), some (.int x4)], [], h) Post) (r0 : Nat) (x2 : Int32) (x3 : Int32) (x4 : Int32) (h : gm_H) (w : wb224_62 c d Post K62 r0 x2 x3 x4 h) : gV c d 224 (62, [some (.ref r0), none, some (.int x2), some (.int x3), some (.int x4)], [], h) Post := by
  have hk : ∀ pc i, gm_find gk_224 pc = some i → gm_code (gt_T c.1 c.2.1 c.2.2.1) 224 pc = some i := fun _ _ z => z
  unfold wb224_62 at w
  unfold gV
  refine gw_pst hk 2 (st' := (65, [some (.ref r0), none, some (.int x2), some (.int x3), some (.int x4)], [.int x2, .int x4], h)) rfl ?_
  refine gw_br (c := x2 ≤ x4) (a := (101, [some (.ref r0), none, some (.int x2), some (.int x3), some (.int x4)], [], h)) (b := (68, [some (.ref r0), none, some (.int x2), some (.int x3), some (.int x4)], [], h)) (hk _ _ rfl) rfl ⟨fun z1 => ?_, fun z1 => ?_⟩
  · replace w := w.1 z1
    refine gw_pst hk 1 (st' := (102, [some (.ref r0), none, some (.int x2), some (.int x3), some (.int x4)], [.int x2], h)) rfl ?_
    exact gw_ret (hk _ _ rfl) rfl w
  · replace w := w.2 z1
    refine gw_pst hk 3 (st' := (72, [some (.ref r0), none, some (.int x2), some (.int x3), some (.int x4)], [.int x3, .int x4, .ref r0], h)) rfl ?_
    obtain ⟨⟨fs2, e2⟩, w⟩ := w
    refine gw_call (jj := 222) (As := [.ref r0, .int x4, .int x3]) (rest := []) (hk _ _ rfl) (fun _ => rfl) rfl rfl (Nat.le_of_ble_eq_true rfl) (gm_rcv_v rfl e2 rfl) ?_
    refine ge_imp w (fun v2 h_2 w => ?_)
    obtain ⟨x_2, rfl, w⟩ := w
    show gV c d 224 (75, [some (.ref r0), none, some (.int x2), some (.int x3), some (.int x4)], [.int x_2], h_2) Post
    refine gw_pst hk 1 (st' := (76, [some (.ref r0), none, some (.int x2), some (.int x3), some (.int x4)], [.ref r0, .int x_2], h_2)) rfl ?_
    obtain ⟨q_3, e3, w⟩ := w
    refine gw_gf (hk _ _ rfl) e3 ?_
    refine gw_pst hk 3 (st' := (83, [some (.ref r0), none, some (.int x2), some (.int x3), some (.int x4)], [.int (x4 + 1), .ref q_3, .int x_2], h_2)) rfl ?_
    obtain ⟨n4, f4, e4, b4, w⟩ := w
    refine gw_ald (hk _ _ rfl) (Or.inl ⟨rfl, rfl⟩) e4 b4 ?_
    refine gw_pst hk 1 (st' := (85, [some (.ref r0), none, some (.int x2), some (.int x3), some (.int x4)], [.int (x_2 &&& (f4 (x4 + 1 : Int32).toNatClampNeg))], h_2)) rfl ?_
    refine gw_call (jj := 265) (As := [.int (x_2 &&& (f4 (x4 + 1 : Int32).toNatClampNeg))]) (rest := []) (hk _ _ rfl) (fun _ => rfl) rfl rfl (Nat.le_of_ble_eq_true rfl) rfl ?_
    refine ge_imp w (fun v5 h_5 w => ?_)
    obtain ⟨x_5, rfl, w⟩ := w
    show gV c d 224 (88, [some (.ref r0), none, some (.int x2), some (.int x3), some (.int x4)], [.int x_5], h_5) Post
    refine gw_pst hk 4 (st' := (92, [some (.ref r0), none, some (.int x2), some (.int x_5), some (.int x4)], [.long ((x_5 : Int32).toInt64), .ref r0], h_5)) rfl ?_
    obtain ⟨⟨fs6, e6⟩, w⟩ := w
    refine gw_call (jj := 157) (As := [.ref r0, .long ((x_5 : Int32).toInt64)]) (rest := []) (hk _ _ rfl) (fun _ => rfl) rfl rfl (Nat.le_of_ble_eq_true rfl) (gm_rcv_v rfl e6 rfl) ?_
    refine ge_imp w (fun v6 h_6 w => ?_)
    obtain ⟨rfl, w⟩ := w
    show gV c d 224 (95, [some (.ref r0), none, some (.int x2), some (.int x_5), some (.int x4)], [], h_6) Post
    refine gw_pst hk 2 (st' := (62, [some (.ref r0), none, some (.int x2), some (.int x_5), some (.int (x4 + 1))], [], h_6)) rfl ?_
    exact hK62 _ _ _ _ _ w
def wl224_62 (c : gx) (d : Nat) (Post : Option Value → gm_H → Prop) : Nat → Nat → Int32 → Int32 → Int32 → gm_H → Prop
  | 0 => fun _ _ _ _ _ => False
  | n + 1 => wb224_62 c d Post (wl224_62 c d Post n)
theorem okl224_62 (c : gx) (d : Nat) (Post : Option Value → gm_H → Prop) : ∀ (n : Nat) (r0 : Nat) (x2 : Int32) (x3 : Int32) (x4 : Int32) (h : gm_H), wl224_62 c d Post n r0 x2 x3 x4 h → gV c d 224 (62, [some (.ref r0), none, some (.int x2), some (.int x3), some (.int x4)], [], h) Post
  | 0, _, _, _, _, _, w => w.elim
  | n + 1, r0, x2, x3, x4, h, w => okb224_62 c d Post (wl224_62 c d Post n) (okl224_62 c d Post n) r0 x2 x3 x4 h w
def w224_38 (c : gx) (d : Nat) (Post : Option Value → gm_H → Prop) (r0 : Nat) (x2 : Int32) (h : gm_H) : Prop :=
  ((x2 ≤ 20 → ∃ fs2 : List Value, gm_get h r0 = some (.inr (10, fs2)) ∧ 12 < fs2.length ∧ ∀ h_2 : gm_H, h_2 = gm_put h r0 (.inr (10, fs2.set 12 (.int 0))) → ∃ q_3 : Nat, gm_fld h_2 r0 10 0 = some (.ref q_3) ∧ ∃ (n4 : Nat) (f4 : Nat → Int32), gm_get h_2 q_3 = some (.inl (0, n4, .inl f4)) ∧ vp_in 1 n4 ∧ ∃ n, wl224_62 c d Post n r0 x2 (f4 (1 : Int32).toNatClampNeg) 0 h_2) ∧ (¬ (x2 ≤ 20) → Post (some (.int (-2))) h))
theorem ok224_38 (c : gx) (d : Nat) (Post : Option Value → gm_H → Prop)  (r0 : Nat) (x2 : Int32) (h : gm_H) (w : w224_38 c d Post r0 x2 h) : gV c d 224 (38, [some (.ref r0), none, some (.int x2), none, none], [], h) Post := by
  have hk : ∀ pc i, gm_find gk_224 pc = some i → gm_code (gt_T c.1 c.2.1 c.2.2.1) 224 pc = some i := fun _ _ z => z
  unfold w224_38 at w
  unfold gV
  refine gw_pst hk 2 (st' := (41, [some (.ref r0), none, some (.int x2), none, none], [.int 20, .int x2], h)) rfl ?_
  refine gw_br (c := x2 ≤ 20) (a := (47, [some (.ref r0), none, some (.int x2), none, none], [], h)) (b := (44, [some (.ref r0), none, some (.int x2), none, none], [], h)) (hk _ _ rfl) rfl ⟨fun z1 => ?_, fun z1 => ?_⟩
  · replace w := w.1 z1
    refine gw_pst hk 2 (st' := (49, [some (.ref r0), none, some (.int x2), none, none], [.int 0, .ref r0], h)) rfl ?_
    obtain ⟨fs2, e2, l2, w⟩ := w
    refine gw_pf (hk _ _ rfl) e2 l2 rfl ?_
    obtain ⟨h_2, eh2⟩ : ∃ z, z = gm_put h r0 (.inr (10, fs2.set 12 (.int 0))) := ⟨_, rfl⟩
    rw [← eh2]
    replace w := w h_2 eh2
    refine gw_pst hk 1 (st' := (53, [some (.ref r0), none, some (.int x2), none, none], [.ref r0], h_2)) rfl ?_
    obtain ⟨q_3, e3, w⟩ := w
    refine gw_gf (hk _ _ rfl) e3 ?_
    refine gw_pst hk 1 (st' := (57, [some (.ref r0), none, some (.int x2), none, none], [.int 1, .ref q_3], h_2)) rfl ?_
    obtain ⟨n4, f4, e4, b4, w⟩ := w
    refine gw_ald (hk _ _ rfl) (Or.inl ⟨rfl, rfl⟩) e4 b4 ?_
    refine gw_pst hk 3 (st' := (62, [some (.ref r0), none, some (.int x2), some (.int (f4 (1 : Int32).toNatClampNeg)), some (.int 0)], [], h_2)) rfl ?_
    obtain ⟨n, w⟩ := w
    exact okl224_62 c d Post n _ _ _ _ _ w
  · replace w := w.2 z1
    refine gw_pst hk 1 (st' := (46, [some (.ref r0), none, some (.int x2), none, none], [.int (-2)], h)) rfl ?_
    exact gw_ret (hk _ _ rfl) rfl w
def wb224_17 (c : gx) (d : Nat) (Post : Option Value → gm_H → Prop) (K17 : Nat → Int32 → Int32 → gm_H → Prop) (r0 : Nat) (x1 : Int32) (x2 : Int32) (h : gm_H) : Prop :=
  ((20 < x2 → w224_38 c d Post r0 x2 h) ∧ (¬ (20 < x2) → (∃ fs2, gm_get h r0 = some (.inr (10, fs2))) ∧ gE c d 223 [.ref r0, .int x2, .int x1] h (fun v2 h_2 => ∃ x_2 : Int32, v2 = some (.int x_2) ∧ ((x_2 = 0 → K17 r0 x1 (x2 + 1) h_2) ∧ (¬ (x_2 = 0) → w224_38 c d Post r0 x2 h_2)))))
theorem okb224_17 (c : gx) (d : Nat) (Post : Option Value → gm_H → Prop) (K17 : Nat → Int32 → Int32 → gm_H → Prop)  (hK17 : ∀ (r0 : Nat) (x1 : Int32) (x2 : Int32) (h : gm_H), K17 r0 x1 x2 h → gV c d 224 (17, [some (.ref r0), some (.int x1), some (.int x2), none, none], [], h) Post) (r0 : Nat) (x1 : Int32) (x2 : Int32) (h : gm_H) (w : wb224_17 c d Post K17 r0 x1 x2 h) : gV c d 224 (17, [some (.ref r0), some (.int x1), some (.int x2), none, none], [], h) Post := by
  have hk : ∀ pc i, gm_find gk_224 pc = some i → gm_code (gt_T c.1 c.2.1 c.2.2.1) 224 pc = some i := fun _ _ z => z
  unfold wb224_17 at w
  unfold gV
  refine gw_pst hk 2 (st' := (20, [some (.ref r0), some (.int x1), some (.int x2), none, none], [.int 20, .int x2], h)) rfl ?_
  refine gw_br (c := 20 < x2) (a := (38, [some (.ref r0), some (.int x1), some (.int x2), none, none], [], h)) (b := (23, [some (.ref r0), some (.int x1), some (.int x2), none, none], [], h)) (hk _ _ rfl) rfl ⟨fun z1 => ?_, fun z1 => ?_⟩
  · replace w := w.1 z1
    refine gw_le (L' := [some (.ref r0), none, some (.int x2), none, none]) (gm_le_k _ (gm_le_n _ (gm_le_k _ (gm_le_k _ (gm_le_k _ gm_le_nil))))) ?_
    exact ok224_38 c d Post _ _ _ w
  · replace w := w.2 z1
    refine gw_pst hk 3 (st' := (26, [some (.ref r0), some (.int x1), some (.int x2), none, none], [.int x1, .int x2, .ref r0], h)) rfl ?_
    obtain ⟨⟨fs2, e2⟩, w⟩ := w
    refine gw_call (jj := 223) (As := [.ref r0, .int x2, .int x1]) (rest := []) (hk _ _ rfl) (fun _ => rfl) rfl rfl (Nat.le_of_ble_eq_true rfl) (gm_rcv_v rfl e2 rfl) ?_
    refine ge_imp w (fun v2 h_2 w => ?_)
    obtain ⟨x_2, rfl, w⟩ := w
    show gV c d 224 (29, [some (.ref r0), some (.int x1), some (.int x2), none, none], [.int x_2], h_2) Post
    refine gw_br (c := x_2 = 0) (a := (32, [some (.ref r0), some (.int x1), some (.int x2), none, none], [], h_2)) (b := (38, [some (.ref r0), some (.int x1), some (.int x2), none, none], [], h_2)) (hk _ _ rfl) rfl ⟨fun z3 => ?_, fun z3 => ?_⟩
    · replace w := w.1 z3
      refine gw_pst hk 2 (st' := (17, [some (.ref r0), some (.int x1), some (.int (x2 + 1)), none, none], [], h_2)) rfl ?_
      exact hK17 _ _ _ _ w
    · replace w := w.2 z3
      refine gw_le (L' := [some (.ref r0), none, some (.int x2), none, none]) (gm_le_k _ (gm_le_n _ (gm_le_k _ (gm_le_k _ (gm_le_k _ gm_le_nil))))) ?_
      exact ok224_38 c d Post _ _ _ w
def wl224_17 (c : gx) (d : Nat) (Post : Option Value → gm_H → Prop) : Nat → Nat → Int32 → Int32 → gm_H → Prop
  | 0 => fun _ _ _ _ => False
  | n + 1 => wb224_17 c d Post (wl224_17 c d Post n)
theorem okl224_17 (c : gx) (d : Nat) (Post : Option Value → gm_H → Prop) : ∀ (n : Nat) (r0 : Nat) (x1 : Int32) (x2 : Int32) (h : gm_H), wl224_17 c d Post n r0 x1 x2 h → gV c d 224 (17, [some (.ref r0), some (.int x1), some (.int x2), none, none], [], h) Post
  | 0, _, _, _, _, w => w.elim
  | n + 1, r0, x1, x2, h, w => okb224_17 c d Post (wl224_17 c d Post n) (okl224_17 c d Post n) r0 x1 x2 h w
/-- CommandByTurnsModel.arrives(I)I -/
def wm224 (c : gx) (d : Nat) (Post : Option Value → gm_H → Prop) (r0 : Nat) (x1 : Int32) (h : gm_H) : Prop :=
  ∃ fs1 : List Value, gm_get h r0 = some (.inr (10, fs1)) ∧ 13 < fs1.length ∧ ∀ h_1 : gm_H, h_1 = gm_put h r0 (.inr (10, fs1.set 13 (.int 0))) → (∃ fs2, gm_get h_1 r0 = some (.inr (10, fs2))) ∧ gE c d 158 [.ref r0, .int x1] h_1 (fun v2 h_2 => ∃ x_2 : Int32, v2 = some (.int x_2) ∧ ((x_2 = 0 → Post (some (.int (-1))) h_2) ∧ (¬ (x_2 = 0) → ∃ n, wl224_17 c d Post n r0 x1 0 h_2)))
theorem okm224 (c : gx) (d : Nat) (Post : Option Value → gm_H → Prop) (r0 : Nat) (x1 : Int32) (h : gm_H) (w : wm224 c d Post r0 x1 h) : gE c (d + 1) 224 [.ref r0, .int x1] h Post := by
  have hk : ∀ pc i, gm_find gk_224 pc = some i → gm_code (gt_T c.1 c.2.1 c.2.2.1) 224 pc = some i := fun _ _ z => z
  unfold wm224 at w
  refine ge_of (by decide) (Nat.le_of_ble_eq_true rfl) ?_
  show gV c d 224 (0, [some (.ref r0), some (.int x1), none, none, none], [], h) Post
  unfold gV
  refine gw_pst hk 2 (st' := (2, [some (.ref r0), some (.int x1), none, none, none], [.int 0, .ref r0], h)) rfl ?_
  obtain ⟨fs1, e1, l1, w⟩ := w
  refine gw_pf (hk _ _ rfl) e1 l1 rfl ?_
  obtain ⟨h_1, eh1⟩ : ∃ z, z = gm_put h r0 (.inr (10, fs1.set 13 (.int 0))) := ⟨_, rfl⟩
  rw [← eh1]
  replace w := w h_1 eh1
  refine gw_pst hk 2 (st' := (7, [some (.ref r0), some (.int x1), none, none, none], [.int x1, .ref r0], h_1)) rfl ?_
  obtain ⟨⟨fs2, e2⟩, w⟩ := w
  refine gw_call (jj := 158) (As := [.ref r0, .int x1]) (rest := []) (hk _ _ rfl) (fun _ => rfl) rfl rfl (Nat.le_of_ble_eq_true rfl) (gm_rcv_v rfl e2 rfl) ?_
  refine ge_imp w (fun v2 h_2 w => ?_)
  obtain ⟨x_2, rfl, w⟩ := w
  show gV c d 224 (10, [some (.ref r0), some (.int x1), none, none, none], [.int x_2], h_2) Post
  refine gw_br (c := x_2 = 0) (a := (13, [some (.ref r0), some (.int x1), none, none, none], [], h_2)) (b := (15, [some (.ref r0), some (.int x1), none, none, none], [], h_2)) (hk _ _ rfl) rfl ⟨fun z3 => ?_, fun z3 => ?_⟩
  · replace w := w.1 z3
    refine gw_pst hk 1 (st' := (14, [some (.ref r0), some (.int x1), none, none, none], [.int (-1)], h_2)) rfl ?_
    exact gw_ret (hk _ _ rfl) rfl w
  · replace w := w.2 z3
    refine gw_pst hk 2 (st' := (17, [some (.ref r0), some (.int x1), some (.int 0), none, none], [], h_2)) rfl ?_
    obtain ⟨n, w⟩ := w
    exact okl224_17 c d Post n _ _ _ _ w
def w225_43 (c : gx) (d : Nat) (Post : Option Value → gm_H → Prop) (xs0 : Int32) (h : gm_H) : Prop :=
  Post (some (.int xs0)) h
theorem ok225_43 (c : gx) (d : Nat) (Post : Option Value → gm_H → Prop)  (xs0 : Int32) (h : gm_H) (w : w225_43 c d Post xs0 h) : gV c d 225 (43, [none, none, none], [.int xs0], h) Post := by
  have hk : ∀ pc i, gm_find gk_225 pc = some i → gm_code (gt_T c.1 c.2.1 c.2.2.1) 225 pc = some i := fun _ _ z => z
  unfold w225_43 at w
  unfold gV
  exact gw_ret (hk _ _ rfl) rfl w
def w225_42 (c : gx) (d : Nat) (Post : Option Value → gm_H → Prop) (x2 : Int32) (h : gm_H) : Prop :=
  w225_43 c d Post x2 h
theorem ok225_42 (c : gx) (d : Nat) (Post : Option Value → gm_H → Prop)  (x2 : Int32) (h : gm_H) (w : w225_42 c d Post x2 h) : gV c d 225 (42, [none, none, some (.int x2)], [], h) Post := by
  have hk : ∀ pc i, gm_find gk_225 pc = some i → gm_code (gt_T c.1 c.2.1 c.2.2.1) 225 pc = some i := fun _ _ z => z
  unfold w225_42 at w
  unfold gV
  refine gw_pst hk 1 (st' := (43, [none, none, some (.int x2)], [.int x2], h)) rfl ?_
  refine gw_le (L' := [none, none, none]) (gm_le_k _ (gm_le_k _ (gm_le_n _ gm_le_nil))) ?_
  exact ok225_43 c d Post _ _ w
/-- CommandByTurnsModel.playsOn(I)I -/
def wm225 (c : gx) (d : Nat) (Post : Option Value → gm_H → Prop) (r0 : Nat) (x1 : Int32) (h : gm_H) : Prop :=
  ∃ q_1 : Nat, gm_fld h r0 10 0 = some (.ref q_1) ∧ ∃ q_2 : Nat, gm_fld h r0 10 0 = some (.ref q_2) ∧ ∃ (n3 : Nat) (f3 : Nat → Int32), gm_get h q_2 = some (.inl (0, n3, .inl f3)) ∧ vp_in 0 n3 ∧ gE c d 184 [.ref q_1, .int ((f3 (0 : Int32).toNatClampNeg) + x1)] h (fun v4 h_4 => ∃ x_4 : Int32, v4 = some (.int x_4) ∧ ((x_4 = 1 → ((31 ≤ x1 → w225_42 c d Post x_4 h_4) ∧ (¬ (31 ≤ x1) → ∃ x_7 : Int32, gm_fld h_4 r0 10 32 = some (.int x_7) ∧ gE c d 155 [.int x_7, .int x1] h_4 (fun v8 h_8 => ∃ x_8 : Int32, v8 = some (.int x_8) ∧ ((x_8 = 0 → w225_42 c d Post x_4 h_8) ∧ (¬ (x_8 = 0) → w225_43 c d Post 0 h_8)))))) ∧ (¬ (x_4 = 1) → w225_42 c d Post x_4 h_4)))
theorem okm225 (c : gx) (d : Nat) (Post : Option Value → gm_H → Prop) (r0 : Nat) (x1 : Int32) (h : gm_H) (w : wm225 c d Post r0 x1 h) : gE c (d + 1) 225 [.ref r0, .int x1] h Post := by
  have hk : ∀ pc i, gm_find gk_225 pc = some i → gm_code (gt_T c.1 c.2.1 c.2.2.1) 225 pc = some i := fun _ _ z => z
  unfold wm225 at w
  refine ge_of (by decide) (Nat.le_of_ble_eq_true rfl) ?_
  show gV c d 225 (0, [some (.ref r0), some (.int x1), none], [], h) Post
  unfold gV
  refine gw_pst hk 1 (st' := (1, [some (.ref r0), some (.int x1), none], [.ref r0], h)) rfl ?_
  obtain ⟨q_1, e1, w⟩ := w
  refine gw_gf (hk _ _ rfl) e1 ?_
  refine gw_pst hk 1 (st' := (5, [some (.ref r0), some (.int x1), none], [.ref r0, .ref q_1], h)) rfl ?_
  obtain ⟨q_2, e2, w⟩ := w
  refine gw_gf (hk _ _ rfl) e2 ?_
  refine gw_pst hk 1 (st' := (9, [some (.ref r0), some (.int x1), none], [.int 0, .ref q_2, .ref q_1], h)) rfl ?_
  obtain ⟨n3, f3, e3, b3, w⟩ := w
  refine gw_ald (hk _ _ rfl) (Or.inl ⟨rfl, rfl⟩) e3 b3 ?_
  refine gw_pst hk 2 (st' := (12, [some (.ref r0), some (.int x1), none], [.int ((f3 (0 : Int32).toNatClampNeg) + x1), .ref q_1], h)) rfl ?_
  refine gw_call (jj := 184) (As := [.ref q_1, .int ((f3 (0 : Int32).toNatClampNeg) + x1)]) (rest := []) (hk _ _ rfl) (fun _ => rfl) rfl rfl (Nat.le_of_ble_eq_true rfl) rfl ?_
  refine ge_imp w (fun v4 h_4 w => ?_)
  obtain ⟨x_4, rfl, w⟩ := w
  show gV c d 225 (15, [some (.ref r0), some (.int x1), none], [.int x_4], h_4) Post
  refine gw_pst hk 3 (st' := (18, [some (.ref r0), some (.int x1), some (.int x_4)], [.int 1, .int x_4], h_4)) rfl ?_
  refine gw_br (c := x_4 = 1) (a := (21, [some (.ref r0), some (.int x1), some (.int x_4)], [], h_4)) (b := (42, [some (.ref r0), some (.int x1), some (.int x_4)], [], h_4)) (hk _ _ rfl) rfl ⟨fun z5 => ?_, fun z5 => ?_⟩
  · replace w := w.1 z5
    refine gw_pst hk 2 (st' := (24, [some (.ref r0), some (.int x1), some (.int x_4)], [.int 31, .int x1], h_4)) rfl ?_
    refine gw_br (c := 31 ≤ x1) (a := (42, [some (.ref r0), some (.int x1), some (.int x_4)], [], h_4)) (b := (27, [some (.ref r0), some (.int x1), some (.int x_4)], [], h_4)) (hk _ _ rfl) rfl ⟨fun z6 => ?_, fun z6 => ?_⟩
    · replace w := w.1 z6
      refine gw_le (L' := [none, none, some (.int x_4)]) (gm_le_n _ (gm_le_n _ (gm_le_k _ gm_le_nil))) ?_
      exact ok225_42 c d Post _ _ w
    · replace w := w.2 z6
      refine gw_pst hk 1 (st' := (28, [some (.ref r0), some (.int x1), some (.int x_4)], [.ref r0], h_4)) rfl ?_
      obtain ⟨x_7, e7, w⟩ := w
      refine gw_gf (hk _ _ rfl) e7 ?_
      refine gw_pst hk 1 (st' := (32, [some (.ref r0), some (.int x1), some (.int x_4)], [.int x1, .int x_7], h_4)) rfl ?_
      refine gw_call (jj := 155) (As := [.int x_7, .int x1]) (rest := []) (hk _ _ rfl) (fun _ => rfl) rfl rfl (Nat.le_of_ble_eq_true rfl) rfl ?_
      refine ge_imp w (fun v8 h_8 w => ?_)
      obtain ⟨x_8, rfl, w⟩ := w
      show gV c d 225 (35, [some (.ref r0), some (.int x1), some (.int x_4)], [.int x_8], h_8) Post
      refine gw_br (c := x_8 = 0) (a := (42, [some (.ref r0), some (.int x1), some (.int x_4)], [], h_8)) (b := (38, [some (.ref r0), some (.int x1), some (.int x_4)], [], h_8)) (hk _ _ rfl) rfl ⟨fun z9 => ?_, fun z9 => ?_⟩
      · replace w := w.1 z9
        refine gw_le (L' := [none, none, some (.int x_4)]) (gm_le_n _ (gm_le_n _ (gm_le_k _ gm_le_nil))) ?_
        exact ok225_42 c d Post _ _ w
      · replace w := w.2 z9
        refine gw_pst hk 2 (st' := (43, [some (.ref r0), some (.int x1), some (.int x_4)], [.int 0], h_8)) rfl ?_
        refine gw_le (L' := [none, none, none]) (gm_le_n _ (gm_le_n _ (gm_le_n _ gm_le_nil))) ?_
        exact ok225_43 c d Post _ _ w
  · replace w := w.2 z5
    refine gw_le (L' := [none, none, some (.int x_4)]) (gm_le_n _ (gm_le_n _ (gm_le_k _ gm_le_nil))) ?_
    exact ok225_42 c d Post _ _ w
def w226_65 (c : gx) (d : Nat) (Post : Option Value → gm_H → Prop) (K18 : Nat → Int32 → Int32 → Int32 → gm_H → Prop) (r0 : Nat) (x2 : Int32) (x3 : Int32) (x4 : Int32) (h : gm_H) : Prop :=
  K18 r0 x2 x3 (x4 + 1) h
theorem ok226_65 (c : gx) (d : Nat) (Post : Option Value → gm_H → Prop) (K18 : Nat → Int32 → Int32 → Int32 → gm_H → Prop)  (hK18 : ∀ (r0 : Nat) (x2 : Int32) (x3 : Int32) (x4 : Int32) (h : gm_H), K18 r0 x2 x3 x4 h → gV c d 226 (18, [some (.ref r0), none, some (.int x2), some (.int x3), some (.int x4)], [], h) Post) (r0 : Nat) (x2 : Int32) (x3 : Int32) (x4 : Int32) (h : gm_H) (w : w226_65 c d Post K18 r0 x2 x3 x4 h) : gV c d 226 (65, [some (.ref r0), none, some (.int x2), some (.int x3), some (.int x4)], [], h) Post := by
  have hk : ∀ pc i, gm_find gk_226 pc = some i → gm_code (gt_T c.1 c.2.1 c.2.2.1) 226 pc = some i := fun _ _ z => z
  unfold w226_65 at w
  unfold gV
  refine gw_pst hk 2 (st' := (18, [some (.ref r0), none, some (.int x2), some (.int x3), some (.int (x4 + 1))], [], h)) rfl ?_
  exact hK18 _ _ _ _ _ w
def wb226_18 (c : gx) (d : Nat) (Post : Option Value → gm_H → Prop) (K18 : Nat → Int32 → Int32 → Int32 → gm_H → Prop) (r0 : Nat) (x2 : Int32) (x3 : Int32) (x4 : Int32) (h : gm_H) : Prop :=
  ∃ x_1 : Int32, gm_fld h r0 10 1 = some (.int x_1) ∧ ((x_1 ≤ x4 → Post (some (.int x3)) h) ∧ (¬ (x_1 ≤ x4) → gE c d 155 [.int x2, .int x4] h (fun v3 h_3 => ∃ x_3 : Int32, v3 = some (.int x_3) ∧ ((x_3 = 0 → w226_65 c d Post K18 r0 x2 x3 x4 h_3) ∧ (¬ (x_3 = 0) → ∃ q_5 : Nat, gm_fld h_3 r0 10 0 = some (.ref q_5) ∧ ∃ (n6 : Nat) (f6 : Nat → Int32), gm_get h_3 q_5 = some (.inl (0, n6, .inl f6)) ∧ vp_in 2 n6 ∧ ∃ q_7 : Nat, gm_fld h_3 r0 10 0 = some (.ref q_7) ∧ ∃ (n8 : Nat) (f8 : Nat → Int32), gm_get h_3 q_7 = some (.inl (0, n8, .inl f8)) ∧ vp_in 2 n8 ∧ (((if 0 ≤ (x3 - (f8 (2 : Int32).toNatClampNeg)) then (x3 - (f8 (2 : Int32).toNatClampNeg)) else 0 - (x3 - (f8 (2 : Int32).toNatClampNeg))) ≤ (if 0 ≤ (x4 - (f6 (2 : Int32).toNatClampNeg)) then (x4 - (f6 (2 : Int32).toNatClampNeg)) else 0 - (x4 - (f6 (2 : Int32).toNatClampNeg))) → w226_65 c d Post K18 r0 x2 x3 x4 h_3) ∧ (¬ ((if 0 ≤ (x3 - (f8 (2 : Int32).toNatClampNeg)) then (x3 - (f8 (2 : Int32).toNatClampNeg)) else 0 - (x3 - (f8 (2 : Int32).toNatClampNeg))) ≤ (if 0 ≤ (x4 - (f6 (2 : Int32).toNatClampNeg)) then (x4 - (f6 (2 : Int32).toNatClampNeg)) else 0 - (x4 - (f6 (2 : Int32).toNatClampNeg)))) → w226_65 c d Post K18 r0 x2 x4 x4 h_3)))))))
theorem okb226_18 (c : gx) (d : Nat) (Post : Option Value → gm_H → Prop) (K18 : Nat → Int32 → Int32 → Int32 → gm_H → Prop)  (hK18 : ∀ (r0 : Nat) (x2 : Int32) (x3 : Int32) (x4 : Int32) (h : gm_H), K18 r0 x2 x3 x4 h → gV c d 226 (18, [some (.ref r0), none, some (.int x2), some (.int x3), some (.int x4)], [], h) Post) (r0 : Nat) (x2 : Int32) (x3 : Int32) (x4 : Int32) (h : gm_H) (w : wb226_18 c d Post K18 r0 x2 x3 x4 h) : gV c d 226 (18, [some (.ref r0), none, some (.int x2), some (.int x3), some (.int x4)], [], h) Post := by
  have hk : ∀ pc i, gm_find gk_226 pc = some i → gm_code (gt_T c.1 c.2.1 c.2.2.1) 226 pc = some i := fun _ _ z => z
  unfold wb226_18 at w
  unfold gV
  refine gw_pst hk 2 (st' := (21, [some (.ref r0), none, some (.int x2), some (.int x3), some (.int x4)], [.ref r0, .int x4], h)) rfl ?_
  obtain ⟨x_1, e1, w⟩ := w
  refine gw_gf (hk _ _ rfl) e1 ?_
  refine gw_br (c := x_1 ≤ x4) (a := (71, [some (.ref r0), none, some (.int x2), some (.int x3), some (.int x4)], [], h)) (b := (27, [some (.ref r0), none, some (.int x2), some (.int x3), some (.int x4)], [], h)) (hk _ _ rfl) rfl ⟨fun z2 => ?_, fun z2 => ?_⟩
  · replace w := w.1 z2
    refine gw_pst hk 1 (st' := (72, [some (.ref r0), none, some (.int x2), some (.int x3), some (.int x4)], [.int x3], h)) rfl ?_
    exact gw_ret (hk _ _ rfl) rfl w
  · replace w := w.2 z2
    refine gw_pst hk 2 (st' := (30, [some (.ref r0), none, some (.int x2), some (.int x3), some (.int x4)], [.int x4, .int x2], h)) rfl ?_
    refine gw_call (jj := 155) (As := [.int x2, .int x4]) (rest := []) (hk _ _ rfl) (fun _ => rfl) rfl rfl (Nat.le_of_ble_eq_true rfl) rfl ?_
    refine ge_imp w (fun v3 h_3 w => ?_)
    obtain ⟨x_3, rfl, w⟩ := w
    show gV c d 226 (33, [some (.ref r0), none, some (.int x2), some (.int x3), some (.int x4)], [.int x_3], h_3) Post
    refine gw_br (c := x_3 = 0) (a := (65, [some (.ref r0), none, some (.int x2), some (.int x3), some (.int x4)], [], h_3)) (b := (36, [some (.ref r0), none, some (.int x2), some (.int x3), some (.int x4)], [], h_3)) (hk _ _ rfl) rfl ⟨fun z4 => ?_, fun z4 => ?_⟩
    · replace w := w.1 z4
      exact ok226_65 c d Post K18 hK18 _ _ _ _ _ w
    · replace w := w.2 z4
      refine gw_pst hk 2 (st' := (39, [some (.ref r0), none, some (.int x2), some (.int x3), some (.int x4)], [.ref r0, .int x4], h_3)) rfl ?_
      obtain ⟨q_5, e5, w⟩ := w
      refine gw_gf (hk _ _ rfl) e5 ?_
      refine gw_pst hk 1 (st' := (43, [some (.ref r0), none, some (.int x2), some (.int x3), some (.int x4)], [.int 2, .ref q_5, .int x4], h_3)) rfl ?_
      obtain ⟨n6, f6, e6, b6, w⟩ := w
      refine gw_ald (hk _ _ rfl) (Or.inl ⟨rfl, rfl⟩) e6 b6 ?_
      refine gw_pst hk 4 (st' := (50, [some (.ref r0), none, some (.int x2), some (.int x3), some (.int x4)], [.ref r0, .int x3, .int (if 0 ≤ (x4 - (f6 (2 : Int32).toNatClampNeg)) then (x4 - (f6 (2 : Int32).toNatClampNeg)) else 0 - (x4 - (f6 (2 : Int32).toNatClampNeg)))], h_3)) rfl ?_
      obtain ⟨q_7, e7, w⟩ := w
      refine gw_gf (hk _ _ rfl) e7 ?_
      refine gw_pst hk 1 (st' := (54, [some (.ref r0), none, some (.int x2), some (.int x3), some (.int x4)], [.int 2, .ref q_7, .int x3, .int (if 0 ≤ (x4 - (f6 (2 : Int32).toNatClampNeg)) then (x4 - (f6 (2 : Int32).toNatClampNeg)) else 0 - (x4 - (f6 (2 : Int32).toNatClampNeg)))], h_3)) rfl ?_
      obtain ⟨n8, f8, e8, b8, w⟩ := w
      refine gw_ald (hk _ _ rfl) (Or.inl ⟨rfl, rfl⟩) e8 b8 ?_
      refine gw_pst hk 2 (st' := (59, [some (.ref r0), none, some (.int x2), some (.int x3), some (.int x4)], [.int (if 0 ≤ (x3 - (f8 (2 : Int32).toNatClampNeg)) then (x3 - (f8 (2 : Int32).toNatClampNeg)) else 0 - (x3 - (f8 (2 : Int32).toNatClampNeg))), .int (if 0 ≤ (x4 - (f6 (2 : Int32).toNatClampNeg)) then (x4 - (f6 (2 : Int32).toNatClampNeg)) else 0 - (x4 - (f6 (2 : Int32).toNatClampNeg)))], h_3)) rfl ?_
      refine gw_br (c := (if 0 ≤ (x3 - (f8 (2 : Int32).toNatClampNeg)) then (x3 - (f8 (2 : Int32).toNatClampNeg)) else 0 - (x3 - (f8 (2 : Int32).toNatClampNeg))) ≤ (if 0 ≤ (x4 - (f6 (2 : Int32).toNatClampNeg)) then (x4 - (f6 (2 : Int32).toNatClampNeg)) else 0 - (x4 - (f6 (2 : Int32).toNatClampNeg)))) (a := (65, [some (.ref r0), none, some (.int x2), some (.int x3), some (.int x4)], [], h_3)) (b := (62, [some (.ref r0), none, some (.int x2), some (.int x3), some (.int x4)], [], h_3)) (hk _ _ rfl) rfl ⟨fun z9 => ?_, fun z9 => ?_⟩
      · replace w := w.1 z9
        exact ok226_65 c d Post K18 hK18 _ _ _ _ _ w
      · replace w := w.2 z9
        refine gw_pst hk 2 (st' := (65, [some (.ref r0), none, some (.int x2), some (.int x4), some (.int x4)], [], h_3)) rfl ?_
        exact ok226_65 c d Post K18 hK18 _ _ _ _ _ w
def wl226_18 (c : gx) (d : Nat) (Post : Option Value → gm_H → Prop) : Nat → Nat → Int32 → Int32 → Int32 → gm_H → Prop
  | 0 => fun _ _ _ _ _ => False
  | n + 1 => wb226_18 c d Post (wl226_18 c d Post n)
theorem okl226_18 (c : gx) (d : Nat) (Post : Option Value → gm_H → Prop) : ∀ (n : Nat) (r0 : Nat) (x2 : Int32) (x3 : Int32) (x4 : Int32) (h : gm_H), wl226_18 c d Post n r0 x2 x3 x4 h → gV c d 226 (18, [some (.ref r0), none, some (.int x2), some (.int x3), some (.int x4)], [], h) Post
  | 0, _, _, _, _, _, w => w.elim
  | n + 1, r0, x2, x3, x4, h, w => okb226_18 c d Post (wl226_18 c d Post n) (okl226_18 c d Post n) r0 x2 x3 x4 h w
/-- CommandByTurnsModel.nearest(I)I -/
def wm226 (c : gx) (d : Nat) (Post : Option Value → gm_H → Prop) (r0 : Nat) (x1 : Int32) (h : gm_H) : Prop :=
  ∃ q_1 : Nat, gm_fld h r0 10 0 = some (.ref q_1) ∧ ∃ (n2 : Nat) (f2 : Nat → Int32), gm_get h q_1 = some (.inl (0, n2, .inl f2)) ∧ vp_in 2 n2 ∧ (∃ fs3, gm_get h r0 = some (.inr (10, fs3))) ∧ gE c d 189 [.ref r0, .int 0, .int x1, .int (f2 (2 : Int32).toNatClampNeg)] h (fun v3 h_3 => ∃ x_3 : Int32, v3 = some (.int x_3) ∧ ∃ n, wl226_18 c d Post n r0 x_3 x1 0 h_3)
theorem okm226 (c : gx) (d : Nat) (Post : Option Value → gm_H → Prop) (r0 : Nat) (x1 : Int32) (h : gm_H) (w : wm226 c d Post r0 x1 h) : gE c (d + 1) 226 [.ref r0, .int x1] h Post := by
  have hk : ∀ pc i, gm_find gk_226 pc = some i → gm_code (gt_T c.1 c.2.1 c.2.2.1) 226 pc = some i := fun _ _ z => z
  unfold wm226 at w
  refine ge_of (by decide) (Nat.le_of_ble_eq_true rfl) ?_
  show gV c d 226 (0, [some (.ref r0), some (.int x1), none, none, none], [], h) Post
  unfold gV
  refine gw_pst hk 4 (st' := (4, [some (.ref r0), some (.int x1), none, none, none], [.ref r0, .int x1, .int 0, .ref r0], h)) rfl ?_
  obtain ⟨q_1, e1, w⟩ := w
  refine gw_gf (hk _ _ rfl) e1 ?_
  refine gw_pst hk 1 (st' := (8, [some (.ref r0), some (.int x1), none, none, none], [.int 2, .ref q_1, .int x1, .int 0, .ref r0], h)) rfl ?_
  obtain ⟨n2, f2, e2, b2, w⟩ := w
  refine gw_ald (hk _ _ rfl) (Or.inl ⟨rfl, rfl⟩) e2 b2 ?_
  obtain ⟨⟨fs3, e3⟩, w⟩ := w
  refine gw_call (jj := 189) (As := [.ref r0, .int 0, .int x1, .int (f2 (2 : Int32).toNatClampNeg)]) (rest := []) (hk _ _ rfl) (fun _ => rfl) rfl rfl (Nat.le_of_ble_eq_true rfl) (gm_rcv_v rfl e3 rfl) ?_
  refine ge_imp w (fun v3 h_3 w => ?_)
  obtain ⟨x_3, rfl, w⟩ := w
  show gV c d 226 (12, [some (.ref r0), some (.int x1), none, none, none], [.int x_3], h_3) Post
  refine gw_pst hk 5 (st' := (18, [some (.ref r0), some (.int x1), some (.int x_3), some (.int x1), some (.int 0)], [], h_3)) rfl ?_
  refine gw_le (L' := [some (.ref r0), none, some (.int x_3), some (.int x1), some (.int 0)]) (gm_le_k _ (gm_le_n _ (gm_le_k _ (gm_le_k _ (gm_le_k _ gm_le_nil))))) ?_
  obtain ⟨n, w⟩ := w
  exact okl226_18 c d Post n _ _ _ _ _ w
/-- CommandByTurnsModel.cell(II)I -/
def wm227 (c : gx) (d : Nat) (Post : Option Value → gm_H → Prop) (r0 : Nat) (x1 : Int32) (x2 : Int32) (h : gm_H) : Prop :=
  Post (some (.int ((12 * x1) + x2))) h
theorem okm227 (c : gx) (d : Nat) (Post : Option Value → gm_H → Prop) (r0 : Nat) (x1 : Int32) (x2 : Int32) (h : gm_H) (w : wm227 c d Post r0 x1 x2 h) : gE c (d + 1) 227 [.ref r0, .int x1, .int x2] h Post := by
  have hk : ∀ pc i, gm_find gk_227 pc = some i → gm_code (gt_T c.1 c.2.1 c.2.2.1) 227 pc = some i := fun _ _ z => z
  unfold wm227 at w
  refine ge_of (by decide) (Nat.le_of_ble_eq_true rfl) ?_
  show gV c d 227 (0, [some (.ref r0), some (.int x1), some (.int x2)], [], h) Post
  unfold gV
  refine gw_pst hk 5 (st' := (6, [some (.ref r0), some (.int x1), some (.int x2)], [.int ((12 * x1) + x2)], h)) rfl ?_
  exact gw_ret (hk _ _ rfl) rfl w
/-- CommandByTurnsModel.behind(II)I -/
def wm228 (c : gx) (d : Nat) (Post : Option Value → gm_H → Prop) (r0 : Nat) (x1 : Int32) (x2 : Int32) (h : gm_H) : Prop :=
  ∃ q_1 : Nat, gm_fld h r0 10 31 = some (.ref q_1) ∧ (∃ fs2, gm_get h r0 = some (.inr (10, fs2))) ∧ gE c d 227 [.ref r0, .int (x1 + 1), .int x2] h (fun v2 h_2 => ∃ x_2 : Int32, v2 = some (.int x_2) ∧ ∃ (n3 : Nat) (f3 : Nat → Int32), gm_get h_2 q_1 = some (.inl (0, n3, .inl f3)) ∧ vp_in x_2 n3 ∧ Post (some (.int (1 + (f3 (x_2 : Int32).toNatClampNeg)))) h_2)
theorem okm228 (c : gx) (d : Nat) (Post : Option Value → gm_H → Prop) (r0 : Nat) (x1 : Int32) (x2 : Int32) (h : gm_H) (w : wm228 c d Post r0 x1 x2 h) : gE c (d + 1) 228 [.ref r0, .int x1, .int x2] h Post := by
  have hk : ∀ pc i, gm_find gk_228 pc = some i → gm_code (gt_T c.1 c.2.1 c.2.2.1) 228 pc = some i := fun _ _ z => z
  unfold wm228 at w
  refine ge_of (by decide) (Nat.le_of_ble_eq_true rfl) ?_
  show gV c d 228 (0, [some (.ref r0), some (.int x1), some (.int x2)], [], h) Post
  unfold gV
  refine gw_pst hk 2 (st' := (2, [some (.ref r0), some (.int x1), some (.int x2)], [.ref r0, .int 1], h)) rfl ?_
  obtain ⟨q_1, e1, w⟩ := w
  refine gw_gf (hk _ _ rfl) e1 ?_
  refine gw_pst hk 5 (st' := (10, [some (.ref r0), some (.int x1), some (.int x2)], [.int x2, .int (x1 + 1), .ref r0, .ref q_1, .int 1], h)) rfl ?_
  obtain ⟨⟨fs2, e2⟩, w⟩ := w
  refine gw_call (jj := 227) (As := [.ref r0, .int (x1 + 1), .int x2]) (rest := [.ref q_1, .int 1]) (hk _ _ rfl) (fun _ => rfl) rfl rfl (Nat.le_of_ble_eq_true rfl) (gm_rcv_v rfl e2 rfl) ?_
  refine ge_imp w (fun v2 h_2 w => ?_)
  obtain ⟨x_2, rfl, w⟩ := w
  show gV c d 228 (13, [some (.ref r0), some (.int x1), some (.int x2)], [.int x_2, .ref q_1, .int 1], h_2) Post
  obtain ⟨n3, f3, e3, b3, w⟩ := w
  refine gw_ald (hk _ _ rfl) (Or.inl ⟨rfl, rfl⟩) e3 b3 ?_
  refine gw_pst hk 1 (st' := (15, [some (.ref r0), some (.int x1), some (.int x2)], [.int (1 + (f3 (x_2 : Int32).toNatClampNeg))], h_2)) rfl ?_
  exact gw_ret (hk _ _ rfl) rfl w
def w229_169 (c : gx) (d : Nat) (Post : Option Value → gm_H → Prop) (K32 : Nat → Int32 → gm_H → Prop) (K45 : Nat → Int32 → Int32 → Int32 → gm_H → Prop) (r0 : Nat) (x2 : Int32) (x3 : Int32) (x4 : Int32) (x5 : Int32) (h : gm_H) : Prop :=
  ∃ q_1 : Nat, gm_fld h r0 10 31 = some (.ref q_1) ∧ (∃ fs2, gm_get h r0 = some (.inr (10, fs2))) ∧ gE c d 227 [.ref r0, .int x2, .int x4] h (fun v2 h_2 => ∃ x_2 : Int32, v2 = some (.int x_2) ∧ ∃ (n3 : Nat) (f3 : Nat → Int32), gm_get h_2 q_1 = some (.inl (0, n3, .inl f3)) ∧ vp_in x_2 n3 ∧ ∀ h_3 : gm_H, h_3 = gm_put h_2 q_1 (.inl (0, n3, .inl (upd f3 (x_2 : Int32).toNatClampNeg (vp_nar .int x5)))) → K45 r0 x2 x3 (x4 + 1) h_3)
theorem ok229_169 (c : gx) (d : Nat) (Post : Option Value → gm_H → Prop) (K32 : Nat → Int32 → gm_H → Prop) (K45 : Nat → Int32 → Int32 → Int32 → gm_H → Prop)  (hK32 : ∀ (r0 : Nat) (x2 : Int32) (h : gm_H), K32 r0 x2 h → gV c d 229 (32, [some (.ref r0), none, some (.int x2), none, none, none, none], [], h) Post) (hK45 : ∀ (r0 : Nat) (x2 : Int32) (x3 : Int32) (x4 : Int32) (h : gm_H), K45 r0 x2 x3 x4 h → gV c d 229 (45, [some (.ref r0), none, some (.int x2), some (.int x3), some (.int x4), none, none], [], h) Post) (r0 : Nat) (x2 : Int32) (x3 : Int32) (x4 : Int32) (x5 : Int32) (h : gm_H) (w : w229_169 c d Post K32 K45 r0 x2 x3 x4 x5 h) : gV c d 229 (169, [some (.ref r0), none, some (.int x2), some (.int x3), some (.int x4), some (.int x5), none], [], h) Post := by
  have hk : ∀ pc i, gm_find gk_229 pc = some i → gm_code (gt_T c.1 c.2.1 c.2.2.1) 229 pc = some i := fun _ _ z => z
  unfold w229_169 at w
  unfold gV
  refine gw_pst hk 1 (st' := (170, [some (.ref r0), none, some (.int x2), some (.int x3), some (.int x4), some (.int x5), none], [.ref r0], h)) rfl ?_
  obtain ⟨q_1, e1, w⟩ := w
  refine gw_gf (hk _ _ rfl) e1 ?_
  refine gw_pst hk 3 (st' := (177, [some (.ref r0), none, some (.int x2), some (.int x3), some (.int x4), some (.int x5), none], [.int x4, .int x2, .ref r0, .ref q_1], h)) rfl ?_
  obtain ⟨⟨fs2, e2⟩, w⟩ := w
  refine gw_call (jj := 227) (As := [.ref r0, .int x2, .int x4]) (rest := [.ref q_1]) (hk _ _ rfl) (fun _ => rfl) rfl rfl (Nat.le_of_ble_eq_true rfl) (gm_rcv_v rfl e2 rfl) ?_
  refine ge_imp w (fun v2 h_2 w => ?_)
  obtain ⟨x_2, rfl, w⟩ := w
  show gV c d 229 (180, [some (.ref r0), none, some (.int x2), some (.int x3), some (.int x4), some (.int x5), none], [.int x_2, .ref q_1], h_2) Post
  refine gw_pst hk 1 (st' := (182, [some (.ref r0), none, some (.int x2), some (.int x3), some (.int x4), some (.int x5), none], [.int x5, .int x_2, .ref q_1], h_2)) rfl ?_
  obtain ⟨n3, f3, e3, b3, w⟩ := w
  refine gw_ast (hk _ _ rfl) (Or.inl ⟨rfl, rfl, rfl⟩) e3 b3 ?_
  obtain ⟨h_3, eh3⟩ : ∃ z, z = gm_put h_2 q_1 (.inl (0, n3, .inl (upd f3 (x_2 : Int32).toNatClampNeg (vp_nar .int x5)))) := ⟨_, rfl⟩
  rw [← eh3]
  replace w := w h_3 eh3
  refine gw_pst hk 2 (st' := (45, [some (.ref r0), none, some (.int x2), some (.int x3), some (.int (x4 + 1)), some (.int x5), none], [], h_3)) rfl ?_
  refine gw_le (L' := [some (.ref r0), none, some (.int x2), some (.int x3), some (.int (x4 + 1)), none, none]) (gm_le_k _ (gm_le_k _ (gm_le_k _ (gm_le_k _ (gm_le_k _ (gm_le_n _ (gm_le_k _ gm_le_nil))))))) ?_
  exact hK45 _ _ _ _ _ w
def w229_94 (c : gx) (d : Nat) (Post : Option Value → gm_H → Prop) (K32 : Nat → Int32 → gm_H → Prop) (K45 : Nat → Int32 → Int32 → Int32 → gm_H → Prop) (r0 : Nat) (x2 : Int32) (x3 : Int32) (x4 : Int32) (xs0 : Int32) (h : gm_H) : Prop :=
  w229_169 c d Post K32 K45 r0 x2 x3 x4 xs0 h
theorem ok229_94 (c : gx) (d : Nat) (Post : Option Value → gm_H → Prop) (K32 : Nat → Int32 → gm_H → Prop) (K45 : Nat → Int32 → Int32 → Int32 → gm_H → Prop)  (hK32 : ∀ (r0 : Nat) (x2 : Int32) (h : gm_H), K32 r0 x2 h → gV c d 229 (32, [some (.ref r0), none, some (.int x2), none, none, none, none], [], h) Post) (hK45 : ∀ (r0 : Nat) (x2 : Int32) (x3 : Int32) (x4 : Int32) (h : gm_H), K45 r0 x2 x3 x4 h → gV c d 229 (45, [some (.ref r0), none, some (.int x2), some (.int x3), some (.int x4), none, none], [], h) Post) (r0 : Nat) (x2 : Int32) (x3 : Int32) (x4 : Int32) (xs0 : Int32) (h : gm_H) (w : w229_94 c d Post K32 K45 r0 x2 x3 x4 xs0 h) : gV c d 229 (94, [some (.ref r0), none, some (.int x2), some (.int x3), some (.int x4), none, none], [.int xs0], h) Post := by
  have hk : ∀ pc i, gm_find gk_229 pc = some i → gm_code (gt_T c.1 c.2.1 c.2.2.1) 229 pc = some i := fun _ _ z => z
  unfold w229_94 at w
  unfold gV
  refine gw_pst hk 2 (st' := (169, [some (.ref r0), none, some (.int x2), some (.int x3), some (.int x4), some (.int xs0), none], [], h)) rfl ?_
  exact ok229_169 c d Post K32 K45 hK32 hK45 _ _ _ _ _ _ w
def w229_163 (c : gx) (d : Nat) (Post : Option Value → gm_H → Prop) (K32 : Nat → Int32 → gm_H → Prop) (K45 : Nat → Int32 → Int32 → Int32 → gm_H → Prop) (K119 : Nat → Int32 → Int32 → Int32 → Int32 → Int32 → gm_H → Prop) (r0 : Nat) (x2 : Int32) (x3 : Int32) (x4 : Int32) (x5 : Int32) (x6 : Int32) (h : gm_H) : Prop :=
  K119 r0 x2 x3 x4 x5 (x6 + 1) h
theorem ok229_163 (c : gx) (d : Nat) (Post : Option Value → gm_H → Prop) (K32 : Nat → Int32 → gm_H → Prop) (K45 : Nat → Int32 → Int32 → Int32 → gm_H → Prop) (K119 : Nat → Int32 → Int32 → Int32 → Int32 → Int32 → gm_H → Prop)  (hK32 : ∀ (r0 : Nat) (x2 : Int32) (h : gm_H), K32 r0 x2 h → gV c d 229 (32, [some (.ref r0), none, some (.int x2), none, none, none, none], [], h) Post) (hK45 : ∀ (r0 : Nat) (x2 : Int32) (x3 : Int32) (x4 : Int32) (h : gm_H), K45 r0 x2 x3 x4 h → gV c d 229 (45, [some (.ref r0), none, some (.int x2), some (.int x3), some (.int x4), none, none], [], h) Post) (hK119 : ∀ (r0 : Nat) (x2 : Int32) (x3 : Int32) (x4 : Int32) (x5 : Int32) (x6 : Int32) (h : gm_H), K119 r0 x2 x3 x4 x5 x6 h → gV c d 229 (119, [some (.ref r0), none, some (.int x2), some (.int x3), some (.int x4), some (.int x5), some (.int x6)], [], h) Post) (r0 : Nat) (x2 : Int32) (x3 : Int32) (x4 : Int32) (x5 : Int32) (x6 : Int32) (h : gm_H) (w : w229_163 c d Post K32 K45 K119 r0 x2 x3 x4 x5 x6 h) : gV c d 229 (163, [some (.ref r0), none, some (.int x2), some (.int x3), some (.int x4), some (.int x5), some (.int x6)], [], h) Post := by
  have hk : ∀ pc i, gm_find gk_229 pc = some i → gm_code (gt_T c.1 c.2.1 c.2.2.1) 229 pc = some i := fun _ _ z => z
  unfold w229_163 at w
  unfold gV
  refine gw_pst hk 2 (st' := (119, [some (.ref r0), none, some (.int x2), some (.int x3), some (.int x4), some (.int x5), some (.int (x6 + 1))], [], h)) rfl ?_
  exact hK119 _ _ _ _ _ _ _ w
def wb229_119 (c : gx) (d : Nat) (Post : Option Value → gm_H → Prop) (K32 : Nat → Int32 → gm_H → Prop) (K45 : Nat → Int32 → Int32 → Int32 → gm_H → Prop) (K119 : Nat → Int32 → Int32 → Int32 → Int32 → Int32 → gm_H → Prop) (r0 : Nat) (x2 : Int32) (x3 : Int32) (x4 : Int32) (x5 : Int32) (x6 : Int32) (h : gm_H) : Prop :=
  ∃ x_1 : Int32, gm_fld h r0 10 1 = some (.int x_1) ∧ ((x_1 ≤ x6 → w229_169 c d Post K32 K45 r0 x2 x3 x4 x5 h) ∧ (¬ (x_1 ≤ x6) → ∃ q_3 : Nat, gm_fld h r0 10 0 = some (.ref q_3) ∧ ∃ (n4 : Nat) (f4 : Nat → Int32), gm_get h q_3 = some (.inl (0, n4, .inl f4)) ∧ vp_in 2 n4 ∧ (∃ fs5, gm_get h r0 = some (.inr (10, fs5))) ∧ gE c d 189 [.ref r0, .int 1, .int x4, .int (f4 (2 : Int32).toNatClampNeg)] h (fun v5 h_5 => ∃ x_5 : Int32, v5 = some (.int x_5) ∧ gE c d 155 [.int x_5, .int x6] h_5 (fun v6 h_6 => ∃ x_6 : Int32, v6 = some (.int x_6) ∧ ((x_6 = 0 → w229_163 c d Post K32 K45 K119 r0 x2 x3 x4 x5 x6 h_6) ∧ (¬ (x_6 = 0) → (∃ fs8, gm_get h_6 r0 = some (.inr (10, fs8))) ∧ gE c d 228 [.ref r0, .int x2, .int x6] h_6 (fun v8 h_8 => ∃ x_8 : Int32, v8 = some (.int x_8) ∧ w229_163 c d Post K32 K45 K119 r0 x2 x3 x4 (if x5 < x_8 then x_8 else x5) x6 h_8)))))))
theorem okb229_119 (c : gx) (d : Nat) (Post : Option Value → gm_H → Prop) (K32 : Nat → Int32 → gm_H → Prop) (K45 : Nat → Int32 → Int32 → Int32 → gm_H → Prop) (K119 : Nat → Int32 → Int32 → Int32 → Int32 → Int32 → gm_H → Prop)  (hK32 : ∀ (r0 : Nat) (x2 : Int32) (h : gm_H), K32 r0 x2 h → gV c d 229 (32, [some (.ref r0), none, some (.int x2), none, none, none, none], [], h) Post) (hK45 : ∀ (r0 : Nat) (x2 : Int32) (x3 : Int32) (x4 : Int32) (h : gm_H), K45 r0 x2 x3 x4 h → gV c d 229 (45, [some (.ref r0), none, some (.int x2), some (.int x3), some (.int x4), none, none], [], h) Post) (hK119 : ∀ (r0 : Nat) (x2 : Int32) (x3 : Int32) (x4 : Int32) (x5 : Int32) (x6 : Int32) (h : gm_H), K119 r0 x2 x3 x4 x5 x6 h → gV c d 229 (119, [some (.ref r0), none, some (.int x2), some (.int x3), some (.int x4), some (.int x5), some (.int x6)], [], h) Post) (r0 : Nat) (x2 : Int32) (x3 : Int32) (x4 : Int32) (x5 : Int32) (x6 : Int32) (h : gm_H) (w : wb229_119 c d Post K32 K45 K119 r0 x2 x3 x4 x5 x6 h) : gV c d 229 (119, [some (.ref r0), none, some (.int x2), some (.int x3), some (.int x4), some (.int x5), some (.int x6)], [], h) Post := by
  have hk : ∀ pc i, gm_find gk_229 pc = some i → gm_code (gt_T c.1 c.2.1 c.2.2.1) 229 pc = some i := fun _ _ z => z
  unfold wb229_119 at w
  unfold gV
  refine gw_pst hk 2 (st' := (122, [some (.ref r0), none, some (.int x2), some (.int x3), some (.int x4), some (.int x5), some (.int x6)], [.ref r0, .int x6], h)) rfl ?_
  obtain ⟨x_1, e1, w⟩ := w
  refine gw_gf (hk _ _ rfl) e1 ?_
  refine gw_br (c := x_1 ≤ x6) (a := (169, [some (.ref r0), none, some (.int x2), some (.int x3), some (.int x4), some (.int x5), some (.int x6)], [], h)) (b := (128, [some (.ref r0), none, some (.int x2), some (.int x3), some (.int x4), some (.int x5), some (.int x6)], [], h)) (hk _ _ rfl) rfl ⟨fun z2 => ?_, fun z2 => ?_⟩
  · replace w := w.1 z2
    refine gw_le (L' := [some (.ref r0), none, some (.int x2), some (.int x3), some (.int x4), some (.int x5), none]) (gm_le_k _ (gm_le_k _ (gm_le_k _ (gm_le_k _ (gm_le_k _ (gm_le_k _ (gm_le_n _ gm_le_nil))))))) ?_
    exact ok229_169 c d Post K32 K45 hK32 hK45 _ _ _ _ _ _ w
  · replace w := w.2 z2
    refine gw_pst hk 4 (st' := (133, [some (.ref r0), none, some (.int x2), some (.int x3), some (.int x4), some (.int x5), some (.int x6)], [.ref r0, .int x4, .int 1, .ref r0], h)) rfl ?_
    obtain ⟨q_3, e3, w⟩ := w
    refine gw_gf (hk _ _ rfl) e3 ?_
    refine gw_pst hk 1 (st' := (137, [some (.ref r0), none, some (.int x2), some (.int x3), some (.int x4), some (.int x5), some (.int x6)], [.int 2, .ref q_3, .int x4, .int 1, .ref r0], h)) rfl ?_
    obtain ⟨n4, f4, e4, b4, w⟩ := w
    refine gw_ald (hk _ _ rfl) (Or.inl ⟨rfl, rfl⟩) e4 b4 ?_
    obtain ⟨⟨fs5, e5⟩, w⟩ := w
    refine gw_call (jj := 189) (As := [.ref r0, .int 1, .int x4, .int (f4 (2 : Int32).toNatClampNeg)]) (rest := []) (hk _ _ rfl) (fun _ => rfl) rfl rfl (Nat.le_of_ble_eq_true rfl) (gm_rcv_v rfl e5 rfl) ?_
    refine ge_imp w (fun v5 h_5 w => ?_)
    obtain ⟨x_5, rfl, w⟩ := w
    show gV c d 229 (141, [some (.ref r0), none, some (.int x2), some (.int x3), some (.int x4), some (.int x5), some (.int x6)], [.int x_5], h_5) Post
    refine gw_pst hk 1 (st' := (143, [some (.ref r0), none, some (.int x2), some (.int x3), some (.int x4), some (.int x5), some (.int x6)], [.int x6, .int x_5], h_5)) rfl ?_
    refine gw_call (jj := 155) (As := [.int x_5, .int x6]) (rest := []) (hk _ _ rfl) (fun _ => rfl) rfl rfl (Nat.le_of_ble_eq_true rfl) rfl ?_
    refine ge_imp w (fun v6 h_6 w => ?_)
    obtain ⟨x_6, rfl, w⟩ := w
    show gV c d 229 (146, [some (.ref r0), none, some (.int x2), some (.int x3), some (.int x4), some (.int x5), some (.int x6)], [.int x_6], h_6) Post
    refine gw_br (c := x_6 = 0) (a := (163, [some (.ref r0), none, some (.int x2), some (.int x3), some (.int x4), some (.int x5), some (.int x6)], [], h_6)) (b := (149, [some (.ref r0), none, some (.int x2), some (.int x3), some (.int x4), some (.int x5), some (.int x6)], [], h_6)) (hk _ _ rfl) rfl ⟨fun z7 => ?_, fun z7 => ?_⟩
    · replace w := w.1 z7
      exact ok229_163 c d Post K32 K45 K119 hK32 hK45 hK119 _ _ _ _ _ _ _ w
    · replace w := w.2 z7
      refine gw_pst hk 4 (st' := (155, [some (.ref r0), none, some (.int x2), some (.int x3), some (.int x4), some (.int x5), some (.int x6)], [.int x6, .int x2, .ref r0, .int x5], h_6)) rfl ?_
      obtain ⟨⟨fs8, e8⟩, w⟩ := w
      refine gw_call (jj := 228) (As := [.ref r0, .int x2, .int x6]) (rest := [.int x5]) (hk _ _ rfl) (fun _ => rfl) rfl rfl (Nat.le_of_ble_eq_true rfl) (gm_rcv_v rfl e8 rfl) ?_
      refine ge_imp w (fun v8 h_8 w => ?_)
      obtain ⟨x_8, rfl, w⟩ := w
      show gV c d 229 (158, [some (.ref r0), none, some (.int x2), some (.int x3), some (.int x4), some (.int x5), some (.int x6)], [.int x_8, .int x5], h_8) Post
      refine gw_pst hk 2 (st' := (163, [some (.ref r0), none, some (.int x2), some (.int x3), some (.int x4), some (.int (if x5 < x_8 then x_8 else x5)), some (.int x6)], [], h_8)) rfl ?_
      exact ok229_163 c d Post K32 K45 K119 hK32 hK45 hK119 _ _ _ _ _ _ _ w
def wl229_119 (c : gx) (d : Nat) (Post : Option Value → gm_H → Prop) (K32 : Nat → Int32 → gm_H → Prop) (K45 : Nat → Int32 → Int32 → Int32 → gm_H → Prop) : Nat → Nat → Int32 → Int32 → Int32 → Int32 → Int32 → gm_H → Prop
  | 0 => fun _ _ _ _ _ _ _ => False
  | n + 1 => wb229_119 c d Post K32 K45 (wl229_119 c d Post K32 K45 n)
theorem okl229_119 (c : gx) (d : Nat) (Post : Option Value → gm_H → Prop) (K32 : Nat → Int32 → gm_H → Prop) (K45 : Nat → Int32 → Int32 → Int32 → gm_H → Prop) (hK32 : ∀ (r0 : Nat) (x2 : Int32) (h : gm_H), K32 r0 x2 h → gV c d 229 (32, [some (.ref r0), none, some (.int x2), none, none, none, none], [], h) Post) (hK45 : ∀ (r0 : Nat) (x2 : Int32) (x3 : Int32) (x4 : Int32) (h : gm_H), K45 r0 x2 x3 x4 h → gV c d 229 (45, [some (.ref r0), none, some (.int x2), some (.int x3), some (.int x4), none, none], [], h) Post) : ∀ (n : Nat) (r0 : Nat) (x2 : Int32) (x3 : Int32) (x4 : Int32) (x5 : Int32) (x6 : Int32) (h : gm_H), wl229_119 c d Post K32 K45 n r0 x2 x3 x4 x5 x6 h → gV c d 229 (119, [some (.ref r0), none, some (.int x2), some (.int x3), some (.int x4), some (.int x5), some (.int x6)], [], h) Post
  | 0, _, _, _, _, _, _, _, w => w.elim
  | n + 1, r0, x2, x3, x4, x5, x6, h, w => okb229_119 c d Post K32 K45 (wl229_119 c d Post K32 K45 n) hK32 hK45 (okl229_119 c d Post K32 K45 hK32 hK45 n) r0 x2 x3 x4 x5 x6 h w
def wb229_45 (c : gx) (d : Nat) (Post : Option Value → gm_H → Prop) (K32 : Nat → Int32 → gm_H → Prop) (K45 : Nat → Int32 → Int32 → Int32 → gm_H → Prop) (r0 : Nat) (x2 : Int32) (x3 : Int32) (x4 : Int32) (h : gm_H) : Prop :=
  ∃ x_1 : Int32, gm_fld h r0 10 1 = some (.int x_1) ∧ ((x_1 ≤ x4 → K32 r0 (x2 + (-1)) h) ∧ (¬ (x_1 ≤ x4) → ((x3 = 0 → (∃ fs4, gm_get h r0 = some (.inr (10, fs4))) ∧ gE c d 226 [.ref r0, .int x4] h (fun v4 h_4 => ∃ x_4 : Int32, v4 = some (.int x_4) ∧ ∃ q_5 : Nat, gm_fld h_4 r0 10 0 = some (.ref q_5) ∧ ∃ (n6 : Nat) (f6 : Nat → Int32), gm_get h_4 q_5 = some (.inl (0, n6, .inl f6)) ∧ vp_in 2 n6 ∧ gE c d 185 [.int x_4, .int (f6 (2 : Int32).toNatClampNeg)] h_4 (fun v7 h_7 => ∃ x_7 : Int32, v7 = some (.int x_7) ∧ ((x_7 = 0 → (∃ fs9, gm_get h_7 r0 = some (.inr (10, fs9))) ∧ gE c d 226 [.ref r0, .int x4] h_7 (fun v9 h_9 => ∃ x_9 : Int32, v9 = some (.int x_9) ∧ (∃ fs10, gm_get h_9 r0 = some (.inr (10, fs10))) ∧ gE c d 228 [.ref r0, .int x2, .int x_9] h_9 (fun v10 h_10 => ∃ x_10 : Int32, v10 = some (.int x_10) ∧ w229_94 c d Post K32 K45 r0 x2 x3 x4 x_10 h_10))) ∧ (¬ (x_7 = 0) → w229_94 c d Post K32 K45 r0 x2 x3 x4 0 h_7))))) ∧ (¬ (x3 = 0) → ((x3 = (-1) → (∃ fs12, gm_get h r0 = some (.inr (10, fs12))) ∧ gE c d 228 [.ref r0, .int x2, .int x4] h (fun v12 h_12 => ∃ x_12 : Int32, v12 = some (.int x_12) ∧ w229_169 c d Post K32 K45 r0 x2 x3 x4 x_12 h_12)) ∧ (¬ (x3 = (-1)) → ∃ n, wl229_119 c d Post K32 K45 n r0 x2 x3 x4 0 0 h))))))
theorem okb229_45 (c : gx) (d : Nat) (Post : Option Value → gm_H → Prop) (K32 : Nat → Int32 → gm_H → Prop) (K45 : Nat → Int32 → Int32 → Int32 → gm_H → Prop)  (hK32 : ∀ (r0 : Nat) (x2 : Int32) (h : gm_H), K32 r0 x2 h → gV c d 229 (32, [some (.ref r0), none, some (.int x2), none, none, none, none], [], h) Post) (hK45 : ∀ (r0 : Nat) (x2 : Int32) (x3 : Int32) (x4 : Int32) (h : gm_H), K45 r0 x2 x3 x4 h → gV c d 229 (45, [some (.ref r0), none, some (.int x2), some (.int x3), some (.int x4), none, none], [], h) Post) (r0 : Nat) (x2 : Int32) (x3 : Int32) (x4 : Int32) (h : gm_H) (w : wb229_45 c d Post K32 K45 r0 x2 x3 x4 h) : gV c d 229 (45, [some (.ref r0), none, some (.int x2), some (.int x3), some (.int x4), none, none], [], h) Post := by
  have hk : ∀ pc i, gm_find gk_229 pc = some i → gm_code (gt_T c.1 c.2.1 c.2.2.1) 229 pc = some i := fun _ _ z => z
  unfold wb229_45 at w
  unfold gV
  refine gw_pst hk 2 (st' := (48, [some (.ref r0), none, some (.int x2), some (.int x3), some (.int x4), none, none], [.ref r0, .int x4], h)) rfl ?_
  obtain ⟨x_1, e1, w⟩ := w
  refine gw_gf (hk _ _ rfl) e1 ?_
  refine gw_br (c := x_1 ≤ x4) (a := (189, [some (.ref r0), none, some (.int x2), some (.int x3), some (.int x4), none, none], [], h)) (b := (54, [some (.ref r0), none, some (.int x2), some (.int x3), some (.int x4), none, none], [], h)) (hk _ _ rfl) rfl ⟨fun z2 => ?_, fun z2 => ?_⟩
  · replace w := w.1 z2
    refine gw_pst hk 2 (st' := (32, [some (.ref r0), none, some (.int (x2 + (-1))), some (.int x3), some (.int x4), none, none], [], h)) rfl ?_
    refine gw_le (L' := [some (.ref r0), none, some (.int (x2 + (-1))), none, none, none, none]) (gm_le_k _ (gm_le_k _ (gm_le_k _ (gm_le_n _ (gm_le_n _ (gm_le_k _ (gm_le_k _ gm_le_nil))))))) ?_
    exact hK32 _ _ _ w
  · replace w := w.2 z2
    refine gw_pst hk 3 (st' := (58, [some (.ref r0), none, some (.int x2), some (.int x3), some (.int x4), some (.int 0), none], [.int x3], h)) rfl ?_
    refine gw_br (c := x3 = 0) (a := (61, [some (.ref r0), none, some (.int x2), some (.int x3), some (.int x4), some (.int 0), none], [], h)) (b := (99, [some (.ref r0), none, some (.int x2), some (.int x3), some (.int x4), some (.int 0), none], [], h)) (hk _ _ rfl) rfl ⟨fun z3 => ?_, fun z3 => ?_⟩
    · replace w := w.1 z3
      refine gw_pst hk 2 (st' := (64, [some (.ref r0), none, some (.int x2), some (.int x3), some (.int x4), some (.int 0), none], [.int x4, .ref r0], h)) rfl ?_
      obtain ⟨⟨fs4, e4⟩, w⟩ := w
      refine gw_call (jj := 226) (As := [.ref r0, .int x4]) (rest := []) (hk _ _ rfl) (fun _ => rfl) rfl rfl (Nat.le_of_ble_eq_true rfl) (gm_rcv_v rfl e4 rfl) ?_
      refine ge_imp w (fun v4 h_4 w => ?_)
      obtain ⟨x_4, rfl, w⟩ := w
      show gV c d 229 (67, [some (.ref r0), none, some (.int x2), some (.int x3), some (.int x4), some (.int 0), none], [.int x_4], h_4) Post
      refine gw_pst hk 1 (st' := (68, [some (.ref r0), none, some (.int x2), some (.int x3), some (.int x4), some (.int 0), none], [.ref r0, .int x_4], h_4)) rfl ?_
      obtain ⟨q_5, e5, w⟩ := w
      refine gw_gf (hk _ _ rfl) e5 ?_
      refine gw_pst hk 1 (st' := (72, [some (.ref r0), none, some (.int x2), some (.int x3), some (.int x4), some (.int 0), none], [.int 2, .ref q_5, .int x_4], h_4)) rfl ?_
      obtain ⟨n6, f6, e6, b6, w⟩ := w
      refine gw_ald (hk _ _ rfl) (Or.inl ⟨rfl, rfl⟩) e6 b6 ?_
      refine gw_call (jj := 185) (As := [.int x_4, .int (f6 (2 : Int32).toNatClampNeg)]) (rest := []) (hk _ _ rfl) (fun _ => rfl) rfl rfl (Nat.le_of_ble_eq_true rfl) rfl ?_
      refine ge_imp w (fun v7 h_7 w => ?_)
      obtain ⟨x_7, rfl, w⟩ := w
      show gV c d 229 (76, [some (.ref r0), none, some (.int x2), some (.int x3), some (.int x4), some (.int 0), none], [.int x_7], h_7) Post
      refine gw_br (c := x_7 = 0) (a := (83, [some (.ref r0), none, some (.int x2), some (.int x3), some (.int x4), some (.int 0), none], [], h_7)) (b := (79, [some (.ref r0), none, some (.int x2), some (.int x3), some (.int x4), some (.int 0), none], [], h_7)) (hk _ _ rfl) rfl ⟨fun z8 => ?_, fun z8 => ?_⟩
      · replace w := w.1 z8
        refine gw_pst hk 4 (st' := (88, [some (.ref r0), none, some (.int x2), some (.int x3), some (.int x4), some (.int 0), none], [.int x4, .ref r0, .int x2, .ref r0], h_7)) rfl ?_
        obtain ⟨⟨fs9, e9⟩, w⟩ := w
        refine gw_call (jj := 226) (As := [.ref r0, .int x4]) (rest := [.int x2, .ref r0]) (hk _ _ rfl) (fun _ => rfl) rfl rfl (Nat.le_of_ble_eq_true rfl) (gm_rcv_v rfl e9 rfl) ?_
        refine ge_imp w (fun v9 h_9 w => ?_)
        obtain ⟨x_9, rfl, w⟩ := w
        show gV c d 229 (91, [some (.ref r0), none, some (.int x2), some (.int x3), some (.int x4), some (.int 0), none], [.int x_9, .int x2, .ref r0], h_9) Post
        obtain ⟨⟨fs10, e10⟩, w⟩ := w
        refine gw_call (jj := 228) (As := [.ref r0, .int x2, .int x_9]) (rest := []) (hk _ _ rfl) (fun _ => rfl) rfl rfl (Nat.le_of_ble_eq_true rfl) (gm_rcv_v rfl e10 rfl) ?_
        refine ge_imp w (fun v10 h_10 w => ?_)
        obtain ⟨x_10, rfl, w⟩ := w
        show gV c d 229 (94, [some (.ref r0), none, some (.int x2), some (.int x3), some (.int x4), some (.int 0), none], [.int x_10], h_10) Post
        refine gw_le (L' := [some (.ref r0), none, some (.int x2), some (.int x3), some (.int x4), none, none]) (gm_le_k _ (gm_le_k _ (gm_le_k _ (gm_le_k _ (gm_le_k _ (gm_le_n _ (gm_le_k _ gm_le_nil))))))) ?_
        exact ok229_94 c d Post K32 K45 hK32 hK45 _ _ _ _ _ _ w
      · replace w := w.2 z8
        refine gw_pst hk 2 (st' := (94, [some (.ref r0), none, some (.int x2), some (.int x3), some (.int x4), some (.int 0), none], [.int 0], h_7)) rfl ?_
        refine gw_le (L' := [some (.ref r0), none, some (.int x2), some (.int x3), some (.int x4), none, none]) (gm_le_k _ (gm_le_k _ (gm_le_k _ (gm_le_k _ (gm_le_k _ (gm_le_n _ (gm_le_k _ gm_le_nil))))))) ?_
        exact ok229_94 c d Post K32 K45 hK32 hK45 _ _ _ _ _ _ w
    · replace w := w.2 z3
      refine gw_pst hk 2 (st' := (101, [some (.ref r0), none, some (.int x2), some (.int x3), some (.int x4), some (.int 0), none], [.int (-1), .int x3], h)) rfl ?_
      refine gw_br (c := x3 = (-1)) (a := (104, [some (.ref r0), none, some (.int x2), some (.int x3), some (.int x4), some (.int 0), none], [], h)) (b := (116, [some (.ref r0), none, some (.int x2), some (.int x3), some (.int x4), some (.int 0), none], [], h)) (hk _ _ rfl) rfl ⟨fun z11 => ?_, fun z11 => ?_⟩
      · replace w := w.1 z11
        refine gw_pst hk 3 (st' := (108, [some (.ref r0), none, some (.int x2), some (.int x3), some (.int x4), some (.int 0), none], [.int x4, .int x2, .ref r0], h)) rfl ?_
        obtain ⟨⟨fs12, e12⟩, w⟩ := w
        refine gw_call (jj := 228) (As := [.ref r0, .int x2, .int x4]) (rest := []) (hk _ _ rfl) (fun _ => rfl) rfl rfl (Nat.le_of_ble_eq_true rfl) (gm_rcv_v rfl e12 rfl) ?_
        refine ge_imp w (fun v12 h_12 w => ?_)
        obtain ⟨x_12, rfl, w⟩ := w
        show gV c d 229 (111, [some (.ref r0), none, some (.int x2), some (.int x3), some (.int x4), some (.int 0), none], [.int x_12], h_12) Post
        refine gw_pst hk 2 (st' := (169, [some (.ref r0), none, some (.int x2), some (.int x3), some (.int x4), some (.int x_12), none], [], h_12)) rfl ?_
        exact ok229_169 c d Post K32 K45 hK32 hK45 _ _ _ _ _ _ w
      · replace w := w.2 z11
        refine gw_pst hk 2 (st' := (119, [some (.ref r0), none, some (.int x2), some (.int x3), some (.int x4), some (.int 0), some (.int 0)], [], h)) rfl ?_
        obtain ⟨n, w⟩ := w
        exact okl229_119 c d Post K32 K45 hK32 hK45 n _ _ _ _ _ _ _ w
def wl229_45 (c : gx) (d : Nat) (Post : Option Value → gm_H → Prop) (K32 : Nat → Int32 → gm_H → Prop) : Nat → Nat → Int32 → Int32 → Int32 → gm_H → Prop
  | 0 => fun _ _ _ _ _ => False
  | n + 1 => wb229_45 c d Post K32 (wl229_45 c d Post K32 n)
theorem okl229_45 (c : gx) (d : Nat) (Post : Option Value → gm_H → Prop) (K32 : Nat → Int32 → gm_H → Prop) (hK32 : ∀ (r0 : Nat) (x2 : Int32) (h : gm_H), K32 r0 x2 h → gV c d 229 (32, [some (.ref r0), none, some (.int x2), none, none, none, none], [], h) Post) : ∀ (n : Nat) (r0 : Nat) (x2 : Int32) (x3 : Int32) (x4 : Int32) (h : gm_H), wl229_45 c d Post K32 n r0 x2 x3 x4 h → gV c d 229 (45, [some (.ref r0), none, some (.int x2), some (.int x3), some (.int x4), none, none], [], h) Post
  | 0, _, _, _, _, _, w => w.elim
  | n + 1, r0, x2, x3, x4, h, w => okb229_45 c d Post K32 (wl229_45 c d Post K32 n) hK32 (okl229_45 c d Post K32 hK32 n) r0 x2 x3 x4 h w
def wb229_32 (c : gx) (d : Nat) (Post : Option Value → gm_H → Prop) (K32 : Nat → Int32 → gm_H → Prop) (r0 : Nat) (x2 : Int32) (h : gm_H) : Prop :=
  ((x2 < 0 → Post none h) ∧ (¬ (x2 < 0) → (∃ fs2, gm_get h r0 = some (.inr (10, fs2))) ∧ gE c d 225 [.ref r0, .int x2] h (fun v2 h_2 => ∃ x_2 : Int32, v2 = some (.int x_2) ∧ ∃ n, wl229_45 c d Post K32 n r0 x2 x_2 0 h_2)))
theorem okb229_32 (c : gx) (d : Nat) (Post : Option Value → gm_H → Prop) (K32 : Nat → Int32 → gm_H → Prop)  (hK32 : ∀ (r0 : Nat) (x2 : Int32) (h : gm_H), K32 r0 x2 h → gV c d 229 (32, [some (.ref r0), none, some (.int x2), none, none, none, none], [], h) Post) (r0 : Nat) (x2 : Int32) (h : gm_H) (w : wb229_32 c d Post K32 r0 x2 h) : gV c d 229 (32, [some (.ref r0), none, some (.int x2), none, none, none, none], [], h) Post := by
  have hk : ∀ pc i, gm_find gk_229 pc = some i → gm_code (gt_T c.1 c.2.1 c.2.2.1) 229 pc = some i := fun _ _ z => z
  unfold wb229_32 at w
  unfold gV
  refine gw_pst hk 1 (st' := (33, [some (.ref r0), none, some (.int x2), none, none, none, none], [.int x2], h)) rfl ?_
  refine gw_br (c := x2 < 0) (a := (195, [some (.ref r0), none, some (.int x2), none, none, none, none], [], h)) (b := (36, [some (.ref r0), none, some (.int x2), none, none, none, none], [], h)) (hk _ _ rfl) rfl ⟨fun z1 => ?_, fun z1 => ?_⟩
  · replace w := w.1 z1
    exact gw_ret (hk _ _ rfl) rfl w
  · replace w := w.2 z1
    refine gw_pst hk 2 (st' := (38, [some (.ref r0), none, some (.int x2), none, none, none, none], [.int x2, .ref r0], h)) rfl ?_
    obtain ⟨⟨fs2, e2⟩, w⟩ := w
    refine gw_call (jj := 225) (As := [.ref r0, .int x2]) (rest := []) (hk _ _ rfl) (fun _ => rfl) rfl rfl (Nat.le_of_ble_eq_true rfl) (gm_rcv_v rfl e2 rfl) ?_
    refine ge_imp w (fun v2 h_2 w => ?_)
    obtain ⟨x_2, rfl, w⟩ := w
    show gV c d 229 (41, [some (.ref r0), none, some (.int x2), none, none, none, none], [.int x_2], h_2) Post
    refine gw_pst hk 3 (st' := (45, [some (.ref r0), none, some (.int x2), some (.int x_2), some (.int 0), none, none], [], h_2)) rfl ?_
    obtain ⟨n, w⟩ := w
    exact okl229_45 c d Post K32 hK32 n _ _ _ _ _ w
def wl229_32 (c : gx) (d : Nat) (Post : Option Value → gm_H → Prop) : Nat → Nat → Int32 → gm_H → Prop
  | 0 => fun _ _ _ => False
  | n + 1 => wb229_32 c d Post (wl229_32 c d Post n)
theorem okl229_32 (c : gx) (d : Nat) (Post : Option Value → gm_H → Prop) : ∀ (n : Nat) (r0 : Nat) (x2 : Int32) (h : gm_H), wl229_32 c d Post n r0 x2 h → gV c d 229 (32, [some (.ref r0), none, some (.int x2), none, none, none, none], [], h) Post
  | 0, _, _, _, w => w.elim
  | n + 1, r0, x2, h, w => okb229_32 c d Post (wl229_32 c d Post n) (okl229_32 c d Post n) r0 x2 h w
def wb229_2 (c : gx) (d : Nat) (Post : Option Value → gm_H → Prop) (K2 : Nat → Int32 → Int32 → gm_H → Prop) (r0 : Nat) (x1 : Int32) (x2 : Int32) (h : gm_H) : Prop :=
  ∃ x_1 : Int32, gm_fld h r0 10 1 = some (.int x_1) ∧ ((x_1 ≤ x2 → ∃ n, wl229_32 c d Post n r0 (x1 - 1) h) ∧ (¬ (x_1 ≤ x2) → ∃ q_3 : Nat, gm_fld h r0 10 31 = some (.ref q_3) ∧ (∃ fs4, gm_get h r0 = some (.inr (10, fs4))) ∧ gE c d 227 [.ref r0, .int x1, .int x2] h (fun v4 h_4 => ∃ x_4 : Int32, v4 = some (.int x_4) ∧ ∃ (n5 : Nat) (f5 : Nat → Int32), gm_get h_4 q_3 = some (.inl (0, n5, .inl f5)) ∧ vp_in x_4 n5 ∧ ∀ h_5 : gm_H, h_5 = gm_put h_4 q_3 (.inl (0, n5, .inl (upd f5 (x_4 : Int32).toNatClampNeg (vp_nar .int 0)))) → K2 r0 x1 (x2 + 1) h_5)))
theorem okb229_2 (c : gx) (d : Nat) (Post : Option Value → gm_H → Prop) (K2 : Nat → Int32 → Int32 → gm_H → Prop)  (hK2 : ∀ (r0 : Nat) (x1 : Int32) (x2 : Int32) (h : gm_H), K2 r0 x1 x2 h → gV c d 229 (2, [some (.ref r0), some (.int x1), some (.int x2), none, none, none, none], [], h) Post) (r0 : Nat) (x1 : Int32) (x2 : Int32) (h : gm_H) (w : wb229_2 c d Post K2 r0 x1 x2 h) : gV c d 229 (2, [some (.ref r0), some (.int x1), some (.int x2), none, none, none, none], [], h) Post := by
  have hk : ∀ pc i, gm_find gk_229 pc = some i → gm_code (gt_T c.1 c.2.1 c.2.2.1) 229 pc = some i := fun _ _ z => z
  unfold wb229_2 at w
  unfold gV
  refine gw_pst hk 2 (st' := (4, [some (.ref r0), some (.int x1), some (.int x2), none, none, none, none], [.ref r0, .int x2], h)) rfl ?_
  obtain ⟨x_1, e1, w⟩ := w
  refine gw_gf (hk _ _ rfl) e1 ?_
  refine gw_br (c := x_1 ≤ x2) (a := (28, [some (.ref r0), some (.int x1), some (.int x2), none, none, none, none], [], h)) (b := (10, [some (.ref r0), some (.int x1), some (.int x2), none, none, none, none], [], h)) (hk _ _ rfl) rfl ⟨fun z2 => ?_, fun z2 => ?_⟩
  · replace w := w.1 z2
    refine gw_pst hk 4 (st' := (32, [some (.ref r0), some (.int x1), some (.int (x1 - 1)), none, none, none, none], [], h)) rfl ?_
    refine gw_le (L' := [some (.ref r0), none, some (.int (x1 - 1)), none, none, none, none]) (gm_le_k _ (gm_le_n _ (gm_le_k _ (gm_le_k _ (gm_le_k _ (gm_le_k _ (gm_le_k _ gm_le_nil))))))) ?_
    obtain ⟨n, w⟩ := w
    exact okl229_32 c d Post n _ _ _ w
  · replace w := w.2 z2
    refine gw_pst hk 1 (st' := (11, [some (.ref r0), some (.int x1), some (.int x2), none, none, none, none], [.ref r0], h)) rfl ?_
    obtain ⟨q_3, e3, w⟩ := w
    refine gw_gf (hk _ _ rfl) e3 ?_
    refine gw_pst hk 3 (st' := (17, [some (.ref r0), some (.int x1), some (.int x2), none, none, none, none], [.int x2, .int x1, .ref r0, .ref q_3], h)) rfl ?_
    obtain ⟨⟨fs4, e4⟩, w⟩ := w
    refine gw_call (jj := 227) (As := [.ref r0, .int x1, .int x2]) (rest := [.ref q_3]) (hk _ _ rfl) (fun _ => rfl) rfl rfl (Nat.le_of_ble_eq_true rfl) (gm_rcv_v rfl e4 rfl) ?_
    refine ge_imp w (fun v4 h_4 w => ?_)
    obtain ⟨x_4, rfl, w⟩ := w
    show gV c d 229 (20, [some (.ref r0), some (.int x1), some (.int x2), none, none, none, none], [.int x_4, .ref q_3], h_4) Post
    refine gw_pst hk 1 (st' := (21, [some (.ref r0), some (.int x1), some (.int x2), none, none, none, none], [.int 0, .int x_4, .ref q_3], h_4)) rfl ?_
    obtain ⟨n5, f5, e5, b5, w⟩ := w
    refine gw_ast (hk _ _ rfl) (Or.inl ⟨rfl, rfl, rfl⟩) e5 b5 ?_
    obtain ⟨h_5, eh5⟩ : ∃ z, z = gm_put h_4 q_3 (.inl (0, n5, .inl (upd f5 (x_4 : Int32).toNatClampNeg (vp_nar .int 0)))) := ⟨_, rfl⟩
    rw [← eh5]
    replace w := w h_5 eh5
    refine gw_pst hk 2 (st' := (2, [some (.ref r0), some (.int x1), some (.int (x2 + 1)), none, none, none, none], [], h_5)) rfl ?_
    exact hK2 _ _ _ _ w
def wl229_2 (c : gx) (d : Nat) (Post : Option Value → gm_H → Prop) : Nat → Nat → Int32 → Int32 → gm_H → Prop
  | 0 => fun _ _ _ _ => False
  | n + 1 => wb229_2 c d Post (wl229_2 c d Post n)
theorem okl229_2 (c : gx) (d : Nat) (Post : Option Value → gm_H → Prop) : ∀ (n : Nat) (r0 : Nat) (x1 : Int32) (x2 : Int32) (h : gm_H), wl229_2 c d Post n r0 x1 x2 h → gV c d 229 (2, [some (.ref r0), some (.int x1), some (.int x2), none, none, none, none], [], h) Post
  | 0, _, _, _, _, w => w.elim
  | n + 1, r0, x1, x2, h, w => okb229_2 c d Post (wl229_2 c d Post n) (okl229_2 c d Post n) r0 x1 x2 h w
/-- CommandByTurnsModel.layKeeps(I)V -/
def wm229 (c : gx) (d : Nat) (Post : Option Value → gm_H → Prop) (r0 : Nat) (x1 : Int32) (h : gm_H) : Prop :=
  ∃ n, wl229_2 c d Post n r0 x1 0 h
theorem okm229 (c : gx) (d : Nat) (Post : Option Value → gm_H → Prop) (r0 : Nat) (x1 : Int32) (h : gm_H) (w : wm229 c d Post r0 x1 h) : gE c (d + 1) 229 [.ref r0, .int x1] h Post := by
  have hk : ∀ pc i, gm_find gk_229 pc = some i → gm_code (gt_T c.1 c.2.1 c.2.2.1) 229 pc = some i := fun _ _ z => z
  unfold wm229 at w
  refine ge_of (by decide) (Nat.le_of_ble_eq_true rfl) ?_
  show gV c d 229 (0, [some (.ref r0), some (.int x1), none, none, none, none, none], [], h) Post
  unfold gV
  refine gw_pst hk 2 (st' := (2, [some (.ref r0), some (.int x1), some (.int 0), none, none, none, none], [], h)) rfl ?_
  obtain ⟨n, w⟩ := w
  exact okl229_2 c d Post n _ _ _ _ w
def w230_136 (c : gx) (d : Nat) (Post : Option Value → gm_H → Prop) (K59 : Nat → Int32 → Int32 → Int32 → gm_H → Prop) (K93 : Nat → Int32 → Int32 → Int32 → Int32 → gm_H → Prop) (r0 : Nat) (x2 : Int32) (x3 : Int32) (x4 : Int32) (x6 : Int32) (h : gm_H) : Prop :=
  K93 r0 x2 x3 x4 (x6 + 1) h
theorem ok230_136 (c : gx) (d : Nat) (Post : Option Value → gm_H → Prop) (K59 : Nat → Int32 → Int32 → Int32 → gm_H → Prop) (K93 : Nat → Int32 → Int32 → Int32 → Int32 → gm_H → Prop)  (hK59 : ∀ (r0 : Nat) (x2 : Int32) (x3 : Int32) (x4 : Int32) (h : gm_H), K59 r0 x2 x3 x4 h → gV c d 230 (59, [some (.ref r0), none, some (.int x2), some (.int x3), some (.int x4), none, none], [], h) Post) (hK93 : ∀ (r0 : Nat) (x2 : Int32) (x3 : Int32) (x4 : Int32) (x6 : Int32) (h : gm_H), K93 r0 x2 x3 x4 x6 h → gV c d 230 (93, [some (.ref r0), none, some (.int x2), some (.int x3), some (.int x4), none, some (.int x6)], [], h) Post) (r0 : Nat) (x2 : Int32) (x3 : Int32) (x4 : Int32) (x6 : Int32) (h : gm_H) (w : w230_136 c d Post K59 K93 r0 x2 x3 x4 x6 h) : gV c d 230 (136, [some (.ref r0), none, some (.int x2), some (.int x3), some (.int x4), none, some (.int x6)], [], h) Post := by
  have hk : ∀ pc i, gm_find gk_230 pc = some i → gm_code (gt_T c.1 c.2.1 c.2.2.1) 230 pc = some i := fun _ _ z => z
  unfold w230_136 at w
  unfold gV
  refine gw_pst hk 2 (st' := (93, [some (.ref r0), none, some (.int x2), some (.int x3), some (.int x4), none, some (.int (x6 + 1))], [], h)) rfl ?_
  exact hK93 _ _ _ _ _ _ w
def w230_145 (c : gx) (d : Nat) (Post : Option Value → gm_H → Prop) (K59 : Nat → Int32 → Int32 → Int32 → gm_H → Prop) (r0 : Nat) (x2 : Int32) (x3 : Int32) (x4 : Int32) (h : gm_H) : Prop :=
  (∃ fs1, gm_get h r0 = some (.inr (10, fs1))) ∧ gE c d 157 [.ref r0, .long ((x3 : Int32).toInt64)] h (fun v1 h_1 => v1 = none ∧ K59 r0 x2 x3 (x4 + 1) h_1)
theorem ok230_145 (c : gx) (d : Nat) (Post : Option Value → gm_H → Prop) (K59 : Nat → Int32 → Int32 → Int32 → gm_H → Prop)  (hK59 : ∀ (r0 : Nat) (x2 : Int32) (x3 : Int32) (x4 : Int32) (h : gm_H), K59 r0 x2 x3 x4 h → gV c d 230 (59, [some (.ref r0), none, some (.int x2), some (.int x3), some (.int x4), none, none], [], h) Post) (r0 : Nat) (x2 : Int32) (x3 : Int32) (x4 : Int32) (h : gm_H) (w : w230_145 c d Post K59 r0 x2 x3 x4 h) : gV c d 230 (145, [some (.ref r0), none, some (.int x2), some (.int x3), some (.int x4), none, none], [], h) Post := by
  have hk : ∀ pc i, gm_find gk_230 pc = some i → gm_code (gt_T c.1 c.2.1 c.2.2.1) 230 pc = some i := fun _ _ z => z
  unfold w230_145 at w
  unfold gV
  refine gw_pst hk 3 (st' := (148, [some (.ref r0), none, some (.int x2), some (.int x3), some (.int x4), none, none], [.long ((x3 : Int32).toInt64), .ref r0], h)) rfl ?_
  obtain ⟨⟨fs1, e1⟩, w⟩ := w
  refine gw_call (jj := 157) (As := [.ref r0, .long ((x3 : Int32).toInt64)]) (rest := []) (hk _ _ rfl) (fun _ => rfl) rfl rfl (Nat.le_of_ble_eq_true rfl) (gm_rcv_v rfl e1 rfl) ?_
  refine ge_imp w (fun v1 h_1 w => ?_)
  obtain ⟨rfl, w⟩ := w
  show gV c d 230 (151, [some (.ref r0), none, some (.int x2), some (.int x3), some (.int x4), none, none], [], h_1) Post
  refine gw_pst hk 2 (st' := (59, [some (.ref r0), none, some (.int x2), some (.int x3), some (.int (x4 + 1)), none, none], [], h_1)) rfl ?_
  exact hK59 _ _ _ _ _ w
def wb230_93 (c : gx) (d : Nat) (Post : Option Value → gm_H → Prop) (K59 : Nat → Int32 → Int32 → Int32 → gm_H → Prop) (K93 : Nat → Int32 → Int32 → Int32 → Int32 → gm_H → Prop) (r0 : Nat) (x2 : Int32) (x3 : Int32) (x4 : Int32) (x6 : Int32) (h : gm_H) : Prop :=
  ∃ q_1 : Nat, gm_fld h r0 10 0 = some (.ref q_1) ∧ ∃ (n2 : Nat) (f2 : Nat → Int32), gm_get h q_1 = some (.inl (0, n2, .inl f2)) ∧ vp_in 2 n2 ∧ (∃ fs3, gm_get h r0 = some (.inr (10, fs3))) ∧ gE c d 189 [.ref r0, .int 1, .int x3, .int (f2 (2 : Int32).toNatClampNeg)] h (fun v3 h_3 => ∃ x_3 : Int32, v3 = some (.int x_3) ∧ gE c d 155 [.int x_3, .int x6] h_3 (fun v4 h_4 => ∃ x_4 : Int32, v4 = some (.int x_4) ∧ ((x_4 = 0 → w230_136 c d Post K59 K93 r0 x2 x3 x4 x6 h_4) ∧ (¬ (x_4 = 0) → (∃ fs6, gm_get h_4 r0 = some (.inr (10, fs6))) ∧ gE c d 228 [.ref r0, .int x4, .int x6] h_4 (fun v6 h_6 => ∃ x_6 : Int32, v6 = some (.int x_6) ∧ ∃ q_7 : Nat, gm_fld h_6 r0 10 31 = some (.ref q_7) ∧ (∃ fs8, gm_get h_6 r0 = some (.inr (10, fs8))) ∧ gE c d 227 [.ref r0, .int x4, .int x3] h_6 (fun v8 h_8 => ∃ x_8 : Int32, v8 = some (.int x_8) ∧ ∃ (n9 : Nat) (f9 : Nat → Int32), gm_get h_8 q_7 = some (.inl (0, n9, .inl f9)) ∧ vp_in x_8 n9 ∧ ((x_6 = (f9 (x_8 : Int32).toNatClampNeg) → w230_145 c d Post K59 r0 x2 x6 x4 h_8) ∧ (¬ (x_6 = (f9 (x_8 : Int32).toNatClampNeg)) → w230_136 c d Post K59 K93 r0 x2 x3 x4 x6 h_8))))))))
theorem okb230_93 (c : gx) (d : Nat) (Post : Option Value → gm_H → Prop) (K59 : Nat → Int32 → Int32 → Int32 → gm_H → Prop) (K93 : Nat → Int32 → Int32 → Int32 → Int32 → gm_H → Prop)  (hK59 : ∀ (r0 : Nat) (x2 : Int32) (x3 : Int32) (x4 : Int32) (h : gm_H), K59 r0 x2 x3 x4 h → gV c d 230 (59, [some (.ref r0), none, some (.int x2), some (.int x3), some (.int x4), none, none], [], h) Post) (hK93 : ∀ (r0 : Nat) (x2 : Int32) (x3 : Int32) (x4 : Int32) (x6 : Int32) (h : gm_H), K93 r0 x2 x3 x4 x6 h → gV c d 230 (93, [some (.ref r0), none, some (.int x2), some (.int x3), some (.int x4), none, some (.int x6)], [], h) Post) (r0 : Nat) (x2 : Int32) (x3 : Int32) (x4 : Int32) (x6 : Int32) (h : gm_H) (w : wb230_93 c d Post K59 K93 r0 x2 x3 x4 x6 h) : gV c d 230 (93, [some (.ref r0), none, some (.int x2), some (.int x3), some (.int x4), none, some (.int x6)], [], h) Post := by
  have hk : ∀ pc i, gm_find gk_230 pc = some i → gm_code (gt_T c.1 c.2.1 c.2.2.1) 230 pc = some i := fun _ _ z => z
  unfold wb230_93 at w
  unfold gV
  refine gw_pst hk 4 (st' := (97, [some (.ref r0), none, some (.int x2), some (.int x3), some (.int x4), none, some (.int x6)], [.ref r0, .int x3, .int 1, .ref r0], h)) rfl ?_
  obtain ⟨q_1, e1, w⟩ := w
  refine gw_gf (hk _ _ rfl) e1 ?_
  refine gw_pst hk 1 (st' := (101, [some (.ref r0), none, some (.int x2), some (.int x3), some (.int x4), none, some (.int x6)], [.int 2, .ref q_1, .int x3, .int 1, .ref r0], h)) rfl ?_
  obtain ⟨n2, f2, e2, b2, w⟩ := w
  refine gw_ald (hk _ _ rfl) (Or.inl ⟨rfl, rfl⟩) e2 b2 ?_
  obtain ⟨⟨fs3, e3⟩, w⟩ := w
  refine gw_call (jj := 189) (As := [.ref r0, .int 1, .int x3, .int (f2 (2 : Int32).toNatClampNeg)]) (rest := []) (hk _ _ rfl) (fun _ => rfl) rfl rfl (Nat.le_of_ble_eq_true rfl) (gm_rcv_v rfl e3 rfl) ?_
  refine ge_imp w (fun v3 h_3 w => ?_)
  obtain ⟨x_3, rfl, w⟩ := w
  show gV c d 230 (105, [some (.ref r0), none, some (.int x2), some (.int x3), some (.int x4), none, some (.int x6)], [.int x_3], h_3) Post
  refine gw_pst hk 1 (st' := (107, [some (.ref r0), none, some (.int x2), some (.int x3), some (.int x4), none, some (.int x6)], [.int x6, .int x_3], h_3)) rfl ?_
  refine gw_call (jj := 155) (As := [.int x_3, .int x6]) (rest := []) (hk _ _ rfl) (fun _ => rfl) rfl rfl (Nat.le_of_ble_eq_true rfl) rfl ?_
  refine ge_imp w (fun v4 h_4 w => ?_)
  obtain ⟨x_4, rfl, w⟩ := w
  show gV c d 230 (110, [some (.ref r0), none, some (.int x2), some (.int x3), some (.int x4), none, some (.int x6)], [.int x_4], h_4) Post
  refine gw_br (c := x_4 = 0) (a := (136, [some (.ref r0), none, some (.int x2), some (.int x3), some (.int x4), none, some (.int x6)], [], h_4)) (b := (113, [some (.ref r0), none, some (.int x2), some (.int x3), some (.int x4), none, some (.int x6)], [], h_4)) (hk _ _ rfl) rfl ⟨fun z5 => ?_, fun z5 => ?_⟩
  · replace w := w.1 z5
    exact ok230_136 c d Post K59 K93 hK59 hK93 _ _ _ _ _ _ w
  · replace w := w.2 z5
    refine gw_pst hk 3 (st' := (118, [some (.ref r0), none, some (.int x2), some (.int x3), some (.int x4), none, some (.int x6)], [.int x6, .int x4, .ref r0], h_4)) rfl ?_
    obtain ⟨⟨fs6, e6⟩, w⟩ := w
    refine gw_call (jj := 228) (As := [.ref r0, .int x4, .int x6]) (rest := []) (hk _ _ rfl) (fun _ => rfl) rfl rfl (Nat.le_of_ble_eq_true rfl) (gm_rcv_v rfl e6 rfl) ?_
    refine ge_imp w (fun v6 h_6 w => ?_)
    obtain ⟨x_6, rfl, w⟩ := w
    show gV c d 230 (121, [some (.ref r0), none, some (.int x2), some (.int x3), some (.int x4), none, some (.int x6)], [.int x_6], h_6) Post
    refine gw_pst hk 1 (st' := (122, [some (.ref r0), none, some (.int x2), some (.int x3), some (.int x4), none, some (.int x6)], [.ref r0, .int x_6], h_6)) rfl ?_
    obtain ⟨q_7, e7, w⟩ := w
    refine gw_gf (hk _ _ rfl) e7 ?_
    refine gw_pst hk 3 (st' := (129, [some (.ref r0), none, some (.int x2), some (.int x3), some (.int x4), none, some (.int x6)], [.int x3, .int x4, .ref r0, .ref q_7, .int x_6], h_6)) rfl ?_
    obtain ⟨⟨fs8, e8⟩, w⟩ := w
    refine gw_call (jj := 227) (As := [.ref r0, .int x4, .int x3]) (rest := [.ref q_7, .int x_6]) (hk _ _ rfl) (fun _ => rfl) rfl rfl (Nat.le_of_ble_eq_true rfl) (gm_rcv_v rfl e8 rfl) ?_
    refine ge_imp w (fun v8 h_8 w => ?_)
    obtain ⟨x_8, rfl, w⟩ := w
    show gV c d 230 (132, [some (.ref r0), none, some (.int x2), some (.int x3), some (.int x4), none, some (.int x6)], [.int x_8, .ref q_7, .int x_6], h_8) Post
    obtain ⟨n9, f9, e9, b9, w⟩ := w
    refine gw_ald (hk _ _ rfl) (Or.inl ⟨rfl, rfl⟩) e9 b9 ?_
    refine gw_br (c := x_6 = (f9 (x_8 : Int32).toNatClampNeg)) (a := (142, [some (.ref r0), none, some (.int x2), some (.int x3), some (.int x4), none, some (.int x6)], [], h_8)) (b := (136, [some (.ref r0), none, some (.int x2), some (.int x3), some (.int x4), none, some (.int x6)], [], h_8)) (hk _ _ rfl) rfl ⟨fun z10 => ?_, fun z10 => ?_⟩
    · replace w := w.1 z10
      refine gw_pst hk 2 (st' := (145, [some (.ref r0), none, some (.int x2), some (.int x6), some (.int x4), none, some (.int x6)], [], h_8)) rfl ?_
      refine gw_le (L' := [some (.ref r0), none, some (.int x2), some (.int x6), some (.int x4), none, none]) (gm_le_k _ (gm_le_k _ (gm_le_k _ (gm_le_k _ (gm_le_k _ (gm_le_k _ (gm_le_n _ gm_le_nil))))))) ?_
      exact ok230_145 c d Post K59 hK59 _ _ _ _ _ w
    · replace w := w.2 z10
      exact ok230_136 c d Post K59 K93 hK59 hK93 _ _ _ _ _ _ w
def wl230_93 (c : gx) (d : Nat) (Post : Option Value → gm_H → Prop) (K59 : Nat → Int32 → Int32 → Int32 → gm_H → Prop) : Nat → Nat → Int32 → Int32 → Int32 → Int32 → gm_H → Prop
  | 0 => fun _ _ _ _ _ _ => False
  | n + 1 => wb230_93 c d Post K59 (wl230_93 c d Post K59 n)
theorem okl230_93 (c : gx) (d : Nat) (Post : Option Value → gm_H → Prop) (K59 : Nat → Int32 → Int32 → Int32 → gm_H → Prop) (hK59 : ∀ (r0 : Nat) (x2 : Int32) (x3 : Int32) (x4 : Int32) (h : gm_H), K59 r0 x2 x3 x4 h → gV c d 230 (59, [some (.ref r0), none, some (.int x2), some (.int x3), some (.int x4), none, none], [], h) Post) : ∀ (n : Nat) (r0 : Nat) (x2 : Int32) (x3 : Int32) (x4 : Int32) (x6 : Int32) (h : gm_H), wl230_93 c d Post K59 n r0 x2 x3 x4 x6 h → gV c d 230 (93, [some (.ref r0), none, some (.int x2), some (.int x3), some (.int x4), none, some (.int x6)], [], h) Post
  | 0, _, _, _, _, _, _, w => w.elim
  | n + 1, r0, x2, x3, x4, x6, h, w => okb230_93 c d Post K59 (wl230_93 c d Post K59 n) hK59 (okl230_93 c d Post K59 hK59 n) r0 x2 x3 x4 x6 h w
def w230_84 (c : gx) (d : Nat) (Post : Option Value → gm_H → Prop) (K59 : Nat → Int32 → Int32 → Int32 → gm_H → Prop) (r0 : Nat) (x2 : Int32) (x3 : Int32) (x4 : Int32) (x5 : Int32) (h : gm_H) : Prop :=
  ((x5 = 1 → ∃ n, wl230_93 c d Post K59 n r0 x2 x3 x4 0 h) ∧ (¬ (x5 = 1) → w230_145 c d Post K59 r0 x2 x3 x4 h))
theorem ok230_84 (c : gx) (d : Nat) (Post : Option Value → gm_H → Prop) (K59 : Nat → Int32 → Int32 → Int32 → gm_H → Prop)  (hK59 : ∀ (r0 : Nat) (x2 : Int32) (x3 : Int32) (x4 : Int32) (h : gm_H), K59 r0 x2 x3 x4 h → gV c d 230 (59, [some (.ref r0), none, some (.int x2), some (.int x3), some (.int x4), none, none], [], h) Post) (r0 : Nat) (x2 : Int32) (x3 : Int32) (x4 : Int32) (x5 : Int32) (h : gm_H) (w : w230_84 c d Post K59 r0 x2 x3 x4 x5 h) : gV c d 230 (84, [some (.ref r0), none, some (.int x2), some (.int x3), some (.int x4), some (.int x5), none], [], h) Post := by
  have hk : ∀ pc i, gm_find gk_230 pc = some i → gm_code (gt_T c.1 c.2.1 c.2.2.1) 230 pc = some i := fun _ _ z => z
  unfold w230_84 at w
  unfold gV
  refine gw_pst hk 2 (st' := (87, [some (.ref r0), none, some (.int x2), some (.int x3), some (.int x4), some (.int x5), none], [.int 1, .int x5], h)) rfl ?_
  refine gw_br (c := x5 = 1) (a := (90, [some (.ref r0), none, some (.int x2), some (.int x3), some (.int x4), some (.int x5), none], [], h)) (b := (145, [some (.ref r0), none, some (.int x2), some (.int x3), some (.int x4), some (.int x5), none], [], h)) (hk _ _ rfl) rfl ⟨fun z1 => ?_, fun z1 => ?_⟩
  · replace w := w.1 z1
    refine gw_pst hk 2 (st' := (93, [some (.ref r0), none, some (.int x2), some (.int x3), some (.int x4), some (.int x5), some (.int 0)], [], h)) rfl ?_
    refine gw_le (L' := [some (.ref r0), none, some (.int x2), some (.int x3), some (.int x4), none, some (.int 0)]) (gm_le_k _ (gm_le_k _ (gm_le_k _ (gm_le_k _ (gm_le_k _ (gm_le_n _ (gm_le_k _ gm_le_nil))))))) ?_
    obtain ⟨n, w⟩ := w
    exact okl230_93 c d Post K59 hK59 n _ _ _ _ _ _ w
  · replace w := w.2 z1
    refine gw_le (L' := [some (.ref r0), none, some (.int x2), some (.int x3), some (.int x4), none, none]) (gm_le_k _ (gm_le_k _ (gm_le_k _ (gm_le_k _ (gm_le_k _ (gm_le_n _ (gm_le_k _ gm_le_nil))))))) ?_
    exact ok230_145 c d Post K59 hK59 _ _ _ _ _ w
def wb230_59 (c : gx) (d : Nat) (Post : Option Value → gm_H → Prop) (K59 : Nat → Int32 → Int32 → Int32 → gm_H → Prop) (r0 : Nat) (x2 : Int32) (x3 : Int32) (x4 : Int32) (h : gm_H) : Prop :=
  ((x2 ≤ x4 → Post (some (.int x2)) h) ∧ (¬ (x2 ≤ x4) → (∃ fs2, gm_get h r0 = some (.inr (10, fs2))) ∧ gE c d 225 [.ref r0, .int x4] h (fun v2 h_2 => ∃ x_2 : Int32, v2 = some (.int x_2) ∧ ((x_2 = 0 → (∃ fs4, gm_get h_2 r0 = some (.inr (10, fs4))) ∧ gE c d 226 [.ref r0, .int x3] h_2 (fun v4 h_4 => ∃ x_4 : Int32, v4 = some (.int x_4) ∧ w230_84 c d Post K59 r0 x2 x_4 x4 x_2 h_4)) ∧ (¬ (x_2 = 0) → w230_84 c d Post K59 r0 x2 x3 x4 x_2 h_2)))))
theorem okb230_59 (c : gx) (d : Nat) (Post : Option Value → gm_H → Prop) (K59 : Nat → Int32 → Int32 → Int32 → gm_H → Prop)  (hK59 : ∀ (r0 : Nat) (x2 : Int32) (x3 : Int32) (x4 : Int32) (h : gm_H), K59 r0 x2 x3 x4 h → gV c d 230 (59, [some (.ref r0), none, some (.int x2), some (.int x3), some (.int x4), none, none], [], h) Post) (r0 : Nat) (x2 : Int32) (x3 : Int32) (x4 : Int32) (h : gm_H) (w : wb230_59 c d Post K59 r0 x2 x3 x4 h) : gV c d 230 (59, [some (.ref r0), none, some (.int x2), some (.int x3), some (.int x4), none, none], [], h) Post := by
  have hk : ∀ pc i, gm_find gk_230 pc = some i → gm_code (gt_T c.1 c.2.1 c.2.2.1) 230 pc = some i := fun _ _ z => z
  unfold wb230_59 at w
  unfold gV
  refine gw_pst hk 2 (st' := (62, [some (.ref r0), none, some (.int x2), some (.int x3), some (.int x4), none, none], [.int x2, .int x4], h)) rfl ?_
  refine gw_br (c := x2 ≤ x4) (a := (157, [some (.ref r0), none, some (.int x2), some (.int x3), some (.int x4), none, none], [], h)) (b := (65, [some (.ref r0), none, some (.int x2), some (.int x3), some (.int x4), none, none], [], h)) (hk _ _ rfl) rfl ⟨fun z1 => ?_, fun z1 => ?_⟩
  · replace w := w.1 z1
    refine gw_pst hk 1 (st' := (158, [some (.ref r0), none, some (.int x2), some (.int x3), some (.int x4), none, none], [.int x2], h)) rfl ?_
    exact gw_ret (hk _ _ rfl) rfl w
  · replace w := w.2 z1
    refine gw_pst hk 2 (st' := (68, [some (.ref r0), none, some (.int x2), some (.int x3), some (.int x4), none, none], [.int x4, .ref r0], h)) rfl ?_
    obtain ⟨⟨fs2, e2⟩, w⟩ := w
    refine gw_call (jj := 225) (As := [.ref r0, .int x4]) (rest := []) (hk _ _ rfl) (fun _ => rfl) rfl rfl (Nat.le_of_ble_eq_true rfl) (gm_rcv_v rfl e2 rfl) ?_
    refine ge_imp w (fun v2 h_2 w => ?_)
    obtain ⟨x_2, rfl, w⟩ := w
    show gV c d 230 (71, [some (.ref r0), none, some (.int x2), some (.int x3), some (.int x4), none, none], [.int x_2], h_2) Post
    refine gw_pst hk 2 (st' := (75, [some (.ref r0), none, some (.int x2), some (.int x3), some (.int x4), some (.int x_2), none], [.int x_2], h_2)) rfl ?_
    refine gw_br (c := x_2 = 0) (a := (78, [some (.ref r0), none, some (.int x2), some (.int x3), some (.int x4), some (.int x_2), none], [], h_2)) (b := (84, [some (.ref r0), none, some (.int x2), some (.int x3), some (.int x4), some (.int x_2), none], [], h_2)) (hk _ _ rfl) rfl ⟨fun z3 => ?_, fun z3 => ?_⟩
    · replace w := w.1 z3
      refine gw_pst hk 2 (st' := (80, [some (.ref r0), none, some (.int x2), some (.int x3), some (.int x4), some (.int x_2), none], [.int x3, .ref r0], h_2)) rfl ?_
      obtain ⟨⟨fs4, e4⟩, w⟩ := w
      refine gw_call (jj := 226) (As := [.ref r0, .int x3]) (rest := []) (hk _ _ rfl) (fun _ => rfl) rfl rfl (Nat.le_of_ble_eq_true rfl) (gm_rcv_v rfl e4 rfl) ?_
      refine ge_imp w (fun v4 h_4 w => ?_)
      obtain ⟨x_4, rfl, w⟩ := w
      show gV c d 230 (83, [some (.ref r0), none, some (.int x2), some (.int x3), some (.int x4), some (.int x_2), none], [.int x_4], h_4) Post
      refine gw_pst hk 1 (st' := (84, [some (.ref r0), none, some (.int x2), some (.int x_4), some (.int x4), some (.int x_2), none], [], h_4)) rfl ?_
      exact ok230_84 c d Post K59 hK59 _ _ _ _ _ _ w
    · replace w := w.2 z3
      exact ok230_84 c d Post K59 hK59 _ _ _ _ _ _ w
def wl230_59 (c : gx) (d : Nat) (Post : Option Value → gm_H → Prop) : Nat → Nat → Int32 → Int32 → Int32 → gm_H → Prop
  | 0 => fun _ _ _ _ _ => False
  | n + 1 => wb230_59 c d Post (wl230_59 c d Post n)
theorem okl230_59 (c : gx) (d : Nat) (Post : Option Value → gm_H → Prop) : ∀ (n : Nat) (r0 : Nat) (x2 : Int32) (x3 : Int32) (x4 : Int32) (h : gm_H), wl230_59 c d Post n r0 x2 x3 x4 h → gV c d 230 (59, [some (.ref r0), none, some (.int x2), some (.int x3), some (.int x4), none, none], [], h) Post
  | 0, _, _, _, _, _, w => w.elim
  | n + 1, r0, x2, x3, x4, h, w => okb230_59 c d Post (wl230_59 c d Post n) (okl230_59 c d Post n) r0 x2 x3 x4 h w
/-- CommandByTurnsModel.avoids(I)I -/
def wm230 (c : gx) (d : Nat) (Post : Option Value → gm_H → Prop) (r0 : Nat) (x1 : Int32) (h : gm_H) : Prop :=
  ∃ fs1 : List Value, gm_get h r0 = some (.inr (10, fs1)) ∧ 13 < fs1.length ∧ ∀ h_1 : gm_H, h_1 = gm_put h r0 (.inr (10, fs1.set 13 (.int 0))) → gE c d 154 [.int x1, .int 1, .int 20] h_1 (fun v2 h_2 => ∃ x_2 : Int32, v2 = some (.int x_2) ∧ ((x_2 = 0 → Post (some (.int (-1))) h_2) ∧ (¬ (x_2 = 0) → ∃ fs4 : List Value, gm_get h_2 r0 = some (.inr (10, fs4)) ∧ 32 < fs4.length ∧ ∀ h_4 : gm_H, h_4 = gm_put h_2 r0 (.inr (10, fs4.set 32 (.int 0))) → (∃ fs5, gm_get h_4 r0 = some (.inr (10, fs5))) ∧ gE c d 229 [.ref r0, .int x1] h_4 (fun v5 h_5 => v5 = none ∧ ∃ q_6 : Nat, gm_fld h_5 r0 10 31 = some (.ref q_6) ∧ ∃ q_7 : Nat, gm_fld h_5 r0 10 0 = some (.ref q_7) ∧ ∃ (n8 : Nat) (f8 : Nat → Int32), gm_get h_5 q_7 = some (.inl (0, n8, .inl f8)) ∧ vp_in 1 n8 ∧ (∃ fs9, gm_get h_5 r0 = some (.inr (10, fs9))) ∧ gE c d 227 [.ref r0, .int 0, .int (f8 (1 : Int32).toNatClampNeg)] h_5 (fun v9 h_9 => ∃ x_9 : Int32, v9 = some (.int x_9) ∧ ∃ (n10 : Nat) (f10 : Nat → Int32), gm_get h_9 q_6 = some (.inl (0, n10, .inl f10)) ∧ vp_in x_9 n10 ∧ ∃ q_11 : Nat, gm_fld h_9 r0 10 0 = some (.ref q_11) ∧ ∃ (n12 : Nat) (f12 : Nat → Int32), gm_get h_9 q_11 = some (.inl (0, n12, .inl f12)) ∧ vp_in 1 n12 ∧ ∃ fs13 : List Value, gm_get h_9 r0 = some (.inr (10, fs13)) ∧ 12 < fs13.length ∧ ∀ h_13 : gm_H, h_13 = gm_put h_9 r0 (.inr (10, fs13.set 12 (.int 0))) → ∃ n, wl230_59 c d Post n r0 (f10 (x_9 : Int32).toNatClampNeg) (f12 (1 : Int32).toNatClampNeg) 0 h_13)))))
theorem okm230 (c : gx) (d : Nat) (Post : Option Value → gm_H → Prop) (r0 : Nat) (x1 : Int32) (h : gm_H) (w : wm230 c d Post r0 x1 h) : gE c (d + 1) 230 [.ref r0, .int x1] h Post := by
  have hk : ∀ pc i, gm_find gk_230 pc = some i → gm_code (gt_T c.1 c.2.1 c.2.2.1) 230 pc = some i := fun _ _ z => z
  unfold wm230 at w
  refine ge_of (by decide) (Nat.le_of_ble_eq_true rfl) ?_
  show gV c d 230 (0, [some (.ref r0), some (.int x1), none, none, none, none, none], [], h) Post
  unfold gV
  refine gw_pst hk 2 (st' := (2, [some (.ref r0), some (.int x1), none, none, none, none, none], [.int 0, .ref r0], h)) rfl ?_
  obtain ⟨fs1, e1, l1, w⟩ := w
  refine gw_pf (hk _ _ rfl) e1 l1 rfl ?_
  obtain ⟨h_1, eh1⟩ : ∃ z, z = gm_put h r0 (.inr (10, fs1.set 13 (.int 0))) := ⟨_, rfl⟩
  rw [← eh1]
  replace w := w h_1 eh1
  refine gw_pst hk 3 (st' := (9, [some (.ref r0), some (.int x1), none, none, none, none, none], [.int 20, .int 1, .int x1], h_1)) rfl ?_
  refine gw_call (jj := 154) (As := [.int x1, .int 1, .int 20]) (rest := []) (hk _ _ rfl) (fun _ => rfl) rfl rfl (Nat.le_of_ble_eq_true rfl) rfl ?_
  refine ge_imp w (fun v2 h_2 w => ?_)
  obtain ⟨x_2, rfl, w⟩ := w
  show gV c d 230 (12, [some (.ref r0), some (.int x1), none, none, none, none, none], [.int x_2], h_2) Post
  refine gw_br (c := x_2 = 0) (a := (15, [some (.ref r0), some (.int x1), none, none, none, none, none], [], h_2)) (b := (17, [some (.ref r0), some (.int x1), none, none, none, none, none], [], h_2)) (hk _ _ rfl) rfl ⟨fun z3 => ?_, fun z3 => ?_⟩
  · replace w := w.1 z3
    refine gw_pst hk 1 (st' := (16, [some (.ref r0), some (.int x1), none, none, none, none, none], [.int (-1)], h_2)) rfl ?_
    exact gw_ret (hk _ _ rfl) rfl w
  · replace w := w.2 z3
    refine gw_pst hk 2 (st' := (19, [some (.ref r0), some (.int x1), none, none, none, none, none], [.int 0, .ref r0], h_2)) rfl ?_
    obtain ⟨fs4, e4, l4, w⟩ := w
    refine gw_pf (hk _ _ rfl) e4 l4 rfl ?_
    obtain ⟨h_4, eh4⟩ : ∃ z, z = gm_put h_2 r0 (.inr (10, fs4.set 32 (.int 0))) := ⟨_, rfl⟩
    rw [← eh4]
    replace w := w h_4 eh4
    refine gw_pst hk 2 (st' := (24, [some (.ref r0), some (.int x1), none, none, none, none, none], [.int x1, .ref r0], h_4)) rfl ?_
    obtain ⟨⟨fs5, e5⟩, w⟩ := w
    refine gw_call (jj := 229) (As := [.ref r0, .int x1]) (rest := []) (hk _ _ rfl) (fun _ => rfl) rfl rfl (Nat.le_of_ble_eq_true rfl) (gm_rcv_v rfl e5 rfl) ?_
    refine ge_imp w (fun v5 h_5 w => ?_)
    obtain ⟨rfl, w⟩ := w
    show gV c d 230 (27, [some (.ref r0), some (.int x1), none, none, none, none, none], [], h_5) Post
    refine gw_pst hk 1 (st' := (28, [some (.ref r0), some (.int x1), none, none, none, none, none], [.ref r0], h_5)) rfl ?_
    obtain ⟨q_6, e6, w⟩ := w
    refine gw_gf (hk _ _ rfl) e6 ?_
    refine gw_pst hk 3 (st' := (34, [some (.ref r0), some (.int x1), none, none, none, none, none], [.ref r0, .int 0, .ref r0, .ref q_6], h_5)) rfl ?_
    obtain ⟨q_7, e7, w⟩ := w
    refine gw_gf (hk _ _ rfl) e7 ?_
    refine gw_pst hk 1 (st' := (38, [some (.ref r0), some (.int x1), none, none, none, none, none], [.int 1, .ref q_7, .int 0, .ref r0, .ref q_6], h_5)) rfl ?_
    obtain ⟨n8, f8, e8, b8, w⟩ := w
    refine gw_ald (hk _ _ rfl) (Or.inl ⟨rfl, rfl⟩) e8 b8 ?_
    obtain ⟨⟨fs9, e9⟩, w⟩ := w
    refine gw_call (jj := 227) (As := [.ref r0, .int 0, .int (f8 (1 : Int32).toNatClampNeg)]) (rest := [.ref q_6]) (hk _ _ rfl) (fun _ => rfl) rfl rfl (Nat.le_of_ble_eq_true rfl) (gm_rcv_v rfl e9 rfl) ?_
    refine ge_imp w (fun v9 h_9 w => ?_)
    obtain ⟨x_9, rfl, w⟩ := w
    show gV c d 230 (42, [some (.ref r0), some (.int x1), none, none, none, none, none], [.int x_9, .ref q_6], h_9) Post
    obtain ⟨n10, f10, e10, b10, w⟩ := w
    refine gw_ald (hk _ _ rfl) (Or.inl ⟨rfl, rfl⟩) e10 b10 ?_
    refine gw_pst hk 2 (st' := (45, [some (.ref r0), some (.int x1), some (.int (f10 (x_9 : Int32).toNatClampNeg)), none, none, none, none], [.ref r0], h_9)) rfl ?_
    obtain ⟨q_11, e11, w⟩ := w
    refine gw_gf (hk _ _ rfl) e11 ?_
    refine gw_pst hk 1 (st' := (49, [some (.ref r0), some (.int x1), some (.int (f10 (x_9 : Int32).toNatClampNeg)), none, none, none, none], [.int 1, .ref q_11], h_9)) rfl ?_
    obtain ⟨n12, f12, e12, b12, w⟩ := w
    refine gw_ald (hk _ _ rfl) (Or.inl ⟨rfl, rfl⟩) e12 b12 ?_
    refine gw_pst hk 3 (st' := (53, [some (.ref r0), some (.int x1), some (.int (f10 (x_9 : Int32).toNatClampNeg)), some (.int (f12 (1 : Int32).toNatClampNeg)), none, none, none], [.int 0, .ref r0], h_9)) rfl ?_
    obtain ⟨fs13, e13, l13, w⟩ := w
    refine gw_pf (hk _ _ rfl) e13 l13 rfl ?_
    obtain ⟨h_13, eh13⟩ : ∃ z, z = gm_put h_9 r0 (.inr (10, fs13.set 12 (.int 0))) := ⟨_, rfl⟩
    rw [← eh13]
    replace w := w h_13 eh13
    refine gw_pst hk 2 (st' := (59, [some (.ref r0), some (.int x1), some (.int (f10 (x_9 : Int32).toNatClampNeg)), some (.int (f12 (1 : Int32).toNatClampNeg)), some (.int 0), none, none], [], h_13)) rfl ?_
    refine gw_le (L' := [some (.ref r0), none, some (.int (f10 (x_9 : Int32).toNatClampNeg)), some (.int (f12 (1 : Int32).toNatClampNeg)), some (.int 0), none, none]) (gm_le_k _ (gm_le_n _ (gm_le_k _ (gm_le_k _ (gm_le_k _ (gm_le_k _ (gm_le_k _ gm_le_nil))))))) ?_
    obtain ⟨n, w⟩ := w
    exact okl230_59 c d Post n _ _ _ _ _ w
