/-! What must hold for a run to end with Post: by program (wip/whole/gen_wp.py). -/
def wb180_47 (c : gx) (d : Nat) (Post : Option Value → gm_H → Prop) (K47 : Nat → Int32 → Int32 → gm_H → Prop) (r0 : Nat) (x1 : Int32) (x2 : Int32) (h : gm_H) : Prop :=
  ((x1 ≤ x2 → ∃ fs2 : List Value, gm_get h r0 = some (.inr (10, fs2)) ∧ 22 < fs2.length ∧ ∀ h_2 : gm_H, h_2 = gm_put h r0 (.inr (10, fs2.set 22 (.int x1))) → Post (some (.int 0)) h_2) ∧ (¬ (x1 ≤ x2) → ∃ q_3 : Nat, gm_fld h r0 10 21 = some (.ref q_3) ∧ ∃ q_4 : Nat, gm_fld h r0 10 9 = some (.ref q_4) ∧ ∃ (n5 : Nat) (f5 : Nat → Int32), gm_get h q_4 = some (.inl (3, n5, .inl f5)) ∧ vp_in x2 n5 ∧ ∃ (n6 : Nat) (f6 : Nat → Int32), gm_get h q_3 = some (.inl (3, n6, .inl f6)) ∧ vp_in x2 n6 ∧ ∀ h_6 : gm_H, h_6 = gm_put h q_3 (.inl (3, n6, .inl (upd f6 (x2 : Int32).toNatClampNeg (vp_nar .byte (f5 (x2 : Int32).toNatClampNeg))))) → K47 r0 x1 (x2 + 1) h_6))
theorem okb180_47 (c : gx) (d : Nat) (Post : Option Value → gm_H → Prop) (K47 : Nat → Int32 → Int32 → gm_H → Prop)  (hK47 : ∀ (r0 : Nat) (x1 : Int32) (x2 : Int32) (h : gm_H), K47 r0 x1 x2 h → gV c d 180 (47, [some (.ref r0), some (.int x1), some (.int x2)], [], h) Post) (r0 : Nat) (x1 : Int32) (x2 : Int32) (h : gm_H) (w : wb180_47 c d Post K47 r0 x1 x2 h) : gV c d 180 (47, [some (.ref r0), some (.int x1), some (.int x2)], [], h) Post := by
  have hk : ∀ pc i, gm_find gk_180 pc = some i → gm_code (gt_T c.1 c.2.1 c.2.2.1) 180 pc = some i := fun _ _ z => z
  unfold wb180_47 at w
  unfold gV
  refine gw_pst hk 2 (st' := (49, [some (.ref r0), some (.int x1), some (.int x2)], [.int x1, .int x2], h)) rfl ?_
  refine gw_br (c := x1 ≤ x2) (a := (70, [some (.ref r0), some (.int x1), some (.int x2)], [], h)) (b := (52, [some (.ref r0), some (.int x1), some (.int x2)], [], h)) (hk _ _ rfl) rfl ⟨fun z1 => ?_, fun z1 => ?_⟩
  · replace w := w.1 z1
    refine gw_pst hk 2 (st' := (72, [some (.ref r0), some (.int x1), some (.int x2)], [.int x1, .ref r0], h)) rfl ?_
    obtain ⟨fs2, e2, l2, w⟩ := w
    refine gw_pf (hk _ _ rfl) e2 l2 rfl ?_
    obtain ⟨h_2, eh2⟩ : ∃ z, z = gm_put h r0 (.inr (10, fs2.set 22 (.int x1))) := ⟨_, rfl⟩
    rw [← eh2]
    replace w := w h_2 eh2
    refine gw_pst hk 1 (st' := (76, [some (.ref r0), some (.int x1), some (.int x2)], [.int 0], h_2)) rfl ?_
    exact gw_ret (hk _ _ rfl) rfl w
  · replace w := w.2 z1
    refine gw_pst hk 1 (st' := (53, [some (.ref r0), some (.int x1), some (.int x2)], [.ref r0], h)) rfl ?_
    obtain ⟨q_3, e3, w⟩ := w
    refine gw_gf (hk _ _ rfl) e3 ?_
    refine gw_pst hk 2 (st' := (58, [some (.ref r0), some (.int x1), some (.int x2)], [.ref r0, .int x2, .ref q_3], h)) rfl ?_
    obtain ⟨q_4, e4, w⟩ := w
    refine gw_gf (hk _ _ rfl) e4 ?_
    refine gw_pst hk 1 (st' := (62, [some (.ref r0), some (.int x1), some (.int x2)], [.int x2, .ref q_4, .int x2, .ref q_3], h)) rfl ?_
    obtain ⟨n5, f5, e5, b5, w⟩ := w
    refine gw_ald (hk _ _ rfl) (Or.inr (Or.inr ⟨rfl, rfl, Or.inl rfl⟩)) e5 b5 ?_
    obtain ⟨n6, f6, e6, b6, w⟩ := w
    refine gw_ast (hk _ _ rfl) (Or.inr (Or.inr (Or.inl ⟨rfl, rfl, rfl, rfl⟩))) e6 b6 ?_
    obtain ⟨h_6, eh6⟩ : ∃ z, z = gm_put h q_3 (.inl (3, n6, .inl (upd f6 (x2 : Int32).toNatClampNeg (vp_nar .byte (f5 (x2 : Int32).toNatClampNeg))))) := ⟨_, rfl⟩
    rw [← eh6]
    replace w := w h_6 eh6
    refine gw_pst hk 2 (st' := (47, [some (.ref r0), some (.int x1), some (.int (x2 + 1))], [], h_6)) rfl ?_
    exact hK47 _ _ _ _ w
def wl180_47 (c : gx) (d : Nat) (Post : Option Value → gm_H → Prop) : Nat → Nat → Int32 → Int32 → gm_H → Prop
  | 0 => fun _ _ _ _ => False
  | n + 1 => wb180_47 c d Post (wl180_47 c d Post n)
theorem okl180_47 (c : gx) (d : Nat) (Post : Option Value → gm_H → Prop) : ∀ (n : Nat) (r0 : Nat) (x1 : Int32) (x2 : Int32) (h : gm_H), wl180_47 c d Post n r0 x1 x2 h → gV c d 180 (47, [some (.ref r0), some (.int x1), some (.int x2)], [], h) Post
  | 0, _, _, _, _, w => w.elim
  | n + 1, r0, x1, x2, h, w => okb180_47 c d Post (wl180_47 c d Post n) (okl180_47 c d Post n) r0 x1 x2 h w
def w180_31 (c : gx) (d : Nat) (Post : Option Value → gm_H → Prop) (r0 : Nat) (x1 : Int32) (h : gm_H) : Prop :=
  (∃ fs1, gm_get h r0 = some (.inr (10, fs1))) ∧ gE c d 171 [.ref r0] h (fun v1 h_1 => ∃ x_1 : Int32, v1 = some (.int x_1) ∧ ((x_1 = 0 → ∃ x_3 : Int32, gm_fld h_1 r0 10 18 = some (.int x_3) ∧ Post (some (.int ((-1) - x_3))) h_1) ∧ (¬ (x_1 = 0) → ∃ n, wl180_47 c d Post n r0 x1 0 h_1)))
theorem ok180_31 (c : gx) (d : Nat) (Post : Option Value → gm_H → Prop)  (r0 : Nat) (x1 : Int32) (h : gm_H) (w : w180_31 c d Post r0 x1 h) : gV c d 180 (31, [some (.ref r0), some (.int x1), none], [], h) Post := by
  have hk : ∀ pc i, gm_find gk_180 pc = some i → gm_code (gt_T c.1 c.2.1 c.2.2.1) 180 pc = some i := fun _ _ z => z
  unfold w180_31 at w
  unfold gV
  refine gw_pst hk 1 (st' := (32, [some (.ref r0), some (.int x1), none], [.ref r0], h)) rfl ?_
  obtain ⟨⟨fs1, e1⟩, w⟩ := w
  refine gw_call (jj := 171) (As := [.ref r0]) (rest := []) (hk _ _ rfl) (fun _ => rfl) rfl rfl (Nat.le_of_ble_eq_true rfl) (gm_rcv_v rfl e1 rfl) ?_
  refine ge_imp w (fun v1 h_1 w => ?_)
  obtain ⟨x_1, rfl, w⟩ := w
  show gV c d 180 (35, [some (.ref r0), some (.int x1), none], [.int x_1], h_1) Post
  refine gw_br (c := x_1 = 0) (a := (38, [some (.ref r0), some (.int x1), none], [], h_1)) (b := (45, [some (.ref r0), some (.int x1), none], [], h_1)) (hk _ _ rfl) rfl ⟨fun z2 => ?_, fun z2 => ?_⟩
  · replace w := w.1 z2
    refine gw_pst hk 2 (st' := (40, [some (.ref r0), some (.int x1), none], [.ref r0, .int (-1)], h_1)) rfl ?_
    obtain ⟨x_3, e3, w⟩ := w
    refine gw_gf (hk _ _ rfl) e3 ?_
    refine gw_pst hk 1 (st' := (44, [some (.ref r0), some (.int x1), none], [.int ((-1) - x_3)], h_1)) rfl ?_
    exact gw_ret (hk _ _ rfl) rfl w
  · replace w := w.2 z2
    refine gw_pst hk 2 (st' := (47, [some (.ref r0), some (.int x1), some (.int 0)], [], h_1)) rfl ?_
    obtain ⟨n, w⟩ := w
    exact okl180_47 c d Post n _ _ _ _ w
/-- CommandByTurnsModel.rule()I -/
def wm180 (c : gx) (d : Nat) (Post : Option Value → gm_H → Prop) (r0 : Nat) (h : gm_H) : Prop :=
  ∃ fs1 : List Value, gm_get h r0 = some (.inr (10, fs1)) ∧ 13 < fs1.length ∧ ∀ h_1 : gm_H, h_1 = gm_put h r0 (.inr (10, fs1.set 13 (.int 0))) → ∃ x_2 : Int32, gm_fld h_1 r0 10 10 = some (.int x_2) ∧ (∃ fs3, gm_get h_1 r0 = some (.inr (10, fs3))) ∧ gE c d 163 [.ref r0, .int 40] h_1 (fun v3 h_3 => v3 = none ∧ ∃ fs4 : List Value, gm_get h_3 r0 = some (.inr (10, fs4)) ∧ 23 < fs4.length ∧ ∀ h_4 : gm_H, h_4 = gm_put h_3 r0 (.inr (10, fs4.set 23 (.int 0))) → ((x_2 ≤ 0 → w180_31 c d Post r0 x_2 h_4) ∧ (¬ (x_2 ≤ 0) → (∃ fs6, gm_get h_4 r0 = some (.inr (10, fs6))) ∧ gE c d 175 [.ref r0, .int 0] h_4 (fun v6 h_6 => ∃ x_6 : Int32, v6 = some (.int x_6) ∧ w180_31 c d Post r0 x_2 h_6))))
theorem okm180 (c : gx) (d : Nat) (Post : Option Value → gm_H → Prop) (r0 : Nat) (h : gm_H) (w : wm180 c d Post r0 h) : gE c (d + 1) 180 [.ref r0] h Post := by
  have hk : ∀ pc i, gm_find gk_180 pc = some i → gm_code (gt_T c.1 c.2.1 c.2.2.1) 180 pc = some i := fun _ _ z => z
  unfold wm180 at w
  refine ge_of (by decide) (Nat.le_of_ble_eq_true rfl) ?_
  show gV c d 180 (0, [some (.ref r0), none, none], [], h) Post
  unfold gV
  refine gw_pst hk 2 (st' := (2, [some (.ref r0), none, none], [.int 0, .ref r0], h)) rfl ?_
  obtain ⟨fs1, e1, l1, w⟩ := w
  refine gw_pf (hk _ _ rfl) e1 l1 rfl ?_
  obtain ⟨h_1, eh1⟩ : ∃ z, z = gm_put h r0 (.inr (10, fs1.set 13 (.int 0))) := ⟨_, rfl⟩
  rw [← eh1]
  replace w := w h_1 eh1
  refine gw_pst hk 1 (st' := (6, [some (.ref r0), none, none], [.ref r0], h_1)) rfl ?_
  obtain ⟨x_2, e2, w⟩ := w
  refine gw_gf (hk _ _ rfl) e2 ?_
  refine gw_pst hk 3 (st' := (13, [some (.ref r0), some (.int x_2), none], [.int 40, .ref r0], h_1)) rfl ?_
  obtain ⟨⟨fs3, e3⟩, w⟩ := w
  refine gw_call (jj := 163) (As := [.ref r0, .int 40]) (rest := []) (hk _ _ rfl) (fun _ => rfl) rfl rfl (Nat.le_of_ble_eq_true rfl) (gm_rcv_v rfl e3 rfl) ?_
  refine ge_imp w (fun v3 h_3 w => ?_)
  obtain ⟨rfl, w⟩ := w
  show gV c d 180 (16, [some (.ref r0), some (.int x_2), none], [], h_3) Post
  refine gw_pst hk 2 (st' := (18, [some (.ref r0), some (.int x_2), none], [.int 0, .ref r0], h_3)) rfl ?_
  obtain ⟨fs4, e4, l4, w⟩ := w
  refine gw_pf (hk _ _ rfl) e4 l4 rfl ?_
  obtain ⟨h_4, eh4⟩ : ∃ z, z = gm_put h_3 r0 (.inr (10, fs4.set 23 (.int 0))) := ⟨_, rfl⟩
  rw [← eh4]
  replace w := w h_4 eh4
  refine gw_pst hk 1 (st' := (22, [some (.ref r0), some (.int x_2), none], [.int x_2], h_4)) rfl ?_
  refine gw_br (c := x_2 ≤ 0) (a := (31, [some (.ref r0), some (.int x_2), none], [], h_4)) (b := (25, [some (.ref r0), some (.int x_2), none], [], h_4)) (hk _ _ rfl) rfl ⟨fun z5 => ?_, fun z5 => ?_⟩
  · replace w := w.1 z5
    exact ok180_31 c d Post _ _ _ w
  · replace w := w.2 z5
    refine gw_pst hk 2 (st' := (27, [some (.ref r0), some (.int x_2), none], [.int 0, .ref r0], h_4)) rfl ?_
    obtain ⟨⟨fs6, e6⟩, w⟩ := w
    refine gw_call (jj := 175) (As := [.ref r0, .int 0]) (rest := []) (hk _ _ rfl) (fun _ => rfl) rfl rfl (Nat.le_of_ble_eq_true rfl) (gm_rcv_v rfl e6 rfl) ?_
    refine ge_imp w (fun v6 h_6 w => ?_)
    obtain ⟨x_6, rfl, w⟩ := w
    show gV c d 180 (30, [some (.ref r0), some (.int x_2), none], [.int x_6], h_6) Post
    refine gw_pst hk 1 (st' := (31, [some (.ref r0), some (.int x_2), none], [], h_6)) rfl ?_
    exact ok180_31 c d Post _ _ _ w
def w181_151 (c : gx) (d : Nat) (Post : Option Value → gm_H → Prop) (x8 : Int32) (h : gm_H) : Prop :=
  Post (some (.int (if (-500) < (if x8 < 500 then x8 else 500) then (if x8 < 500 then x8 else 500) else (-500)))) h
theorem ok181_151 (c : gx) (d : Nat) (Post : Option Value → gm_H → Prop)  (x8 : Int32) (h : gm_H) (w : w181_151 c d Post x8 h) : gV c d 181 (151, [none, none, none, none, none, none, none, none, some (.int x8)], [], h) Post := by
  have hk : ∀ pc i, gm_find gk_181 pc = some i → gm_code (gt_T c.1 c.2.1 c.2.2.1) 181 pc = some i := fun _ _ z => z
  unfold w181_151 at w
  unfold gV
  refine gw_pst hk 5 (st' := (165, [none, none, none, none, none, none, none, none, some (.int x8)], [.int (if (-500) < (if x8 < 500 then x8 else 500) then (if x8 < 500 then x8 else 500) else (-500))], h)) rfl ?_
  exact gw_ret (hk _ _ rfl) rfl w
/-- CommandByTurnsModel.issueBy(IIIIIII)I -/
def wm181 (c : gx) (d : Nat) (Post : Option Value → gm_H → Prop) (r0 : Nat) (x1 : Int32) (x2 : Int32) (x3 : Int32) (x4 : Int32) (x5 : Int32) (x6 : Int32) (x7 : Int32) (h : gm_H) : Prop :=
  ∃ q_1 : Nat, gm_fld h r0 10 4 = some (.ref q_1) ∧ ∃ (n2 : Nat) (f2 : Nat → Int32), gm_get h q_1 = some (.inl (0, n2, .inl f2)) ∧ vp_in x1 n2 ∧ ∃ x_3 : Int32, gm_fld h r0 10 22 = some (.int x_3) ∧ ((x_3 ≤ 0 → w181_151 c d Post (((((f2 (x1 : Int32).toNatClampNeg) + 1) * 3) + (x2 * 4)) + (((x3 / 10) - (x4 / 10)) / 2)) h) ∧ (¬ (x_3 ≤ 0) → ∃ q_5 : Nat, gm_fld h r0 10 24 = some (.ref q_5) ∧ ∃ q_6 : Nat, gm_fld h r0 10 4 = some (.ref q_6) ∧ ∃ (n7 : Nat) (f7 : Nat → Int32), gm_get h q_6 = some (.inl (0, n7, .inl f7)) ∧ vp_in x1 n7 ∧ ∃ (n8 : Nat) (f8 : Nat → Int32), gm_get h q_5 = some (.inl (0, n8, .inl f8)) ∧ vp_in 0 n8 ∧ ∀ h_8 : gm_H, h_8 = gm_put h q_5 (.inl (0, n8, .inl (upd f8 (0 : Int32).toNatClampNeg (vp_nar .int (f7 (x1 : Int32).toNatClampNeg))))) → ∃ q_9 : Nat, gm_fld h_8 r0 10 24 = some (.ref q_9) ∧ ∃ q_10 : Nat, gm_fld h_8 r0 10 5 = some (.ref q_10) ∧ ∃ (n11 : Nat) (f11 : Nat → Int32), gm_get h_8 q_10 = some (.inl (0, n11, .inl f11)) ∧ vp_in x1 n11 ∧ ∃ (n12 : Nat) (f12 : Nat → Int32), gm_get h_8 q_9 = some (.inl (0, n12, .inl f12)) ∧ vp_in 1 n12 ∧ ∀ h_12 : gm_H, h_12 = gm_put h_8 q_9 (.inl (0, n12, .inl (upd f12 (1 : Int32).toNatClampNeg (vp_nar .int (f11 (x1 : Int32).toNatClampNeg))))) → ∃ q_13 : Nat, gm_fld h_12 r0 10 24 = some (.ref q_13) ∧ ∃ (n14 : Nat) (f14 : Nat → Int32), gm_get h_12 q_13 = some (.inl (0, n14, .inl f14)) ∧ vp_in 2 n14 ∧ ∀ h_14 : gm_H, h_14 = gm_put h_12 q_13 (.inl (0, n14, .inl (upd f14 (2 : Int32).toNatClampNeg (vp_nar .int x2)))) → ∃ q_15 : Nat, gm_fld h_14 r0 10 24 = some (.ref q_15) ∧ ∃ (n16 : Nat) (f16 : Nat → Int32), gm_get h_14 q_15 = some (.inl (0, n16, .inl f16)) ∧ vp_in 3 n16 ∧ ∀ h_16 : gm_H, h_16 = gm_put h_14 q_15 (.inl (0, n16, .inl (upd f16 (3 : Int32).toNatClampNeg (vp_nar .int (x3 / 10))))) → ∃ q_17 : Nat, gm_fld h_16 r0 10 24 = some (.ref q_17) ∧ ∃ (n18 : Nat) (f18 : Nat → Int32), gm_get h_16 q_17 = some (.inl (0, n18, .inl f18)) ∧ vp_in 4 n18 ∧ ∀ h_18 : gm_H, h_18 = gm_put h_16 q_17 (.inl (0, n18, .inl (upd f18 (4 : Int32).toNatClampNeg (vp_nar .int (x4 / 10))))) → ∃ q_19 : Nat, gm_fld h_18 r0 10 24 = some (.ref q_19) ∧ ∃ (n20 : Nat) (f20 : Nat → Int32), gm_get h_18 q_19 = some (.inl (0, n20, .inl f20)) ∧ vp_in 5 n20 ∧ ∀ h_20 : gm_H, h_20 = gm_put h_18 q_19 (.inl (0, n20, .inl (upd f20 (5 : Int32).toNatClampNeg (vp_nar .int (x5 / 10))))) → ∃ q_21 : Nat, gm_fld h_20 r0 10 24 = some (.ref q_21) ∧ ∃ (n22 : Nat) (f22 : Nat → Int32), gm_get h_20 q_21 = some (.inl (0, n22, .inl f22)) ∧ vp_in 6 n22 ∧ ∀ h_22 : gm_H, h_22 = gm_put h_20 q_21 (.inl (0, n22, .inl (upd f22 (6 : Int32).toNatClampNeg (vp_nar .int (x6 - x6 / 10 * 10))))) → ∃ q_23 : Nat, gm_fld h_22 r0 10 24 = some (.ref q_23) ∧ ∃ (n24 : Nat) (f24 : Nat → Int32), gm_get h_22 q_23 = some (.inl (0, n24, .inl f24)) ∧ vp_in 7 n24 ∧ ∀ h_24 : gm_H, h_24 = gm_put h_22 q_23 (.inl (0, n24, .inl (upd f24 (7 : Int32).toNatClampNeg (vp_nar .int x7)))) → ∃ q_25 : Nat, gm_fld h_24 r0 10 21 = some (.ref q_25) ∧ ∃ x_26 : Int32, gm_fld h_24 r0 10 22 = some (.int x_26) ∧ (∃ fs27, gm_get h_24 r0 = some (.inr (10, fs27))) ∧ gE c d 162 [.ref r0, .ref q_25, .int x_26, .int 40] h_24 (fun v27 h_27 => v27 = none ∧ ∃ fs28 : List Value, gm_get h_27 r0 = some (.inr (10, fs28)) ∧ 23 < fs28.length ∧ ∀ h_28 : gm_H, h_28 = gm_put h_27 r0 (.inr (10, fs28.set 23 (.int 1))) → (∃ fs29, gm_get h_28 r0 = some (.inr (10, fs29))) ∧ gE c d 175 [.ref r0, .int 0] h_28 (fun v29 h_29 => ∃ x_29 : Int32, v29 = some (.int x_29) ∧ ∃ fs30 : List Value, gm_get h_29 r0 = some (.inr (10, fs30)) ∧ 23 < fs30.length ∧ ∀ h_30 : gm_H, h_30 = gm_put h_29 r0 (.inr (10, fs30.set 23 (.int 0))) → w181_151 c d Post x_29 h_30))))
theorem okm181 (c : gx) (d : Nat) (Post : Option Value → gm_H → Prop) (r0 : Nat) (x1 : Int32) (x2 : Int32) (x3 : Int32) (x4 : Int32) (x5 : Int32) (x6 : Int32) (x7 : Int32) (h : gm_H) (w : wm181 c d Post r0 x1 x2 x3 x4 x5 x6 x7 h) : gE c (d + 1) 181 [.ref r0, .int x1, .int x2, .int x3, .int x4, .int x5, .int x6, .int x7] h Post := by
  have hk : ∀ pc i, gm_find gk_181 pc = some i → gm_code (gt_T c.1 c.2.1 c.2.2.1) 181 pc = some i := fun _ _ z => z
  unfold wm181 at w
  refine ge_of (by decide) (Nat.le_of_ble_eq_true rfl) ?_
  show gV c d 181 (0, [some (.ref r0), some (.int x1), some (.int x2), some (.int x3), some (.int x4), some (.int x5), some (.int x6), some (.int x7), none], [], h) Post
  unfold gV
  refine gw_pst hk 1 (st' := (1, [some (.ref r0), some (.int x1), some (.int x2), some (.int x3), some (.int x4), some (.int x5), some (.int x6), some (.int x7), none], [.ref r0], h)) rfl ?_
  obtain ⟨q_1, e1, w⟩ := w
  refine gw_gf (hk _ _ rfl) e1 ?_
  refine gw_pst hk 1 (st' := (5, [some (.ref r0), some (.int x1), some (.int x2), some (.int x3), some (.int x4), some (.int x5), some (.int x6), some (.int x7), none], [.int x1, .ref q_1], h)) rfl ?_
  obtain ⟨n2, f2, e2, b2, w⟩ := w
  refine gw_ald (hk _ _ rfl) (Or.inl ⟨rfl, rfl⟩) e2 b2 ?_
  refine gw_pst hk 10 (st' := (17, [some (.ref r0), some (.int x1), some (.int x2), some (.int x3), some (.int x4), some (.int x5), some (.int x6), some (.int x7), none], [.int 10, .int x3, .int ((((f2 (x1 : Int32).toNatClampNeg) + 1) * 3) + (x2 * 4))], h)) rfl ?_
  refine gw_idiv (hk _ _ rfl) (by decide) ?_ rfl
  refine gw_pst hk 2 (st' := (22, [some (.ref r0), some (.int x1), some (.int x2), some (.int x3), some (.int x4), some (.int x5), some (.int x6), some (.int x7), none], [.int 10, .int x4, .int (x3 / 10), .int ((((f2 (x1 : Int32).toNatClampNeg) + 1) * 3) + (x2 * 4))], h)) rfl ?_
  refine gw_idiv (hk _ _ rfl) (by decide) ?_ rfl
  refine gw_pst hk 2 (st' := (25, [some (.ref r0), some (.int x1), some (.int x2), some (.int x3), some (.int x4), some (.int x5), some (.int x6), some (.int x7), none], [.int 2, .int ((x3 / 10) - (x4 / 10)), .int ((((f2 (x1 : Int32).toNatClampNeg) + 1) * 3) + (x2 * 4))], h)) rfl ?_
  refine gw_idiv (hk _ _ rfl) (by decide) ?_ rfl
  refine gw_pst hk 3 (st' := (30, [some (.ref r0), some (.int x1), some (.int x2), some (.int x3), some (.int x4), some (.int x5), some (.int x6), some (.int x7), some (.int (((((f2 (x1 : Int32).toNatClampNeg) + 1) * 3) + (x2 * 4)) + (((x3 / 10) - (x4 / 10)) / 2)))], [.ref r0], h)) rfl ?_
  obtain ⟨x_3, e3, w⟩ := w
  refine gw_gf (hk _ _ rfl) e3 ?_
  refine gw_br (c := x_3 ≤ 0) (a := (151, [some (.ref r0), some (.int x1), some (.int x2), some (.int x3), some (.int x4), some (.int x5), some (.int x6), some (.int x7), some (.int (((((f2 (x1 : Int32).toNatClampNeg) + 1) * 3) + (x2 * 4)) + (((x3 / 10) - (x4 / 10)) / 2)))], [], h)) (b := (36, [some (.ref r0), some (.int x1), some (.int x2), some (.int x3), some (.int x4), some (.int x5), some (.int x6), some (.int x7), some (.int (((((f2 (x1 : Int32).toNatClampNeg) + 1) * 3) + (x2 * 4)) + (((x3 / 10) - (x4 / 10)) / 2)))], [], h)) (hk _ _ rfl) rfl ⟨fun z4 => ?_, fun z4 => ?_⟩
  · replace w := w.1 z4
    refine gw_le (L' := [none, none, none, none, none, none, none, none, some (.int (((((f2 (x1 : Int32).toNatClampNeg) + 1) * 3) + (x2 * 4)) + (((x3 / 10) - (x4 / 10)) / 2)))]) (gm_le_n _ (gm_le_n _ (gm_le_n _ (gm_le_n _ (gm_le_n _ (gm_le_n _ (gm_le_n _ (gm_le_n _ (gm_le_k _ gm_le_nil))))))))) ?_
    exact ok181_151 c d Post _ _ w
  · replace w := w.2 z4
    refine gw_pst hk 1 (st' := (37, [some (.ref r0), some (.int x1), some (.int x2), some (.int x3), some (.int x4), some (.int x5), some (.int x6), some (.int x7), some (.int (((((f2 (x1 : Int32).toNatClampNeg) + 1) * 3) + (x2 * 4)) + (((x3 / 10) - (x4 / 10)) / 2)))], [.ref r0], h)) rfl ?_
    obtain ⟨q_5, e5, w⟩ := w
    refine gw_gf (hk _ _ rfl) e5 ?_
    refine gw_pst hk 2 (st' := (42, [some (.ref r0), some (.int x1), some (.int x2), some (.int x3), some (.int x4), some (.int x5), some (.int x6), some (.int x7), some (.int (((((f2 (x1 : Int32).toNatClampNeg) + 1) * 3) + (x2 * 4)) + (((x3 / 10) - (x4 / 10)) / 2)))], [.ref r0, .int 0, .ref q_5], h)) rfl ?_
    obtain ⟨q_6, e6, w⟩ := w
    refine gw_gf (hk _ _ rfl) e6 ?_
    refine gw_pst hk 1 (st' := (46, [some (.ref r0), some (.int x1), some (.int x2), some (.int x3), some (.int x4), some (.int x5), some (.int x6), some (.int x7), some (.int (((((f2 (x1 : Int32).toNatClampNeg) + 1) * 3) + (x2 * 4)) + (((x3 / 10) - (x4 / 10)) / 2)))], [.int x1, .ref q_6, .int 0, .ref q_5], h)) rfl ?_
    obtain ⟨n7, f7, e7, b7, w⟩ := w
    refine gw_ald (hk _ _ rfl) (Or.inl ⟨rfl, rfl⟩) e7 b7 ?_
    obtain ⟨n8, f8, e8, b8, w⟩ := w
    refine gw_ast (hk _ _ rfl) (Or.inl ⟨rfl, rfl, rfl⟩) e8 b8 ?_
    obtain ⟨h_8, eh8⟩ : ∃ z, z = gm_put h q_5 (.inl (0, n8, .inl (upd f8 (0 : Int32).toNatClampNeg (vp_nar .int (f7 (x1 : Int32).toNatClampNeg))))) := ⟨_, rfl⟩
    rw [← eh8]
    replace w := w h_8 eh8
    refine gw_pst hk 1 (st' := (49, [some (.ref r0), some (.int x1), some (.int x2), some (.int x3), some (.int x4), some (.int x5), some (.int x6), some (.int x7), some (.int (((((f2 (x1 : Int32).toNatClampNeg) + 1) * 3) + (x2 * 4)) + (((x3 / 10) - (x4 / 10)) / 2)))], [.ref r0], h_8)) rfl ?_
    obtain ⟨q_9, e9, w⟩ := w
    refine gw_gf (hk _ _ rfl) e9 ?_
    refine gw_pst hk 2 (st' := (54, [some (.ref r0), some (.int x1), some (.int x2), some (.int x3), some (.int x4), some (.int x5), some (.int x6), some (.int x7), some (.int (((((f2 (x1 : Int32).toNatClampNeg) + 1) * 3) + (x2 * 4)) + (((x3 / 10) - (x4 / 10)) / 2)))], [.ref r0, .int 1, .ref q_9], h_8)) rfl ?_
    obtain ⟨q_10, e10, w⟩ := w
    refine gw_gf (hk _ _ rfl) e10 ?_
    refine gw_pst hk 1 (st' := (58, [some (.ref r0), some (.int x1), some (.int x2), some (.int x3), some (.int x4), some (.int x5), some (.int x6), some (.int x7), some (.int (((((f2 (x1 : Int32).toNatClampNeg) + 1) * 3) + (x2 * 4)) + (((x3 / 10) - (x4 / 10)) / 2)))], [.int x1, .ref q_10, .int 1, .ref q_9], h_8)) rfl ?_
    obtain ⟨n11, f11, e11, b11, w⟩ := w
    refine gw_ald (hk _ _ rfl) (Or.inl ⟨rfl, rfl⟩) e11 b11 ?_
    obtain ⟨n12, f12, e12, b12, w⟩ := w
    refine gw_ast (hk _ _ rfl) (Or.inl ⟨rfl, rfl, rfl⟩) e12 b12 ?_
    obtain ⟨h_12, eh12⟩ : ∃ z, z = gm_put h_8 q_9 (.inl (0, n12, .inl (upd f12 (1 : Int32).toNatClampNeg (vp_nar .int (f11 (x1 : Int32).toNatClampNeg))))) := ⟨_, rfl⟩
    rw [← eh12]
    replace w := w h_12 eh12
    refine gw_pst hk 1 (st' := (61, [some (.ref r0), some (.int x1), some (.int x2), some (.int x3), some (.int x4), some (.int x5), some (.int x6), some (.int x7), some (.int (((((f2 (x1 : Int32).toNatClampNeg) + 1) * 3) + (x2 * 4)) + (((x3 / 10) - (x4 / 10)) / 2)))], [.ref r0], h_12)) rfl ?_
    obtain ⟨q_13, e13, w⟩ := w
    refine gw_gf (hk _ _ rfl) e13 ?_
    refine gw_pst hk 2 (st' := (66, [some (.ref r0), some (.int x1), some (.int x2), some (.int x3), some (.int x4), some (.int x5), some (.int x6), some (.int x7), some (.int (((((f2 (x1 : Int32).toNatClampNeg) + 1) * 3) + (x2 * 4)) + (((x3 / 10) - (x4 / 10)) / 2)))], [.int x2, .int 2, .ref q_13], h_12)) rfl ?_
    obtain ⟨n14, f14, e14, b14, w⟩ := w
    refine gw_ast (hk _ _ rfl) (Or.inl ⟨rfl, rfl, rfl⟩) e14 b14 ?_
    obtain ⟨h_14, eh14⟩ : ∃ z, z = gm_put h_12 q_13 (.inl (0, n14, .inl (upd f14 (2 : Int32).toNatClampNeg (vp_nar .int x2)))) := ⟨_, rfl⟩
    rw [← eh14]
    replace w := w h_14 eh14
    refine gw_pst hk 1 (st' := (68, [some (.ref r0), some (.int x1), some (.int x2), some (.int x3), some (.int x4), some (.int x5), some (.int x6), some (.int x7), some (.int (((((f2 (x1 : Int32).toNatClampNeg) + 1) * 3) + (x2 * 4)) + (((x3 / 10) - (x4 / 10)) / 2)))], [.ref r0], h_14)) rfl ?_
    obtain ⟨q_15, e15, w⟩ := w
    refine gw_gf (hk _ _ rfl) e15 ?_
    refine gw_pst hk 3 (st' := (75, [some (.ref r0), some (.int x1), some (.int x2), some (.int x3), some (.int x4), some (.int x5), some (.int x6), some (.int x7), some (.int (((((f2 (x1 : Int32).toNatClampNeg) + 1) * 3) + (x2 * 4)) + (((x3 / 10) - (x4 / 10)) / 2)))], [.int 10, .int x3, .int 3, .ref q_15], h_14)) rfl ?_
    refine gw_idiv (hk _ _ rfl) (by decide) ?_ rfl
    obtain ⟨n16, f16, e16, b16, w⟩ := w
    refine gw_ast (hk _ _ rfl) (Or.inl ⟨rfl, rfl, rfl⟩) e16 b16 ?_
    obtain ⟨h_16, eh16⟩ : ∃ z, z = gm_put h_14 q_15 (.inl (0, n16, .inl (upd f16 (3 : Int32).toNatClampNeg (vp_nar .int (x3 / 10))))) := ⟨_, rfl⟩
    rw [← eh16]
    replace w := w h_16 eh16
    refine gw_pst hk 1 (st' := (78, [some (.ref r0), some (.int x1), some (.int x2), some (.int x3), some (.int x4), some (.int x5), some (.int x6), some (.int x7), some (.int (((((f2 (x1 : Int32).toNatClampNeg) + 1) * 3) + (x2 * 4)) + (((x3 / 10) - (x4 / 10)) / 2)))], [.ref r0], h_16)) rfl ?_
    obtain ⟨q_17, e17, w⟩ := w
    refine gw_gf (hk _ _ rfl) e17 ?_
    refine gw_pst hk 3 (st' := (86, [some (.ref r0), some (.int x1), some (.int x2), some (.int x3), some (.int x4), some (.int x5), some (.int x6), some (.int x7), some (.int (((((f2 (x1 : Int32).toNatClampNeg) + 1) * 3) + (x2 * 4)) + (((x3 / 10) - (x4 / 10)) / 2)))], [.int 10, .int x4, .int 4, .ref q_17], h_16)) rfl ?_
    refine gw_idiv (hk _ _ rfl) (by decide) ?_ rfl
    obtain ⟨n18, f18, e18, b18, w⟩ := w
    refine gw_ast (hk _ _ rfl) (Or.inl ⟨rfl, rfl, rfl⟩) e18 b18 ?_
    obtain ⟨h_18, eh18⟩ : ∃ z, z = gm_put h_16 q_17 (.inl (0, n18, .inl (upd f18 (4 : Int32).toNatClampNeg (vp_nar .int (x4 / 10))))) := ⟨_, rfl⟩
    rw [← eh18]
    replace w := w h_18 eh18
    refine gw_pst hk 1 (st' := (89, [some (.ref r0), some (.int x1), some (.int x2), some (.int x3), some (.int x4), some (.int x5), some (.int x6), some (.int x7), some (.int (((((f2 (x1 : Int32).toNatClampNeg) + 1) * 3) + (x2 * 4)) + (((x3 / 10) - (x4 / 10)) / 2)))], [.ref r0], h_18)) rfl ?_
    obtain ⟨q_19, e19, w⟩ := w
    refine gw_gf (hk _ _ rfl) e19 ?_
    refine gw_pst hk 3 (st' := (97, [some (.ref r0), some (.int x1), some (.int x2), some (.int x3), some (.int x4), some (.int x5), some (.int x6), some (.int x7), some (.int (((((f2 (x1 : Int32).toNatClampNeg) + 1) * 3) + (x2 * 4)) + (((x3 / 10) - (x4 / 10)) / 2)))], [.int 10, .int x5, .int 5, .ref q_19], h_18)) rfl ?_
    refine gw_idiv (hk _ _ rfl) (by decide) ?_ rfl
    obtain ⟨n20, f20, e20, b20, w⟩ := w
    refine gw_ast (hk _ _ rfl) (Or.inl ⟨rfl, rfl, rfl⟩) e20 b20 ?_
    obtain ⟨h_20, eh20⟩ : ∃ z, z = gm_put h_18 q_19 (.inl (0, n20, .inl (upd f20 (5 : Int32).toNatClampNeg (vp_nar .int (x5 / 10))))) := ⟨_, rfl⟩
    rw [← eh20]
    replace w := w h_20 eh20
    refine gw_pst hk 1 (st' := (100, [some (.ref r0), some (.int x1), some (.int x2), some (.int x3), some (.int x4), some (.int x5), some (.int x6), some (.int x7), some (.int (((((f2 (x1 : Int32).toNatClampNeg) + 1) * 3) + (x2 * 4)) + (((x3 / 10) - (x4 / 10)) / 2)))], [.ref r0], h_20)) rfl ?_
    obtain ⟨q_21, e21, w⟩ := w
    refine gw_gf (hk _ _ rfl) e21 ?_
    refine gw_pst hk 3 (st' := (109, [some (.ref r0), some (.int x1), some (.int x2), some (.int x3), some (.int x4), some (.int x5), some (.int x6), some (.int x7), some (.int (((((f2 (x1 : Int32).toNatClampNeg) + 1) * 3) + (x2 * 4)) + (((x3 / 10) - (x4 / 10)) / 2)))], [.int 10, .int x6, .int 6, .ref q_21], h_20)) rfl ?_
    refine gw_irem (hk _ _ rfl) (by decide) ?_ rfl
    obtain ⟨n22, f22, e22, b22, w⟩ := w
    refine gw_ast (hk _ _ rfl) (Or.inl ⟨rfl, rfl, rfl⟩) e22 b22 ?_
    obtain ⟨h_22, eh22⟩ : ∃ z, z = gm_put h_20 q_21 (.inl (0, n22, .inl (upd f22 (6 : Int32).toNatClampNeg (vp_nar .int (x6 - x6 / 10 * 10))))) := ⟨_, rfl⟩
    rw [← eh22]
    replace w := w h_22 eh22
    refine gw_pst hk 1 (st' := (112, [some (.ref r0), some (.int x1), some (.int x2), some (.int x3), some (.int x4), some (.int x5), some (.int x6), some (.int x7), some (.int (((((f2 (x1 : Int32).toNatClampNeg) + 1) * 3) + (x2 * 4)) + (((x3 / 10) - (x4 / 10)) / 2)))], [.ref r0], h_22)) rfl ?_
    obtain ⟨q_23, e23, w⟩ := w
    refine gw_gf (hk _ _ rfl) e23 ?_
    refine gw_pst hk 2 (st' := (119, [some (.ref r0), some (.int x1), some (.int x2), some (.int x3), some (.int x4), some (.int x5), some (.int x6), some (.int x7), some (.int (((((f2 (x1 : Int32).toNatClampNeg) + 1) * 3) + (x2 * 4)) + (((x3 / 10) - (x4 / 10)) / 2)))], [.int x7, .int 7, .ref q_23], h_22)) rfl ?_
    obtain ⟨n24, f24, e24, b24, w⟩ := w
    refine gw_ast (hk _ _ rfl) (Or.inl ⟨rfl, rfl, rfl⟩) e24 b24 ?_
    obtain ⟨h_24, eh24⟩ : ∃ z, z = gm_put h_22 q_23 (.inl (0, n24, .inl (upd f24 (7 : Int32).toNatClampNeg (vp_nar .int x7)))) := ⟨_, rfl⟩
    rw [← eh24]
    replace w := w h_24 eh24
    refine gw_pst hk 2 (st' := (122, [some (.ref r0), some (.int x1), some (.int x2), some (.int x3), some (.int x4), some (.int x5), some (.int x6), some (.int x7), some (.int (((((f2 (x1 : Int32).toNatClampNeg) + 1) * 3) + (x2 * 4)) + (((x3 / 10) - (x4 / 10)) / 2)))], [.ref r0, .ref r0], h_24)) rfl ?_
    obtain ⟨q_25, e25, w⟩ := w
    refine gw_gf (hk _ _ rfl) e25 ?_
    refine gw_pst hk 1 (st' := (126, [some (.ref r0), some (.int x1), some (.int x2), some (.int x3), some (.int x4), some (.int x5), some (.int x6), some (.int x7), some (.int (((((f2 (x1 : Int32).toNatClampNeg) + 1) * 3) + (x2 * 4)) + (((x3 / 10) - (x4 / 10)) / 2)))], [.ref r0, .ref q_25, .ref r0], h_24)) rfl ?_
    obtain ⟨x_26, e26, w⟩ := w
    refine gw_gf (hk _ _ rfl) e26 ?_
    refine gw_pst hk 1 (st' := (131, [some (.ref r0), some (.int x1), some (.int x2), some (.int x3), some (.int x4), some (.int x5), some (.int x6), some (.int x7), some (.int (((((f2 (x1 : Int32).toNatClampNeg) + 1) * 3) + (x2 * 4)) + (((x3 / 10) - (x4 / 10)) / 2)))], [.int 40, .int x_26, .ref q_25, .ref r0], h_24)) rfl ?_
    obtain ⟨⟨fs27, e27⟩, w⟩ := w
    refine gw_call (jj := 162) (As := [.ref r0, .ref q_25, .int x_26, .int 40]) (rest := []) (hk _ _ rfl) (fun _ => rfl) rfl rfl (Nat.le_of_ble_eq_true rfl) (gm_rcv_v rfl e27 rfl) ?_
    refine ge_imp w (fun v27 h_27 w => ?_)
    obtain ⟨rfl, w⟩ := w
    show gV c d 181 (134, [some (.ref r0), some (.int x1), some (.int x2), some (.int x3), some (.int x4), some (.int x5), some (.int x6), some (.int x7), some (.int (((((f2 (x1 : Int32).toNatClampNeg) + 1) * 3) + (x2 * 4)) + (((x3 / 10) - (x4 / 10)) / 2)))], [], h_27) Post
    refine gw_pst hk 2 (st' := (136, [some (.ref r0), some (.int x1), some (.int x2), some (.int x3), some (.int x4), some (.int x5), some (.int x6), some (.int x7), some (.int (((((f2 (x1 : Int32).toNatClampNeg) + 1) * 3) + (x2 * 4)) + (((x3 / 10) - (x4 / 10)) / 2)))], [.int 1, .ref r0], h_27)) rfl ?_
    obtain ⟨fs28, e28, l28, w⟩ := w
    refine gw_pf (hk _ _ rfl) e28 l28 rfl ?_
    obtain ⟨h_28, eh28⟩ : ∃ z, z = gm_put h_27 r0 (.inr (10, fs28.set 23 (.int 1))) := ⟨_, rfl⟩
    rw [← eh28]
    replace w := w h_28 eh28
    refine gw_pst hk 2 (st' := (141, [some (.ref r0), some (.int x1), some (.int x2), some (.int x3), some (.int x4), some (.int x5), some (.int x6), some (.int x7), some (.int (((((f2 (x1 : Int32).toNatClampNeg) + 1) * 3) + (x2 * 4)) + (((x3 / 10) - (x4 / 10)) / 2)))], [.int 0, .ref r0], h_28)) rfl ?_
    obtain ⟨⟨fs29, e29⟩, w⟩ := w
    refine gw_call (jj := 175) (As := [.ref r0, .int 0]) (rest := []) (hk _ _ rfl) (fun _ => rfl) rfl rfl (Nat.le_of_ble_eq_true rfl) (gm_rcv_v rfl e29 rfl) ?_
    refine ge_imp w (fun v29 h_29 w => ?_)
    obtain ⟨x_29, rfl, w⟩ := w
    show gV c d 181 (144, [some (.ref r0), some (.int x1), some (.int x2), some (.int x3), some (.int x4), some (.int x5), some (.int x6), some (.int x7), some (.int (((((f2 (x1 : Int32).toNatClampNeg) + 1) * 3) + (x2 * 4)) + (((x3 / 10) - (x4 / 10)) / 2)))], [.int x_29], h_29) Post
    refine gw_pst hk 3 (st' := (148, [some (.ref r0), some (.int x1), some (.int x2), some (.int x3), some (.int x4), some (.int x5), some (.int x6), some (.int x7), some (.int x_29)], [.int 0, .ref r0], h_29)) rfl ?_
    obtain ⟨fs30, e30, l30, w⟩ := w
    refine gw_pf (hk _ _ rfl) e30 l30 rfl ?_
    obtain ⟨h_30, eh30⟩ : ∃ z, z = gm_put h_29 r0 (.inr (10, fs30.set 23 (.int 0))) := ⟨_, rfl⟩
    rw [← eh30]
    replace w := w h_30 eh30
    refine gw_le (L' := [none, none, none, none, none, none, none, none, some (.int x_29)]) (gm_le_n _ (gm_le_n _ (gm_le_n _ (gm_le_n _ (gm_le_n _ (gm_le_n _ (gm_le_n _ (gm_le_n _ (gm_le_k _ gm_le_nil))))))))) ?_
    exact ok181_151 c d Post _ _ w
def w182_72 (c : gx) (d : Nat) (Post : Option Value → gm_H → Prop) (rs0 : Nat) (xs1 : Int32) (xs2 : Int32) (xs3 : Int32) (xs4 : Int32) (xs5 : Int32) (xs6 : Int32) (xs7 : Int32) (h : gm_H) : Prop :=
  (∃ fs1, gm_get h rs0 = some (.inr (10, fs1))) ∧ gE c d 181 [.ref rs0, .int xs1, .int xs2, .int xs3, .int xs4, .int xs5, .int xs6, .int xs7] h (fun v1 h_1 => ∃ x_1 : Int32, v1 = some (.int x_1) ∧ Post (some (.int x_1)) h_1)
theorem ok182_72 (c : gx) (d : Nat) (Post : Option Value → gm_H → Prop)  (rs0 : Nat) (xs1 : Int32) (xs2 : Int32) (xs3 : Int32) (xs4 : Int32) (xs5 : Int32) (xs6 : Int32) (xs7 : Int32) (h : gm_H) (w : w182_72 c d Post rs0 xs1 xs2 xs3 xs4 xs5 xs6 xs7 h) : gV c d 182 (72, [none, none, none, none, none, none], [.int xs7, .int xs6, .int xs5, .int xs4, .int xs3, .int xs2, .int xs1, .ref rs0], h) Post := by
  have hk : ∀ pc i, gm_find gk_182 pc = some i → gm_code (gt_T c.1 c.2.1 c.2.2.1) 182 pc = some i := fun _ _ z => z
  unfold w182_72 at w
  unfold gV
  obtain ⟨⟨fs1, e1⟩, w⟩ := w
  refine gw_call (jj := 181) (As := [.ref rs0, .int xs1, .int xs2, .int xs3, .int xs4, .int xs5, .int xs6, .int xs7]) (rest := []) (hk _ _ rfl) (fun _ => rfl) rfl rfl (Nat.le_of_ble_eq_true rfl) (gm_rcv_v rfl e1 rfl) ?_
  refine ge_imp w (fun v1 h_1 w => ?_)
  obtain ⟨x_1, rfl, w⟩ := w
  show gV c d 182 (75, [none, none, none, none, none, none], [.int x_1], h_1) Post
  exact gw_ret (hk _ _ rfl) rfl w
def w182_32 (c : gx) (d : Nat) (Post : Option Value → gm_H → Prop) (r0 : Nat) (r1 : Nat) (x2 : Int32) (x3 : Int32) (x4 : Int32) (xs0 : Int32) (h : gm_H) : Prop :=
  ∃ q_1 : Nat, gm_fld h r0 10 2 = some (.ref q_1) ∧ ∃ (n2 : Nat) (f2 : Nat → Int32), gm_get h q_1 = some (.inl (0, n2, .inl f2)) ∧ vp_in x3 n2 ∧ ∃ q_3 : Nat, gm_fld h r0 10 2 = some (.ref q_3) ∧ ∃ (n4 : Nat) (f4 : Nat → Int32), gm_get h r1 = some (.inl (0, n4, .inl f4)) ∧ vp_in 2 n4 ∧ ∃ (n5 : Nat) (f5 : Nat → Int32), gm_get h q_3 = some (.inl (0, n5, .inl f5)) ∧ vp_in (f4 (2 : Int32).toNatClampNeg) n5 ∧ ∃ (n6 : Nat) (f6 : Nat → Int32), gm_get h r1 = some (.inl (0, n6, .inl f6)) ∧ vp_in 3 n6 ∧ ∃ (n7 : Nat) (f7 : Nat → Int32), gm_get h r1 = some (.inl (0, n7, .inl f7)) ∧ vp_in 4 n7 ∧ ∃ (n8 : Nat) (f8 : Nat → Int32), gm_get h r1 = some (.inl (0, n8, .inl f8)) ∧ vp_in 5 n8 ∧ ((xs0 = 0 → w182_72 c d Post r0 x2 ((f2 (x3 : Int32).toNatClampNeg) - (f5 (f4 (2 : Int32).toNatClampNeg : Int32).toNatClampNeg)) (f6 (3 : Int32).toNatClampNeg) (f7 (4 : Int32).toNatClampNeg) (f8 (5 : Int32).toNatClampNeg) x4 0 h) ∧ (¬ (xs0 = 0) → w182_72 c d Post r0 x2 ((f2 (x3 : Int32).toNatClampNeg) - (f5 (f4 (2 : Int32).toNatClampNeg : Int32).toNatClampNeg)) (f6 (3 : Int32).toNatClampNeg) (f7 (4 : Int32).toNatClampNeg) (f8 (5 : Int32).toNatClampNeg) x4 1 h))
theorem ok182_32 (c : gx) (d : Nat) (Post : Option Value → gm_H → Prop)  (r0 : Nat) (r1 : Nat) (x2 : Int32) (x3 : Int32) (x4 : Int32) (xs0 : Int32) (h : gm_H) (w : w182_32 c d Post r0 r1 x2 x3 x4 xs0 h) : gV c d 182 (32, [some (.ref r0), some (.ref r1), some (.int x2), some (.int x3), some (.int x4), none], [.int xs0], h) Post := by
  have hk : ∀ pc i, gm_find gk_182 pc = some i → gm_code (gt_T c.1 c.2.1 c.2.2.1) 182 pc = some i := fun _ _ z => z
  unfold w182_32 at w
  unfold gV
  refine gw_pst hk 4 (st' := (37, [some (.ref r0), some (.ref r1), some (.int x2), some (.int x3), some (.int x4), some (.int xs0)], [.ref r0, .int x2, .ref r0], h)) rfl ?_
  obtain ⟨q_1, e1, w⟩ := w
  refine gw_gf (hk _ _ rfl) e1 ?_
  refine gw_pst hk 1 (st' := (41, [some (.ref r0), some (.ref r1), some (.int x2), some (.int x3), some (.int x4), some (.int xs0)], [.int x3, .ref q_1, .int x2, .ref r0], h)) rfl ?_
  obtain ⟨n2, f2, e2, b2, w⟩ := w
  refine gw_ald (hk _ _ rfl) (Or.inl ⟨rfl, rfl⟩) e2 b2 ?_
  refine gw_pst hk 1 (st' := (43, [some (.ref r0), some (.ref r1), some (.int x2), some (.int x3), some (.int x4), some (.int xs0)], [.ref r0, .int (f2 (x3 : Int32).toNatClampNeg), .int x2, .ref r0], h)) rfl ?_
  obtain ⟨q_3, e3, w⟩ := w
  refine gw_gf (hk _ _ rfl) e3 ?_
  refine gw_pst hk 2 (st' := (48, [some (.ref r0), some (.ref r1), some (.int x2), some (.int x3), some (.int x4), some (.int xs0)], [.int 2, .ref r1, .ref q_3, .int (f2 (x3 : Int32).toNatClampNeg), .int x2, .ref r0], h)) rfl ?_
  obtain ⟨n4, f4, e4, b4, w⟩ := w
  refine gw_ald (hk _ _ rfl) (Or.inl ⟨rfl, rfl⟩) e4 b4 ?_
  obtain ⟨n5, f5, e5, b5, w⟩ := w
  refine gw_ald (hk _ _ rfl) (Or.inl ⟨rfl, rfl⟩) e5 b5 ?_
  refine gw_pst hk 3 (st' := (53, [some (.ref r0), some (.ref r1), some (.int x2), some (.int x3), some (.int x4), some (.int xs0)], [.int 3, .ref r1, .int ((f2 (x3 : Int32).toNatClampNeg) - (f5 (f4 (2 : Int32).toNatClampNeg : Int32).toNatClampNeg)), .int x2, .ref r0], h)) rfl ?_
  obtain ⟨n6, f6, e6, b6, w⟩ := w
  refine gw_ald (hk _ _ rfl) (Or.inl ⟨rfl, rfl⟩) e6 b6 ?_
  refine gw_pst hk 2 (st' := (56, [some (.ref r0), some (.ref r1), some (.int x2), some (.int x3), some (.int x4), some (.int xs0)], [.int 4, .ref r1, .int (f6 (3 : Int32).toNatClampNeg), .int ((f2 (x3 : Int32).toNatClampNeg) - (f5 (f4 (2 : Int32).toNatClampNeg : Int32).toNatClampNeg)), .int x2, .ref r0], h)) rfl ?_
  obtain ⟨n7, f7, e7, b7, w⟩ := w
  refine gw_ald (hk _ _ rfl) (Or.inl ⟨rfl, rfl⟩) e7 b7 ?_
  refine gw_pst hk 2 (st' := (59, [some (.ref r0), some (.ref r1), some (.int x2), some (.int x3), some (.int x4), some (.int xs0)], [.int 5, .ref r1, .int (f7 (4 : Int32).toNatClampNeg), .int (f6 (3 : Int32).toNatClampNeg), .int ((f2 (x3 : Int32).toNatClampNeg) - (f5 (f4 (2 : Int32).toNatClampNeg : Int32).toNatClampNeg)), .int x2, .ref r0], h)) rfl ?_
  obtain ⟨n8, f8, e8, b8, w⟩ := w
  refine gw_ald (hk _ _ rfl) (Or.inl ⟨rfl, rfl⟩) e8 b8 ?_
  refine gw_pst hk 2 (st' := (64, [some (.ref r0), some (.ref r1), some (.int x2), some (.int x3), some (.int x4), some (.int xs0)], [.int xs0, .int x4, .int (f8 (5 : Int32).toNatClampNeg), .int (f7 (4 : Int32).toNatClampNeg), .int (f6 (3 : Int32).toNatClampNeg), .int ((f2 (x3 : Int32).toNatClampNeg) - (f5 (f4 (2 : Int32).toNatClampNeg : Int32).toNatClampNeg)), .int x2, .ref r0], h)) rfl ?_
  refine gw_br (c := xs0 = 0) (a := (71, [some (.ref r0), some (.ref r1), some (.int x2), some (.int x3), some (.int x4), some (.int xs0)], [.int x4, .int (f8 (5 : Int32).toNatClampNeg), .int (f7 (4 : Int32).toNatClampNeg), .int (f6 (3 : Int32).toNatClampNeg), .int ((f2 (x3 : Int32).toNatClampNeg) - (f5 (f4 (2 : Int32).toNatClampNeg : Int32).toNatClampNeg)), .int x2, .ref r0], h)) (b := (67, [some (.ref r0), some (.ref r1), some (.int x2), some (.int x3), some (.int x4), some (.int xs0)], [.int x4, .int (f8 (5 : Int32).toNatClampNeg), .int (f7 (4 : Int32).toNatClampNeg), .int (f6 (3 : Int32).toNatClampNeg), .int ((f2 (x3 : Int32).toNatClampNeg) - (f5 (f4 (2 : Int32).toNatClampNeg : Int32).toNatClampNeg)), .int x2, .ref r0], h)) (hk _ _ rfl) rfl ⟨fun z9 => ?_, fun z9 => ?_⟩
  · replace w := w.1 z9
    refine gw_pst hk 1 (st' := (72, [some (.ref r0), some (.ref r1), some (.int x2), some (.int x3), some (.int x4), some (.int xs0)], [.int 0, .int x4, .int (f8 (5 : Int32).toNatClampNeg), .int (f7 (4 : Int32).toNatClampNeg), .int (f6 (3 : Int32).toNatClampNeg), .int ((f2 (x3 : Int32).toNatClampNeg) - (f5 (f4 (2 : Int32).toNatClampNeg : Int32).toNatClampNeg)), .int x2, .ref r0], h)) rfl ?_
    refine gw_le (L' := [none, none, none, none, none, none]) (gm_le_n _ (gm_le_n _ (gm_le_n _ (gm_le_n _ (gm_le_n _ (gm_le_n _ gm_le_nil)))))) ?_
    exact ok182_72 c d Post _ _ _ _ _ _ _ _ _ w
  · replace w := w.2 z9
    refine gw_pst hk 2 (st' := (72, [some (.ref r0), some (.ref r1), some (.int x2), some (.int x3), some (.int x4), some (.int xs0)], [.int 1, .int x4, .int (f8 (5 : Int32).toNatClampNeg), .int (f7 (4 : Int32).toNatClampNeg), .int (f6 (3 : Int32).toNatClampNeg), .int ((f2 (x3 : Int32).toNatClampNeg) - (f5 (f4 (2 : Int32).toNatClampNeg : Int32).toNatClampNeg)), .int x2, .ref r0], h)) rfl ?_
    refine gw_le (L' := [none, none, none, none, none, none]) (gm_le_n _ (gm_le_n _ (gm_le_n _ (gm_le_n _ (gm_le_n _ (gm_le_n _ gm_le_nil)))))) ?_
    exact ok182_72 c d Post _ _ _ _ _ _ _ _ _ w
def w182_31 (c : gx) (d : Nat) (Post : Option Value → gm_H → Prop) (r0 : Nat) (r1 : Nat) (x2 : Int32) (x3 : Int32) (x4 : Int32) (h : gm_H) : Prop :=
  w182_32 c d Post r0 r1 x2 x3 x4 0 h
theorem ok182_31 (c : gx) (d : Nat) (Post : Option Value → gm_H → Prop)  (r0 : Nat) (r1 : Nat) (x2 : Int32) (x3 : Int32) (x4 : Int32) (h : gm_H) (w : w182_31 c d Post r0 r1 x2 x3 x4 h) : gV c d 182 (31, [some (.ref r0), some (.ref r1), some (.int x2), some (.int x3), some (.int x4), none], [], h) Post := by
  have hk : ∀ pc i, gm_find gk_182 pc = some i → gm_code (gt_T c.1 c.2.1 c.2.2.1) 182 pc = some i := fun _ _ z => z
  unfold w182_31 at w
  unfold gV
  refine gw_pst hk 1 (st' := (32, [some (.ref r0), some (.ref r1), some (.int x2), some (.int x3), some (.int x4), none], [.int 0], h)) rfl ?_
  exact ok182_32 c d Post _ _ _ _ _ _ _ w
/-- CommandByTurnsModel.issueAt([IIII)I -/
def wm182 (c : gx) (d : Nat) (Post : Option Value → gm_H → Prop) (r0 : Nat) (r1 : Nat) (x2 : Int32) (x3 : Int32) (x4 : Int32) (h : gm_H) : Prop :=
  ∃ (n1 : Nat) (f1 : Nat → Int32), gm_get h r1 = some (.inl (0, n1, .inl f1)) ∧ vp_in 2 n1 ∧ (((if 0 ≤ (x3 - (f1 (2 : Int32).toNatClampNeg)) then (x3 - (f1 (2 : Int32).toNatClampNeg)) else 0 - (x3 - (f1 (2 : Int32).toNatClampNeg))) = 1 → ∃ q_3 : Nat, gm_fld h r0 10 3 = some (.ref q_3) ∧ ∃ (n4 : Nat) (f4 : Nat → Int32), gm_get h r1 = some (.inl (0, n4, .inl f4)) ∧ vp_in 2 n4 ∧ ∃ (n5 : Nat) (f5 : Nat → Int32), gm_get h q_3 = some (.inl (4, n5, .inl f5)) ∧ vp_in (if (f4 (2 : Int32).toNatClampNeg) < x3 then (f4 (2 : Int32).toNatClampNeg) else x3) n5 ∧ (((f5 (if (f4 (2 : Int32).toNatClampNeg) < x3 then (f4 (2 : Int32).toNatClampNeg) else x3 : Int32).toNatClampNeg) = 0 → w182_31 c d Post r0 r1 x2 x3 x4 h) ∧ (¬ ((f5 (if (f4 (2 : Int32).toNatClampNeg) < x3 then (f4 (2 : Int32).toNatClampNeg) else x3 : Int32).toNatClampNeg) = 0) → w182_32 c d Post r0 r1 x2 x3 x4 1 h))) ∧ (¬ ((if 0 ≤ (x3 - (f1 (2 : Int32).toNatClampNeg)) then (x3 - (f1 (2 : Int32).toNatClampNeg)) else 0 - (x3 - (f1 (2 : Int32).toNatClampNeg))) = 1) → w182_31 c d Post r0 r1 x2 x3 x4 h))
theorem okm182 (c : gx) (d : Nat) (Post : Option Value → gm_H → Prop) (r0 : Nat) (r1 : Nat) (x2 : Int32) (x3 : Int32) (x4 : Int32) (h : gm_H) (w : wm182 c d Post r0 r1 x2 x3 x4 h) : gE c (d + 1) 182 [.ref r0, .ref r1, .int x2, .int x3, .int x4] h Post := by
  have hk : ∀ pc i, gm_find gk_182 pc = some i → gm_code (gt_T c.1 c.2.1 c.2.2.1) 182 pc = some i := fun _ _ z => z
  unfold wm182 at w
  refine ge_of (by decide) (Nat.le_of_ble_eq_true rfl) ?_
  show gV c d 182 (0, [some (.ref r0), some (.ref r1), some (.int x2), some (.int x3), some (.int x4), none], [], h) Post
  unfold gV
  refine gw_pst hk 3 (st' := (3, [some (.ref r0), some (.ref r1), some (.int x2), some (.int x3), some (.int x4), none], [.int 2, .ref r1, .int x3], h)) rfl ?_
  obtain ⟨n1, f1, e1, b1, w⟩ := w
  refine gw_ald (hk _ _ rfl) (Or.inl ⟨rfl, rfl⟩) e1 b1 ?_
  refine gw_pst hk 3 (st' := (9, [some (.ref r0), some (.ref r1), some (.int x2), some (.int x3), some (.int x4), none], [.int 1, .int (if 0 ≤ (x3 - (f1 (2 : Int32).toNatClampNeg)) then (x3 - (f1 (2 : Int32).toNatClampNeg)) else 0 - (x3 - (f1 (2 : Int32).toNatClampNeg)))], h)) rfl ?_
  refine gw_br (c := (if 0 ≤ (x3 - (f1 (2 : Int32).toNatClampNeg)) then (x3 - (f1 (2 : Int32).toNatClampNeg)) else 0 - (x3 - (f1 (2 : Int32).toNatClampNeg))) = 1) (a := (12, [some (.ref r0), some (.ref r1), some (.int x2), some (.int x3), some (.int x4), none], [], h)) (b := (31, [some (.ref r0), some (.ref r1), some (.int x2), some (.int x3), some (.int x4), none], [], h)) (hk _ _ rfl) rfl ⟨fun z2 => ?_, fun z2 => ?_⟩
  · replace w := w.1 z2
    refine gw_pst hk 1 (st' := (13, [some (.ref r0), some (.ref r1), some (.int x2), some (.int x3), some (.int x4), none], [.ref r0], h)) rfl ?_
    obtain ⟨q_3, e3, w⟩ := w
    refine gw_gf (hk _ _ rfl) e3 ?_
    refine gw_pst hk 3 (st' := (19, [some (.ref r0), some (.ref r1), some (.int x2), some (.int x3), some (.int x4), none], [.int 2, .ref r1, .int x3, .ref q_3], h)) rfl ?_
    obtain ⟨n4, f4, e4, b4, w⟩ := w
    refine gw_ald (hk _ _ rfl) (Or.inl ⟨rfl, rfl⟩) e4 b4 ?_
    refine gw_pst hk 1 (st' := (23, [some (.ref r0), some (.ref r1), some (.int x2), some (.int x3), some (.int x4), none], [.int (if (f4 (2 : Int32).toNatClampNeg) < x3 then (f4 (2 : Int32).toNatClampNeg) else x3), .ref q_3], h)) rfl ?_
    obtain ⟨n5, f5, e5, b5, w⟩ := w
    refine gw_ald (hk _ _ rfl) (Or.inr (Or.inr ⟨rfl, rfl, Or.inr rfl⟩)) e5 b5 ?_
    refine gw_br (c := (f5 (if (f4 (2 : Int32).toNatClampNeg) < x3 then (f4 (2 : Int32).toNatClampNeg) else x3 : Int32).toNatClampNeg) = 0) (a := (31, [some (.ref r0), some (.ref r1), some (.int x2), some (.int x3), some (.int x4), none], [], h)) (b := (27, [some (.ref r0), some (.ref r1), some (.int x2), some (.int x3), some (.int x4), none], [], h)) (hk _ _ rfl) rfl ⟨fun z6 => ?_, fun z6 => ?_⟩
    · replace w := w.1 z6
      exact ok182_31 c d Post _ _ _ _ _ _ w
    · replace w := w.2 z6
      refine gw_pst hk 2 (st' := (32, [some (.ref r0), some (.ref r1), some (.int x2), some (.int x3), some (.int x4), none], [.int 1], h)) rfl ?_
      exact ok182_32 c d Post _ _ _ _ _ _ _ w
  · replace w := w.2 z2
    exact ok182_31 c d Post _ _ _ _ _ _ w
def w183_15 (c : gx) (d : Nat) (Post : Option Value → gm_H → Prop) (xs0 : Int32) (h : gm_H) : Prop :=
  ((xs0 = 0 ∨ xs0 = 1) ∧ Post (some (.int xs0)) h)
theorem ok183_15 (c : gx) (d : Nat) (Post : Option Value → gm_H → Prop)  (xs0 : Int32) (h : gm_H) (w : w183_15 c d Post xs0 h) : gV c d 183 (15, [none, none, none], [.int xs0], h) Post := by
  have hk : ∀ pc i, gm_find gk_183 pc = some i → gm_code (gt_T c.1 c.2.1 c.2.2.1) 183 pc = some i := fun _ _ z => z
  unfold w183_15 at w
  unfold gV
  exact gw_retZ (hk _ _ rfl) rfl w.1 w.2
/-- CommandByTurnsModel.isSick([III)Z -/
def wm183 (c : gx) (d : Nat) (Post : Option Value → gm_H → Prop) (r0 : Nat) (x1 : Int32) (x2 : Int32) (h : gm_H) : Prop :=
  ∃ (n1 : Nat) (f1 : Nat → Int32), gm_get h r0 = some (.inl (0, n1, .inl f1)) ∧ vp_in (6 + x1) n1 ∧ (((f1 (6 + x1 : Int32).toNatClampNeg) < x2 → w183_15 c d Post 0 h) ∧ (¬ ((f1 (6 + x1 : Int32).toNatClampNeg) < x2) → w183_15 c d Post 1 h))
theorem okm183 (c : gx) (d : Nat) (Post : Option Value → gm_H → Prop) (r0 : Nat) (x1 : Int32) (x2 : Int32) (h : gm_H) (w : wm183 c d Post r0 x1 x2 h) : gE c (d + 1) 183 [.ref r0, .int x1, .int x2] h Post := by
  have hk : ∀ pc i, gm_find gk_183 pc = some i → gm_code (gt_T c.1 c.2.1 c.2.2.1) 183 pc = some i := fun _ _ z => z
  unfold wm183 at w
  refine ge_of (by decide) (Nat.le_of_ble_eq_true rfl) ?_
  show gV c d 183 (0, [some (.ref r0), some (.int x1), some (.int x2)], [], h) Post
  unfold gV
  refine gw_pst hk 4 (st' := (5, [some (.ref r0), some (.int x1), some (.int x2)], [.int (6 + x1), .ref r0], h)) rfl ?_
  obtain ⟨n1, f1, e1, b1, w⟩ := w
  refine gw_ald (hk _ _ rfl) (Or.inl ⟨rfl, rfl⟩) e1 b1 ?_
  refine gw_pst hk 1 (st' := (7, [some (.ref r0), some (.int x1), some (.int x2)], [.int x2, .int (f1 (6 + x1 : Int32).toNatClampNeg)], h)) rfl ?_
  refine gw_br (c := (f1 (6 + x1 : Int32).toNatClampNeg) < x2) (a := (14, [some (.ref r0), some (.int x1), some (.int x2)], [], h)) (b := (10, [some (.ref r0), some (.int x1), some (.int x2)], [], h)) (hk _ _ rfl) rfl ⟨fun z2 => ?_, fun z2 => ?_⟩
  · replace w := w.1 z2
    refine gw_pst hk 1 (st' := (15, [some (.ref r0), some (.int x1), some (.int x2)], [.int 0], h)) rfl ?_
    refine gw_le (L' := [none, none, none]) (gm_le_n _ (gm_le_n _ (gm_le_n _ gm_le_nil))) ?_
    exact ok183_15 c d Post _ _ w
  · replace w := w.2 z2
    refine gw_pst hk 2 (st' := (15, [some (.ref r0), some (.int x1), some (.int x2)], [.int 1], h)) rfl ?_
    refine gw_le (L' := [none, none, none]) (gm_le_n _ (gm_le_n _ (gm_le_n _ gm_le_nil))) ?_
    exact ok183_15 c d Post _ _ w
def w184_55 (c : gx) (d : Nat) (Post : Option Value → gm_H → Prop) (xs0 : Int32) (h : gm_H) : Prop :=
  Post (some (.int xs0)) h
theorem ok184_55 (c : gx) (d : Nat) (Post : Option Value → gm_H → Prop)  (xs0 : Int32) (h : gm_H) (w : w184_55 c d Post xs0 h) : gV c d 184 (55, [none, none, none], [.int xs0], h) Post := by
  have hk : ∀ pc i, gm_find gk_184 pc = some i → gm_code (gt_T c.1 c.2.1 c.2.2.1) 184 pc = some i := fun _ _ z => z
  unfold w184_55 at w
  unfold gV
  exact gw_ret (hk _ _ rfl) rfl w
def w184_24 (c : gx) (d : Nat) (Post : Option Value → gm_H → Prop) (r0 : Nat) (x1 : Int32) (x2 : Int32) (h : gm_H) : Prop :=
  gE c d 183 [.ref r0, .int x2, .int x1] h (fun v1 h_1 => ∃ x_1 : Int32, v1 = some (.int x_1) ∧ ((x_1 = 0 → w184_55 c d Post x2 h_1) ∧ (¬ (x_1 = 0) → gE c d 183 [.ref r0, .int (1 - x2), .int x1] h_1 (fun v3 h_3 => ∃ x_3 : Int32, v3 = some (.int x_3) ∧ ((x_3 = 0 → w184_55 c d Post (1 - x2) h_3) ∧ (¬ (x_3 = 0) → w184_55 c d Post (-1) h_3))))))
theorem ok184_24 (c : gx) (d : Nat) (Post : Option Value → gm_H → Prop)  (r0 : Nat) (x1 : Int32) (x2 : Int32) (h : gm_H) (w : w184_24 c d Post r0 x1 x2 h) : gV c d 184 (24, [some (.ref r0), some (.int x1), some (.int x2)], [], h) Post := by
  have hk : ∀ pc i, gm_find gk_184 pc = some i → gm_code (gt_T c.1 c.2.1 c.2.2.1) 184 pc = some i := fun _ _ z => z
  unfold w184_24 at w
  unfold gV
  refine gw_pst hk 3 (st' := (27, [some (.ref r0), some (.int x1), some (.int x2)], [.int x1, .int x2, .ref r0], h)) rfl ?_
  refine gw_call (jj := 183) (As := [.ref r0, .int x2, .int x1]) (rest := []) (hk _ _ rfl) (fun _ => rfl) rfl rfl (Nat.le_of_ble_eq_true rfl) rfl ?_
  refine ge_imp w (fun v1 h_1 w => ?_)
  obtain ⟨x_1, rfl, w⟩ := w
  show gV c d 184 (30, [some (.ref r0), some (.int x1), some (.int x2)], [.int x_1], h_1) Post
  refine gw_br (c := x_1 = 0) (a := (33, [some (.ref r0), some (.int x1), some (.int x2)], [], h_1)) (b := (37, [some (.ref r0), some (.int x1), some (.int x2)], [], h_1)) (hk _ _ rfl) rfl ⟨fun z2 => ?_, fun z2 => ?_⟩
  · replace w := w.1 z2
    refine gw_pst hk 2 (st' := (55, [some (.ref r0), some (.int x1), some (.int x2)], [.int x2], h_1)) rfl ?_
    refine gw_le (L' := [none, none, none]) (gm_le_n _ (gm_le_n _ (gm_le_n _ gm_le_nil))) ?_
    exact ok184_55 c d Post _ _ w
  · replace w := w.2 z2
    refine gw_pst hk 5 (st' := (42, [some (.ref r0), some (.int x1), some (.int x2)], [.int x1, .int (1 - x2), .ref r0], h_1)) rfl ?_
    refine gw_call (jj := 183) (As := [.ref r0, .int (1 - x2), .int x1]) (rest := []) (hk _ _ rfl) (fun _ => rfl) rfl rfl (Nat.le_of_ble_eq_true rfl) rfl ?_
    refine ge_imp w (fun v3 h_3 w => ?_)
    obtain ⟨x_3, rfl, w⟩ := w
    show gV c d 184 (45, [some (.ref r0), some (.int x1), some (.int x2)], [.int x_3], h_3) Post
    refine gw_br (c := x_3 = 0) (a := (48, [some (.ref r0), some (.int x1), some (.int x2)], [], h_3)) (b := (54, [some (.ref r0), some (.int x1), some (.int x2)], [], h_3)) (hk _ _ rfl) rfl ⟨fun z4 => ?_, fun z4 => ?_⟩
    · replace w := w.1 z4
      refine gw_pst hk 4 (st' := (55, [some (.ref r0), some (.int x1), some (.int x2)], [.int (1 - x2)], h_3)) rfl ?_
      refine gw_le (L' := [none, none, none]) (gm_le_n _ (gm_le_n _ (gm_le_n _ gm_le_nil))) ?_
      exact ok184_55 c d Post _ _ w
    · replace w := w.2 z4
      refine gw_pst hk 1 (st' := (55, [some (.ref r0), some (.int x1), some (.int x2)], [.int (-1)], h_3)) rfl ?_
      refine gw_le (L' := [none, none, none]) (gm_le_n _ (gm_le_n _ (gm_le_n _ gm_le_nil))) ?_
      exact ok184_55 c d Post _ _ w
/-- CommandByTurnsModel.whoseDay([II)I -/
def wm184 (c : gx) (d : Nat) (Post : Option Value → gm_H → Prop) (r0 : Nat) (x1 : Int32) (h : gm_H) : Prop :=
  ((100 ≤ x1 → w184_24 c d Post r0 x1 (x1 - x1 / 2 * 2) h) ∧ (¬ (100 ≤ x1) → ∃ (n2 : Nat) (f2 : Nat → Int32), gm_get h r0 = some (.inl (0, n2, .inl f2)) ∧ vp_in (8 + x1) n2 ∧ (((f2 (8 + x1 : Int32).toNatClampNeg) = 1 → w184_24 c d Post r0 x1 (1 - (x1 - x1 / 2 * 2)) h) ∧ (¬ ((f2 (8 + x1 : Int32).toNatClampNeg) = 1) → w184_24 c d Post r0 x1 (x1 - x1 / 2 * 2) h))))
theorem okm184 (c : gx) (d : Nat) (Post : Option Value → gm_H → Prop) (r0 : Nat) (x1 : Int32) (h : gm_H) (w : wm184 c d Post r0 x1 h) : gE c (d + 1) 184 [.ref r0, .int x1] h Post := by
  have hk : ∀ pc i, gm_find gk_184 pc = some i → gm_code (gt_T c.1 c.2.1 c.2.2.1) 184 pc = some i := fun _ _ z => z
  unfold wm184 at w
  refine ge_of (by decide) (Nat.le_of_ble_eq_true rfl) ?_
  show gV c d 184 (0, [some (.ref r0), some (.int x1), none], [], h) Post
  unfold gV
  refine gw_pst hk 2 (st' := (2, [some (.ref r0), some (.int x1), none], [.int 2, .int x1], h)) rfl ?_
  refine gw_irem (hk _ _ rfl) (by decide) ?_ rfl
  refine gw_pst hk 3 (st' := (7, [some (.ref r0), some (.int x1), some (.int (x1 - x1 / 2 * 2))], [.int 100, .int x1], h)) rfl ?_
  refine gw_br (c := 100 ≤ x1) (a := (24, [some (.ref r0), some (.int x1), some (.int (x1 - x1 / 2 * 2))], [], h)) (b := (10, [some (.ref r0), some (.int x1), some (.int (x1 - x1 / 2 * 2))], [], h)) (hk _ _ rfl) rfl ⟨fun z1 => ?_, fun z1 => ?_⟩
  · replace w := w.1 z1
    exact ok184_24 c d Post _ _ _ _ w
  · replace w := w.2 z1
    refine gw_pst hk 4 (st' := (15, [some (.ref r0), some (.int x1), some (.int (x1 - x1 / 2 * 2))], [.int (8 + x1), .ref r0], h)) rfl ?_
    obtain ⟨n2, f2, e2, b2, w⟩ := w
    refine gw_ald (hk _ _ rfl) (Or.inl ⟨rfl, rfl⟩) e2 b2 ?_
    refine gw_pst hk 1 (st' := (17, [some (.ref r0), some (.int x1), some (.int (x1 - x1 / 2 * 2))], [.int 1, .int (f2 (8 + x1 : Int32).toNatClampNeg)], h)) rfl ?_
    refine gw_br (c := (f2 (8 + x1 : Int32).toNatClampNeg) = 1) (a := (20, [some (.ref r0), some (.int x1), some (.int (x1 - x1 / 2 * 2))], [], h)) (b := (24, [some (.ref r0), some (.int x1), some (.int (x1 - x1 / 2 * 2))], [], h)) (hk _ _ rfl) rfl ⟨fun z3 => ?_, fun z3 => ?_⟩
    · replace w := w.1 z3
      refine gw_pst hk 4 (st' := (24, [some (.ref r0), some (.int x1), some (.int (1 - (x1 - x1 / 2 * 2)))], [], h)) rfl ?_
      exact ok184_24 c d Post _ _ _ _ w
    · replace w := w.2 z3
      exact ok184_24 c d Post _ _ _ _ w
def w185_15 (c : gx) (d : Nat) (Post : Option Value → gm_H → Prop) (xs0 : Int32) (h : gm_H) : Prop :=
  ((xs0 = 0 ∨ xs0 = 1) ∧ Post (some (.int xs0)) h)
theorem ok185_15 (c : gx) (d : Nat) (Post : Option Value → gm_H → Prop)  (xs0 : Int32) (h : gm_H) (w : w185_15 c d Post xs0 h) : gV c d 185 (15, [none, none], [.int xs0], h) Post := by
  have hk : ∀ pc i, gm_find gk_185 pc = some i → gm_code (gt_T c.1 c.2.1 c.2.2.1) 185 pc = some i := fun _ _ z => z
  unfold w185_15 at w
  unfold gV
  exact gw_retZ (hk _ _ rfl) rfl w.1 w.2
/-- CommandByTurnsModel.isNear(II)Z -/
def wm185 (c : gx) (d : Nat) (Post : Option Value → gm_H → Prop) (x0 : Int32) (x1 : Int32) (h : gm_H) : Prop :=
  ((1 < (if 0 ≤ (x0 - x1) then (x0 - x1) else 0 - (x0 - x1)) → w185_15 c d Post 0 h) ∧ (¬ (1 < (if 0 ≤ (x0 - x1) then (x0 - x1) else 0 - (x0 - x1))) → w185_15 c d Post 1 h))
theorem okm185 (c : gx) (d : Nat) (Post : Option Value → gm_H → Prop) (x0 : Int32) (x1 : Int32) (h : gm_H) (w : wm185 c d Post x0 x1 h) : gE c (d + 1) 185 [.int x0, .int x1] h Post := by
  have hk : ∀ pc i, gm_find gk_185 pc = some i → gm_code (gt_T c.1 c.2.1 c.2.2.1) 185 pc = some i := fun _ _ z => z
  unfold wm185 at w
  refine ge_of (by decide) (Nat.le_of_ble_eq_true rfl) ?_
  show gV c d 185 (0, [some (.int x0), some (.int x1)], [], h) Post
  unfold gV
  refine gw_pst hk 5 (st' := (7, [some (.int x0), some (.int x1)], [.int 1, .int (if 0 ≤ (x0 - x1) then (x0 - x1) else 0 - (x0 - x1))], h)) rfl ?_
  refine gw_br (c := 1 < (if 0 ≤ (x0 - x1) then (x0 - x1) else 0 - (x0 - x1))) (a := (14, [some (.int x0), some (.int x1)], [], h)) (b := (10, [some (.int x0), some (.int x1)], [], h)) (hk _ _ rfl) rfl ⟨fun z1 => ?_, fun z1 => ?_⟩
  · replace w := w.1 z1
    refine gw_pst hk 1 (st' := (15, [some (.int x0), some (.int x1)], [.int 0], h)) rfl ?_
    refine gw_le (L' := [none, none]) (gm_le_n _ (gm_le_n _ gm_le_nil)) ?_
    exact ok185_15 c d Post _ _ w
  · replace w := w.2 z1
    refine gw_pst hk 2 (st' := (15, [some (.int x0), some (.int x1)], [.int 1], h)) rfl ?_
    refine gw_le (L' := [none, none]) (gm_le_n _ (gm_le_n _ gm_le_nil)) ?_
    exact ok185_15 c d Post _ _ w
/-- CommandByTurnsModel.reachOf(I)I -/
def wm186 (c : gx) (d : Nat) (Post : Option Value → gm_H → Prop) (r0 : Nat) (x1 : Int32) (h : gm_H) : Prop :=
  ∃ q_1 : Nat, gm_fld h r0 10 4 = some (.ref q_1) ∧ ∃ (n2 : Nat) (f2 : Nat → Int32), gm_get h q_1 = some (.inl (0, n2, .inl f2)) ∧ vp_in x1 n2 ∧ Post (some (.int (((f2 (x1 : Int32).toNatClampNeg) / 3) + 1))) h
theorem okm186 (c : gx) (d : Nat) (Post : Option Value → gm_H → Prop) (r0 : Nat) (x1 : Int32) (h : gm_H) (w : wm186 c d Post r0 x1 h) : gE c (d + 1) 186 [.ref r0, .int x1] h Post := by
  have hk : ∀ pc i, gm_find gk_186 pc = some i → gm_code (gt_T c.1 c.2.1 c.2.2.1) 186 pc = some i := fun _ _ z => z
  unfold wm186 at w
  refine ge_of (by decide) (Nat.le_of_ble_eq_true rfl) ?_
  show gV c d 186 (0, [some (.ref r0), some (.int x1)], [], h) Post
  unfold gV
  refine gw_pst hk 1 (st' := (1, [some (.ref r0), some (.int x1)], [.ref r0], h)) rfl ?_
  obtain ⟨q_1, e1, w⟩ := w
  refine gw_gf (hk _ _ rfl) e1 ?_
  refine gw_pst hk 1 (st' := (5, [some (.ref r0), some (.int x1)], [.int x1, .ref q_1], h)) rfl ?_
  obtain ⟨n2, f2, e2, b2, w⟩ := w
  refine gw_ald (hk _ _ rfl) (Or.inl ⟨rfl, rfl⟩) e2 b2 ?_
  refine gw_pst hk 1 (st' := (7, [some (.ref r0), some (.int x1)], [.int 3, .int (f2 (x1 : Int32).toNatClampNeg)], h)) rfl ?_
  refine gw_idiv (hk _ _ rfl) (by decide) ?_ rfl
  refine gw_pst hk 2 (st' := (10, [some (.ref r0), some (.int x1)], [.int (((f2 (x1 : Int32).toNatClampNeg) / 3) + 1)], h)) rfl ?_
  exact gw_ret (hk _ _ rfl) rfl w
def w187_40 (c : gx) (d : Nat) (Post : Option Value → gm_H → Prop) (K14 : Nat → Int32 → Int32 → Int32 → Int32 → gm_H → Prop) (r0 : Nat) (x1 : Int32) (x2 : Int32) (x4 : Int32) (xs0 : Int32) (xs1 : Int32) (h : gm_H) : Prop :=
  K14 r0 x1 x2 (xs0 + xs1) (x4 + 1) h
theorem ok187_40 (c : gx) (d : Nat) (Post : Option Value → gm_H → Prop) (K14 : Nat → Int32 → Int32 → Int32 → Int32 → gm_H → Prop)  (hK14 : ∀ (r0 : Nat) (x1 : Int32) (x2 : Int32) (x3 : Int32) (x4 : Int32) (h : gm_H), K14 r0 x1 x2 x3 x4 h → gV c d 187 (14, [some (.ref r0), some (.int x1), some (.int x2), some (.int x3), some (.int x4)], [], h) Post) (r0 : Nat) (x1 : Int32) (x2 : Int32) (x4 : Int32) (xs0 : Int32) (xs1 : Int32) (h : gm_H) (w : w187_40 c d Post K14 r0 x1 x2 x4 xs0 xs1 h) : gV c d 187 (40, [some (.ref r0), some (.int x1), some (.int x2), none, some (.int x4)], [.int xs1, .int xs0], h) Post := by
  have hk : ∀ pc i, gm_find gk_187 pc = some i → gm_code (gt_T c.1 c.2.1 c.2.2.1) 187 pc = some i := fun _ _ z => z
  unfold w187_40 at w
  unfold gV
  refine gw_pst hk 4 (st' := (14, [some (.ref r0), some (.int x1), some (.int x2), some (.int (xs0 + xs1)), some (.int (x4 + 1))], [], h)) rfl ?_
  exact hK14 _ _ _ _ _ _ w
def wb187_14 (c : gx) (d : Nat) (Post : Option Value → gm_H → Prop) (K14 : Nat → Int32 → Int32 → Int32 → Int32 → gm_H → Prop) (r0 : Nat) (x1 : Int32) (x2 : Int32) (x3 : Int32) (x4 : Int32) (h : gm_H) : Prop :=
  (((if x1 < x2 then x2 else x1) ≤ x4 → Post (some (.int x3)) h) ∧ (¬ ((if x1 < x2 then x2 else x1) ≤ x4) → ∃ q_2 : Nat, gm_fld h r0 10 3 = some (.ref q_2) ∧ ∃ (n3 : Nat) (f3 : Nat → Int32), gm_get h q_2 = some (.inl (4, n3, .inl f3)) ∧ vp_in x4 n3 ∧ (((f3 (x4 : Int32).toNatClampNeg) = 0 → w187_40 c d Post K14 r0 x1 x2 x4 x3 0 h) ∧ (¬ ((f3 (x4 : Int32).toNatClampNeg) = 0) → w187_40 c d Post K14 r0 x1 x2 x4 x3 1 h))))
theorem okb187_14 (c : gx) (d : Nat) (Post : Option Value → gm_H → Prop) (K14 : Nat → Int32 → Int32 → Int32 → Int32 → gm_H → Prop)  (hK14 : ∀ (r0 : Nat) (x1 : Int32) (x2 : Int32) (x3 : Int32) (x4 : Int32) (h : gm_H), K14 r0 x1 x2 x3 x4 h → gV c d 187 (14, [some (.ref r0), some (.int x1), some (.int x2), some (.int x3), some (.int x4)], [], h) Post) (r0 : Nat) (x1 : Int32) (x2 : Int32) (x3 : Int32) (x4 : Int32) (h : gm_H) (w : wb187_14 c d Post K14 r0 x1 x2 x3 x4 h) : gV c d 187 (14, [some (.ref r0), some (.int x1), some (.int x2), some (.int x3), some (.int x4)], [], h) Post := by
  have hk : ∀ pc i, gm_find gk_187 pc = some i → gm_code (gt_T c.1 c.2.1 c.2.2.1) 187 pc = some i := fun _ _ z => z
  unfold wb187_14 at w
  unfold gV
  refine gw_pst hk 4 (st' := (21, [some (.ref r0), some (.int x1), some (.int x2), some (.int x3), some (.int x4)], [.int (if x1 < x2 then x2 else x1), .int x4], h)) rfl ?_
  refine gw_br (c := (if x1 < x2 then x2 else x1) ≤ x4) (a := (48, [some (.ref r0), some (.int x1), some (.int x2), some (.int x3), some (.int x4)], [], h)) (b := (24, [some (.ref r0), some (.int x1), some (.int x2), some (.int x3), some (.int x4)], [], h)) (hk _ _ rfl) rfl ⟨fun z1 => ?_, fun z1 => ?_⟩
  · replace w := w.1 z1
    refine gw_pst hk 1 (st' := (49, [some (.ref r0), some (.int x1), some (.int x2), some (.int x3), some (.int x4)], [.int x3], h)) rfl ?_
    exact gw_ret (hk _ _ rfl) rfl w
  · replace w := w.2 z1
    refine gw_pst hk 2 (st' := (26, [some (.ref r0), some (.int x1), some (.int x2), some (.int x3), some (.int x4)], [.ref r0, .int x3], h)) rfl ?_
    obtain ⟨q_2, e2, w⟩ := w
    refine gw_gf (hk _ _ rfl) e2 ?_
    refine gw_pst hk 1 (st' := (31, [some (.ref r0), some (.int x1), some (.int x2), some (.int x3), some (.int x4)], [.int x4, .ref q_2, .int x3], h)) rfl ?_
    obtain ⟨n3, f3, e3, b3, w⟩ := w
    refine gw_ald (hk _ _ rfl) (Or.inr (Or.inr ⟨rfl, rfl, Or.inr rfl⟩)) e3 b3 ?_
    refine gw_br (c := (f3 (x4 : Int32).toNatClampNeg) = 0) (a := (39, [some (.ref r0), some (.int x1), some (.int x2), some (.int x3), some (.int x4)], [.int x3], h)) (b := (35, [some (.ref r0), some (.int x1), some (.int x2), some (.int x3), some (.int x4)], [.int x3], h)) (hk _ _ rfl) rfl ⟨fun z4 => ?_, fun z4 => ?_⟩
    · replace w := w.1 z4
      refine gw_pst hk 1 (st' := (40, [some (.ref r0), some (.int x1), some (.int x2), some (.int x3), some (.int x4)], [.int 0, .int x3], h)) rfl ?_
      refine gw_le (L' := [some (.ref r0), some (.int x1), some (.int x2), none, some (.int x4)]) (gm_le_k _ (gm_le_k _ (gm_le_k _ (gm_le_n _ (gm_le_k _ gm_le_nil))))) ?_
      exact ok187_40 c d Post K14 hK14 _ _ _ _ _ _ _ w
    · replace w := w.2 z4
      refine gw_pst hk 2 (st' := (40, [some (.ref r0), some (.int x1), some (.int x2), some (.int x3), some (.int x4)], [.int 1, .int x3], h)) rfl ?_
      refine gw_le (L' := [some (.ref r0), some (.int x1), some (.int x2), none, some (.int x4)]) (gm_le_k _ (gm_le_k _ (gm_le_k _ (gm_le_n _ (gm_le_k _ gm_le_nil))))) ?_
      exact ok187_40 c d Post K14 hK14 _ _ _ _ _ _ _ w
def wl187_14 (c : gx) (d : Nat) (Post : Option Value → gm_H → Prop) : Nat → Nat → Int32 → Int32 → Int32 → Int32 → gm_H → Prop
  | 0 => fun _ _ _ _ _ _ => False
  | n + 1 => wb187_14 c d Post (wl187_14 c d Post n)
theorem okl187_14 (c : gx) (d : Nat) (Post : Option Value → gm_H → Prop) : ∀ (n : Nat) (r0 : Nat) (x1 : Int32) (x2 : Int32) (x3 : Int32) (x4 : Int32) (h : gm_H), wl187_14 c d Post n r0 x1 x2 x3 x4 h → gV c d 187 (14, [some (.ref r0), some (.int x1), some (.int x2), some (.int x3), some (.int x4)], [], h) Post
  | 0, _, _, _, _, _, _, w => w.elim
  | n + 1, r0, x1, x2, x3, x4, h, w => okb187_14 c d Post (wl187_14 c d Post n) (okl187_14 c d Post n) r0 x1 x2 x3 x4 h w
/-- CommandByTurnsModel.costOf(II)I -/
def wm187 (c : gx) (d : Nat) (Post : Option Value → gm_H → Prop) (r0 : Nat) (x1 : Int32) (x2 : Int32) (h : gm_H) : Prop :=
  ∃ n, wl187_14 c d Post n r0 x1 x2 (if 0 ≤ (x2 - x1) then (x2 - x1) else 0 - (x2 - x1)) (if x2 < x1 then x2 else x1) h
theorem okm187 (c : gx) (d : Nat) (Post : Option Value → gm_H → Prop) (r0 : Nat) (x1 : Int32) (x2 : Int32) (h : gm_H) (w : wm187 c d Post r0 x1 x2 h) : gE c (d + 1) 187 [.ref r0, .int x1, .int x2] h Post := by
  have hk : ∀ pc i, gm_find gk_187 pc = some i → gm_code (gt_T c.1 c.2.1 c.2.2.1) 187 pc = some i := fun _ _ z => z
  unfold wm187 at w
  refine ge_of (by decide) (Nat.le_of_ble_eq_true rfl) ?_
  show gV c d 187 (0, [some (.ref r0), some (.int x1), some (.int x2), none, none], [], h) Post
  unfold gV
  refine gw_pst hk 9 (st' := (14, [some (.ref r0), some (.int x1), some (.int x2), some (.int (if 0 ≤ (x2 - x1) then (x2 - x1) else 0 - (x2 - x1))), some (.int (if x2 < x1 then x2 else x1))], [], h)) rfl ?_
  obtain ⟨n, w⟩ := w
  exact okl187_14 c d Post n _ _ _ _ _ _ w
def w188_25 (c : gx) (d : Nat) (Post : Option Value → gm_H → Prop) (xs0 : Int32) (h : gm_H) : Prop :=
  ((xs0 = 0 ∨ xs0 = 1) ∧ Post (some (.int xs0)) h)
theorem ok188_25 (c : gx) (d : Nat) (Post : Option Value → gm_H → Prop)  (xs0 : Int32) (h : gm_H) (w : w188_25 c d Post xs0 h) : gV c d 188 (25, [none, none, none], [.int xs0], h) Post := by
  have hk : ∀ pc i, gm_find gk_188 pc = some i → gm_code (gt_T c.1 c.2.1 c.2.2.1) 188 pc = some i := fun _ _ z => z
  unfold w188_25 at w
  unfold gV
  exact gw_retZ (hk _ _ rfl) rfl w.1 w.2
def w188_20 (c : gx) (d : Nat) (Post : Option Value → gm_H → Prop)  (h : gm_H) : Prop :=
  w188_25 c d Post 1 h
theorem ok188_20 (c : gx) (d : Nat) (Post : Option Value → gm_H → Prop)   (h : gm_H) (w : w188_20 c d Post  h) : gV c d 188 (20, [none, none, none], [], h) Post := by
  have hk : ∀ pc i, gm_find gk_188 pc = some i → gm_code (gt_T c.1 c.2.1 c.2.2.1) 188 pc = some i := fun _ _ z => z
  unfold w188_20 at w
  unfold gV
  refine gw_pst hk 2 (st' := (25, [none, none, none], [.int 1], h)) rfl ?_
  exact ok188_25 c d Post _ _ w
def w188_24 (c : gx) (d : Nat) (Post : Option Value → gm_H → Prop)  (h : gm_H) : Prop :=
  w188_25 c d Post 0 h
theorem ok188_24 (c : gx) (d : Nat) (Post : Option Value → gm_H → Prop)   (h : gm_H) (w : w188_24 c d Post  h) : gV c d 188 (24, [none, none, none], [], h) Post := by
  have hk : ∀ pc i, gm_find gk_188 pc = some i → gm_code (gt_T c.1 c.2.1 c.2.2.1) 188 pc = some i := fun _ _ z => z
  unfold w188_24 at w
  unfold gV
  refine gw_pst hk 1 (st' := (25, [none, none, none], [.int 0], h)) rfl ?_
  exact ok188_25 c d Post _ _ w
def w188_10 (c : gx) (d : Nat) (Post : Option Value → gm_H → Prop) (x0 : Int32) (x1 : Int32) (x2 : Int32) (h : gm_H) : Prop :=
  ((x0 ≤ x2 → w188_24 c d Post h) ∧ (¬ (x0 ≤ x2) → ((x2 ≤ x1 → w188_24 c d Post h) ∧ (¬ (x2 ≤ x1) → w188_20 c d Post h))))
theorem ok188_10 (c : gx) (d : Nat) (Post : Option Value → gm_H → Prop)  (x0 : Int32) (x1 : Int32) (x2 : Int32) (h : gm_H) (w : w188_10 c d Post x0 x1 x2 h) : gV c d 188 (10, [some (.int x0), some (.int x1), some (.int x2)], [], h) Post := by
  have hk : ∀ pc i, gm_find gk_188 pc = some i → gm_code (gt_T c.1 c.2.1 c.2.2.1) 188 pc = some i := fun _ _ z => z
  unfold w188_10 at w
  unfold gV
  refine gw_pst hk 2 (st' := (12, [some (.int x0), some (.int x1), some (.int x2)], [.int x2, .int x0], h)) rfl ?_
  refine gw_br (c := x0 ≤ x2) (a := (24, [some (.int x0), some (.int x1), some (.int x2)], [], h)) (b := (15, [some (.int x0), some (.int x1), some (.int x2)], [], h)) (hk _ _ rfl) rfl ⟨fun z1 => ?_, fun z1 => ?_⟩
  · replace w := w.1 z1
    refine gw_le (L' := [none, none, none]) (gm_le_n _ (gm_le_n _ (gm_le_n _ gm_le_nil))) ?_
    exact ok188_24 c d Post _ w
  · replace w := w.2 z1
    refine gw_pst hk 2 (st' := (17, [some (.int x0), some (.int x1), some (.int x2)], [.int x2, .int x1], h)) rfl ?_
    refine gw_br (c := x2 ≤ x1) (a := (24, [some (.int x0), some (.int x1), some (.int x2)], [], h)) (b := (20, [some (.int x0), some (.int x1), some (.int x2)], [], h)) (hk _ _ rfl) rfl ⟨fun z2 => ?_, fun z2 => ?_⟩
    · replace w := w.1 z2
      refine gw_le (L' := [none, none, none]) (gm_le_n _ (gm_le_n _ (gm_le_n _ gm_le_nil))) ?_
      exact ok188_24 c d Post _ w
    · replace w := w.2 z2
      refine gw_le (L' := [none, none, none]) (gm_le_n _ (gm_le_n _ (gm_le_n _ gm_le_nil))) ?_
      exact ok188_20 c d Post _ w
/-- CommandByTurnsModel.isPast(III)Z -/
def wm188 (c : gx) (d : Nat) (Post : Option Value → gm_H → Prop) (x0 : Int32) (x1 : Int32) (x2 : Int32) (h : gm_H) : Prop :=
  ((x2 ≤ x0 → w188_10 c d Post x0 x1 x2 h) ∧ (¬ (x2 ≤ x0) → ((x2 < x1 → w188_20 c d Post h) ∧ (¬ (x2 < x1) → w188_10 c d Post x0 x1 x2 h))))
theorem okm188 (c : gx) (d : Nat) (Post : Option Value → gm_H → Prop) (x0 : Int32) (x1 : Int32) (x2 : Int32) (h : gm_H) (w : wm188 c d Post x0 x1 x2 h) : gE c (d + 1) 188 [.int x0, .int x1, .int x2] h Post := by
  have hk : ∀ pc i, gm_find gk_188 pc = some i → gm_code (gt_T c.1 c.2.1 c.2.2.1) 188 pc = some i := fun _ _ z => z
  unfold wm188 at w
  refine ge_of (by decide) (Nat.le_of_ble_eq_true rfl) ?_
  show gV c d 188 (0, [some (.int x0), some (.int x1), some (.int x2)], [], h) Post
  unfold gV
  refine gw_pst hk 2 (st' := (2, [some (.int x0), some (.int x1), some (.int x2)], [.int x2, .int x0], h)) rfl ?_
  refine gw_br (c := x2 ≤ x0) (a := (10, [some (.int x0), some (.int x1), some (.int x2)], [], h)) (b := (5, [some (.int x0), some (.int x1), some (.int x2)], [], h)) (hk _ _ rfl) rfl ⟨fun z1 => ?_, fun z1 => ?_⟩
  · replace w := w.1 z1
    exact ok188_10 c d Post _ _ _ _ w
  · replace w := w.2 z1
    refine gw_pst hk 2 (st' := (7, [some (.int x0), some (.int x1), some (.int x2)], [.int x2, .int x1], h)) rfl ?_
    refine gw_br (c := x2 < x1) (a := (20, [some (.int x0), some (.int x1), some (.int x2)], [], h)) (b := (10, [some (.int x0), some (.int x1), some (.int x2)], [], h)) (hk _ _ rfl) rfl ⟨fun z2 => ?_, fun z2 => ?_⟩
    · replace w := w.1 z2
      refine gw_le (L' := [none, none, none]) (gm_le_n _ (gm_le_n _ (gm_le_n _ gm_le_nil))) ?_
      exact ok188_20 c d Post _ w
    · replace w := w.2 z2
      exact ok188_10 c d Post _ _ _ _ w
def w189_50 (c : gx) (d : Nat) (Post : Option Value → gm_H → Prop) (K6 : Nat → Int32 → Int32 → Int32 → Int32 → Int32 → gm_H → Prop) (r0 : Nat) (x1 : Int32) (x2 : Int32) (x3 : Int32) (x5 : Int32) (xs0 : Int32) (xs1 : Int32) (h : gm_H) : Prop :=
  K6 r0 x1 x2 x3 (xs0 ||| xs1) (x5 + 1) h
theorem ok189_50 (c : gx) (d : Nat) (Post : Option Value → gm_H → Prop) (K6 : Nat → Int32 → Int32 → Int32 → Int32 → Int32 → gm_H → Prop)  (hK6 : ∀ (r0 : Nat) (x1 : Int32) (x2 : Int32) (x3 : Int32) (x4 : Int32) (x5 : Int32) (h : gm_H), K6 r0 x1 x2 x3 x4 x5 h → gV c d 189 (6, [some (.ref r0), some (.int x1), some (.int x2), some (.int x3), some (.int x4), some (.int x5)], [], h) Post) (r0 : Nat) (x1 : Int32) (x2 : Int32) (x3 : Int32) (x5 : Int32) (xs0 : Int32) (xs1 : Int32) (h : gm_H) (w : w189_50 c d Post K6 r0 x1 x2 x3 x5 xs0 xs1 h) : gV c d 189 (50, [some (.ref r0), some (.int x1), some (.int x2), some (.int x3), none, some (.int x5)], [.int xs1, .int xs0], h) Post := by
  have hk : ∀ pc i, gm_find gk_189 pc = some i → gm_code (gt_T c.1 c.2.1 c.2.2.1) 189 pc = some i := fun _ _ z => z
  unfold w189_50 at w
  unfold gV
  refine gw_pst hk 4 (st' := (6, [some (.ref r0), some (.int x1), some (.int x2), some (.int x3), some (.int (xs0 ||| xs1)), some (.int (x5 + 1))], [], h)) rfl ?_
  exact hK6 _ _ _ _ _ _ _ w
def w189_49 (c : gx) (d : Nat) (Post : Option Value → gm_H → Prop) (K6 : Nat → Int32 → Int32 → Int32 → Int32 → Int32 → gm_H → Prop) (r0 : Nat) (x1 : Int32) (x2 : Int32) (x3 : Int32) (x5 : Int32) (xs0 : Int32) (h : gm_H) : Prop :=
  w189_50 c d Post K6 r0 x1 x2 x3 x5 xs0 0 h
theorem ok189_49 (c : gx) (d : Nat) (Post : Option Value → gm_H → Prop) (K6 : Nat → Int32 → Int32 → Int32 → Int32 → Int32 → gm_H → Prop)  (hK6 : ∀ (r0 : Nat) (x1 : Int32) (x2 : Int32) (x3 : Int32) (x4 : Int32) (x5 : Int32) (h : gm_H), K6 r0 x1 x2 x3 x4 x5 h → gV c d 189 (6, [some (.ref r0), some (.int x1), some (.int x2), some (.int x3), some (.int x4), some (.int x5)], [], h) Post) (r0 : Nat) (x1 : Int32) (x2 : Int32) (x3 : Int32) (x5 : Int32) (xs0 : Int32) (h : gm_H) (w : w189_49 c d Post K6 r0 x1 x2 x3 x5 xs0 h) : gV c d 189 (49, [some (.ref r0), some (.int x1), some (.int x2), some (.int x3), none, some (.int x5)], [.int xs0], h) Post := by
  have hk : ∀ pc i, gm_find gk_189 pc = some i → gm_code (gt_T c.1 c.2.1 c.2.2.1) 189 pc = some i := fun _ _ z => z
  unfold w189_49 at w
  unfold gV
  refine gw_pst hk 1 (st' := (50, [some (.ref r0), some (.int x1), some (.int x2), some (.int x3), none, some (.int x5)], [.int 0, .int xs0], h)) rfl ?_
  exact ok189_50 c d Post K6 hK6 _ _ _ _ _ _ _ _ w
def wb189_6 (c : gx) (d : Nat) (Post : Option Value → gm_H → Prop) (K6 : Nat → Int32 → Int32 → Int32 → Int32 → Int32 → gm_H → Prop) (r0 : Nat) (x1 : Int32) (x2 : Int32) (x3 : Int32) (x4 : Int32) (x5 : Int32) (h : gm_H) : Prop :=
  ∃ x_1 : Int32, gm_fld h r0 10 1 = some (.int x_1) ∧ ((x_1 ≤ x5 → Post (some (.int x4)) h) ∧ (¬ (x_1 ≤ x5) → (∃ fs3, gm_get h r0 = some (.inr (10, fs3))) ∧ gE c d 187 [.ref r0, .int x2, .int x5] h (fun v3 h_3 => ∃ x_3 : Int32, v3 = some (.int x_3) ∧ (∃ fs4, gm_get h_3 r0 = some (.inr (10, fs4))) ∧ gE c d 186 [.ref r0, .int x1] h_3 (fun v4 h_4 => ∃ x_4 : Int32, v4 = some (.int x_4) ∧ ((x_4 < x_3 → w189_49 c d Post K6 r0 x1 x2 x3 x5 x4 h_4) ∧ (¬ (x_4 < x_3) → gE c d 188 [.int x2, .int x5, .int x3] h_4 (fun v6 h_6 => ∃ x_6 : Int32, v6 = some (.int x_6) ∧ ((x_6 = 0 → w189_50 c d Post K6 r0 x1 x2 x3 x5 x4 (1 <<< (x5 &&& 31)) h_6) ∧ (¬ (x_6 = 0) → w189_49 c d Post K6 r0 x1 x2 x3 x5 x4 h_6)))))))))
theorem okb189_6 (c : gx) (d : Nat) (Post : Option Value → gm_H → Prop) (K6 : Nat → Int32 → Int32 → Int32 → Int32 → Int32 → gm_H → Prop)  (hK6 : ∀ (r0 : Nat) (x1 : Int32) (x2 : Int32) (x3 : Int32) (x4 : Int32) (x5 : Int32) (h : gm_H), K6 r0 x1 x2 x3 x4 x5 h → gV c d 189 (6, [some (.ref r0), some (.int x1), some (.int x2), some (.int x3), some (.int x4), some (.int x5)], [], h) Post) (r0 : Nat) (x1 : Int32) (x2 : Int32) (x3 : Int32) (x4 : Int32) (x5 : Int32) (h : gm_H) (w : wb189_6 c d Post K6 r0 x1 x2 x3 x4 x5 h) : gV c d 189 (6, [some (.ref r0), some (.int x1), some (.int x2), some (.int x3), some (.int x4), some (.int x5)], [], h) Post := by
  have hk : ∀ pc i, gm_find gk_189 pc = some i → gm_code (gt_T c.1 c.2.1 c.2.2.1) 189 pc = some i := fun _ _ z => z
  unfold wb189_6 at w
  unfold gV
  refine gw_pst hk 2 (st' := (9, [some (.ref r0), some (.int x1), some (.int x2), some (.int x3), some (.int x4), some (.int x5)], [.ref r0, .int x5], h)) rfl ?_
  obtain ⟨x_1, e1, w⟩ := w
  refine gw_gf (hk _ _ rfl) e1 ?_
  refine gw_br (c := x_1 ≤ x5) (a := (59, [some (.ref r0), some (.int x1), some (.int x2), some (.int x3), some (.int x4), some (.int x5)], [], h)) (b := (15, [some (.ref r0), some (.int x1), some (.int x2), some (.int x3), some (.int x4), some (.int x5)], [], h)) (hk _ _ rfl) rfl ⟨fun z2 => ?_, fun z2 => ?_⟩
  · replace w := w.1 z2
    refine gw_pst hk 1 (st' := (61, [some (.ref r0), some (.int x1), some (.int x2), some (.int x3), some (.int x4), some (.int x5)], [.int x4], h)) rfl ?_
    exact gw_ret (hk _ _ rfl) rfl w
  · replace w := w.2 z2
    refine gw_pst hk 4 (st' := (21, [some (.ref r0), some (.int x1), some (.int x2), some (.int x3), some (.int x4), some (.int x5)], [.int x5, .int x2, .ref r0, .int x4], h)) rfl ?_
    obtain ⟨⟨fs3, e3⟩, w⟩ := w
    refine gw_call (jj := 187) (As := [.ref r0, .int x2, .int x5]) (rest := [.int x4]) (hk _ _ rfl) (fun _ => rfl) rfl rfl (Nat.le_of_ble_eq_true rfl) (gm_rcv_v rfl e3 rfl) ?_
    refine ge_imp w (fun v3 h_3 w => ?_)
    obtain ⟨x_3, rfl, w⟩ := w
    show gV c d 189 (24, [some (.ref r0), some (.int x1), some (.int x2), some (.int x3), some (.int x4), some (.int x5)], [.int x_3, .int x4], h_3) Post
    refine gw_pst hk 2 (st' := (26, [some (.ref r0), some (.int x1), some (.int x2), some (.int x3), some (.int x4), some (.int x5)], [.int x1, .ref r0, .int x_3, .int x4], h_3)) rfl ?_
    obtain ⟨⟨fs4, e4⟩, w⟩ := w
    refine gw_call (jj := 186) (As := [.ref r0, .int x1]) (rest := [.int x_3, .int x4]) (hk _ _ rfl) (fun _ => rfl) rfl rfl (Nat.le_of_ble_eq_true rfl) (gm_rcv_v rfl e4 rfl) ?_
    refine ge_imp w (fun v4 h_4 w => ?_)
    obtain ⟨x_4, rfl, w⟩ := w
    show gV c d 189 (29, [some (.ref r0), some (.int x1), some (.int x2), some (.int x3), some (.int x4), some (.int x5)], [.int x_4, .int x_3, .int x4], h_4) Post
    refine gw_br (c := x_4 < x_3) (a := (49, [some (.ref r0), some (.int x1), some (.int x2), some (.int x3), some (.int x4), some (.int x5)], [.int x4], h_4)) (b := (32, [some (.ref r0), some (.int x1), some (.int x2), some (.int x3), some (.int x4), some (.int x5)], [.int x4], h_4)) (hk _ _ rfl) rfl ⟨fun z5 => ?_, fun z5 => ?_⟩
    · replace w := w.1 z5
      refine gw_le (L' := [some (.ref r0), some (.int x1), some (.int x2), some (.int x3), none, some (.int x5)]) (gm_le_k _ (gm_le_k _ (gm_le_k _ (gm_le_k _ (gm_le_n _ (gm_le_k _ gm_le_nil)))))) ?_
      exact ok189_49 c d Post K6 hK6 _ _ _ _ _ _ _ w
    · replace w := w.2 z5
      refine gw_pst hk 3 (st' := (36, [some (.ref r0), some (.int x1), some (.int x2), some (.int x3), some (.int x4), some (.int x5)], [.int x3, .int x5, .int x2, .int x4], h_4)) rfl ?_
      refine gw_call (jj := 188) (As := [.int x2, .int x5, .int x3]) (rest := [.int x4]) (hk _ _ rfl) (fun _ => rfl) rfl rfl (Nat.le_of_ble_eq_true rfl) rfl ?_
      refine ge_imp w (fun v6 h_6 w => ?_)
      obtain ⟨x_6, rfl, w⟩ := w
      show gV c d 189 (39, [some (.ref r0), some (.int x1), some (.int x2), some (.int x3), some (.int x4), some (.int x5)], [.int x_6, .int x4], h_6) Post
      refine gw_br (c := x_6 = 0) (a := (42, [some (.ref r0), some (.int x1), some (.int x2), some (.int x3), some (.int x4), some (.int x5)], [.int x4], h_6)) (b := (49, [some (.ref r0), some (.int x1), some (.int x2), some (.int x3), some (.int x4), some (.int x5)], [.int x4], h_6)) (hk _ _ rfl) rfl ⟨fun z7 => ?_, fun z7 => ?_⟩
      · replace w := w.1 z7
        refine gw_pst hk 4 (st' := (50, [some (.ref r0), some (.int x1), some (.int x2), some (.int x3), some (.int x4), some (.int x5)], [.int (1 <<< (x5 &&& 31)), .int x4], h_6)) rfl ?_
        refine gw_le (L' := [some (.ref r0), some (.int x1), some (.int x2), some (.int x3), none, some (.int x5)]) (gm_le_k _ (gm_le_k _ (gm_le_k _ (gm_le_k _ (gm_le_n _ (gm_le_k _ gm_le_nil)))))) ?_
        exact ok189_50 c d Post K6 hK6 _ _ _ _ _ _ _ _ w
      · replace w := w.2 z7
        refine gw_le (L' := [some (.ref r0), some (.int x1), some (.int x2), some (.int x3), none, some (.int x5)]) (gm_le_k _ (gm_le_k _ (gm_le_k _ (gm_le_k _ (gm_le_n _ (gm_le_k _ gm_le_nil)))))) ?_
        exact ok189_49 c d Post K6 hK6 _ _ _ _ _ _ _ w
def wl189_6 (c : gx) (d : Nat) (Post : Option Value → gm_H → Prop) : Nat → Nat → Int32 → Int32 → Int32 → Int32 → Int32 → gm_H → Prop
  | 0 => fun _ _ _ _ _ _ _ => False
  | n + 1 => wb189_6 c d Post (wl189_6 c d Post n)
theorem okl189_6 (c : gx) (d : Nat) (Post : Option Value → gm_H → Prop) : ∀ (n : Nat) (r0 : Nat) (x1 : Int32) (x2 : Int32) (x3 : Int32) (x4 : Int32) (x5 : Int32) (h : gm_H), wl189_6 c d Post n r0 x1 x2 x3 x4 x5 h → gV c d 189 (6, [some (.ref r0), some (.int x1), some (.int x2), some (.int x3), some (.int x4), some (.int x5)], [], h) Post
  | 0, _, _, _, _, _, _, _, w => w.elim
  | n + 1, r0, x1, x2, x3, x4, x5, h, w => okb189_6 c d Post (wl189_6 c d Post n) (okl189_6 c d Post n) r0 x1 x2 x3 x4 x5 h w
/-- CommandByTurnsModel.reachable(III)I -/
def wm189 (c : gx) (d : Nat) (Post : Option Value → gm_H → Prop) (r0 : Nat) (x1 : Int32) (x2 : Int32) (x3 : Int32) (h : gm_H) : Prop :=
  ∃ n, wl189_6 c d Post n r0 x1 x2 x3 0 0 h
theorem okm189 (c : gx) (d : Nat) (Post : Option Value → gm_H → Prop) (r0 : Nat) (x1 : Int32) (x2 : Int32) (x3 : Int32) (h : gm_H) (w : wm189 c d Post r0 x1 x2 x3 h) : gE c (d + 1) 189 [.ref r0, .int x1, .int x2, .int x3] h Post := by
  have hk : ∀ pc i, gm_find gk_189 pc = some i → gm_code (gt_T c.1 c.2.1 c.2.2.1) 189 pc = some i := fun _ _ z => z
  unfold wm189 at w
  refine ge_of (by decide) (Nat.le_of_ble_eq_true rfl) ?_
  show gV c d 189 (0, [some (.ref r0), some (.int x1), some (.int x2), some (.int x3), none, none], [], h) Post
  unfold gV
  refine gw_pst hk 4 (st' := (6, [some (.ref r0), some (.int x1), some (.int x2), some (.int x3), some (.int 0), some (.int 0)], [], h)) rfl ?_
  obtain ⟨n, w⟩ := w
  exact okl189_6 c d Post n _ _ _ _ _ _ _ w
def w190_22 (c : gx) (d : Nat) (Post : Option Value → gm_H → Prop) (r0 : Nat) (h : gm_H) : Prop :=
  (∃ fs1, gm_get h r0 = some (.inr (10, fs1))) ∧ gE c d 156 [.ref r0] h (fun v1 h_1 => ∃ x_1 : Int32, v1 = some (.int x_1) ∧ Post (some (.int x_1)) h_1)
theorem ok190_22 (c : gx) (d : Nat) (Post : Option Value → gm_H → Prop)  (r0 : Nat) (h : gm_H) (w : w190_22 c d Post r0 h) : gV c d 190 (22, [some (.ref r0), none, none], [], h) Post := by
  have hk : ∀ pc i, gm_find gk_190 pc = some i → gm_code (gt_T c.1 c.2.1 c.2.2.1) 190 pc = some i := fun _ _ z => z
  unfold w190_22 at w
  unfold gV
  refine gw_pst hk 1 (st' := (23, [some (.ref r0), none, none], [.ref r0], h)) rfl ?_
  obtain ⟨⟨fs1, e1⟩, w⟩ := w
  refine gw_call (jj := 156) (As := [.ref r0]) (rest := []) (hk _ _ rfl) (fun _ => rfl) rfl rfl (Nat.le_of_ble_eq_true rfl) (gm_rcv_v rfl e1 rfl) ?_
  refine ge_imp w (fun v1 h_1 w => ?_)
  obtain ⟨x_1, rfl, w⟩ := w
  show gV c d 190 (26, [some (.ref r0), none, none], [.int x_1], h_1) Post
  exact gw_ret (hk _ _ rfl) rfl w
def w190_96 (c : gx) (d : Nat) (Post : Option Value → gm_H → Prop) (xs0 : Int32) (h : gm_H) : Prop :=
  Post (some (.int xs0)) h
theorem ok190_96 (c : gx) (d : Nat) (Post : Option Value → gm_H → Prop)  (xs0 : Int32) (h : gm_H) (w : w190_96 c d Post xs0 h) : gV c d 190 (96, [none, none, none], [.int xs0], h) Post := by
  have hk : ∀ pc i, gm_find gk_190 pc = some i → gm_code (gt_T c.1 c.2.1 c.2.2.1) 190 pc = some i := fun _ _ z => z
  unfold w190_96 at w
  unfold gV
  exact gw_ret (hk _ _ rfl) rfl w
def w190_68 (c : gx) (d : Nat) (Post : Option Value → gm_H → Prop)  (h : gm_H) : Prop :=
  w190_96 c d Post 0 h
theorem ok190_68 (c : gx) (d : Nat) (Post : Option Value → gm_H → Prop)   (h : gm_H) (w : w190_68 c d Post  h) : gV c d 190 (68, [none, none, none], [], h) Post := by
  have hk : ∀ pc i, gm_find gk_190 pc = some i → gm_code (gt_T c.1 c.2.1 c.2.2.1) 190 pc = some i := fun _ _ z => z
  unfold w190_68 at w
  unfold gV
  refine gw_pst hk 2 (st' := (96, [none, none, none], [.int 0], h)) rfl ?_
  exact ok190_96 c d Post _ _ w
def w190_86 (c : gx) (d : Nat) (Post : Option Value → gm_H → Prop) (x1 : Int32) (rs0 : Nat) (xs1 : Int32) (h : gm_H) : Prop :=
  ∃ (n1 : Nat) (f1 : Nat → Int32), gm_get h rs0 = some (.inl (0, n1, .inl f1)) ∧ vp_in xs1 n1 ∧ (((f1 (xs1 : Int32).toNatClampNeg) = x1 → w190_96 c d Post 1 h) ∧ (¬ ((f1 (xs1 : Int32).toNatClampNeg) = x1) → w190_96 c d Post 0 h))
theorem ok190_86 (c : gx) (d : Nat) (Post : Option Value → gm_H → Prop)  (x1 : Int32) (rs0 : Nat) (xs1 : Int32) (h : gm_H) (w : w190_86 c d Post x1 rs0 xs1 h) : gV c d 190 (86, [none, some (.int x1), none], [.int xs1, .ref rs0], h) Post := by
  have hk : ∀ pc i, gm_find gk_190 pc = some i → gm_code (gt_T c.1 c.2.1 c.2.2.1) 190 pc = some i := fun _ _ z => z
  unfold w190_86 at w
  unfold gV
  obtain ⟨n1, f1, e1, b1, w⟩ := w
  refine gw_ald (hk _ _ rfl) (Or.inl ⟨rfl, rfl⟩) e1 b1 ?_
  refine gw_pst hk 1 (st' := (88, [none, some (.int x1), none], [.int x1, .int (f1 (xs1 : Int32).toNatClampNeg)], h)) rfl ?_
  refine gw_br (c := (f1 (xs1 : Int32).toNatClampNeg) = x1) (a := (91, [none, some (.int x1), none], [], h)) (b := (95, [none, some (.int x1), none], [], h)) (hk _ _ rfl) rfl ⟨fun z2 => ?_, fun z2 => ?_⟩
  · replace w := w.1 z2
    refine gw_pst hk 2 (st' := (96, [none, some (.int x1), none], [.int 1], h)) rfl ?_
    refine gw_le (L' := [none, none, none]) (gm_le_k _ (gm_le_n _ (gm_le_k _ gm_le_nil))) ?_
    exact ok190_96 c d Post _ _ w
  · replace w := w.2 z2
    refine gw_pst hk 1 (st' := (96, [none, some (.int x1), none], [.int 0], h)) rfl ?_
    refine gw_le (L' := [none, none, none]) (gm_le_k _ (gm_le_n _ (gm_le_k _ gm_le_nil))) ?_
    exact ok190_96 c d Post _ _ w
/-- CommandByTurnsModel.field(II)I -/
def wm190 (c : gx) (d : Nat) (Post : Option Value → gm_H → Prop) (r0 : Nat) (x1 : Int32) (x2 : Int32) (h : gm_H) : Prop :=
  ∃ fs1 : List Value, gm_get h r0 = some (.inr (10, fs1)) ∧ 13 < fs1.length ∧ ∀ h_1 : gm_H, h_1 = gm_put h r0 (.inr (10, fs1.set 13 (.int 0))) → (∃ fs2, gm_get h_1 r0 = some (.inr (10, fs2))) ∧ gE c d 158 [.ref r0, .int x1] h_1 (fun v2 h_2 => ∃ x_2 : Int32, v2 = some (.int x_2) ∧ ((x_2 = 0 → w190_22 c d Post r0 h_2) ∧ (¬ (x_2 = 0) → gE c d 154 [.int x2, .int 0, .int 3] h_2 (fun v4 h_4 => ∃ x_4 : Int32, v4 = some (.int x_4) ∧ ((x_4 = 0 → w190_22 c d Post r0 h_4) ∧ (¬ (x_4 = 0) → ((x2 = 0 → ∃ q_7 : Nat, gm_fld h_4 r0 10 2 = some (.ref q_7) ∧ ∃ (n8 : Nat) (f8 : Nat → Int32), gm_get h_4 q_7 = some (.inl (0, n8, .inl f8)) ∧ vp_in x1 n8 ∧ w190_96 c d Post (f8 (x1 : Int32).toNatClampNeg) h_4) ∧ (¬ (x2 = 0) → ((x2 = 1 → ∃ x_10 : Int32, gm_fld h_4 r0 10 1 = some (.int x_10) ∧ ((x_10 ≤ (x1 + 1) → w190_68 c d Post h_4) ∧ (¬ (x_10 ≤ (x1 + 1)) → ∃ q_12 : Nat, gm_fld h_4 r0 10 3 = some (.ref q_12) ∧ ∃ (n13 : Nat) (f13 : Nat → Int32), gm_get h_4 q_12 = some (.inl (4, n13, .inl f13)) ∧ vp_in x1 n13 ∧ (((f13 (x1 : Int32).toNatClampNeg) = 0 → w190_68 c d Post h_4) ∧ (¬ ((f13 (x1 : Int32).toNatClampNeg) = 0) → w190_96 c d Post 1 h_4))))) ∧ (¬ (x2 = 1) → ∃ q_15 : Nat, gm_fld h_4 r0 10 0 = some (.ref q_15) ∧ ((x2 = 2 → w190_86 c d Post x1 q_15 1 h_4) ∧ (¬ (x2 = 2) → w190_86 c d Post x1 q_15 2 h_4))))))))))))
theorem okm190 (c : gx) (d : Nat) (Post : Option Value → gm_H → Prop) (r0 : Nat) (x1 : Int32) (x2 : Int32) (h : gm_H) (w : wm190 c d Post r0 x1 x2 h) : gE c (d + 1) 190 [.ref r0, .int x1, .int x2] h Post := by
  have hk : ∀ pc i, gm_find gk_190 pc = some i → gm_code (gt_T c.1 c.2.1 c.2.2.1) 190 pc = some i := fun _ _ z => z
  unfold wm190 at w
  refine ge_of (by decide) (Nat.le_of_ble_eq_true rfl) ?_
  show gV c d 190 (0, [some (.ref r0), some (.int x1), some (.int x2)], [], h) Post
  unfold gV
  refine gw_pst hk 2 (st' := (2, [some (.ref r0), some (.int x1), some (.int x2)], [.int 0, .ref r0], h)) rfl ?_
  obtain ⟨fs1, e1, l1, w⟩ := w
  refine gw_pf (hk _ _ rfl) e1 l1 rfl ?_
  obtain ⟨h_1, eh1⟩ : ∃ z, z = gm_put h r0 (.inr (10, fs1.set 13 (.int 0))) := ⟨_, rfl⟩
  rw [← eh1]
  replace w := w h_1 eh1
  refine gw_pst hk 2 (st' := (7, [some (.ref r0), some (.int x1), some (.int x2)], [.int x1, .ref r0], h_1)) rfl ?_
  obtain ⟨⟨fs2, e2⟩, w⟩ := w
  refine gw_call (jj := 158) (As := [.ref r0, .int x1]) (rest := []) (hk _ _ rfl) (fun _ => rfl) rfl rfl (Nat.le_of_ble_eq_true rfl) (gm_rcv_v rfl e2 rfl) ?_
  refine ge_imp w (fun v2 h_2 w => ?_)
  obtain ⟨x_2, rfl, w⟩ := w
  show gV c d 190 (10, [some (.ref r0), some (.int x1), some (.int x2)], [.int x_2], h_2) Post
  refine gw_br (c := x_2 = 0) (a := (22, [some (.ref r0), some (.int x1), some (.int x2)], [], h_2)) (b := (13, [some (.ref r0), some (.int x1), some (.int x2)], [], h_2)) (hk _ _ rfl) rfl ⟨fun z3 => ?_, fun z3 => ?_⟩
  · replace w := w.1 z3
    refine gw_le (L' := [some (.ref r0), none, none]) (gm_le_k _ (gm_le_n _ (gm_le_n _ gm_le_nil))) ?_
    exact ok190_22 c d Post _ _ w
  · replace w := w.2 z3
    refine gw_pst hk 3 (st' := (16, [some (.ref r0), some (.int x1), some (.int x2)], [.int 3, .int 0, .int x2], h_2)) rfl ?_
    refine gw_call (jj := 154) (As := [.int x2, .int 0, .int 3]) (rest := []) (hk _ _ rfl) (fun _ => rfl) rfl rfl (Nat.le_of_ble_eq_true rfl) rfl ?_
    refine ge_imp w (fun v4 h_4 w => ?_)
    obtain ⟨x_4, rfl, w⟩ := w
    show gV c d 190 (19, [some (.ref r0), some (.int x1), some (.int x2)], [.int x_4], h_4) Post
    refine gw_br (c := x_4 = 0) (a := (22, [some (.ref r0), some (.int x1), some (.int x2)], [], h_4)) (b := (27, [some (.ref r0), some (.int x1), some (.int x2)], [], h_4)) (hk _ _ rfl) rfl ⟨fun z5 => ?_, fun z5 => ?_⟩
    · replace w := w.1 z5
      refine gw_le (L' := [some (.ref r0), none, none]) (gm_le_k _ (gm_le_n _ (gm_le_n _ gm_le_nil))) ?_
      exact ok190_22 c d Post _ _ w
    · replace w := w.2 z5
      refine gw_pst hk 1 (st' := (28, [some (.ref r0), some (.int x1), some (.int x2)], [.int x2], h_4)) rfl ?_
      refine gw_br (c := x2 = 0) (a := (31, [some (.ref r0), some (.int x1), some (.int x2)], [], h_4)) (b := (40, [some (.ref r0), some (.int x1), some (.int x2)], [], h_4)) (hk _ _ rfl) rfl ⟨fun z6 => ?_, fun z6 => ?_⟩
      · replace w := w.1 z6
        refine gw_pst hk 1 (st' := (32, [some (.ref r0), some (.int x1), some (.int x2)], [.ref r0], h_4)) rfl ?_
        obtain ⟨q_7, e7, w⟩ := w
        refine gw_gf (hk _ _ rfl) e7 ?_
        refine gw_pst hk 1 (st' := (36, [some (.ref r0), some (.int x1), some (.int x2)], [.int x1, .ref q_7], h_4)) rfl ?_
        obtain ⟨n8, f8, e8, b8, w⟩ := w
        refine gw_ald (hk _ _ rfl) (Or.inl ⟨rfl, rfl⟩) e8 b8 ?_
        refine gw_pst hk 1 (st' := (96, [some (.ref r0), some (.int x1), some (.int x2)], [.int (f8 (x1 : Int32).toNatClampNeg)], h_4)) rfl ?_
        refine gw_le (L' := [none, none, none]) (gm_le_n _ (gm_le_n _ (gm_le_n _ gm_le_nil))) ?_
        exact ok190_96 c d Post _ _ w
      · replace w := w.2 z6
        refine gw_pst hk 2 (st' := (42, [some (.ref r0), some (.int x1), some (.int x2)], [.int 1, .int x2], h_4)) rfl ?_
        refine gw_br (c := x2 = 1) (a := (45, [some (.ref r0), some (.int x1), some (.int x2)], [], h_4)) (b := (72, [some (.ref r0), some (.int x1), some (.int x2)], [], h_4)) (hk _ _ rfl) rfl ⟨fun z9 => ?_, fun z9 => ?_⟩
        · replace w := w.1 z9
          refine gw_pst hk 4 (st' := (49, [some (.ref r0), some (.int x1), some (.int x2)], [.ref r0, .int (x1 + 1)], h_4)) rfl ?_
          obtain ⟨x_10, e10, w⟩ := w
          refine gw_gf (hk _ _ rfl) e10 ?_
          refine gw_br (c := x_10 ≤ (x1 + 1)) (a := (68, [some (.ref r0), some (.int x1), some (.int x2)], [], h_4)) (b := (55, [some (.ref r0), some (.int x1), some (.int x2)], [], h_4)) (hk _ _ rfl) rfl ⟨fun z11 => ?_, fun z11 => ?_⟩
          · replace w := w.1 z11
            refine gw_le (L' := [none, none, none]) (gm_le_n _ (gm_le_n _ (gm_le_n _ gm_le_nil))) ?_
            exact ok190_68 c d Post _ w
          · replace w := w.2 z11
            refine gw_pst hk 1 (st' := (56, [some (.ref r0), some (.int x1), some (.int x2)], [.ref r0], h_4)) rfl ?_
            obtain ⟨q_12, e12, w⟩ := w
            refine gw_gf (hk _ _ rfl) e12 ?_
            refine gw_pst hk 1 (st' := (60, [some (.ref r0), some (.int x1), some (.int x2)], [.int x1, .ref q_12], h_4)) rfl ?_
            obtain ⟨n13, f13, e13, b13, w⟩ := w
            refine gw_ald (hk _ _ rfl) (Or.inr (Or.inr ⟨rfl, rfl, Or.inr rfl⟩)) e13 b13 ?_
            refine gw_br (c := (f13 (x1 : Int32).toNatClampNeg) = 0) (a := (68, [some (.ref r0), some (.int x1), some (.int x2)], [], h_4)) (b := (64, [some (.ref r0), some (.int x1), some (.int x2)], [], h_4)) (hk _ _ rfl) rfl ⟨fun z14 => ?_, fun z14 => ?_⟩
            · replace w := w.1 z14
              refine gw_le (L' := [none, none, none]) (gm_le_n _ (gm_le_n _ (gm_le_n _ gm_le_nil))) ?_
              exact ok190_68 c d Post _ w
            · replace w := w.2 z14
              refine gw_pst hk 2 (st' := (96, [some (.ref r0), some (.int x1), some (.int x2)], [.int 1], h_4)) rfl ?_
              refine gw_le (L' := [none, none, none]) (gm_le_n _ (gm_le_n _ (gm_le_n _ gm_le_nil))) ?_
              exact ok190_96 c d Post _ _ w
        · replace w := w.2 z9
          refine gw_pst hk 1 (st' := (73, [some (.ref r0), some (.int x1), some (.int x2)], [.ref r0], h_4)) rfl ?_
          obtain ⟨q_15, e15, w⟩ := w
          refine gw_gf (hk _ _ rfl) e15 ?_
          refine gw_pst hk 2 (st' := (78, [some (.ref r0), some (.int x1), some (.int x2)], [.int 2, .int x2, .ref q_15], h_4)) rfl ?_
          refine gw_br (c := x2 = 2) (a := (81, [some (.ref r0), some (.int x1), some (.int x2)], [.ref q_15], h_4)) (b := (85, [some (.ref r0), some (.int x1), some (.int x2)], [.ref q_15], h_4)) (hk _ _ rfl) rfl ⟨fun z16 => ?_, fun z16 => ?_⟩
          · replace w := w.1 z16
            refine gw_pst hk 2 (st' := (86, [some (.ref r0), some (.int x1), some (.int x2)], [.int 1, .ref q_15], h_4)) rfl ?_
            refine gw_le (L' := [none, some (.int x1), none]) (gm_le_n _ (gm_le_k _ (gm_le_n _ gm_le_nil))) ?_
            exact ok190_86 c d Post _ _ _ _ w
          · replace w := w.2 z16
            refine gw_pst hk 1 (st' := (86, [some (.ref r0), some (.int x1), some (.int x2)], [.int 2, .ref q_15], h_4)) rfl ?_
            refine gw_le (L' := [none, some (.int x1), none]) (gm_le_n _ (gm_le_k _ (gm_le_n _ gm_le_nil))) ?_
            exact ok190_86 c d Post _ _ _ _ w
def w191_21 (c : gx) (d : Nat) (Post : Option Value → gm_H → Prop) (r0 : Nat) (h : gm_H) : Prop :=
  (∃ fs1, gm_get h r0 = some (.inr (10, fs1))) ∧ gE c d 156 [.ref r0] h (fun v1 h_1 => ∃ x_1 : Int32, v1 = some (.int x_1) ∧ Post (some (.int x_1)) h_1)
theorem ok191_21 (c : gx) (d : Nat) (Post : Option Value → gm_H → Prop)  (r0 : Nat) (h : gm_H) (w : w191_21 c d Post r0 h) : gV c d 191 (21, [some (.ref r0), none, none], [], h) Post := by
  have hk : ∀ pc i, gm_find gk_191 pc = some i → gm_code (gt_T c.1 c.2.1 c.2.2.1) 191 pc = some i := fun _ _ z => z
  unfold w191_21 at w
  unfold gV
  refine gw_pst hk 1 (st' := (22, [some (.ref r0), none, none], [.ref r0], h)) rfl ?_
  obtain ⟨⟨fs1, e1⟩, w⟩ := w
  refine gw_call (jj := 156) (As := [.ref r0]) (rest := []) (hk _ _ rfl) (fun _ => rfl) rfl rfl (Nat.le_of_ble_eq_true rfl) (gm_rcv_v rfl e1 rfl) ?_
  refine ge_imp w (fun v1 h_1 w => ?_)
  obtain ⟨x_1, rfl, w⟩ := w
  show gV c d 191 (25, [some (.ref r0), none, none], [.int x_1], h_1) Post
  exact gw_ret (hk _ _ rfl) rfl w
/-- CommandByTurnsModel.consul(II)I -/
def wm191 (c : gx) (d : Nat) (Post : Option Value → gm_H → Prop) (r0 : Nat) (x1 : Int32) (x2 : Int32) (h : gm_H) : Prop :=
  ∃ fs1 : List Value, gm_get h r0 = some (.inr (10, fs1)) ∧ 13 < fs1.length ∧ ∀ h_1 : gm_H, h_1 = gm_put h r0 (.inr (10, fs1.set 13 (.int 0))) → gE c d 159 [.int x1] h_1 (fun v2 h_2 => ∃ x_2 : Int32, v2 = some (.int x_2) ∧ ((x_2 = 0 → w191_21 c d Post r0 h_2) ∧ (¬ (x_2 = 0) → gE c d 154 [.int x2, .int 0, .int 4] h_2 (fun v4 h_4 => ∃ x_4 : Int32, v4 = some (.int x_4) ∧ ((x_4 = 0 → w191_21 c d Post r0 h_4) ∧ (¬ (x_4 = 0) → ((x2 = 0 → ∃ q_7 : Nat, gm_fld h_4 r0 10 4 = some (.ref q_7) ∧ ∃ (n8 : Nat) (f8 : Nat → Int32), gm_get h_4 q_7 = some (.inl (0, n8, .inl f8)) ∧ vp_in x1 n8 ∧ Post (some (.int (f8 (x1 : Int32).toNatClampNeg))) h_4) ∧ (x2 = 1 → ∃ q_9 : Nat, gm_fld h_4 r0 10 5 = some (.ref q_9) ∧ ∃ (n10 : Nat) (f10 : Nat → Int32), gm_get h_4 q_9 = some (.inl (0, n10, .inl f10)) ∧ vp_in x1 n10 ∧ Post (some (.int (f10 (x1 : Int32).toNatClampNeg))) h_4) ∧ (x2 = 2 → (∃ fs11, gm_get h_4 r0 = some (.inr (10, fs11))) ∧ gE c d 186 [.ref r0, .int x1] h_4 (fun v11 h_11 => ∃ x_11 : Int32, v11 = some (.int x_11) ∧ Post (some (.int x_11)) h_11)) ∧ (x2 = 3 → ∃ q_12 : Nat, gm_fld h_4 r0 10 0 = some (.ref q_12) ∧ ∃ (n13 : Nat) (f13 : Nat → Int32), gm_get h_4 q_12 = some (.inl (0, n13, .inl f13)) ∧ vp_in (6 + x1) n13 ∧ Post (some (.int (f13 (6 + x1 : Int32).toNatClampNeg))) h_4) ∧ ((x2 : Int32).toInt < 0 ∨ 3 < (x2 : Int32).toInt → ∃ q_14 : Nat, gm_fld h_4 r0 10 0 = some (.ref q_14) ∧ ∃ (n15 : Nat) (f15 : Nat → Int32), gm_get h_4 q_14 = some (.inl (0, n15, .inl f15)) ∧ vp_in 0 n15 ∧ (∃ fs16, gm_get h_4 r0 = some (.inr (10, fs16))) ∧ gE c d 174 [.ref r0, .int x1, .int (f15 (0 : Int32).toNatClampNeg)] h_4 (fun v16 h_16 => ∃ x_16 : Int32, v16 = some (.int x_16) ∧ Post (some (.int x_16)) h_16)))))))))
theorem okm191 (c : gx) (d : Nat) (Post : Option Value → gm_H → Prop) (r0 : Nat) (x1 : Int32) (x2 : Int32) (h : gm_H) (w : wm191 c d Post r0 x1 x2 h) : gE c (d + 1) 191 [.ref r0, .int x1, .int x2] h Post := by
  have hk : ∀ pc i, gm_find gk_191 pc = some i → gm_code (gt_T c.1 c.2.1 c.2.2.1) 191 pc = some i := fun _ _ z => z
  unfold wm191 at w
  refine ge_of (by decide) (Nat.le_of_ble_eq_true rfl) ?_
  show gV c d 191 (0, [some (.ref r0), some (.int x1), some (.int x2)], [], h) Post
  unfold gV
  refine gw_pst hk 2 (st' := (2, [some (.ref r0), some (.int x1), some (.int x2)], [.int 0, .ref r0], h)) rfl ?_
  obtain ⟨fs1, e1, l1, w⟩ := w
  refine gw_pf (hk _ _ rfl) e1 l1 rfl ?_
  obtain ⟨h_1, eh1⟩ : ∃ z, z = gm_put h r0 (.inr (10, fs1.set 13 (.int 0))) := ⟨_, rfl⟩
  rw [← eh1]
  replace w := w h_1 eh1
  refine gw_pst hk 1 (st' := (6, [some (.ref r0), some (.int x1), some (.int x2)], [.int x1], h_1)) rfl ?_
  refine gw_call (jj := 159) (As := [.int x1]) (rest := []) (hk _ _ rfl) (fun _ => rfl) rfl rfl (Nat.le_of_ble_eq_true rfl) rfl ?_
  refine ge_imp w (fun v2 h_2 w => ?_)
  obtain ⟨x_2, rfl, w⟩ := w
  show gV c d 191 (9, [some (.ref r0), some (.int x1), some (.int x2)], [.int x_2], h_2) Post
  refine gw_br (c := x_2 = 0) (a := (21, [some (.ref r0), some (.int x1), some (.int x2)], [], h_2)) (b := (12, [some (.ref r0), some (.int x1), some (.int x2)], [], h_2)) (hk _ _ rfl) rfl ⟨fun z3 => ?_, fun z3 => ?_⟩
  · replace w := w.1 z3
    refine gw_le (L' := [some (.ref r0), none, none]) (gm_le_k _ (gm_le_n _ (gm_le_n _ gm_le_nil))) ?_
    exact ok191_21 c d Post _ _ w
  · replace w := w.2 z3
    refine gw_pst hk 3 (st' := (15, [some (.ref r0), some (.int x1), some (.int x2)], [.int 4, .int 0, .int x2], h_2)) rfl ?_
    refine gw_call (jj := 154) (As := [.int x2, .int 0, .int 4]) (rest := []) (hk _ _ rfl) (fun _ => rfl) rfl rfl (Nat.le_of_ble_eq_true rfl) rfl ?_
    refine ge_imp w (fun v4 h_4 w => ?_)
    obtain ⟨x_4, rfl, w⟩ := w
    show gV c d 191 (18, [some (.ref r0), some (.int x1), some (.int x2)], [.int x_4], h_4) Post
    refine gw_br (c := x_4 = 0) (a := (21, [some (.ref r0), some (.int x1), some (.int x2)], [], h_4)) (b := (26, [some (.ref r0), some (.int x1), some (.int x2)], [], h_4)) (hk _ _ rfl) rfl ⟨fun z5 => ?_, fun z5 => ?_⟩
    · replace w := w.1 z5
      refine gw_le (L' := [some (.ref r0), none, none]) (gm_le_k _ (gm_le_n _ (gm_le_n _ gm_le_nil))) ?_
      exact ok191_21 c d Post _ _ w
    · replace w := w.2 z5
      refine gw_pst hk 1 (st' := (27, [some (.ref r0), some (.int x1), some (.int x2)], [.int x2], h_4)) rfl ?_
      by_cases z6_0 : x2 = 0
      · replace w := w.1 z6_0
        refine gw_swk (st' := (56, [some (.ref r0), some (.int x1), some (.int x2)], [], h_4)) (hk _ _ rfl) z6_0 rfl ?_
        refine gw_pst hk 1 (st' := (57, [some (.ref r0), some (.int x1), some (.int x2)], [.ref r0], h_4)) rfl ?_
        obtain ⟨q_7, e7, w⟩ := w
        refine gw_gf (hk _ _ rfl) e7 ?_
        refine gw_pst hk 1 (st' := (61, [some (.ref r0), some (.int x1), some (.int x2)], [.int x1, .ref q_7], h_4)) rfl ?_
        obtain ⟨n8, f8, e8, b8, w⟩ := w
        refine gw_ald (hk _ _ rfl) (Or.inl ⟨rfl, rfl⟩) e8 b8 ?_
        exact gw_ret (hk _ _ rfl) rfl w
      by_cases z6_1 : x2 = 1
      · replace w := w.2.1 z6_1
        refine gw_swk (st' := (63, [some (.ref r0), some (.int x1), some (.int x2)], [], h_4)) (hk _ _ rfl) z6_1 rfl ?_
        refine gw_pst hk 1 (st' := (64, [some (.ref r0), some (.int x1), some (.int x2)], [.ref r0], h_4)) rfl ?_
        obtain ⟨q_9, e9, w⟩ := w
        refine gw_gf (hk _ _ rfl) e9 ?_
        refine gw_pst hk 1 (st' := (68, [some (.ref r0), some (.int x1), some (.int x2)], [.int x1, .ref q_9], h_4)) rfl ?_
        obtain ⟨n10, f10, e10, b10, w⟩ := w
        refine gw_ald (hk _ _ rfl) (Or.inl ⟨rfl, rfl⟩) e10 b10 ?_
        exact gw_ret (hk _ _ rfl) rfl w
      by_cases z6_2 : x2 = 2
      · replace w := w.2.2.1 z6_2
        refine gw_swk (st' := (70, [some (.ref r0), some (.int x1), some (.int x2)], [], h_4)) (hk _ _ rfl) z6_2 rfl ?_
        refine gw_pst hk 2 (st' := (72, [some (.ref r0), some (.int x1), some (.int x2)], [.int x1, .ref r0], h_4)) rfl ?_
        obtain ⟨⟨fs11, e11⟩, w⟩ := w
        refine gw_call (jj := 186) (As := [.ref r0, .int x1]) (rest := []) (hk _ _ rfl) (fun _ => rfl) rfl rfl (Nat.le_of_ble_eq_true rfl) (gm_rcv_v rfl e11 rfl) ?_
        refine ge_imp w (fun v11 h_11 w => ?_)
        obtain ⟨x_11, rfl, w⟩ := w
        show gV c d 191 (75, [some (.ref r0), some (.int x1), some (.int x2)], [.int x_11], h_11) Post
        exact gw_ret (hk _ _ rfl) rfl w
      by_cases z6_3 : x2 = 3
      · replace w := w.2.2.2.1 z6_3
        refine gw_swk (st' := (76, [some (.ref r0), some (.int x1), some (.int x2)], [], h_4)) (hk _ _ rfl) z6_3 rfl ?_
        refine gw_pst hk 1 (st' := (77, [some (.ref r0), some (.int x1), some (.int x2)], [.ref r0], h_4)) rfl ?_
        obtain ⟨q_12, e12, w⟩ := w
        refine gw_gf (hk _ _ rfl) e12 ?_
        refine gw_pst hk 3 (st' := (84, [some (.ref r0), some (.int x1), some (.int x2)], [.int (6 + x1), .ref q_12], h_4)) rfl ?_
        obtain ⟨n13, f13, e13, b13, w⟩ := w
        refine gw_ald (hk _ _ rfl) (Or.inl ⟨rfl, rfl⟩) e13 b13 ?_
        exact gw_ret (hk _ _ rfl) rfl w
      have zd6 : (x2 : Int32).toInt < 0 ∨ 3 < (x2 : Int32).toInt := by
        have y0 : (x2 : Int32).toInt ≠ 0 := fun z => z6_0 (Int32.toInt_inj.mp z)
        have y1 : (x2 : Int32).toInt ≠ 1 := fun z => z6_1 (Int32.toInt_inj.mp z)
        have y2 : (x2 : Int32).toInt ≠ 2 := fun z => z6_2 (Int32.toInt_inj.mp z)
        have y3 : (x2 : Int32).toInt ≠ 3 := fun z => z6_3 (Int32.toInt_inj.mp z)
        omega
      replace w := w.2.2.2.2 zd6
      refine gw_tsd (st' := (86, [some (.ref r0), some (.int x1), some (.int x2)], [], h_4)) (hk _ _ rfl) zd6 rfl ?_
      refine gw_pst hk 3 (st' := (89, [some (.ref r0), some (.int x1), some (.int x2)], [.ref r0, .int x1, .ref r0], h_4)) rfl ?_
      obtain ⟨q_14, e14, w⟩ := w
      refine gw_gf (hk _ _ rfl) e14 ?_
      refine gw_pst hk 1 (st' := (93, [some (.ref r0), some (.int x1), some (.int x2)], [.int 0, .ref q_14, .int x1, .ref r0], h_4)) rfl ?_
      obtain ⟨n15, f15, e15, b15, w⟩ := w
      refine gw_ald (hk _ _ rfl) (Or.inl ⟨rfl, rfl⟩) e15 b15 ?_
      obtain ⟨⟨fs16, e16⟩, w⟩ := w
      refine gw_call (jj := 174) (As := [.ref r0, .int x1, .int (f15 (0 : Int32).toNatClampNeg)]) (rest := []) (hk _ _ rfl) (fun _ => rfl) rfl rfl (Nat.le_of_ble_eq_true rfl) (gm_rcv_v rfl e16 rfl) ?_
      refine ge_imp w (fun v16 h_16 w => ?_)
      obtain ⟨x_16, rfl, w⟩ := w
      show gV c d 191 (97, [some (.ref r0), some (.int x1), some (.int x2)], [.int x_16], h_16) Post
      exact gw_ret (hk _ _ rfl) rfl w
def w192_31 (c : gx) (d : Nat) (Post : Option Value → gm_H → Prop)  (h : gm_H) : Prop :=
  Post (some (.int (-1))) h
theorem ok192_31 (c : gx) (d : Nat) (Post : Option Value → gm_H → Prop)   (h : gm_H) (w : w192_31 c d Post  h) : gV c d 192 (31, [none, none, none, none, none], [], h) Post := by
  have hk : ∀ pc i, gm_find gk_192 pc = some i → gm_code (gt_T c.1 c.2.1 c.2.2.1) 192 pc = some i := fun _ _ z => z
  unfold w192_31 at w
  unfold gV
  refine gw_pst hk 1 (st' := (32, [none, none, none, none, none], [.int (-1)], h)) rfl ?_
  exact gw_ret (hk _ _ rfl) rfl w
def w192_75 (c : gx) (d : Nat) (Post : Option Value → gm_H → Prop) (x4 : Int32) (h : gm_H) : Prop :=
  Post (some (.int x4)) h
theorem ok192_75 (c : gx) (d : Nat) (Post : Option Value → gm_H → Prop)  (x4 : Int32) (h : gm_H) (w : w192_75 c d Post x4 h) : gV c d 192 (75, [none, none, none, none, some (.int x4)], [], h) Post := by
  have hk : ∀ pc i, gm_find gk_192 pc = some i → gm_code (gt_T c.1 c.2.1 c.2.2.1) 192 pc = some i := fun _ _ z => z
  unfold w192_75 at w
  unfold gV
  refine gw_pst hk 1 (st' := (77, [none, none, none, none, some (.int x4)], [.int x4], h)) rfl ?_
  exact gw_ret (hk _ _ rfl) rfl w
def w192_52 (c : gx) (d : Nat) (Post : Option Value → gm_H → Prop) (r0 : Nat) (x1 : Int32) (x2 : Int32) (x3 : Int32) (xs0 : Int32) (h : gm_H) : Prop :=
  ((x2 = 0 → ∃ q_2 : Nat, gm_fld h r0 10 4 = some (.ref q_2) ∧ ∃ (n3 : Nat) (f3 : Nat → Int32), gm_get h q_2 = some (.inl (0, n3, .inl f3)) ∧ vp_in x1 n3 ∧ ∀ h_3 : gm_H, h_3 = gm_put h q_2 (.inl (0, n3, .inl (upd f3 (x1 : Int32).toNatClampNeg (vp_nar .int x3)))) → w192_75 c d Post xs0 h_3) ∧ (¬ (x2 = 0) → ∃ q_4 : Nat, gm_fld h r0 10 5 = some (.ref q_4) ∧ ∃ (n5 : Nat) (f5 : Nat → Int32), gm_get h q_4 = some (.inl (0, n5, .inl f5)) ∧ vp_in x1 n5 ∧ ∀ h_5 : gm_H, h_5 = gm_put h q_4 (.inl (0, n5, .inl (upd f5 (x1 : Int32).toNatClampNeg (vp_nar .int x3)))) → w192_75 c d Post xs0 h_5))
theorem ok192_52 (c : gx) (d : Nat) (Post : Option Value → gm_H → Prop)  (r0 : Nat) (x1 : Int32) (x2 : Int32) (x3 : Int32) (xs0 : Int32) (h : gm_H) (w : w192_52 c d Post r0 x1 x2 x3 xs0 h) : gV c d 192 (52, [some (.ref r0), some (.int x1), some (.int x2), some (.int x3), none], [.int xs0], h) Post := by
  have hk : ∀ pc i, gm_find gk_192 pc = some i → gm_code (gt_T c.1 c.2.1 c.2.2.1) 192 pc = some i := fun _ _ z => z
  unfold w192_52 at w
  unfold gV
  refine gw_pst hk 2 (st' := (55, [some (.ref r0), some (.int x1), some (.int x2), some (.int x3), some (.int xs0)], [.int x2], h)) rfl ?_
  refine gw_br (c := x2 = 0) (a := (58, [some (.ref r0), some (.int x1), some (.int x2), some (.int x3), some (.int xs0)], [], h)) (b := (68, [some (.ref r0), some (.int x1), some (.int x2), some (.int x3), some (.int xs0)], [], h)) (hk _ _ rfl) rfl ⟨fun z1 => ?_, fun z1 => ?_⟩
  · replace w := w.1 z1
    refine gw_pst hk 1 (st' := (59, [some (.ref r0), some (.int x1), some (.int x2), some (.int x3), some (.int xs0)], [.ref r0], h)) rfl ?_
    obtain ⟨q_2, e2, w⟩ := w
    refine gw_gf (hk _ _ rfl) e2 ?_
    refine gw_pst hk 2 (st' := (64, [some (.ref r0), some (.int x1), some (.int x2), some (.int x3), some (.int xs0)], [.int x3, .int x1, .ref q_2], h)) rfl ?_
    obtain ⟨n3, f3, e3, b3, w⟩ := w
    refine gw_ast (hk _ _ rfl) (Or.inl ⟨rfl, rfl, rfl⟩) e3 b3 ?_
    obtain ⟨h_3, eh3⟩ : ∃ z, z = gm_put h q_2 (.inl (0, n3, .inl (upd f3 (x1 : Int32).toNatClampNeg (vp_nar .int x3)))) := ⟨_, rfl⟩
    rw [← eh3]
    replace w := w h_3 eh3
    refine gw_pst hk 1 (st' := (75, [some (.ref r0), some (.int x1), some (.int x2), some (.int x3), some (.int xs0)], [], h_3)) rfl ?_
    refine gw_le (L' := [none, none, none, none, some (.int xs0)]) (gm_le_n _ (gm_le_n _ (gm_le_n _ (gm_le_n _ (gm_le_k _ gm_le_nil))))) ?_
    exact ok192_75 c d Post _ _ w
  · replace w := w.2 z1
    refine gw_pst hk 1 (st' := (69, [some (.ref r0), some (.int x1), some (.int x2), some (.int x3), some (.int xs0)], [.ref r0], h)) rfl ?_
    obtain ⟨q_4, e4, w⟩ := w
    refine gw_gf (hk _ _ rfl) e4 ?_
    refine gw_pst hk 2 (st' := (74, [some (.ref r0), some (.int x1), some (.int x2), some (.int x3), some (.int xs0)], [.int x3, .int x1, .ref q_4], h)) rfl ?_
    obtain ⟨n5, f5, e5, b5, w⟩ := w
    refine gw_ast (hk _ _ rfl) (Or.inl ⟨rfl, rfl, rfl⟩) e5 b5 ?_
    obtain ⟨h_5, eh5⟩ : ∃ z, z = gm_put h q_4 (.inl (0, n5, .inl (upd f5 (x1 : Int32).toNatClampNeg (vp_nar .int x3)))) := ⟨_, rfl⟩
    rw [← eh5]
    replace w := w h_5 eh5
    refine gw_le (L' := [none, none, none, none, some (.int xs0)]) (gm_le_n _ (gm_le_n _ (gm_le_n _ (gm_le_n _ (gm_le_k _ gm_le_nil))))) ?_
    exact ok192_75 c d Post _ _ w
/-- CommandByTurnsModel.set(III)I -/
def wm192 (c : gx) (d : Nat) (Post : Option Value → gm_H → Prop) (r0 : Nat) (x1 : Int32) (x2 : Int32) (x3 : Int32) (h : gm_H) : Prop :=
  ∃ fs1 : List Value, gm_get h r0 = some (.inr (10, fs1)) ∧ 13 < fs1.length ∧ ∀ h_1 : gm_H, h_1 = gm_put h r0 (.inr (10, fs1.set 13 (.int 0))) → gE c d 159 [.int x1] h_1 (fun v2 h_2 => ∃ x_2 : Int32, v2 = some (.int x_2) ∧ ((x_2 = 0 → w192_31 c d Post h_2) ∧ (¬ (x_2 = 0) → gE c d 154 [.int x2, .int 0, .int 1] h_2 (fun v4 h_4 => ∃ x_4 : Int32, v4 = some (.int x_4) ∧ ((x_4 = 0 → w192_31 c d Post h_4) ∧ (¬ (x_4 = 0) → gE c d 154 [.int x3, .int 0, .int 9] h_4 (fun v6 h_6 => ∃ x_6 : Int32, v6 = some (.int x_6) ∧ ((x_6 = 0 → w192_31 c d Post h_6) ∧ (¬ (x_6 = 0) → ((x2 = 0 → ∃ q_9 : Nat, gm_fld h_6 r0 10 4 = some (.ref q_9) ∧ ∃ (n10 : Nat) (f10 : Nat → Int32), gm_get h_6 q_9 = some (.inl (0, n10, .inl f10)) ∧ vp_in x1 n10 ∧ w192_52 c d Post r0 x1 x2 x3 (f10 (x1 : Int32).toNatClampNeg) h_6) ∧ (¬ (x2 = 0) → ∃ q_11 : Nat, gm_fld h_6 r0 10 5 = some (.ref q_11) ∧ ∃ (n12 : Nat) (f12 : Nat → Int32), gm_get h_6 q_11 = some (.inl (0, n12, .inl f12)) ∧ vp_in x1 n12 ∧ w192_52 c d Post r0 x1 x2 x3 (f12 (x1 : Int32).toNatClampNeg) h_6)))))))))))
theorem okm192 (c : gx) (d : Nat) (Post : Option Value → gm_H → Prop) (r0 : Nat) (x1 : Int32) (x2 : Int32) (x3 : Int32) (h : gm_H) (w : wm192 c d Post r0 x1 x2 x3 h) : gE c (d + 1) 192 [.ref r0, .int x1, .int x2, .int x3] h Post := by
  have hk : ∀ pc i, gm_find gk_192 pc = some i → gm_code (gt_T c.1 c.2.1 c.2.2.1) 192 pc = some i := fun _ _ z => z
  unfold wm192 at w
  refine ge_of (by decide) (Nat.le_of_ble_eq_true rfl) ?_
  show gV c d 192 (0, [some (.ref r0), some (.int x1), some (.int x2), some (.int x3), none], [], h) Post
  unfold gV
  refine gw_pst hk 2 (st' := (2, [some (.ref r0), some (.int x1), some (.int x2), some (.int x3), none], [.int 0, .ref r0], h)) rfl ?_
  obtain ⟨fs1, e1, l1, w⟩ := w
  refine gw_pf (hk _ _ rfl) e1 l1 rfl ?_
  obtain ⟨h_1, eh1⟩ : ∃ z, z = gm_put h r0 (.inr (10, fs1.set 13 (.int 0))) := ⟨_, rfl⟩
  rw [← eh1]
  replace w := w h_1 eh1
  refine gw_pst hk 1 (st' := (6, [some (.ref r0), some (.int x1), some (.int x2), some (.int x3), none], [.int x1], h_1)) rfl ?_
  refine gw_call (jj := 159) (As := [.int x1]) (rest := []) (hk _ _ rfl) (fun _ => rfl) rfl rfl (Nat.le_of_ble_eq_true rfl) rfl ?_
  refine ge_imp w (fun v2 h_2 w => ?_)
  obtain ⟨x_2, rfl, w⟩ := w
  show gV c d 192 (9, [some (.ref r0), some (.int x1), some (.int x2), some (.int x3), none], [.int x_2], h_2) Post
  refine gw_br (c := x_2 = 0) (a := (31, [some (.ref r0), some (.int x1), some (.int x2), some (.int x3), none], [], h_2)) (b := (12, [some (.ref r0), some (.int x1), some (.int x2), some (.int x3), none], [], h_2)) (hk _ _ rfl) rfl ⟨fun z3 => ?_, fun z3 => ?_⟩
  · replace w := w.1 z3
    refine gw_le (L' := [none, none, none, none, none]) (gm_le_n _ (gm_le_n _ (gm_le_n _ (gm_le_n _ (gm_le_k _ gm_le_nil))))) ?_
    exact ok192_31 c d Post _ w
  · replace w := w.2 z3
    refine gw_pst hk 3 (st' := (15, [some (.ref r0), some (.int x1), some (.int x2), some (.int x3), none], [.int 1, .int 0, .int x2], h_2)) rfl ?_
    refine gw_call (jj := 154) (As := [.int x2, .int 0, .int 1]) (rest := []) (hk _ _ rfl) (fun _ => rfl) rfl rfl (Nat.le_of_ble_eq_true rfl) rfl ?_
    refine ge_imp w (fun v4 h_4 w => ?_)
    obtain ⟨x_4, rfl, w⟩ := w
    show gV c d 192 (18, [some (.ref r0), some (.int x1), some (.int x2), some (.int x3), none], [.int x_4], h_4) Post
    refine gw_br (c := x_4 = 0) (a := (31, [some (.ref r0), some (.int x1), some (.int x2), some (.int x3), none], [], h_4)) (b := (21, [some (.ref r0), some (.int x1), some (.int x2), some (.int x3), none], [], h_4)) (hk _ _ rfl) rfl ⟨fun z5 => ?_, fun z5 => ?_⟩
    · replace w := w.1 z5
      refine gw_le (L' := [none, none, none, none, none]) (gm_le_n _ (gm_le_n _ (gm_le_n _ (gm_le_n _ (gm_le_k _ gm_le_nil))))) ?_
      exact ok192_31 c d Post _ w
    · replace w := w.2 z5
      refine gw_pst hk 3 (st' := (25, [some (.ref r0), some (.int x1), some (.int x2), some (.int x3), none], [.int 9, .int 0, .int x3], h_4)) rfl ?_
      refine gw_call (jj := 154) (As := [.int x3, .int 0, .int 9]) (rest := []) (hk _ _ rfl) (fun _ => rfl) rfl rfl (Nat.le_of_ble_eq_true rfl) rfl ?_
      refine ge_imp w (fun v6 h_6 w => ?_)
      obtain ⟨x_6, rfl, w⟩ := w
      show gV c d 192 (28, [some (.ref r0), some (.int x1), some (.int x2), some (.int x3), none], [.int x_6], h_6) Post
      refine gw_br (c := x_6 = 0) (a := (31, [some (.ref r0), some (.int x1), some (.int x2), some (.int x3), none], [], h_6)) (b := (33, [some (.ref r0), some (.int x1), some (.int x2), some (.int x3), none], [], h_6)) (hk _ _ rfl) rfl ⟨fun z7 => ?_, fun z7 => ?_⟩
      · replace w := w.1 z7
        refine gw_le (L' := [none, none, none, none, none]) (gm_le_n _ (gm_le_n _ (gm_le_n _ (gm_le_n _ (gm_le_k _ gm_le_nil))))) ?_
        exact ok192_31 c d Post _ w
      · replace w := w.2 z7
        refine gw_pst hk 1 (st' := (34, [some (.ref r0), some (.int x1), some (.int x2), some (.int x3), none], [.int x2], h_6)) rfl ?_
        refine gw_br (c := x2 = 0) (a := (37, [some (.ref r0), some (.int x1), some (.int x2), some (.int x3), none], [], h_6)) (b := (46, [some (.ref r0), some (.int x1), some (.int x2), some (.int x3), none], [], h_6)) (hk _ _ rfl) rfl ⟨fun z8 => ?_, fun z8 => ?_⟩
        · replace w := w.1 z8
          refine gw_pst hk 1 (st' := (38, [some (.ref r0), some (.int x1), some (.int x2), some (.int x3), none], [.ref r0], h_6)) rfl ?_
          obtain ⟨q_9, e9, w⟩ := w
          refine gw_gf (hk _ _ rfl) e9 ?_
          refine gw_pst hk 1 (st' := (42, [some (.ref r0), some (.int x1), some (.int x2), some (.int x3), none], [.int x1, .ref q_9], h_6)) rfl ?_
          obtain ⟨n10, f10, e10, b10, w⟩ := w
          refine gw_ald (hk _ _ rfl) (Or.inl ⟨rfl, rfl⟩) e10 b10 ?_
          refine gw_pst hk 1 (st' := (52, [some (.ref r0), some (.int x1), some (.int x2), some (.int x3), none], [.int (f10 (x1 : Int32).toNatClampNeg)], h_6)) rfl ?_
          exact ok192_52 c d Post _ _ _ _ _ _ w
        · replace w := w.2 z8
          refine gw_pst hk 1 (st' := (47, [some (.ref r0), some (.int x1), some (.int x2), some (.int x3), none], [.ref r0], h_6)) rfl ?_
          obtain ⟨q_11, e11, w⟩ := w
          refine gw_gf (hk _ _ rfl) e11 ?_
          refine gw_pst hk 1 (st' := (51, [some (.ref r0), some (.int x1), some (.int x2), some (.int x3), none], [.int x1, .ref q_11], h_6)) rfl ?_
          obtain ⟨n12, f12, e12, b12, w⟩ := w
          refine gw_ald (hk _ _ rfl) (Or.inl ⟨rfl, rfl⟩) e12 b12 ?_
          exact ok192_52 c d Post _ _ _ _ _ _ w
def w193_20 (c : gx) (d : Nat) (Post : Option Value → gm_H → Prop)  (h : gm_H) : Prop :=
  Post (some (.int (-1))) h
theorem ok193_20 (c : gx) (d : Nat) (Post : Option Value → gm_H → Prop)   (h : gm_H) (w : w193_20 c d Post  h) : gV c d 193 (20, [none, none, none, none, none, none, none, none, none], [], h) Post := by
  have hk : ∀ pc i, gm_find gk_193 pc = some i → gm_code (gt_T c.1 c.2.1 c.2.2.1) 193 pc = some i := fun _ _ z => z
  unfold w193_20 at w
  unfold gV
  refine gw_pst hk 1 (st' := (21, [none, none, none, none, none, none, none, none, none], [.int (-1)], h)) rfl ?_
  exact gw_ret (hk _ _ rfl) rfl w
def w193_109 (c : gx) (d : Nat) (Post : Option Value → gm_H → Prop) (K43 : Nat → Int32 → Int32 → Int32 → Int32 → Int32 → Int32 → gm_H → Prop) (r0 : Nat) (x1 : Int32) (x2 : Int32) (x4 : Int32) (x5 : Int32) (x6 : Int32) (x7 : Int32) (rs0 : Nat) (xs1 : Int32) (xs2 : Int32) (h : gm_H) : Prop :=
  ∃ (n1 : Nat) (f1 : Nat → Int32), gm_get h rs0 = some (.inl (0, n1, .inl f1)) ∧ vp_in xs1 n1 ∧ ∀ h_1 : gm_H, h_1 = gm_put h rs0 (.inl (0, n1, .inl (upd f1 (xs1 : Int32).toNatClampNeg (vp_nar .int xs2)))) → ∃ q_2 : Nat, gm_fld h_1 r0 10 2 = some (.ref q_2) ∧ ∃ (n3 : Nat) (f3 : Nat → Int32), gm_get h_1 q_2 = some (.inl (0, n3, .inl f3)) ∧ vp_in x7 n3 ∧ K43 r0 x1 x2 x4 (x5 + (f3 (x7 : Int32).toNatClampNeg)) (x6 + x4) (x7 + 1) h_1
theorem ok193_109 (c : gx) (d : Nat) (Post : Option Value → gm_H → Prop) (K43 : Nat → Int32 → Int32 → Int32 → Int32 → Int32 → Int32 → gm_H → Prop)  (hK43 : ∀ (r0 : Nat) (x1 : Int32) (x2 : Int32) (x4 : Int32) (x5 : Int32) (x6 : Int32) (x7 : Int32) (h : gm_H), K43 r0 x1 x2 x4 x5 x6 x7 h → gV c d 193 (43, [some (.ref r0), some (.int x1), some (.int x2), none, some (.int x4), some (.int x5), some (.int x6), some (.int x7), none], [], h) Post) (r0 : Nat) (x1 : Int32) (x2 : Int32) (x4 : Int32) (x5 : Int32) (x6 : Int32) (x7 : Int32) (rs0 : Nat) (xs1 : Int32) (xs2 : Int32) (h : gm_H) (w : w193_109 c d Post K43 r0 x1 x2 x4 x5 x6 x7 rs0 xs1 xs2 h) : gV c d 193 (109, [some (.ref r0), some (.int x1), some (.int x2), none, some (.int x4), some (.int x5), some (.int x6), some (.int x7), none], [.int xs2, .int xs1, .ref rs0], h) Post := by
  have hk : ∀ pc i, gm_find gk_193 pc = some i → gm_code (gt_T c.1 c.2.1 c.2.2.1) 193 pc = some i := fun _ _ z => z
  unfold w193_109 at w
  unfold gV
  obtain ⟨n1, f1, e1, b1, w⟩ := w
  refine gw_ast (hk _ _ rfl) (Or.inl ⟨rfl, rfl, rfl⟩) e1 b1 ?_
  obtain ⟨h_1, eh1⟩ : ∃ z, z = gm_put h rs0 (.inl (0, n1, .inl (upd f1 (xs1 : Int32).toNatClampNeg (vp_nar .int xs2)))) := ⟨_, rfl⟩
  rw [← eh1]
  replace w := w h_1 eh1
  refine gw_pst hk 2 (st' := (113, [some (.ref r0), some (.int x1), some (.int x2), none, some (.int x4), some (.int x5), some (.int x6), some (.int x7), none], [.ref r0, .int x5], h_1)) rfl ?_
  obtain ⟨q_2, e2, w⟩ := w
  refine gw_gf (hk _ _ rfl) e2 ?_
  refine gw_pst hk 1 (st' := (118, [some (.ref r0), some (.int x1), some (.int x2), none, some (.int x4), some (.int x5), some (.int x6), some (.int x7), none], [.int x7, .ref q_2, .int x5], h_1)) rfl ?_
  obtain ⟨n3, f3, e3, b3, w⟩ := w
  refine gw_ald (hk _ _ rfl) (Or.inl ⟨rfl, rfl⟩) e3 b3 ?_
  refine gw_pst hk 8 (st' := (43, [some (.ref r0), some (.int x1), some (.int x2), none, some (.int x4), some (.int (x5 + (f3 (x7 : Int32).toNatClampNeg))), some (.int (x6 + x4)), some (.int (x7 + 1)), none], [], h_1)) rfl ?_
  exact hK43 _ _ _ _ _ _ _ _ w
def w193_94 (c : gx) (d : Nat) (Post : Option Value → gm_H → Prop) (K43 : Nat → Int32 → Int32 → Int32 → Int32 → Int32 → Int32 → gm_H → Prop) (r0 : Nat) (x1 : Int32) (x2 : Int32) (x4 : Int32) (x5 : Int32) (x6 : Int32) (x7 : Int32) (rs0 : Nat) (xs1 : Int32) (h : gm_H) : Prop :=
  w193_109 c d Post K43 r0 x1 x2 x4 x5 x6 x7 rs0 xs1 0 h
theorem ok193_94 (c : gx) (d : Nat) (Post : Option Value → gm_H → Prop) (K43 : Nat → Int32 → Int32 → Int32 → Int32 → Int32 → Int32 → gm_H → Prop)  (hK43 : ∀ (r0 : Nat) (x1 : Int32) (x2 : Int32) (x4 : Int32) (x5 : Int32) (x6 : Int32) (x7 : Int32) (h : gm_H), K43 r0 x1 x2 x4 x5 x6 x7 h → gV c d 193 (43, [some (.ref r0), some (.int x1), some (.int x2), none, some (.int x4), some (.int x5), some (.int x6), some (.int x7), none], [], h) Post) (r0 : Nat) (x1 : Int32) (x2 : Int32) (x4 : Int32) (x5 : Int32) (x6 : Int32) (x7 : Int32) (rs0 : Nat) (xs1 : Int32) (h : gm_H) (w : w193_94 c d Post K43 r0 x1 x2 x4 x5 x6 x7 rs0 xs1 h) : gV c d 193 (94, [some (.ref r0), some (.int x1), some (.int x2), none, some (.int x4), some (.int x5), some (.int x6), some (.int x7), none], [.int xs1, .ref rs0], h) Post := by
  have hk : ∀ pc i, gm_find gk_193 pc = some i → gm_code (gt_T c.1 c.2.1 c.2.2.1) 193 pc = some i := fun _ _ z => z
  unfold w193_94 at w
  unfold gV
  refine gw_pst hk 2 (st' := (109, [some (.ref r0), some (.int x1), some (.int x2), none, some (.int x4), some (.int x5), some (.int x6), some (.int x7), none], [.int 0, .int xs1, .ref rs0], h)) rfl ?_
  exact ok193_109 c d Post K43 hK43 _ _ _ _ _ _ _ _ _ _ _ w
def w193_75 (c : gx) (d : Nat) (Post : Option Value → gm_H → Prop) (K43 : Nat → Int32 → Int32 → Int32 → Int32 → Int32 → Int32 → gm_H → Prop) (r0 : Nat) (x1 : Int32) (x2 : Int32) (x4 : Int32) (x5 : Int32) (x6 : Int32) (x7 : Int32) (xs0 : Int32) (h : gm_H) : Prop :=
  ∃ q_1 : Nat, gm_fld h r0 10 2 = some (.ref q_1) ∧ ((x1 = 3 → w193_94 c d Post K43 r0 x1 x2 x4 x5 x6 x7 q_1 x7 h) ∧ (¬ (x1 = 3) → ((x7 < x2 → w193_109 c d Post K43 r0 x1 x2 x4 x5 x6 x7 q_1 x7 (if 0 < (if xs0 < 9 then xs0 else 9) then (if xs0 < 9 then xs0 else 9) else 0) h) ∧ (¬ (x7 < x2) → w193_94 c d Post K43 r0 x1 x2 x4 x5 x6 x7 q_1 x7 h))))
theorem ok193_75 (c : gx) (d : Nat) (Post : Option Value → gm_H → Prop) (K43 : Nat → Int32 → Int32 → Int32 → Int32 → Int32 → Int32 → gm_H → Prop)  (hK43 : ∀ (r0 : Nat) (x1 : Int32) (x2 : Int32) (x4 : Int32) (x5 : Int32) (x6 : Int32) (x7 : Int32) (h : gm_H), K43 r0 x1 x2 x4 x5 x6 x7 h → gV c d 193 (43, [some (.ref r0), some (.int x1), some (.int x2), none, some (.int x4), some (.int x5), some (.int x6), some (.int x7), none], [], h) Post) (r0 : Nat) (x1 : Int32) (x2 : Int32) (x4 : Int32) (x5 : Int32) (x6 : Int32) (x7 : Int32) (xs0 : Int32) (h : gm_H) (w : w193_75 c d Post K43 r0 x1 x2 x4 x5 x6 x7 xs0 h) : gV c d 193 (75, [some (.ref r0), some (.int x1), some (.int x2), none, some (.int x4), some (.int x5), some (.int x6), some (.int x7), none], [.int xs0], h) Post := by
  have hk : ∀ pc i, gm_find gk_193 pc = some i → gm_code (gt_T c.1 c.2.1 c.2.2.1) 193 pc = some i := fun _ _ z => z
  unfold w193_75 at w
  unfold gV
  refine gw_pst hk 2 (st' := (78, [some (.ref r0), some (.int x1), some (.int x2), none, some (.int x4), some (.int x5), some (.int x6), some (.int x7), some (.int xs0)], [.ref r0], h)) rfl ?_
  obtain ⟨q_1, e1, w⟩ := w
  refine gw_gf (hk _ _ rfl) e1 ?_
  refine gw_pst hk 3 (st' := (85, [some (.ref r0), some (.int x1), some (.int x2), none, some (.int x4), some (.int x5), some (.int x6), some (.int x7), some (.int xs0)], [.int 3, .int x1, .int x7, .ref q_1], h)) rfl ?_
  refine gw_br (c := x1 = 3) (a := (94, [some (.ref r0), some (.int x1), some (.int x2), none, some (.int x4), some (.int x5), some (.int x6), some (.int x7), some (.int xs0)], [.int x7, .ref q_1], h)) (b := (88, [some (.ref r0), some (.int x1), some (.int x2), none, some (.int x4), some (.int x5), some (.int x6), some (.int x7), some (.int xs0)], [.int x7, .ref q_1], h)) (hk _ _ rfl) rfl ⟨fun z2 => ?_, fun z2 => ?_⟩
  · replace w := w.1 z2
    refine gw_le (L' := [some (.ref r0), some (.int x1), some (.int x2), none, some (.int x4), some (.int x5), some (.int x6), some (.int x7), none]) (gm_le_k _ (gm_le_k _ (gm_le_k _ (gm_le_k _ (gm_le_k _ (gm_le_k _ (gm_le_k _ (gm_le_k _ (gm_le_n _ gm_le_nil))))))))) ?_
    exact ok193_94 c d Post K43 hK43 _ _ _ _ _ _ _ _ _ _ w
  · replace w := w.2 z2
    refine gw_pst hk 2 (st' := (91, [some (.ref r0), some (.int x1), some (.int x2), none, some (.int x4), some (.int x5), some (.int x6), some (.int x7), some (.int xs0)], [.int x2, .int x7, .int x7, .ref q_1], h)) rfl ?_
    refine gw_br (c := x7 < x2) (a := (98, [some (.ref r0), some (.int x1), some (.int x2), none, some (.int x4), some (.int x5), some (.int x6), some (.int x7), some (.int xs0)], [.int x7, .ref q_1], h)) (b := (94, [some (.ref r0), some (.int x1), some (.int x2), none, some (.int x4), some (.int x5), some (.int x6), some (.int x7), some (.int xs0)], [.int x7, .ref q_1], h)) (hk _ _ rfl) rfl ⟨fun z3 => ?_, fun z3 => ?_⟩
    · replace w := w.1 z3
      refine gw_pst hk 5 (st' := (109, [some (.ref r0), some (.int x1), some (.int x2), none, some (.int x4), some (.int x5), some (.int x6), some (.int x7), some (.int xs0)], [.int (if 0 < (if xs0 < 9 then xs0 else 9) then (if xs0 < 9 then xs0 else 9) else 0), .int x7, .ref q_1], h)) rfl ?_
      refine gw_le (L' := [some (.ref r0), some (.int x1), some (.int x2), none, some (.int x4), some (.int x5), some (.int x6), some (.int x7), none]) (gm_le_k _ (gm_le_k _ (gm_le_k _ (gm_le_k _ (gm_le_k _ (gm_le_k _ (gm_le_k _ (gm_le_k _ (gm_le_n _ gm_le_nil))))))))) ?_
      exact ok193_109 c d Post K43 hK43 _ _ _ _ _ _ _ _ _ _ _ w
    · replace w := w.2 z3
      refine gw_le (L' := [some (.ref r0), some (.int x1), some (.int x2), none, some (.int x4), some (.int x5), some (.int x6), some (.int x7), none]) (gm_le_k _ (gm_le_k _ (gm_le_k _ (gm_le_k _ (gm_le_k _ (gm_le_k _ (gm_le_k _ (gm_le_k _ (gm_le_n _ gm_le_nil))))))))) ?_
      exact ok193_94 c d Post K43 hK43 _ _ _ _ _ _ _ _ _ _ w
def w193_147 (c : gx) (d : Nat) (Post : Option Value → gm_H → Prop) (xs0 : Int32) (h : gm_H) : Prop :=
  Post (some (.int xs0)) h
theorem ok193_147 (c : gx) (d : Nat) (Post : Option Value → gm_H → Prop)  (xs0 : Int32) (h : gm_H) (w : w193_147 c d Post xs0 h) : gV c d 193 (147, [none, none, none, none, none, none, none, none, none], [.int xs0], h) Post := by
  have hk : ∀ pc i, gm_find gk_193 pc = some i → gm_code (gt_T c.1 c.2.1 c.2.2.1) 193 pc = some i := fun _ _ z => z
  unfold w193_147 at w
  unfold gV
  exact gw_ret (hk _ _ rfl) rfl w
def wb193_43 (c : gx) (d : Nat) (Post : Option Value → gm_H → Prop) (K43 : Nat → Int32 → Int32 → Int32 → Int32 → Int32 → Int32 → gm_H → Prop) (r0 : Nat) (x1 : Int32) (x2 : Int32) (x4 : Int32) (x5 : Int32) (x6 : Int32) (x7 : Int32) (h : gm_H) : Prop :=
  ∃ x_1 : Int32, gm_fld h r0 10 1 = some (.int x_1) ∧ ((x_1 ≤ x7 → ((x1 = 3 → w193_147 c d Post (-3) h) ∧ (¬ (x1 = 3) → w193_147 c d Post x5 h))) ∧ (¬ (x_1 ≤ x7) → ((x1 = 0 → w193_75 c d Post K43 r0 x1 x2 x4 x5 x6 x7 ((x6).toInt8.toInt32) h) ∧ (¬ (x1 = 0) → ((x1 = 1 → w193_75 c d Post K43 r0 x1 x2 x4 x5 x6 x7 ((x6).toInt16.toInt32) h) ∧ (¬ (x1 = 1) → w193_75 c d Post K43 r0 x1 x2 x4 x5 x6 x7 x6 h))))))
theorem okb193_43 (c : gx) (d : Nat) (Post : Option Value → gm_H → Prop) (K43 : Nat → Int32 → Int32 → Int32 → Int32 → Int32 → Int32 → gm_H → Prop)  (hK43 : ∀ (r0 : Nat) (x1 : Int32) (x2 : Int32) (x4 : Int32) (x5 : Int32) (x6 : Int32) (x7 : Int32) (h : gm_H), K43 r0 x1 x2 x4 x5 x6 x7 h → gV c d 193 (43, [some (.ref r0), some (.int x1), some (.int x2), none, some (.int x4), some (.int x5), some (.int x6), some (.int x7), none], [], h) Post) (r0 : Nat) (x1 : Int32) (x2 : Int32) (x4 : Int32) (x5 : Int32) (x6 : Int32) (x7 : Int32) (h : gm_H) (w : wb193_43 c d Post K43 r0 x1 x2 x4 x5 x6 x7 h) : gV c d 193 (43, [some (.ref r0), some (.int x1), some (.int x2), none, some (.int x4), some (.int x5), some (.int x6), some (.int x7), none], [], h) Post := by
  have hk : ∀ pc i, gm_find gk_193 pc = some i → gm_code (gt_T c.1 c.2.1 c.2.2.1) 193 pc = some i := fun _ _ z => z
  unfold wb193_43 at w
  unfold gV
  refine gw_pst hk 2 (st' := (46, [some (.ref r0), some (.int x1), some (.int x2), none, some (.int x4), some (.int x5), some (.int x6), some (.int x7), none], [.ref r0, .int x7], h)) rfl ?_
  obtain ⟨x_1, e1, w⟩ := w
  refine gw_gf (hk _ _ rfl) e1 ?_
  refine gw_br (c := x_1 ≤ x7) (a := (135, [some (.ref r0), some (.int x1), some (.int x2), none, some (.int x4), some (.int x5), some (.int x6), some (.int x7), none], [], h)) (b := (52, [some (.ref r0), some (.int x1), some (.int x2), none, some (.int x4), some (.int x5), some (.int x6), some (.int x7), none], [], h)) (hk _ _ rfl) rfl ⟨fun z2 => ?_, fun z2 => ?_⟩
  · replace w := w.1 z2
    refine gw_pst hk 2 (st' := (137, [some (.ref r0), some (.int x1), some (.int x2), none, some (.int x4), some (.int x5), some (.int x6), some (.int x7), none], [.int 3, .int x1], h)) rfl ?_
    refine gw_br (c := x1 = 3) (a := (140, [some (.ref r0), some (.int x1), some (.int x2), none, some (.int x4), some (.int x5), some (.int x6), some (.int x7), none], [], h)) (b := (145, [some (.ref r0), some (.int x1), some (.int x2), none, some (.int x4), some (.int x5), some (.int x6), some (.int x7), none], [], h)) (hk _ _ rfl) rfl ⟨fun z3 => ?_, fun z3 => ?_⟩
    · replace w := w.1 z3
      refine gw_pst hk 2 (st' := (147, [some (.ref r0), some (.int x1), some (.int x2), none, some (.int x4), some (.int x5), some (.int x6), some (.int x7), none], [.int (-3)], h)) rfl ?_
      refine gw_le (L' := [none, none, none, none, none, none, none, none, none]) (gm_le_n _ (gm_le_n _ (gm_le_n _ (gm_le_k _ (gm_le_n _ (gm_le_n _ (gm_le_n _ (gm_le_n _ (gm_le_k _ gm_le_nil))))))))) ?_
      exact ok193_147 c d Post _ _ w
    · replace w := w.2 z3
      refine gw_pst hk 1 (st' := (147, [some (.ref r0), some (.int x1), some (.int x2), none, some (.int x4), some (.int x5), some (.int x6), some (.int x7), none], [.int x5], h)) rfl ?_
      refine gw_le (L' := [none, none, none, none, none, none, none, none, none]) (gm_le_n _ (gm_le_n _ (gm_le_n _ (gm_le_k _ (gm_le_n _ (gm_le_n _ (gm_le_n _ (gm_le_n _ (gm_le_k _ gm_le_nil))))))))) ?_
      exact ok193_147 c d Post _ _ w
  · replace w := w.2 z2
    refine gw_pst hk 1 (st' := (53, [some (.ref r0), some (.int x1), some (.int x2), none, some (.int x4), some (.int x5), some (.int x6), some (.int x7), none], [.int x1], h)) rfl ?_
    refine gw_br (c := x1 = 0) (a := (56, [some (.ref r0), some (.int x1), some (.int x2), none, some (.int x4), some (.int x5), some (.int x6), some (.int x7), none], [], h)) (b := (62, [some (.ref r0), some (.int x1), some (.int x2), none, some (.int x4), some (.int x5), some (.int x6), some (.int x7), none], [], h)) (hk _ _ rfl) rfl ⟨fun z4 => ?_, fun z4 => ?_⟩
    · replace w := w.1 z4
      refine gw_pst hk 3 (st' := (75, [some (.ref r0), some (.int x1), some (.int x2), none, some (.int x4), some (.int x5), some (.int x6), some (.int x7), none], [.int ((x6).toInt8.toInt32)], h)) rfl ?_
      exact ok193_75 c d Post K43 hK43 _ _ _ _ _ _ _ _ _ w
    · replace w := w.2 z4
      refine gw_pst hk 2 (st' := (64, [some (.ref r0), some (.int x1), some (.int x2), none, some (.int x4), some (.int x5), some (.int x6), some (.int x7), none], [.int 1, .int x1], h)) rfl ?_
      refine gw_br (c := x1 = 1) (a := (67, [some (.ref r0), some (.int x1), some (.int x2), none, some (.int x4), some (.int x5), some (.int x6), some (.int x7), none], [], h)) (b := (73, [some (.ref r0), some (.int x1), some (.int x2), none, some (.int x4), some (.int x5), some (.int x6), some (.int x7), none], [], h)) (hk _ _ rfl) rfl ⟨fun z5 => ?_, fun z5 => ?_⟩
      · replace w := w.1 z5
        refine gw_pst hk 3 (st' := (75, [some (.ref r0), some (.int x1), some (.int x2), none, some (.int x4), some (.int x5), some (.int x6), some (.int x7), none], [.int ((x6).toInt16.toInt32)], h)) rfl ?_
        exact ok193_75 c d Post K43 hK43 _ _ _ _ _ _ _ _ _ w
      · replace w := w.2 z5
        refine gw_pst hk 1 (st' := (75, [some (.ref r0), some (.int x1), some (.int x2), none, some (.int x4), some (.int x5), some (.int x6), some (.int x7), none], [.int x6], h)) rfl ?_
        exact ok193_75 c d Post K43 hK43 _ _ _ _ _ _ _ _ _ w
def wl193_43 (c : gx) (d : Nat) (Post : Option Value → gm_H → Prop) : Nat → Nat → Int32 → Int32 → Int32 → Int32 → Int32 → Int32 → gm_H → Prop
  | 0 => fun _ _ _ _ _ _ _ _ => False
  | n + 1 => wb193_43 c d Post (wl193_43 c d Post n)
theorem okl193_43 (c : gx) (d : Nat) (Post : Option Value → gm_H → Prop) : ∀ (n : Nat) (r0 : Nat) (x1 : Int32) (x2 : Int32) (x4 : Int32) (x5 : Int32) (x6 : Int32) (x7 : Int32) (h : gm_H), wl193_43 c d Post n r0 x1 x2 x4 x5 x6 x7 h → gV c d 193 (43, [some (.ref r0), some (.int x1), some (.int x2), none, some (.int x4), some (.int x5), some (.int x6), some (.int x7), none], [], h) Post
  | 0, _, _, _, _, _, _, _, _, w => w.elim
  | n + 1, r0, x1, x2, x4, x5, x6, x7, h, w => okb193_43 c d Post (wl193_43 c d Post n) (okl193_43 c d Post n) r0 x1 x2 x4 x5 x6 x7 h w
def w193_34 (c : gx) (d : Nat) (Post : Option Value → gm_H → Prop) (r0 : Nat) (x1 : Int32) (x2 : Int32) (x3 : Int32) (x4 : Int32) (h : gm_H) : Prop :=
  ∃ n, wl193_43 c d Post n r0 x1 x2 x4 0 x3 0 h
theorem ok193_34 (c : gx) (d : Nat) (Post : Option Value → gm_H → Prop)  (r0 : Nat) (x1 : Int32) (x2 : Int32) (x3 : Int32) (x4 : Int32) (h : gm_H) (w : w193_34 c d Post r0 x1 x2 x3 x4 h) : gV c d 193 (34, [some (.ref r0), some (.int x1), some (.int x2), some (.int x3), some (.int x4), none, none, none, none], [], h) Post := by
  have hk : ∀ pc i, gm_find gk_193 pc = some i → gm_code (gt_T c.1 c.2.1 c.2.2.1) 193 pc = some i := fun _ _ z => z
  unfold w193_34 at w
  unfold gV
  refine gw_pst hk 6 (st' := (43, [some (.ref r0), some (.int x1), some (.int x2), some (.int x3), some (.int x4), some (.int 0), some (.int x3), some (.int 0), none], [], h)) rfl ?_
  refine gw_le (L' := [some (.ref r0), some (.int x1), some (.int x2), none, some (.int x4), some (.int 0), some (.int x3), some (.int 0), none]) (gm_le_k _ (gm_le_k _ (gm_le_k _ (gm_le_n _ (gm_le_k _ (gm_le_k _ (gm_le_k _ (gm_le_k _ (gm_le_k _ gm_le_nil))))))))) ?_
  obtain ⟨n, w⟩ := w
  exact okl193_43 c d Post n _ _ _ _ _ _ _ _ w
/-- CommandByTurnsModel.sheet(IIII)I -/
def wm193 (c : gx) (d : Nat) (Post : Option Value → gm_H → Prop) (r0 : Nat) (x1 : Int32) (x2 : Int32) (x3 : Int32) (x4 : Int32) (h : gm_H) : Prop :=
  ∃ fs1 : List Value, gm_get h r0 = some (.inr (10, fs1)) ∧ 13 < fs1.length ∧ ∀ h_1 : gm_H, h_1 = gm_put h r0 (.inr (10, fs1.set 13 (.int 0))) → gE c d 154 [.int x1, .int 0, .int 3] h_1 (fun v2 h_2 => ∃ x_2 : Int32, v2 = some (.int x_2) ∧ ((x_2 = 0 → w193_20 c d Post h_2) ∧ (¬ (x_2 = 0) → ((x2 ≤ 12 → ((3 ≤ x1 → w193_34 c d Post r0 x1 x2 x3 x4 h_2) ∧ (¬ (3 ≤ x1) → ((0 ≤ x2 → w193_34 c d Post r0 x1 x2 x3 x4 h_2) ∧ (¬ (0 ≤ x2) → Post (some (.int (-2))) h_2))))) ∧ (¬ (x2 ≤ 12) → w193_20 c d Post h_2)))))
theorem okm193 (c : gx) (d : Nat) (Post : Option Value → gm_H → Prop) (r0 : Nat) (x1 : Int32) (x2 : Int32) (x3 : Int32) (x4 : Int32) (h : gm_H) (w : wm193 c d Post r0 x1 x2 x3 x4 h) : gE c (d + 1) 193 [.ref r0, .int x1, .int x2, .int x3, .int x4] h Post := by
  have hk : ∀ pc i, gm_find gk_193 pc = some i → gm_code (gt_T c.1 c.2.1 c.2.2.1) 193 pc = some i := fun _ _ z => z
  unfold wm193 at w
  refine ge_of (by decide) (Nat.le_of_ble_eq_true rfl) ?_
  show gV c d 193 (0, [some (.ref r0), some (.int x1), some (.int x2), some (.int x3), some (.int x4), none, none, none, none], [], h) Post
  unfold gV
  refine gw_pst hk 2 (st' := (2, [some (.ref r0), some (.int x1), some (.int x2), some (.int x3), some (.int x4), none, none, none, none], [.int 0, .ref r0], h)) rfl ?_
  obtain ⟨fs1, e1, l1, w⟩ := w
  refine gw_pf (hk _ _ rfl) e1 l1 rfl ?_
  obtain ⟨h_1, eh1⟩ : ∃ z, z = gm_put h r0 (.inr (10, fs1.set 13 (.int 0))) := ⟨_, rfl⟩
  rw [← eh1]
  replace w := w h_1 eh1
  refine gw_pst hk 3 (st' := (8, [some (.ref r0), some (.int x1), some (.int x2), some (.int x3), some (.int x4), none, none, none, none], [.int 3, .int 0, .int x1], h_1)) rfl ?_
  refine gw_call (jj := 154) (As := [.int x1, .int 0, .int 3]) (rest := []) (hk _ _ rfl) (fun _ => rfl) rfl rfl (Nat.le_of_ble_eq_true rfl) rfl ?_
  refine ge_imp w (fun v2 h_2 w => ?_)
  obtain ⟨x_2, rfl, w⟩ := w
  show gV c d 193 (11, [some (.ref r0), some (.int x1), some (.int x2), some (.int x3), some (.int x4), none, none, none, none], [.int x_2], h_2) Post
  refine gw_br (c := x_2 = 0) (a := (20, [some (.ref r0), some (.int x1), some (.int x2), some (.int x3), some (.int x4), none, none, none, none], [], h_2)) (b := (14, [some (.ref r0), some (.int x1), some (.int x2), some (.int x3), some (.int x4), none, none, none, none], [], h_2)) (hk _ _ rfl) rfl ⟨fun z3 => ?_, fun z3 => ?_⟩
  · replace w := w.1 z3
    refine gw_le (L' := [none, none, none, none, none, none, none, none, none]) (gm_le_n _ (gm_le_n _ (gm_le_n _ (gm_le_n _ (gm_le_n _ (gm_le_k _ (gm_le_k _ (gm_le_k _ (gm_le_k _ gm_le_nil))))))))) ?_
    exact ok193_20 c d Post _ w
  · replace w := w.2 z3
    refine gw_pst hk 2 (st' := (17, [some (.ref r0), some (.int x1), some (.int x2), some (.int x3), some (.int x4), none, none, none, none], [.int 12, .int x2], h_2)) rfl ?_
    refine gw_br (c := x2 ≤ 12) (a := (22, [some (.ref r0), some (.int x1), some (.int x2), some (.int x3), some (.int x4), none, none, none, none], [], h_2)) (b := (20, [some (.ref r0), some (.int x1), some (.int x2), some (.int x3), some (.int x4), none, none, none, none], [], h_2)) (hk _ _ rfl) rfl ⟨fun z4 => ?_, fun z4 => ?_⟩
    · replace w := w.1 z4
      refine gw_pst hk 2 (st' := (24, [some (.ref r0), some (.int x1), some (.int x2), some (.int x3), some (.int x4), none, none, none, none], [.int 3, .int x1], h_2)) rfl ?_
      refine gw_br (c := 3 ≤ x1) (a := (34, [some (.ref r0), some (.int x1), some (.int x2), some (.int x3), some (.int x4), none, none, none, none], [], h_2)) (b := (27, [some (.ref r0), some (.int x1), some (.int x2), some (.int x3), some (.int x4), none, none, none, none], [], h_2)) (hk _ _ rfl) rfl ⟨fun z5 => ?_, fun z5 => ?_⟩
      · replace w := w.1 z5
        exact ok193_34 c d Post _ _ _ _ _ _ w
      · replace w := w.2 z5
        refine gw_pst hk 1 (st' := (28, [some (.ref r0), some (.int x1), some (.int x2), some (.int x3), some (.int x4), none, none, none, none], [.int x2], h_2)) rfl ?_
        refine gw_br (c := 0 ≤ x2) (a := (34, [some (.ref r0), some (.int x1), some (.int x2), some (.int x3), some (.int x4), none, none, none, none], [], h_2)) (b := (31, [some (.ref r0), some (.int x1), some (.int x2), some (.int x3), some (.int x4), none, none, none, none], [], h_2)) (hk _ _ rfl) rfl ⟨fun z6 => ?_, fun z6 => ?_⟩
        · replace w := w.1 z6
          exact ok193_34 c d Post _ _ _ _ _ _ w
        · replace w := w.2 z6
          refine gw_pst hk 1 (st' := (33, [some (.ref r0), some (.int x1), some (.int x2), some (.int x3), some (.int x4), none, none, none, none], [.int (-2)], h_2)) rfl ?_
          exact gw_ret (hk _ _ rfl) rfl w
    · replace w := w.2 z4
      refine gw_le (L' := [none, none, none, none, none, none, none, none, none]) (gm_le_n _ (gm_le_n _ (gm_le_n _ (gm_le_n _ (gm_le_n _ (gm_le_k _ (gm_le_k _ (gm_le_k _ (gm_le_k _ gm_le_nil))))))))) ?_
      exact ok193_20 c d Post _ w
def wb194_2 (c : gx) (d : Nat) (Post : Option Value → gm_H → Prop) (K2 : Nat → Nat → Int32 → Int32 → gm_H → Prop) (r0 : Nat) (r1 : Nat) (x2 : Int32) (x3 : Int32) (h : gm_H) : Prop :=
  ((108 ≤ x3 → Post none h) ∧ (¬ (108 ≤ x3) → ∃ (n2 : Nat) (f2 : Nat → Int32), gm_get h r0 = some (.inl (0, n2, .inl f2)) ∧ vp_in x3 n2 ∧ ∃ (n3 : Nat) (f3 : Nat → Int32), gm_get h r1 = some (.inl (0, n3, .inl f3)) ∧ vp_in (x2 + x3) n3 ∧ ∀ h_3 : gm_H, h_3 = gm_put h r1 (.inl (0, n3, .inl (upd f3 (x2 + x3 : Int32).toNatClampNeg (vp_nar .int (f2 (x3 : Int32).toNatClampNeg))))) → K2 r0 r1 x2 (x3 + 1) h_3))
theorem okb194_2 (c : gx) (d : Nat) (Post : Option Value → gm_H → Prop) (K2 : Nat → Nat → Int32 → Int32 → gm_H → Prop)  (hK2 : ∀ (r0 : Nat) (r1 : Nat) (x2 : Int32) (x3 : Int32) (h : gm_H), K2 r0 r1 x2 x3 h → gV c d 194 (2, [some (.ref r0), some (.ref r1), some (.int x2), some (.int x3)], [], h) Post) (r0 : Nat) (r1 : Nat) (x2 : Int32) (x3 : Int32) (h : gm_H) (w : wb194_2 c d Post K2 r0 r1 x2 x3 h) : gV c d 194 (2, [some (.ref r0), some (.ref r1), some (.int x2), some (.int x3)], [], h) Post := by
  have hk : ∀ pc i, gm_find gk_194 pc = some i → gm_code (gt_T c.1 c.2.1 c.2.2.1) 194 pc = some i := fun _ _ z => z
  unfold wb194_2 at w
  unfold gV
  refine gw_pst hk 2 (st' := (5, [some (.ref r0), some (.ref r1), some (.int x2), some (.int x3)], [.int 108, .int x3], h)) rfl ?_
  refine gw_br (c := 108 ≤ x3) (a := (22, [some (.ref r0), some (.ref r1), some (.int x2), some (.int x3)], [], h)) (b := (8, [some (.ref r0), some (.ref r1), some (.int x2), some (.int x3)], [], h)) (hk _ _ rfl) rfl ⟨fun z1 => ?_, fun z1 => ?_⟩
  · replace w := w.1 z1
    exact gw_ret (hk _ _ rfl) rfl w
  · replace w := w.2 z1
    refine gw_pst hk 6 (st' := (14, [some (.ref r0), some (.ref r1), some (.int x2), some (.int x3)], [.int x3, .ref r0, .int (x2 + x3), .ref r1], h)) rfl ?_
    obtain ⟨n2, f2, e2, b2, w⟩ := w
    refine gw_ald (hk _ _ rfl) (Or.inl ⟨rfl, rfl⟩) e2 b2 ?_
    obtain ⟨n3, f3, e3, b3, w⟩ := w
    refine gw_ast (hk _ _ rfl) (Or.inl ⟨rfl, rfl, rfl⟩) e3 b3 ?_
    obtain ⟨h_3, eh3⟩ : ∃ z, z = gm_put h r1 (.inl (0, n3, .inl (upd f3 (x2 + x3 : Int32).toNatClampNeg (vp_nar .int (f2 (x3 : Int32).toNatClampNeg))))) := ⟨_, rfl⟩
    rw [← eh3]
    replace w := w h_3 eh3
    refine gw_pst hk 2 (st' := (2, [some (.ref r0), some (.ref r1), some (.int x2), some (.int (x3 + 1))], [], h_3)) rfl ?_
    exact hK2 _ _ _ _ _ w
def wl194_2 (c : gx) (d : Nat) (Post : Option Value → gm_H → Prop) : Nat → Nat → Nat → Int32 → Int32 → gm_H → Prop
  | 0 => fun _ _ _ _ _ => False
  | n + 1 => wb194_2 c d Post (wl194_2 c d Post n)
theorem okl194_2 (c : gx) (d : Nat) (Post : Option Value → gm_H → Prop) : ∀ (n : Nat) (r0 : Nat) (r1 : Nat) (x2 : Int32) (x3 : Int32) (h : gm_H), wl194_2 c d Post n r0 r1 x2 x3 h → gV c d 194 (2, [some (.ref r0), some (.ref r1), some (.int x2), some (.int x3)], [], h) Post
  | 0, _, _, _, _, _, w => w.elim
  | n + 1, r0, r1, x2, x3, h, w => okb194_2 c d Post (wl194_2 c d Post n) (okl194_2 c d Post n) r0 r1 x2 x3 h w
/-- CommandByTurnsModel.lay([I[II)V -/
def wm194 (c : gx) (d : Nat) (Post : Option Value → gm_H → Prop) (r0 : Nat) (r1 : Nat) (x2 : Int32) (h : gm_H) : Prop :=
  ∃ n, wl194_2 c d Post n r0 r1 x2 0 h
theorem okm194 (c : gx) (d : Nat) (Post : Option Value → gm_H → Prop) (r0 : Nat) (r1 : Nat) (x2 : Int32) (h : gm_H) (w : wm194 c d Post r0 r1 x2 h) : gE c (d + 1) 194 [.ref r0, .ref r1, .int x2] h Post := by
  have hk : ∀ pc i, gm_find gk_194 pc = some i → gm_code (gt_T c.1 c.2.1 c.2.2.1) 194 pc = some i := fun _ _ z => z
  unfold wm194 at w
  refine ge_of (by decide) (Nat.le_of_ble_eq_true rfl) ?_
  show gV c d 194 (0, [some (.ref r0), some (.ref r1), some (.int x2), none], [], h) Post
  unfold gV
  refine gw_pst hk 2 (st' := (2, [some (.ref r0), some (.ref r1), some (.int x2), some (.int 0)], [], h)) rfl ?_
  obtain ⟨n, w⟩ := w
  exact okl194_2 c d Post n _ _ _ _ _ w
def w195_49 (c : gx) (d : Nat) (Post : Option Value → gm_H → Prop) (r0 : Nat) (r1 : Nat) (h : gm_H) : Prop :=
  ∃ q_1 : Nat, gm_fld h r0 10 25 = some (.ref q_1) ∧ ∃ x_2 : Int32, gm_fld h r0 10 26 = some (.int x_2) ∧ gE c d 194 [.ref r1, .ref q_1, .int (108 * x_2)] h (fun v3 h_3 => v3 = none ∧ ∃ x_4 : Int32, gm_fld h_3 r0 10 26 = some (.int x_4) ∧ ∃ fs5 : List Value, gm_get h_3 r0 = some (.inr (10, fs5)) ∧ 26 < fs5.length ∧ ∀ h_5 : gm_H, h_5 = gm_put h_3 r0 (.inr (10, fs5.set 26 (.int (x_4 + 1)))) → Post none h_5)
theorem ok195_49 (c : gx) (d : Nat) (Post : Option Value → gm_H → Prop)  (r0 : Nat) (r1 : Nat) (h : gm_H) (w : w195_49 c d Post r0 r1 h) : gV c d 195 (49, [some (.ref r0), some (.ref r1), none], [], h) Post := by
  have hk : ∀ pc i, gm_find gk_195 pc = some i → gm_code (gt_T c.1 c.2.1 c.2.2.1) 195 pc = some i := fun _ _ z => z
  unfold w195_49 at w
  unfold gV
  refine gw_pst hk 2 (st' := (51, [some (.ref r0), some (.ref r1), none], [.ref r0, .ref r1], h)) rfl ?_
  obtain ⟨q_1, e1, w⟩ := w
  refine gw_gf (hk _ _ rfl) e1 ?_
  refine gw_pst hk 2 (st' := (57, [some (.ref r0), some (.ref r1), none], [.ref r0, .int 108, .ref q_1, .ref r1], h)) rfl ?_
  obtain ⟨x_2, e2, w⟩ := w
  refine gw_gf (hk _ _ rfl) e2 ?_
  refine gw_pst hk 1 (st' := (61, [some (.ref r0), some (.ref r1), none], [.int (108 * x_2), .ref q_1, .ref r1], h)) rfl ?_
  refine gw_call (jj := 194) (As := [.ref r1, .ref q_1, .int (108 * x_2)]) (rest := []) (hk _ _ rfl) (fun _ => rfl) rfl rfl (Nat.le_of_ble_eq_true rfl) rfl ?_
  refine ge_imp w (fun v3 h_3 w => ?_)
  obtain ⟨rfl, w⟩ := w
  show gV c d 195 (64, [some (.ref r0), some (.ref r1), none], [], h_3) Post
  refine gw_pst hk 2 (st' := (66, [some (.ref r0), some (.ref r1), none], [.ref r0, .ref r0], h_3)) rfl ?_
  obtain ⟨x_4, e4, w⟩ := w
  refine gw_gf (hk _ _ rfl) e4 ?_
  refine gw_pst hk 2 (st' := (71, [some (.ref r0), some (.ref r1), none], [.int (x_4 + 1), .ref r0], h_3)) rfl ?_
  obtain ⟨fs5, e5, l5, w⟩ := w
  refine gw_pf (hk _ _ rfl) e5 l5 rfl ?_
  obtain ⟨h_5, eh5⟩ : ∃ z, z = gm_put h_3 r0 (.inr (10, fs5.set 26 (.int (x_4 + 1)))) := ⟨_, rfl⟩
  rw [← eh5]
  replace w := w h_5 eh5
  exact gw_ret (hk _ _ rfl) rfl w
def wb195_11 (c : gx) (d : Nat) (Post : Option Value → gm_H → Prop) (K11 : Nat → Nat → Int32 → gm_H → Prop) (r0 : Nat) (r1 : Nat) (x2 : Int32) (h : gm_H) : Prop :=
  ((1188 ≤ x2 → ∃ x_2 : Int32, gm_fld h r0 10 26 = some (.int x_2) ∧ ∃ fs3 : List Value, gm_get h r0 = some (.inr (10, fs3)) ∧ 26 < fs3.length ∧ ∀ h_3 : gm_H, h_3 = gm_put h r0 (.inr (10, fs3.set 26 (.int (x_2 - 1)))) → w195_49 c d Post r0 r1 h_3) ∧ (¬ (1188 ≤ x2) → ∃ q_4 : Nat, gm_fld h r0 10 25 = some (.ref q_4) ∧ ∃ q_5 : Nat, gm_fld h r0 10 25 = some (.ref q_5) ∧ ∃ (n6 : Nat) (f6 : Nat → Int32), gm_get h q_5 = some (.inl (0, n6, .inl f6)) ∧ vp_in (x2 + 108) n6 ∧ ∃ (n7 : Nat) (f7 : Nat → Int32), gm_get h q_4 = some (.inl (0, n7, .inl f7)) ∧ vp_in x2 n7 ∧ ∀ h_7 : gm_H, h_7 = gm_put h q_4 (.inl (0, n7, .inl (upd f7 (x2 : Int32).toNatClampNeg (vp_nar .int (f6 (x2 + 108 : Int32).toNatClampNeg))))) → K11 r0 r1 (x2 + 1) h_7))
theorem okb195_11 (c : gx) (d : Nat) (Post : Option Value → gm_H → Prop) (K11 : Nat → Nat → Int32 → gm_H → Prop)  (hK11 : ∀ (r0 : Nat) (r1 : Nat) (x2 : Int32) (h : gm_H), K11 r0 r1 x2 h → gV c d 195 (11, [some (.ref r0), some (.ref r1), some (.int x2)], [], h) Post) (r0 : Nat) (r1 : Nat) (x2 : Int32) (h : gm_H) (w : wb195_11 c d Post K11 r0 r1 x2 h) : gV c d 195 (11, [some (.ref r0), some (.ref r1), some (.int x2)], [], h) Post := by
  have hk : ∀ pc i, gm_find gk_195 pc = some i → gm_code (gt_T c.1 c.2.1 c.2.2.1) 195 pc = some i := fun _ _ z => z
  unfold wb195_11 at w
  unfold gV
  refine gw_pst hk 2 (st' := (15, [some (.ref r0), some (.ref r1), some (.int x2)], [.int 1188, .int x2], h)) rfl ?_
  refine gw_br (c := 1188 ≤ x2) (a := (39, [some (.ref r0), some (.ref r1), some (.int x2)], [], h)) (b := (18, [some (.ref r0), some (.ref r1), some (.int x2)], [], h)) (hk _ _ rfl) rfl ⟨fun z1 => ?_, fun z1 => ?_⟩
  · replace w := w.1 z1
    refine gw_pst hk 2 (st' := (41, [some (.ref r0), some (.ref r1), some (.int x2)], [.ref r0, .ref r0], h)) rfl ?_
    obtain ⟨x_2, e2, w⟩ := w
    refine gw_gf (hk _ _ rfl) e2 ?_
    refine gw_pst hk 2 (st' := (46, [some (.ref r0), some (.ref r1), some (.int x2)], [.int (x_2 - 1), .ref r0], h)) rfl ?_
    obtain ⟨fs3, e3, l3, w⟩ := w
    refine gw_pf (hk _ _ rfl) e3 l3 rfl ?_
    obtain ⟨h_3, eh3⟩ : ∃ z, z = gm_put h r0 (.inr (10, fs3.set 26 (.int (x_2 - 1)))) := ⟨_, rfl⟩
    rw [← eh3]
    replace w := w h_3 eh3
    refine gw_le (L' := [some (.ref r0), some (.ref r1), none]) (gm_le_k _ (gm_le_k _ (gm_le_n _ gm_le_nil))) ?_
    exact ok195_49 c d Post _ _ _ w
  · replace w := w.2 z1
    refine gw_pst hk 1 (st' := (19, [some (.ref r0), some (.ref r1), some (.int x2)], [.ref r0], h)) rfl ?_
    obtain ⟨q_4, e4, w⟩ := w
    refine gw_gf (hk _ _ rfl) e4 ?_
    refine gw_pst hk 2 (st' := (24, [some (.ref r0), some (.ref r1), some (.int x2)], [.ref r0, .int x2, .ref q_4], h)) rfl ?_
    obtain ⟨q_5, e5, w⟩ := w
    refine gw_gf (hk _ _ rfl) e5 ?_
    refine gw_pst hk 3 (st' := (31, [some (.ref r0), some (.ref r1), some (.int x2)], [.int (x2 + 108), .ref q_5, .int x2, .ref q_4], h)) rfl ?_
    obtain ⟨n6, f6, e6, b6, w⟩ := w
    refine gw_ald (hk _ _ rfl) (Or.inl ⟨rfl, rfl⟩) e6 b6 ?_
    obtain ⟨n7, f7, e7, b7, w⟩ := w
    refine gw_ast (hk _ _ rfl) (Or.inl ⟨rfl, rfl, rfl⟩) e7 b7 ?_
    obtain ⟨h_7, eh7⟩ : ∃ z, z = gm_put h q_4 (.inl (0, n7, .inl (upd f7 (x2 : Int32).toNatClampNeg (vp_nar .int (f6 (x2 + 108 : Int32).toNatClampNeg))))) := ⟨_, rfl⟩
    rw [← eh7]
    replace w := w h_7 eh7
    refine gw_pst hk 2 (st' := (11, [some (.ref r0), some (.ref r1), some (.int (x2 + 1))], [], h_7)) rfl ?_
    exact hK11 _ _ _ _ w
def wl195_11 (c : gx) (d : Nat) (Post : Option Value → gm_H → Prop) : Nat → Nat → Nat → Int32 → gm_H → Prop
  | 0 => fun _ _ _ _ => False
  | n + 1 => wb195_11 c d Post (wl195_11 c d Post n)
theorem okl195_11 (c : gx) (d : Nat) (Post : Option Value → gm_H → Prop) : ∀ (n : Nat) (r0 : Nat) (r1 : Nat) (x2 : Int32) (h : gm_H), wl195_11 c d Post n r0 r1 x2 h → gV c d 195 (11, [some (.ref r0), some (.ref r1), some (.int x2)], [], h) Post
  | 0, _, _, _, _, w => w.elim
  | n + 1, r0, r1, x2, h, w => okb195_11 c d Post (wl195_11 c d Post n) (okl195_11 c d Post n) r0 r1 x2 h w
/-- CommandByTurnsModel.remember([I)V -/
def wm195 (c : gx) (d : Nat) (Post : Option Value → gm_H → Prop) (r0 : Nat) (r1 : Nat) (h : gm_H) : Prop :=
  ∃ x_1 : Int32, gm_fld h r0 10 26 = some (.int x_1) ∧ ((x_1 = 12 → ∃ n, wl195_11 c d Post n r0 r1 0 h) ∧ (¬ (x_1 = 12) → w195_49 c d Post r0 r1 h))
theorem okm195 (c : gx) (d : Nat) (Post : Option Value → gm_H → Prop) (r0 : Nat) (r1 : Nat) (h : gm_H) (w : wm195 c d Post r0 r1 h) : gE c (d + 1) 195 [.ref r0, .ref r1] h Post := by
  have hk : ∀ pc i, gm_find gk_195 pc = some i → gm_code (gt_T c.1 c.2.1 c.2.2.1) 195 pc = some i := fun _ _ z => z
  unfold wm195 at w
  refine ge_of (by decide) (Nat.le_of_ble_eq_true rfl) ?_
  show gV c d 195 (0, [some (.ref r0), some (.ref r1), none], [], h) Post
  unfold gV
  refine gw_pst hk 1 (st' := (1, [some (.ref r0), some (.ref r1), none], [.ref r0], h)) rfl ?_
  obtain ⟨x_1, e1, w⟩ := w
  refine gw_gf (hk _ _ rfl) e1 ?_
  refine gw_pst hk 1 (st' := (6, [some (.ref r0), some (.ref r1), none], [.int 12, .int x_1], h)) rfl ?_
  refine gw_br (c := x_1 = 12) (a := (9, [some (.ref r0), some (.ref r1), none], [], h)) (b := (49, [some (.ref r0), some (.ref r1), none], [], h)) (hk _ _ rfl) rfl ⟨fun z2 => ?_, fun z2 => ?_⟩
  · replace w := w.1 z2
    refine gw_pst hk 2 (st' := (11, [some (.ref r0), some (.ref r1), some (.int 0)], [], h)) rfl ?_
    obtain ⟨n, w⟩ := w
    exact okl195_11 c d Post n _ _ _ _ w
  · replace w := w.2 z2
    exact ok195_49 c d Post _ _ _ w
/-- CommandByTurnsModel.takes([I)I -/
def wm196 (c : gx) (d : Nat) (Post : Option Value → gm_H → Prop) (r0 : Nat) (h : gm_H) : Prop :=
  ∃ (n1 : Nat) (f1 : Nat → Int32), gm_get h r0 = some (.inl (0, n1, .inl f1)) ∧ vp_in 3 n1 ∧ Post (some (.int (((f1 (3 : Int32).toNatClampNeg) / 100) + 1))) h
theorem okm196 (c : gx) (d : Nat) (Post : Option Value → gm_H → Prop) (r0 : Nat) (h : gm_H) (w : wm196 c d Post r0 h) : gE c (d + 1) 196 [.ref r0] h Post := by
  have hk : ∀ pc i, gm_find gk_196 pc = some i → gm_code (gt_T c.1 c.2.1 c.2.2.1) 196 pc = some i := fun _ _ z => z
  unfold wm196 at w
  refine ge_of (by decide) (Nat.le_of_ble_eq_true rfl) ?_
  show gV c d 196 (0, [some (.ref r0)], [], h) Post
  unfold gV
  refine gw_pst hk 2 (st' := (2, [some (.ref r0)], [.int 3, .ref r0], h)) rfl ?_
  obtain ⟨n1, f1, e1, b1, w⟩ := w
  refine gw_ald (hk _ _ rfl) (Or.inl ⟨rfl, rfl⟩) e1 b1 ?_
  refine gw_pst hk 1 (st' := (5, [some (.ref r0)], [.int 100, .int (f1 (3 : Int32).toNatClampNeg)], h)) rfl ?_
  refine gw_idiv (hk _ _ rfl) (by decide) ?_ rfl
  refine gw_pst hk 2 (st' := (8, [some (.ref r0)], [.int (((f1 (3 : Int32).toNatClampNeg) / 100) + 1)], h)) rfl ?_
  exact gw_ret (hk _ _ rfl) rfl w
def w197_38 (c : gx) (d : Nat) (Post : Option Value → gm_H → Prop) (r0 : Nat) (h : gm_H) : Prop :=
  ∃ (n1 : Nat) (f1 : Nat → Int32), gm_get h r0 = some (.inl (0, n1, .inl f1)) ∧ vp_in 0 n1 ∧ ∃ (n2 : Nat) (f2 : Nat → Int32), gm_get h r0 = some (.inl (0, n2, .inl f2)) ∧ vp_in 0 n2 ∧ ∀ h_2 : gm_H, h_2 = gm_put h r0 (.inl (0, n2, .inl (upd f2 (0 : Int32).toNatClampNeg (vp_nar .int ((f1 (0 : Int32).toNatClampNeg) + 1))))) → Post none h_2
theorem ok197_38 (c : gx) (d : Nat) (Post : Option Value → gm_H → Prop)  (r0 : Nat) (h : gm_H) (w : w197_38 c d Post r0 h) : gV c d 197 (38, [some (.ref r0), none], [], h) Post := by
  have hk : ∀ pc i, gm_find gk_197 pc = some i → gm_code (gt_T c.1 c.2.1 c.2.2.1) 197 pc = some i := fun _ _ z => z
  unfold w197_38 at w
  unfold gV
  refine gw_pst hk 3 (st' := (41, [some (.ref r0), none], [.int 0, .ref r0, .int 0, .ref r0], h)) rfl ?_
  obtain ⟨n1, f1, e1, b1, w⟩ := w
  refine gw_ald (hk _ _ rfl) (Or.inl ⟨rfl, rfl⟩) e1 b1 ?_
  refine gw_pst hk 2 (st' := (44, [some (.ref r0), none], [.int ((f1 (0 : Int32).toNatClampNeg) + 1), .int 0, .ref r0], h)) rfl ?_
  obtain ⟨n2, f2, e2, b2, w⟩ := w
  refine gw_ast (hk _ _ rfl) (Or.inl ⟨rfl, rfl, rfl⟩) e2 b2 ?_
  obtain ⟨h_2, eh2⟩ : ∃ z, z = gm_put h r0 (.inl (0, n2, .inl (upd f2 (0 : Int32).toNatClampNeg (vp_nar .int ((f1 (0 : Int32).toNatClampNeg) + 1))))) := ⟨_, rfl⟩
  rw [← eh2]
  replace w := w h_2 eh2
  exact gw_ret (hk _ _ rfl) rfl w
/-- CommandByTurnsModel.goNight([I)V -/
def wm197 (c : gx) (d : Nat) (Post : Option Value → gm_H → Prop) (r0 : Nat) (h : gm_H) : Prop :=
  gE c d 196 [.ref r0] h (fun v1 h_1 => ∃ x_1 : Int32, v1 = some (.int x_1) ∧ ∃ (n2 : Nat) (f2 : Nat → Int32), gm_get h_1 r0 = some (.inl (0, n2, .inl f2)) ∧ vp_in 5 n2 ∧ ((x_1 ≤ (f2 (5 : Int32).toNatClampNeg) → ∃ (n4 : Nat) (f4 : Nat → Int32), gm_get h_1 r0 = some (.inl (0, n4, .inl f4)) ∧ vp_in 5 n4 ∧ ∃ (n5 : Nat) (f5 : Nat → Int32), gm_get h_1 r0 = some (.inl (0, n5, .inl f5)) ∧ vp_in 5 n5 ∧ ∀ h_5 : gm_H, h_5 = gm_put h_1 r0 (.inl (0, n5, .inl (upd f5 (5 : Int32).toNatClampNeg (vp_nar .int ((f4 (5 : Int32).toNatClampNeg) - x_1))))) → w197_38 c d Post r0 h_5) ∧ (¬ (x_1 ≤ (f2 (5 : Int32).toNatClampNeg)) → ∃ (n6 : Nat) (f6 : Nat → Int32), gm_get h_1 r0 = some (.inl (0, n6, .inl f6)) ∧ vp_in 5 n6 ∧ ∀ h_6 : gm_H, h_6 = gm_put h_1 r0 (.inl (0, n6, .inl (upd f6 (5 : Int32).toNatClampNeg (vp_nar .int 0)))) → ∃ (n7 : Nat) (f7 : Nat → Int32), gm_get h_6 r0 = some (.inl (0, n7, .inl f7)) ∧ vp_in 3 n7 ∧ ∃ (n8 : Nat) (f8 : Nat → Int32), gm_get h_6 r0 = some (.inl (0, n8, .inl f8)) ∧ vp_in 3 n8 ∧ ∃ (n9 : Nat) (f9 : Nat → Int32), gm_get h_6 r0 = some (.inl (0, n9, .inl f9)) ∧ vp_in 3 n9 ∧ ∀ h_9 : gm_H, h_9 = gm_put h_6 r0 (.inl (0, n9, .inl (upd f9 (3 : Int32).toNatClampNeg (vp_nar .int ((f7 (3 : Int32).toNatClampNeg) - ((f8 (3 : Int32).toNatClampNeg) / 10)))))) → w197_38 c d Post r0 h_9)))
theorem okm197 (c : gx) (d : Nat) (Post : Option Value → gm_H → Prop) (r0 : Nat) (h : gm_H) (w : wm197 c d Post r0 h) : gE c (d + 1) 197 [.ref r0] h Post := by
  have hk : ∀ pc i, gm_find gk_197 pc = some i → gm_code (gt_T c.1 c.2.1 c.2.2.1) 197 pc = some i := fun _ _ z => z
  unfold wm197 at w
  refine ge_of (by decide) (Nat.le_of_ble_eq_true rfl) ?_
  show gV c d 197 (0, [some (.ref r0), none], [], h) Post
  unfold gV
  refine gw_pst hk 1 (st' := (1, [some (.ref r0), none], [.ref r0], h)) rfl ?_
  refine gw_call (jj := 196) (As := [.ref r0]) (rest := []) (hk _ _ rfl) (fun _ => rfl) rfl rfl (Nat.le_of_ble_eq_true rfl) rfl ?_
  refine ge_imp w (fun v1 h_1 w => ?_)
  obtain ⟨x_1, rfl, w⟩ := w
  show gV c d 197 (4, [some (.ref r0), none], [.int x_1], h_1) Post
  refine gw_pst hk 3 (st' := (7, [some (.ref r0), some (.int x_1)], [.int 5, .ref r0], h_1)) rfl ?_
  obtain ⟨n2, f2, e2, b2, w⟩ := w
  refine gw_ald (hk _ _ rfl) (Or.inl ⟨rfl, rfl⟩) e2 b2 ?_
  refine gw_pst hk 1 (st' := (9, [some (.ref r0), some (.int x_1)], [.int x_1, .int (f2 (5 : Int32).toNatClampNeg)], h_1)) rfl ?_
  refine gw_br (c := x_1 ≤ (f2 (5 : Int32).toNatClampNeg)) (a := (31, [some (.ref r0), some (.int x_1)], [], h_1)) (b := (12, [some (.ref r0), some (.int x_1)], [], h_1)) (hk _ _ rfl) rfl ⟨fun z3 => ?_, fun z3 => ?_⟩
  · replace w := w.1 z3
    refine gw_pst hk 3 (st' := (34, [some (.ref r0), some (.int x_1)], [.int 5, .ref r0, .int 5, .ref r0], h_1)) rfl ?_
    obtain ⟨n4, f4, e4, b4, w⟩ := w
    refine gw_ald (hk _ _ rfl) (Or.inl ⟨rfl, rfl⟩) e4 b4 ?_
    refine gw_pst hk 2 (st' := (37, [some (.ref r0), some (.int x_1)], [.int ((f4 (5 : Int32).toNatClampNeg) - x_1), .int 5, .ref r0], h_1)) rfl ?_
    obtain ⟨n5, f5, e5, b5, w⟩ := w
    refine gw_ast (hk _ _ rfl) (Or.inl ⟨rfl, rfl, rfl⟩) e5 b5 ?_
    obtain ⟨h_5, eh5⟩ : ∃ z, z = gm_put h_1 r0 (.inl (0, n5, .inl (upd f5 (5 : Int32).toNatClampNeg (vp_nar .int ((f4 (5 : Int32).toNatClampNeg) - x_1))))) := ⟨_, rfl⟩
    rw [← eh5]
    replace w := w h_5 eh5
    refine gw_le (L' := [some (.ref r0), none]) (gm_le_k _ (gm_le_n _ gm_le_nil)) ?_
    exact ok197_38 c d Post _ _ w
  · replace w := w.2 z3
    refine gw_pst hk 3 (st' := (15, [some (.ref r0), some (.int x_1)], [.int 0, .int 5, .ref r0], h_1)) rfl ?_
    obtain ⟨n6, f6, e6, b6, w⟩ := w
    refine gw_ast (hk _ _ rfl) (Or.inl ⟨rfl, rfl, rfl⟩) e6 b6 ?_
    obtain ⟨h_6, eh6⟩ : ∃ z, z = gm_put h_1 r0 (.inl (0, n6, .inl (upd f6 (5 : Int32).toNatClampNeg (vp_nar .int 0)))) := ⟨_, rfl⟩
    rw [← eh6]
    replace w := w h_6 eh6
    refine gw_pst hk 3 (st' := (19, [some (.ref r0), some (.int x_1)], [.int 3, .ref r0, .int 3, .ref r0], h_6)) rfl ?_
    obtain ⟨n7, f7, e7, b7, w⟩ := w
    refine gw_ald (hk _ _ rfl) (Or.inl ⟨rfl, rfl⟩) e7 b7 ?_
    refine gw_pst hk 2 (st' := (22, [some (.ref r0), some (.int x_1)], [.int 3, .ref r0, .int (f7 (3 : Int32).toNatClampNeg), .int 3, .ref r0], h_6)) rfl ?_
    obtain ⟨n8, f8, e8, b8, w⟩ := w
    refine gw_ald (hk _ _ rfl) (Or.inl ⟨rfl, rfl⟩) e8 b8 ?_
    refine gw_pst hk 1 (st' := (25, [some (.ref r0), some (.int x_1)], [.int 10, .int (f8 (3 : Int32).toNatClampNeg), .int (f7 (3 : Int32).toNatClampNeg), .int 3, .ref r0], h_6)) rfl ?_
    refine gw_idiv (hk _ _ rfl) (by decide) ?_ rfl
    refine gw_pst hk 1 (st' := (27, [some (.ref r0), some (.int x_1)], [.int ((f7 (3 : Int32).toNatClampNeg) - ((f8 (3 : Int32).toNatClampNeg) / 10)), .int 3, .ref r0], h_6)) rfl ?_
    obtain ⟨n9, f9, e9, b9, w⟩ := w
    refine gw_ast (hk _ _ rfl) (Or.inl ⟨rfl, rfl, rfl⟩) e9 b9 ?_
    obtain ⟨h_9, eh9⟩ : ∃ z, z = gm_put h_6 r0 (.inl (0, n9, .inl (upd f9 (3 : Int32).toNatClampNeg (vp_nar .int ((f7 (3 : Int32).toNatClampNeg) - ((f8 (3 : Int32).toNatClampNeg) / 10)))))) := ⟨_, rfl⟩
    rw [← eh9]
    replace w := w h_9 eh9
    refine gw_pst hk 1 (st' := (38, [some (.ref r0), some (.int x_1)], [], h_9)) rfl ?_
    refine gw_le (L' := [some (.ref r0), none]) (gm_le_k _ (gm_le_n _ gm_le_nil)) ?_
    exact ok197_38 c d Post _ _ w
/-- CommandByTurnsModel.whose()I -/
def wm198 (c : gx) (d : Nat) (Post : Option Value → gm_H → Prop) (r0 : Nat) (h : gm_H) : Prop :=
  ∃ fs1 : List Value, gm_get h r0 = some (.inr (10, fs1)) ∧ 13 < fs1.length ∧ ∀ h_1 : gm_H, h_1 = gm_put h r0 (.inr (10, fs1.set 13 (.int 0))) → ∃ q_2 : Nat, gm_fld h_1 r0 10 0 = some (.ref q_2) ∧ ∃ q_3 : Nat, gm_fld h_1 r0 10 0 = some (.ref q_3) ∧ ∃ (n4 : Nat) (f4 : Nat → Int32), gm_get h_1 q_3 = some (.inl (0, n4, .inl f4)) ∧ vp_in 0 n4 ∧ gE c d 184 [.ref q_2, .int (f4 (0 : Int32).toNatClampNeg)] h_1 (fun v5 h_5 => ∃ x_5 : Int32, v5 = some (.int x_5) ∧ Post (some (.int x_5)) h_5)
theorem okm198 (c : gx) (d : Nat) (Post : Option Value → gm_H → Prop) (r0 : Nat) (h : gm_H) (w : wm198 c d Post r0 h) : gE c (d + 1) 198 [.ref r0] h Post := by
  have hk : ∀ pc i, gm_find gk_198 pc = some i → gm_code (gt_T c.1 c.2.1 c.2.2.1) 198 pc = some i := fun _ _ z => z
  unfold wm198 at w
  refine ge_of (by decide) (Nat.le_of_ble_eq_true rfl) ?_
  show gV c d 198 (0, [some (.ref r0)], [], h) Post
  unfold gV
  refine gw_pst hk 2 (st' := (2, [some (.ref r0)], [.int 0, .ref r0], h)) rfl ?_
  obtain ⟨fs1, e1, l1, w⟩ := w
  refine gw_pf (hk _ _ rfl) e1 l1 rfl ?_
  obtain ⟨h_1, eh1⟩ : ∃ z, z = gm_put h r0 (.inr (10, fs1.set 13 (.int 0))) := ⟨_, rfl⟩
  rw [← eh1]
  replace w := w h_1 eh1
  refine gw_pst hk 1 (st' := (6, [some (.ref r0)], [.ref r0], h_1)) rfl ?_
  obtain ⟨q_2, e2, w⟩ := w
  refine gw_gf (hk _ _ rfl) e2 ?_
  refine gw_pst hk 1 (st' := (10, [some (.ref r0)], [.ref r0, .ref q_2], h_1)) rfl ?_
  obtain ⟨q_3, e3, w⟩ := w
  refine gw_gf (hk _ _ rfl) e3 ?_
  refine gw_pst hk 1 (st' := (14, [some (.ref r0)], [.int 0, .ref q_3, .ref q_2], h_1)) rfl ?_
  obtain ⟨n4, f4, e4, b4, w⟩ := w
  refine gw_ald (hk _ _ rfl) (Or.inl ⟨rfl, rfl⟩) e4 b4 ?_
  refine gw_call (jj := 184) (As := [.ref q_2, .int (f4 (0 : Int32).toNatClampNeg)]) (rest := []) (hk _ _ rfl) (fun _ => rfl) rfl rfl (Nat.le_of_ble_eq_true rfl) rfl ?_
  refine ge_imp w (fun v5 h_5 w => ?_)
  obtain ⟨x_5, rfl, w⟩ := w
  show gV c d 198 (18, [some (.ref r0)], [.int x_5], h_5) Post
  exact gw_ret (hk _ _ rfl) rfl w
def w199_15 (c : gx) (d : Nat) (Post : Option Value → gm_H → Prop)  (h : gm_H) : Prop :=
  Post (some (.int (-1))) h
theorem ok199_15 (c : gx) (d : Nat) (Post : Option Value → gm_H → Prop)   (h : gm_H) (w : w199_15 c d Post  h) : gV c d 199 (15, [none, none, none, none], [], h) Post := by
  have hk : ∀ pc i, gm_find gk_199 pc = some i → gm_code (gt_T c.1 c.2.1 c.2.2.1) 199 pc = some i := fun _ _ z => z
  unfold w199_15 at w
  unfold gV
  refine gw_pst hk 1 (st' := (16, [none, none, none, none], [.int (-1)], h)) rfl ?_
  exact gw_ret (hk _ _ rfl) rfl w
def w199_106 (c : gx) (d : Nat) (Post : Option Value → gm_H → Prop) (xs0 : Int32) (h : gm_H) : Prop :=
  Post (some (.int xs0)) h
theorem ok199_106 (c : gx) (d : Nat) (Post : Option Value → gm_H → Prop)  (xs0 : Int32) (h : gm_H) (w : w199_106 c d Post xs0 h) : gV c d 199 (106, [none, none, none, none], [.int xs0], h) Post := by
  have hk : ∀ pc i, gm_find gk_199 pc = some i → gm_code (gt_T c.1 c.2.1 c.2.2.1) 199 pc = some i := fun _ _ z => z
  unfold w199_106 at w
  unfold gV
  exact gw_ret (hk _ _ rfl) rfl w
/-- CommandByTurnsModel.refusesMarch(I)I -/
def wm199 (c : gx) (d : Nat) (Post : Option Value → gm_H → Prop) (r0 : Nat) (x1 : Int32) (h : gm_H) : Prop :=
  gE c d 154 [.int x1, .int (-12), .int 12] h (fun v1 h_1 => ∃ x_1 : Int32, v1 = some (.int x_1) ∧ ((x_1 = 0 → w199_15 c d Post h_1) ∧ (¬ (x_1 = 0) → ((x1 = 0 → w199_15 c d Post h_1) ∧ (¬ (x1 = 0) → ∃ q_4 : Nat, gm_fld h_1 r0 10 0 = some (.ref q_4) ∧ ∃ q_5 : Nat, gm_fld h_1 r0 10 0 = some (.ref q_5) ∧ ∃ (n6 : Nat) (f6 : Nat → Int32), gm_get h_1 q_5 = some (.inl (0, n6, .inl f6)) ∧ vp_in 0 n6 ∧ gE c d 184 [.ref q_4, .int (f6 (0 : Int32).toNatClampNeg)] h_1 (fun v7 h_7 => ∃ x_7 : Int32, v7 = some (.int x_7) ∧ ((x_7 = (-1) → Post (some (.int (-2))) h_7) ∧ (¬ (x_7 = (-1)) → ∃ q_9 : Nat, gm_fld h_7 r0 10 0 = some (.ref q_9) ∧ ∃ (n10 : Nat) (f10 : Nat → Int32), gm_get h_7 q_9 = some (.inl (0, n10, .inl f10)) ∧ vp_in 1 n10 ∧ (∃ fs11, gm_get h_7 r0 = some (.inr (10, fs11))) ∧ gE c d 158 [.ref r0, .int ((f10 (1 : Int32).toNatClampNeg) + x1)] h_7 (fun v11 h_11 => ∃ x_11 : Int32, v11 = some (.int x_11) ∧ ((x_11 = 0 → Post (some (.int (-3))) h_11) ∧ (¬ (x_11 = 0) → ∃ q_13 : Nat, gm_fld h_11 r0 10 0 = some (.ref q_13) ∧ ∃ (n14 : Nat) (f14 : Nat → Int32), gm_get h_11 q_13 = some (.inl (0, n14, .inl f14)) ∧ vp_in 1 n14 ∧ (∃ fs15, gm_get h_11 r0 = some (.inr (10, fs15))) ∧ gE c d 187 [.ref r0, .int (f14 (1 : Int32).toNatClampNeg), .int ((f10 (1 : Int32).toNatClampNeg) + x1)] h_11 (fun v15 h_15 => ∃ x_15 : Int32, v15 = some (.int x_15) ∧ (∃ fs16, gm_get h_15 r0 = some (.inr (10, fs16))) ∧ gE c d 186 [.ref r0, .int x_7] h_15 (fun v16 h_16 => ∃ x_16 : Int32, v16 = some (.int x_16) ∧ ((x_15 ≤ x_16 → ∃ q_18 : Nat, gm_fld h_16 r0 10 0 = some (.ref q_18) ∧ ∃ (n19 : Nat) (f19 : Nat → Int32), gm_get h_16 q_18 = some (.inl (0, n19, .inl f19)) ∧ vp_in 1 n19 ∧ ∃ q_20 : Nat, gm_fld h_16 r0 10 0 = some (.ref q_20) ∧ ∃ (n21 : Nat) (f21 : Nat → Int32), gm_get h_16 q_20 = some (.inl (0, n21, .inl f21)) ∧ vp_in 2 n21 ∧ gE c d 188 [.int (f19 (1 : Int32).toNatClampNeg), .int ((f10 (1 : Int32).toNatClampNeg) + x1), .int (f21 (2 : Int32).toNatClampNeg)] h_16 (fun v22 h_22 => ∃ x_22 : Int32, v22 = some (.int x_22) ∧ ((x_22 = 0 → w199_106 c d Post 0 h_22) ∧ (¬ (x_22 = 0) → w199_106 c d Post (-5) h_22)))) ∧ (¬ (x_15 ≤ x_16) → Post (some (.int (-4))) h_16)))))))))))))))
theorem okm199 (c : gx) (d : Nat) (Post : Option Value → gm_H → Prop) (r0 : Nat) (x1 : Int32) (h : gm_H) (w : wm199 c d Post r0 x1 h) : gE c (d + 1) 199 [.ref r0, .int x1] h Post := by
  have hk : ∀ pc i, gm_find gk_199 pc = some i → gm_code (gt_T c.1 c.2.1 c.2.2.1) 199 pc = some i := fun _ _ z => z
  unfold wm199 at w
  refine ge_of (by decide) (Nat.le_of_ble_eq_true rfl) ?_
  show gV c d 199 (0, [some (.ref r0), some (.int x1), none, none], [], h) Post
  unfold gV
  refine gw_pst hk 3 (st' := (5, [some (.ref r0), some (.int x1), none, none], [.int 12, .int (-12), .int x1], h)) rfl ?_
  refine gw_call (jj := 154) (As := [.int x1, .int (-12), .int 12]) (rest := []) (hk _ _ rfl) (fun _ => rfl) rfl rfl (Nat.le_of_ble_eq_true rfl) rfl ?_
  refine ge_imp w (fun v1 h_1 w => ?_)
  obtain ⟨x_1, rfl, w⟩ := w
  show gV c d 199 (8, [some (.ref r0), some (.int x1), none, none], [.int x_1], h_1) Post
  refine gw_br (c := x_1 = 0) (a := (15, [some (.ref r0), some (.int x1), none, none], [], h_1)) (b := (11, [some (.ref r0), some (.int x1), none, none], [], h_1)) (hk _ _ rfl) rfl ⟨fun z2 => ?_, fun z2 => ?_⟩
  · replace w := w.1 z2
    refine gw_le (L' := [none, none, none, none]) (gm_le_n _ (gm_le_n _ (gm_le_k _ (gm_le_k _ gm_le_nil)))) ?_
    exact ok199_15 c d Post _ w
  · replace w := w.2 z2
    refine gw_pst hk 1 (st' := (12, [some (.ref r0), some (.int x1), none, none], [.int x1], h_1)) rfl ?_
    refine gw_br (c := x1 = 0) (a := (15, [some (.ref r0), some (.int x1), none, none], [], h_1)) (b := (17, [some (.ref r0), some (.int x1), none, none], [], h_1)) (hk _ _ rfl) rfl ⟨fun z3 => ?_, fun z3 => ?_⟩
    · replace w := w.1 z3
      refine gw_le (L' := [none, none, none, none]) (gm_le_n _ (gm_le_n _ (gm_le_k _ (gm_le_k _ gm_le_nil)))) ?_
      exact ok199_15 c d Post _ w
    · replace w := w.2 z3
      refine gw_pst hk 1 (st' := (18, [some (.ref r0), some (.int x1), none, none], [.ref r0], h_1)) rfl ?_
      obtain ⟨q_4, e4, w⟩ := w
      refine gw_gf (hk _ _ rfl) e4 ?_
      refine gw_pst hk 1 (st' := (22, [some (.ref r0), some (.int x1), none, none], [.ref r0, .ref q_4], h_1)) rfl ?_
      obtain ⟨q_5, e5, w⟩ := w
      refine gw_gf (hk _ _ rfl) e5 ?_
      refine gw_pst hk 1 (st' := (26, [some (.ref r0), some (.int x1), none, none], [.int 0, .ref q_5, .ref q_4], h_1)) rfl ?_
      obtain ⟨n6, f6, e6, b6, w⟩ := w
      refine gw_ald (hk _ _ rfl) (Or.inl ⟨rfl, rfl⟩) e6 b6 ?_
      refine gw_call (jj := 184) (As := [.ref q_4, .int (f6 (0 : Int32).toNatClampNeg)]) (rest := []) (hk _ _ rfl) (fun _ => rfl) rfl rfl (Nat.le_of_ble_eq_true rfl) rfl ?_
      refine ge_imp w (fun v7 h_7 w => ?_)
      obtain ⟨x_7, rfl, w⟩ := w
      show gV c d 199 (30, [some (.ref r0), some (.int x1), none, none], [.int x_7], h_7) Post
      refine gw_pst hk 3 (st' := (33, [some (.ref r0), some (.int x1), some (.int x_7), none], [.int (-1), .int x_7], h_7)) rfl ?_
      refine gw_br (c := x_7 = (-1)) (a := (36, [some (.ref r0), some (.int x1), some (.int x_7), none], [], h_7)) (b := (39, [some (.ref r0), some (.int x1), some (.int x_7), none], [], h_7)) (hk _ _ rfl) rfl ⟨fun z8 => ?_, fun z8 => ?_⟩
      · replace w := w.1 z8
        refine gw_pst hk 1 (st' := (38, [some (.ref r0), some (.int x1), some (.int x_7), none], [.int (-2)], h_7)) rfl ?_
        exact gw_ret (hk _ _ rfl) rfl w
      · replace w := w.2 z8
        refine gw_pst hk 1 (st' := (40, [some (.ref r0), some (.int x1), some (.int x_7), none], [.ref r0], h_7)) rfl ?_
        obtain ⟨q_9, e9, w⟩ := w
        refine gw_gf (hk _ _ rfl) e9 ?_
        refine gw_pst hk 1 (st' := (44, [some (.ref r0), some (.int x1), some (.int x_7), none], [.int 1, .ref q_9], h_7)) rfl ?_
        obtain ⟨n10, f10, e10, b10, w⟩ := w
        refine gw_ald (hk _ _ rfl) (Or.inl ⟨rfl, rfl⟩) e10 b10 ?_
        refine gw_pst hk 5 (st' := (50, [some (.ref r0), some (.int x1), some (.int x_7), some (.int ((f10 (1 : Int32).toNatClampNeg) + x1))], [.int ((f10 (1 : Int32).toNatClampNeg) + x1), .ref r0], h_7)) rfl ?_
        obtain ⟨⟨fs11, e11⟩, w⟩ := w
        refine gw_call (jj := 158) (As := [.ref r0, .int ((f10 (1 : Int32).toNatClampNeg) + x1)]) (rest := []) (hk _ _ rfl) (fun _ => rfl) rfl rfl (Nat.le_of_ble_eq_true rfl) (gm_rcv_v rfl e11 rfl) ?_
        refine ge_imp w (fun v11 h_11 w => ?_)
        obtain ⟨x_11, rfl, w⟩ := w
        show gV c d 199 (53, [some (.ref r0), some (.int x1), some (.int x_7), some (.int ((f10 (1 : Int32).toNatClampNeg) + x1))], [.int x_11], h_11) Post
        refine gw_br (c := x_11 = 0) (a := (56, [some (.ref r0), some (.int x1), some (.int x_7), some (.int ((f10 (1 : Int32).toNatClampNeg) + x1))], [], h_11)) (b := (59, [some (.ref r0), some (.int x1), some (.int x_7), some (.int ((f10 (1 : Int32).toNatClampNeg) + x1))], [], h_11)) (hk _ _ rfl) rfl ⟨fun z12 => ?_, fun z12 => ?_⟩
        · replace w := w.1 z12
          refine gw_pst hk 1 (st' := (58, [some (.ref r0), some (.int x1), some (.int x_7), some (.int ((f10 (1 : Int32).toNatClampNeg) + x1))], [.int (-3)], h_11)) rfl ?_
          exact gw_ret (hk _ _ rfl) rfl w
        · replace w := w.2 z12
          refine gw_pst hk 2 (st' := (61, [some (.ref r0), some (.int x1), some (.int x_7), some (.int ((f10 (1 : Int32).toNatClampNeg) + x1))], [.ref r0, .ref r0], h_11)) rfl ?_
          obtain ⟨q_13, e13, w⟩ := w
          refine gw_gf (hk _ _ rfl) e13 ?_
          refine gw_pst hk 1 (st' := (65, [some (.ref r0), some (.int x1), some (.int x_7), some (.int ((f10 (1 : Int32).toNatClampNeg) + x1))], [.int 1, .ref q_13, .ref r0], h_11)) rfl ?_
          obtain ⟨n14, f14, e14, b14, w⟩ := w
          refine gw_ald (hk _ _ rfl) (Or.inl ⟨rfl, rfl⟩) e14 b14 ?_
          refine gw_pst hk 1 (st' := (67, [some (.ref r0), some (.int x1), some (.int x_7), some (.int ((f10 (1 : Int32).toNatClampNeg) + x1))], [.int ((f10 (1 : Int32).toNatClampNeg) + x1), .int (f14 (1 : Int32).toNatClampNeg), .ref r0], h_11)) rfl ?_
          obtain ⟨⟨fs15, e15⟩, w⟩ := w
          refine gw_call (jj := 187) (As := [.ref r0, .int (f14 (1 : Int32).toNatClampNeg), .int ((f10 (1 : Int32).toNatClampNeg) + x1)]) (rest := []) (hk _ _ rfl) (fun _ => rfl) rfl rfl (Nat.le_of_ble_eq_true rfl) (gm_rcv_v rfl e15 rfl) ?_
          refine ge_imp w (fun v15 h_15 w => ?_)
          obtain ⟨x_15, rfl, w⟩ := w
          show gV c d 199 (70, [some (.ref r0), some (.int x1), some (.int x_7), some (.int ((f10 (1 : Int32).toNatClampNeg) + x1))], [.int x_15], h_15) Post
          refine gw_pst hk 2 (st' := (72, [some (.ref r0), some (.int x1), some (.int x_7), some (.int ((f10 (1 : Int32).toNatClampNeg) + x1))], [.int x_7, .ref r0, .int x_15], h_15)) rfl ?_
          obtain ⟨⟨fs16, e16⟩, w⟩ := w
          refine gw_call (jj := 186) (As := [.ref r0, .int x_7]) (rest := [.int x_15]) (hk _ _ rfl) (fun _ => rfl) rfl rfl (Nat.le_of_ble_eq_true rfl) (gm_rcv_v rfl e16 rfl) ?_
          refine ge_imp w (fun v16 h_16 w => ?_)
          obtain ⟨x_16, rfl, w⟩ := w
          show gV c d 199 (75, [some (.ref r0), some (.int x1), some (.int x_7), some (.int ((f10 (1 : Int32).toNatClampNeg) + x1))], [.int x_16, .int x_15], h_16) Post
          refine gw_br (c := x_15 ≤ x_16) (a := (81, [some (.ref r0), some (.int x1), some (.int x_7), some (.int ((f10 (1 : Int32).toNatClampNeg) + x1))], [], h_16)) (b := (78, [some (.ref r0), some (.int x1), some (.int x_7), some (.int ((f10 (1 : Int32).toNatClampNeg) + x1))], [], h_16)) (hk _ _ rfl) rfl ⟨fun z17 => ?_, fun z17 => ?_⟩
          · replace w := w.1 z17
            refine gw_pst hk 1 (st' := (82, [some (.ref r0), some (.int x1), some (.int x_7), some (.int ((f10 (1 : Int32).toNatClampNeg) + x1))], [.ref r0], h_16)) rfl ?_
            obtain ⟨q_18, e18, w⟩ := w
            refine gw_gf (hk _ _ rfl) e18 ?_
            refine gw_pst hk 1 (st' := (86, [some (.ref r0), some (.int x1), some (.int x_7), some (.int ((f10 (1 : Int32).toNatClampNeg) + x1))], [.int 1, .ref q_18], h_16)) rfl ?_
            obtain ⟨n19, f19, e19, b19, w⟩ := w
            refine gw_ald (hk _ _ rfl) (Or.inl ⟨rfl, rfl⟩) e19 b19 ?_
            refine gw_pst hk 2 (st' := (89, [some (.ref r0), some (.int x1), some (.int x_7), some (.int ((f10 (1 : Int32).toNatClampNeg) + x1))], [.ref r0, .int ((f10 (1 : Int32).toNatClampNeg) + x1), .int (f19 (1 : Int32).toNatClampNeg)], h_16)) rfl ?_
            obtain ⟨q_20, e20, w⟩ := w
            refine gw_gf (hk _ _ rfl) e20 ?_
            refine gw_pst hk 1 (st' := (93, [some (.ref r0), some (.int x1), some (.int x_7), some (.int ((f10 (1 : Int32).toNatClampNeg) + x1))], [.int 2, .ref q_20, .int ((f10 (1 : Int32).toNatClampNeg) + x1), .int (f19 (1 : Int32).toNatClampNeg)], h_16)) rfl ?_
            obtain ⟨n21, f21, e21, b21, w⟩ := w
            refine gw_ald (hk _ _ rfl) (Or.inl ⟨rfl, rfl⟩) e21 b21 ?_
            refine gw_call (jj := 188) (As := [.int (f19 (1 : Int32).toNatClampNeg), .int ((f10 (1 : Int32).toNatClampNeg) + x1), .int (f21 (2 : Int32).toNatClampNeg)]) (rest := []) (hk _ _ rfl) (fun _ => rfl) rfl rfl (Nat.le_of_ble_eq_true rfl) rfl ?_
            refine ge_imp w (fun v22 h_22 w => ?_)
            obtain ⟨x_22, rfl, w⟩ := w
            show gV c d 199 (97, [some (.ref r0), some (.int x1), some (.int x_7), some (.int ((f10 (1 : Int32).toNatClampNeg) + x1))], [.int x_22], h_22) Post
            refine gw_br (c := x_22 = 0) (a := (105, [some (.ref r0), some (.int x1), some (.int x_7), some (.int ((f10 (1 : Int32).toNatClampNeg) + x1))], [], h_22)) (b := (100, [some (.ref r0), some (.int x1), some (.int x_7), some (.int ((f10 (1 : Int32).toNatClampNeg) + x1))], [], h_22)) (hk _ _ rfl) rfl ⟨fun z23 => ?_, fun z23 => ?_⟩
            · replace w := w.1 z23
              refine gw_pst hk 1 (st' := (106, [some (.ref r0), some (.int x1), some (.int x_7), some (.int ((f10 (1 : Int32).toNatClampNeg) + x1))], [.int 0], h_22)) rfl ?_
              refine gw_le (L' := [none, none, none, none]) (gm_le_n _ (gm_le_n _ (gm_le_n _ (gm_le_n _ gm_le_nil)))) ?_
              exact ok199_106 c d Post _ _ w
            · replace w := w.2 z23
              refine gw_pst hk 2 (st' := (106, [some (.ref r0), some (.int x1), some (.int x_7), some (.int ((f10 (1 : Int32).toNatClampNeg) + x1))], [.int (-5)], h_22)) rfl ?_
              refine gw_le (L' := [none, none, none, none]) (gm_le_n _ (gm_le_n _ (gm_le_n _ (gm_le_n _ gm_le_nil)))) ?_
              exact ok199_106 c d Post _ _ w
          · replace w := w.2 z17
            refine gw_pst hk 1 (st' := (80, [some (.ref r0), some (.int x1), some (.int x_7), some (.int ((f10 (1 : Int32).toNatClampNeg) + x1))], [.int (-4)], h_16)) rfl ?_
            exact gw_ret (hk _ _ rfl) rfl w
