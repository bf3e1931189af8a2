/-! What must hold for a run to end with Post: by program (wip/whole/gen_wp.py). -/
def w118_101 (c : gx) (d : Nat) (Post : Option Value → gm_H → Prop) (K41 : Nat → Int32 → gm_H → Prop) (r0 : Nat) (x1 : Int32) (rs0 : Nat) (xs1 : Int32) (xs2 : Int32) (h : gm_H) : Prop :=
  ∃ (n1 : Nat) (f1 : Nat → Int32), gm_get h rs0 = some (.inl (0, n1, .inl f1)) ∧ vp_in xs1 n1 ∧ ∀ h_1 : gm_H, h_1 = gm_put h rs0 (.inl (0, n1, .inl (upd f1 (xs1 : Int32).toNatClampNeg (vp_nar .int xs2)))) → K41 r0 (x1 + 1) h_1
theorem ok118_101 (c : gx) (d : Nat) (Post : Option Value → gm_H → Prop) (K41 : Nat → Int32 → gm_H → Prop)  (hK41 : ∀ (r0 : Nat) (x1 : Int32) (h : gm_H), K41 r0 x1 h → gV c d 118 (41, [some (.ref r0), some (.int x1), none], [], h) Post) (r0 : Nat) (x1 : Int32) (rs0 : Nat) (xs1 : Int32) (xs2 : Int32) (h : gm_H) (w : w118_101 c d Post K41 r0 x1 rs0 xs1 xs2 h) : gV c d 118 (101, [some (.ref r0), some (.int x1), none], [.int xs2, .int xs1, .ref rs0], h) Post := by
  have hk : ∀ pc i, gm_find gk_118 pc = some i → gm_code (gt_T c.1 c.2.1 c.2.2.1) 118 pc = some i := fun _ _ z => z
  unfold w118_101 at w
  unfold gV
  obtain ⟨n1, f1, e1, b1, w⟩ := w
  refine gw_ast (hk _ _ rfl) (Or.inl ⟨rfl, rfl, rfl⟩) e1 b1 ?_
  obtain ⟨h_1, eh1⟩ : ∃ z, z = gm_put h rs0 (.inl (0, n1, .inl (upd f1 (xs1 : Int32).toNatClampNeg (vp_nar .int xs2)))) := ⟨_, rfl⟩
  rw [← eh1]
  replace w := w h_1 eh1
  refine gw_pst hk 2 (st' := (41, [some (.ref r0), some (.int (x1 + 1)), none], [], h_1)) rfl ?_
  exact hK41 _ _ _ w
def w118_78 (c : gx) (d : Nat) (Post : Option Value → gm_H → Prop) (K41 : Nat → Int32 → gm_H → Prop) (r0 : Nat) (x1 : Int32) (x2 : Int32) (rs0 : Nat) (xs1 : Int32) (xs2 : Int32) (h : gm_H) : Prop :=
  ∃ (n1 : Nat) (f1 : Nat → Int32), gm_get h rs0 = some (.inl (0, n1, .inl f1)) ∧ vp_in xs1 n1 ∧ ∀ h_1 : gm_H, h_1 = gm_put h rs0 (.inl (0, n1, .inl (upd f1 (xs1 : Int32).toNatClampNeg (vp_nar .int xs2)))) → ∃ q_2 : Nat, gm_fld h_1 r0 9 12 = some (.ref q_2) ∧ ∃ q_3 : Nat, gm_fld h_1 q_2 8 1 = some (.ref q_3) ∧ ((x2 = 0 → w118_101 c d Post K41 r0 x1 q_3 x1 0 h_1) ∧ (¬ (x2 = 0) → (∃ fs5, gm_get h_1 r0 = some (.inr (9, fs5))) ∧ gE c d 112 [.ref r0, .int 1, .int x1] h_1 (fun v5 h_5 => ∃ x_5 : Int32, v5 = some (.int x_5) ∧ w118_101 c d Post K41 r0 x1 q_3 x1 x_5 h_5)))
theorem ok118_78 (c : gx) (d : Nat) (Post : Option Value → gm_H → Prop) (K41 : Nat → Int32 → gm_H → Prop)  (hK41 : ∀ (r0 : Nat) (x1 : Int32) (h : gm_H), K41 r0 x1 h → gV c d 118 (41, [some (.ref r0), some (.int x1), none], [], h) Post) (r0 : Nat) (x1 : Int32) (x2 : Int32) (rs0 : Nat) (xs1 : Int32) (xs2 : Int32) (h : gm_H) (w : w118_78 c d Post K41 r0 x1 x2 rs0 xs1 xs2 h) : gV c d 118 (78, [some (.ref r0), some (.int x1), some (.int x2)], [.int xs2, .int xs1, .ref rs0], h) Post := by
  have hk : ∀ pc i, gm_find gk_118 pc = some i → gm_code (gt_T c.1 c.2.1 c.2.2.1) 118 pc = some i := fun _ _ z => z
  unfold w118_78 at w
  unfold gV
  obtain ⟨n1, f1, e1, b1, w⟩ := w
  refine gw_ast (hk _ _ rfl) (Or.inl ⟨rfl, rfl, rfl⟩) e1 b1 ?_
  obtain ⟨h_1, eh1⟩ : ∃ z, z = gm_put h rs0 (.inl (0, n1, .inl (upd f1 (xs1 : Int32).toNatClampNeg (vp_nar .int xs2)))) := ⟨_, rfl⟩
  rw [← eh1]
  replace w := w h_1 eh1
  refine gw_pst hk 1 (st' := (80, [some (.ref r0), some (.int x1), some (.int x2)], [.ref r0], h_1)) rfl ?_
  obtain ⟨q_2, e2, w⟩ := w
  refine gw_gf (hk _ _ rfl) e2 ?_
  obtain ⟨q_3, e3, w⟩ := w
  refine gw_gf (hk _ _ rfl) e3 ?_
  refine gw_pst hk 2 (st' := (88, [some (.ref r0), some (.int x1), some (.int x2)], [.int x2, .int x1, .ref q_3], h_1)) rfl ?_
  refine gw_br (c := x2 = 0) (a := (100, [some (.ref r0), some (.int x1), some (.int x2)], [.int x1, .ref q_3], h_1)) (b := (91, [some (.ref r0), some (.int x1), some (.int x2)], [.int x1, .ref q_3], h_1)) (hk _ _ rfl) rfl ⟨fun z4 => ?_, fun z4 => ?_⟩
  · replace w := w.1 z4
    refine gw_pst hk 1 (st' := (101, [some (.ref r0), some (.int x1), some (.int x2)], [.int 0, .int x1, .ref q_3], h_1)) rfl ?_
    refine gw_le (L' := [some (.ref r0), some (.int x1), none]) (gm_le_k _ (gm_le_k _ (gm_le_n _ gm_le_nil))) ?_
    exact ok118_101 c d Post K41 hK41 _ _ _ _ _ _ w
  · replace w := w.2 z4
    refine gw_pst hk 3 (st' := (94, [some (.ref r0), some (.int x1), some (.int x2)], [.int x1, .int 1, .ref r0, .int x1, .ref q_3], h_1)) rfl ?_
    obtain ⟨⟨fs5, e5⟩, w⟩ := w
    refine gw_call (jj := 112) (As := [.ref r0, .int 1, .int x1]) (rest := [.int x1, .ref q_3]) (hk _ _ rfl) (fun _ => rfl) rfl rfl (Nat.le_of_ble_eq_true rfl) (gm_rcv_v rfl e5 rfl) ?_
    refine ge_imp w (fun v5 h_5 w => ?_)
    obtain ⟨x_5, rfl, w⟩ := w
    show gV c d 118 (97, [some (.ref r0), some (.int x1), some (.int x2)], [.int x_5, .int x1, .ref q_3], h_5) Post
    refine gw_pst hk 1 (st' := (101, [some (.ref r0), some (.int x1), some (.int x2)], [.int x_5, .int x1, .ref q_3], h_5)) rfl ?_
    refine gw_le (L' := [some (.ref r0), some (.int x1), none]) (gm_le_k _ (gm_le_k _ (gm_le_n _ gm_le_nil))) ?_
    exact ok118_101 c d Post K41 hK41 _ _ _ _ _ _ w
def wb118_41 (c : gx) (d : Nat) (Post : Option Value → gm_H → Prop) (K41 : Nat → Int32 → gm_H → Prop) (r0 : Nat) (x1 : Int32) (h : gm_H) : Prop :=
  ((12 ≤ x1 → Post none h) ∧ (¬ (12 ≤ x1) → ∃ q_2 : Nat, gm_fld h r0 9 1 = some (.ref q_2) ∧ (∃ fs3, gm_get h q_2 = some (.inr (1, fs3))) ∧ gE c d 14 [.ref q_2, .int x1] h (fun v3 h_3 => ∃ x_3 : Int32, v3 = some (.int x_3) ∧ ∃ q_4 : Nat, gm_fld h_3 r0 9 12 = some (.ref q_4) ∧ ∃ q_5 : Nat, gm_fld h_3 q_4 8 0 = some (.ref q_5) ∧ ((x_3 = 0 → w118_78 c d Post K41 r0 x1 x_3 q_5 x1 0 h_3) ∧ (¬ (x_3 = 0) → (∃ fs7, gm_get h_3 r0 = some (.inr (9, fs7))) ∧ gE c d 112 [.ref r0, .int 0, .int x1] h_3 (fun v7 h_7 => ∃ x_7 : Int32, v7 = some (.int x_7) ∧ w118_78 c d Post K41 r0 x1 x_3 q_5 x1 x_7 h_7))))))
theorem okb118_41 (c : gx) (d : Nat) (Post : Option Value → gm_H → Prop) (K41 : Nat → Int32 → gm_H → Prop)  (hK41 : ∀ (r0 : Nat) (x1 : Int32) (h : gm_H), K41 r0 x1 h → gV c d 118 (41, [some (.ref r0), some (.int x1), none], [], h) Post) (r0 : Nat) (x1 : Int32) (h : gm_H) (w : wb118_41 c d Post K41 r0 x1 h) : gV c d 118 (41, [some (.ref r0), some (.int x1), none], [], h) Post := by
  have hk : ∀ pc i, gm_find gk_118 pc = some i → gm_code (gt_T c.1 c.2.1 c.2.2.1) 118 pc = some i := fun _ _ z => z
  unfold wb118_41 at w
  unfold gV
  refine gw_pst hk 2 (st' := (44, [some (.ref r0), some (.int x1), none], [.int 12, .int x1], h)) rfl ?_
  refine gw_br (c := 12 ≤ x1) (a := (108, [some (.ref r0), some (.int x1), none], [], h)) (b := (47, [some (.ref r0), some (.int x1), none], [], h)) (hk _ _ rfl) rfl ⟨fun z1 => ?_, fun z1 => ?_⟩
  · replace w := w.1 z1
    exact gw_ret (hk _ _ rfl) rfl w
  · replace w := w.2 z1
    refine gw_pst hk 1 (st' := (48, [some (.ref r0), some (.int x1), none], [.ref r0], h)) rfl ?_
    obtain ⟨q_2, e2, w⟩ := w
    refine gw_gf (hk _ _ rfl) e2 ?_
    refine gw_pst hk 1 (st' := (52, [some (.ref r0), some (.int x1), none], [.int x1, .ref q_2], h)) rfl ?_
    obtain ⟨⟨fs3, e3⟩, w⟩ := w
    refine gw_call (jj := 14) (As := [.ref q_2, .int x1]) (rest := []) (hk _ _ rfl) (fun _ => rfl) rfl rfl (Nat.le_of_ble_eq_true rfl) (gm_rcv_v rfl e3 rfl) ?_
    refine ge_imp w (fun v3 h_3 w => ?_)
    obtain ⟨x_3, rfl, w⟩ := w
    show gV c d 118 (55, [some (.ref r0), some (.int x1), none], [.int x_3], h_3) Post
    refine gw_pst hk 2 (st' := (57, [some (.ref r0), some (.int x1), some (.int x_3)], [.ref r0], h_3)) rfl ?_
    obtain ⟨q_4, e4, w⟩ := w
    refine gw_gf (hk _ _ rfl) e4 ?_
    obtain ⟨q_5, e5, w⟩ := w
    refine gw_gf (hk _ _ rfl) e5 ?_
    refine gw_pst hk 2 (st' := (65, [some (.ref r0), some (.int x1), some (.int x_3)], [.int x_3, .int x1, .ref q_5], h_3)) rfl ?_
    refine gw_br (c := x_3 = 0) (a := (77, [some (.ref r0), some (.int x1), some (.int x_3)], [.int x1, .ref q_5], h_3)) (b := (68, [some (.ref r0), some (.int x1), some (.int x_3)], [.int x1, .ref q_5], h_3)) (hk _ _ rfl) rfl ⟨fun z6 => ?_, fun z6 => ?_⟩
    · replace w := w.1 z6
      refine gw_pst hk 1 (st' := (78, [some (.ref r0), some (.int x1), some (.int x_3)], [.int 0, .int x1, .ref q_5], h_3)) rfl ?_
      exact ok118_78 c d Post K41 hK41 _ _ _ _ _ _ _ w
    · replace w := w.2 z6
      refine gw_pst hk 3 (st' := (71, [some (.ref r0), some (.int x1), some (.int x_3)], [.int x1, .int 0, .ref r0, .int x1, .ref q_5], h_3)) rfl ?_
      obtain ⟨⟨fs7, e7⟩, w⟩ := w
      refine gw_call (jj := 112) (As := [.ref r0, .int 0, .int x1]) (rest := [.int x1, .ref q_5]) (hk _ _ rfl) (fun _ => rfl) rfl rfl (Nat.le_of_ble_eq_true rfl) (gm_rcv_v rfl e7 rfl) ?_
      refine ge_imp w (fun v7 h_7 w => ?_)
      obtain ⟨x_7, rfl, w⟩ := w
      show gV c d 118 (74, [some (.ref r0), some (.int x1), some (.int x_3)], [.int x_7, .int x1, .ref q_5], h_7) Post
      refine gw_pst hk 1 (st' := (78, [some (.ref r0), some (.int x1), some (.int x_3)], [.int x_7, .int x1, .ref q_5], h_7)) rfl ?_
      exact ok118_78 c d Post K41 hK41 _ _ _ _ _ _ _ w
def wl118_41 (c : gx) (d : Nat) (Post : Option Value → gm_H → Prop) : Nat → Nat → Int32 → gm_H → Prop
  | 0 => fun _ _ _ => False
  | n + 1 => wb118_41 c d Post (wl118_41 c d Post n)
theorem okl118_41 (c : gx) (d : Nat) (Post : Option Value → gm_H → Prop) : ∀ (n : Nat) (r0 : Nat) (x1 : Int32) (h : gm_H), wl118_41 c d Post n r0 x1 h → gV c d 118 (41, [some (.ref r0), some (.int x1), none], [], h) Post
  | 0, _, _, _, w => w.elim
  | n + 1, r0, x1, h, w => okb118_41 c d Post (wl118_41 c d Post n) (okl118_41 c d Post n) r0 x1 h w
def wb118_2 (c : gx) (d : Nat) (Post : Option Value → gm_H → Prop) (K2 : Nat → Int32 → gm_H → Prop) (r0 : Nat) (x1 : Int32) (h : gm_H) : Prop :=
  ((20 ≤ x1 → ∃ n, wl118_41 c d Post n r0 0 h) ∧ (¬ (20 ≤ x1) → ∃ q_2 : Nat, gm_fld h r0 9 12 = some (.ref q_2) ∧ ∃ q_3 : Nat, gm_fld h q_2 8 2 = some (.ref q_3) ∧ ∃ q_4 : Nat, gm_fld h r0 9 5 = some (.ref q_4) ∧ ∃ q_5 : Nat, gm_fld h r0 9 5 = some (.ref q_5) ∧ ∃ x_6 : Int32, gm_fld h q_5 6 0 = some (.int x_6) ∧ (∃ fs7, gm_get h q_4 = some (.inr (6, fs7))) ∧ gE c d 51 [.ref q_4, .int (x_6 + x1)] h (fun v7 h_7 => ∃ x_7 : Int32, v7 = some (.int x_7) ∧ ∃ (n8 : Nat) (f8 : Nat → Int32), gm_get h_7 q_3 = some (.inl (0, n8, .inl f8)) ∧ vp_in x1 n8 ∧ ∀ h_8 : gm_H, h_8 = gm_put h_7 q_3 (.inl (0, n8, .inl (upd f8 (x1 : Int32).toNatClampNeg (vp_nar .int x_7)))) → K2 r0 (x1 + 1) h_8)))
theorem okb118_2 (c : gx) (d : Nat) (Post : Option Value → gm_H → Prop) (K2 : Nat → Int32 → gm_H → Prop)  (hK2 : ∀ (r0 : Nat) (x1 : Int32) (h : gm_H), K2 r0 x1 h → gV c d 118 (2, [some (.ref r0), some (.int x1), none], [], h) Post) (r0 : Nat) (x1 : Int32) (h : gm_H) (w : wb118_2 c d Post K2 r0 x1 h) : gV c d 118 (2, [some (.ref r0), some (.int x1), none], [], h) Post := by
  have hk : ∀ pc i, gm_find gk_118 pc = some i → gm_code (gt_T c.1 c.2.1 c.2.2.1) 118 pc = some i := fun _ _ z => z
  unfold wb118_2 at w
  unfold gV
  refine gw_pst hk 2 (st' := (5, [some (.ref r0), some (.int x1), none], [.int 20, .int x1], h)) rfl ?_
  refine gw_br (c := 20 ≤ x1) (a := (39, [some (.ref r0), some (.int x1), none], [], h)) (b := (8, [some (.ref r0), some (.int x1), none], [], h)) (hk _ _ rfl) rfl ⟨fun z1 => ?_, fun z1 => ?_⟩
  · replace w := w.1 z1
    refine gw_pst hk 2 (st' := (41, [some (.ref r0), some (.int 0), none], [], h)) rfl ?_
    obtain ⟨n, w⟩ := w
    exact okl118_41 c d Post n _ _ _ w
  · replace w := w.2 z1
    refine gw_pst hk 1 (st' := (9, [some (.ref r0), some (.int x1), none], [.ref r0], h)) rfl ?_
    obtain ⟨q_2, e2, w⟩ := w
    refine gw_gf (hk _ _ rfl) e2 ?_
    obtain ⟨q_3, e3, w⟩ := w
    refine gw_gf (hk _ _ rfl) e3 ?_
    refine gw_pst hk 2 (st' := (17, [some (.ref r0), some (.int x1), none], [.ref r0, .int x1, .ref q_3], h)) rfl ?_
    obtain ⟨q_4, e4, w⟩ := w
    refine gw_gf (hk _ _ rfl) e4 ?_
    refine gw_pst hk 1 (st' := (21, [some (.ref r0), some (.int x1), none], [.ref r0, .ref q_4, .int x1, .ref q_3], h)) rfl ?_
    obtain ⟨q_5, e5, w⟩ := w
    refine gw_gf (hk _ _ rfl) e5 ?_
    obtain ⟨x_6, e6, w⟩ := w
    refine gw_gf (hk _ _ rfl) e6 ?_
    refine gw_pst hk 2 (st' := (29, [some (.ref r0), some (.int x1), none], [.int (x_6 + x1), .ref q_4, .int x1, .ref q_3], h)) rfl ?_
    obtain ⟨⟨fs7, e7⟩, w⟩ := w
    refine gw_call (jj := 51) (As := [.ref q_4, .int (x_6 + x1)]) (rest := [.int x1, .ref q_3]) (hk _ _ rfl) (fun _ => rfl) rfl rfl (Nat.le_of_ble_eq_true rfl) (gm_rcv_v rfl e7 rfl) ?_
    refine ge_imp w (fun v7 h_7 w => ?_)
    obtain ⟨x_7, rfl, w⟩ := w
    show gV c d 118 (32, [some (.ref r0), some (.int x1), none], [.int x_7, .int x1, .ref q_3], h_7) Post
    obtain ⟨n8, f8, e8, b8, w⟩ := w
    refine gw_ast (hk _ _ rfl) (Or.inl ⟨rfl, rfl, rfl⟩) e8 b8 ?_
    obtain ⟨h_8, eh8⟩ : ∃ z, z = gm_put h_7 q_3 (.inl (0, n8, .inl (upd f8 (x1 : Int32).toNatClampNeg (vp_nar .int x_7)))) := ⟨_, rfl⟩
    rw [← eh8]
    replace w := w h_8 eh8
    refine gw_pst hk 2 (st' := (2, [some (.ref r0), some (.int (x1 + 1)), none], [], h_8)) rfl ?_
    exact hK2 _ _ _ w
def wl118_2 (c : gx) (d : Nat) (Post : Option Value → gm_H → Prop) : Nat → Nat → Int32 → gm_H → Prop
  | 0 => fun _ _ _ => False
  | n + 1 => wb118_2 c d Post (wl118_2 c d Post n)
theorem okl118_2 (c : gx) (d : Nat) (Post : Option Value → gm_H → Prop) : ∀ (n : Nat) (r0 : Nat) (x1 : Int32) (h : gm_H), wl118_2 c d Post n r0 x1 h → gV c d 118 (2, [some (.ref r0), some (.int x1), none], [], h) Post
  | 0, _, _, _, w => w.elim
  | n + 1, r0, x1, h, w => okb118_2 c d Post (wl118_2 c d Post n) (okl118_2 c d Post n) r0 x1 h w
/-- CommandByTurns.prepareWalk()V -/
def wm118 (c : gx) (d : Nat) (Post : Option Value → gm_H → Prop) (r0 : Nat) (h : gm_H) : Prop :=
  ∃ n, wl118_2 c d Post n r0 0 h
theorem okm118 (c : gx) (d : Nat) (Post : Option Value → gm_H → Prop) (r0 : Nat) (h : gm_H) (w : wm118 c d Post r0 h) : gE c (d + 1) 118 [.ref r0] h Post := by
  have hk : ∀ pc i, gm_find gk_118 pc = some i → gm_code (gt_T c.1 c.2.1 c.2.2.1) 118 pc = some i := fun _ _ z => z
  unfold wm118 at w
  refine ge_of (by decide) (Nat.le_of_ble_eq_true rfl) ?_
  show gV c d 118 (0, [some (.ref r0), none, none], [], h) Post
  unfold gV
  refine gw_pst hk 2 (st' := (2, [some (.ref r0), some (.int 0), none], [], h)) rfl ?_
  obtain ⟨n, w⟩ := w
  exact okl118_2 c d Post n _ _ _ w
def w119_70 (c : gx) (d : Nat) (Post : Option Value → gm_H → Prop) (K6 : Nat → Int32 → gm_H → Prop) (r0 : Nat) (x1 : Int32) (rs0 : Nat) (xs1 : Int32) (xs2 : Int32) (h : gm_H) : Prop :=
  ∃ (n1 : Nat) (f1 : Nat → Int32), gm_get h rs0 = some (.inl (0, n1, .inl f1)) ∧ vp_in xs1 n1 ∧ ∀ h_1 : gm_H, h_1 = gm_put h rs0 (.inl (0, n1, .inl (upd f1 (xs1 : Int32).toNatClampNeg (vp_nar .int xs2)))) → K6 r0 (x1 + 1) h_1
theorem ok119_70 (c : gx) (d : Nat) (Post : Option Value → gm_H → Prop) (K6 : Nat → Int32 → gm_H → Prop)  (hK6 : ∀ (r0 : Nat) (x1 : Int32) (h : gm_H), K6 r0 x1 h → gV c d 119 (6, [some (.ref r0), some (.int x1), none], [], h) Post) (r0 : Nat) (x1 : Int32) (rs0 : Nat) (xs1 : Int32) (xs2 : Int32) (h : gm_H) (w : w119_70 c d Post K6 r0 x1 rs0 xs1 xs2 h) : gV c d 119 (70, [some (.ref r0), some (.int x1), none], [.int xs2, .int xs1, .ref rs0], h) Post := by
  have hk : ∀ pc i, gm_find gk_119 pc = some i → gm_code (gt_T c.1 c.2.1 c.2.2.1) 119 pc = some i := fun _ _ z => z
  unfold w119_70 at w
  unfold gV
  obtain ⟨n1, f1, e1, b1, w⟩ := w
  refine gw_ast (hk _ _ rfl) (Or.inl ⟨rfl, rfl, rfl⟩) e1 b1 ?_
  obtain ⟨h_1, eh1⟩ : ∃ z, z = gm_put h rs0 (.inl (0, n1, .inl (upd f1 (xs1 : Int32).toNatClampNeg (vp_nar .int xs2)))) := ⟨_, rfl⟩
  rw [← eh1]
  replace w := w h_1 eh1
  refine gw_pst hk 2 (st' := (6, [some (.ref r0), some (.int (x1 + 1)), none], [], h_1)) rfl ?_
  exact hK6 _ _ _ w
def wb119_6 (c : gx) (d : Nat) (Post : Option Value → gm_H → Prop) (K6 : Nat → Int32 → gm_H → Prop) (r0 : Nat) (x1 : Int32) (h : gm_H) : Prop :=
  ∃ q_1 : Nat, gm_fld h r0 9 1 = some (.ref q_1) ∧ ∃ x_2 : Int32, gm_fld h q_1 1 2 = some (.int x_2) ∧ ((x_2 ≤ x1 → Post none h) ∧ (¬ (x_2 ≤ x1) → ∃ q_4 : Nat, gm_fld h r0 9 1 = some (.ref q_4) ∧ ∃ q_5 : Nat, gm_fld h r0 9 12 = some (.ref q_5) ∧ ∃ q_6 : Nat, gm_fld h q_5 8 0 = some (.ref q_6) ∧ ∃ (n7 : Nat) (f7 : Nat → Int32), gm_get h q_6 = some (.inl (0, n7, .inl f7)) ∧ vp_in x1 n7 ∧ ∃ q_8 : Nat, gm_fld h r0 9 5 = some (.ref q_8) ∧ ∃ x_9 : Int32, gm_fld h q_8 6 2 = some (.int x_9) ∧ (∃ fs10, gm_get h q_4 = some (.inr (1, fs10))) ∧ gE c d 22 [.ref q_4, .int (f7 (x1 : Int32).toNatClampNeg), .int x_9] h (fun v10 h_10 => ∃ x_10 : Int32, v10 = some (.int x_10) ∧ ∃ q_11 : Nat, gm_fld h_10 r0 9 12 = some (.ref q_11) ∧ ∃ q_12 : Nat, gm_fld h_10 q_11 8 0 = some (.ref q_12) ∧ ∃ q_13 : Nat, gm_fld h_10 r0 9 5 = some (.ref q_13) ∧ ∃ x_14 : Int32, gm_fld h_10 q_13 6 2 = some (.int x_14) ∧ gE c d 16 [.int x_10, .int x_14] h_10 (fun v15 h_15 => ∃ x_15 : Int32, v15 = some (.int x_15) ∧ ((x_15 = 0 → w119_70 c d Post K6 r0 x1 q_12 x1 (1 <<< (x_10 &&& 31)) h_15) ∧ (¬ (x_15 = 0) → w119_70 c d Post K6 r0 x1 q_12 x1 0 h_15))))))
theorem okb119_6 (c : gx) (d : Nat) (Post : Option Value → gm_H → Prop) (K6 : Nat → Int32 → gm_H → Prop)  (hK6 : ∀ (r0 : Nat) (x1 : Int32) (h : gm_H), K6 r0 x1 h → gV c d 119 (6, [some (.ref r0), some (.int x1), none], [], h) Post) (r0 : Nat) (x1 : Int32) (h : gm_H) (w : wb119_6 c d Post K6 r0 x1 h) : gV c d 119 (6, [some (.ref r0), some (.int x1), none], [], h) Post := by
  have hk : ∀ pc i, gm_find gk_119 pc = some i → gm_code (gt_T c.1 c.2.1 c.2.2.1) 119 pc = some i := fun _ _ z => z
  unfold wb119_6 at w
  unfold gV
  refine gw_pst hk 2 (st' := (8, [some (.ref r0), some (.int x1), none], [.ref r0, .int x1], h)) rfl ?_
  obtain ⟨q_1, e1, w⟩ := w
  refine gw_gf (hk _ _ rfl) e1 ?_
  obtain ⟨x_2, e2, w⟩ := w
  refine gw_gf (hk _ _ rfl) e2 ?_
  refine gw_br (c := x_2 ≤ x1) (a := (77, [some (.ref r0), some (.int x1), none], [], h)) (b := (17, [some (.ref r0), some (.int x1), none], [], h)) (hk _ _ rfl) rfl ⟨fun z3 => ?_, fun z3 => ?_⟩
  · replace w := w.1 z3
    exact gw_ret (hk _ _ rfl) rfl w
  · replace w := w.2 z3
    refine gw_pst hk 1 (st' := (18, [some (.ref r0), some (.int x1), none], [.ref r0], h)) rfl ?_
    obtain ⟨q_4, e4, w⟩ := w
    refine gw_gf (hk _ _ rfl) e4 ?_
    refine gw_pst hk 1 (st' := (22, [some (.ref r0), some (.int x1), none], [.ref r0, .ref q_4], h)) rfl ?_
    obtain ⟨q_5, e5, w⟩ := w
    refine gw_gf (hk _ _ rfl) e5 ?_
    obtain ⟨q_6, e6, w⟩ := w
    refine gw_gf (hk _ _ rfl) e6 ?_
    refine gw_pst hk 1 (st' := (29, [some (.ref r0), some (.int x1), none], [.int x1, .ref q_6, .ref q_4], h)) rfl ?_
    obtain ⟨n7, f7, e7, b7, w⟩ := w
    refine gw_ald (hk _ _ rfl) (Or.inl ⟨rfl, rfl⟩) e7 b7 ?_
    refine gw_pst hk 1 (st' := (31, [some (.ref r0), some (.int x1), none], [.ref r0, .int (f7 (x1 : Int32).toNatClampNeg), .ref q_4], h)) rfl ?_
    obtain ⟨q_8, e8, w⟩ := w
    refine gw_gf (hk _ _ rfl) e8 ?_
    obtain ⟨x_9, e9, w⟩ := w
    refine gw_gf (hk _ _ rfl) e9 ?_
    obtain ⟨⟨fs10, e10⟩, w⟩ := w
    refine gw_call (jj := 22) (As := [.ref q_4, .int (f7 (x1 : Int32).toNatClampNeg), .int x_9]) (rest := []) (hk _ _ rfl) (fun _ => rfl) rfl rfl (Nat.le_of_ble_eq_true rfl) (gm_rcv_v rfl e10 rfl) ?_
    refine ge_imp w (fun v10 h_10 w => ?_)
    obtain ⟨x_10, rfl, w⟩ := w
    show gV c d 119 (40, [some (.ref r0), some (.int x1), none], [.int x_10], h_10) Post
    refine gw_pst hk 2 (st' := (42, [some (.ref r0), some (.int x1), some (.int x_10)], [.ref r0], h_10)) rfl ?_
    obtain ⟨q_11, e11, w⟩ := w
    refine gw_gf (hk _ _ rfl) e11 ?_
    obtain ⟨q_12, e12, w⟩ := w
    refine gw_gf (hk _ _ rfl) e12 ?_
    refine gw_pst hk 3 (st' := (51, [some (.ref r0), some (.int x1), some (.int x_10)], [.ref r0, .int x_10, .int x1, .ref q_12], h_10)) rfl ?_
    obtain ⟨q_13, e13, w⟩ := w
    refine gw_gf (hk _ _ rfl) e13 ?_
    obtain ⟨x_14, e14, w⟩ := w
    refine gw_gf (hk _ _ rfl) e14 ?_
    refine gw_call (jj := 16) (As := [.int x_10, .int x_14]) (rest := [.int x1, .ref q_12]) (hk _ _ rfl) (fun _ => rfl) rfl rfl (Nat.le_of_ble_eq_true rfl) rfl ?_
    refine ge_imp w (fun v15 h_15 w => ?_)
    obtain ⟨x_15, rfl, w⟩ := w
    show gV c d 119 (60, [some (.ref r0), some (.int x1), some (.int x_10)], [.int x_15, .int x1, .ref q_12], h_15) Post
    refine gw_br (c := x_15 = 0) (a := (67, [some (.ref r0), some (.int x1), some (.int x_10)], [.int x1, .ref q_12], h_15)) (b := (63, [some (.ref r0), some (.int x1), some (.int x_10)], [.int x1, .ref q_12], h_15)) (hk _ _ rfl) rfl ⟨fun z16 => ?_, fun z16 => ?_⟩
    · replace w := w.1 z16
      refine gw_pst hk 3 (st' := (70, [some (.ref r0), some (.int x1), some (.int x_10)], [.int (1 <<< (x_10 &&& 31)), .int x1, .ref q_12], h_15)) rfl ?_
      refine gw_le (L' := [some (.ref r0), some (.int x1), none]) (gm_le_k _ (gm_le_k _ (gm_le_n _ gm_le_nil))) ?_
      exact ok119_70 c d Post K6 hK6 _ _ _ _ _ _ w
    · replace w := w.2 z16
      refine gw_pst hk 2 (st' := (70, [some (.ref r0), some (.int x1), some (.int x_10)], [.int 0, .int x1, .ref q_12], h_15)) rfl ?_
      refine gw_le (L' := [some (.ref r0), some (.int x1), none]) (gm_le_k _ (gm_le_k _ (gm_le_n _ gm_le_nil))) ?_
      exact ok119_70 c d Post K6 hK6 _ _ _ _ _ _ w
def wl119_6 (c : gx) (d : Nat) (Post : Option Value → gm_H → Prop) : Nat → Nat → Int32 → gm_H → Prop
  | 0 => fun _ _ _ => False
  | n + 1 => wb119_6 c d Post (wl119_6 c d Post n)
theorem okl119_6 (c : gx) (d : Nat) (Post : Option Value → gm_H → Prop) : ∀ (n : Nat) (r0 : Nat) (x1 : Int32) (h : gm_H), wl119_6 c d Post n r0 x1 h → gV c d 119 (6, [some (.ref r0), some (.int x1), none], [], h) Post
  | 0, _, _, _, w => w.elim
  | n + 1, r0, x1, h, w => okb119_6 c d Post (wl119_6 c d Post n) (okl119_6 c d Post n) r0 x1 h w
/-- CommandByTurns.prepareGame()V -/
def wm119 (c : gx) (d : Nat) (Post : Option Value → gm_H → Prop) (r0 : Nat) (h : gm_H) : Prop :=
  (∃ fs1, gm_get h r0 = some (.inr (9, fs1))) ∧ gE c d 118 [.ref r0] h (fun v1 h_1 => v1 = none ∧ ∃ n, wl119_6 c d Post n r0 0 h_1)
theorem okm119 (c : gx) (d : Nat) (Post : Option Value → gm_H → Prop) (r0 : Nat) (h : gm_H) (w : wm119 c d Post r0 h) : gE c (d + 1) 119 [.ref r0] h Post := by
  have hk : ∀ pc i, gm_find gk_119 pc = some i → gm_code (gt_T c.1 c.2.1 c.2.2.1) 119 pc = some i := fun _ _ z => z
  unfold wm119 at w
  refine ge_of (by decide) (Nat.le_of_ble_eq_true rfl) ?_
  show gV c d 119 (0, [some (.ref r0), none, none], [], h) Post
  unfold gV
  refine gw_pst hk 1 (st' := (1, [some (.ref r0), none, none], [.ref r0], h)) rfl ?_
  obtain ⟨⟨fs1, e1⟩, w⟩ := w
  refine gw_call (jj := 118) (As := [.ref r0]) (rest := []) (hk _ _ rfl) (fun _ => rfl) rfl rfl (Nat.le_of_ble_eq_true rfl) (gm_rcv_v rfl e1 rfl) ?_
  refine ge_imp w (fun v1 h_1 w => ?_)
  obtain ⟨rfl, w⟩ := w
  show gV c d 119 (4, [some (.ref r0), none, none], [], h_1) Post
  refine gw_pst hk 2 (st' := (6, [some (.ref r0), some (.int 0), none], [], h_1)) rfl ?_
  obtain ⟨n, w⟩ := w
  exact okl119_6 c d Post n _ _ _ w
def w120_180 (c : gx) (d : Nat) (Post : Option Value → gm_H → Prop) (K12 : Nat → Int32 → Int32 → Int32 → Int32 → Int32 → gm_H → Prop) (K22 : Nat → Int32 → Int32 → Int32 → Int32 → Int32 → Int32 → gm_H → Prop) (r0 : Nat) (x1 : Int32) (x2 : Int32) (x3 : Int32) (x4 : Int32) (x5 : Int32) (x6 : Int32) (h : gm_H) : Prop :=
  K22 r0 x1 x2 x3 x4 x5 (x6 + 1) h
theorem ok120_180 (c : gx) (d : Nat) (Post : Option Value → gm_H → Prop) (K12 : Nat → Int32 → Int32 → Int32 → Int32 → Int32 → gm_H → Prop) (K22 : Nat → Int32 → Int32 → Int32 → Int32 → Int32 → Int32 → gm_H → Prop)  (hK12 : ∀ (r0 : Nat) (x1 : Int32) (x2 : Int32) (x3 : Int32) (x4 : Int32) (x5 : Int32) (h : gm_H), K12 r0 x1 x2 x3 x4 x5 h → gV c d 120 (12, [some (.ref r0), some (.int x1), some (.int x2), some (.int x3), some (.int x4), some (.int x5), none, none, none], [], h) Post) (hK22 : ∀ (r0 : Nat) (x1 : Int32) (x2 : Int32) (x3 : Int32) (x4 : Int32) (x5 : Int32) (x6 : Int32) (h : gm_H), K22 r0 x1 x2 x3 x4 x5 x6 h → gV c d 120 (22, [some (.ref r0), some (.int x1), some (.int x2), some (.int x3), some (.int x4), some (.int x5), some (.int x6), none, none], [], h) Post) (r0 : Nat) (x1 : Int32) (x2 : Int32) (x3 : Int32) (x4 : Int32) (x5 : Int32) (x6 : Int32) (h : gm_H) (w : w120_180 c d Post K12 K22 r0 x1 x2 x3 x4 x5 x6 h) : gV c d 120 (180, [some (.ref r0), some (.int x1), some (.int x2), some (.int x3), some (.int x4), some (.int x5), some (.int x6), none, none], [], h) Post := by
  have hk : ∀ pc i, gm_find gk_120 pc = some i → gm_code (gt_T c.1 c.2.1 c.2.2.1) 120 pc = some i := fun _ _ z => z
  unfold w120_180 at w
  unfold gV
  refine gw_pst hk 2 (st' := (22, [some (.ref r0), some (.int x1), some (.int x2), some (.int x3), some (.int x4), some (.int x5), some (.int (x6 + 1)), none, none], [], h)) rfl ?_
  exact hK22 _ _ _ _ _ _ _ _ w
def wb120_22 (c : gx) (d : Nat) (Post : Option Value → gm_H → Prop) (K12 : Nat → Int32 → Int32 → Int32 → Int32 → Int32 → gm_H → Prop) (K22 : Nat → Int32 → Int32 → Int32 → Int32 → Int32 → Int32 → gm_H → Prop) (r0 : Nat) (x1 : Int32) (x2 : Int32) (x3 : Int32) (x4 : Int32) (x5 : Int32) (x6 : Int32) (h : gm_H) : Prop :=
  ((20 ≤ x6 → K12 r0 x1 x2 x3 x4 (x5 + 1) h) ∧ (¬ (20 ≤ x6) → ∃ q_2 : Nat, gm_fld h r0 9 5 = some (.ref q_2) ∧ ∃ q_3 : Nat, gm_fld h r0 9 5 = some (.ref q_3) ∧ ∃ x_4 : Int32, gm_fld h q_3 6 0 = some (.int x_4) ∧ (∃ fs5, gm_get h q_2 = some (.inr (6, fs5))) ∧ gE c d 51 [.ref q_2, .int (x_4 + x5)] h (fun v5 h_5 => ∃ x_5 : Int32, v5 = some (.int x_5) ∧ ((x_5 = 0 → ∃ q_7 : Nat, gm_fld h_5 r0 9 5 = some (.ref q_7) ∧ ∃ q_8 : Nat, gm_fld h_5 r0 9 5 = some (.ref q_8) ∧ ∃ x_9 : Int32, gm_fld h_5 q_8 6 0 = some (.int x_9) ∧ (∃ fs10, gm_get h_5 q_7 = some (.inr (6, fs10))) ∧ gE c d 51 [.ref q_7, .int (x_9 + x6)] h_5 (fun v10 h_10 => ∃ x_10 : Int32, v10 = some (.int x_10) ∧ ((x_10 = 1 → ∃ q_12 : Nat, gm_fld h_10 r0 9 3 = some (.ref q_12) ∧ ∃ q_13 : Nat, gm_fld h_10 r0 9 5 = some (.ref q_13) ∧ ∃ x_14 : Int32, gm_fld h_10 q_13 6 0 = some (.int x_14) ∧ (∃ fs15, gm_get h_10 q_12 = some (.inr (2, fs15))) ∧ gE c d 30 [.ref q_12, .int (x_14 + x6)] h_10 (fun v15 h_15 => ∃ x_15 : Int32, v15 = some (.int x_15) ∧ ∃ q_16 : Nat, gm_fld h_15 r0 9 3 = some (.ref q_16) ∧ ∃ q_17 : Nat, gm_fld h_15 r0 9 5 = some (.ref q_17) ∧ ∃ x_18 : Int32, gm_fld h_15 q_17 6 0 = some (.int x_18) ∧ (∃ fs19, gm_get h_15 q_16 = some (.inr (2, fs19))) ∧ gE c d 30 [.ref q_16, .int (x_18 + x5)] h_15 (fun v19 h_19 => ∃ x_19 : Int32, v19 = some (.int x_19) ∧ ∃ q_20 : Nat, gm_fld h_19 r0 9 4 = some (.ref q_20) ∧ ∃ q_21 : Nat, gm_fld h_19 r0 9 5 = some (.ref q_21) ∧ ∃ x_22 : Int32, gm_fld h_19 q_21 6 0 = some (.int x_22) ∧ (∃ fs23, gm_get h_19 q_20 = some (.inr (2, fs23))) ∧ gE c d 30 [.ref q_20, .int (x_22 + x5)] h_19 (fun v23 h_23 => ∃ x_23 : Int32, v23 = some (.int x_23) ∧ ∃ q_24 : Nat, gm_fld h_23 r0 9 4 = some (.ref q_24) ∧ ∃ q_25 : Nat, gm_fld h_23 r0 9 5 = some (.ref q_25) ∧ ∃ x_26 : Int32, gm_fld h_23 q_25 6 0 = some (.int x_26) ∧ (∃ fs27, gm_get h_23 q_24 = some (.inr (2, fs27))) ∧ gE c d 30 [.ref q_24, .int (x_26 + x6)] h_23 (fun v27 h_27 => ∃ x_27 : Int32, v27 = some (.int x_27) ∧ (((x_15 - x_19) ≤ 0 → w120_180 c d Post K12 K22 r0 x1 x2 x3 x4 x5 x6 h_27) ∧ (¬ ((x_15 - x_19) ≤ 0) → (((x_23 - x_27) ≤ 0 → w120_180 c d Post K12 K22 r0 x1 x2 x3 x4 x5 x6 h_27) ∧ (¬ ((x_23 - x_27) ≤ 0) → ((((x_15 - x_19) + (x_23 - x_27)) ≤ x4 → w120_180 c d Post K12 K22 r0 (x1 + 1) x2 x3 x4 x5 x6 h_27) ∧ (¬ (((x_15 - x_19) + (x_23 - x_27)) ≤ x4) → w120_180 c d Post K12 K22 r0 (x1 + 1) x5 x6 ((x_15 - x_19) + (x_23 - x_27)) x5 x6 h_27))))))))))) ∧ (¬ (x_10 = 1) → w120_180 c d Post K12 K22 r0 x1 x2 x3 x4 x5 x6 h_10)))) ∧ (¬ (x_5 = 0) → w120_180 c d Post K12 K22 r0 x1 x2 x3 x4 x5 x6 h_5)))))
theorem okb120_22 (c : gx) (d : Nat) (Post : Option Value → gm_H → Prop) (K12 : Nat → Int32 → Int32 → Int32 → Int32 → Int32 → gm_H → Prop) (K22 : Nat → Int32 → Int32 → Int32 → Int32 → Int32 → Int32 → gm_H → Prop)  (hK12 : ∀ (r0 : Nat) (x1 : Int32) (x2 : Int32) (x3 : Int32) (x4 : Int32) (x5 : Int32) (h : gm_H), K12 r0 x1 x2 x3 x4 x5 h → gV c d 120 (12, [some (.ref r0), some (.int x1), some (.int x2), some (.int x3), some (.int x4), some (.int x5), none, none, none], [], h) Post) (hK22 : ∀ (r0 : Nat) (x1 : Int32) (x2 : Int32) (x3 : Int32) (x4 : Int32) (x5 : Int32) (x6 : Int32) (h : gm_H), K22 r0 x1 x2 x3 x4 x5 x6 h → gV c d 120 (22, [some (.ref r0), some (.int x1), some (.int x2), some (.int x3), some (.int x4), some (.int x5), some (.int x6), none, none], [], h) Post) (r0 : Nat) (x1 : Int32) (x2 : Int32) (x3 : Int32) (x4 : Int32) (x5 : Int32) (x6 : Int32) (h : gm_H) (w : wb120_22 c d Post K12 K22 r0 x1 x2 x3 x4 x5 x6 h) : gV c d 120 (22, [some (.ref r0), some (.int x1), some (.int x2), some (.int x3), some (.int x4), some (.int x5), some (.int x6), none, none], [], h) Post := by
  have hk : ∀ pc i, gm_find gk_120 pc = some i → gm_code (gt_T c.1 c.2.1 c.2.2.1) 120 pc = some i := fun _ _ z => z
  unfold wb120_22 at w
  unfold gV
  refine gw_pst hk 2 (st' := (26, [some (.ref r0), some (.int x1), some (.int x2), some (.int x3), some (.int x4), some (.int x5), some (.int x6), none, none], [.int 20, .int x6], h)) rfl ?_
  refine gw_br (c := 20 ≤ x6) (a := (186, [some (.ref r0), some (.int x1), some (.int x2), some (.int x3), some (.int x4), some (.int x5), some (.int x6), none, none], [], h)) (b := (29, [some (.ref r0), some (.int x1), some (.int x2), some (.int x3), some (.int x4), some (.int x5), some (.int x6), none, none], [], h)) (hk _ _ rfl) rfl ⟨fun z1 => ?_, fun z1 => ?_⟩
  · replace w := w.1 z1
    refine gw_pst hk 2 (st' := (12, [some (.ref r0), some (.int x1), some (.int x2), some (.int x3), some (.int x4), some (.int (x5 + 1)), some (.int x6), none, none], [], h)) rfl ?_
    refine gw_le (L' := [some (.ref r0), some (.int x1), some (.int x2), some (.int x3), some (.int x4), some (.int (x5 + 1)), none, none, none]) (gm_le_k _ (gm_le_k _ (gm_le_k _ (gm_le_k _ (gm_le_k _ (gm_le_k _ (gm_le_n _ (gm_le_k _ (gm_le_k _ gm_le_nil))))))))) ?_
    exact hK12 _ _ _ _ _ _ _ w
  · replace w := w.2 z1
    refine gw_pst hk 1 (st' := (30, [some (.ref r0), some (.int x1), some (.int x2), some (.int x3), some (.int x4), some (.int x5), some (.int x6), none, none], [.ref r0], h)) rfl ?_
    obtain ⟨q_2, e2, w⟩ := w
    refine gw_gf (hk _ _ rfl) e2 ?_
    refine gw_pst hk 1 (st' := (34, [some (.ref r0), some (.int x1), some (.int x2), some (.int x3), some (.int x4), some (.int x5), some (.int x6), none, none], [.ref r0, .ref q_2], h)) rfl ?_
    obtain ⟨q_3, e3, w⟩ := w
    refine gw_gf (hk _ _ rfl) e3 ?_
    obtain ⟨x_4, e4, w⟩ := w
    refine gw_gf (hk _ _ rfl) e4 ?_
    refine gw_pst hk 2 (st' := (43, [some (.ref r0), some (.int x1), some (.int x2), some (.int x3), some (.int x4), some (.int x5), some (.int x6), none, none], [.int (x_4 + x5), .ref q_2], h)) rfl ?_
    obtain ⟨⟨fs5, e5⟩, w⟩ := w
    refine gw_call (jj := 51) (As := [.ref q_2, .int (x_4 + x5)]) (rest := []) (hk _ _ rfl) (fun _ => rfl) rfl rfl (Nat.le_of_ble_eq_true rfl) (gm_rcv_v rfl e5 rfl) ?_
    refine ge_imp w (fun v5 h_5 w => ?_)
    obtain ⟨x_5, rfl, w⟩ := w
    show gV c d 120 (46, [some (.ref r0), some (.int x1), some (.int x2), some (.int x3), some (.int x4), some (.int x5), some (.int x6), none, none], [.int x_5], h_5) Post
    refine gw_br (c := x_5 = 0) (a := (49, [some (.ref r0), some (.int x1), some (.int x2), some (.int x3), some (.int x4), some (.int x5), some (.int x6), none, none], [], h_5)) (b := (180, [some (.ref r0), some (.int x1), some (.int x2), some (.int x3), some (.int x4), some (.int x5), some (.int x6), none, none], [], h_5)) (hk _ _ rfl) rfl ⟨fun z6 => ?_, fun z6 => ?_⟩
    · replace w := w.1 z6
      refine gw_pst hk 1 (st' := (50, [some (.ref r0), some (.int x1), some (.int x2), some (.int x3), some (.int x4), some (.int x5), some (.int x6), none, none], [.ref r0], h_5)) rfl ?_
      obtain ⟨q_7, e7, w⟩ := w
      refine gw_gf (hk _ _ rfl) e7 ?_
      refine gw_pst hk 1 (st' := (54, [some (.ref r0), some (.int x1), some (.int x2), some (.int x3), some (.int x4), some (.int x5), some (.int x6), none, none], [.ref r0, .ref q_7], h_5)) rfl ?_
      obtain ⟨q_8, e8, w⟩ := w
      refine gw_gf (hk _ _ rfl) e8 ?_
      obtain ⟨x_9, e9, w⟩ := w
      refine gw_gf (hk _ _ rfl) e9 ?_
      refine gw_pst hk 2 (st' := (63, [some (.ref r0), some (.int x1), some (.int x2), some (.int x3), some (.int x4), some (.int x5), some (.int x6), none, none], [.int (x_9 + x6), .ref q_7], h_5)) rfl ?_
      obtain ⟨⟨fs10, e10⟩, w⟩ := w
      refine gw_call (jj := 51) (As := [.ref q_7, .int (x_9 + x6)]) (rest := []) (hk _ _ rfl) (fun _ => rfl) rfl rfl (Nat.le_of_ble_eq_true rfl) (gm_rcv_v rfl e10 rfl) ?_
      refine ge_imp w (fun v10 h_10 w => ?_)
      obtain ⟨x_10, rfl, w⟩ := w
      show gV c d 120 (66, [some (.ref r0), some (.int x1), some (.int x2), some (.int x3), some (.int x4), some (.int x5), some (.int x6), none, none], [.int x_10], h_10) Post
      refine gw_pst hk 1 (st' := (67, [some (.ref r0), some (.int x1), some (.int x2), some (.int x3), some (.int x4), some (.int x5), some (.int x6), none, none], [.int 1, .int x_10], h_10)) rfl ?_
      refine gw_br (c := x_10 = 1) (a := (70, [some (.ref r0), some (.int x1), some (.int x2), some (.int x3), some (.int x4), some (.int x5), some (.int x6), none, none], [], h_10)) (b := (180, [some (.ref r0), some (.int x1), some (.int x2), some (.int x3), some (.int x4), some (.int x5), some (.int x6), none, none], [], h_10)) (hk _ _ rfl) rfl ⟨fun z11 => ?_, fun z11 => ?_⟩
      · replace w := w.1 z11
        refine gw_pst hk 1 (st' := (71, [some (.ref r0), some (.int x1), some (.int x2), some (.int x3), some (.int x4), some (.int x5), some (.int x6), none, none], [.ref r0], h_10)) rfl ?_
        obtain ⟨q_12, e12, w⟩ := w
        refine gw_gf (hk _ _ rfl) e12 ?_
        refine gw_pst hk 1 (st' := (75, [some (.ref r0), some (.int x1), some (.int x2), some (.int x3), some (.int x4), some (.int x5), some (.int x6), none, none], [.ref r0, .ref q_12], h_10)) rfl ?_
        obtain ⟨q_13, e13, w⟩ := w
        refine gw_gf (hk _ _ rfl) e13 ?_
        obtain ⟨x_14, e14, w⟩ := w
        refine gw_gf (hk _ _ rfl) e14 ?_
        refine gw_pst hk 2 (st' := (84, [some (.ref r0), some (.int x1), some (.int x2), some (.int x3), some (.int x4), some (.int x5), some (.int x6), none, none], [.int (x_14 + x6), .ref q_12], h_10)) rfl ?_
        obtain ⟨⟨fs15, e15⟩, w⟩ := w
        refine gw_call (jj := 30) (As := [.ref q_12, .int (x_14 + x6)]) (rest := []) (hk _ _ rfl) (fun _ => rfl) rfl rfl (Nat.le_of_ble_eq_true rfl) (gm_rcv_v rfl e15 rfl) ?_
        refine ge_imp w (fun v15 h_15 w => ?_)
        obtain ⟨x_15, rfl, w⟩ := w
        show gV c d 120 (87, [some (.ref r0), some (.int x1), some (.int x2), some (.int x3), some (.int x4), some (.int x5), some (.int x6), none, none], [.int x_15], h_15) Post
        refine gw_pst hk 1 (st' := (88, [some (.ref r0), some (.int x1), some (.int x2), some (.int x3), some (.int x4), some (.int x5), some (.int x6), none, none], [.ref r0, .int x_15], h_15)) rfl ?_
        obtain ⟨q_16, e16, w⟩ := w
        refine gw_gf (hk _ _ rfl) e16 ?_
        refine gw_pst hk 1 (st' := (92, [some (.ref r0), some (.int x1), some (.int x2), some (.int x3), some (.int x4), some (.int x5), some (.int x6), none, none], [.ref r0, .ref q_16, .int x_15], h_15)) rfl ?_
        obtain ⟨q_17, e17, w⟩ := w
        refine gw_gf (hk _ _ rfl) e17 ?_
        obtain ⟨x_18, e18, w⟩ := w
        refine gw_gf (hk _ _ rfl) e18 ?_
        refine gw_pst hk 2 (st' := (101, [some (.ref r0), some (.int x1), some (.int x2), some (.int x3), some (.int x4), some (.int x5), some (.int x6), none, none], [.int (x_18 + x5), .ref q_16, .int x_15], h_15)) rfl ?_
        obtain ⟨⟨fs19, e19⟩, w⟩ := w
        refine gw_call (jj := 30) (As := [.ref q_16, .int (x_18 + x5)]) (rest := [.int x_15]) (hk _ _ rfl) (fun _ => rfl) rfl rfl (Nat.le_of_ble_eq_true rfl) (gm_rcv_v rfl e19 rfl) ?_
        refine ge_imp w (fun v19 h_19 w => ?_)
        obtain ⟨x_19, rfl, w⟩ := w
        show gV c d 120 (104, [some (.ref r0), some (.int x1), some (.int x2), some (.int x3), some (.int x4), some (.int x5), some (.int x6), none, none], [.int x_19, .int x_15], h_19) Post
        refine gw_pst hk 3 (st' := (108, [some (.ref r0), some (.int x1), some (.int x2), some (.int x3), some (.int x4), some (.int x5), some (.int x6), some (.int (x_15 - x_19)), none], [.ref r0], h_19)) rfl ?_
        obtain ⟨q_20, e20, w⟩ := w
        refine gw_gf (hk _ _ rfl) e20 ?_
        refine gw_pst hk 1 (st' := (112, [some (.ref r0), some (.int x1), some (.int x2), some (.int x3), some (.int x4), some (.int x5), some (.int x6), some (.int (x_15 - x_19)), none], [.ref r0, .ref q_20], h_19)) rfl ?_
        obtain ⟨q_21, e21, w⟩ := w
        refine gw_gf (hk _ _ rfl) e21 ?_
        obtain ⟨x_22, e22, w⟩ := w
        refine gw_gf (hk _ _ rfl) e22 ?_
        refine gw_pst hk 2 (st' := (121, [some (.ref r0), some (.int x1), some (.int x2), some (.int x3), some (.int x4), some (.int x5), some (.int x6), some (.int (x_15 - x_19)), none], [.int (x_22 + x5), .ref q_20], h_19)) rfl ?_
        obtain ⟨⟨fs23, e23⟩, w⟩ := w
        refine gw_call (jj := 30) (As := [.ref q_20, .int (x_22 + x5)]) (rest := []) (hk _ _ rfl) (fun _ => rfl) rfl rfl (Nat.le_of_ble_eq_true rfl) (gm_rcv_v rfl e23 rfl) ?_
        refine ge_imp w (fun v23 h_23 w => ?_)
        obtain ⟨x_23, rfl, w⟩ := w
        show gV c d 120 (124, [some (.ref r0), some (.int x1), some (.int x2), some (.int x3), some (.int x4), some (.int x5), some (.int x6), some (.int (x_15 - x_19)), none], [.int x_23], h_23) Post
        refine gw_pst hk 1 (st' := (125, [some (.ref r0), some (.int x1), some (.int x2), some (.int x3), some (.int x4), some (.int x5), some (.int x6), some (.int (x_15 - x_19)), none], [.ref r0, .int x_23], h_23)) rfl ?_
        obtain ⟨q_24, e24, w⟩ := w
        refine gw_gf (hk _ _ rfl) e24 ?_
        refine gw_pst hk 1 (st' := (129, [some (.ref r0), some (.int x1), some (.int x2), some (.int x3), some (.int x4), some (.int x5), some (.int x6), some (.int (x_15 - x_19)), none], [.ref r0, .ref q_24, .int x_23], h_23)) rfl ?_
        obtain ⟨q_25, e25, w⟩ := w
        refine gw_gf (hk _ _ rfl) e25 ?_
        obtain ⟨x_26, e26, w⟩ := w
        refine gw_gf (hk _ _ rfl) e26 ?_
        refine gw_pst hk 2 (st' := (138, [some (.ref r0), some (.int x1), some (.int x2), some (.int x3), some (.int x4), some (.int x5), some (.int x6), some (.int (x_15 - x_19)), none], [.int (x_26 + x6), .ref q_24, .int x_23], h_23)) rfl ?_
        obtain ⟨⟨fs27, e27⟩, w⟩ := w
        refine gw_call (jj := 30) (As := [.ref q_24, .int (x_26 + x6)]) (rest := [.int x_23]) (hk _ _ rfl) (fun _ => rfl) rfl rfl (Nat.le_of_ble_eq_true rfl) (gm_rcv_v rfl e27 rfl) ?_
        refine ge_imp w (fun v27 h_27 w => ?_)
        obtain ⟨x_27, rfl, w⟩ := w
        show gV c d 120 (141, [some (.ref r0), some (.int x1), some (.int x2), some (.int x3), some (.int x4), some (.int x5), some (.int x6), some (.int (x_15 - x_19)), none], [.int x_27, .int x_23], h_27) Post
        refine gw_pst hk 3 (st' := (146, [some (.ref r0), some (.int x1), some (.int x2), some (.int x3), some (.int x4), some (.int x5), some (.int x6), some (.int (x_15 - x_19)), some (.int (x_23 - x_27))], [.int (x_15 - x_19)], h_27)) rfl ?_
        refine gw_br (c := (x_15 - x_19) ≤ 0) (a := (180, [some (.ref r0), some (.int x1), some (.int x2), some (.int x3), some (.int x4), some (.int x5), some (.int x6), some (.int (x_15 - x_19)), some (.int (x_23 - x_27))], [], h_27)) (b := (149, [some (.ref r0), some (.int x1), some (.int x2), some (.int x3), some (.int x4), some (.int x5), some (.int x6), some (.int (x_15 - x_19)), some (.int (x_23 - x_27))], [], h_27)) (hk _ _ rfl) rfl ⟨fun z28 => ?_, fun z28 => ?_⟩
        · replace w := w.1 z28
          refine gw_le (L' := [some (.ref r0), some (.int x1), some (.int x2), some (.int x3), some (.int x4), some (.int x5), some (.int x6), none, none]) (gm_le_k _ (gm_le_k _ (gm_le_k _ (gm_le_k _ (gm_le_k _ (gm_le_k _ (gm_le_k _ (gm_le_n _ (gm_le_n _ gm_le_nil))))))))) ?_
          exact ok120_180 c d Post K12 K22 hK12 hK22 _ _ _ _ _ _ _ _ w
        · replace w := w.2 z28
          refine gw_pst hk 1 (st' := (151, [some (.ref r0), some (.int x1), some (.int x2), some (.int x3), some (.int x4), some (.int x5), some (.int x6), some (.int (x_15 - x_19)), some (.int (x_23 - x_27))], [.int (x_23 - x_27)], h_27)) rfl ?_
          refine gw_br (c := (x_23 - x_27) ≤ 0) (a := (180, [some (.ref r0), some (.int x1), some (.int x2), some (.int x3), some (.int x4), some (.int x5), some (.int x6), some (.int (x_15 - x_19)), some (.int (x_23 - x_27))], [], h_27)) (b := (154, [some (.ref r0), some (.int x1), some (.int x2), some (.int x3), some (.int x4), some (.int x5), some (.int x6), some (.int (x_15 - x_19)), some (.int (x_23 - x_27))], [], h_27)) (hk _ _ rfl) rfl ⟨fun z29 => ?_, fun z29 => ?_⟩
          · replace w := w.1 z29
            refine gw_le (L' := [some (.ref r0), some (.int x1), some (.int x2), some (.int x3), some (.int x4), some (.int x5), some (.int x6), none, none]) (gm_le_k _ (gm_le_k _ (gm_le_k _ (gm_le_k _ (gm_le_k _ (gm_le_k _ (gm_le_k _ (gm_le_n _ (gm_le_n _ gm_le_nil))))))))) ?_
            exact ok120_180 c d Post K12 K22 hK12 hK22 _ _ _ _ _ _ _ _ w
          · replace w := w.2 z29
            refine gw_pst hk 5 (st' := (164, [some (.ref r0), some (.int (x1 + 1)), some (.int x2), some (.int x3), some (.int x4), some (.int x5), some (.int x6), some (.int (x_15 - x_19)), some (.int (x_23 - x_27))], [.int x4, .int ((x_15 - x_19) + (x_23 - x_27))], h_27)) rfl ?_
            refine gw_br (c := ((x_15 - x_19) + (x_23 - x_27)) ≤ x4) (a := (180, [some (.ref r0), some (.int (x1 + 1)), some (.int x2), some (.int x3), some (.int x4), some (.int x5), some (.int x6), some (.int (x_15 - x_19)), some (.int (x_23 - x_27))], [], h_27)) (b := (167, [some (.ref r0), some (.int (x1 + 1)), some (.int x2), some (.int x3), some (.int x4), some (.int x5), some (.int x6), some (.int (x_15 - x_19)), some (.int (x_23 - x_27))], [], h_27)) (hk _ _ rfl) rfl ⟨fun z30 => ?_, fun z30 => ?_⟩
            · replace w := w.1 z30
              refine gw_le (L' := [some (.ref r0), some (.int (x1 + 1)), some (.int x2), some (.int x3), some (.int x4), some (.int x5), some (.int x6), none, none]) (gm_le_k _ (gm_le_k _ (gm_le_k _ (gm_le_k _ (gm_le_k _ (gm_le_k _ (gm_le_k _ (gm_le_n _ (gm_le_n _ gm_le_nil))))))))) ?_
              exact ok120_180 c d Post K12 K22 hK12 hK22 _ _ _ _ _ _ _ _ w
            · replace w := w.2 z30
              refine gw_pst hk 8 (st' := (180, [some (.ref r0), some (.int (x1 + 1)), some (.int x5), some (.int x6), some (.int ((x_15 - x_19) + (x_23 - x_27))), some (.int x5), some (.int x6), some (.int (x_15 - x_19)), some (.int (x_23 - x_27))], [], h_27)) rfl ?_
              refine gw_le (L' := [some (.ref r0), some (.int (x1 + 1)), some (.int x5), some (.int x6), some (.int ((x_15 - x_19) + (x_23 - x_27))), some (.int x5), some (.int x6), none, none]) (gm_le_k _ (gm_le_k _ (gm_le_k _ (gm_le_k _ (gm_le_k _ (gm_le_k _ (gm_le_k _ (gm_le_n _ (gm_le_n _ gm_le_nil))))))))) ?_
              exact ok120_180 c d Post K12 K22 hK12 hK22 _ _ _ _ _ _ _ _ w
      · replace w := w.2 z11
        exact ok120_180 c d Post K12 K22 hK12 hK22 _ _ _ _ _ _ _ _ w
    · replace w := w.2 z6
      exact ok120_180 c d Post K12 K22 hK12 hK22 _ _ _ _ _ _ _ _ w
def wl120_22 (c : gx) (d : Nat) (Post : Option Value → gm_H → Prop) (K12 : Nat → Int32 → Int32 → Int32 → Int32 → Int32 → gm_H → Prop) : Nat → Nat → Int32 → Int32 → Int32 → Int32 → Int32 → Int32 → gm_H → Prop
  | 0 => fun _ _ _ _ _ _ _ _ => False
  | n + 1 => wb120_22 c d Post K12 (wl120_22 c d Post K12 n)
theorem okl120_22 (c : gx) (d : Nat) (Post : Option Value → gm_H → Prop) (K12 : Nat → Int32 → Int32 → Int32 → Int32 → Int32 → gm_H → Prop) (hK12 : ∀ (r0 : Nat) (x1 : Int32) (x2 : Int32) (x3 : Int32) (x4 : Int32) (x5 : Int32) (h : gm_H), K12 r0 x1 x2 x3 x4 x5 h → gV c d 120 (12, [some (.ref r0), some (.int x1), some (.int x2), some (.int x3), some (.int x4), some (.int x5), none, none, none], [], h) Post) : ∀ (n : Nat) (r0 : Nat) (x1 : Int32) (x2 : Int32) (x3 : Int32) (x4 : Int32) (x5 : Int32) (x6 : Int32) (h : gm_H), wl120_22 c d Post K12 n r0 x1 x2 x3 x4 x5 x6 h → gV c d 120 (22, [some (.ref r0), some (.int x1), some (.int x2), some (.int x3), some (.int x4), some (.int x5), some (.int x6), none, none], [], h) Post
  | 0, _, _, _, _, _, _, _, _, w => w.elim
  | n + 1, r0, x1, x2, x3, x4, x5, x6, h, w => okb120_22 c d Post K12 (wl120_22 c d Post K12 n) hK12 (okl120_22 c d Post K12 hK12 n) r0 x1 x2 x3 x4 x5 x6 h w
def w120_232 (c : gx) (d : Nat) (Post : Option Value → gm_H → Prop) (x1 : Int32) (h : gm_H) : Prop :=
  Post (some (.int x1)) h
theorem ok120_232 (c : gx) (d : Nat) (Post : Option Value → gm_H → Prop)  (x1 : Int32) (h : gm_H) (w : w120_232 c d Post x1 h) : gV c d 120 (232, [none, some (.int x1), none, none, none, none, none, none, none], [], h) Post := by
  have hk : ∀ pc i, gm_find gk_120 pc = some i → gm_code (gt_T c.1 c.2.1 c.2.2.1) 120 pc = some i := fun _ _ z => z
  unfold w120_232 at w
  unfold gV
  refine gw_pst hk 1 (st' := (233, [none, some (.int x1), none, none, none, none, none, none, none], [.int x1], h)) rfl ?_
  exact gw_ret (hk _ _ rfl) rfl w
def wb120_12 (c : gx) (d : Nat) (Post : Option Value → gm_H → Prop) (K12 : Nat → Int32 → Int32 → Int32 → Int32 → Int32 → gm_H → Prop) (r0 : Nat) (x1 : Int32) (x2 : Int32) (x3 : Int32) (x4 : Int32) (x5 : Int32) (h : gm_H) : Prop :=
  ((20 ≤ x5 → ∃ q_2 : Nat, gm_fld h r0 9 11 = some (.ref q_2) ∧ ∃ fs3 : List Value, gm_get h q_2 = some (.inr (5, fs3)) ∧ 1 < fs3.length ∧ ∀ h_3 : gm_H, h_3 = gm_put h q_2 (.inr (5, fs3.set 1 (.int 0))) → ((x1 ≤ 0 → w120_232 c d Post x1 h_3) ∧ (¬ (x1 ≤ 0) → ∃ q_5 : Nat, gm_fld h_3 r0 9 11 = some (.ref q_5) ∧ (∃ fs6, gm_get h_3 q_5 = some (.inr (5, fs6))) ∧ gE c d 44 [.ref q_5, .long ((x2 : Int32).toInt64)] h_3 (fun v6 h_6 => v6 = none ∧ ∃ q_7 : Nat, gm_fld h_6 r0 9 11 = some (.ref q_7) ∧ (∃ fs8, gm_get h_6 q_7 = some (.inr (5, fs8))) ∧ gE c d 44 [.ref q_7, .long ((x3 : Int32).toInt64)] h_6 (fun v8 h_8 => v8 = none ∧ ∃ q_9 : Nat, gm_fld h_8 r0 9 11 = some (.ref q_9) ∧ (∃ fs10, gm_get h_8 q_9 = some (.inr (5, fs10))) ∧ gE c d 44 [.ref q_9, .long ((x4 : Int32).toInt64)] h_8 (fun v10 h_10 => v10 = none ∧ w120_232 c d Post x1 h_10)))))) ∧ (¬ (20 ≤ x5) → ∃ n, wl120_22 c d Post K12 n r0 x1 x2 x3 x4 x5 0 h))
theorem okb120_12 (c : gx) (d : Nat) (Post : Option Value → gm_H → Prop) (K12 : Nat → Int32 → Int32 → Int32 → Int32 → Int32 → gm_H → Prop)  (hK12 : ∀ (r0 : Nat) (x1 : Int32) (x2 : Int32) (x3 : Int32) (x4 : Int32) (x5 : Int32) (h : gm_H), K12 r0 x1 x2 x3 x4 x5 h → gV c d 120 (12, [some (.ref r0), some (.int x1), some (.int x2), some (.int x3), some (.int x4), some (.int x5), none, none, none], [], h) Post) (r0 : Nat) (x1 : Int32) (x2 : Int32) (x3 : Int32) (x4 : Int32) (x5 : Int32) (h : gm_H) (w : wb120_12 c d Post K12 r0 x1 x2 x3 x4 x5 h) : gV c d 120 (12, [some (.ref r0), some (.int x1), some (.int x2), some (.int x3), some (.int x4), some (.int x5), none, none, none], [], h) Post := by
  have hk : ∀ pc i, gm_find gk_120 pc = some i → gm_code (gt_T c.1 c.2.1 c.2.2.1) 120 pc = some i := fun _ _ z => z
  unfold wb120_12 at w
  unfold gV
  refine gw_pst hk 2 (st' := (16, [some (.ref r0), some (.int x1), some (.int x2), some (.int x3), some (.int x4), some (.int x5), none, none, none], [.int 20, .int x5], h)) rfl ?_
  refine gw_br (c := 20 ≤ x5) (a := (192, [some (.ref r0), some (.int x1), some (.int x2), some (.int x3), some (.int x4), some (.int x5), none, none, none], [], h)) (b := (19, [some (.ref r0), some (.int x1), some (.int x2), some (.int x3), some (.int x4), some (.int x5), none, none, none], [], h)) (hk _ _ rfl) rfl ⟨fun z1 => ?_, fun z1 => ?_⟩
  · replace w := w.1 z1
    refine gw_pst hk 1 (st' := (193, [some (.ref r0), some (.int x1), some (.int x2), some (.int x3), some (.int x4), some (.int x5), none, none, none], [.ref r0], h)) rfl ?_
    obtain ⟨q_2, e2, w⟩ := w
    refine gw_gf (hk _ _ rfl) e2 ?_
    refine gw_pst hk 1 (st' := (197, [some (.ref r0), some (.int x1), some (.int x2), some (.int x3), some (.int x4), some (.int x5), none, none, none], [.int 0, .ref q_2], h)) rfl ?_
    obtain ⟨fs3, e3, l3, w⟩ := w
    refine gw_pf (hk _ _ rfl) e3 l3 rfl ?_
    obtain ⟨h_3, eh3⟩ : ∃ z, z = gm_put h q_2 (.inr (5, fs3.set 1 (.int 0))) := ⟨_, rfl⟩
    rw [← eh3]
    replace w := w h_3 eh3
    refine gw_pst hk 1 (st' := (201, [some (.ref r0), some (.int x1), some (.int x2), some (.int x3), some (.int x4), some (.int x5), none, none, none], [.int x1], h_3)) rfl ?_
    refine gw_br (c := x1 ≤ 0) (a := (232, [some (.ref r0), some (.int x1), some (.int x2), some (.int x3), some (.int x4), some (.int x5), none, none, none], [], h_3)) (b := (204, [some (.ref r0), some (.int x1), some (.int x2), some (.int x3), some (.int x4), some (.int x5), none, none, none], [], h_3)) (hk _ _ rfl) rfl ⟨fun z4 => ?_, fun z4 => ?_⟩
    · replace w := w.1 z4
      refine gw_le (L' := [none, some (.int x1), none, none, none, none, none, none, none]) (gm_le_n _ (gm_le_k _ (gm_le_n _ (gm_le_n _ (gm_le_n _ (gm_le_n _ (gm_le_k _ (gm_le_k _ (gm_le_k _ gm_le_nil))))))))) ?_
      exact ok120_232 c d Post _ _ w
    · replace w := w.2 z4
      refine gw_pst hk 1 (st' := (205, [some (.ref r0), some (.int x1), some (.int x2), some (.int x3), some (.int x4), some (.int x5), none, none, none], [.ref r0], h_3)) rfl ?_
      obtain ⟨q_5, e5, w⟩ := w
      refine gw_gf (hk _ _ rfl) e5 ?_
      refine gw_pst hk 2 (st' := (210, [some (.ref r0), some (.int x1), some (.int x2), some (.int x3), some (.int x4), some (.int x5), none, none, none], [.long ((x2 : Int32).toInt64), .ref q_5], h_3)) rfl ?_
      obtain ⟨⟨fs6, e6⟩, w⟩ := w
      refine gw_call (jj := 44) (As := [.ref q_5, .long ((x2 : Int32).toInt64)]) (rest := []) (hk _ _ rfl) (fun _ => rfl) rfl rfl (Nat.le_of_ble_eq_true rfl) (gm_rcv_v rfl e6 rfl) ?_
      refine ge_imp w (fun v6 h_6 w => ?_)
      obtain ⟨rfl, w⟩ := w
      show gV c d 120 (213, [some (.ref r0), some (.int x1), some (.int x2), some (.int x3), some (.int x4), some (.int x5), none, none, none], [], h_6) Post
      refine gw_pst hk 1 (st' := (214, [some (.ref r0), some (.int x1), some (.int x2), some (.int x3), some (.int x4), some (.int x5), none, none, none], [.ref r0], h_6)) rfl ?_
      obtain ⟨q_7, e7, w⟩ := w
      refine gw_gf (hk _ _ rfl) e7 ?_
      refine gw_pst hk 2 (st' := (219, [some (.ref r0), some (.int x1), some (.int x2), some (.int x3), some (.int x4), some (.int x5), none, none, none], [.long ((x3 : Int32).toInt64), .ref q_7], h_6)) rfl ?_
      obtain ⟨⟨fs8, e8⟩, w⟩ := w
      refine gw_call (jj := 44) (As := [.ref q_7, .long ((x3 : Int32).toInt64)]) (rest := []) (hk _ _ rfl) (fun _ => rfl) rfl rfl (Nat.le_of_ble_eq_true rfl) (gm_rcv_v rfl e8 rfl) ?_
      refine ge_imp w (fun v8 h_8 w => ?_)
      obtain ⟨rfl, w⟩ := w
      show gV c d 120 (222, [some (.ref r0), some (.int x1), some (.int x2), some (.int x3), some (.int x4), some (.int x5), none, none, none], [], h_8) Post
      refine gw_pst hk 1 (st' := (223, [some (.ref r0), some (.int x1), some (.int x2), some (.int x3), some (.int x4), some (.int x5), none, none, none], [.ref r0], h_8)) rfl ?_
      obtain ⟨q_9, e9, w⟩ := w
      refine gw_gf (hk _ _ rfl) e9 ?_
      refine gw_pst hk 2 (st' := (229, [some (.ref r0), some (.int x1), some (.int x2), some (.int x3), some (.int x4), some (.int x5), none, none, none], [.long ((x4 : Int32).toInt64), .ref q_9], h_8)) rfl ?_
      obtain ⟨⟨fs10, e10⟩, w⟩ := w
      refine gw_call (jj := 44) (As := [.ref q_9, .long ((x4 : Int32).toInt64)]) (rest := []) (hk _ _ rfl) (fun _ => rfl) rfl rfl (Nat.le_of_ble_eq_true rfl) (gm_rcv_v rfl e10 rfl) ?_
      refine ge_imp w (fun v10 h_10 w => ?_)
      obtain ⟨rfl, w⟩ := w
      show gV c d 120 (232, [some (.ref r0), some (.int x1), some (.int x2), some (.int x3), some (.int x4), some (.int x5), none, none, none], [], h_10) Post
      refine gw_le (L' := [none, some (.int x1), none, none, none, none, none, none, none]) (gm_le_n _ (gm_le_k _ (gm_le_n _ (gm_le_n _ (gm_le_n _ (gm_le_n _ (gm_le_k _ (gm_le_k _ (gm_le_k _ gm_le_nil))))))))) ?_
      exact ok120_232 c d Post _ _ w
  · replace w := w.2 z1
    refine gw_pst hk 2 (st' := (22, [some (.ref r0), some (.int x1), some (.int x2), some (.int x3), some (.int x4), some (.int x5), some (.int 0), none, none], [], h)) rfl ?_
    obtain ⟨n, w⟩ := w
    exact okl120_22 c d Post K12 hK12 n _ _ _ _ _ _ _ _ w
def wl120_12 (c : gx) (d : Nat) (Post : Option Value → gm_H → Prop) : Nat → Nat → Int32 → Int32 → Int32 → Int32 → Int32 → gm_H → Prop
  | 0 => fun _ _ _ _ _ _ _ => False
  | n + 1 => wb120_12 c d Post (wl120_12 c d Post n)
theorem okl120_12 (c : gx) (d : Nat) (Post : Option Value → gm_H → Prop) : ∀ (n : Nat) (r0 : Nat) (x1 : Int32) (x2 : Int32) (x3 : Int32) (x4 : Int32) (x5 : Int32) (h : gm_H), wl120_12 c d Post n r0 x1 x2 x3 x4 x5 h → gV c d 120 (12, [some (.ref r0), some (.int x1), some (.int x2), some (.int x3), some (.int x4), some (.int x5), none, none, none], [], h) Post
  | 0, _, _, _, _, _, _, _, w => w.elim
  | n + 1, r0, x1, x2, x3, x4, x5, h, w => okb120_12 c d Post (wl120_12 c d Post n) (okl120_12 c d Post n) r0 x1 x2 x3 x4 x5 h w
/-- CommandByTurns.bargain()I -/
def wm120 (c : gx) (d : Nat) (Post : Option Value → gm_H → Prop) (r0 : Nat) (h : gm_H) : Prop :=
  ∃ n, wl120_12 c d Post n r0 0 (-1) (-1) 0 0 h
theorem okm120 (c : gx) (d : Nat) (Post : Option Value → gm_H → Prop) (r0 : Nat) (h : gm_H) (w : wm120 c d Post r0 h) : gE c (d + 1) 120 [.ref r0] h Post := by
  have hk : ∀ pc i, gm_find gk_120 pc = some i → gm_code (gt_T c.1 c.2.1 c.2.2.1) 120 pc = some i := fun _ _ z => z
  unfold wm120 at w
  refine ge_of (by decide) (Nat.le_of_ble_eq_true rfl) ?_
  show gV c d 120 (0, [some (.ref r0), none, none, none, none, none, none, none, none], [], h) Post
  unfold gV
  refine gw_pst hk 10 (st' := (12, [some (.ref r0), some (.int 0), some (.int (-1)), some (.int (-1)), some (.int 0), some (.int 0), none, none, none], [], h)) rfl ?_
  obtain ⟨n, w⟩ := w
  exact okl120_12 c d Post n _ _ _ _ _ _ _ w
def w121_11 (c : gx) (d : Nat) (Post : Option Value → gm_H → Prop)  (h : gm_H) : Prop :=
  Post (some (.int (-1))) h
theorem ok121_11 (c : gx) (d : Nat) (Post : Option Value → gm_H → Prop)   (h : gm_H) (w : w121_11 c d Post  h) : gV c d 121 (11, [none, none, none, none, none, none, none, none, none], [], h) Post := by
  have hk : ∀ pc i, gm_find gk_121 pc = some i → gm_code (gt_T c.1 c.2.1 c.2.2.1) 121 pc = some i := fun _ _ z => z
  unfold w121_11 at w
  unfold gV
  refine gw_pst hk 1 (st' := (12, [none, none, none, none, none, none, none, none, none], [.int (-1)], h)) rfl ?_
  exact gw_ret (hk _ _ rfl) rfl w
def w121_111 (c : gx) (d : Nat) (Post : Option Value → gm_H → Prop) (K23 : Nat → Int32 → Int32 → Int32 → Int32 → Int32 → gm_H → Prop) (r0 : Nat) (x1 : Int32) (x2 : Int32) (x3 : Int32) (x4 : Int32) (x5 : Int32) (h : gm_H) : Prop :=
  K23 r0 x1 x2 x3 x4 (x5 + 1) h
theorem ok121_111 (c : gx) (d : Nat) (Post : Option Value → gm_H → Prop) (K23 : Nat → Int32 → Int32 → Int32 → Int32 → Int32 → gm_H → Prop)  (hK23 : ∀ (r0 : Nat) (x1 : Int32) (x2 : Int32) (x3 : Int32) (x4 : Int32) (x5 : Int32) (h : gm_H), K23 r0 x1 x2 x3 x4 x5 h → gV c d 121 (23, [some (.ref r0), some (.int x1), some (.int x2), some (.int x3), some (.int x4), some (.int x5), none, none, none], [], h) Post) (r0 : Nat) (x1 : Int32) (x2 : Int32) (x3 : Int32) (x4 : Int32) (x5 : Int32) (h : gm_H) (w : w121_111 c d Post K23 r0 x1 x2 x3 x4 x5 h) : gV c d 121 (111, [some (.ref r0), some (.int x1), some (.int x2), some (.int x3), some (.int x4), some (.int x5), none, none, none], [], h) Post := by
  have hk : ∀ pc i, gm_find gk_121 pc = some i → gm_code (gt_T c.1 c.2.1 c.2.2.1) 121 pc = some i := fun _ _ z => z
  unfold w121_111 at w
  unfold gV
  refine gw_pst hk 2 (st' := (23, [some (.ref r0), some (.int x1), some (.int x2), some (.int x3), some (.int x4), some (.int (x5 + 1)), none, none, none], [], h)) rfl ?_
  exact hK23 _ _ _ _ _ _ _ w
def w121_65 (c : gx) (d : Nat) (Post : Option Value → gm_H → Prop) (K23 : Nat → Int32 → Int32 → Int32 → Int32 → Int32 → gm_H → Prop) (r0 : Nat) (x1 : Int32) (x3 : Int32) (x4 : Int32) (x5 : Int32) (x6 : Int32) (xs0 : Int32) (xs1 : Int32) (h : gm_H) : Prop :=
  (∃ fs1, gm_get h r0 = some (.inr (9, fs1))) ∧ gE c d 148 [.ref r0, .int x6] h (fun v1 h_1 => ∃ q_1 : Nat, v1 = some (.ref q_1) ∧ ∃ q_2 : Nat, gm_fld h_1 r0 9 5 = some (.ref q_2) ∧ ∃ x_3 : Int32, gm_fld h_1 q_2 6 0 = some (.int x_3) ∧ (∃ fs4, gm_get h_1 q_1 = some (.inr (2, fs4))) ∧ gE c d 30 [.ref q_1, .int (x_3 + x5)] h_1 (fun v4 h_4 => ∃ x_4 : Int32, v4 = some (.int x_4) ∧ ∃ q_5 : Nat, gm_fld h_4 r0 9 4 = some (.ref q_5) ∧ ∃ q_6 : Nat, gm_fld h_4 r0 9 5 = some (.ref q_6) ∧ ∃ x_7 : Int32, gm_fld h_4 q_6 6 0 = some (.int x_7) ∧ (∃ fs8, gm_get h_4 q_5 = some (.inr (2, fs8))) ∧ gE c d 30 [.ref q_5, .int (x_7 + x5)] h_4 (fun v8 h_8 => ∃ x_8 : Int32, v8 = some (.int x_8) ∧ w121_111 c d Post K23 r0 x1 (xs0 + xs1) (x3 + x_4) (x4 + x_8) x5 h_8)))
theorem ok121_65 (c : gx) (d : Nat) (Post : Option Value → gm_H → Prop) (K23 : Nat → Int32 → Int32 → Int32 → Int32 → Int32 → gm_H → Prop)  (hK23 : ∀ (r0 : Nat) (x1 : Int32) (x2 : Int32) (x3 : Int32) (x4 : Int32) (x5 : Int32) (h : gm_H), K23 r0 x1 x2 x3 x4 x5 h → gV c d 121 (23, [some (.ref r0), some (.int x1), some (.int x2), some (.int x3), some (.int x4), some (.int x5), none, none, none], [], h) Post) (r0 : Nat) (x1 : Int32) (x3 : Int32) (x4 : Int32) (x5 : Int32) (x6 : Int32) (xs0 : Int32) (xs1 : Int32) (h : gm_H) (w : w121_65 c d Post K23 r0 x1 x3 x4 x5 x6 xs0 xs1 h) : gV c d 121 (65, [some (.ref r0), some (.int x1), none, some (.int x3), some (.int x4), some (.int x5), some (.int x6), none, none], [.int xs1, .int xs0], h) Post := by
  have hk : ∀ pc i, gm_find gk_121 pc = some i → gm_code (gt_T c.1 c.2.1 c.2.2.1) 121 pc = some i := fun _ _ z => z
  unfold w121_65 at w
  unfold gV
  refine gw_pst hk 5 (st' := (71, [some (.ref r0), some (.int x1), some (.int (xs0 + xs1)), some (.int x3), some (.int x4), some (.int x5), some (.int x6), none, none], [.int x6, .ref r0, .int x3], h)) rfl ?_
  obtain ⟨⟨fs1, e1⟩, w⟩ := w
  refine gw_call (jj := 148) (As := [.ref r0, .int x6]) (rest := [.int x3]) (hk _ _ rfl) (fun _ => rfl) rfl rfl (Nat.le_of_ble_eq_true rfl) (gm_rcv_v rfl e1 rfl) ?_
  refine ge_imp w (fun v1 h_1 w => ?_)
  obtain ⟨q_1, rfl, w⟩ := w
  show gV c d 121 (74, [some (.ref r0), some (.int x1), some (.int (xs0 + xs1)), some (.int x3), some (.int x4), some (.int x5), some (.int x6), none, none], [.ref q_1, .int x3], h_1) Post
  refine gw_pst hk 1 (st' := (75, [some (.ref r0), some (.int x1), some (.int (xs0 + xs1)), some (.int x3), some (.int x4), some (.int x5), some (.int x6), none, none], [.ref r0, .ref q_1, .int x3], h_1)) rfl ?_
  obtain ⟨q_2, e2, w⟩ := w
  refine gw_gf (hk _ _ rfl) e2 ?_
  obtain ⟨x_3, e3, w⟩ := w
  refine gw_gf (hk _ _ rfl) e3 ?_
  refine gw_pst hk 2 (st' := (84, [some (.ref r0), some (.int x1), some (.int (xs0 + xs1)), some (.int x3), some (.int x4), some (.int x5), some (.int x6), none, none], [.int (x_3 + x5), .ref q_1, .int x3], h_1)) rfl ?_
  obtain ⟨⟨fs4, e4⟩, w⟩ := w
  refine gw_call (jj := 30) (As := [.ref q_1, .int (x_3 + x5)]) (rest := [.int x3]) (hk _ _ rfl) (fun _ => rfl) rfl rfl (Nat.le_of_ble_eq_true rfl) (gm_rcv_v rfl e4 rfl) ?_
  refine ge_imp w (fun v4 h_4 w => ?_)
  obtain ⟨x_4, rfl, w⟩ := w
  show gV c d 121 (87, [some (.ref r0), some (.int x1), some (.int (xs0 + xs1)), some (.int x3), some (.int x4), some (.int x5), some (.int x6), none, none], [.int x_4, .int x3], h_4) Post
  refine gw_pst hk 4 (st' := (92, [some (.ref r0), some (.int x1), some (.int (xs0 + xs1)), some (.int (x3 + x_4)), some (.int x4), some (.int x5), some (.int x6), none, none], [.ref r0, .int x4], h_4)) rfl ?_
  obtain ⟨q_5, e5, w⟩ := w
  refine gw_gf (hk _ _ rfl) e5 ?_
  refine gw_pst hk 1 (st' := (96, [some (.ref r0), some (.int x1), some (.int (xs0 + xs1)), some (.int (x3 + x_4)), some (.int x4), some (.int x5), some (.int x6), none, none], [.ref r0, .ref q_5, .int x4], h_4)) rfl ?_
  obtain ⟨q_6, e6, w⟩ := w
  refine gw_gf (hk _ _ rfl) e6 ?_
  obtain ⟨x_7, e7, w⟩ := w
  refine gw_gf (hk _ _ rfl) e7 ?_
  refine gw_pst hk 2 (st' := (105, [some (.ref r0), some (.int x1), some (.int (xs0 + xs1)), some (.int (x3 + x_4)), some (.int x4), some (.int x5), some (.int x6), none, none], [.int (x_7 + x5), .ref q_5, .int x4], h_4)) rfl ?_
  obtain ⟨⟨fs8, e8⟩, w⟩ := w
  refine gw_call (jj := 30) (As := [.ref q_5, .int (x_7 + x5)]) (rest := [.int x4]) (hk _ _ rfl) (fun _ => rfl) rfl rfl (Nat.le_of_ble_eq_true rfl) (gm_rcv_v rfl e8 rfl) ?_
  refine ge_imp w (fun v8 h_8 w => ?_)
  obtain ⟨x_8, rfl, w⟩ := w
  show gV c d 121 (108, [some (.ref r0), some (.int x1), some (.int (xs0 + xs1)), some (.int (x3 + x_4)), some (.int x4), some (.int x5), some (.int x6), none, none], [.int x_8, .int x4], h_8) Post
  refine gw_pst hk 2 (st' := (111, [some (.ref r0), some (.int x1), some (.int (xs0 + xs1)), some (.int (x3 + x_4)), some (.int (x4 + x_8)), some (.int x5), some (.int x6), none, none], [], h_8)) rfl ?_
  refine gw_le (L' := [some (.ref r0), some (.int x1), some (.int (xs0 + xs1)), some (.int (x3 + x_4)), some (.int (x4 + x_8)), some (.int x5), none, none, none]) (gm_le_k _ (gm_le_k _ (gm_le_k _ (gm_le_k _ (gm_le_k _ (gm_le_k _ (gm_le_n _ (gm_le_k _ (gm_le_k _ gm_le_nil))))))))) ?_
  exact ok121_111 c d Post K23 hK23 _ _ _ _ _ _ _ w
def wb121_127 (c : gx) (d : Nat) (Post : Option Value → gm_H → Prop) (K127 : Nat → Int32 → Int32 → Int32 → Int32 → Int32 → Int32 → gm_H → Prop) (r0 : Nat) (x1 : Int32) (x2 : Int32) (x3 : Int32) (x5 : Int32) (x6 : Int32) (x7 : Int32) (h : gm_H) : Prop :=
  ((x2 ≤ x7 → ∃ q_2 : Nat, gm_fld h r0 9 11 = some (.ref q_2) ∧ (∃ fs3, gm_get h q_2 = some (.inr (5, fs3))) ∧ gE c d 46 [.ref q_2, .long ((x5 : Int32).toInt64), .long ((x3 : Int32).toInt64)] h (fun v3 h_3 => v3 = none ∧ Post (some (.int x6)) h_3)) ∧ (¬ (x2 ≤ x7) → (∃ fs4, gm_get h r0 = some (.inr (9, fs4))) ∧ gE c d 122 [.ref r0, .int x1, .int x5] h (fun v4 h_4 => ∃ x_4 : Int32, v4 = some (.int x_4) ∧ (∃ fs5, gm_get h_4 r0 = some (.inr (9, fs5))) ∧ gE c d 123 [.ref r0, .int x_4] h_4 (fun v5 h_5 => ∃ x_5 : Int32, v5 = some (.int x_5) ∧ K127 r0 x1 x2 x3 (x5 ||| (1 <<< (x_4 &&& 31))) (x6 + x_5) (x7 + 1) h_5))))
theorem okb121_127 (c : gx) (d : Nat) (Post : Option Value → gm_H → Prop) (K127 : Nat → Int32 → Int32 → Int32 → Int32 → Int32 → Int32 → gm_H → Prop)  (hK127 : ∀ (r0 : Nat) (x1 : Int32) (x2 : Int32) (x3 : Int32) (x5 : Int32) (x6 : Int32) (x7 : Int32) (h : gm_H), K127 r0 x1 x2 x3 x5 x6 x7 h → gV c d 121 (127, [some (.ref r0), some (.int x1), some (.int x2), some (.int x3), none, some (.int x5), some (.int x6), some (.int x7), none], [], h) Post) (r0 : Nat) (x1 : Int32) (x2 : Int32) (x3 : Int32) (x5 : Int32) (x6 : Int32) (x7 : Int32) (h : gm_H) (w : wb121_127 c d Post K127 r0 x1 x2 x3 x5 x6 x7 h) : gV c d 121 (127, [some (.ref r0), some (.int x1), some (.int x2), some (.int x3), none, some (.int x5), some (.int x6), some (.int x7), none], [], h) Post := by
  have hk : ∀ pc i, gm_find gk_121 pc = some i → gm_code (gt_T c.1 c.2.1 c.2.2.1) 121 pc = some i := fun _ _ z => z
  unfold wb121_127 at w
  unfold gV
  refine gw_pst hk 2 (st' := (130, [some (.ref r0), some (.int x1), some (.int x2), some (.int x3), none, some (.int x5), some (.int x6), some (.int x7), none], [.int x2, .int x7], h)) rfl ?_
  refine gw_br (c := x2 ≤ x7) (a := (168, [some (.ref r0), some (.int x1), some (.int x2), some (.int x3), none, some (.int x5), some (.int x6), some (.int x7), none], [], h)) (b := (133, [some (.ref r0), some (.int x1), some (.int x2), some (.int x3), none, some (.int x5), some (.int x6), some (.int x7), none], [], h)) (hk _ _ rfl) rfl ⟨fun z1 => ?_, fun z1 => ?_⟩
  · replace w := w.1 z1
    refine gw_pst hk 1 (st' := (169, [some (.ref r0), some (.int x1), some (.int x2), some (.int x3), none, some (.int x5), some (.int x6), some (.int x7), none], [.ref r0], h)) rfl ?_
    obtain ⟨q_2, e2, w⟩ := w
    refine gw_gf (hk _ _ rfl) e2 ?_
    refine gw_pst hk 4 (st' := (177, [some (.ref r0), some (.int x1), some (.int x2), some (.int x3), none, some (.int x5), some (.int x6), some (.int x7), none], [.long ((x3 : Int32).toInt64), .long ((x5 : Int32).toInt64), .ref q_2], h)) rfl ?_
    obtain ⟨⟨fs3, e3⟩, w⟩ := w
    refine gw_call (jj := 46) (As := [.ref q_2, .long ((x5 : Int32).toInt64), .long ((x3 : Int32).toInt64)]) (rest := []) (hk _ _ rfl) (fun _ => rfl) rfl rfl (Nat.le_of_ble_eq_true rfl) (gm_rcv_v rfl e3 rfl) ?_
    refine ge_imp w (fun v3 h_3 w => ?_)
    obtain ⟨rfl, w⟩ := w
    show gV c d 121 (180, [some (.ref r0), some (.int x1), some (.int x2), some (.int x3), none, some (.int x5), some (.int x6), some (.int x7), none], [], h_3) Post
    refine gw_pst hk 1 (st' := (182, [some (.ref r0), some (.int x1), some (.int x2), some (.int x3), none, some (.int x5), some (.int x6), some (.int x7), none], [.int x6], h_3)) rfl ?_
    exact gw_ret (hk _ _ rfl) rfl w
  · replace w := w.2 z1
    refine gw_pst hk 3 (st' := (137, [some (.ref r0), some (.int x1), some (.int x2), some (.int x3), none, some (.int x5), some (.int x6), some (.int x7), none], [.int x5, .int x1, .ref r0], h)) rfl ?_
    obtain ⟨⟨fs4, e4⟩, w⟩ := w
    refine gw_call (jj := 122) (As := [.ref r0, .int x1, .int x5]) (rest := []) (hk _ _ rfl) (fun _ => rfl) rfl rfl (Nat.le_of_ble_eq_true rfl) (gm_rcv_v rfl e4 rfl) ?_
    refine ge_imp w (fun v4 h_4 w => ?_)
    obtain ⟨x_4, rfl, w⟩ := w
    show gV c d 121 (140, [some (.ref r0), some (.int x1), some (.int x2), some (.int x3), none, some (.int x5), some (.int x6), some (.int x7), none], [.int x_4], h_4) Post
    refine gw_pst hk 10 (st' := (156, [some (.ref r0), some (.int x1), some (.int x2), some (.int x3), none, some (.int (x5 ||| (1 <<< (x_4 &&& 31)))), some (.int x6), some (.int x7), some (.int x_4)], [.int x_4, .ref r0, .int x6], h_4)) rfl ?_
    obtain ⟨⟨fs5, e5⟩, w⟩ := w
    refine gw_call (jj := 123) (As := [.ref r0, .int x_4]) (rest := [.int x6]) (hk _ _ rfl) (fun _ => rfl) rfl rfl (Nat.le_of_ble_eq_true rfl) (gm_rcv_v rfl e5 rfl) ?_
    refine ge_imp w (fun v5 h_5 w => ?_)
    obtain ⟨x_5, rfl, w⟩ := w
    show gV c d 121 (159, [some (.ref r0), some (.int x1), some (.int x2), some (.int x3), none, some (.int (x5 ||| (1 <<< (x_4 &&& 31)))), some (.int x6), some (.int x7), some (.int x_4)], [.int x_5, .int x6], h_5) Post
    refine gw_pst hk 4 (st' := (127, [some (.ref r0), some (.int x1), some (.int x2), some (.int x3), none, some (.int (x5 ||| (1 <<< (x_4 &&& 31)))), some (.int (x6 + x_5)), some (.int (x7 + 1)), some (.int x_4)], [], h_5)) rfl ?_
    refine gw_le (L' := [some (.ref r0), some (.int x1), some (.int x2), some (.int x3), none, some (.int (x5 ||| (1 <<< (x_4 &&& 31)))), some (.int (x6 + x_5)), some (.int (x7 + 1)), none]) (gm_le_k _ (gm_le_k _ (gm_le_k _ (gm_le_k _ (gm_le_k _ (gm_le_k _ (gm_le_k _ (gm_le_k _ (gm_le_n _ gm_le_nil))))))))) ?_
    exact hK127 _ _ _ _ _ _ _ _ w
def wl121_127 (c : gx) (d : Nat) (Post : Option Value → gm_H → Prop) : Nat → Nat → Int32 → Int32 → Int32 → Int32 → Int32 → Int32 → gm_H → Prop
  | 0 => fun _ _ _ _ _ _ _ _ => False
  | n + 1 => wb121_127 c d Post (wl121_127 c d Post n)
theorem okl121_127 (c : gx) (d : Nat) (Post : Option Value → gm_H → Prop) : ∀ (n : Nat) (r0 : Nat) (x1 : Int32) (x2 : Int32) (x3 : Int32) (x5 : Int32) (x6 : Int32) (x7 : Int32) (h : gm_H), wl121_127 c d Post n r0 x1 x2 x3 x5 x6 x7 h → gV c d 121 (127, [some (.ref r0), some (.int x1), some (.int x2), some (.int x3), none, some (.int x5), some (.int x6), some (.int x7), none], [], h) Post
  | 0, _, _, _, _, _, _, _, _, w => w.elim
  | n + 1, r0, x1, x2, x3, x5, x6, x7, h, w => okb121_127 c d Post (wl121_127 c d Post n) (okl121_127 c d Post n) r0 x1 x2 x3 x5 x6 x7 h w
def wb121_23 (c : gx) (d : Nat) (Post : Option Value → gm_H → Prop) (K23 : Nat → Int32 → Int32 → Int32 → Int32 → Int32 → gm_H → Prop) (r0 : Nat) (x1 : Int32) (x2 : Int32) (x3 : Int32) (x4 : Int32) (x5 : Int32) (h : gm_H) : Prop :=
  ((x1 ≤ x5 → ∃ n, wl121_127 c d Post n r0 x1 x2 x3 0 x4 0 h) ∧ (¬ (x1 ≤ x5) → ∃ q_2 : Nat, gm_fld h r0 9 5 = some (.ref q_2) ∧ ∃ q_3 : Nat, gm_fld h r0 9 5 = some (.ref q_3) ∧ ∃ x_4 : Int32, gm_fld h q_3 6 0 = some (.int x_4) ∧ (∃ fs5, gm_get h q_2 = some (.inr (6, fs5))) ∧ gE c d 51 [.ref q_2, .int (x_4 + x5)] h (fun v5 h_5 => ∃ x_5 : Int32, v5 = some (.int x_5) ∧ ((x_5 = (-1) → w121_111 c d Post K23 r0 x1 x2 x3 x4 x5 h_5) ∧ (¬ (x_5 = (-1)) → ((x_5 = 0 → w121_65 c d Post K23 r0 x1 x3 x4 x5 x_5 x2 1 h_5) ∧ (¬ (x_5 = 0) → w121_65 c d Post K23 r0 x1 x3 x4 x5 x_5 x2 0 h_5)))))))
theorem okb121_23 (c : gx) (d : Nat) (Post : Option Value → gm_H → Prop) (K23 : Nat → Int32 → Int32 → Int32 → Int32 → Int32 → gm_H → Prop)  (hK23 : ∀ (r0 : Nat) (x1 : Int32) (x2 : Int32) (x3 : Int32) (x4 : Int32) (x5 : Int32) (h : gm_H), K23 r0 x1 x2 x3 x4 x5 h → gV c d 121 (23, [some (.ref r0), some (.int x1), some (.int x2), some (.int x3), some (.int x4), some (.int x5), none, none, none], [], h) Post) (r0 : Nat) (x1 : Int32) (x2 : Int32) (x3 : Int32) (x4 : Int32) (x5 : Int32) (h : gm_H) (w : wb121_23 c d Post K23 r0 x1 x2 x3 x4 x5 h) : gV c d 121 (23, [some (.ref r0), some (.int x1), some (.int x2), some (.int x3), some (.int x4), some (.int x5), none, none, none], [], h) Post := by
  have hk : ∀ pc i, gm_find gk_121 pc = some i → gm_code (gt_T c.1 c.2.1 c.2.2.1) 121 pc = some i := fun _ _ z => z
  unfold wb121_23 at w
  unfold gV
  refine gw_pst hk 2 (st' := (26, [some (.ref r0), some (.int x1), some (.int x2), some (.int x3), some (.int x4), some (.int x5), none, none, none], [.int x1, .int x5], h)) rfl ?_
  refine gw_br (c := x1 ≤ x5) (a := (117, [some (.ref r0), some (.int x1), some (.int x2), some (.int x3), some (.int x4), some (.int x5), none, none, none], [], h)) (b := (29, [some (.ref r0), some (.int x1), some (.int x2), some (.int x3), some (.int x4), some (.int x5), none, none, none], [], h)) (hk _ _ rfl) rfl ⟨fun z1 => ?_, fun z1 => ?_⟩
  · replace w := w.1 z1
    refine gw_pst hk 6 (st' := (127, [some (.ref r0), some (.int x1), some (.int x2), some (.int x3), some (.int x4), some (.int 0), some (.int x4), some (.int 0), none], [], h)) rfl ?_
    refine gw_le (L' := [some (.ref r0), some (.int x1), some (.int x2), some (.int x3), none, some (.int 0), some (.int x4), some (.int 0), none]) (gm_le_k _ (gm_le_k _ (gm_le_k _ (gm_le_k _ (gm_le_n _ (gm_le_k _ (gm_le_k _ (gm_le_k _ (gm_le_k _ gm_le_nil))))))))) ?_
    obtain ⟨n, w⟩ := w
    exact okl121_127 c d Post n _ _ _ _ _ _ _ _ w
  · replace w := w.2 z1
    refine gw_pst hk 1 (st' := (30, [some (.ref r0), some (.int x1), some (.int x2), some (.int x3), some (.int x4), some (.int x5), none, none, none], [.ref r0], h)) rfl ?_
    obtain ⟨q_2, e2, w⟩ := w
    refine gw_gf (hk _ _ rfl) e2 ?_
    refine gw_pst hk 1 (st' := (34, [some (.ref r0), some (.int x1), some (.int x2), some (.int x3), some (.int x4), some (.int x5), none, none, none], [.ref r0, .ref q_2], h)) rfl ?_
    obtain ⟨q_3, e3, w⟩ := w
    refine gw_gf (hk _ _ rfl) e3 ?_
    obtain ⟨x_4, e4, w⟩ := w
    refine gw_gf (hk _ _ rfl) e4 ?_
    refine gw_pst hk 2 (st' := (43, [some (.ref r0), some (.int x1), some (.int x2), some (.int x3), some (.int x4), some (.int x5), none, none, none], [.int (x_4 + x5), .ref q_2], h)) rfl ?_
    obtain ⟨⟨fs5, e5⟩, w⟩ := w
    refine gw_call (jj := 51) (As := [.ref q_2, .int (x_4 + x5)]) (rest := []) (hk _ _ rfl) (fun _ => rfl) rfl rfl (Nat.le_of_ble_eq_true rfl) (gm_rcv_v rfl e5 rfl) ?_
    refine ge_imp w (fun v5 h_5 w => ?_)
    obtain ⟨x_5, rfl, w⟩ := w
    show gV c d 121 (46, [some (.ref r0), some (.int x1), some (.int x2), some (.int x3), some (.int x4), some (.int x5), none, none, none], [.int x_5], h_5) Post
    refine gw_pst hk 3 (st' := (51, [some (.ref r0), some (.int x1), some (.int x2), some (.int x3), some (.int x4), some (.int x5), some (.int x_5), none, none], [.int (-1), .int x_5], h_5)) rfl ?_
    refine gw_br (c := x_5 = (-1)) (a := (111, [some (.ref r0), some (.int x1), some (.int x2), some (.int x3), some (.int x4), some (.int x5), some (.int x_5), none, none], [], h_5)) (b := (54, [some (.ref r0), some (.int x1), some (.int x2), some (.int x3), some (.int x4), some (.int x5), some (.int x_5), none, none], [], h_5)) (hk _ _ rfl) rfl ⟨fun z6 => ?_, fun z6 => ?_⟩
    · replace w := w.1 z6
      refine gw_le (L' := [some (.ref r0), some (.int x1), some (.int x2), some (.int x3), some (.int x4), some (.int x5), none, none, none]) (gm_le_k _ (gm_le_k _ (gm_le_k _ (gm_le_k _ (gm_le_k _ (gm_le_k _ (gm_le_n _ (gm_le_k _ (gm_le_k _ gm_le_nil))))))))) ?_
      exact ok121_111 c d Post K23 hK23 _ _ _ _ _ _ _ w
    · replace w := w.2 z6
      refine gw_pst hk 2 (st' := (57, [some (.ref r0), some (.int x1), some (.int x2), some (.int x3), some (.int x4), some (.int x5), some (.int x_5), none, none], [.int x_5, .int x2], h_5)) rfl ?_
      refine gw_br (c := x_5 = 0) (a := (60, [some (.ref r0), some (.int x1), some (.int x2), some (.int x3), some (.int x4), some (.int x5), some (.int x_5), none, none], [.int x2], h_5)) (b := (64, [some (.ref r0), some (.int x1), some (.int x2), some (.int x3), some (.int x4), some (.int x5), some (.int x_5), none, none], [.int x2], h_5)) (hk _ _ rfl) rfl ⟨fun z7 => ?_, fun z7 => ?_⟩
      · replace w := w.1 z7
        refine gw_pst hk 2 (st' := (65, [some (.ref r0), some (.int x1), some (.int x2), some (.int x3), some (.int x4), some (.int x5), some (.int x_5), none, none], [.int 1, .int x2], h_5)) rfl ?_
        refine gw_le (L' := [some (.ref r0), some (.int x1), none, some (.int x3), some (.int x4), some (.int x5), some (.int x_5), none, none]) (gm_le_k _ (gm_le_k _ (gm_le_n _ (gm_le_k _ (gm_le_k _ (gm_le_k _ (gm_le_k _ (gm_le_k _ (gm_le_k _ gm_le_nil))))))))) ?_
        exact ok121_65 c d Post K23 hK23 _ _ _ _ _ _ _ _ _ w
      · replace w := w.2 z7
        refine gw_pst hk 1 (st' := (65, [some (.ref r0), some (.int x1), some (.int x2), some (.int x3), some (.int x4), some (.int x5), some (.int x_5), none, none], [.int 0, .int x2], h_5)) rfl ?_
        refine gw_le (L' := [some (.ref r0), some (.int x1), none, some (.int x3), some (.int x4), some (.int x5), some (.int x_5), none, none]) (gm_le_k _ (gm_le_k _ (gm_le_n _ (gm_le_k _ (gm_le_k _ (gm_le_k _ (gm_le_k _ (gm_le_k _ (gm_le_k _ gm_le_nil))))))))) ?_
        exact ok121_65 c d Post K23 hK23 _ _ _ _ _ _ _ _ _ w
def wl121_23 (c : gx) (d : Nat) (Post : Option Value → gm_H → Prop) : Nat → Nat → Int32 → Int32 → Int32 → Int32 → Int32 → gm_H → Prop
  | 0 => fun _ _ _ _ _ _ _ => False
  | n + 1 => wb121_23 c d Post (wl121_23 c d Post n)
theorem okl121_23 (c : gx) (d : Nat) (Post : Option Value → gm_H → Prop) : ∀ (n : Nat) (r0 : Nat) (x1 : Int32) (x2 : Int32) (x3 : Int32) (x4 : Int32) (x5 : Int32) (h : gm_H), wl121_23 c d Post n r0 x1 x2 x3 x4 x5 h → gV c d 121 (23, [some (.ref r0), some (.int x1), some (.int x2), some (.int x3), some (.int x4), some (.int x5), none, none, none], [], h) Post
  | 0, _, _, _, _, _, _, _, w => w.elim
  | n + 1, r0, x1, x2, x3, x4, x5, h, w => okb121_23 c d Post (wl121_23 c d Post n) (okl121_23 c d Post n) r0 x1 x2 x3 x4 x5 h w
/-- CommandByTurns.share(I)I -/
def wm121 (c : gx) (d : Nat) (Post : Option Value → gm_H → Prop) (r0 : Nat) (x1 : Int32) (h : gm_H) : Prop :=
  ((x1 < 1 → w121_11 c d Post h) ∧ (¬ (x1 < 1) → ((x1 ≤ 20 → ∃ n, wl121_23 c d Post n r0 x1 0 0 0 0 h) ∧ (¬ (x1 ≤ 20) → w121_11 c d Post h))))
theorem okm121 (c : gx) (d : Nat) (Post : Option Value → gm_H → Prop) (r0 : Nat) (x1 : Int32) (h : gm_H) (w : wm121 c d Post r0 x1 h) : gE c (d + 1) 121 [.ref r0, .int x1] h Post := by
  have hk : ∀ pc i, gm_find gk_121 pc = some i → gm_code (gt_T c.1 c.2.1 c.2.2.1) 121 pc = some i := fun _ _ z => z
  unfold wm121 at w
  refine ge_of (by decide) (Nat.le_of_ble_eq_true rfl) ?_
  show gV c d 121 (0, [some (.ref r0), some (.int x1), none, none, none, none, none, none, none], [], h) Post
  unfold gV
  refine gw_pst hk 2 (st' := (2, [some (.ref r0), some (.int x1), none, none, none, none, none, none, none], [.int 1, .int x1], h)) rfl ?_
  refine gw_br (c := x1 < 1) (a := (11, [some (.ref r0), some (.int x1), none, none, none, none, none, none, none], [], h)) (b := (5, [some (.ref r0), some (.int x1), none, none, none, none, none, none, none], [], h)) (hk _ _ rfl) rfl ⟨fun z1 => ?_, fun z1 => ?_⟩
  · replace w := w.1 z1
    refine gw_le (L' := [none, none, none, none, none, none, none, none, none]) (gm_le_n _ (gm_le_n _ (gm_le_k _ (gm_le_k _ (gm_le_k _ (gm_le_k _ (gm_le_k _ (gm_le_k _ (gm_le_k _ gm_le_nil))))))))) ?_
    exact ok121_11 c d Post _ w
  · replace w := w.2 z1
    refine gw_pst hk 2 (st' := (8, [some (.ref r0), some (.int x1), none, none, none, none, none, none, none], [.int 20, .int x1], h)) rfl ?_
    refine gw_br (c := x1 ≤ 20) (a := (13, [some (.ref r0), some (.int x1), none, none, none, none, none, none, none], [], h)) (b := (11, [some (.ref r0), some (.int x1), none, none, none, none, none, none, none], [], h)) (hk _ _ rfl) rfl ⟨fun z2 => ?_, fun z2 => ?_⟩
    · replace w := w.1 z2
      refine gw_pst hk 8 (st' := (23, [some (.ref r0), some (.int x1), some (.int 0), some (.int 0), some (.int 0), some (.int 0), none, none, none], [], h)) rfl ?_
      obtain ⟨n, w⟩ := w
      exact okl121_23 c d Post n _ _ _ _ _ _ _ w
    · replace w := w.2 z2
      refine gw_le (L' := [none, none, none, none, none, none, none, none, none]) (gm_le_n _ (gm_le_n _ (gm_le_k _ (gm_le_k _ (gm_le_k _ (gm_le_k _ (gm_le_k _ (gm_le_k _ (gm_le_k _ gm_le_nil))))))))) ?_
      exact ok121_11 c d Post _ w
def w122_75 (c : gx) (d : Nat) (Post : Option Value → gm_H → Prop) (K5 : Nat → Int32 → Int32 → Int32 → Int32 → gm_H → Prop) (r0 : Nat) (x1 : Int32) (x2 : Int32) (x3 : Int32) (x4 : Int32) (h : gm_H) : Prop :=
  K5 r0 x1 x2 x3 (x4 + 1) h
theorem ok122_75 (c : gx) (d : Nat) (Post : Option Value → gm_H → Prop) (K5 : Nat → Int32 → Int32 → Int32 → Int32 → gm_H → Prop)  (hK5 : ∀ (r0 : Nat) (x1 : Int32) (x2 : Int32) (x3 : Int32) (x4 : Int32) (h : gm_H), K5 r0 x1 x2 x3 x4 h → gV c d 122 (5, [some (.ref r0), some (.int x1), some (.int x2), some (.int x3), some (.int x4), none], [], h) Post) (r0 : Nat) (x1 : Int32) (x2 : Int32) (x3 : Int32) (x4 : Int32) (h : gm_H) (w : w122_75 c d Post K5 r0 x1 x2 x3 x4 h) : gV c d 122 (75, [some (.ref r0), some (.int x1), some (.int x2), some (.int x3), some (.int x4), none], [], h) Post := by
  have hk : ∀ pc i, gm_find gk_122 pc = some i → gm_code (gt_T c.1 c.2.1 c.2.2.1) 122 pc = some i := fun _ _ z => z
  unfold w122_75 at w
  unfold gV
  refine gw_pst hk 2 (st' := (5, [some (.ref r0), some (.int x1), some (.int x2), some (.int x3), some (.int (x4 + 1)), none], [], h)) rfl ?_
  exact hK5 _ _ _ _ _ _ w
def w122_72 (c : gx) (d : Nat) (Post : Option Value → gm_H → Prop) (K5 : Nat → Int32 → Int32 → Int32 → Int32 → gm_H → Prop) (r0 : Nat) (x1 : Int32) (x2 : Int32) (x4 : Int32) (h : gm_H) : Prop :=
  w122_75 c d Post K5 r0 x1 x2 x4 x4 h
theorem ok122_72 (c : gx) (d : Nat) (Post : Option Value → gm_H → Prop) (K5 : Nat → Int32 → Int32 → Int32 → Int32 → gm_H → Prop)  (hK5 : ∀ (r0 : Nat) (x1 : Int32) (x2 : Int32) (x3 : Int32) (x4 : Int32) (h : gm_H), K5 r0 x1 x2 x3 x4 h → gV c d 122 (5, [some (.ref r0), some (.int x1), some (.int x2), some (.int x3), some (.int x4), none], [], h) Post) (r0 : Nat) (x1 : Int32) (x2 : Int32) (x4 : Int32) (h : gm_H) (w : w122_72 c d Post K5 r0 x1 x2 x4 h) : gV c d 122 (72, [some (.ref r0), some (.int x1), some (.int x2), none, some (.int x4), none], [], h) Post := by
  have hk : ∀ pc i, gm_find gk_122 pc = some i → gm_code (gt_T c.1 c.2.1 c.2.2.1) 122 pc = some i := fun _ _ z => z
  unfold w122_72 at w
  unfold gV
  refine gw_pst hk 2 (st' := (75, [some (.ref r0), some (.int x1), some (.int x2), some (.int x4), some (.int x4), none], [], h)) rfl ?_
  exact ok122_75 c d Post K5 hK5 _ _ _ _ _ _ w
def w122_46 (c : gx) (d : Nat) (Post : Option Value → gm_H → Prop) (K5 : Nat → Int32 → Int32 → Int32 → Int32 → gm_H → Prop) (r0 : Nat) (x1 : Int32) (x2 : Int32) (x3 : Int32) (x4 : Int32) (xs0 : Int32) (h : gm_H) : Prop :=
  ((xs0 = 0 → w122_75 c d Post K5 r0 x1 x2 x3 x4 h) ∧ (¬ (xs0 = 0) → ((x3 = (-1) → w122_72 c d Post K5 r0 x1 x2 x4 h) ∧ (¬ (x3 = (-1)) → (∃ fs3, gm_get h r0 = some (.inr (9, fs3))) ∧ gE c d 123 [.ref r0, .int x4] h (fun v3 h_3 => ∃ x_3 : Int32, v3 = some (.int x_3) ∧ (∃ fs4, gm_get h_3 r0 = some (.inr (9, fs4))) ∧ gE c d 123 [.ref r0, .int x3] h_3 (fun v4 h_4 => ∃ x_4 : Int32, v4 = some (.int x_4) ∧ ((x_3 ≤ x_4 → w122_75 c d Post K5 r0 x1 x2 x3 x4 h_4) ∧ (¬ (x_3 ≤ x_4) → w122_72 c d Post K5 r0 x1 x2 x4 h_4))))))))
theorem ok122_46 (c : gx) (d : Nat) (Post : Option Value → gm_H → Prop) (K5 : Nat → Int32 → Int32 → Int32 → Int32 → gm_H → Prop)  (hK5 : ∀ (r0 : Nat) (x1 : Int32) (x2 : Int32) (x3 : Int32) (x4 : Int32) (h : gm_H), K5 r0 x1 x2 x3 x4 h → gV c d 122 (5, [some (.ref r0), some (.int x1), some (.int x2), some (.int x3), some (.int x4), none], [], h) Post) (r0 : Nat) (x1 : Int32) (x2 : Int32) (x3 : Int32) (x4 : Int32) (xs0 : Int32) (h : gm_H) (w : w122_46 c d Post K5 r0 x1 x2 x3 x4 xs0 h) : gV c d 122 (46, [some (.ref r0), some (.int x1), some (.int x2), some (.int x3), some (.int x4), none], [.int xs0], h) Post := by
  have hk : ∀ pc i, gm_find gk_122 pc = some i → gm_code (gt_T c.1 c.2.1 c.2.2.1) 122 pc = some i := fun _ _ z => z
  unfold w122_46 at w
  unfold gV
  refine gw_pst hk 2 (st' := (50, [some (.ref r0), some (.int x1), some (.int x2), some (.int x3), some (.int x4), some (.int xs0)], [.int xs0], h)) rfl ?_
  refine gw_br (c := xs0 = 0) (a := (75, [some (.ref r0), some (.int x1), some (.int x2), some (.int x3), some (.int x4), some (.int xs0)], [], h)) (b := (53, [some (.ref r0), some (.int x1), some (.int x2), some (.int x3), some (.int x4), some (.int xs0)], [], h)) (hk _ _ rfl) rfl ⟨fun z1 => ?_, fun z1 => ?_⟩
  · replace w := w.1 z1
    refine gw_le (L' := [some (.ref r0), some (.int x1), some (.int x2), some (.int x3), some (.int x4), none]) (gm_le_k _ (gm_le_k _ (gm_le_k _ (gm_le_k _ (gm_le_k _ (gm_le_n _ gm_le_nil)))))) ?_
    exact ok122_75 c d Post K5 hK5 _ _ _ _ _ _ w
  · replace w := w.2 z1
    refine gw_pst hk 2 (st' := (55, [some (.ref r0), some (.int x1), some (.int x2), some (.int x3), some (.int x4), some (.int xs0)], [.int (-1), .int x3], h)) rfl ?_
    refine gw_br (c := x3 = (-1)) (a := (72, [some (.ref r0), some (.int x1), some (.int x2), some (.int x3), some (.int x4), some (.int xs0)], [], h)) (b := (58, [some (.ref r0), some (.int x1), some (.int x2), some (.int x3), some (.int x4), some (.int xs0)], [], h)) (hk _ _ rfl) rfl ⟨fun z2 => ?_, fun z2 => ?_⟩
    · replace w := w.1 z2
      refine gw_le (L' := [some (.ref r0), some (.int x1), some (.int x2), none, some (.int x4), none]) (gm_le_k _ (gm_le_k _ (gm_le_k _ (gm_le_n _ (gm_le_k _ (gm_le_n _ gm_le_nil)))))) ?_
      exact ok122_72 c d Post K5 hK5 _ _ _ _ _ w
    · replace w := w.2 z2
      refine gw_pst hk 2 (st' := (61, [some (.ref r0), some (.int x1), some (.int x2), some (.int x3), some (.int x4), some (.int xs0)], [.int x4, .ref r0], h)) rfl ?_
      obtain ⟨⟨fs3, e3⟩, w⟩ := w
      refine gw_call (jj := 123) (As := [.ref r0, .int x4]) (rest := []) (hk _ _ rfl) (fun _ => rfl) rfl rfl (Nat.le_of_ble_eq_true rfl) (gm_rcv_v rfl e3 rfl) ?_
      refine ge_imp w (fun v3 h_3 w => ?_)
      obtain ⟨x_3, rfl, w⟩ := w
      show gV c d 122 (64, [some (.ref r0), some (.int x1), some (.int x2), some (.int x3), some (.int x4), some (.int xs0)], [.int x_3], h_3) Post
      refine gw_pst hk 2 (st' := (66, [some (.ref r0), some (.int x1), some (.int x2), some (.int x3), some (.int x4), some (.int xs0)], [.int x3, .ref r0, .int x_3], h_3)) rfl ?_
      obtain ⟨⟨fs4, e4⟩, w⟩ := w
      refine gw_call (jj := 123) (As := [.ref r0, .int x3]) (rest := [.int x_3]) (hk _ _ rfl) (fun _ => rfl) rfl rfl (Nat.le_of_ble_eq_true rfl) (gm_rcv_v rfl e4 rfl) ?_
      refine ge_imp w (fun v4 h_4 w => ?_)
      obtain ⟨x_4, rfl, w⟩ := w
      show gV c d 122 (69, [some (.ref r0), some (.int x1), some (.int x2), some (.int x3), some (.int x4), some (.int xs0)], [.int x_4, .int x_3], h_4) Post
      refine gw_br (c := x_3 ≤ x_4) (a := (75, [some (.ref r0), some (.int x1), some (.int x2), some (.int x3), some (.int x4), some (.int xs0)], [], h_4)) (b := (72, [some (.ref r0), some (.int x1), some (.int x2), some (.int x3), some (.int x4), some (.int xs0)], [], h_4)) (hk _ _ rfl) rfl ⟨fun z5 => ?_, fun z5 => ?_⟩
      · replace w := w.1 z5
        refine gw_le (L' := [some (.ref r0), some (.int x1), some (.int x2), some (.int x3), some (.int x4), none]) (gm_le_k _ (gm_le_k _ (gm_le_k _ (gm_le_k _ (gm_le_k _ (gm_le_n _ gm_le_nil)))))) ?_
        exact ok122_75 c d Post K5 hK5 _ _ _ _ _ _ w
      · replace w := w.2 z5
        refine gw_le (L' := [some (.ref r0), some (.int x1), some (.int x2), none, some (.int x4), none]) (gm_le_k _ (gm_le_k _ (gm_le_k _ (gm_le_n _ (gm_le_k _ (gm_le_n _ gm_le_nil)))))) ?_
        exact ok122_72 c d Post K5 hK5 _ _ _ _ _ w
def w122_45 (c : gx) (d : Nat) (Post : Option Value → gm_H → Prop) (K5 : Nat → Int32 → Int32 → Int32 → Int32 → gm_H → Prop) (r0 : Nat) (x1 : Int32) (x2 : Int32) (x3 : Int32) (x4 : Int32) (h : gm_H) : Prop :=
  w122_46 c d Post K5 r0 x1 x2 x3 x4 0 h
theorem ok122_45 (c : gx) (d : Nat) (Post : Option Value → gm_H → Prop) (K5 : Nat → Int32 → Int32 → Int32 → Int32 → gm_H → Prop)  (hK5 : ∀ (r0 : Nat) (x1 : Int32) (x2 : Int32) (x3 : Int32) (x4 : Int32) (h : gm_H), K5 r0 x1 x2 x3 x4 h → gV c d 122 (5, [some (.ref r0), some (.int x1), some (.int x2), some (.int x3), some (.int x4), none], [], h) Post) (r0 : Nat) (x1 : Int32) (x2 : Int32) (x3 : Int32) (x4 : Int32) (h : gm_H) (w : w122_45 c d Post K5 r0 x1 x2 x3 x4 h) : gV c d 122 (45, [some (.ref r0), some (.int x1), some (.int x2), some (.int x3), some (.int x4), none], [], h) Post := by
  have hk : ∀ pc i, gm_find gk_122 pc = some i → gm_code (gt_T c.1 c.2.1 c.2.2.1) 122 pc = some i := fun _ _ z => z
  unfold w122_45 at w
  unfold gV
  refine gw_pst hk 1 (st' := (46, [some (.ref r0), some (.int x1), some (.int x2), some (.int x3), some (.int x4), none], [.int 0], h)) rfl ?_
  exact ok122_46 c d Post K5 hK5 _ _ _ _ _ _ _ w
def wb122_5 (c : gx) (d : Nat) (Post : Option Value → gm_H → Prop) (K5 : Nat → Int32 → Int32 → Int32 → Int32 → gm_H → Prop) (r0 : Nat) (x1 : Int32) (x2 : Int32) (x3 : Int32) (x4 : Int32) (h : gm_H) : Prop :=
  ((x1 ≤ x4 → Post (some (.int x3)) h) ∧ (¬ (x1 ≤ x4) → (((x2 &&& (1 <<< (x4 &&& 31))) = 0 → ∃ q_3 : Nat, gm_fld h r0 9 5 = some (.ref q_3) ∧ ∃ q_4 : Nat, gm_fld h r0 9 5 = some (.ref q_4) ∧ ∃ x_5 : Int32, gm_fld h q_4 6 0 = some (.int x_5) ∧ (∃ fs6, gm_get h q_3 = some (.inr (6, fs6))) ∧ gE c d 51 [.ref q_3, .int (x_5 + x4)] h (fun v6 h_6 => ∃ x_6 : Int32, v6 = some (.int x_6) ∧ ((x_6 = (-1) → w122_45 c d Post K5 r0 x1 x2 x3 x4 h_6) ∧ (¬ (x_6 = (-1)) → w122_46 c d Post K5 r0 x1 x2 x3 x4 1 h_6)))) ∧ (¬ ((x2 &&& (1 <<< (x4 &&& 31))) = 0) → w122_45 c d Post K5 r0 x1 x2 x3 x4 h))))
theorem okb122_5 (c : gx) (d : Nat) (Post : Option Value → gm_H → Prop) (K5 : Nat → Int32 → Int32 → Int32 → Int32 → gm_H → Prop)  (hK5 : ∀ (r0 : Nat) (x1 : Int32) (x2 : Int32) (x3 : Int32) (x4 : Int32) (h : gm_H), K5 r0 x1 x2 x3 x4 h → gV c d 122 (5, [some (.ref r0), some (.int x1), some (.int x2), some (.int x3), some (.int x4), none], [], h) Post) (r0 : Nat) (x1 : Int32) (x2 : Int32) (x3 : Int32) (x4 : Int32) (h : gm_H) (w : wb122_5 c d Post K5 r0 x1 x2 x3 x4 h) : gV c d 122 (5, [some (.ref r0), some (.int x1), some (.int x2), some (.int x3), some (.int x4), none], [], h) Post := by
  have hk : ∀ pc i, gm_find gk_122 pc = some i → gm_code (gt_T c.1 c.2.1 c.2.2.1) 122 pc = some i := fun _ _ z => z
  unfold wb122_5 at w
  unfold gV
  refine gw_pst hk 2 (st' := (8, [some (.ref r0), some (.int x1), some (.int x2), some (.int x3), some (.int x4), none], [.int x1, .int x4], h)) rfl ?_
  refine gw_br (c := x1 ≤ x4) (a := (81, [some (.ref r0), some (.int x1), some (.int x2), some (.int x3), some (.int x4), none], [], h)) (b := (11, [some (.ref r0), some (.int x1), some (.int x2), some (.int x3), some (.int x4), none], [], h)) (hk _ _ rfl) rfl ⟨fun z1 => ?_, fun z1 => ?_⟩
  · replace w := w.1 z1
    refine gw_pst hk 1 (st' := (82, [some (.ref r0), some (.int x1), some (.int x2), some (.int x3), some (.int x4), none], [.int x3], h)) rfl ?_
    exact gw_ret (hk _ _ rfl) rfl w
  · replace w := w.2 z1
    refine gw_pst hk 5 (st' := (17, [some (.ref r0), some (.int x1), some (.int x2), some (.int x3), some (.int x4), none], [.int (x2 &&& (1 <<< (x4 &&& 31)))], h)) rfl ?_
    refine gw_br (c := (x2 &&& (1 <<< (x4 &&& 31))) = 0) (a := (20, [some (.ref r0), some (.int x1), some (.int x2), some (.int x3), some (.int x4), none], [], h)) (b := (45, [some (.ref r0), some (.int x1), some (.int x2), some (.int x3), some (.int x4), none], [], h)) (hk _ _ rfl) rfl ⟨fun z2 => ?_, fun z2 => ?_⟩
    · replace w := w.1 z2
      refine gw_pst hk 1 (st' := (21, [some (.ref r0), some (.int x1), some (.int x2), some (.int x3), some (.int x4), none], [.ref r0], h)) rfl ?_
      obtain ⟨q_3, e3, w⟩ := w
      refine gw_gf (hk _ _ rfl) e3 ?_
      refine gw_pst hk 1 (st' := (25, [some (.ref r0), some (.int x1), some (.int x2), some (.int x3), some (.int x4), none], [.ref r0, .ref q_3], h)) rfl ?_
      obtain ⟨q_4, e4, w⟩ := w
      refine gw_gf (hk _ _ rfl) e4 ?_
      obtain ⟨x_5, e5, w⟩ := w
      refine gw_gf (hk _ _ rfl) e5 ?_
      refine gw_pst hk 2 (st' := (34, [some (.ref r0), some (.int x1), some (.int x2), some (.int x3), some (.int x4), none], [.int (x_5 + x4), .ref q_3], h)) rfl ?_
      obtain ⟨⟨fs6, e6⟩, w⟩ := w
      refine gw_call (jj := 51) (As := [.ref q_3, .int (x_5 + x4)]) (rest := []) (hk _ _ rfl) (fun _ => rfl) rfl rfl (Nat.le_of_ble_eq_true rfl) (gm_rcv_v rfl e6 rfl) ?_
      refine ge_imp w (fun v6 h_6 w => ?_)
      obtain ⟨x_6, rfl, w⟩ := w
      show gV c d 122 (37, [some (.ref r0), some (.int x1), some (.int x2), some (.int x3), some (.int x4), none], [.int x_6], h_6) Post
      refine gw_pst hk 1 (st' := (38, [some (.ref r0), some (.int x1), some (.int x2), some (.int x3), some (.int x4), none], [.int (-1), .int x_6], h_6)) rfl ?_
      refine gw_br (c := x_6 = (-1)) (a := (45, [some (.ref r0), some (.int x1), some (.int x2), some (.int x3), some (.int x4), none], [], h_6)) (b := (41, [some (.ref r0), some (.int x1), some (.int x2), some (.int x3), some (.int x4), none], [], h_6)) (hk _ _ rfl) rfl ⟨fun z7 => ?_, fun z7 => ?_⟩
      · replace w := w.1 z7
        exact ok122_45 c d Post K5 hK5 _ _ _ _ _ _ w
      · replace w := w.2 z7
        refine gw_pst hk 2 (st' := (46, [some (.ref r0), some (.int x1), some (.int x2), some (.int x3), some (.int x4), none], [.int 1], h_6)) rfl ?_
        exact ok122_46 c d Post K5 hK5 _ _ _ _ _ _ _ w
    · replace w := w.2 z2
      exact ok122_45 c d Post K5 hK5 _ _ _ _ _ _ w
def wl122_5 (c : gx) (d : Nat) (Post : Option Value → gm_H → Prop) : Nat → Nat → Int32 → Int32 → Int32 → Int32 → gm_H → Prop
  | 0 => fun _ _ _ _ _ _ => False
  | n + 1 => wb122_5 c d Post (wl122_5 c d Post n)
theorem okl122_5 (c : gx) (d : Nat) (Post : Option Value → gm_H → Prop) : ∀ (n : Nat) (r0 : Nat) (x1 : Int32) (x2 : Int32) (x3 : Int32) (x4 : Int32) (h : gm_H), wl122_5 c d Post n r0 x1 x2 x3 x4 h → gV c d 122 (5, [some (.ref r0), some (.int x1), some (.int x2), some (.int x3), some (.int x4), none], [], h) Post
  | 0, _, _, _, _, _, _, w => w.elim
  | n + 1, r0, x1, x2, x3, x4, h, w => okb122_5 c d Post (wl122_5 c d Post n) (okl122_5 c d Post n) r0 x1 x2 x3 x4 h w
/-- CommandByTurns.bestToGive(II)I -/
def wm122 (c : gx) (d : Nat) (Post : Option Value → gm_H → Prop) (r0 : Nat) (x1 : Int32) (x2 : Int32) (h : gm_H) : Prop :=
  ∃ n, wl122_5 c d Post n r0 x1 x2 (-1) 0 h
theorem okm122 (c : gx) (d : Nat) (Post : Option Value → gm_H → Prop) (r0 : Nat) (x1 : Int32) (x2 : Int32) (h : gm_H) (w : wm122 c d Post r0 x1 x2 h) : gE c (d + 1) 122 [.ref r0, .int x1, .int x2] h Post := by
  have hk : ∀ pc i, gm_find gk_122 pc = some i → gm_code (gt_T c.1 c.2.1 c.2.2.1) 122 pc = some i := fun _ _ z => z
  unfold wm122 at w
  refine ge_of (by decide) (Nat.le_of_ble_eq_true rfl) ?_
  show gV c d 122 (0, [some (.ref r0), some (.int x1), some (.int x2), none, none, none], [], h) Post
  unfold gV
  refine gw_pst hk 4 (st' := (5, [some (.ref r0), some (.int x1), some (.int x2), some (.int (-1)), some (.int 0), none], [], h)) rfl ?_
  obtain ⟨n, w⟩ := w
  exact okl122_5 c d Post n _ _ _ _ _ _ w
/-- CommandByTurns.gainByGiving(I)I -/
def wm123 (c : gx) (d : Nat) (Post : Option Value → gm_H → Prop) (r0 : Nat) (x1 : Int32) (h : gm_H) : Prop :=
  ∃ q_1 : Nat, gm_fld h r0 9 3 = some (.ref q_1) ∧ ∃ q_2 : Nat, gm_fld h r0 9 5 = some (.ref q_2) ∧ ∃ x_3 : Int32, gm_fld h q_2 6 0 = some (.int x_3) ∧ (∃ fs4, gm_get h q_1 = some (.inr (2, fs4))) ∧ gE c d 30 [.ref q_1, .int (x_3 + x1)] h (fun v4 h_4 => ∃ x_4 : Int32, v4 = some (.int x_4) ∧ ∃ q_5 : Nat, gm_fld h_4 r0 9 4 = some (.ref q_5) ∧ ∃ q_6 : Nat, gm_fld h_4 r0 9 5 = some (.ref q_6) ∧ ∃ x_7 : Int32, gm_fld h_4 q_6 6 0 = some (.int x_7) ∧ (∃ fs8, gm_get h_4 q_5 = some (.inr (2, fs8))) ∧ gE c d 30 [.ref q_5, .int (x_7 + x1)] h_4 (fun v8 h_8 => ∃ x_8 : Int32, v8 = some (.int x_8) ∧ Post (some (.int (x_4 - x_8))) h_8))
theorem okm123 (c : gx) (d : Nat) (Post : Option Value → gm_H → Prop) (r0 : Nat) (x1 : Int32) (h : gm_H) (w : wm123 c d Post r0 x1 h) : gE c (d + 1) 123 [.ref r0, .int x1] h Post := by
  have hk : ∀ pc i, gm_find gk_123 pc = some i → gm_code (gt_T c.1 c.2.1 c.2.2.1) 123 pc = some i := fun _ _ z => z
  unfold wm123 at w
  refine ge_of (by decide) (Nat.le_of_ble_eq_true rfl) ?_
  show gV c d 123 (0, [some (.ref r0), some (.int x1)], [], h) Post
  unfold gV
  refine gw_pst hk 1 (st' := (1, [some (.ref r0), some (.int x1)], [.ref r0], h)) rfl ?_
  obtain ⟨q_1, e1, w⟩ := w
  refine gw_gf (hk _ _ rfl) e1 ?_
  refine gw_pst hk 1 (st' := (5, [some (.ref r0), some (.int x1)], [.ref r0, .ref q_1], h)) rfl ?_
  obtain ⟨q_2, e2, w⟩ := w
  refine gw_gf (hk _ _ rfl) e2 ?_
  obtain ⟨x_3, e3, w⟩ := w
  refine gw_gf (hk _ _ rfl) e3 ?_
  refine gw_pst hk 2 (st' := (13, [some (.ref r0), some (.int x1)], [.int (x_3 + x1), .ref q_1], h)) rfl ?_
  obtain ⟨⟨fs4, e4⟩, w⟩ := w
  refine gw_call (jj := 30) (As := [.ref q_1, .int (x_3 + x1)]) (rest := []) (hk _ _ rfl) (fun _ => rfl) rfl rfl (Nat.le_of_ble_eq_true rfl) (gm_rcv_v rfl e4 rfl) ?_
  refine ge_imp w (fun v4 h_4 w => ?_)
  obtain ⟨x_4, rfl, w⟩ := w
  show gV c d 123 (16, [some (.ref r0), some (.int x1)], [.int x_4], h_4) Post
  refine gw_pst hk 1 (st' := (17, [some (.ref r0), some (.int x1)], [.ref r0, .int x_4], h_4)) rfl ?_
  obtain ⟨q_5, e5, w⟩ := w
  refine gw_gf (hk _ _ rfl) e5 ?_
  refine gw_pst hk 1 (st' := (21, [some (.ref r0), some (.int x1)], [.ref r0, .ref q_5, .int x_4], h_4)) rfl ?_
  obtain ⟨q_6, e6, w⟩ := w
  refine gw_gf (hk _ _ rfl) e6 ?_
  obtain ⟨x_7, e7, w⟩ := w
  refine gw_gf (hk _ _ rfl) e7 ?_
  refine gw_pst hk 2 (st' := (29, [some (.ref r0), some (.int x1)], [.int (x_7 + x1), .ref q_5, .int x_4], h_4)) rfl ?_
  obtain ⟨⟨fs8, e8⟩, w⟩ := w
  refine gw_call (jj := 30) (As := [.ref q_5, .int (x_7 + x1)]) (rest := [.int x_4]) (hk _ _ rfl) (fun _ => rfl) rfl rfl (Nat.le_of_ble_eq_true rfl) (gm_rcv_v rfl e8 rfl) ?_
  refine ge_imp w (fun v8 h_8 w => ?_)
  obtain ⟨x_8, rfl, w⟩ := w
  show gV c d 123 (32, [some (.ref r0), some (.int x1)], [.int x_8, .int x_4], h_8) Post
  refine gw_pst hk 1 (st' := (33, [some (.ref r0), some (.int x1)], [.int (x_4 - x_8)], h_8)) rfl ?_
  exact gw_ret (hk _ _ rfl) rfl w
def w124_11 (c : gx) (d : Nat) (Post : Option Value → gm_H → Prop)  (h : gm_H) : Prop :=
  Post (some (.int (-1))) h
theorem ok124_11 (c : gx) (d : Nat) (Post : Option Value → gm_H → Prop)   (h : gm_H) (w : w124_11 c d Post  h) : gV c d 124 (11, [none, none, none, none, none, none, none, none], [], h) Post := by
  have hk : ∀ pc i, gm_find gk_124 pc = some i → gm_code (gt_T c.1 c.2.1 c.2.2.1) 124 pc = some i := fun _ _ z => z
  unfold w124_11 at w
  unfold gV
  refine gw_pst hk 1 (st' := (12, [none, none, none, none, none, none, none, none], [.int (-1)], h)) rfl ?_
  exact gw_ret (hk _ _ rfl) rfl w
def w124_172 (c : gx) (d : Nat) (Post : Option Value → gm_H → Prop) (K121 : Nat → Int32 → Int32 → Int32 → Int32 → Int32 → gm_H → Prop) (K130 : Nat → Int32 → Int32 → Int32 → Int32 → Int32 → Int32 → gm_H → Prop) (r0 : Nat) (x1 : Int32) (x2 : Int32) (x3 : Int32) (x4 : Int32) (x5 : Int32) (x6 : Int32) (h : gm_H) : Prop :=
  K130 r0 x1 x2 x3 x4 x5 (x6 + 1) h
theorem ok124_172 (c : gx) (d : Nat) (Post : Option Value → gm_H → Prop) (K121 : Nat → Int32 → Int32 → Int32 → Int32 → Int32 → gm_H → Prop) (K130 : Nat → Int32 → Int32 → Int32 → Int32 → Int32 → Int32 → gm_H → Prop)  (hK121 : ∀ (r0 : Nat) (x1 : Int32) (x2 : Int32) (x3 : Int32) (x4 : Int32) (x5 : Int32) (h : gm_H), K121 r0 x1 x2 x3 x4 x5 h → gV c d 124 (121, [some (.ref r0), some (.int x1), some (.int x2), some (.int x3), some (.int x4), some (.int x5), none, none], [], h) Post) (hK130 : ∀ (r0 : Nat) (x1 : Int32) (x2 : Int32) (x3 : Int32) (x4 : Int32) (x5 : Int32) (x6 : Int32) (h : gm_H), K130 r0 x1 x2 x3 x4 x5 x6 h → gV c d 124 (130, [some (.ref r0), some (.int x1), some (.int x2), some (.int x3), some (.int x4), some (.int x5), some (.int x6), none], [], h) Post) (r0 : Nat) (x1 : Int32) (x2 : Int32) (x3 : Int32) (x4 : Int32) (x5 : Int32) (x6 : Int32) (h : gm_H) (w : w124_172 c d Post K121 K130 r0 x1 x2 x3 x4 x5 x6 h) : gV c d 124 (172, [some (.ref r0), some (.int x1), some (.int x2), some (.int x3), some (.int x4), some (.int x5), some (.int x6), none], [], h) Post := by
  have hk : ∀ pc i, gm_find gk_124 pc = some i → gm_code (gt_T c.1 c.2.1 c.2.2.1) 124 pc = some i := fun _ _ z => z
  unfold w124_172 at w
  unfold gV
  refine gw_pst hk 2 (st' := (130, [some (.ref r0), some (.int x1), some (.int x2), some (.int x3), some (.int x4), some (.int x5), some (.int (x6 + 1)), none], [], h)) rfl ?_
  exact hK130 _ _ _ _ _ _ _ _ w
def w124_162 (c : gx) (d : Nat) (Post : Option Value → gm_H → Prop) (K121 : Nat → Int32 → Int32 → Int32 → Int32 → Int32 → gm_H → Prop) (K130 : Nat → Int32 → Int32 → Int32 → Int32 → Int32 → Int32 → gm_H → Prop) (r0 : Nat) (x1 : Int32) (x5 : Int32) (x6 : Int32) (x7 : Int32) (h : gm_H) : Prop :=
  w124_172 c d Post K121 K130 r0 x1 x5 x6 x7 x5 x6 h
theorem ok124_162 (c : gx) (d : Nat) (Post : Option Value → gm_H → Prop) (K121 : Nat → Int32 → Int32 → Int32 → Int32 → Int32 → gm_H → Prop) (K130 : Nat → Int32 → Int32 → Int32 → Int32 → Int32 → Int32 → gm_H → Prop)  (hK121 : ∀ (r0 : Nat) (x1 : Int32) (x2 : Int32) (x3 : Int32) (x4 : Int32) (x5 : Int32) (h : gm_H), K121 r0 x1 x2 x3 x4 x5 h → gV c d 124 (121, [some (.ref r0), some (.int x1), some (.int x2), some (.int x3), some (.int x4), some (.int x5), none, none], [], h) Post) (hK130 : ∀ (r0 : Nat) (x1 : Int32) (x2 : Int32) (x3 : Int32) (x4 : Int32) (x5 : Int32) (x6 : Int32) (h : gm_H), K130 r0 x1 x2 x3 x4 x5 x6 h → gV c d 124 (130, [some (.ref r0), some (.int x1), some (.int x2), some (.int x3), some (.int x4), some (.int x5), some (.int x6), none], [], h) Post) (r0 : Nat) (x1 : Int32) (x5 : Int32) (x6 : Int32) (x7 : Int32) (h : gm_H) (w : w124_162 c d Post K121 K130 r0 x1 x5 x6 x7 h) : gV c d 124 (162, [some (.ref r0), some (.int x1), none, none, none, some (.int x5), some (.int x6), some (.int x7)], [], h) Post := by
  have hk : ∀ pc i, gm_find gk_124 pc = some i → gm_code (gt_T c.1 c.2.1 c.2.2.1) 124 pc = some i := fun _ _ z => z
  unfold w124_162 at w
  unfold gV
  refine gw_pst hk 6 (st' := (172, [some (.ref r0), some (.int x1), some (.int x5), some (.int x6), some (.int x7), some (.int x5), some (.int x6), some (.int x7)], [], h)) rfl ?_
  refine gw_le (L' := [some (.ref r0), some (.int x1), some (.int x5), some (.int x6), some (.int x7), some (.int x5), some (.int x6), none]) (gm_le_k _ (gm_le_k _ (gm_le_k _ (gm_le_k _ (gm_le_k _ (gm_le_k _ (gm_le_k _ (gm_le_n _ gm_le_nil)))))))) ?_
  exact ok124_172 c d Post K121 K130 hK121 hK130 _ _ _ _ _ _ _ _ w
def wb124_130 (c : gx) (d : Nat) (Post : Option Value → gm_H → Prop) (K121 : Nat → Int32 → Int32 → Int32 → Int32 → Int32 → gm_H → Prop) (K130 : Nat → Int32 → Int32 → Int32 → Int32 → Int32 → Int32 → gm_H → Prop) (r0 : Nat) (x1 : Int32) (x2 : Int32) (x3 : Int32) (x4 : Int32) (x5 : Int32) (x6 : Int32) (h : gm_H) : Prop :=
  (((1 <<< (x5 &&& 31)) ≤ x6 → K121 r0 x1 x2 x3 x4 (x5 + 1) h) ∧ (¬ ((1 <<< (x5 &&& 31)) ≤ x6) → (∃ fs2, gm_get h r0 = some (.inr (9, fs2))) ∧ gE c d 125 [.ref r0, .int x1, .int x5, .int x6] h (fun v2 h_2 => ∃ x_2 : Int32, v2 = some (.int x_2) ∧ ((x2 = (-1) → w124_162 c d Post K121 K130 r0 x1 x5 x6 x_2 h_2) ∧ (¬ (x2 = (-1)) → ((x_2 ≤ x4 → w124_172 c d Post K121 K130 r0 x1 x2 x3 x4 x5 x6 h_2) ∧ (¬ (x_2 ≤ x4) → w124_162 c d Post K121 K130 r0 x1 x5 x6 x_2 h_2)))))))
theorem okb124_130 (c : gx) (d : Nat) (Post : Option Value → gm_H → Prop) (K121 : Nat → Int32 → Int32 → Int32 → Int32 → Int32 → gm_H → Prop) (K130 : Nat → Int32 → Int32 → Int32 → Int32 → Int32 → Int32 → gm_H → Prop)  (hK121 : ∀ (r0 : Nat) (x1 : Int32) (x2 : Int32) (x3 : Int32) (x4 : Int32) (x5 : Int32) (h : gm_H), K121 r0 x1 x2 x3 x4 x5 h → gV c d 124 (121, [some (.ref r0), some (.int x1), some (.int x2), some (.int x3), some (.int x4), some (.int x5), none, none], [], h) Post) (hK130 : ∀ (r0 : Nat) (x1 : Int32) (x2 : Int32) (x3 : Int32) (x4 : Int32) (x5 : Int32) (x6 : Int32) (h : gm_H), K130 r0 x1 x2 x3 x4 x5 x6 h → gV c d 124 (130, [some (.ref r0), some (.int x1), some (.int x2), some (.int x3), some (.int x4), some (.int x5), some (.int x6), none], [], h) Post) (r0 : Nat) (x1 : Int32) (x2 : Int32) (x3 : Int32) (x4 : Int32) (x5 : Int32) (x6 : Int32) (h : gm_H) (w : wb124_130 c d Post K121 K130 r0 x1 x2 x3 x4 x5 x6 h) : gV c d 124 (130, [some (.ref r0), some (.int x1), some (.int x2), some (.int x3), some (.int x4), some (.int x5), some (.int x6), none], [], h) Post := by
  have hk : ∀ pc i, gm_find gk_124 pc = some i → gm_code (gt_T c.1 c.2.1 c.2.2.1) 124 pc = some i := fun _ _ z => z
  unfold wb124_130 at w
  unfold gV
  refine gw_pst hk 4 (st' := (136, [some (.ref r0), some (.int x1), some (.int x2), some (.int x3), some (.int x4), some (.int x5), some (.int x6), none], [.int (1 <<< (x5 &&& 31)), .int x6], h)) rfl ?_
  refine gw_br (c := (1 <<< (x5 &&& 31)) ≤ x6) (a := (178, [some (.ref r0), some (.int x1), some (.int x2), some (.int x3), some (.int x4), some (.int x5), some (.int x6), none], [], h)) (b := (139, [some (.ref r0), some (.int x1), some (.int x2), some (.int x3), some (.int x4), some (.int x5), some (.int x6), none], [], h)) (hk _ _ rfl) rfl ⟨fun z1 => ?_, fun z1 => ?_⟩
  · replace w := w.1 z1
    refine gw_pst hk 2 (st' := (121, [some (.ref r0), some (.int x1), some (.int x2), some (.int x3), some (.int x4), some (.int (x5 + 1)), some (.int x6), none], [], h)) rfl ?_
    refine gw_le (L' := [some (.ref r0), some (.int x1), some (.int x2), some (.int x3), some (.int x4), some (.int (x5 + 1)), none, none]) (gm_le_k _ (gm_le_k _ (gm_le_k _ (gm_le_k _ (gm_le_k _ (gm_le_k _ (gm_le_n _ (gm_le_k _ gm_le_nil)))))))) ?_
    exact hK121 _ _ _ _ _ _ _ w
  · replace w := w.2 z1
    refine gw_pst hk 4 (st' := (145, [some (.ref r0), some (.int x1), some (.int x2), some (.int x3), some (.int x4), some (.int x5), some (.int x6), none], [.int x6, .int x5, .int x1, .ref r0], h)) rfl ?_
    obtain ⟨⟨fs2, e2⟩, w⟩ := w
    refine gw_call (jj := 125) (As := [.ref r0, .int x1, .int x5, .int x6]) (rest := []) (hk _ _ rfl) (fun _ => rfl) rfl rfl (Nat.le_of_ble_eq_true rfl) (gm_rcv_v rfl e2 rfl) ?_
    refine ge_imp w (fun v2 h_2 w => ?_)
    obtain ⟨x_2, rfl, w⟩ := w
    show gV c d 124 (148, [some (.ref r0), some (.int x1), some (.int x2), some (.int x3), some (.int x4), some (.int x5), some (.int x6), none], [.int x_2], h_2) Post
    refine gw_pst hk 3 (st' := (152, [some (.ref r0), some (.int x1), some (.int x2), some (.int x3), some (.int x4), some (.int x5), some (.int x6), some (.int x_2)], [.int (-1), .int x2], h_2)) rfl ?_
    refine gw_br (c := x2 = (-1)) (a := (162, [some (.ref r0), some (.int x1), some (.int x2), some (.int x3), some (.int x4), some (.int x5), some (.int x6), some (.int x_2)], [], h_2)) (b := (155, [some (.ref r0), some (.int x1), some (.int x2), some (.int x3), some (.int x4), some (.int x5), some (.int x6), some (.int x_2)], [], h_2)) (hk _ _ rfl) rfl ⟨fun z3 => ?_, fun z3 => ?_⟩
    · replace w := w.1 z3
      refine gw_le (L' := [some (.ref r0), some (.int x1), none, none, none, some (.int x5), some (.int x6), some (.int x_2)]) (gm_le_k _ (gm_le_k _ (gm_le_n _ (gm_le_n _ (gm_le_n _ (gm_le_k _ (gm_le_k _ (gm_le_k _ gm_le_nil)))))))) ?_
      exact ok124_162 c d Post K121 K130 hK121 hK130 _ _ _ _ _ _ w
    · replace w := w.2 z3
      refine gw_pst hk 2 (st' := (159, [some (.ref r0), some (.int x1), some (.int x2), some (.int x3), some (.int x4), some (.int x5), some (.int x6), some (.int x_2)], [.int x4, .int x_2], h_2)) rfl ?_
      refine gw_br (c := x_2 ≤ x4) (a := (172, [some (.ref r0), some (.int x1), some (.int x2), some (.int x3), some (.int x4), some (.int x5), some (.int x6), some (.int x_2)], [], h_2)) (b := (162, [some (.ref r0), some (.int x1), some (.int x2), some (.int x3), some (.int x4), some (.int x5), some (.int x6), some (.int x_2)], [], h_2)) (hk _ _ rfl) rfl ⟨fun z4 => ?_, fun z4 => ?_⟩
      · replace w := w.1 z4
        refine gw_le (L' := [some (.ref r0), some (.int x1), some (.int x2), some (.int x3), some (.int x4), some (.int x5), some (.int x6), none]) (gm_le_k _ (gm_le_k _ (gm_le_k _ (gm_le_k _ (gm_le_k _ (gm_le_k _ (gm_le_k _ (gm_le_n _ gm_le_nil)))))))) ?_
        exact ok124_172 c d Post K121 K130 hK121 hK130 _ _ _ _ _ _ _ _ w
      · replace w := w.2 z4
        refine gw_le (L' := [some (.ref r0), some (.int x1), none, none, none, some (.int x5), some (.int x6), some (.int x_2)]) (gm_le_k _ (gm_le_k _ (gm_le_n _ (gm_le_n _ (gm_le_n _ (gm_le_k _ (gm_le_k _ (gm_le_k _ gm_le_nil)))))))) ?_
        exact ok124_162 c d Post K121 K130 hK121 hK130 _ _ _ _ _ _ w
def wl124_130 (c : gx) (d : Nat) (Post : Option Value → gm_H → Prop) (K121 : Nat → Int32 → Int32 → Int32 → Int32 → Int32 → gm_H → Prop) : Nat → Nat → Int32 → Int32 → Int32 → Int32 → Int32 → Int32 → gm_H → Prop
  | 0 => fun _ _ _ _ _ _ _ _ => False
  | n + 1 => wb124_130 c d Post K121 (wl124_130 c d Post K121 n)
theorem okl124_130 (c : gx) (d : Nat) (Post : Option Value → gm_H → Prop) (K121 : Nat → Int32 → Int32 → Int32 → Int32 → Int32 → gm_H → Prop) (hK121 : ∀ (r0 : Nat) (x1 : Int32) (x2 : Int32) (x3 : Int32) (x4 : Int32) (x5 : Int32) (h : gm_H), K121 r0 x1 x2 x3 x4 x5 h → gV c d 124 (121, [some (.ref r0), some (.int x1), some (.int x2), some (.int x3), some (.int x4), some (.int x5), none, none], [], h) Post) : ∀ (n : Nat) (r0 : Nat) (x1 : Int32) (x2 : Int32) (x3 : Int32) (x4 : Int32) (x5 : Int32) (x6 : Int32) (h : gm_H), wl124_130 c d Post K121 n r0 x1 x2 x3 x4 x5 x6 h → gV c d 124 (130, [some (.ref r0), some (.int x1), some (.int x2), some (.int x3), some (.int x4), some (.int x5), some (.int x6), none], [], h) Post
  | 0, _, _, _, _, _, _, _, _, w => w.elim
  | n + 1, r0, x1, x2, x3, x4, x5, x6, h, w => okb124_130 c d Post K121 (wl124_130 c d Post K121 n) hK121 (okl124_130 c d Post K121 hK121 n) r0 x1 x2 x3 x4 x5 x6 h w
def wb124_121 (c : gx) (d : Nat) (Post : Option Value → gm_H → Prop) (K121 : Nat → Int32 → Int32 → Int32 → Int32 → Int32 → gm_H → Prop) (r0 : Nat) (x1 : Int32) (x2 : Int32) (x3 : Int32) (x4 : Int32) (x5 : Int32) (h : gm_H) : Prop :=
  ((4 < x5 → ∃ q_2 : Nat, gm_fld h r0 9 11 = some (.ref q_2) ∧ (∃ fs3, gm_get h q_2 = some (.inr (5, fs3))) ∧ gE c d 46 [.ref q_2, .long ((x3 : Int32).toInt64), .long ((x4 : Int32).toInt64)] h (fun v3 h_3 => v3 = none ∧ Post (some (.int x2)) h_3)) ∧ (¬ (4 < x5) → ∃ n, wl124_130 c d Post K121 n r0 x1 x2 x3 x4 x5 0 h))
theorem okb124_121 (c : gx) (d : Nat) (Post : Option Value → gm_H → Prop) (K121 : Nat → Int32 → Int32 → Int32 → Int32 → Int32 → gm_H → Prop)  (hK121 : ∀ (r0 : Nat) (x1 : Int32) (x2 : Int32) (x3 : Int32) (x4 : Int32) (x5 : Int32) (h : gm_H), K121 r0 x1 x2 x3 x4 x5 h → gV c d 124 (121, [some (.ref r0), some (.int x1), some (.int x2), some (.int x3), some (.int x4), some (.int x5), none, none], [], h) Post) (r0 : Nat) (x1 : Int32) (x2 : Int32) (x3 : Int32) (x4 : Int32) (x5 : Int32) (h : gm_H) (w : wb124_121 c d Post K121 r0 x1 x2 x3 x4 x5 h) : gV c d 124 (121, [some (.ref r0), some (.int x1), some (.int x2), some (.int x3), some (.int x4), some (.int x5), none, none], [], h) Post := by
  have hk : ∀ pc i, gm_find gk_124 pc = some i → gm_code (gt_T c.1 c.2.1 c.2.2.1) 124 pc = some i := fun _ _ z => z
  unfold wb124_121 at w
  unfold gV
  refine gw_pst hk 2 (st' := (124, [some (.ref r0), some (.int x1), some (.int x2), some (.int x3), some (.int x4), some (.int x5), none, none], [.int 4, .int x5], h)) rfl ?_
  refine gw_br (c := 4 < x5) (a := (184, [some (.ref r0), some (.int x1), some (.int x2), some (.int x3), some (.int x4), some (.int x5), none, none], [], h)) (b := (127, [some (.ref r0), some (.int x1), some (.int x2), some (.int x3), some (.int x4), some (.int x5), none, none], [], h)) (hk _ _ rfl) rfl ⟨fun z1 => ?_, fun z1 => ?_⟩
  · replace w := w.1 z1
    refine gw_pst hk 1 (st' := (185, [some (.ref r0), some (.int x1), some (.int x2), some (.int x3), some (.int x4), some (.int x5), none, none], [.ref r0], h)) rfl ?_
    obtain ⟨q_2, e2, w⟩ := w
    refine gw_gf (hk _ _ rfl) e2 ?_
    refine gw_pst hk 4 (st' := (193, [some (.ref r0), some (.int x1), some (.int x2), some (.int x3), some (.int x4), some (.int x5), none, none], [.long ((x4 : Int32).toInt64), .long ((x3 : Int32).toInt64), .ref q_2], h)) rfl ?_
    obtain ⟨⟨fs3, e3⟩, w⟩ := w
    refine gw_call (jj := 46) (As := [.ref q_2, .long ((x3 : Int32).toInt64), .long ((x4 : Int32).toInt64)]) (rest := []) (hk _ _ rfl) (fun _ => rfl) rfl rfl (Nat.le_of_ble_eq_true rfl) (gm_rcv_v rfl e3 rfl) ?_
    refine ge_imp w (fun v3 h_3 w => ?_)
    obtain ⟨rfl, w⟩ := w
    show gV c d 124 (196, [some (.ref r0), some (.int x1), some (.int x2), some (.int x3), some (.int x4), some (.int x5), none, none], [], h_3) Post
    refine gw_pst hk 1 (st' := (197, [some (.ref r0), some (.int x1), some (.int x2), some (.int x3), some (.int x4), some (.int x5), none, none], [.int x2], h_3)) rfl ?_
    exact gw_ret (hk _ _ rfl) rfl w
  · replace w := w.2 z1
    refine gw_pst hk 2 (st' := (130, [some (.ref r0), some (.int x1), some (.int x2), some (.int x3), some (.int x4), some (.int x5), some (.int 0), none], [], h)) rfl ?_
    obtain ⟨n, w⟩ := w
    exact okl124_130 c d Post K121 hK121 n _ _ _ _ _ _ _ _ w
def wl124_121 (c : gx) (d : Nat) (Post : Option Value → gm_H → Prop) : Nat → Nat → Int32 → Int32 → Int32 → Int32 → Int32 → gm_H → Prop
  | 0 => fun _ _ _ _ _ _ _ => False
  | n + 1 => wb124_121 c d Post (wl124_121 c d Post n)
theorem okl124_121 (c : gx) (d : Nat) (Post : Option Value → gm_H → Prop) : ∀ (n : Nat) (r0 : Nat) (x1 : Int32) (x2 : Int32) (x3 : Int32) (x4 : Int32) (x5 : Int32) (h : gm_H), wl124_121 c d Post n r0 x1 x2 x3 x4 x5 h → gV c d 124 (121, [some (.ref r0), some (.int x1), some (.int x2), some (.int x3), some (.int x4), some (.int x5), none, none], [], h) Post
  | 0, _, _, _, _, _, _, _, w => w.elim
  | n + 1, r0, x1, x2, x3, x4, x5, h, w => okb124_121 c d Post (wl124_121 c d Post n) (okl124_121 c d Post n) r0 x1 x2 x3 x4 x5 h w
def wb124_38 (c : gx) (d : Nat) (Post : Option Value → gm_H → Prop) (K38 : Nat → Int32 → Int32 → gm_H → Prop) (r0 : Nat) (x1 : Int32) (x2 : Int32) (h : gm_H) : Prop :=
  ((x1 ≤ x2 → ∃ n, wl124_121 c d Post n r0 x1 (-1) 0 0 2 h) ∧ (¬ (x1 ≤ x2) → ∃ q_2 : Nat, gm_fld h r0 9 15 = some (.ref q_2) ∧ ∃ q_3 : Nat, gm_fld h r0 9 5 = some (.ref q_3) ∧ ∃ q_4 : Nat, gm_fld h r0 9 5 = some (.ref q_4) ∧ ∃ x_5 : Int32, gm_fld h q_4 6 1 = some (.int x_5) ∧ ∃ q_6 : Nat, gm_fld h r0 9 5 = some (.ref q_6) ∧ ∃ x_7 : Int32, gm_fld h q_6 6 0 = some (.int x_7) ∧ (∃ fs8, gm_get h r0 = some (.inr (9, fs8))) ∧ gE c d 150 [.ref r0, .ref q_3, .int x_5, .int 0, .int (x_7 + x2)] h (fun v8 h_8 => ∃ x_8 : Int32, v8 = some (.int x_8) ∧ ∃ (n9 : Nat) (f9 : Nat → Int32), gm_get h_8 q_2 = some (.inl (0, n9, .inl f9)) ∧ vp_in x2 n9 ∧ ∀ h_9 : gm_H, h_9 = gm_put h_8 q_2 (.inl (0, n9, .inl (upd f9 (x2 : Int32).toNatClampNeg (vp_nar .int x_8)))) → ∃ q_10 : Nat, gm_fld h_9 r0 9 16 = some (.ref q_10) ∧ ∃ q_11 : Nat, gm_fld h_9 r0 9 5 = some (.ref q_11) ∧ ∃ q_12 : Nat, gm_fld h_9 r0 9 5 = some (.ref q_12) ∧ ∃ x_13 : Int32, gm_fld h_9 q_12 6 1 = some (.int x_13) ∧ ∃ q_14 : Nat, gm_fld h_9 r0 9 5 = some (.ref q_14) ∧ ∃ x_15 : Int32, gm_fld h_9 q_14 6 0 = some (.int x_15) ∧ (∃ fs16, gm_get h_9 r0 = some (.inr (9, fs16))) ∧ gE c d 150 [.ref r0, .ref q_11, .int x_13, .int 1, .int (x_15 + x2)] h_9 (fun v16 h_16 => ∃ x_16 : Int32, v16 = some (.int x_16) ∧ ∃ (n17 : Nat) (f17 : Nat → Int32), gm_get h_16 q_10 = some (.inl (0, n17, .inl f17)) ∧ vp_in x2 n17 ∧ ∀ h_17 : gm_H, h_17 = gm_put h_16 q_10 (.inl (0, n17, .inl (upd f17 (x2 : Int32).toNatClampNeg (vp_nar .int x_16)))) → K38 r0 x1 (x2 + 1) h_17))))
theorem okb124_38 (c : gx) (d : Nat) (Post : Option Value → gm_H → Prop) (K38 : Nat → Int32 → Int32 → gm_H → Prop)  (hK38 : ∀ (r0 : Nat) (x1 : Int32) (x2 : Int32) (h : gm_H), K38 r0 x1 x2 h → gV c d 124 (38, [some (.ref r0), some (.int x1), some (.int x2), none, none, none, none, none], [], h) Post) (r0 : Nat) (x1 : Int32) (x2 : Int32) (h : gm_H) (w : wb124_38 c d Post K38 r0 x1 x2 h) : gV c d 124 (38, [some (.ref r0), some (.int x1), some (.int x2), none, none, none, none, none], [], h) Post := by
  have hk : ∀ pc i, gm_find gk_124 pc = some i → gm_code (gt_T c.1 c.2.1 c.2.2.1) 124 pc = some i := fun _ _ z => z
  unfold wb124_38 at w
  unfold gV
  refine gw_pst hk 2 (st' := (40, [some (.ref r0), some (.int x1), some (.int x2), none, none, none, none, none], [.int x1, .int x2], h)) rfl ?_
  refine gw_br (c := x1 ≤ x2) (a := (111, [some (.ref r0), some (.int x1), some (.int x2), none, none, none, none, none], [], h)) (b := (43, [some (.ref r0), some (.int x1), some (.int x2), none, none, none, none, none], [], h)) (hk _ _ rfl) rfl ⟨fun z1 => ?_, fun z1 => ?_⟩
  · replace w := w.1 z1
    refine gw_pst hk 8 (st' := (121, [some (.ref r0), some (.int x1), some (.int (-1)), some (.int 0), some (.int 0), some (.int 2), none, none], [], h)) rfl ?_
    obtain ⟨n, w⟩ := w
    exact okl124_121 c d Post n _ _ _ _ _ _ _ w
  · replace w := w.2 z1
    refine gw_pst hk 1 (st' := (44, [some (.ref r0), some (.int x1), some (.int x2), none, none, none, none, none], [.ref r0], h)) rfl ?_
    obtain ⟨q_2, e2, w⟩ := w
    refine gw_gf (hk _ _ rfl) e2 ?_
    refine gw_pst hk 3 (st' := (50, [some (.ref r0), some (.int x1), some (.int x2), none, none, none, none, none], [.ref r0, .ref r0, .int x2, .ref q_2], h)) rfl ?_
    obtain ⟨q_3, e3, w⟩ := w
    refine gw_gf (hk _ _ rfl) e3 ?_
    refine gw_pst hk 1 (st' := (54, [some (.ref r0), some (.int x1), some (.int x2), none, none, none, none, none], [.ref r0, .ref q_3, .ref r0, .int x2, .ref q_2], h)) rfl ?_
    obtain ⟨q_4, e4, w⟩ := w
    refine gw_gf (hk _ _ rfl) e4 ?_
    obtain ⟨x_5, e5, w⟩ := w
    refine gw_gf (hk _ _ rfl) e5 ?_
    refine gw_pst hk 2 (st' := (62, [some (.ref r0), some (.int x1), some (.int x2), none, none, none, none, none], [.ref r0, .int 0, .int x_5, .ref q_3, .ref r0, .int x2, .ref q_2], h)) rfl ?_
    obtain ⟨q_6, e6, w⟩ := w
    refine gw_gf (hk _ _ rfl) e6 ?_
    obtain ⟨x_7, e7, w⟩ := w
    refine gw_gf (hk _ _ rfl) e7 ?_
    refine gw_pst hk 2 (st' := (70, [some (.ref r0), some (.int x1), some (.int x2), none, none, none, none, none], [.int (x_7 + x2), .int 0, .int x_5, .ref q_3, .ref r0, .int x2, .ref q_2], h)) rfl ?_
    obtain ⟨⟨fs8, e8⟩, w⟩ := w
    refine gw_call (jj := 150) (As := [.ref r0, .ref q_3, .int x_5, .int 0, .int (x_7 + x2)]) (rest := [.int x2, .ref q_2]) (hk _ _ rfl) (fun _ => rfl) rfl rfl (Nat.le_of_ble_eq_true rfl) (gm_rcv_v rfl e8 rfl) ?_
    refine ge_imp w (fun v8 h_8 w => ?_)
    obtain ⟨x_8, rfl, w⟩ := w
    show gV c d 124 (73, [some (.ref r0), some (.int x1), some (.int x2), none, none, none, none, none], [.int x_8, .int x2, .ref q_2], h_8) Post
    obtain ⟨n9, f9, e9, b9, w⟩ := w
    refine gw_ast (hk _ _ rfl) (Or.inl ⟨rfl, rfl, rfl⟩) e9 b9 ?_
    obtain ⟨h_9, eh9⟩ : ∃ z, z = gm_put h_8 q_2 (.inl (0, n9, .inl (upd f9 (x2 : Int32).toNatClampNeg (vp_nar .int x_8)))) := ⟨_, rfl⟩
    rw [← eh9]
    replace w := w h_9 eh9
    refine gw_pst hk 1 (st' := (75, [some (.ref r0), some (.int x1), some (.int x2), none, none, none, none, none], [.ref r0], h_9)) rfl ?_
    obtain ⟨q_10, e10, w⟩ := w
    refine gw_gf (hk _ _ rfl) e10 ?_
    refine gw_pst hk 3 (st' := (81, [some (.ref r0), some (.int x1), some (.int x2), none, none, none, none, none], [.ref r0, .ref r0, .int x2, .ref q_10], h_9)) rfl ?_
    obtain ⟨q_11, e11, w⟩ := w
    refine gw_gf (hk _ _ rfl) e11 ?_
    refine gw_pst hk 1 (st' := (85, [some (.ref r0), some (.int x1), some (.int x2), none, none, none, none, none], [.ref r0, .ref q_11, .ref r0, .int x2, .ref q_10], h_9)) rfl ?_
    obtain ⟨q_12, e12, w⟩ := w
    refine gw_gf (hk _ _ rfl) e12 ?_
    obtain ⟨x_13, e13, w⟩ := w
    refine gw_gf (hk _ _ rfl) e13 ?_
    refine gw_pst hk 2 (st' := (93, [some (.ref r0), some (.int x1), some (.int x2), none, none, none, none, none], [.ref r0, .int 1, .int x_13, .ref q_11, .ref r0, .int x2, .ref q_10], h_9)) rfl ?_
    obtain ⟨q_14, e14, w⟩ := w
    refine gw_gf (hk _ _ rfl) e14 ?_
    obtain ⟨x_15, e15, w⟩ := w
    refine gw_gf (hk _ _ rfl) e15 ?_
    refine gw_pst hk 2 (st' := (101, [some (.ref r0), some (.int x1), some (.int x2), none, none, none, none, none], [.int (x_15 + x2), .int 1, .int x_13, .ref q_11, .ref r0, .int x2, .ref q_10], h_9)) rfl ?_
    obtain ⟨⟨fs16, e16⟩, w⟩ := w
    refine gw_call (jj := 150) (As := [.ref r0, .ref q_11, .int x_13, .int 1, .int (x_15 + x2)]) (rest := [.int x2, .ref q_10]) (hk _ _ rfl) (fun _ => rfl) rfl rfl (Nat.le_of_ble_eq_true rfl) (gm_rcv_v rfl e16 rfl) ?_
    refine ge_imp w (fun v16 h_16 w => ?_)
    obtain ⟨x_16, rfl, w⟩ := w
    show gV c d 124 (104, [some (.ref r0), some (.int x1), some (.int x2), none, none, none, none, none], [.int x_16, .int x2, .ref q_10], h_16) Post
    obtain ⟨n17, f17, e17, b17, w⟩ := w
    refine gw_ast (hk _ _ rfl) (Or.inl ⟨rfl, rfl, rfl⟩) e17 b17 ?_
    obtain ⟨h_17, eh17⟩ : ∃ z, z = gm_put h_16 q_10 (.inl (0, n17, .inl (upd f17 (x2 : Int32).toNatClampNeg (vp_nar .int x_16)))) := ⟨_, rfl⟩
    rw [← eh17]
    replace w := w h_17 eh17
    refine gw_pst hk 2 (st' := (38, [some (.ref r0), some (.int x1), some (.int (x2 + 1)), none, none, none, none, none], [], h_17)) rfl ?_
    exact hK38 _ _ _ _ w
def wl124_38 (c : gx) (d : Nat) (Post : Option Value → gm_H → Prop) : Nat → Nat → Int32 → Int32 → gm_H → Prop
  | 0 => fun _ _ _ _ => False
  | n + 1 => wb124_38 c d Post (wl124_38 c d Post n)
theorem okl124_38 (c : gx) (d : Nat) (Post : Option Value → gm_H → Prop) : ∀ (n : Nat) (r0 : Nat) (x1 : Int32) (x2 : Int32) (h : gm_H), wl124_38 c d Post n r0 x1 x2 h → gV c d 124 (38, [some (.ref r0), some (.int x1), some (.int x2), none, none, none, none, none], [], h) Post
  | 0, _, _, _, _, w => w.elim
  | n + 1, r0, x1, x2, h, w => okb124_38 c d Post (wl124_38 c d Post n) (okl124_38 c d Post n) r0 x1 x2 h w
/-- CommandByTurns.command(I)I -/
def wm124 (c : gx) (d : Nat) (Post : Option Value → gm_H → Prop) (r0 : Nat) (x1 : Int32) (h : gm_H) : Prop :=
  ((x1 < 1 → w124_11 c d Post h) ∧ (¬ (x1 < 1) → ((x1 ≤ 30 → ∃ q_3 : Nat, gm_fld h r0 9 5 = some (.ref q_3) ∧ ∃ x_4 : Int32, gm_fld h q_3 6 1 = some (.int x_4) ∧ ∃ q_5 : Nat, gm_fld h r0 9 5 = some (.ref q_5) ∧ ∃ x_6 : Int32, gm_fld h q_5 6 2 = some (.int x_6) ∧ gE c d 16 [.int x_4, .int x_6] h (fun v7 h_7 => ∃ x_7 : Int32, v7 = some (.int x_7) ∧ ((x_7 = 0 → Post (some (.int (-2))) h_7) ∧ (¬ (x_7 = 0) → ∃ n, wl124_38 c d Post n r0 x1 0 h_7)))) ∧ (¬ (x1 ≤ 30) → w124_11 c d Post h))))
theorem okm124 (c : gx) (d : Nat) (Post : Option Value → gm_H → Prop) (r0 : Nat) (x1 : Int32) (h : gm_H) (w : wm124 c d Post r0 x1 h) : gE c (d + 1) 124 [.ref r0, .int x1] h Post := by
  have hk : ∀ pc i, gm_find gk_124 pc = some i → gm_code (gt_T c.1 c.2.1 c.2.2.1) 124 pc = some i := fun _ _ z => z
  unfold wm124 at w
  refine ge_of (by decide) (Nat.le_of_ble_eq_true rfl) ?_
  show gV c d 124 (0, [some (.ref r0), some (.int x1), none, none, none, none, none, none], [], h) Post
  unfold gV
  refine gw_pst hk 2 (st' := (2, [some (.ref r0), some (.int x1), none, none, none, none, none, none], [.int 1, .int x1], h)) rfl ?_
  refine gw_br (c := x1 < 1) (a := (11, [some (.ref r0), some (.int x1), none, none, none, none, none, none], [], h)) (b := (5, [some (.ref r0), some (.int x1), none, none, none, none, none, none], [], h)) (hk _ _ rfl) rfl ⟨fun z1 => ?_, fun z1 => ?_⟩
  · replace w := w.1 z1
    refine gw_le (L' := [none, none, none, none, none, none, none, none]) (gm_le_n _ (gm_le_n _ (gm_le_k _ (gm_le_k _ (gm_le_k _ (gm_le_k _ (gm_le_k _ (gm_le_k _ gm_le_nil)))))))) ?_
    exact ok124_11 c d Post _ w
  · replace w := w.2 z1
    refine gw_pst hk 2 (st' := (8, [some (.ref r0), some (.int x1), none, none, none, none, none, none], [.int 30, .int x1], h)) rfl ?_
    refine gw_br (c := x1 ≤ 30) (a := (13, [some (.ref r0), some (.int x1), none, none, none, none, none, none], [], h)) (b := (11, [some (.ref r0), some (.int x1), none, none, none, none, none, none], [], h)) (hk _ _ rfl) rfl ⟨fun z2 => ?_, fun z2 => ?_⟩
    · replace w := w.1 z2
      refine gw_pst hk 1 (st' := (14, [some (.ref r0), some (.int x1), none, none, none, none, none, none], [.ref r0], h)) rfl ?_
      obtain ⟨q_3, e3, w⟩ := w
      refine gw_gf (hk _ _ rfl) e3 ?_
      obtain ⟨x_4, e4, w⟩ := w
      refine gw_gf (hk _ _ rfl) e4 ?_
      refine gw_pst hk 1 (st' := (21, [some (.ref r0), some (.int x1), none, none, none, none, none, none], [.ref r0, .int x_4], h)) rfl ?_
      obtain ⟨q_5, e5, w⟩ := w
      refine gw_gf (hk _ _ rfl) e5 ?_
      obtain ⟨x_6, e6, w⟩ := w
      refine gw_gf (hk _ _ rfl) e6 ?_
      refine gw_call (jj := 16) (As := [.int x_4, .int x_6]) (rest := []) (hk _ _ rfl) (fun _ => rfl) rfl rfl (Nat.le_of_ble_eq_true rfl) rfl ?_
      refine ge_imp w (fun v7 h_7 w => ?_)
      obtain ⟨x_7, rfl, w⟩ := w
      show gV c d 124 (30, [some (.ref r0), some (.int x1), none, none, none, none, none, none], [.int x_7], h_7) Post
      refine gw_br (c := x_7 = 0) (a := (33, [some (.ref r0), some (.int x1), none, none, none, none, none, none], [], h_7)) (b := (36, [some (.ref r0), some (.int x1), none, none, none, none, none, none], [], h_7)) (hk _ _ rfl) rfl ⟨fun z8 => ?_, fun z8 => ?_⟩
      · replace w := w.1 z8
        refine gw_pst hk 1 (st' := (35, [some (.ref r0), some (.int x1), none, none, none, none, none, none], [.int (-2)], h_7)) rfl ?_
        exact gw_ret (hk _ _ rfl) rfl w
      · replace w := w.2 z8
        refine gw_pst hk 2 (st' := (38, [some (.ref r0), some (.int x1), some (.int 0), none, none, none, none, none], [], h_7)) rfl ?_
        obtain ⟨n, w⟩ := w
        exact okl124_38 c d Post n _ _ _ _ w
    · replace w := w.2 z2
      refine gw_le (L' := [none, none, none, none, none, none, none, none]) (gm_le_n _ (gm_le_n _ (gm_le_k _ (gm_le_k _ (gm_le_k _ (gm_le_k _ (gm_le_k _ (gm_le_k _ gm_le_nil)))))))) ?_
      exact ok124_11 c d Post _ w
def w125_63 (c : gx) (d : Nat) (Post : Option Value → gm_H → Prop) (K9 : Nat → Int32 → Int32 → Int32 → Int32 → Int32 → Int32 → gm_H → Prop) (r0 : Nat) (x1 : Int32) (x2 : Int32) (x3 : Int32) (x4 : Int32) (x6 : Int32) (xs0 : Int32) (h : gm_H) : Prop :=
  K9 r0 x1 x2 x3 x4 xs0 (x6 + 1) h
theorem ok125_63 (c : gx) (d : Nat) (Post : Option Value → gm_H → Prop) (K9 : Nat → Int32 → Int32 → Int32 → Int32 → Int32 → Int32 → gm_H → Prop)  (hK9 : ∀ (r0 : Nat) (x1 : Int32) (x2 : Int32) (x3 : Int32) (x4 : Int32) (x5 : Int32) (x6 : Int32) (h : gm_H), K9 r0 x1 x2 x3 x4 x5 x6 h → gV c d 125 (9, [some (.ref r0), some (.int x1), some (.int x2), some (.int x3), some (.int x4), some (.int x5), some (.int x6)], [], h) Post) (r0 : Nat) (x1 : Int32) (x2 : Int32) (x3 : Int32) (x4 : Int32) (x6 : Int32) (xs0 : Int32) (h : gm_H) (w : w125_63 c d Post K9 r0 x1 x2 x3 x4 x6 xs0 h) : gV c d 125 (63, [some (.ref r0), some (.int x1), some (.int x2), some (.int x3), some (.int x4), none, some (.int x6)], [.int xs0], h) Post := by
  have hk : ∀ pc i, gm_find gk_125 pc = some i → gm_code (gt_T c.1 c.2.1 c.2.2.1) 125 pc = some i := fun _ _ z => z
  unfold w125_63 at w
  unfold gV
  refine gw_pst hk 3 (st' := (9, [some (.ref r0), some (.int x1), some (.int x2), some (.int x3), some (.int x4), some (.int xs0), some (.int (x6 + 1))], [], h)) rfl ?_
  exact hK9 _ _ _ _ _ _ _ _ w
def w125_44 (c : gx) (d : Nat) (Post : Option Value → gm_H → Prop) (K9 : Nat → Int32 → Int32 → Int32 → Int32 → Int32 → Int32 → gm_H → Prop) (r0 : Nat) (x1 : Int32) (x2 : Int32) (x3 : Int32) (x5 : Int32) (x6 : Int32) (xs0 : Int32) (xs1 : Int32) (h : gm_H) : Prop :=
  (((x5 + 1) = x2 → w125_63 c d Post K9 r0 x1 x2 x3 (xs0 + xs1) x6 0 h) ∧ (¬ ((x5 + 1) = x2) → w125_63 c d Post K9 r0 x1 x2 x3 (xs0 + xs1) x6 (x5 + 1) h))
theorem ok125_44 (c : gx) (d : Nat) (Post : Option Value → gm_H → Prop) (K9 : Nat → Int32 → Int32 → Int32 → Int32 → Int32 → Int32 → gm_H → Prop)  (hK9 : ∀ (r0 : Nat) (x1 : Int32) (x2 : Int32) (x3 : Int32) (x4 : Int32) (x5 : Int32) (x6 : Int32) (h : gm_H), K9 r0 x1 x2 x3 x4 x5 x6 h → gV c d 125 (9, [some (.ref r0), some (.int x1), some (.int x2), some (.int x3), some (.int x4), some (.int x5), some (.int x6)], [], h) Post) (r0 : Nat) (x1 : Int32) (x2 : Int32) (x3 : Int32) (x5 : Int32) (x6 : Int32) (xs0 : Int32) (xs1 : Int32) (h : gm_H) (w : w125_44 c d Post K9 r0 x1 x2 x3 x5 x6 xs0 xs1 h) : gV c d 125 (44, [some (.ref r0), some (.int x1), some (.int x2), some (.int x3), none, some (.int x5), some (.int x6)], [.int xs1, .int xs0], h) Post := by
  have hk : ∀ pc i, gm_find gk_125 pc = some i → gm_code (gt_T c.1 c.2.1 c.2.2.1) 125 pc = some i := fun _ _ z => z
  unfold w125_44 at w
  unfold gV
  refine gw_pst hk 6 (st' := (52, [some (.ref r0), some (.int x1), some (.int x2), some (.int x3), some (.int (xs0 + xs1)), some (.int x5), some (.int x6)], [.int x2, .int (x5 + 1)], h)) rfl ?_
  refine gw_br (c := (x5 + 1) = x2) (a := (55, [some (.ref r0), some (.int x1), some (.int x2), some (.int x3), some (.int (xs0 + xs1)), some (.int x5), some (.int x6)], [], h)) (b := (59, [some (.ref r0), some (.int x1), some (.int x2), some (.int x3), some (.int (xs0 + xs1)), some (.int x5), some (.int x6)], [], h)) (hk _ _ rfl) rfl ⟨fun z1 => ?_, fun z1 => ?_⟩
  · replace w := w.1 z1
    refine gw_pst hk 2 (st' := (63, [some (.ref r0), some (.int x1), some (.int x2), some (.int x3), some (.int (xs0 + xs1)), some (.int x5), some (.int x6)], [.int 0], h)) rfl ?_
    refine gw_le (L' := [some (.ref r0), some (.int x1), some (.int x2), some (.int x3), some (.int (xs0 + xs1)), none, some (.int x6)]) (gm_le_k _ (gm_le_k _ (gm_le_k _ (gm_le_k _ (gm_le_k _ (gm_le_n _ (gm_le_k _ gm_le_nil))))))) ?_
    exact ok125_63 c d Post K9 hK9 _ _ _ _ _ _ _ _ w
  · replace w := w.2 z1
    refine gw_pst hk 3 (st' := (63, [some (.ref r0), some (.int x1), some (.int x2), some (.int x3), some (.int (xs0 + xs1)), some (.int x5), some (.int x6)], [.int (x5 + 1)], h)) rfl ?_
    refine gw_le (L' := [some (.ref r0), some (.int x1), some (.int x2), some (.int x3), some (.int (xs0 + xs1)), none, some (.int x6)]) (gm_le_k _ (gm_le_k _ (gm_le_k _ (gm_le_k _ (gm_le_k _ (gm_le_n _ (gm_le_k _ gm_le_nil))))))) ?_
    exact ok125_63 c d Post K9 hK9 _ _ _ _ _ _ _ _ w
def wb125_9 (c : gx) (d : Nat) (Post : Option Value → gm_H → Prop) (K9 : Nat → Int32 → Int32 → Int32 → Int32 → Int32 → Int32 → gm_H → Prop) (r0 : Nat) (x1 : Int32) (x2 : Int32) (x3 : Int32) (x4 : Int32) (x5 : Int32) (x6 : Int32) (h : gm_H) : Prop :=
  ((x1 ≤ x6 → Post (some (.int x4)) h) ∧ (¬ (x1 ≤ x6) → ((((x3 >>> (x5 &&& 31)) &&& 1) = 1 → ∃ q_3 : Nat, gm_fld h r0 9 16 = some (.ref q_3) ∧ ∃ (n4 : Nat) (f4 : Nat → Int32), gm_get h q_3 = some (.inl (0, n4, .inl f4)) ∧ vp_in x6 n4 ∧ w125_44 c d Post K9 r0 x1 x2 x3 x5 x6 x4 (f4 (x6 : Int32).toNatClampNeg) h) ∧ (¬ (((x3 >>> (x5 &&& 31)) &&& 1) = 1) → ∃ q_5 : Nat, gm_fld h r0 9 15 = some (.ref q_5) ∧ ∃ (n6 : Nat) (f6 : Nat → Int32), gm_get h q_5 = some (.inl (0, n6, .inl f6)) ∧ vp_in x6 n6 ∧ w125_44 c d Post K9 r0 x1 x2 x3 x5 x6 x4 (f6 (x6 : Int32).toNatClampNeg) h))))
theorem okb125_9 (c : gx) (d : Nat) (Post : Option Value → gm_H → Prop) (K9 : Nat → Int32 → Int32 → Int32 → Int32 → Int32 → Int32 → gm_H → Prop)  (hK9 : ∀ (r0 : Nat) (x1 : Int32) (x2 : Int32) (x3 : Int32) (x4 : Int32) (x5 : Int32) (x6 : Int32) (h : gm_H), K9 r0 x1 x2 x3 x4 x5 x6 h → gV c d 125 (9, [some (.ref r0), some (.int x1), some (.int x2), some (.int x3), some (.int x4), some (.int x5), some (.int x6)], [], h) Post) (r0 : Nat) (x1 : Int32) (x2 : Int32) (x3 : Int32) (x4 : Int32) (x5 : Int32) (x6 : Int32) (h : gm_H) (w : wb125_9 c d Post K9 r0 x1 x2 x3 x4 x5 x6 h) : gV c d 125 (9, [some (.ref r0), some (.int x1), some (.int x2), some (.int x3), some (.int x4), some (.int x5), some (.int x6)], [], h) Post := by
  have hk : ∀ pc i, gm_find gk_125 pc = some i → gm_code (gt_T c.1 c.2.1 c.2.2.1) 125 pc = some i := fun _ _ z => z
  unfold wb125_9 at w
  unfold gV
  refine gw_pst hk 2 (st' := (12, [some (.ref r0), some (.int x1), some (.int x2), some (.int x3), some (.int x4), some (.int x5), some (.int x6)], [.int x1, .int x6], h)) rfl ?_
  refine gw_br (c := x1 ≤ x6) (a := (71, [some (.ref r0), some (.int x1), some (.int x2), some (.int x3), some (.int x4), some (.int x5), some (.int x6)], [], h)) (b := (15, [some (.ref r0), some (.int x1), some (.int x2), some (.int x3), some (.int x4), some (.int x5), some (.int x6)], [], h)) (hk _ _ rfl) rfl ⟨fun z1 => ?_, fun z1 => ?_⟩
  · replace w := w.1 z1
    refine gw_pst hk 1 (st' := (73, [some (.ref r0), some (.int x1), some (.int x2), some (.int x3), some (.int x4), some (.int x5), some (.int x6)], [.int x4], h)) rfl ?_
    exact gw_ret (hk _ _ rfl) rfl w
  · replace w := w.2 z1
    refine gw_pst hk 7 (st' := (24, [some (.ref r0), some (.int x1), some (.int x2), some (.int x3), some (.int x4), some (.int x5), some (.int x6)], [.int 1, .int ((x3 >>> (x5 &&& 31)) &&& 1), .int x4], h)) rfl ?_
    refine gw_br (c := ((x3 >>> (x5 &&& 31)) &&& 1) = 1) (a := (27, [some (.ref r0), some (.int x1), some (.int x2), some (.int x3), some (.int x4), some (.int x5), some (.int x6)], [.int x4], h)) (b := (37, [some (.ref r0), some (.int x1), some (.int x2), some (.int x3), some (.int x4), some (.int x5), some (.int x6)], [.int x4], h)) (hk _ _ rfl) rfl ⟨fun z2 => ?_, fun z2 => ?_⟩
    · replace w := w.1 z2
      refine gw_pst hk 1 (st' := (28, [some (.ref r0), some (.int x1), some (.int x2), some (.int x3), some (.int x4), some (.int x5), some (.int x6)], [.ref r0, .int x4], h)) rfl ?_
      obtain ⟨q_3, e3, w⟩ := w
      refine gw_gf (hk _ _ rfl) e3 ?_
      refine gw_pst hk 1 (st' := (33, [some (.ref r0), some (.int x1), some (.int x2), some (.int x3), some (.int x4), some (.int x5), some (.int x6)], [.int x6, .ref q_3, .int x4], h)) rfl ?_
      obtain ⟨n4, f4, e4, b4, w⟩ := w
      refine gw_ald (hk _ _ rfl) (Or.inl ⟨rfl, rfl⟩) e4 b4 ?_
      refine gw_pst hk 1 (st' := (44, [some (.ref r0), some (.int x1), some (.int x2), some (.int x3), some (.int x4), some (.int x5), some (.int x6)], [.int (f4 (x6 : Int32).toNatClampNeg), .int x4], h)) rfl ?_
      refine gw_le (L' := [some (.ref r0), some (.int x1), some (.int x2), some (.int x3), none, some (.int x5), some (.int x6)]) (gm_le_k _ (gm_le_k _ (gm_le_k _ (gm_le_k _ (gm_le_n _ (gm_le_k _ (gm_le_k _ gm_le_nil))))))) ?_
      exact ok125_44 c d Post K9 hK9 _ _ _ _ _ _ _ _ _ w
    · replace w := w.2 z2
      refine gw_pst hk 1 (st' := (38, [some (.ref r0), some (.int x1), some (.int x2), some (.int x3), some (.int x4), some (.int x5), some (.int x6)], [.ref r0, .int x4], h)) rfl ?_
      obtain ⟨q_5, e5, w⟩ := w
      refine gw_gf (hk _ _ rfl) e5 ?_
      refine gw_pst hk 1 (st' := (43, [some (.ref r0), some (.int x1), some (.int x2), some (.int x3), some (.int x4), some (.int x5), some (.int x6)], [.int x6, .ref q_5, .int x4], h)) rfl ?_
      obtain ⟨n6, f6, e6, b6, w⟩ := w
      refine gw_ald (hk _ _ rfl) (Or.inl ⟨rfl, rfl⟩) e6 b6 ?_
      refine gw_le (L' := [some (.ref r0), some (.int x1), some (.int x2), some (.int x3), none, some (.int x5), some (.int x6)]) (gm_le_k _ (gm_le_k _ (gm_le_k _ (gm_le_k _ (gm_le_n _ (gm_le_k _ (gm_le_k _ gm_le_nil))))))) ?_
      exact ok125_44 c d Post K9 hK9 _ _ _ _ _ _ _ _ _ w
def wl125_9 (c : gx) (d : Nat) (Post : Option Value → gm_H → Prop) : Nat → Nat → Int32 → Int32 → Int32 → Int32 → Int32 → Int32 → gm_H → Prop
  | 0 => fun _ _ _ _ _ _ _ _ => False
  | n + 1 => wb125_9 c d Post (wl125_9 c d Post n)
theorem okl125_9 (c : gx) (d : Nat) (Post : Option Value → gm_H → Prop) : ∀ (n : Nat) (r0 : Nat) (x1 : Int32) (x2 : Int32) (x3 : Int32) (x4 : Int32) (x5 : Int32) (x6 : Int32) (h : gm_H), wl125_9 c d Post n r0 x1 x2 x3 x4 x5 x6 h → gV c d 125 (9, [some (.ref r0), some (.int x1), some (.int x2), some (.int x3), some (.int x4), some (.int x5), some (.int x6)], [], h) Post
  | 0, _, _, _, _, _, _, _, _, w => w.elim
  | n + 1, r0, x1, x2, x3, x4, x5, x6, h, w => okb125_9 c d Post (wl125_9 c d Post n) (okl125_9 c d Post n) r0 x1 x2 x3 x4 x5 x6 h w
/-- CommandByTurns.sumByTurns(III)I -/
def wm125 (c : gx) (d : Nat) (Post : Option Value → gm_H → Prop) (r0 : Nat) (x1 : Int32) (x2 : Int32) (x3 : Int32) (h : gm_H) : Prop :=
  ∃ n, wl125_9 c d Post n r0 x1 x2 x3 0 0 0 h
theorem okm125 (c : gx) (d : Nat) (Post : Option Value → gm_H → Prop) (r0 : Nat) (x1 : Int32) (x2 : Int32) (x3 : Int32) (h : gm_H) (w : wm125 c d Post r0 x1 x2 x3 h) : gE c (d + 1) 125 [.ref r0, .int x1, .int x2, .int x3] h Post := by
  have hk : ∀ pc i, gm_find gk_125 pc = some i → gm_code (gt_T c.1 c.2.1 c.2.2.1) 125 pc = some i := fun _ _ z => z
  unfold wm125 at w
  refine ge_of (by decide) (Nat.le_of_ble_eq_true rfl) ?_
  show gV c d 125 (0, [some (.ref r0), some (.int x1), some (.int x2), some (.int x3), none, none, none], [], h) Post
  unfold gV
  refine gw_pst hk 6 (st' := (9, [some (.ref r0), some (.int x1), some (.int x2), some (.int x3), some (.int 0), some (.int 0), some (.int 0)], [], h)) rfl ?_
  obtain ⟨n, w⟩ := w
  exact okl125_9 c d Post n _ _ _ _ _ _ _ _ w
def w126_157 (c : gx) (d : Nat) (Post : Option Value → gm_H → Prop) (K40 : Nat → Int32 → Int32 → Int32 → Int32 → Int32 → Int32 → gm_H → Prop) (r0 : Nat) (x1 : Int32) (x2 : Int32) (x3 : Int32) (x4 : Int32) (x5 : Int32) (x6 : Int32) (h : gm_H) : Prop :=
  K40 r0 x1 x2 x3 x4 x5 (x6 + 1) h
theorem ok126_157 (c : gx) (d : Nat) (Post : Option Value → gm_H → Prop) (K40 : Nat → Int32 → Int32 → Int32 → Int32 → Int32 → Int32 → gm_H → Prop)  (hK40 : ∀ (r0 : Nat) (x1 : Int32) (x2 : Int32) (x3 : Int32) (x4 : Int32) (x5 : Int32) (x6 : Int32) (h : gm_H), K40 r0 x1 x2 x3 x4 x5 x6 h → gV c d 126 (40, [some (.ref r0), some (.int x1), some (.int x2), some (.int x3), some (.int x4), some (.int x5), some (.int x6), none, none], [], h) Post) (r0 : Nat) (x1 : Int32) (x2 : Int32) (x3 : Int32) (x4 : Int32) (x5 : Int32) (x6 : Int32) (h : gm_H) (w : w126_157 c d Post K40 r0 x1 x2 x3 x4 x5 x6 h) : gV c d 126 (157, [some (.ref r0), some (.int x1), some (.int x2), some (.int x3), some (.int x4), some (.int x5), some (.int x6), none, none], [], h) Post := by
  have hk : ∀ pc i, gm_find gk_126 pc = some i → gm_code (gt_T c.1 c.2.1 c.2.2.1) 126 pc = some i := fun _ _ z => z
  unfold w126_157 at w
  unfold gV
  refine gw_pst hk 2 (st' := (40, [some (.ref r0), some (.int x1), some (.int x2), some (.int x3), some (.int x4), some (.int x5), some (.int (x6 + 1)), none, none], [], h)) rfl ?_
  exact hK40 _ _ _ _ _ _ _ _ w
def w126_145 (c : gx) (d : Nat) (Post : Option Value → gm_H → Prop) (K40 : Nat → Int32 → Int32 → Int32 → Int32 → Int32 → Int32 → gm_H → Prop) (r0 : Nat) (x4 : Int32) (x5 : Int32) (x6 : Int32) (x7 : Int32) (x8 : Int32) (h : gm_H) : Prop :=
  w126_157 c d Post K40 r0 x6 (x7 + x8) x7 x4 x5 x6 h
theorem ok126_145 (c : gx) (d : Nat) (Post : Option Value → gm_H → Prop) (K40 : Nat → Int32 → Int32 → Int32 → Int32 → Int32 → Int32 → gm_H → Prop)  (hK40 : ∀ (r0 : Nat) (x1 : Int32) (x2 : Int32) (x3 : Int32) (x4 : Int32) (x5 : Int32) (x6 : Int32) (h : gm_H), K40 r0 x1 x2 x3 x4 x5 x6 h → gV c d 126 (40, [some (.ref r0), some (.int x1), some (.int x2), some (.int x3), some (.int x4), some (.int x5), some (.int x6), none, none], [], h) Post) (r0 : Nat) (x4 : Int32) (x5 : Int32) (x6 : Int32) (x7 : Int32) (x8 : Int32) (h : gm_H) (w : w126_145 c d Post K40 r0 x4 x5 x6 x7 x8 h) : gV c d 126 (145, [some (.ref r0), none, none, none, some (.int x4), some (.int x5), some (.int x6), some (.int x7), some (.int x8)], [], h) Post := by
  have hk : ∀ pc i, gm_find gk_126 pc = some i → gm_code (gt_T c.1 c.2.1 c.2.2.1) 126 pc = some i := fun _ _ z => z
  unfold w126_145 at w
  unfold gV
  refine gw_pst hk 8 (st' := (157, [some (.ref r0), some (.int x6), some (.int (x7 + x8)), some (.int x7), some (.int x4), some (.int x5), some (.int x6), some (.int x7), some (.int x8)], [], h)) rfl ?_
  refine gw_le (L' := [some (.ref r0), some (.int x6), some (.int (x7 + x8)), some (.int x7), some (.int x4), some (.int x5), some (.int x6), none, none]) (gm_le_k _ (gm_le_k _ (gm_le_k _ (gm_le_k _ (gm_le_k _ (gm_le_k _ (gm_le_k _ (gm_le_n _ (gm_le_n _ gm_le_nil))))))))) ?_
  exact ok126_157 c d Post K40 hK40 _ _ _ _ _ _ _ _ w
def wb126_40 (c : gx) (d : Nat) (Post : Option Value → gm_H → Prop) (K40 : Nat → Int32 → Int32 → Int32 → Int32 → Int32 → Int32 → gm_H → Prop) (r0 : Nat) (x1 : Int32) (x2 : Int32) (x3 : Int32) (x4 : Int32) (x5 : Int32) (x6 : Int32) (h : gm_H) : Prop :=
  ∃ q_1 : Nat, gm_fld h r0 9 5 = some (.ref q_1) ∧ ∃ x_2 : Int32, gm_fld h q_1 6 3 = some (.int x_2) ∧ (((x_2 / 100) < x6 → ∃ q_4 : Nat, gm_fld h r0 9 11 = some (.ref q_4) ∧ (∃ fs5, gm_get h q_4 = some (.inr (5, fs5))) ∧ gE c d 46 [.ref q_4, .long ((x2 : Int32).toInt64), .long ((x3 : Int32).toInt64)] h (fun v5 h_5 => v5 = none ∧ Post (some (.int x1)) h_5)) ∧ (¬ ((x_2 / 100) < x6) → ∃ q_6 : Nat, gm_fld h r0 9 3 = some (.ref q_6) ∧ ∃ q_7 : Nat, gm_fld h r0 9 5 = some (.ref q_7) ∧ ∃ x_8 : Int32, gm_fld h q_7 6 5 = some (.int x_8) ∧ ∃ q_9 : Nat, gm_fld h r0 9 5 = some (.ref q_9) ∧ ∃ x_10 : Int32, gm_fld h q_9 6 0 = some (.int x_10) ∧ (∃ fs11, gm_get h r0 = some (.inr (9, fs11))) ∧ gE c d 151 [.ref r0, .ref q_6, .int x4, .int (100 * x6), .int x5, .int x_8, .int x_10, .int 0] h (fun v11 h_11 => ∃ x_11 : Int32, v11 = some (.int x_11) ∧ ∃ q_12 : Nat, gm_fld h_11 r0 9 4 = some (.ref q_12) ∧ ∃ q_13 : Nat, gm_fld h_11 r0 9 5 = some (.ref q_13) ∧ ∃ x_14 : Int32, gm_fld h_11 q_13 6 3 = some (.int x_14) ∧ ∃ q_15 : Nat, gm_fld h_11 r0 9 5 = some (.ref q_15) ∧ ∃ x_16 : Int32, gm_fld h_11 q_15 6 5 = some (.int x_16) ∧ ∃ q_17 : Nat, gm_fld h_11 r0 9 5 = some (.ref q_17) ∧ ∃ x_18 : Int32, gm_fld h_11 q_17 6 0 = some (.int x_18) ∧ (∃ fs19, gm_get h_11 r0 = some (.inr (9, fs19))) ∧ gE c d 151 [.ref r0, .ref q_12, .int x4, .int (x_14 - (100 * x6)), .int x5, .int x_16, .int x_18, .int 0] h_11 (fun v19 h_19 => ∃ x_19 : Int32, v19 = some (.int x_19) ∧ ((x1 = (-1) → w126_145 c d Post K40 r0 x4 x5 x6 x_11 x_19 h_19) ∧ (¬ (x1 = (-1)) → (((x_11 + x_19) ≤ x2 → w126_157 c d Post K40 r0 x1 x2 x3 x4 x5 x6 h_19) ∧ (¬ ((x_11 + x_19) ≤ x2) → w126_145 c d Post K40 r0 x4 x5 x6 x_11 x_19 h_19))))))))
theorem okb126_40 (c : gx) (d : Nat) (Post : Option Value → gm_H → Prop) (K40 : Nat → Int32 → Int32 → Int32 → Int32 → Int32 → Int32 → gm_H → Prop)  (hK40 : ∀ (r0 : Nat) (x1 : Int32) (x2 : Int32) (x3 : Int32) (x4 : Int32) (x5 : Int32) (x6 : Int32) (h : gm_H), K40 r0 x1 x2 x3 x4 x5 x6 h → gV c d 126 (40, [some (.ref r0), some (.int x1), some (.int x2), some (.int x3), some (.int x4), some (.int x5), some (.int x6), none, none], [], h) Post) (r0 : Nat) (x1 : Int32) (x2 : Int32) (x3 : Int32) (x4 : Int32) (x5 : Int32) (x6 : Int32) (h : gm_H) (w : wb126_40 c d Post K40 r0 x1 x2 x3 x4 x5 x6 h) : gV c d 126 (40, [some (.ref r0), some (.int x1), some (.int x2), some (.int x3), some (.int x4), some (.int x5), some (.int x6), none, none], [], h) Post := by
  have hk : ∀ pc i, gm_find gk_126 pc = some i → gm_code (gt_T c.1 c.2.1 c.2.2.1) 126 pc = some i := fun _ _ z => z
  unfold wb126_40 at w
  unfold gV
  refine gw_pst hk 2 (st' := (43, [some (.ref r0), some (.int x1), some (.int x2), some (.int x3), some (.int x4), some (.int x5), some (.int x6), none, none], [.ref r0, .int x6], h)) rfl ?_
  obtain ⟨q_1, e1, w⟩ := w
  refine gw_gf (hk _ _ rfl) e1 ?_
  obtain ⟨x_2, e2, w⟩ := w
  refine gw_gf (hk _ _ rfl) e2 ?_
  refine gw_pst hk 1 (st' := (51, [some (.ref r0), some (.int x1), some (.int x2), some (.int x3), some (.int x4), some (.int x5), some (.int x6), none, none], [.int 100, .int x_2, .int x6], h)) rfl ?_
  refine gw_idiv (hk _ _ rfl) (by decide) ?_ rfl
  refine gw_br (c := (x_2 / 100) < x6) (a := (163, [some (.ref r0), some (.int x1), some (.int x2), some (.int x3), some (.int x4), some (.int x5), some (.int x6), none, none], [], h)) (b := (55, [some (.ref r0), some (.int x1), some (.int x2), some (.int x3), some (.int x4), some (.int x5), some (.int x6), none, none], [], h)) (hk _ _ rfl) rfl ⟨fun z3 => ?_, fun z3 => ?_⟩
  · replace w := w.1 z3
    refine gw_pst hk 1 (st' := (164, [some (.ref r0), some (.int x1), some (.int x2), some (.int x3), some (.int x4), some (.int x5), some (.int x6), none, none], [.ref r0], h)) rfl ?_
    obtain ⟨q_4, e4, w⟩ := w
    refine gw_gf (hk _ _ rfl) e4 ?_
    refine gw_pst hk 4 (st' := (171, [some (.ref r0), some (.int x1), some (.int x2), some (.int x3), some (.int x4), some (.int x5), some (.int x6), none, none], [.long ((x3 : Int32).toInt64), .long ((x2 : Int32).toInt64), .ref q_4], h)) rfl ?_
    obtain ⟨⟨fs5, e5⟩, w⟩ := w
    refine gw_call (jj := 46) (As := [.ref q_4, .long ((x2 : Int32).toInt64), .long ((x3 : Int32).toInt64)]) (rest := []) (hk _ _ rfl) (fun _ => rfl) rfl rfl (Nat.le_of_ble_eq_true rfl) (gm_rcv_v rfl e5 rfl) ?_
    refine ge_imp w (fun v5 h_5 w => ?_)
    obtain ⟨rfl, w⟩ := w
    show gV c d 126 (174, [some (.ref r0), some (.int x1), some (.int x2), some (.int x3), some (.int x4), some (.int x5), some (.int x6), none, none], [], h_5) Post
    refine gw_pst hk 1 (st' := (175, [some (.ref r0), some (.int x1), some (.int x2), some (.int x3), some (.int x4), some (.int x5), some (.int x6), none, none], [.int x1], h_5)) rfl ?_
    exact gw_ret (hk _ _ rfl) rfl w
  · replace w := w.2 z3
    refine gw_pst hk 2 (st' := (57, [some (.ref r0), some (.int x1), some (.int x2), some (.int x3), some (.int x4), some (.int x5), some (.int x6), none, none], [.ref r0, .ref r0], h)) rfl ?_
    obtain ⟨q_6, e6, w⟩ := w
    refine gw_gf (hk _ _ rfl) e6 ?_
    refine gw_pst hk 6 (st' := (70, [some (.ref r0), some (.int x1), some (.int x2), some (.int x3), some (.int x4), some (.int x5), some (.int x6), none, none], [.ref r0, .int x5, .int (100 * x6), .int x4, .ref q_6, .ref r0], h)) rfl ?_
    obtain ⟨q_7, e7, w⟩ := w
    refine gw_gf (hk _ _ rfl) e7 ?_
    obtain ⟨x_8, e8, w⟩ := w
    refine gw_gf (hk _ _ rfl) e8 ?_
    refine gw_pst hk 1 (st' := (77, [some (.ref r0), some (.int x1), some (.int x2), some (.int x3), some (.int x4), some (.int x5), some (.int x6), none, none], [.ref r0, .int x_8, .int x5, .int (100 * x6), .int x4, .ref q_6, .ref r0], h)) rfl ?_
    obtain ⟨q_9, e9, w⟩ := w
    refine gw_gf (hk _ _ rfl) e9 ?_
    obtain ⟨x_10, e10, w⟩ := w
    refine gw_gf (hk _ _ rfl) e10 ?_
    refine gw_pst hk 1 (st' := (84, [some (.ref r0), some (.int x1), some (.int x2), some (.int x3), some (.int x4), some (.int x5), some (.int x6), none, none], [.int 0, .int x_10, .int x_8, .int x5, .int (100 * x6), .int x4, .ref q_6, .ref r0], h)) rfl ?_
    obtain ⟨⟨fs11, e11⟩, w⟩ := w
    refine gw_call (jj := 151) (As := [.ref r0, .ref q_6, .int x4, .int (100 * x6), .int x5, .int x_8, .int x_10, .int 0]) (rest := []) (hk _ _ rfl) (fun _ => rfl) rfl rfl (Nat.le_of_ble_eq_true rfl) (gm_rcv_v rfl e11 rfl) ?_
    refine ge_imp w (fun v11 h_11 w => ?_)
    obtain ⟨x_11, rfl, w⟩ := w
    show gV c d 126 (87, [some (.ref r0), some (.int x1), some (.int x2), some (.int x3), some (.int x4), some (.int x5), some (.int x6), none, none], [.int x_11], h_11) Post
    refine gw_pst hk 3 (st' := (91, [some (.ref r0), some (.int x1), some (.int x2), some (.int x3), some (.int x4), some (.int x5), some (.int x6), some (.int x_11), none], [.ref r0, .ref r0], h_11)) rfl ?_
    obtain ⟨q_12, e12, w⟩ := w
    refine gw_gf (hk _ _ rfl) e12 ?_
    refine gw_pst hk 2 (st' := (97, [some (.ref r0), some (.int x1), some (.int x2), some (.int x3), some (.int x4), some (.int x5), some (.int x6), some (.int x_11), none], [.ref r0, .int x4, .ref q_12, .ref r0], h_11)) rfl ?_
    obtain ⟨q_13, e13, w⟩ := w
    refine gw_gf (hk _ _ rfl) e13 ?_
    obtain ⟨x_14, e14, w⟩ := w
    refine gw_gf (hk _ _ rfl) e14 ?_
    refine gw_pst hk 6 (st' := (112, [some (.ref r0), some (.int x1), some (.int x2), some (.int x3), some (.int x4), some (.int x5), some (.int x6), some (.int x_11), none], [.ref r0, .int x5, .int (x_14 - (100 * x6)), .int x4, .ref q_12, .ref r0], h_11)) rfl ?_
    obtain ⟨q_15, e15, w⟩ := w
    refine gw_gf (hk _ _ rfl) e15 ?_
    obtain ⟨x_16, e16, w⟩ := w
    refine gw_gf (hk _ _ rfl) e16 ?_
    refine gw_pst hk 1 (st' := (119, [some (.ref r0), some (.int x1), some (.int x2), some (.int x3), some (.int x4), some (.int x5), some (.int x6), some (.int x_11), none], [.ref r0, .int x_16, .int x5, .int (x_14 - (100 * x6)), .int x4, .ref q_12, .ref r0], h_11)) rfl ?_
    obtain ⟨q_17, e17, w⟩ := w
    refine gw_gf (hk _ _ rfl) e17 ?_
    obtain ⟨x_18, e18, w⟩ := w
    refine gw_gf (hk _ _ rfl) e18 ?_
    refine gw_pst hk 1 (st' := (126, [some (.ref r0), some (.int x1), some (.int x2), some (.int x3), some (.int x4), some (.int x5), some (.int x6), some (.int x_11), none], [.int 0, .int x_18, .int x_16, .int x5, .int (x_14 - (100 * x6)), .int x4, .ref q_12, .ref r0], h_11)) rfl ?_
    obtain ⟨⟨fs19, e19⟩, w⟩ := w
    refine gw_call (jj := 151) (As := [.ref r0, .ref q_12, .int x4, .int (x_14 - (100 * x6)), .int x5, .int x_16, .int x_18, .int 0]) (rest := []) (hk _ _ rfl) (fun _ => rfl) rfl rfl (Nat.le_of_ble_eq_true rfl) (gm_rcv_v rfl e19 rfl) ?_
    refine ge_imp w (fun v19 h_19 w => ?_)
    obtain ⟨x_19, rfl, w⟩ := w
    show gV c d 126 (129, [some (.ref r0), some (.int x1), some (.int x2), some (.int x3), some (.int x4), some (.int x5), some (.int x6), some (.int x_11), none], [.int x_19], h_19) Post
    refine gw_pst hk 3 (st' := (133, [some (.ref r0), some (.int x1), some (.int x2), some (.int x3), some (.int x4), some (.int x5), some (.int x6), some (.int x_11), some (.int x_19)], [.int (-1), .int x1], h_19)) rfl ?_
    refine gw_br (c := x1 = (-1)) (a := (145, [some (.ref r0), some (.int x1), some (.int x2), some (.int x3), some (.int x4), some (.int x5), some (.int x6), some (.int x_11), some (.int x_19)], [], h_19)) (b := (136, [some (.ref r0), some (.int x1), some (.int x2), some (.int x3), some (.int x4), some (.int x5), some (.int x6), some (.int x_11), some (.int x_19)], [], h_19)) (hk _ _ rfl) rfl ⟨fun z20 => ?_, fun z20 => ?_⟩
    · replace w := w.1 z20
      refine gw_le (L' := [some (.ref r0), none, none, none, some (.int x4), some (.int x5), some (.int x6), some (.int x_11), some (.int x_19)]) (gm_le_k _ (gm_le_n _ (gm_le_n _ (gm_le_n _ (gm_le_k _ (gm_le_k _ (gm_le_k _ (gm_le_k _ (gm_le_k _ gm_le_nil))))))))) ?_
      exact ok126_145 c d Post K40 hK40 _ _ _ _ _ _ _ w
    · replace w := w.2 z20
      refine gw_pst hk 4 (st' := (142, [some (.ref r0), some (.int x1), some (.int x2), some (.int x3), some (.int x4), some (.int x5), some (.int x6), some (.int x_11), some (.int x_19)], [.int x2, .int (x_11 + x_19)], h_19)) rfl ?_
      refine gw_br (c := (x_11 + x_19) ≤ x2) (a := (157, [some (.ref r0), some (.int x1), some (.int x2), some (.int x3), some (.int x4), some (.int x5), some (.int x6), some (.int x_11), some (.int x_19)], [], h_19)) (b := (145, [some (.ref r0), some (.int x1), some (.int x2), some (.int x3), some (.int x4), some (.int x5), some (.int x6), some (.int x_11), some (.int x_19)], [], h_19)) (hk _ _ rfl) rfl ⟨fun z21 => ?_, fun z21 => ?_⟩
      · replace w := w.1 z21
        refine gw_le (L' := [some (.ref r0), some (.int x1), some (.int x2), some (.int x3), some (.int x4), some (.int x5), some (.int x6), none, none]) (gm_le_k _ (gm_le_k _ (gm_le_k _ (gm_le_k _ (gm_le_k _ (gm_le_k _ (gm_le_k _ (gm_le_n _ (gm_le_n _ gm_le_nil))))))))) ?_
        exact ok126_157 c d Post K40 hK40 _ _ _ _ _ _ _ _ w
      · replace w := w.2 z21
        refine gw_le (L' := [some (.ref r0), none, none, none, some (.int x4), some (.int x5), some (.int x6), some (.int x_11), some (.int x_19)]) (gm_le_k _ (gm_le_n _ (gm_le_n _ (gm_le_n _ (gm_le_k _ (gm_le_k _ (gm_le_k _ (gm_le_k _ (gm_le_k _ gm_le_nil))))))))) ?_
        exact ok126_145 c d Post K40 hK40 _ _ _ _ _ _ _ w
def wl126_40 (c : gx) (d : Nat) (Post : Option Value → gm_H → Prop) : Nat → Nat → Int32 → Int32 → Int32 → Int32 → Int32 → Int32 → gm_H → Prop
  | 0 => fun _ _ _ _ _ _ _ _ => False
  | n + 1 => wb126_40 c d Post (wl126_40 c d Post n)
theorem okl126_40 (c : gx) (d : Nat) (Post : Option Value → gm_H → Prop) : ∀ (n : Nat) (r0 : Nat) (x1 : Int32) (x2 : Int32) (x3 : Int32) (x4 : Int32) (x5 : Int32) (x6 : Int32) (h : gm_H), wl126_40 c d Post n r0 x1 x2 x3 x4 x5 x6 h → gV c d 126 (40, [some (.ref r0), some (.int x1), some (.int x2), some (.int x3), some (.int x4), some (.int x5), some (.int x6), none, none], [], h) Post
  | 0, _, _, _, _, _, _, _, _, w => w.elim
  | n + 1, r0, x1, x2, x3, x4, x5, x6, h, w => okb126_40 c d Post (wl126_40 c d Post n) (okl126_40 c d Post n) r0 x1 x2 x3 x4 x5 x6 h w
/-- CommandByTurns.halves()I -/
def wm126 (c : gx) (d : Nat) (Post : Option Value → gm_H → Prop) (r0 : Nat) (h : gm_H) : Prop :=
  ∃ q_1 : Nat, gm_fld h r0 9 5 = some (.ref q_1) ∧ ∃ x_2 : Int32, gm_fld h q_1 6 1 = some (.int x_2) ∧ ∃ q_3 : Nat, gm_fld h r0 9 5 = some (.ref q_3) ∧ ∃ x_4 : Int32, gm_fld h q_3 6 2 = some (.int x_4) ∧ (∃ fs5, gm_get h r0 = some (.inr (9, fs5))) ∧ gE c d 149 [.ref r0, .int x_2, .int x_4] h (fun v5 h_5 => ∃ x_5 : Int32, v5 = some (.int x_5) ∧ ∃ q_6 : Nat, gm_fld h_5 r0 9 5 = some (.ref q_6) ∧ ∃ x_7 : Int32, gm_fld h_5 q_6 6 4 = some (.int x_7) ∧ ∃ n, wl126_40 c d Post n r0 (-1) 0 0 x_5 (x_7 / 2) 0 h_5)
theorem okm126 (c : gx) (d : Nat) (Post : Option Value → gm_H → Prop) (r0 : Nat) (h : gm_H) (w : wm126 c d Post r0 h) : gE c (d + 1) 126 [.ref r0] h Post := by
  have hk : ∀ pc i, gm_find gk_126 pc = some i → gm_code (gt_T c.1 c.2.1 c.2.2.1) 126 pc = some i := fun _ _ z => z
  unfold wm126 at w
  refine ge_of (by decide) (Nat.le_of_ble_eq_true rfl) ?_
  show gV c d 126 (0, [some (.ref r0), none, none, none, none, none, none, none, none], [], h) Post
  unfold gV
  refine gw_pst hk 8 (st' := (8, [some (.ref r0), some (.int (-1)), some (.int 0), some (.int 0), none, none, none, none, none], [.ref r0, .ref r0], h)) rfl ?_
  obtain ⟨q_1, e1, w⟩ := w
  refine gw_gf (hk _ _ rfl) e1 ?_
  obtain ⟨x_2, e2, w⟩ := w
  refine gw_gf (hk _ _ rfl) e2 ?_
  refine gw_pst hk 1 (st' := (15, [some (.ref r0), some (.int (-1)), some (.int 0), some (.int 0), none, none, none, none, none], [.ref r0, .int x_2, .ref r0], h)) rfl ?_
  obtain ⟨q_3, e3, w⟩ := w
  refine gw_gf (hk _ _ rfl) e3 ?_
  obtain ⟨x_4, e4, w⟩ := w
  refine gw_gf (hk _ _ rfl) e4 ?_
  obtain ⟨⟨fs5, e5⟩, w⟩ := w
  refine gw_call (jj := 149) (As := [.ref r0, .int x_2, .int x_4]) (rest := []) (hk _ _ rfl) (fun _ => rfl) rfl rfl (Nat.le_of_ble_eq_true rfl) (gm_rcv_v rfl e5 rfl) ?_
  refine ge_imp w (fun v5 h_5 w => ?_)
  obtain ⟨x_5, rfl, w⟩ := w
  show gV c d 126 (24, [some (.ref r0), some (.int (-1)), some (.int 0), some (.int 0), none, none, none, none, none], [.int x_5], h_5) Post
  refine gw_pst hk 2 (st' := (27, [some (.ref r0), some (.int (-1)), some (.int 0), some (.int 0), some (.int x_5), none, none, none, none], [.ref r0], h_5)) rfl ?_
  obtain ⟨q_6, e6, w⟩ := w
  refine gw_gf (hk _ _ rfl) e6 ?_
  obtain ⟨x_7, e7, w⟩ := w
  refine gw_gf (hk _ _ rfl) e7 ?_
  refine gw_pst hk 1 (st' := (34, [some (.ref r0), some (.int (-1)), some (.int 0), some (.int 0), some (.int x_5), none, none, none, none], [.int 2, .int x_7], h_5)) rfl ?_
  refine gw_idiv (hk _ _ rfl) (by decide) ?_ rfl
  refine gw_pst hk 3 (st' := (40, [some (.ref r0), some (.int (-1)), some (.int 0), some (.int 0), some (.int x_5), some (.int (x_7 / 2)), some (.int 0), none, none], [], h_5)) rfl ?_
  obtain ⟨n, w⟩ := w
  exact okl126_40 c d Post n _ _ _ _ _ _ _ _ w
def w127_20 (c : gx) (d : Nat) (Post : Option Value → gm_H → Prop)  (h : gm_H) : Prop :=
  Post (some (.int (-1))) h
theorem ok127_20 (c : gx) (d : Nat) (Post : Option Value → gm_H → Prop)   (h : gm_H) (w : w127_20 c d Post  h) : gV c d 127 (20, [none, none, none], [], h) Post := by
  have hk : ∀ pc i, gm_find gk_127 pc = some i → gm_code (gt_T c.1 c.2.1 c.2.2.1) 127 pc = some i := fun _ _ z => z
  unfold w127_20 at w
  unfold gV
  refine gw_pst hk 1 (st' := (21, [none, none, none], [.int (-1)], h)) rfl ?_
  exact gw_ret (hk _ _ rfl) rfl w
/-- CommandByTurns.seen(II)I -/
def wm127 (c : gx) (d : Nat) (Post : Option Value → gm_H → Prop) (r0 : Nat) (x1 : Int32) (x2 : Int32) (h : gm_H) : Prop :=
  ((x1 < 0 → w127_20 c d Post h) ∧ (¬ (x1 < 0) → ((20 ≤ x1 → w127_20 c d Post h) ∧ (¬ (20 ≤ x1) → ((x2 < 0 → w127_20 c d Post h) ∧ (¬ (x2 < 0) → ((x2 ≤ 9 → ∃ q_5 : Nat, gm_fld h r0 9 13 = some (.ref q_5) ∧ (∃ fs6, gm_get h q_5 = some (.inr (3, fs6))) ∧ gE c d 33 [.ref q_5, .int x1, .int x2] h (fun v6 h_6 => ∃ x_6 : Int32, v6 = some (.int x_6) ∧ Post (some (.int x_6)) h_6)) ∧ (¬ (x2 ≤ 9) → w127_20 c d Post h))))))))
theorem okm127 (c : gx) (d : Nat) (Post : Option Value → gm_H → Prop) (r0 : Nat) (x1 : Int32) (x2 : Int32) (h : gm_H) (w : wm127 c d Post r0 x1 x2 h) : gE c (d + 1) 127 [.ref r0, .int x1, .int x2] h Post := by
  have hk : ∀ pc i, gm_find gk_127 pc = some i → gm_code (gt_T c.1 c.2.1 c.2.2.1) 127 pc = some i := fun _ _ z => z
  unfold wm127 at w
  refine ge_of (by decide) (Nat.le_of_ble_eq_true rfl) ?_
  show gV c d 127 (0, [some (.ref r0), some (.int x1), some (.int x2)], [], h) Post
  unfold gV
  refine gw_pst hk 1 (st' := (1, [some (.ref r0), some (.int x1), some (.int x2)], [.int x1], h)) rfl ?_
  refine gw_br (c := x1 < 0) (a := (20, [some (.ref r0), some (.int x1), some (.int x2)], [], h)) (b := (4, [some (.ref r0), some (.int x1), some (.int x2)], [], h)) (hk _ _ rfl) rfl ⟨fun z1 => ?_, fun z1 => ?_⟩
  · replace w := w.1 z1
    refine gw_le (L' := [none, none, none]) (gm_le_n _ (gm_le_n _ (gm_le_n _ gm_le_nil))) ?_
    exact ok127_20 c d Post _ w
  · replace w := w.2 z1
    refine gw_pst hk 2 (st' := (7, [some (.ref r0), some (.int x1), some (.int x2)], [.int 20, .int x1], h)) rfl ?_
    refine gw_br (c := 20 ≤ x1) (a := (20, [some (.ref r0), some (.int x1), some (.int x2)], [], h)) (b := (10, [some (.ref r0), some (.int x1), some (.int x2)], [], h)) (hk _ _ rfl) rfl ⟨fun z2 => ?_, fun z2 => ?_⟩
    · replace w := w.1 z2
      refine gw_le (L' := [none, none, none]) (gm_le_n _ (gm_le_n _ (gm_le_n _ gm_le_nil))) ?_
      exact ok127_20 c d Post _ w
    · replace w := w.2 z2
      refine gw_pst hk 1 (st' := (11, [some (.ref r0), some (.int x1), some (.int x2)], [.int x2], h)) rfl ?_
      refine gw_br (c := x2 < 0) (a := (20, [some (.ref r0), some (.int x1), some (.int x2)], [], h)) (b := (14, [some (.ref r0), some (.int x1), some (.int x2)], [], h)) (hk _ _ rfl) rfl ⟨fun z3 => ?_, fun z3 => ?_⟩
      · replace w := w.1 z3
        refine gw_le (L' := [none, none, none]) (gm_le_n _ (gm_le_n _ (gm_le_n _ gm_le_nil))) ?_
        exact ok127_20 c d Post _ w
      · replace w := w.2 z3
        refine gw_pst hk 2 (st' := (17, [some (.ref r0), some (.int x1), some (.int x2)], [.int 9, .int x2], h)) rfl ?_
        refine gw_br (c := x2 ≤ 9) (a := (22, [some (.ref r0), some (.int x1), some (.int x2)], [], h)) (b := (20, [some (.ref r0), some (.int x1), some (.int x2)], [], h)) (hk _ _ rfl) rfl ⟨fun z4 => ?_, fun z4 => ?_⟩
        · replace w := w.1 z4
          refine gw_pst hk 1 (st' := (23, [some (.ref r0), some (.int x1), some (.int x2)], [.ref r0], h)) rfl ?_
          obtain ⟨q_5, e5, w⟩ := w
          refine gw_gf (hk _ _ rfl) e5 ?_
          refine gw_pst hk 2 (st' := (28, [some (.ref r0), some (.int x1), some (.int x2)], [.int x2, .int x1, .ref q_5], h)) rfl ?_
          obtain ⟨⟨fs6, e6⟩, w⟩ := w
          refine gw_call (jj := 33) (As := [.ref q_5, .int x1, .int x2]) (rest := []) (hk _ _ rfl) (fun _ => rfl) rfl rfl (Nat.le_of_ble_eq_true rfl) (gm_rcv_v rfl e6 rfl) ?_
          refine ge_imp w (fun v6 h_6 w => ?_)
          obtain ⟨x_6, rfl, w⟩ := w
          show gV c d 127 (31, [some (.ref r0), some (.int x1), some (.int x2)], [.int x_6], h_6) Post
          exact gw_ret (hk _ _ rfl) rfl w
        · replace w := w.2 z4
          refine gw_le (L' := [none, none, none]) (gm_le_n _ (gm_le_n _ (gm_le_n _ gm_le_nil))) ?_
          exact ok127_20 c d Post _ w
/-- CommandByTurns.forget()I -/
def wm128 (c : gx) (d : Nat) (Post : Option Value → gm_H → Prop) (r0 : Nat) (h : gm_H) : Prop :=
  ∃ q_1 : Nat, gm_fld h r0 9 13 = some (.ref q_1) ∧ ∃ x_2 : Int32, gm_fld h q_1 3 1 = some (.int x_2) ∧ gE c d 266 [.int x_2] h (fun v3 h_3 => ∃ x_3 : Int32, v3 = some (.int x_3) ∧ ∃ q_4 : Nat, gm_fld h_3 r0 9 13 = some (.ref q_4) ∧ ∃ fs5 : List Value, gm_get h_3 q_4 = some (.inr (3, fs5)) ∧ 1 < fs5.length ∧ ∀ h_5 : gm_H, h_5 = gm_put h_3 q_4 (.inr (3, fs5.set 1 (.int 0))) → Post (some (.int x_3)) h_5)
theorem okm128 (c : gx) (d : Nat) (Post : Option Value → gm_H → Prop) (r0 : Nat) (h : gm_H) (w : wm128 c d Post r0 h) : gE c (d + 1) 128 [.ref r0] h Post := by
  have hk : ∀ pc i, gm_find gk_128 pc = some i → gm_code (gt_T c.1 c.2.1 c.2.2.1) 128 pc = some i := fun _ _ z => z
  unfold wm128 at w
  refine ge_of (by decide) (Nat.le_of_ble_eq_true rfl) ?_
  show gV c d 128 (0, [some (.ref r0), none], [], h) Post
  unfold gV
  refine gw_pst hk 1 (st' := (1, [some (.ref r0), none], [.ref r0], h)) rfl ?_
  obtain ⟨q_1, e1, w⟩ := w
  refine gw_gf (hk _ _ rfl) e1 ?_
  obtain ⟨x_2, e2, w⟩ := w
  refine gw_gf (hk _ _ rfl) e2 ?_
  refine gw_call (jj := 266) (As := [.int x_2]) (rest := []) (hk _ _ rfl) (fun _ => rfl) rfl rfl (Nat.le_of_ble_eq_true rfl) rfl ?_
  refine ge_imp w (fun v3 h_3 w => ?_)
  obtain ⟨x_3, rfl, w⟩ := w
  show gV c d 128 (10, [some (.ref r0), none], [.int x_3], h_3) Post
  refine gw_pst hk 2 (st' := (12, [some (.ref r0), some (.int x_3)], [.ref r0], h_3)) rfl ?_
  obtain ⟨q_4, e4, w⟩ := w
  refine gw_gf (hk _ _ rfl) e4 ?_
  refine gw_pst hk 1 (st' := (16, [some (.ref r0), some (.int x_3)], [.int 0, .ref q_4], h_3)) rfl ?_
  obtain ⟨fs5, e5, l5, w⟩ := w
  refine gw_pf (hk _ _ rfl) e5 l5 rfl ?_
  obtain ⟨h_5, eh5⟩ : ∃ z, z = gm_put h_3 q_4 (.inr (3, fs5.set 1 (.int 0))) := ⟨_, rfl⟩
  rw [← eh5]
  replace w := w h_5 eh5
  refine gw_pst hk 1 (st' := (20, [some (.ref r0), some (.int x_3)], [.int x_3], h_5)) rfl ?_
  exact gw_ret (hk _ _ rfl) rfl w
/-- CommandByTurns.was(II)I -/
def wm129 (c : gx) (d : Nat) (Post : Option Value → gm_H → Prop) (r0 : Nat) (x1 : Int32) (x2 : Int32) (h : gm_H) : Prop :=
  gE c d 132 [.int x1, .int x2] h (fun v1 h_1 => ∃ x_1 : Int32, v1 = some (.int x_1) ∧ ((x_1 = 0 → Post (some (.int (-1))) h_1) ∧ (¬ (x_1 = 0) → (∃ fs3, gm_get h_1 r0 = some (.inr (9, fs3))) ∧ gE c d 133 [.ref r0, .int x1, .int x2] h_1 (fun v3 h_3 => ∃ x_3 : Int32, v3 = some (.int x_3) ∧ ∃ q_4 : Nat, gm_fld h_3 r0 9 11 = some (.ref q_4) ∧ ∃ q_5 : Nat, gm_fld h_3 r0 9 13 = some (.ref q_5) ∧ (∃ fs6, gm_get h_3 q_5 = some (.inr (3, fs6))) ∧ gE c d 39 [.ref q_5, .int x1, .int x2] h_3 (fun v6 h_6 => ∃ x_6 : Int32, v6 = some (.int x_6) ∧ (∃ fs7, gm_get h_6 q_4 = some (.inr (5, fs7))) ∧ gE c d 45 [.ref q_4, .long ((x_6 : Int32).toInt64)] h_6 (fun v7 h_7 => v7 = none ∧ Post (some (.int x_3)) h_7))))))
theorem okm129 (c : gx) (d : Nat) (Post : Option Value → gm_H → Prop) (r0 : Nat) (x1 : Int32) (x2 : Int32) (h : gm_H) (w : wm129 c d Post r0 x1 x2 h) : gE c (d + 1) 129 [.ref r0, .int x1, .int x2] h Post := by
  have hk : ∀ pc i, gm_find gk_129 pc = some i → gm_code (gt_T c.1 c.2.1 c.2.2.1) 129 pc = some i := fun _ _ z => z
  unfold wm129 at w
  refine ge_of (by decide) (Nat.le_of_ble_eq_true rfl) ?_
  show gV c d 129 (0, [some (.ref r0), some (.int x1), some (.int x2), none], [], h) Post
  unfold gV
  refine gw_pst hk 2 (st' := (2, [some (.ref r0), some (.int x1), some (.int x2), none], [.int x2, .int x1], h)) rfl ?_
  refine gw_call (jj := 132) (As := [.int x1, .int x2]) (rest := []) (hk _ _ rfl) (fun _ => rfl) rfl rfl (Nat.le_of_ble_eq_true rfl) rfl ?_
  refine ge_imp w (fun v1 h_1 w => ?_)
  obtain ⟨x_1, rfl, w⟩ := w
  show gV c d 129 (5, [some (.ref r0), some (.int x1), some (.int x2), none], [.int x_1], h_1) Post
  refine gw_br (c := x_1 = 0) (a := (8, [some (.ref r0), some (.int x1), some (.int x2), none], [], h_1)) (b := (10, [some (.ref r0), some (.int x1), some (.int x2), none], [], h_1)) (hk _ _ rfl) rfl ⟨fun z2 => ?_, fun z2 => ?_⟩
  · replace w := w.1 z2
    refine gw_pst hk 1 (st' := (9, [some (.ref r0), some (.int x1), some (.int x2), none], [.int (-1)], h_1)) rfl ?_
    exact gw_ret (hk _ _ rfl) rfl w
  · replace w := w.2 z2
    refine gw_pst hk 3 (st' := (13, [some (.ref r0), some (.int x1), some (.int x2), none], [.int x2, .int x1, .ref r0], h_1)) rfl ?_
    obtain ⟨⟨fs3, e3⟩, w⟩ := w
    refine gw_call (jj := 133) (As := [.ref r0, .int x1, .int x2]) (rest := []) (hk _ _ rfl) (fun _ => rfl) rfl rfl (Nat.le_of_ble_eq_true rfl) (gm_rcv_v rfl e3 rfl) ?_
    refine ge_imp w (fun v3 h_3 w => ?_)
    obtain ⟨x_3, rfl, w⟩ := w
    show gV c d 129 (16, [some (.ref r0), some (.int x1), some (.int x2), none], [.int x_3], h_3) Post
    refine gw_pst hk 2 (st' := (18, [some (.ref r0), some (.int x1), some (.int x2), some (.int x_3)], [.ref r0], h_3)) rfl ?_
    obtain ⟨q_4, e4, w⟩ := w
    refine gw_gf (hk _ _ rfl) e4 ?_
    refine gw_pst hk 1 (st' := (22, [some (.ref r0), some (.int x1), some (.int x2), some (.int x_3)], [.ref r0, .ref q_4], h_3)) rfl ?_
    obtain ⟨q_5, e5, w⟩ := w
    refine gw_gf (hk _ _ rfl) e5 ?_
    refine gw_pst hk 2 (st' := (27, [some (.ref r0), some (.int x1), some (.int x2), some (.int x_3)], [.int x2, .int x1, .ref q_5, .ref q_4], h_3)) rfl ?_
    obtain ⟨⟨fs6, e6⟩, w⟩ := w
    refine gw_call (jj := 39) (As := [.ref q_5, .int x1, .int x2]) (rest := [.ref q_4]) (hk _ _ rfl) (fun _ => rfl) rfl rfl (Nat.le_of_ble_eq_true rfl) (gm_rcv_v rfl e6 rfl) ?_
    refine ge_imp w (fun v6 h_6 w => ?_)
    obtain ⟨x_6, rfl, w⟩ := w
    show gV c d 129 (30, [some (.ref r0), some (.int x1), some (.int x2), some (.int x_3)], [.int x_6, .ref q_4], h_6) Post
    refine gw_pst hk 1 (st' := (31, [some (.ref r0), some (.int x1), some (.int x2), some (.int x_3)], [.long ((x_6 : Int32).toInt64), .ref q_4], h_6)) rfl ?_
    obtain ⟨⟨fs7, e7⟩, w⟩ := w
    refine gw_call (jj := 45) (As := [.ref q_4, .long ((x_6 : Int32).toInt64)]) (rest := []) (hk _ _ rfl) (fun _ => rfl) rfl rfl (Nat.le_of_ble_eq_true rfl) (gm_rcv_v rfl e7 rfl) ?_
    refine ge_imp w (fun v7 h_7 w => ?_)
    obtain ⟨rfl, w⟩ := w
    show gV c d 129 (34, [some (.ref r0), some (.int x1), some (.int x2), some (.int x_3)], [], h_7) Post
    refine gw_pst hk 1 (st' := (35, [some (.ref r0), some (.int x1), some (.int x2), some (.int x_3)], [.int x_3], h_7)) rfl ?_
    exact gw_ret (hk _ _ rfl) rfl w
def w130_84 (c : gx) (d : Nat) (Post : Option Value → gm_H → Prop) (K26 : Nat → Int32 → Int32 → Int32 → Int32 → Int32 → Int32 → gm_H → Prop) (r0 : Nat) (x1 : Int32) (x2 : Int32) (x3 : Int32) (x4 : Int32) (x5 : Int32) (x6 : Int32) (h : gm_H) : Prop :=
  K26 r0 x1 x2 x3 x4 x5 (x6 + 1) h
theorem ok130_84 (c : gx) (d : Nat) (Post : Option Value → gm_H → Prop) (K26 : Nat → Int32 → Int32 → Int32 → Int32 → Int32 → Int32 → gm_H → Prop)  (hK26 : ∀ (r0 : Nat) (x1 : Int32) (x2 : Int32) (x3 : Int32) (x4 : Int32) (x5 : Int32) (x6 : Int32) (h : gm_H), K26 r0 x1 x2 x3 x4 x5 x6 h → gV c d 130 (26, [some (.ref r0), some (.int x1), some (.int x2), some (.int x3), some (.int x4), some (.int x5), some (.int x6), none], [], h) Post) (r0 : Nat) (x1 : Int32) (x2 : Int32) (x3 : Int32) (x4 : Int32) (x5 : Int32) (x6 : Int32) (h : gm_H) (w : w130_84 c d Post K26 r0 x1 x2 x3 x4 x5 x6 h) : gV c d 130 (84, [some (.ref r0), some (.int x1), some (.int x2), some (.int x3), some (.int x4), some (.int x5), some (.int x6), none], [], h) Post := by
  have hk : ∀ pc i, gm_find gk_130 pc = some i → gm_code (gt_T c.1 c.2.1 c.2.2.1) 130 pc = some i := fun _ _ z => z
  unfold w130_84 at w
  unfold gV
  refine gw_pst hk 2 (st' := (26, [some (.ref r0), some (.int x1), some (.int x2), some (.int x3), some (.int x4), some (.int x5), some (.int (x6 + 1)), none], [], h)) rfl ?_
  exact hK26 _ _ _ _ _ _ _ _ w
def w130_69 (c : gx) (d : Nat) (Post : Option Value → gm_H → Prop) (K26 : Nat → Int32 → Int32 → Int32 → Int32 → Int32 → Int32 → gm_H → Prop) (r0 : Nat) (x1 : Int32) (x2 : Int32) (x3 : Int32) (x4 : Int32) (x5 : Int32) (x6 : Int32) (x7 : Int32) (h : gm_H) : Prop :=
  ((x7 = x3 → w130_84 c d Post K26 r0 x1 x2 x3 x4 (x5 ||| (1 <<< (x6 &&& 31))) x6 h) ∧ (¬ (x7 = x3) → w130_84 c d Post K26 r0 x1 x2 x3 x4 x5 x6 h))
theorem ok130_69 (c : gx) (d : Nat) (Post : Option Value → gm_H → Prop) (K26 : Nat → Int32 → Int32 → Int32 → Int32 → Int32 → Int32 → gm_H → Prop)  (hK26 : ∀ (r0 : Nat) (x1 : Int32) (x2 : Int32) (x3 : Int32) (x4 : Int32) (x5 : Int32) (x6 : Int32) (h : gm_H), K26 r0 x1 x2 x3 x4 x5 x6 h → gV c d 130 (26, [some (.ref r0), some (.int x1), some (.int x2), some (.int x3), some (.int x4), some (.int x5), some (.int x6), none], [], h) Post) (r0 : Nat) (x1 : Int32) (x2 : Int32) (x3 : Int32) (x4 : Int32) (x5 : Int32) (x6 : Int32) (x7 : Int32) (h : gm_H) (w : w130_69 c d Post K26 r0 x1 x2 x3 x4 x5 x6 x7 h) : gV c d 130 (69, [some (.ref r0), some (.int x1), some (.int x2), some (.int x3), some (.int x4), some (.int x5), some (.int x6), some (.int x7)], [], h) Post := by
  have hk : ∀ pc i, gm_find gk_130 pc = some i → gm_code (gt_T c.1 c.2.1 c.2.2.1) 130 pc = some i := fun _ _ z => z
  unfold w130_69 at w
  unfold gV
  refine gw_pst hk 2 (st' := (72, [some (.ref r0), some (.int x1), some (.int x2), some (.int x3), some (.int x4), some (.int x5), some (.int x6), some (.int x7)], [.int x3, .int x7], h)) rfl ?_
  refine gw_br (c := x7 = x3) (a := (75, [some (.ref r0), some (.int x1), some (.int x2), some (.int x3), some (.int x4), some (.int x5), some (.int x6), some (.int x7)], [], h)) (b := (84, [some (.ref r0), some (.int x1), some (.int x2), some (.int x3), some (.int x4), some (.int x5), some (.int x6), some (.int x7)], [], h)) (hk _ _ rfl) rfl ⟨fun z1 => ?_, fun z1 => ?_⟩
  · replace w := w.1 z1
    refine gw_pst hk 6 (st' := (84, [some (.ref r0), some (.int x1), some (.int x2), some (.int x3), some (.int x4), some (.int (x5 ||| (1 <<< (x6 &&& 31)))), some (.int x6), some (.int x7)], [], h)) rfl ?_
    refine gw_le (L' := [some (.ref r0), some (.int x1), some (.int x2), some (.int x3), some (.int x4), some (.int (x5 ||| (1 <<< (x6 &&& 31)))), some (.int x6), none]) (gm_le_k _ (gm_le_k _ (gm_le_k _ (gm_le_k _ (gm_le_k _ (gm_le_k _ (gm_le_k _ (gm_le_n _ gm_le_nil)))))))) ?_
    exact ok130_84 c d Post K26 hK26 _ _ _ _ _ _ _ _ w
  · replace w := w.2 z1
    refine gw_le (L' := [some (.ref r0), some (.int x1), some (.int x2), some (.int x3), some (.int x4), some (.int x5), some (.int x6), none]) (gm_le_k _ (gm_le_k _ (gm_le_k _ (gm_le_k _ (gm_le_k _ (gm_le_k _ (gm_le_k _ (gm_le_n _ gm_le_nil)))))))) ?_
    exact ok130_84 c d Post K26 hK26 _ _ _ _ _ _ _ _ w
def w130_60 (c : gx) (d : Nat) (Post : Option Value → gm_H → Prop) (K26 : Nat → Int32 → Int32 → Int32 → Int32 → Int32 → Int32 → gm_H → Prop) (r0 : Nat) (x1 : Int32) (x2 : Int32) (x3 : Int32) (x4 : Int32) (x5 : Int32) (x6 : Int32) (x7 : Int32) (h : gm_H) : Prop :=
  w130_69 c d Post K26 r0 x1 x2 x3 (x4 ||| (1 <<< (x6 &&& 31))) x5 x6 x7 h
theorem ok130_60 (c : gx) (d : Nat) (Post : Option Value → gm_H → Prop) (K26 : Nat → Int32 → Int32 → Int32 → Int32 → Int32 → Int32 → gm_H → Prop)  (hK26 : ∀ (r0 : Nat) (x1 : Int32) (x2 : Int32) (x3 : Int32) (x4 : Int32) (x5 : Int32) (x6 : Int32) (h : gm_H), K26 r0 x1 x2 x3 x4 x5 x6 h → gV c d 130 (26, [some (.ref r0), some (.int x1), some (.int x2), some (.int x3), some (.int x4), some (.int x5), some (.int x6), none], [], h) Post) (r0 : Nat) (x1 : Int32) (x2 : Int32) (x3 : Int32) (x4 : Int32) (x5 : Int32) (x6 : Int32) (x7 : Int32) (h : gm_H) (w : w130_60 c d Post K26 r0 x1 x2 x3 x4 x5 x6 x7 h) : gV c d 130 (60, [some (.ref r0), some (.int x1), some (.int x2), some (.int x3), some (.int x4), some (.int x5), some (.int x6), some (.int x7)], [], h) Post := by
  have hk : ∀ pc i, gm_find gk_130 pc = some i → gm_code (gt_T c.1 c.2.1 c.2.2.1) 130 pc = some i := fun _ _ z => z
  unfold w130_60 at w
  unfold gV
  refine gw_pst hk 6 (st' := (69, [some (.ref r0), some (.int x1), some (.int x2), some (.int x3), some (.int (x4 ||| (1 <<< (x6 &&& 31)))), some (.int x5), some (.int x6), some (.int x7)], [], h)) rfl ?_
  exact ok130_69 c d Post K26 hK26 _ _ _ _ _ _ _ _ _ w
def w130_90 (c : gx) (d : Nat) (Post : Option Value → gm_H → Prop) (r0 : Nat) (x4 : Int32) (x5 : Int32) (h : gm_H) : Prop :=
  ∃ q_1 : Nat, gm_fld h r0 9 11 = some (.ref q_1) ∧ (∃ fs2, gm_get h q_1 = some (.inr (5, fs2))) ∧ gE c d 45 [.ref q_1, .long ((x5 : Int32).toInt64)] h (fun v2 h_2 => v2 = none ∧ Post (some (.int x4)) h_2)
theorem ok130_90 (c : gx) (d : Nat) (Post : Option Value → gm_H → Prop)  (r0 : Nat) (x4 : Int32) (x5 : Int32) (h : gm_H) (w : w130_90 c d Post r0 x4 x5 h) : gV c d 130 (90, [some (.ref r0), none, none, none, some (.int x4), some (.int x5), none, none], [], h) Post := by
  have hk : ∀ pc i, gm_find gk_130 pc = some i → gm_code (gt_T c.1 c.2.1 c.2.2.1) 130 pc = some i := fun _ _ z => z
  unfold w130_90 at w
  unfold gV
  refine gw_pst hk 1 (st' := (91, [some (.ref r0), none, none, none, some (.int x4), some (.int x5), none, none], [.ref r0], h)) rfl ?_
  obtain ⟨q_1, e1, w⟩ := w
  refine gw_gf (hk _ _ rfl) e1 ?_
  refine gw_pst hk 2 (st' := (97, [some (.ref r0), none, none, none, some (.int x4), some (.int x5), none, none], [.long ((x5 : Int32).toInt64), .ref q_1], h)) rfl ?_
  obtain ⟨⟨fs2, e2⟩, w⟩ := w
  refine gw_call (jj := 45) (As := [.ref q_1, .long ((x5 : Int32).toInt64)]) (rest := []) (hk _ _ rfl) (fun _ => rfl) rfl rfl (Nat.le_of_ble_eq_true rfl) (gm_rcv_v rfl e2 rfl) ?_
  refine ge_imp w (fun v2 h_2 w => ?_)
  obtain ⟨rfl, w⟩ := w
  show gV c d 130 (100, [some (.ref r0), none, none, none, some (.int x4), some (.int x5), none, none], [], h_2) Post
  refine gw_pst hk 1 (st' := (102, [some (.ref r0), none, none, none, some (.int x4), some (.int x5), none, none], [.int x4], h_2)) rfl ?_
  exact gw_ret (hk _ _ rfl) rfl w
def wb130_26 (c : gx) (d : Nat) (Post : Option Value → gm_H → Prop) (K26 : Nat → Int32 → Int32 → Int32 → Int32 → Int32 → Int32 → gm_H → Prop) (r0 : Nat) (x1 : Int32) (x2 : Int32) (x3 : Int32) (x4 : Int32) (x5 : Int32) (x6 : Int32) (h : gm_H) : Prop :=
  ((x1 ≤ x6 → w130_90 c d Post r0 x4 x5 h) ∧ (¬ (x1 ≤ x6) → ((x3 ≤ 0 → w130_90 c d Post r0 x4 x5 h) ∧ (¬ (x3 ≤ 0) → ∃ q_3 : Nat, gm_fld h r0 9 13 = some (.ref q_3) ∧ (∃ fs4, gm_get h q_3 = some (.inr (3, fs4))) ∧ gE c d 35 [.ref q_3, .int x1, .int x2, .int x6] h (fun v4 h_4 => ∃ x_4 : Int32, v4 = some (.int x_4) ∧ ((x_4 = 0 → w130_60 c d Post K26 r0 x1 x2 x3 x4 x5 x6 x_4 h_4) ∧ (¬ (x_4 = 0) → ((x_4 = x3 → w130_60 c d Post K26 r0 x1 x2 x3 x4 x5 x6 x_4 h_4) ∧ (¬ (x_4 = x3) → w130_69 c d Post K26 r0 x1 x2 x3 x4 x5 x6 x_4 h_4)))))))))
theorem okb130_26 (c : gx) (d : Nat) (Post : Option Value → gm_H → Prop) (K26 : Nat → Int32 → Int32 → Int32 → Int32 → Int32 → Int32 → gm_H → Prop)  (hK26 : ∀ (r0 : Nat) (x1 : Int32) (x2 : Int32) (x3 : Int32) (x4 : Int32) (x5 : Int32) (x6 : Int32) (h : gm_H), K26 r0 x1 x2 x3 x4 x5 x6 h → gV c d 130 (26, [some (.ref r0), some (.int x1), some (.int x2), some (.int x3), some (.int x4), some (.int x5), some (.int x6), none], [], h) Post) (r0 : Nat) (x1 : Int32) (x2 : Int32) (x3 : Int32) (x4 : Int32) (x5 : Int32) (x6 : Int32) (h : gm_H) (w : wb130_26 c d Post K26 r0 x1 x2 x3 x4 x5 x6 h) : gV c d 130 (26, [some (.ref r0), some (.int x1), some (.int x2), some (.int x3), some (.int x4), some (.int x5), some (.int x6), none], [], h) Post := by
  have hk : ∀ pc i, gm_find gk_130 pc = some i → gm_code (gt_T c.1 c.2.1 c.2.2.1) 130 pc = some i := fun _ _ z => z
  unfold wb130_26 at w
  unfold gV
  refine gw_pst hk 2 (st' := (29, [some (.ref r0), some (.int x1), some (.int x2), some (.int x3), some (.int x4), some (.int x5), some (.int x6), none], [.int x1, .int x6], h)) rfl ?_
  refine gw_br (c := x1 ≤ x6) (a := (90, [some (.ref r0), some (.int x1), some (.int x2), some (.int x3), some (.int x4), some (.int x5), some (.int x6), none], [], h)) (b := (32, [some (.ref r0), some (.int x1), some (.int x2), some (.int x3), some (.int x4), some (.int x5), some (.int x6), none], [], h)) (hk _ _ rfl) rfl ⟨fun z1 => ?_, fun z1 => ?_⟩
  · replace w := w.1 z1
    refine gw_le (L' := [some (.ref r0), none, none, none, some (.int x4), some (.int x5), none, none]) (gm_le_k _ (gm_le_n _ (gm_le_n _ (gm_le_n _ (gm_le_k _ (gm_le_k _ (gm_le_n _ (gm_le_k _ gm_le_nil)))))))) ?_
    exact ok130_90 c d Post _ _ _ _ w
  · replace w := w.2 z1
    refine gw_pst hk 1 (st' := (33, [some (.ref r0), some (.int x1), some (.int x2), some (.int x3), some (.int x4), some (.int x5), some (.int x6), none], [.int x3], h)) rfl ?_
    refine gw_br (c := x3 ≤ 0) (a := (90, [some (.ref r0), some (.int x1), some (.int x2), some (.int x3), some (.int x4), some (.int x5), some (.int x6), none], [], h)) (b := (36, [some (.ref r0), some (.int x1), some (.int x2), some (.int x3), some (.int x4), some (.int x5), some (.int x6), none], [], h)) (hk _ _ rfl) rfl ⟨fun z2 => ?_, fun z2 => ?_⟩
    · replace w := w.1 z2
      refine gw_le (L' := [some (.ref r0), none, none, none, some (.int x4), some (.int x5), none, none]) (gm_le_k _ (gm_le_n _ (gm_le_n _ (gm_le_n _ (gm_le_k _ (gm_le_k _ (gm_le_n _ (gm_le_k _ gm_le_nil)))))))) ?_
      exact ok130_90 c d Post _ _ _ _ w
    · replace w := w.2 z2
      refine gw_pst hk 1 (st' := (37, [some (.ref r0), some (.int x1), some (.int x2), some (.int x3), some (.int x4), some (.int x5), some (.int x6), none], [.ref r0], h)) rfl ?_
      obtain ⟨q_3, e3, w⟩ := w
      refine gw_gf (hk _ _ rfl) e3 ?_
      refine gw_pst hk 3 (st' := (44, [some (.ref r0), some (.int x1), some (.int x2), some (.int x3), some (.int x4), some (.int x5), some (.int x6), none], [.int x6, .int x2, .int x1, .ref q_3], h)) rfl ?_
      obtain ⟨⟨fs4, e4⟩, w⟩ := w
      refine gw_call (jj := 35) (As := [.ref q_3, .int x1, .int x2, .int x6]) (rest := []) (hk _ _ rfl) (fun _ => rfl) rfl rfl (Nat.le_of_ble_eq_true rfl) (gm_rcv_v rfl e4 rfl) ?_
      refine ge_imp w (fun v4 h_4 w => ?_)
      obtain ⟨x_4, rfl, w⟩ := w
      show gV c d 130 (47, [some (.ref r0), some (.int x1), some (.int x2), some (.int x3), some (.int x4), some (.int x5), some (.int x6), none], [.int x_4], h_4) Post
      refine gw_pst hk 2 (st' := (51, [some (.ref r0), some (.int x1), some (.int x2), some (.int x3), some (.int x4), some (.int x5), some (.int x6), some (.int x_4)], [.int x_4], h_4)) rfl ?_
      refine gw_br (c := x_4 = 0) (a := (60, [some (.ref r0), some (.int x1), some (.int x2), some (.int x3), some (.int x4), some (.int x5), some (.int x6), some (.int x_4)], [], h_4)) (b := (54, [some (.ref r0), some (.int x1), some (.int x2), some (.int x3), some (.int x4), some (.int x5), some (.int x6), some (.int x_4)], [], h_4)) (hk _ _ rfl) rfl ⟨fun z5 => ?_, fun z5 => ?_⟩
      · replace w := w.1 z5
        exact ok130_60 c d Post K26 hK26 _ _ _ _ _ _ _ _ _ w
      · replace w := w.2 z5
        refine gw_pst hk 2 (st' := (57, [some (.ref r0), some (.int x1), some (.int x2), some (.int x3), some (.int x4), some (.int x5), some (.int x6), some (.int x_4)], [.int x3, .int x_4], h_4)) rfl ?_
        refine gw_br (c := x_4 = x3) (a := (60, [some (.ref r0), some (.int x1), some (.int x2), some (.int x3), some (.int x4), some (.int x5), some (.int x6), some (.int x_4)], [], h_4)) (b := (69, [some (.ref r0), some (.int x1), some (.int x2), some (.int x3), some (.int x4), some (.int x5), some (.int x6), some (.int x_4)], [], h_4)) (hk _ _ rfl) rfl ⟨fun z6 => ?_, fun z6 => ?_⟩
        · replace w := w.1 z6
          exact ok130_60 c d Post K26 hK26 _ _ _ _ _ _ _ _ _ w
        · replace w := w.2 z6
          exact ok130_69 c d Post K26 hK26 _ _ _ _ _ _ _ _ _ w
def wl130_26 (c : gx) (d : Nat) (Post : Option Value → gm_H → Prop) : Nat → Nat → Int32 → Int32 → Int32 → Int32 → Int32 → Int32 → gm_H → Prop
  | 0 => fun _ _ _ _ _ _ _ _ => False
  | n + 1 => wb130_26 c d Post (wl130_26 c d Post n)
theorem okl130_26 (c : gx) (d : Nat) (Post : Option Value → gm_H → Prop) : ∀ (n : Nat) (r0 : Nat) (x1 : Int32) (x2 : Int32) (x3 : Int32) (x4 : Int32) (x5 : Int32) (x6 : Int32) (h : gm_H), wl130_26 c d Post n r0 x1 x2 x3 x4 x5 x6 h → gV c d 130 (26, [some (.ref r0), some (.int x1), some (.int x2), some (.int x3), some (.int x4), some (.int x5), some (.int x6), none], [], h) Post
  | 0, _, _, _, _, _, _, _, _, w => w.elim
  | n + 1, r0, x1, x2, x3, x4, x5, x6, h, w => okb130_26 c d Post (wl130_26 c d Post n) (okl130_26 c d Post n) r0 x1 x2 x3 x4 x5 x6 h w
/-- CommandByTurns.sure(II)I -/
def wm130 (c : gx) (d : Nat) (Post : Option Value → gm_H → Prop) (r0 : Nat) (x1 : Int32) (x2 : Int32) (h : gm_H) : Prop :=
  gE c d 132 [.int x1, .int x2] h (fun v1 h_1 => ∃ x_1 : Int32, v1 = some (.int x_1) ∧ ((x_1 = 0 → Post (some (.int (-1))) h_1) ∧ (¬ (x_1 = 0) → (∃ fs3, gm_get h_1 r0 = some (.inr (9, fs3))) ∧ gE c d 133 [.ref r0, .int x1, .int x2] h_1 (fun v3 h_3 => ∃ x_3 : Int32, v3 = some (.int x_3) ∧ ∃ n, wl130_26 c d Post n r0 x1 x2 x_3 0 0 0 h_3))))
theorem okm130 (c : gx) (d : Nat) (Post : Option Value → gm_H → Prop) (r0 : Nat) (x1 : Int32) (x2 : Int32) (h : gm_H) (w : wm130 c d Post r0 x1 x2 h) : gE c (d + 1) 130 [.ref r0, .int x1, .int x2] h Post := by
  have hk : ∀ pc i, gm_find gk_130 pc = some i → gm_code (gt_T c.1 c.2.1 c.2.2.1) 130 pc = some i := fun _ _ z => z
  unfold wm130 at w
  refine ge_of (by decide) (Nat.le_of_ble_eq_true rfl) ?_
  show gV c d 130 (0, [some (.ref r0), some (.int x1), some (.int x2), none, none, none, none, none], [], h) Post
  unfold gV
  refine gw_pst hk 2 (st' := (2, [some (.ref r0), some (.int x1), some (.int x2), none, none, none, none, none], [.int x2, .int x1], h)) rfl ?_
  refine gw_call (jj := 132) (As := [.int x1, .int x2]) (rest := []) (hk _ _ rfl) (fun _ => rfl) rfl rfl (Nat.le_of_ble_eq_true rfl) rfl ?_
  refine ge_imp w (fun v1 h_1 w => ?_)
  obtain ⟨x_1, rfl, w⟩ := w
  show gV c d 130 (5, [some (.ref r0), some (.int x1), some (.int x2), none, none, none, none, none], [.int x_1], h_1) Post
  refine gw_br (c := x_1 = 0) (a := (8, [some (.ref r0), some (.int x1), some (.int x2), none, none, none, none, none], [], h_1)) (b := (10, [some (.ref r0), some (.int x1), some (.int x2), none, none, none, none, none], [], h_1)) (hk _ _ rfl) rfl ⟨fun z2 => ?_, fun z2 => ?_⟩
  · replace w := w.1 z2
    refine gw_pst hk 1 (st' := (9, [some (.ref r0), some (.int x1), some (.int x2), none, none, none, none, none], [.int (-1)], h_1)) rfl ?_
    exact gw_ret (hk _ _ rfl) rfl w
  · replace w := w.2 z2
    refine gw_pst hk 3 (st' := (13, [some (.ref r0), some (.int x1), some (.int x2), none, none, none, none, none], [.int x2, .int x1, .ref r0], h_1)) rfl ?_
    obtain ⟨⟨fs3, e3⟩, w⟩ := w
    refine gw_call (jj := 133) (As := [.ref r0, .int x1, .int x2]) (rest := []) (hk _ _ rfl) (fun _ => rfl) rfl rfl (Nat.le_of_ble_eq_true rfl) (gm_rcv_v rfl e3 rfl) ?_
    refine ge_imp w (fun v3 h_3 w => ?_)
    obtain ⟨x_3, rfl, w⟩ := w
    show gV c d 130 (16, [some (.ref r0), some (.int x1), some (.int x2), none, none, none, none, none], [.int x_3], h_3) Post
    refine gw_pst hk 7 (st' := (26, [some (.ref r0), some (.int x1), some (.int x2), some (.int x_3), some (.int 0), some (.int 0), some (.int 0), none], [], h_3)) rfl ?_
    obtain ⟨n, w⟩ := w
    exact okl130_26 c d Post n _ _ _ _ _ _ _ _ w
