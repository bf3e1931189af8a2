/-! What must hold for a run to end with Post: by program (wip/whole/gen_wp.py). -/
/-- CommandByTurnsModel.keep(I)Z -/
def wm260 (c : gx) (d : Nat) (Post : Option Value → gm_H → Prop) (r0 : Nat) (x1 : Int32) (h : gm_H) : Prop :=
  ∃ fs1 : List Value, gm_get h r0 = some (.inr (10, fs1)) ∧ 13 < fs1.length ∧ ∀ h_1 : gm_H, h_1 = gm_put h r0 (.inr (10, fs1.set 13 (.int 0))) → gE c d 154 [.int x1, .int 0, .int 1] h_1 (fun v2 h_2 => ∃ x_2 : Int32, v2 = some (.int x_2) ∧ ((x_2 = 0 → Post (some (.int 0)) h_2) ∧ (¬ (x_2 = 0) → ∃ q_4 : Nat, gm_fld h_2 r0 10 39 = some (.ref q_4) ∧ ∃ (n5 : Nat) (f5 : Nat → Int32), gm_get h_2 q_4 = some (.inl (4, n5, .inl f5)) ∧ vp_in x1 n5 ∧ ∀ h_5 : gm_H, h_5 = gm_put h_2 q_4 (.inl (4, n5, .inl (upd f5 (x1 : Int32).toNatClampNeg (vp_nar .boolean 1)))) → ∃ q_6 : Nat, gm_fld h_5 r0 10 0 = some (.ref q_6) ∧ ∃ q_7 : Nat, gm_fld h_5 r0 10 38 = some (.ref q_7) ∧ gE c d 194 [.ref q_6, .ref q_7, .int (108 * x1)] h_5 (fun v8 h_8 => v8 = none ∧ Post (some (.int 1)) h_8))))
theorem okm260 (c : gx) (d : Nat) (Post : Option Value → gm_H → Prop) (r0 : Nat) (x1 : Int32) (h : gm_H) (w : wm260 c d Post r0 x1 h) : gE c (d + 1) 260 [.ref r0, .int x1] h Post := by
  have hk : ∀ pc i, gm_find gk_260 pc = some i → gm_code (gt_T c.1 c.2.1 c.2.2.1) 260 pc = some i := fun _ _ z => z
  unfold wm260 at w
  refine ge_of (by decide) (Nat.le_of_ble_eq_true rfl) ?_
  show gV c d 260 (0, [some (.ref r0), some (.int x1)], [], h) Post
  unfold gV
  refine gw_pst hk 2 (st' := (2, [some (.ref r0), some (.int x1)], [.int 0, .ref r0], h)) rfl ?_
  obtain ⟨fs1, e1, l1, w⟩ := w
  refine gw_pf (hk _ _ rfl) e1 l1 rfl ?_
  obtain ⟨h_1, eh1⟩ : ∃ z, z = gm_put h r0 (.inr (10, fs1.set 13 (.int 0))) := ⟨_, rfl⟩
  rw [← eh1]
  replace w := w h_1 eh1
  refine gw_pst hk 3 (st' := (8, [some (.ref r0), some (.int x1)], [.int 1, .int 0, .int x1], h_1)) rfl ?_
  refine gw_call (jj := 154) (As := [.int x1, .int 0, .int 1]) (rest := []) (hk _ _ rfl) (fun _ => rfl) rfl rfl (Nat.le_of_ble_eq_true rfl) rfl ?_
  refine ge_imp w (fun v2 h_2 w => ?_)
  obtain ⟨x_2, rfl, w⟩ := w
  show gV c d 260 (11, [some (.ref r0), some (.int x1)], [.int x_2], h_2) Post
  refine gw_br (c := x_2 = 0) (a := (14, [some (.ref r0), some (.int x1)], [], h_2)) (b := (16, [some (.ref r0), some (.int x1)], [], h_2)) (hk _ _ rfl) rfl ⟨fun z3 => ?_, fun z3 => ?_⟩
  · replace w := w.1 z3
    refine gw_pst hk 1 (st' := (15, [some (.ref r0), some (.int x1)], [.int 0], h_2)) rfl ?_
    exact gw_ret (hk _ _ rfl) rfl w
  · replace w := w.2 z3
    refine gw_pst hk 1 (st' := (17, [some (.ref r0), some (.int x1)], [.ref r0], h_2)) rfl ?_
    obtain ⟨q_4, e4, w⟩ := w
    refine gw_gf (hk _ _ rfl) e4 ?_
    refine gw_pst hk 2 (st' := (22, [some (.ref r0), some (.int x1)], [.int 1, .int x1, .ref q_4], h_2)) rfl ?_
    obtain ⟨n5, f5, e5, b5, w⟩ := w
    refine gw_ast (hk _ _ rfl) (Or.inr (Or.inr (Or.inr ⟨rfl, rfl, rfl, rfl⟩))) e5 b5 ?_
    obtain ⟨h_5, eh5⟩ : ∃ z, z = gm_put h_2 q_4 (.inl (4, n5, .inl (upd f5 (x1 : Int32).toNatClampNeg (vp_nar .boolean 1)))) := ⟨_, rfl⟩
    rw [← eh5]
    replace w := w h_5 eh5
    refine gw_pst hk 1 (st' := (24, [some (.ref r0), some (.int x1)], [.ref r0], h_5)) rfl ?_
    obtain ⟨q_6, e6, w⟩ := w
    refine gw_gf (hk _ _ rfl) e6 ?_
    refine gw_pst hk 1 (st' := (28, [some (.ref r0), some (.int x1)], [.ref r0, .ref q_6], h_5)) rfl ?_
    obtain ⟨q_7, e7, w⟩ := w
    refine gw_gf (hk _ _ rfl) e7 ?_
    refine gw_pst hk 3 (st' := (35, [some (.ref r0), some (.int x1)], [.int (108 * x1), .ref q_7, .ref q_6], h_5)) rfl ?_
    refine gw_call (jj := 194) (As := [.ref q_6, .ref q_7, .int (108 * x1)]) (rest := []) (hk _ _ rfl) (fun _ => rfl) rfl rfl (Nat.le_of_ble_eq_true rfl) rfl ?_
    refine ge_imp w (fun v8 h_8 w => ?_)
    obtain ⟨rfl, w⟩ := w
    show gV c d 260 (38, [some (.ref r0), some (.int x1)], [], h_8) Post
    refine gw_pst hk 1 (st' := (39, [some (.ref r0), some (.int x1)], [.int 1], h_8)) rfl ?_
    exact gw_ret (hk _ _ rfl) rfl w
def w261_23 (c : gx) (d : Nat) (Post : Option Value → gm_H → Prop)  (h : gm_H) : Prop :=
  Post (some (.int 0)) h
theorem ok261_23 (c : gx) (d : Nat) (Post : Option Value → gm_H → Prop)   (h : gm_H) (w : w261_23 c d Post  h) : gV c d 261 (23, [none, none, none], [], h) Post := by
  have hk : ∀ pc i, gm_find gk_261 pc = some i → gm_code (gt_T c.1 c.2.1 c.2.2.1) 261 pc = some i := fun _ _ z => z
  unfold w261_23 at w
  unfold gV
  refine gw_pst hk 1 (st' := (24, [none, none, none], [.int 0], h)) rfl ?_
  exact gw_ret (hk _ _ rfl) rfl w
def wb261_27 (c : gx) (d : Nat) (Post : Option Value → gm_H → Prop) (K27 : Nat → Int32 → Int32 → gm_H → Prop) (r0 : Nat) (x1 : Int32) (x2 : Int32) (h : gm_H) : Prop :=
  ((108 ≤ x2 → ∃ fs2 : List Value, gm_get h r0 = some (.inr (10, fs2)) ∧ 26 < fs2.length ∧ ∀ h_2 : gm_H, h_2 = gm_put h r0 (.inr (10, fs2.set 26 (.int 0))) → Post (some (.int 1)) h_2) ∧ (¬ (108 ≤ x2) → ∃ q_3 : Nat, gm_fld h r0 10 0 = some (.ref q_3) ∧ ∃ q_4 : Nat, gm_fld h r0 10 38 = some (.ref q_4) ∧ ∃ (n5 : Nat) (f5 : Nat → Int32), gm_get h q_4 = some (.inl (0, n5, .inl f5)) ∧ vp_in ((108 * x1) + x2) n5 ∧ ∃ (n6 : Nat) (f6 : Nat → Int32), gm_get h q_3 = some (.inl (0, n6, .inl f6)) ∧ vp_in x2 n6 ∧ ∀ h_6 : gm_H, h_6 = gm_put h q_3 (.inl (0, n6, .inl (upd f6 (x2 : Int32).toNatClampNeg (vp_nar .int (f5 ((108 * x1) + x2 : Int32).toNatClampNeg))))) → K27 r0 x1 (x2 + 1) h_6))
theorem okb261_27 (c : gx) (d : Nat) (Post : Option Value → gm_H → Prop) (K27 : Nat → Int32 → Int32 → gm_H → Prop)  (hK27 : ∀ (r0 : Nat) (x1 : Int32) (x2 : Int32) (h : gm_H), K27 r0 x1 x2 h → gV c d 261 (27, [some (.ref r0), some (.int x1), some (.int x2)], [], h) Post) (r0 : Nat) (x1 : Int32) (x2 : Int32) (h : gm_H) (w : wb261_27 c d Post K27 r0 x1 x2 h) : gV c d 261 (27, [some (.ref r0), some (.int x1), some (.int x2)], [], h) Post := by
  have hk : ∀ pc i, gm_find gk_261 pc = some i → gm_code (gt_T c.1 c.2.1 c.2.2.1) 261 pc = some i := fun _ _ z => z
  unfold wb261_27 at w
  unfold gV
  refine gw_pst hk 2 (st' := (30, [some (.ref r0), some (.int x1), some (.int x2)], [.int 108, .int x2], h)) rfl ?_
  refine gw_br (c := 108 ≤ x2) (a := (56, [some (.ref r0), some (.int x1), some (.int x2)], [], h)) (b := (33, [some (.ref r0), some (.int x1), some (.int x2)], [], h)) (hk _ _ rfl) rfl ⟨fun z1 => ?_, fun z1 => ?_⟩
  · replace w := w.1 z1
    refine gw_pst hk 2 (st' := (58, [some (.ref r0), some (.int x1), some (.int x2)], [.int 0, .ref r0], h)) rfl ?_
    obtain ⟨fs2, e2, l2, w⟩ := w
    refine gw_pf (hk _ _ rfl) e2 l2 rfl ?_
    obtain ⟨h_2, eh2⟩ : ∃ z, z = gm_put h r0 (.inr (10, fs2.set 26 (.int 0))) := ⟨_, rfl⟩
    rw [← eh2]
    replace w := w h_2 eh2
    refine gw_pst hk 1 (st' := (62, [some (.ref r0), some (.int x1), some (.int x2)], [.int 1], h_2)) rfl ?_
    exact gw_ret (hk _ _ rfl) rfl w
  · replace w := w.2 z1
    refine gw_pst hk 1 (st' := (34, [some (.ref r0), some (.int x1), some (.int x2)], [.ref r0], h)) rfl ?_
    obtain ⟨q_3, e3, w⟩ := w
    refine gw_gf (hk _ _ rfl) e3 ?_
    refine gw_pst hk 2 (st' := (39, [some (.ref r0), some (.int x1), some (.int x2)], [.ref r0, .int x2, .ref q_3], h)) rfl ?_
    obtain ⟨q_4, e4, w⟩ := w
    refine gw_gf (hk _ _ rfl) e4 ?_
    refine gw_pst hk 5 (st' := (48, [some (.ref r0), some (.int x1), some (.int x2)], [.int ((108 * x1) + x2), .ref q_4, .int x2, .ref q_3], h)) rfl ?_
    obtain ⟨n5, f5, e5, b5, w⟩ := w
    refine gw_ald (hk _ _ rfl) (Or.inl ⟨rfl, rfl⟩) e5 b5 ?_
    obtain ⟨n6, f6, e6, b6, w⟩ := w
    refine gw_ast (hk _ _ rfl) (Or.inl ⟨rfl, rfl, rfl⟩) e6 b6 ?_
    obtain ⟨h_6, eh6⟩ : ∃ z, z = gm_put h q_3 (.inl (0, n6, .inl (upd f6 (x2 : Int32).toNatClampNeg (vp_nar .int (f5 ((108 * x1) + x2 : Int32).toNatClampNeg))))) := ⟨_, rfl⟩
    rw [← eh6]
    replace w := w h_6 eh6
    refine gw_pst hk 2 (st' := (27, [some (.ref r0), some (.int x1), some (.int (x2 + 1))], [], h_6)) rfl ?_
    exact hK27 _ _ _ _ w
def wl261_27 (c : gx) (d : Nat) (Post : Option Value → gm_H → Prop) : Nat → Nat → Int32 → Int32 → gm_H → Prop
  | 0 => fun _ _ _ _ => False
  | n + 1 => wb261_27 c d Post (wl261_27 c d Post n)
theorem okl261_27 (c : gx) (d : Nat) (Post : Option Value → gm_H → Prop) : ∀ (n : Nat) (r0 : Nat) (x1 : Int32) (x2 : Int32) (h : gm_H), wl261_27 c d Post n r0 x1 x2 h → gV c d 261 (27, [some (.ref r0), some (.int x1), some (.int x2)], [], h) Post
  | 0, _, _, _, _, w => w.elim
  | n + 1, r0, x1, x2, h, w => okb261_27 c d Post (wl261_27 c d Post n) (okl261_27 c d Post n) r0 x1 x2 h w
/-- CommandByTurnsModel.again(I)Z -/
def wm261 (c : gx) (d : Nat) (Post : Option Value → gm_H → Prop) (r0 : Nat) (x1 : Int32) (h : gm_H) : Prop :=
  ∃ fs1 : List Value, gm_get h r0 = some (.inr (10, fs1)) ∧ 13 < fs1.length ∧ ∀ h_1 : gm_H, h_1 = gm_put h r0 (.inr (10, fs1.set 13 (.int 0))) → gE c d 154 [.int x1, .int 0, .int 1] h_1 (fun v2 h_2 => ∃ x_2 : Int32, v2 = some (.int x_2) ∧ ((x_2 = 0 → w261_23 c d Post h_2) ∧ (¬ (x_2 = 0) → ∃ q_4 : Nat, gm_fld h_2 r0 10 39 = some (.ref q_4) ∧ ∃ (n5 : Nat) (f5 : Nat → Int32), gm_get h_2 q_4 = some (.inl (4, n5, .inl f5)) ∧ vp_in x1 n5 ∧ (((f5 (x1 : Int32).toNatClampNeg) = 0 → w261_23 c d Post h_2) ∧ (¬ ((f5 (x1 : Int32).toNatClampNeg) = 0) → ∃ n, wl261_27 c d Post n r0 x1 0 h_2)))))
theorem okm261 (c : gx) (d : Nat) (Post : Option Value → gm_H → Prop) (r0 : Nat) (x1 : Int32) (h : gm_H) (w : wm261 c d Post r0 x1 h) : gE c (d + 1) 261 [.ref r0, .int x1] h Post := by
  have hk : ∀ pc i, gm_find gk_261 pc = some i → gm_code (gt_T c.1 c.2.1 c.2.2.1) 261 pc = some i := fun _ _ z => z
  unfold wm261 at w
  refine ge_of (by decide) (Nat.le_of_ble_eq_true rfl) ?_
  show gV c d 261 (0, [some (.ref r0), some (.int x1), none], [], h) Post
  unfold gV
  refine gw_pst hk 2 (st' := (2, [some (.ref r0), some (.int x1), none], [.int 0, .ref r0], h)) rfl ?_
  obtain ⟨fs1, e1, l1, w⟩ := w
  refine gw_pf (hk _ _ rfl) e1 l1 rfl ?_
  obtain ⟨h_1, eh1⟩ : ∃ z, z = gm_put h r0 (.inr (10, fs1.set 13 (.int 0))) := ⟨_, rfl⟩
  rw [← eh1]
  replace w := w h_1 eh1
  refine gw_pst hk 3 (st' := (8, [some (.ref r0), some (.int x1), none], [.int 1, .int 0, .int x1], h_1)) rfl ?_
  refine gw_call (jj := 154) (As := [.int x1, .int 0, .int 1]) (rest := []) (hk _ _ rfl) (fun _ => rfl) rfl rfl (Nat.le_of_ble_eq_true rfl) rfl ?_
  refine ge_imp w (fun v2 h_2 w => ?_)
  obtain ⟨x_2, rfl, w⟩ := w
  show gV c d 261 (11, [some (.ref r0), some (.int x1), none], [.int x_2], h_2) Post
  refine gw_br (c := x_2 = 0) (a := (23, [some (.ref r0), some (.int x1), none], [], h_2)) (b := (14, [some (.ref r0), some (.int x1), none], [], h_2)) (hk _ _ rfl) rfl ⟨fun z3 => ?_, fun z3 => ?_⟩
  · replace w := w.1 z3
    refine gw_le (L' := [none, none, none]) (gm_le_n _ (gm_le_n _ (gm_le_k _ gm_le_nil))) ?_
    exact ok261_23 c d Post _ w
  · replace w := w.2 z3
    refine gw_pst hk 1 (st' := (15, [some (.ref r0), some (.int x1), none], [.ref r0], h_2)) rfl ?_
    obtain ⟨q_4, e4, w⟩ := w
    refine gw_gf (hk _ _ rfl) e4 ?_
    refine gw_pst hk 1 (st' := (19, [some (.ref r0), some (.int x1), none], [.int x1, .ref q_4], h_2)) rfl ?_
    obtain ⟨n5, f5, e5, b5, w⟩ := w
    refine gw_ald (hk _ _ rfl) (Or.inr (Or.inr ⟨rfl, rfl, Or.inr rfl⟩)) e5 b5 ?_
    refine gw_br (c := (f5 (x1 : Int32).toNatClampNeg) = 0) (a := (23, [some (.ref r0), some (.int x1), none], [], h_2)) (b := (25, [some (.ref r0), some (.int x1), none], [], h_2)) (hk _ _ rfl) rfl ⟨fun z6 => ?_, fun z6 => ?_⟩
    · replace w := w.1 z6
      refine gw_le (L' := [none, none, none]) (gm_le_n _ (gm_le_n _ (gm_le_k _ gm_le_nil))) ?_
      exact ok261_23 c d Post _ w
    · replace w := w.2 z6
      refine gw_pst hk 2 (st' := (27, [some (.ref r0), some (.int x1), some (.int 0)], [], h_2)) rfl ?_
      obtain ⟨n, w⟩ := w
      exact okl261_27 c d Post n _ _ _ _ w
def w262_147 (c : gx) (d : Nat) (Post : Option Value → gm_H → Prop) (xs0 : Int32) (h : gm_H) : Prop :=
  Post (some (.int xs0)) h
theorem ok262_147 (c : gx) (d : Nat) (Post : Option Value → gm_H → Prop)  (xs0 : Int32) (h : gm_H) (w : w262_147 c d Post xs0 h) : gV c d 262 (147, [none, none], [.int xs0], h) Post := by
  have hk : ∀ pc i, gm_find gk_262 pc = some i → gm_code (gt_T c.1 c.2.1 c.2.2.1) 262 pc = some i := fun _ _ z => z
  unfold w262_147 at w
  unfold gV
  exact gw_ret (hk _ _ rfl) rfl w
/-- CommandByTurnsModel.count(I)I -/
def wm262 (c : gx) (d : Nat) (Post : Option Value → gm_H → Prop) (r0 : Nat) (x1 : Int32) (h : gm_H) : Prop :=
  ∃ fs1 : List Value, gm_get h r0 = some (.inr (10, fs1)) ∧ 13 < fs1.length ∧ ∀ h_1 : gm_H, h_1 = gm_put h r0 (.inr (10, fs1.set 13 (.int 0))) → ((x1 = 0 → ∃ x_3 : Int32, gm_fld h_1 r0 10 1 = some (.int x_3) ∧ Post (some (.int x_3)) h_1) ∧ (x1 = 1 → ∃ q_4 : Nat, gm_fld h_1 r0 10 0 = some (.ref q_4) ∧ ∃ (n5 : Nat) (f5 : Nat → Int32), gm_get h_1 q_4 = some (.inl (0, n5, .inl f5)) ∧ vp_in 0 n5 ∧ Post (some (.int (f5 (0 : Int32).toNatClampNeg))) h_1) ∧ (x1 = 2 → ∃ q_6 : Nat, gm_fld h_1 r0 10 0 = some (.ref q_6) ∧ ∃ (n7 : Nat) (f7 : Nat → Int32), gm_get h_1 q_6 = some (.inl (0, n7, .inl f7)) ∧ vp_in 1 n7 ∧ Post (some (.int (f7 (1 : Int32).toNatClampNeg))) h_1) ∧ (x1 = 3 → ∃ q_8 : Nat, gm_fld h_1 r0 10 0 = some (.ref q_8) ∧ ∃ (n9 : Nat) (f9 : Nat → Int32), gm_get h_1 q_8 = some (.inl (0, n9, .inl f9)) ∧ vp_in 2 n9 ∧ Post (some (.int (f9 (2 : Int32).toNatClampNeg))) h_1) ∧ (x1 = 4 → ∃ q_10 : Nat, gm_fld h_1 r0 10 0 = some (.ref q_10) ∧ ∃ (n11 : Nat) (f11 : Nat → Int32), gm_get h_1 q_10 = some (.inl (0, n11, .inl f11)) ∧ vp_in 3 n11 ∧ Post (some (.int (f11 (3 : Int32).toNatClampNeg))) h_1) ∧ (x1 = 5 → ∃ q_12 : Nat, gm_fld h_1 r0 10 0 = some (.ref q_12) ∧ ∃ (n13 : Nat) (f13 : Nat → Int32), gm_get h_1 q_12 = some (.inl (0, n13, .inl f13)) ∧ vp_in 4 n13 ∧ Post (some (.int (f13 (4 : Int32).toNatClampNeg))) h_1) ∧ (x1 = 6 → ∃ q_14 : Nat, gm_fld h_1 r0 10 0 = some (.ref q_14) ∧ ∃ (n15 : Nat) (f15 : Nat → Int32), gm_get h_1 q_14 = some (.inl (0, n15, .inl f15)) ∧ vp_in 5 n15 ∧ Post (some (.int (f15 (5 : Int32).toNatClampNeg))) h_1) ∧ (x1 = 7 → (∃ fs16, gm_get h_1 r0 = some (.inr (10, fs16))) ∧ gE c d 208 [.ref r0] h_1 (fun v16 h_16 => ∃ x_16 : Int32, v16 = some (.int x_16) ∧ Post (some (.int x_16)) h_16)) ∧ (x1 = 8 → ∃ q_17 : Nat, gm_fld h_1 r0 10 0 = some (.ref q_17) ∧ ∃ (n18 : Nat) (f18 : Nat → Int32), gm_get h_1 q_17 = some (.inl (0, n18, .inl f18)) ∧ vp_in 1 n18 ∧ ∃ q_19 : Nat, gm_fld h_1 r0 10 0 = some (.ref q_19) ∧ ∃ (n20 : Nat) (f20 : Nat → Int32), gm_get h_1 q_19 = some (.inl (0, n20, .inl f20)) ∧ vp_in 2 n20 ∧ gE c d 185 [.int (f18 (1 : Int32).toNatClampNeg), .int (f20 (2 : Int32).toNatClampNeg)] h_1 (fun v21 h_21 => ∃ x_21 : Int32, v21 = some (.int x_21) ∧ ((x_21 = 0 → w262_147 c d Post 0 h_21) ∧ (¬ (x_21 = 0) → w262_147 c d Post 1 h_21)))) ∧ (x1 = 9 → ∃ x_23 : Int32, gm_fld h_1 r0 10 34 = some (.int x_23) ∧ Post (some (.int x_23)) h_1) ∧ (x1 = 10 → ∃ x_24 : Int32, gm_fld h_1 r0 10 26 = some (.int x_24) ∧ Post (some (.int x_24)) h_1) ∧ (x1 = 11 → ∃ x_25 : Int32, gm_fld h_1 r0 10 12 = some (.int x_25) ∧ Post (some (.int x_25)) h_1) ∧ (x1 = 12 → ∃ x_26 : Int32, gm_fld h_1 r0 10 10 = some (.int x_26) ∧ Post (some (.int x_26)) h_1) ∧ ((x1 : Int32).toInt < 0 ∨ 12 < (x1 : Int32).toInt → Post (some (.int (-1))) h_1))
theorem okm262 (c : gx) (d : Nat) (Post : Option Value → gm_H → Prop) (r0 : Nat) (x1 : Int32) (h : gm_H) (w : wm262 c d Post r0 x1 h) : gE c (d + 1) 262 [.ref r0, .int x1] h Post := by
  have hk : ∀ pc i, gm_find gk_262 pc = some i → gm_code (gt_T c.1 c.2.1 c.2.2.1) 262 pc = some i := fun _ _ z => z
  unfold wm262 at w
  refine ge_of (by decide) (Nat.le_of_ble_eq_true rfl) ?_
  show gV c d 262 (0, [some (.ref r0), some (.int x1)], [], h) Post
  unfold gV
  refine gw_pst hk 2 (st' := (2, [some (.ref r0), some (.int x1)], [.int 0, .ref r0], h)) rfl ?_
  obtain ⟨fs1, e1, l1, w⟩ := w
  refine gw_pf (hk _ _ rfl) e1 l1 rfl ?_
  obtain ⟨h_1, eh1⟩ : ∃ z, z = gm_put h r0 (.inr (10, fs1.set 13 (.int 0))) := ⟨_, rfl⟩
  rw [← eh1]
  replace w := w h_1 eh1
  refine gw_pst hk 1 (st' := (6, [some (.ref r0), some (.int x1)], [.int x1], h_1)) rfl ?_
  by_cases z2_0 : x1 = 0
  · replace w := w.1 z2_0
    refine gw_swk (st' := (72, [some (.ref r0), some (.int x1)], [], h_1)) (hk _ _ rfl) z2_0 rfl ?_
    refine gw_pst hk 1 (st' := (73, [some (.ref r0), some (.int x1)], [.ref r0], h_1)) rfl ?_
    obtain ⟨x_3, e3, w⟩ := w
    refine gw_gf (hk _ _ rfl) e3 ?_
    exact gw_ret (hk _ _ rfl) rfl w
  by_cases z2_1 : x1 = 1
  · replace w := w.2.1 z2_1
    refine gw_swk (st' := (77, [some (.ref r0), some (.int x1)], [], h_1)) (hk _ _ rfl) z2_1 rfl ?_
    refine gw_pst hk 1 (st' := (78, [some (.ref r0), some (.int x1)], [.ref r0], h_1)) rfl ?_
    obtain ⟨q_4, e4, w⟩ := w
    refine gw_gf (hk _ _ rfl) e4 ?_
    refine gw_pst hk 1 (st' := (82, [some (.ref r0), some (.int x1)], [.int 0, .ref q_4], h_1)) rfl ?_
    obtain ⟨n5, f5, e5, b5, w⟩ := w
    refine gw_ald (hk _ _ rfl) (Or.inl ⟨rfl, rfl⟩) e5 b5 ?_
    exact gw_ret (hk _ _ rfl) rfl w
  by_cases z2_2 : x1 = 2
  · replace w := w.2.2.1 z2_2
    refine gw_swk (st' := (84, [some (.ref r0), some (.int x1)], [], h_1)) (hk _ _ rfl) z2_2 rfl ?_
    refine gw_pst hk 1 (st' := (85, [some (.ref r0), some (.int x1)], [.ref r0], h_1)) rfl ?_
    obtain ⟨q_6, e6, w⟩ := w
    refine gw_gf (hk _ _ rfl) e6 ?_
    refine gw_pst hk 1 (st' := (89, [some (.ref r0), some (.int x1)], [.int 1, .ref q_6], h_1)) rfl ?_
    obtain ⟨n7, f7, e7, b7, w⟩ := w
    refine gw_ald (hk _ _ rfl) (Or.inl ⟨rfl, rfl⟩) e7 b7 ?_
    exact gw_ret (hk _ _ rfl) rfl w
  by_cases z2_3 : x1 = 3
  · replace w := w.2.2.2.1 z2_3
    refine gw_swk (st' := (91, [some (.ref r0), some (.int x1)], [], h_1)) (hk _ _ rfl) z2_3 rfl ?_
    refine gw_pst hk 1 (st' := (92, [some (.ref r0), some (.int x1)], [.ref r0], h_1)) rfl ?_
    obtain ⟨q_8, e8, w⟩ := w
    refine gw_gf (hk _ _ rfl) e8 ?_
    refine gw_pst hk 1 (st' := (96, [some (.ref r0), some (.int x1)], [.int 2, .ref q_8], h_1)) rfl ?_
    obtain ⟨n9, f9, e9, b9, w⟩ := w
    refine gw_ald (hk _ _ rfl) (Or.inl ⟨rfl, rfl⟩) e9 b9 ?_
    exact gw_ret (hk _ _ rfl) rfl w
  by_cases z2_4 : x1 = 4
  · replace w := w.2.2.2.2.1 z2_4
    refine gw_swk (st' := (98, [some (.ref r0), some (.int x1)], [], h_1)) (hk _ _ rfl) z2_4 rfl ?_
    refine gw_pst hk 1 (st' := (99, [some (.ref r0), some (.int x1)], [.ref r0], h_1)) rfl ?_
    obtain ⟨q_10, e10, w⟩ := w
    refine gw_gf (hk _ _ rfl) e10 ?_
    refine gw_pst hk 1 (st' := (103, [some (.ref r0), some (.int x1)], [.int 3, .ref q_10], h_1)) rfl ?_
    obtain ⟨n11, f11, e11, b11, w⟩ := w
    refine gw_ald (hk _ _ rfl) (Or.inl ⟨rfl, rfl⟩) e11 b11 ?_
    exact gw_ret (hk _ _ rfl) rfl w
  by_cases z2_5 : x1 = 5
  · replace w := w.2.2.2.2.2.1 z2_5
    refine gw_swk (st' := (105, [some (.ref r0), some (.int x1)], [], h_1)) (hk _ _ rfl) z2_5 rfl ?_
    refine gw_pst hk 1 (st' := (106, [some (.ref r0), some (.int x1)], [.ref r0], h_1)) rfl ?_
    obtain ⟨q_12, e12, w⟩ := w
    refine gw_gf (hk _ _ rfl) e12 ?_
    refine gw_pst hk 1 (st' := (110, [some (.ref r0), some (.int x1)], [.int 4, .ref q_12], h_1)) rfl ?_
    obtain ⟨n13, f13, e13, b13, w⟩ := w
    refine gw_ald (hk _ _ rfl) (Or.inl ⟨rfl, rfl⟩) e13 b13 ?_
    exact gw_ret (hk _ _ rfl) rfl w
  by_cases z2_6 : x1 = 6
  · replace w := w.2.2.2.2.2.2.1 z2_6
    refine gw_swk (st' := (112, [some (.ref r0), some (.int x1)], [], h_1)) (hk _ _ rfl) z2_6 rfl ?_
    refine gw_pst hk 1 (st' := (113, [some (.ref r0), some (.int x1)], [.ref r0], h_1)) rfl ?_
    obtain ⟨q_14, e14, w⟩ := w
    refine gw_gf (hk _ _ rfl) e14 ?_
    refine gw_pst hk 1 (st' := (117, [some (.ref r0), some (.int x1)], [.int 5, .ref q_14], h_1)) rfl ?_
    obtain ⟨n15, f15, e15, b15, w⟩ := w
    refine gw_ald (hk _ _ rfl) (Or.inl ⟨rfl, rfl⟩) e15 b15 ?_
    exact gw_ret (hk _ _ rfl) rfl w
  by_cases z2_7 : x1 = 7
  · replace w := w.2.2.2.2.2.2.2.1 z2_7
    refine gw_swk (st' := (119, [some (.ref r0), some (.int x1)], [], h_1)) (hk _ _ rfl) z2_7 rfl ?_
    refine gw_pst hk 1 (st' := (120, [some (.ref r0), some (.int x1)], [.ref r0], h_1)) rfl ?_
    obtain ⟨⟨fs16, e16⟩, w⟩ := w
    refine gw_call (jj := 208) (As := [.ref r0]) (rest := []) (hk _ _ rfl) (fun _ => rfl) rfl rfl (Nat.le_of_ble_eq_true rfl) (gm_rcv_v rfl e16 rfl) ?_
    refine ge_imp w (fun v16 h_16 w => ?_)
    obtain ⟨x_16, rfl, w⟩ := w
    show gV c d 262 (123, [some (.ref r0), some (.int x1)], [.int x_16], h_16) Post
    exact gw_ret (hk _ _ rfl) rfl w
  by_cases z2_8 : x1 = 8
  · replace w := w.2.2.2.2.2.2.2.2.1 z2_8
    refine gw_swk (st' := (124, [some (.ref r0), some (.int x1)], [], h_1)) (hk _ _ rfl) z2_8 rfl ?_
    refine gw_pst hk 1 (st' := (125, [some (.ref r0), some (.int x1)], [.ref r0], h_1)) rfl ?_
    obtain ⟨q_17, e17, w⟩ := w
    refine gw_gf (hk _ _ rfl) e17 ?_
    refine gw_pst hk 1 (st' := (129, [some (.ref r0), some (.int x1)], [.int 1, .ref q_17], h_1)) rfl ?_
    obtain ⟨n18, f18, e18, b18, w⟩ := w
    refine gw_ald (hk _ _ rfl) (Or.inl ⟨rfl, rfl⟩) e18 b18 ?_
    refine gw_pst hk 1 (st' := (131, [some (.ref r0), some (.int x1)], [.ref r0, .int (f18 (1 : Int32).toNatClampNeg)], h_1)) rfl ?_
    obtain ⟨q_19, e19, w⟩ := w
    refine gw_gf (hk _ _ rfl) e19 ?_
    refine gw_pst hk 1 (st' := (135, [some (.ref r0), some (.int x1)], [.int 2, .ref q_19, .int (f18 (1 : Int32).toNatClampNeg)], h_1)) rfl ?_
    obtain ⟨n20, f20, e20, b20, w⟩ := w
    refine gw_ald (hk _ _ rfl) (Or.inl ⟨rfl, rfl⟩) e20 b20 ?_
    refine gw_call (jj := 185) (As := [.int (f18 (1 : Int32).toNatClampNeg), .int (f20 (2 : Int32).toNatClampNeg)]) (rest := []) (hk _ _ rfl) (fun _ => rfl) rfl rfl (Nat.le_of_ble_eq_true rfl) rfl ?_
    refine ge_imp w (fun v21 h_21 w => ?_)
    obtain ⟨x_21, rfl, w⟩ := w
    show gV c d 262 (139, [some (.ref r0), some (.int x1)], [.int x_21], h_21) Post
    refine gw_br (c := x_21 = 0) (a := (146, [some (.ref r0), some (.int x1)], [], h_21)) (b := (142, [some (.ref r0), some (.int x1)], [], h_21)) (hk _ _ rfl) rfl ⟨fun z22 => ?_, fun z22 => ?_⟩
    · replace w := w.1 z22
      refine gw_pst hk 1 (st' := (147, [some (.ref r0), some (.int x1)], [.int 0], h_21)) rfl ?_
      refine gw_le (L' := [none, none]) (gm_le_n _ (gm_le_n _ gm_le_nil)) ?_
      exact ok262_147 c d Post _ _ w
    · replace w := w.2 z22
      refine gw_pst hk 2 (st' := (147, [some (.ref r0), some (.int x1)], [.int 1], h_21)) rfl ?_
      refine gw_le (L' := [none, none]) (gm_le_n _ (gm_le_n _ gm_le_nil)) ?_
      exact ok262_147 c d Post _ _ w
  by_cases z2_9 : x1 = 9
  · replace w := w.2.2.2.2.2.2.2.2.2.1 z2_9
    refine gw_swk (st' := (148, [some (.ref r0), some (.int x1)], [], h_1)) (hk _ _ rfl) z2_9 rfl ?_
    refine gw_pst hk 1 (st' := (149, [some (.ref r0), some (.int x1)], [.ref r0], h_1)) rfl ?_
    obtain ⟨x_23, e23, w⟩ := w
    refine gw_gf (hk _ _ rfl) e23 ?_
    exact gw_ret (hk _ _ rfl) rfl w
  by_cases z2_10 : x1 = 10
  · replace w := w.2.2.2.2.2.2.2.2.2.2.1 z2_10
    refine gw_swk (st' := (153, [some (.ref r0), some (.int x1)], [], h_1)) (hk _ _ rfl) z2_10 rfl ?_
    refine gw_pst hk 1 (st' := (154, [some (.ref r0), some (.int x1)], [.ref r0], h_1)) rfl ?_
    obtain ⟨x_24, e24, w⟩ := w
    refine gw_gf (hk _ _ rfl) e24 ?_
    exact gw_ret (hk _ _ rfl) rfl w
  by_cases z2_11 : x1 = 11
  · replace w := w.2.2.2.2.2.2.2.2.2.2.2.1 z2_11
    refine gw_swk (st' := (158, [some (.ref r0), some (.int x1)], [], h_1)) (hk _ _ rfl) z2_11 rfl ?_
    refine gw_pst hk 1 (st' := (159, [some (.ref r0), some (.int x1)], [.ref r0], h_1)) rfl ?_
    obtain ⟨x_25, e25, w⟩ := w
    refine gw_gf (hk _ _ rfl) e25 ?_
    exact gw_ret (hk _ _ rfl) rfl w
  by_cases z2_12 : x1 = 12
  · replace w := w.2.2.2.2.2.2.2.2.2.2.2.2.1 z2_12
    refine gw_swk (st' := (163, [some (.ref r0), some (.int x1)], [], h_1)) (hk _ _ rfl) z2_12 rfl ?_
    refine gw_pst hk 1 (st' := (164, [some (.ref r0), some (.int x1)], [.ref r0], h_1)) rfl ?_
    obtain ⟨x_26, e26, w⟩ := w
    refine gw_gf (hk _ _ rfl) e26 ?_
    exact gw_ret (hk _ _ rfl) rfl w
  have zd2 : (x1 : Int32).toInt < 0 ∨ 12 < (x1 : Int32).toInt := by
    have y0 : (x1 : Int32).toInt ≠ 0 := fun z => z2_0 (Int32.toInt_inj.mp z)
    have y1 : (x1 : Int32).toInt ≠ 1 := fun z => z2_1 (Int32.toInt_inj.mp z)
    have y2 : (x1 : Int32).toInt ≠ 2 := fun z => z2_2 (Int32.toInt_inj.mp z)
    have y3 : (x1 : Int32).toInt ≠ 3 := fun z => z2_3 (Int32.toInt_inj.mp z)
    have y4 : (x1 : Int32).toInt ≠ 4 := fun z => z2_4 (Int32.toInt_inj.mp z)
    have y5 : (x1 : Int32).toInt ≠ 5 := fun z => z2_5 (Int32.toInt_inj.mp z)
    have y6 : (x1 : Int32).toInt ≠ 6 := fun z => z2_6 (Int32.toInt_inj.mp z)
    have y7 : (x1 : Int32).toInt ≠ 7 := fun z => z2_7 (Int32.toInt_inj.mp z)
    have y8 : (x1 : Int32).toInt ≠ 8 := fun z => z2_8 (Int32.toInt_inj.mp z)
    have y9 : (x1 : Int32).toInt ≠ 9 := fun z => z2_9 (Int32.toInt_inj.mp z)
    have y10 : (x1 : Int32).toInt ≠ 10 := fun z => z2_10 (Int32.toInt_inj.mp z)
    have y11 : (x1 : Int32).toInt ≠ 11 := fun z => z2_11 (Int32.toInt_inj.mp z)
    have y12 : (x1 : Int32).toInt ≠ 12 := fun z => z2_12 (Int32.toInt_inj.mp z)
    omega
  replace w := w.2.2.2.2.2.2.2.2.2.2.2.2.2 zd2
  refine gw_tsd (st' := (168, [some (.ref r0), some (.int x1)], [], h_1)) (hk _ _ rfl) zd2 rfl ?_
  refine gw_pst hk 1 (st' := (169, [some (.ref r0), some (.int x1)], [.int (-1)], h_1)) rfl ?_
  exact gw_ret (hk _ _ rfl) rfl w
def w263_33 (c : gx) (d : Nat) (Post : Option Value → gm_H → Prop) (xs0 : Int64) (h : gm_H) : Prop :=
  Post (some (.long xs0)) h
theorem ok263_33 (c : gx) (d : Nat) (Post : Option Value → gm_H → Prop)  (xs0 : Int64) (h : gm_H) (w : w263_33 c d Post xs0 h) : gV c d 263 (33, [none, none], [.long xs0], h) Post := by
  have hk : ∀ pc i, gm_find gk_263 pc = some i → gm_code (gt_T c.1 c.2.1 c.2.2.1) 263 pc = some i := fun _ _ z => z
  unfold w263_33 at w
  unfold gV
  exact gw_ret (hk _ _ rfl) rfl w
/-- CommandByTurnsModel.row(I)J -/
def wm263 (c : gx) (d : Nat) (Post : Option Value → gm_H → Prop) (r0 : Nat) (x1 : Int32) (h : gm_H) : Prop :=
  ∃ fs1 : List Value, gm_get h r0 = some (.inr (10, fs1)) ∧ 13 < fs1.length ∧ ∀ h_1 : gm_H, h_1 = gm_put h r0 (.inr (10, fs1.set 13 (.int 0))) → ∃ x_2 : Int32, gm_fld h_1 r0 10 12 = some (.int x_2) ∧ gE c d 154 [.int x1, .int 0, .int (x_2 - 1)] h_1 (fun v3 h_3 => ∃ x_3 : Int32, v3 = some (.int x_3) ∧ ((x_3 = 0 → (∃ fs5, gm_get h_3 r0 = some (.inr (10, fs5))) ∧ gE c d 156 [.ref r0] h_3 (fun v5 h_5 => ∃ x_5 : Int32, v5 = some (.int x_5) ∧ w263_33 c d Post ((x_5 : Int32).toInt64) h_5)) ∧ (¬ (x_3 = 0) → ∃ q_6 : Nat, gm_fld h_3 r0 10 11 = some (.ref q_6) ∧ ∃ (n7 : Nat) (f7 : Nat → Int64), gm_get h_3 q_6 = some (.inl (2, n7, .inr (.inl f7))) ∧ vp_in x1 n7 ∧ w263_33 c d Post (f7 (x1 : Int32).toNatClampNeg) h_3)))
theorem okm263 (c : gx) (d : Nat) (Post : Option Value → gm_H → Prop) (r0 : Nat) (x1 : Int32) (h : gm_H) (w : wm263 c d Post r0 x1 h) : gE c (d + 1) 263 [.ref r0, .int x1] h Post := by
  have hk : ∀ pc i, gm_find gk_263 pc = some i → gm_code (gt_T c.1 c.2.1 c.2.2.1) 263 pc = some i := fun _ _ z => z
  unfold wm263 at w
  refine ge_of (by decide) (Nat.le_of_ble_eq_true rfl) ?_
  show gV c d 263 (0, [some (.ref r0), some (.int x1)], [], h) Post
  unfold gV
  refine gw_pst hk 2 (st' := (2, [some (.ref r0), some (.int x1)], [.int 0, .ref r0], h)) rfl ?_
  obtain ⟨fs1, e1, l1, w⟩ := w
  refine gw_pf (hk _ _ rfl) e1 l1 rfl ?_
  obtain ⟨h_1, eh1⟩ : ∃ z, z = gm_put h r0 (.inr (10, fs1.set 13 (.int 0))) := ⟨_, rfl⟩
  rw [← eh1]
  replace w := w h_1 eh1
  refine gw_pst hk 3 (st' := (8, [some (.ref r0), some (.int x1)], [.ref r0, .int 0, .int x1], h_1)) rfl ?_
  obtain ⟨x_2, e2, w⟩ := w
  refine gw_gf (hk _ _ rfl) e2 ?_
  refine gw_pst hk 2 (st' := (13, [some (.ref r0), some (.int x1)], [.int (x_2 - 1), .int 0, .int x1], h_1)) rfl ?_
  refine gw_call (jj := 154) (As := [.int x1, .int 0, .int (x_2 - 1)]) (rest := []) (hk _ _ rfl) (fun _ => rfl) rfl rfl (Nat.le_of_ble_eq_true rfl) rfl ?_
  refine ge_imp w (fun v3 h_3 w => ?_)
  obtain ⟨x_3, rfl, w⟩ := w
  show gV c d 263 (16, [some (.ref r0), some (.int x1)], [.int x_3], h_3) Post
  refine gw_br (c := x_3 = 0) (a := (28, [some (.ref r0), some (.int x1)], [], h_3)) (b := (19, [some (.ref r0), some (.int x1)], [], h_3)) (hk _ _ rfl) rfl ⟨fun z4 => ?_, fun z4 => ?_⟩
  · replace w := w.1 z4
    refine gw_pst hk 1 (st' := (29, [some (.ref r0), some (.int x1)], [.ref r0], h_3)) rfl ?_
    obtain ⟨⟨fs5, e5⟩, w⟩ := w
    refine gw_call (jj := 156) (As := [.ref r0]) (rest := []) (hk _ _ rfl) (fun _ => rfl) rfl rfl (Nat.le_of_ble_eq_true rfl) (gm_rcv_v rfl e5 rfl) ?_
    refine ge_imp w (fun v5 h_5 w => ?_)
    obtain ⟨x_5, rfl, w⟩ := w
    show gV c d 263 (32, [some (.ref r0), some (.int x1)], [.int x_5], h_5) Post
    refine gw_pst hk 1 (st' := (33, [some (.ref r0), some (.int x1)], [.long ((x_5 : Int32).toInt64)], h_5)) rfl ?_
    refine gw_le (L' := [none, none]) (gm_le_n _ (gm_le_n _ gm_le_nil)) ?_
    exact ok263_33 c d Post _ _ w
  · replace w := w.2 z4
    refine gw_pst hk 1 (st' := (20, [some (.ref r0), some (.int x1)], [.ref r0], h_3)) rfl ?_
    obtain ⟨q_6, e6, w⟩ := w
    refine gw_gf (hk _ _ rfl) e6 ?_
    refine gw_pst hk 1 (st' := (24, [some (.ref r0), some (.int x1)], [.int x1, .ref q_6], h_3)) rfl ?_
    obtain ⟨n7, f7, e7, b7, w⟩ := w
    refine gw_lald (hk _ _ rfl) e7 b7 ?_
    refine gw_pst hk 1 (st' := (33, [some (.ref r0), some (.int x1)], [.long (f7 (x1 : Int32).toNatClampNeg)], h_3)) rfl ?_
    refine gw_le (L' := [none, none]) (gm_le_n _ (gm_le_n _ gm_le_nil)) ?_
    exact ok263_33 c d Post _ _ w
