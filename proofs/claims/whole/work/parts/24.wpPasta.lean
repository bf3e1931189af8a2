/-! What must hold for a run to end with Post: by program (wip/whole/gen_wp.py). -/
def w41_56 (c : gx) (d : Nat) (Post : Option Value → gm_H → Prop) (r0 : Nat) (rs0 : Nat) (xs1 : Int32) (h : gm_H) : Prop :=
  ∃ fs1 : List Value, gm_get h rs0 = some (.inr (4, fs1)) ∧ 1 < fs1.length ∧ ∀ h_1 : gm_H, h_1 = gm_put h rs0 (.inr (4, fs1.set 1 (.int xs1))) → ∃ x_2 : Int32, gm_fld h_1 r0 4 2 = some (.int x_2) ∧ ∃ fs3 : List Value, gm_get h_1 r0 = some (.inr (4, fs3)) ∧ 2 < fs3.length ∧ ∀ h_3 : gm_H, h_3 = gm_put h_1 r0 (.inr (4, fs3.set 2 (.int (if (x_2 + 1) < 12 then (x_2 + 1) else 12)))) → Post none h_3
theorem ok41_56 (c : gx) (d : Nat) (Post : Option Value → gm_H → Prop)  (r0 : Nat) (rs0 : Nat) (xs1 : Int32) (h : gm_H) (w : w41_56 c d Post r0 rs0 xs1 h) : gV c d 41 (56, [some (.ref r0), none], [.int xs1, .ref rs0], h) Post := by
  have hk : ∀ pc i, gm_find gk_41 pc = some i → gm_code (gt_T c.1 c.2.1 c.2.2.1) 41 pc = some i := fun _ _ z => z
  unfold w41_56 at w
  unfold gV
  obtain ⟨fs1, e1, l1, w⟩ := w
  refine gw_pf (hk _ _ rfl) e1 l1 rfl ?_
  obtain ⟨h_1, eh1⟩ : ∃ z, z = gm_put h rs0 (.inr (4, fs1.set 1 (.int xs1))) := ⟨_, rfl⟩
  rw [← eh1]
  replace w := w h_1 eh1
  refine gw_pst hk 3 (st' := (63, [some (.ref r0), none], [.ref r0, .int 12, .ref r0], h_1)) rfl ?_
  obtain ⟨x_2, e2, w⟩ := w
  refine gw_gf (hk _ _ rfl) e2 ?_
  refine gw_pst hk 3 (st' := (71, [some (.ref r0), none], [.int (if (x_2 + 1) < 12 then (x_2 + 1) else 12), .ref r0], h_1)) rfl ?_
  obtain ⟨fs3, e3, l3, w⟩ := w
  refine gw_pf (hk _ _ rfl) e3 l3 rfl ?_
  obtain ⟨h_3, eh3⟩ : ∃ z, z = gm_put h_1 r0 (.inr (4, fs3.set 2 (.int (if (x_2 + 1) < 12 then (x_2 + 1) else 12)))) := ⟨_, rfl⟩
  rw [← eh3]
  replace w := w h_3 eh3
  exact gw_ret (hk _ _ rfl) rfl w
def w41_21 (c : gx) (d : Nat) (Post : Option Value → gm_H → Prop) (r0 : Nat) (r1 : Nat) (h : gm_H) : Prop :=
  ∃ q_1 : Nat, gm_fld h r0 4 0 = some (.ref q_1) ∧ ∃ x_2 : Int32, gm_fld h r0 4 1 = some (.int x_2) ∧ ∃ (n3 : Nat) (f3 : Nat → Option Nat) (q_3 : Nat), gm_get h q_1 = some (.inl (5, n3, .inr (.inr (.inr (.inr f3))))) ∧ vp_in x_2 n3 ∧ f3 (x_2 : Int32).toNatClampNeg = some q_3 ∧ (∃ fs4, gm_get h q_3 = some (.inr (6, fs4))) ∧ gE c d 48 [.ref q_3, .ref r1] h (fun v4 h_4 => v4 = none ∧ ∃ x_5 : Int32, gm_fld h_4 r0 4 1 = some (.int x_5) ∧ (((x_5 + 1) = 12 → w41_56 c d Post r0 r0 0 h_4) ∧ (¬ ((x_5 + 1) = 12) → ∃ x_7 : Int32, gm_fld h_4 r0 4 1 = some (.int x_7) ∧ w41_56 c d Post r0 r0 (x_7 + 1) h_4)))
theorem ok41_21 (c : gx) (d : Nat) (Post : Option Value → gm_H → Prop)  (r0 : Nat) (r1 : Nat) (h : gm_H) (w : w41_21 c d Post r0 r1 h) : gV c d 41 (21, [some (.ref r0), some (.ref r1)], [], h) Post := by
  have hk : ∀ pc i, gm_find gk_41 pc = some i → gm_code (gt_T c.1 c.2.1 c.2.2.1) 41 pc = some i := fun _ _ z => z
  unfold w41_21 at w
  unfold gV
  refine gw_pst hk 1 (st' := (22, [some (.ref r0), some (.ref r1)], [.ref r0], h)) rfl ?_
  obtain ⟨q_1, e1, w⟩ := w
  refine gw_gf (hk _ _ rfl) e1 ?_
  refine gw_pst hk 1 (st' := (26, [some (.ref r0), some (.ref r1)], [.ref r0, .ref q_1], h)) rfl ?_
  obtain ⟨x_2, e2, w⟩ := w
  refine gw_gf (hk _ _ rfl) e2 ?_
  obtain ⟨n3, f3, q_3, e3, b3, g3, w⟩ := w
  refine gw_aald (hk _ _ rfl) e3 b3 g3 ?_
  refine gw_pst hk 1 (st' := (31, [some (.ref r0), some (.ref r1)], [.ref r1, .ref q_3], h)) rfl ?_
  obtain ⟨⟨fs4, e4⟩, w⟩ := w
  refine gw_call (jj := 48) (As := [.ref q_3, .ref r1]) (rest := []) (hk _ _ rfl) (fun _ => rfl) rfl rfl (Nat.le_of_ble_eq_true rfl) (gm_rcv_v rfl e4 rfl) ?_
  refine ge_imp w (fun v4 h_4 w => ?_)
  obtain ⟨rfl, w⟩ := w
  show gV c d 41 (34, [some (.ref r0), some (.ref r1)], [], h_4) Post
  refine gw_pst hk 2 (st' := (36, [some (.ref r0), some (.ref r1)], [.ref r0, .ref r0], h_4)) rfl ?_
  obtain ⟨x_5, e5, w⟩ := w
  refine gw_gf (hk _ _ rfl) e5 ?_
  refine gw_pst hk 3 (st' := (43, [some (.ref r0), some (.ref r1)], [.int 12, .int (x_5 + 1), .ref r0], h_4)) rfl ?_
  refine gw_br (c := (x_5 + 1) = 12) (a := (46, [some (.ref r0), some (.ref r1)], [.ref r0], h_4)) (b := (50, [some (.ref r0), some (.ref r1)], [.ref r0], h_4)) (hk _ _ rfl) rfl ⟨fun z6 => ?_, fun z6 => ?_⟩
  · replace w := w.1 z6
    refine gw_pst hk 2 (st' := (56, [some (.ref r0), some (.ref r1)], [.int 0, .ref r0], h_4)) rfl ?_
    refine gw_le (L' := [some (.ref r0), none]) (gm_le_k _ (gm_le_n _ gm_le_nil)) ?_
    exact ok41_56 c d Post _ _ _ _ w
  · replace w := w.2 z6
    refine gw_pst hk 1 (st' := (51, [some (.ref r0), some (.ref r1)], [.ref r0, .ref r0], h_4)) rfl ?_
    obtain ⟨x_7, e7, w⟩ := w
    refine gw_gf (hk _ _ rfl) e7 ?_
    refine gw_pst hk 2 (st' := (56, [some (.ref r0), some (.ref r1)], [.int (x_7 + 1), .ref r0], h_4)) rfl ?_
    refine gw_le (L' := [some (.ref r0), none]) (gm_le_k _ (gm_le_n _ gm_le_nil)) ?_
    exact ok41_56 c d Post _ _ _ _ w
def w41_16 (c : gx) (d : Nat) (Post : Option Value → gm_H → Prop) (r0 : Nat) (r1 : Nat) (h : gm_H) : Prop :=
  ∃ fs1 : List Value, gm_get h r0 = some (.inr (4, fs1)) ∧ 1 < fs1.length ∧ ∀ h_1 : gm_H, h_1 = gm_put h r0 (.inr (4, fs1.set 1 (.int 0))) → w41_21 c d Post r0 r1 h_1
theorem ok41_16 (c : gx) (d : Nat) (Post : Option Value → gm_H → Prop)  (r0 : Nat) (r1 : Nat) (h : gm_H) (w : w41_16 c d Post r0 r1 h) : gV c d 41 (16, [some (.ref r0), some (.ref r1)], [], h) Post := by
  have hk : ∀ pc i, gm_find gk_41 pc = some i → gm_code (gt_T c.1 c.2.1 c.2.2.1) 41 pc = some i := fun _ _ z => z
  unfold w41_16 at w
  unfold gV
  refine gw_pst hk 2 (st' := (18, [some (.ref r0), some (.ref r1)], [.int 0, .ref r0], h)) rfl ?_
  obtain ⟨fs1, e1, l1, w⟩ := w
  refine gw_pf (hk _ _ rfl) e1 l1 rfl ?_
  obtain ⟨h_1, eh1⟩ : ∃ z, z = gm_put h r0 (.inr (4, fs1.set 1 (.int 0))) := ⟨_, rfl⟩
  rw [← eh1]
  replace w := w h_1 eh1
  exact ok41_21 c d Post _ _ _ w
/-- CommandByTurns$Past.push(LCommandByTurns$Standing;)V -/
def wm41 (c : gx) (d : Nat) (Post : Option Value → gm_H → Prop) (r0 : Nat) (r1 : Nat) (h : gm_H) : Prop :=
  ∃ x_1 : Int32, gm_fld h r0 4 1 = some (.int x_1) ∧ ((x_1 < 0 → w41_16 c d Post r0 r1 h) ∧ (¬ (x_1 < 0) → ∃ x_3 : Int32, gm_fld h r0 4 1 = some (.int x_3) ∧ ((x_3 < 12 → w41_21 c d Post r0 r1 h) ∧ (¬ (x_3 < 12) → w41_16 c d Post r0 r1 h))))
theorem okm41 (c : gx) (d : Nat) (Post : Option Value → gm_H → Prop) (r0 : Nat) (r1 : Nat) (h : gm_H) (w : wm41 c d Post r0 r1 h) : gE c (d + 1) 41 [.ref r0, .ref r1] h Post := by
  have hk : ∀ pc i, gm_find gk_41 pc = some i → gm_code (gt_T c.1 c.2.1 c.2.2.1) 41 pc = some i := fun _ _ z => z
  unfold wm41 at w
  refine ge_of (by decide) (Nat.le_of_ble_eq_true rfl) ?_
  show gV c d 41 (0, [some (.ref r0), some (.ref r1)], [], h) Post
  unfold gV
  refine gw_pst hk 1 (st' := (1, [some (.ref r0), some (.ref r1)], [.ref r0], h)) rfl ?_
  obtain ⟨x_1, e1, w⟩ := w
  refine gw_gf (hk _ _ rfl) e1 ?_
  refine gw_br (c := x_1 < 0) (a := (16, [some (.ref r0), some (.ref r1)], [], h)) (b := (7, [some (.ref r0), some (.ref r1)], [], h)) (hk _ _ rfl) rfl ⟨fun z2 => ?_, fun z2 => ?_⟩
  · replace w := w.1 z2
    exact ok41_16 c d Post _ _ _ w
  · replace w := w.2 z2
    refine gw_pst hk 1 (st' := (8, [some (.ref r0), some (.ref r1)], [.ref r0], h)) rfl ?_
    obtain ⟨x_3, e3, w⟩ := w
    refine gw_gf (hk _ _ rfl) e3 ?_
    refine gw_pst hk 1 (st' := (13, [some (.ref r0), some (.ref r1)], [.int 12, .int x_3], h)) rfl ?_
    refine gw_br (c := x_3 < 12) (a := (21, [some (.ref r0), some (.ref r1)], [], h)) (b := (16, [some (.ref r0), some (.ref r1)], [], h)) (hk _ _ rfl) rfl ⟨fun z4 => ?_, fun z4 => ?_⟩
    · replace w := w.1 z4
      exact ok41_21 c d Post _ _ _ w
    · replace w := w.2 z4
      exact ok41_16 c d Post _ _ _ w
def w42_37 (c : gx) (d : Nat) (Post : Option Value → gm_H → Prop) (r0 : Nat) (r1 : Nat) (rs0 : Nat) (xs1 : Int32) (h : gm_H) : Prop :=
  ∃ fs1 : List Value, gm_get h rs0 = some (.inr (4, fs1)) ∧ 1 < fs1.length ∧ ∀ h_1 : gm_H, h_1 = gm_put h rs0 (.inr (4, fs1.set 1 (.int xs1))) → ∃ q_2 : Nat, gm_fld h_1 r0 4 0 = some (.ref q_2) ∧ ∃ x_3 : Int32, gm_fld h_1 r0 4 1 = some (.int x_3) ∧ ∃ (n4 : Nat) (f4 : Nat → Option Nat) (q_4 : Nat), gm_get h_1 q_2 = some (.inl (5, n4, .inr (.inr (.inr (.inr f4))))) ∧ vp_in x_3 n4 ∧ f4 (x_3 : Int32).toNatClampNeg = some q_4 ∧ (∃ fs5, gm_get h_1 r1 = some (.inr (6, fs5))) ∧ gE c d 48 [.ref r1, .ref q_4] h_1 (fun v5 h_5 => v5 = none ∧ ∃ x_6 : Int32, gm_fld h_5 r0 4 2 = some (.int x_6) ∧ ∃ fs7 : List Value, gm_get h_5 r0 = some (.inr (4, fs7)) ∧ 2 < fs7.length ∧ ∀ h_7 : gm_H, h_7 = gm_put h_5 r0 (.inr (4, fs7.set 2 (.int (x_6 - 1)))) → Post (some (.int 1)) h_7)
theorem ok42_37 (c : gx) (d : Nat) (Post : Option Value → gm_H → Prop)  (r0 : Nat) (r1 : Nat) (rs0 : Nat) (xs1 : Int32) (h : gm_H) (w : w42_37 c d Post r0 r1 rs0 xs1 h) : gV c d 42 (37, [some (.ref r0), some (.ref r1)], [.int xs1, .ref rs0], h) Post := by
  have hk : ∀ pc i, gm_find gk_42 pc = some i → gm_code (gt_T c.1 c.2.1 c.2.2.1) 42 pc = some i := fun _ _ z => z
  unfold w42_37 at w
  unfold gV
  obtain ⟨fs1, e1, l1, w⟩ := w
  refine gw_pf (hk _ _ rfl) e1 l1 rfl ?_
  obtain ⟨h_1, eh1⟩ : ∃ z, z = gm_put h rs0 (.inr (4, fs1.set 1 (.int xs1))) := ⟨_, rfl⟩
  rw [← eh1]
  replace w := w h_1 eh1
  refine gw_pst hk 2 (st' := (42, [some (.ref r0), some (.ref r1)], [.ref r0, .ref r1], h_1)) rfl ?_
  obtain ⟨q_2, e2, w⟩ := w
  refine gw_gf (hk _ _ rfl) e2 ?_
  refine gw_pst hk 1 (st' := (46, [some (.ref r0), some (.ref r1)], [.ref r0, .ref q_2, .ref r1], h_1)) rfl ?_
  obtain ⟨x_3, e3, w⟩ := w
  refine gw_gf (hk _ _ rfl) e3 ?_
  obtain ⟨n4, f4, q_4, e4, b4, g4, w⟩ := w
  refine gw_aald (hk _ _ rfl) e4 b4 g4 ?_
  obtain ⟨⟨fs5, e5⟩, w⟩ := w
  refine gw_call (jj := 48) (As := [.ref r1, .ref q_4]) (rest := []) (hk _ _ rfl) (fun _ => rfl) rfl rfl (Nat.le_of_ble_eq_true rfl) (gm_rcv_v rfl e5 rfl) ?_
  refine ge_imp w (fun v5 h_5 w => ?_)
  obtain ⟨rfl, w⟩ := w
  show gV c d 42 (53, [some (.ref r0), some (.ref r1)], [], h_5) Post
  refine gw_pst hk 2 (st' := (55, [some (.ref r0), some (.ref r1)], [.ref r0, .ref r0], h_5)) rfl ?_
  obtain ⟨x_6, e6, w⟩ := w
  refine gw_gf (hk _ _ rfl) e6 ?_
  refine gw_pst hk 2 (st' := (60, [some (.ref r0), some (.ref r1)], [.int (x_6 - 1), .ref r0], h_5)) rfl ?_
  obtain ⟨fs7, e7, l7, w⟩ := w
  refine gw_pf (hk _ _ rfl) e7 l7 rfl ?_
  obtain ⟨h_7, eh7⟩ : ∃ z, z = gm_put h_5 r0 (.inr (4, fs7.set 2 (.int (x_6 - 1)))) := ⟨_, rfl⟩
  rw [← eh7]
  replace w := w h_7 eh7
  refine gw_pst hk 1 (st' := (64, [some (.ref r0), some (.ref r1)], [.int 1], h_7)) rfl ?_
  exact gw_ret (hk _ _ rfl) rfl w
def w42_26 (c : gx) (d : Nat) (Post : Option Value → gm_H → Prop) (r0 : Nat) (r1 : Nat) (rs0 : Nat) (h : gm_H) : Prop :=
  w42_37 c d Post r0 r1 rs0 11 h
theorem ok42_26 (c : gx) (d : Nat) (Post : Option Value → gm_H → Prop)  (r0 : Nat) (r1 : Nat) (rs0 : Nat) (h : gm_H) (w : w42_26 c d Post r0 r1 rs0 h) : gV c d 42 (26, [some (.ref r0), some (.ref r1)], [.ref rs0], h) Post := by
  have hk : ∀ pc i, gm_find gk_42 pc = some i → gm_code (gt_T c.1 c.2.1 c.2.2.1) 42 pc = some i := fun _ _ z => z
  unfold w42_26 at w
  unfold gV
  refine gw_pst hk 2 (st' := (37, [some (.ref r0), some (.ref r1)], [.int 11, .ref rs0], h)) rfl ?_
  exact ok42_37 c d Post _ _ _ _ _ w
/-- CommandByTurns$Past.pop(LCommandByTurns$Standing;)Z -/
def wm42 (c : gx) (d : Nat) (Post : Option Value → gm_H → Prop) (r0 : Nat) (r1 : Nat) (h : gm_H) : Prop :=
  ∃ x_1 : Int32, gm_fld h r0 4 2 = some (.int x_1) ∧ ((x_1 = 0 → Post (some (.int 0)) h) ∧ (¬ (x_1 = 0) → ∃ x_3 : Int32, gm_fld h r0 4 1 = some (.int x_3) ∧ ((x_3 ≤ 0 → w42_26 c d Post r0 r1 r0 h) ∧ (¬ (x_3 ≤ 0) → ∃ x_5 : Int32, gm_fld h r0 4 1 = some (.int x_5) ∧ ((x_5 < 12 → ∃ x_7 : Int32, gm_fld h r0 4 1 = some (.int x_7) ∧ w42_37 c d Post r0 r1 r0 (x_7 - 1) h) ∧ (¬ (x_5 < 12) → w42_26 c d Post r0 r1 r0 h))))))
theorem okm42 (c : gx) (d : Nat) (Post : Option Value → gm_H → Prop) (r0 : Nat) (r1 : Nat) (h : gm_H) (w : wm42 c d Post r0 r1 h) : gE c (d + 1) 42 [.ref r0, .ref r1] h Post := by
  have hk : ∀ pc i, gm_find gk_42 pc = some i → gm_code (gt_T c.1 c.2.1 c.2.2.1) 42 pc = some i := fun _ _ z => z
  unfold wm42 at w
  refine ge_of (by decide) (Nat.le_of_ble_eq_true rfl) ?_
  show gV c d 42 (0, [some (.ref r0), some (.ref r1)], [], h) Post
  unfold gV
  refine gw_pst hk 1 (st' := (1, [some (.ref r0), some (.ref r1)], [.ref r0], h)) rfl ?_
  obtain ⟨x_1, e1, w⟩ := w
  refine gw_gf (hk _ _ rfl) e1 ?_
  refine gw_br (c := x_1 = 0) (a := (7, [some (.ref r0), some (.ref r1)], [], h)) (b := (9, [some (.ref r0), some (.ref r1)], [], h)) (hk _ _ rfl) rfl ⟨fun z2 => ?_, fun z2 => ?_⟩
  · replace w := w.1 z2
    refine gw_pst hk 1 (st' := (8, [some (.ref r0), some (.ref r1)], [.int 0], h)) rfl ?_
    exact gw_ret (hk _ _ rfl) rfl w
  · replace w := w.2 z2
    refine gw_pst hk 2 (st' := (11, [some (.ref r0), some (.ref r1)], [.ref r0, .ref r0], h)) rfl ?_
    obtain ⟨x_3, e3, w⟩ := w
    refine gw_gf (hk _ _ rfl) e3 ?_
    refine gw_br (c := x_3 ≤ 0) (a := (26, [some (.ref r0), some (.ref r1)], [.ref r0], h)) (b := (17, [some (.ref r0), some (.ref r1)], [.ref r0], h)) (hk _ _ rfl) rfl ⟨fun z4 => ?_, fun z4 => ?_⟩
    · replace w := w.1 z4
      exact ok42_26 c d Post _ _ _ _ w
    · replace w := w.2 z4
      refine gw_pst hk 1 (st' := (18, [some (.ref r0), some (.ref r1)], [.ref r0, .ref r0], h)) rfl ?_
      obtain ⟨x_5, e5, w⟩ := w
      refine gw_gf (hk _ _ rfl) e5 ?_
      refine gw_pst hk 1 (st' := (23, [some (.ref r0), some (.ref r1)], [.int 12, .int x_5, .ref r0], h)) rfl ?_
      refine gw_br (c := x_5 < 12) (a := (31, [some (.ref r0), some (.ref r1)], [.ref r0], h)) (b := (26, [some (.ref r0), some (.ref r1)], [.ref r0], h)) (hk _ _ rfl) rfl ⟨fun z6 => ?_, fun z6 => ?_⟩
      · replace w := w.1 z6
        refine gw_pst hk 1 (st' := (32, [some (.ref r0), some (.ref r1)], [.ref r0, .ref r0], h)) rfl ?_
        obtain ⟨x_7, e7, w⟩ := w
        refine gw_gf (hk _ _ rfl) e7 ?_
        refine gw_pst hk 2 (st' := (37, [some (.ref r0), some (.ref r1)], [.int (x_7 - 1), .ref r0], h)) rfl ?_
        exact ok42_37 c d Post _ _ _ _ _ w
      · replace w := w.2 z6
        exact ok42_26 c d Post _ _ _ _ w
