/-! What must hold for a run to end with Post: by program (wip/whole/gen_wp.py). -/
def w75_22 (c : gx) (d : Nat) (Post : Option Value → gm_H → Prop) (xs0 : Int32) (h : gm_H) : Prop :=
  Post (some (.int xs0)) h
theorem ok75_22 (c : gx) (d : Nat) (Post : Option Value → gm_H → Prop)  (xs0 : Int32) (h : gm_H) (w : w75_22 c d Post xs0 h) : gV c d 75 (22, [none, none], [.int xs0], h) Post := by
  have hk : ∀ pc i, gm_find gk_75 pc = some i → gm_code (gt_T c.1 c.2.1 c.2.2.1) 75 pc = some i := fun _ _ z => z
  unfold w75_22 at w
  unfold gV
  exact gw_ret (hk _ _ rfl) rfl w
/-- CommandByTurns.sign(I)I -/
def wm75 (c : gx) (d : Nat) (Post : Option Value → gm_H → Prop) (r0 : Nat) (x1 : Int32) (h : gm_H) : Prop :=
  ∃ q_1 : Nat, gm_fld h r0 9 0 = some (.ref q_1) ∧ (∃ fs2, gm_get h q_1 = some (.inr (7, fs2))) ∧ gE c d 62 [.ref q_1, .int x1] h (fun v2 h_2 => ∃ x_2 : Int32, v2 = some (.int x_2) ∧ ((x_2 = 0 → w75_22 c d Post (-1) h_2) ∧ (¬ (x_2 = 0) → ∃ q_4 : Nat, gm_fld h_2 r0 9 0 = some (.ref q_4) ∧ ∃ x_5 : Int32, gm_fld h_2 q_4 7 1 = some (.int x_5) ∧ w75_22 c d Post x_5 h_2)))
theorem okm75 (c : gx) (d : Nat) (Post : Option Value → gm_H → Prop) (r0 : Nat) (x1 : Int32) (h : gm_H) (w : wm75 c d Post r0 x1 h) : gE c (d + 1) 75 [.ref r0, .int x1] h Post := by
  have hk : ∀ pc i, gm_find gk_75 pc = some i → gm_code (gt_T c.1 c.2.1 c.2.2.1) 75 pc = some i := fun _ _ z => z
  unfold wm75 at w
  refine ge_of (by decide) (Nat.le_of_ble_eq_true rfl) ?_
  show gV c d 75 (0, [some (.ref r0), some (.int x1)], [], h) Post
  unfold gV
  refine gw_pst hk 1 (st' := (1, [some (.ref r0), some (.int x1)], [.ref r0], h)) rfl ?_
  obtain ⟨q_1, e1, w⟩ := w
  refine gw_gf (hk _ _ rfl) e1 ?_
  refine gw_pst hk 1 (st' := (5, [some (.ref r0), some (.int x1)], [.int x1, .ref q_1], h)) rfl ?_
  obtain ⟨⟨fs2, e2⟩, w⟩ := w
  refine gw_call (jj := 62) (As := [.ref q_1, .int x1]) (rest := []) (hk _ _ rfl) (fun _ => rfl) rfl rfl (Nat.le_of_ble_eq_true rfl) (gm_rcv_v rfl e2 rfl) ?_
  refine ge_imp w (fun v2 h_2 w => ?_)
  obtain ⟨x_2, rfl, w⟩ := w
  show gV c d 75 (8, [some (.ref r0), some (.int x1)], [.int x_2], h_2) Post
  refine gw_br (c := x_2 = 0) (a := (21, [some (.ref r0), some (.int x1)], [], h_2)) (b := (11, [some (.ref r0), some (.int x1)], [], h_2)) (hk _ _ rfl) rfl ⟨fun z3 => ?_, fun z3 => ?_⟩
  · replace w := w.1 z3
    refine gw_pst hk 1 (st' := (22, [some (.ref r0), some (.int x1)], [.int (-1)], h_2)) rfl ?_
    refine gw_le (L' := [none, none]) (gm_le_n _ (gm_le_n _ gm_le_nil)) ?_
    exact ok75_22 c d Post _ _ w
  · replace w := w.2 z3
    refine gw_pst hk 1 (st' := (12, [some (.ref r0), some (.int x1)], [.ref r0], h_2)) rfl ?_
    obtain ⟨q_4, e4, w⟩ := w
    refine gw_gf (hk _ _ rfl) e4 ?_
    obtain ⟨x_5, e5, w⟩ := w
    refine gw_gf (hk _ _ rfl) e5 ?_
    refine gw_pst hk 1 (st' := (22, [some (.ref r0), some (.int x1)], [.int x_5], h_2)) rfl ?_
    refine gw_le (L' := [none, none]) (gm_le_n _ (gm_le_n _ gm_le_nil)) ?_
    exact ok75_22 c d Post _ _ w
def w76_15 (c : gx) (d : Nat) (Post : Option Value → gm_H → Prop)  (h : gm_H) : Prop :=
  Post (some (.int 0)) h
theorem ok76_15 (c : gx) (d : Nat) (Post : Option Value → gm_H → Prop)   (h : gm_H) (w : w76_15 c d Post  h) : gV c d 76 (15, [none, none], [], h) Post := by
  have hk : ∀ pc i, gm_find gk_76 pc = some i → gm_code (gt_T c.1 c.2.1 c.2.2.1) 76 pc = some i := fun _ _ z => z
  unfold w76_15 at w
  unfold gV
  refine gw_pst hk 1 (st' := (16, [none, none], [.int 0], h)) rfl ?_
  exact gw_ret (hk _ _ rfl) rfl w
/-- CommandByTurns.end(I)Z -/
def wm76 (c : gx) (d : Nat) (Post : Option Value → gm_H → Prop) (r0 : Nat) (x1 : Int32) (h : gm_H) : Prop :=
  ((x1 < 0 → w76_15 c d Post h) ∧ (¬ (x1 < 0) → ∃ q_2 : Nat, gm_fld h r0 9 0 = some (.ref q_2) ∧ ∃ x_3 : Int32, gm_fld h q_2 7 1 = some (.int x_3) ∧ ((x1 ≤ x_3 → ∃ q_5 : Nat, gm_fld h r0 9 0 = some (.ref q_5) ∧ ∃ fs6 : List Value, gm_get h q_5 = some (.inr (7, fs6)) ∧ 1 < fs6.length ∧ ∀ h_6 : gm_H, h_6 = gm_put h q_5 (.inr (7, fs6.set 1 (.int x1))) → Post (some (.int 1)) h_6) ∧ (¬ (x1 ≤ x_3) → w76_15 c d Post h))))
theorem okm76 (c : gx) (d : Nat) (Post : Option Value → gm_H → Prop) (r0 : Nat) (x1 : Int32) (h : gm_H) (w : wm76 c d Post r0 x1 h) : gE c (d + 1) 76 [.ref r0, .int x1] h Post := by
  have hk : ∀ pc i, gm_find gk_76 pc = some i → gm_code (gt_T c.1 c.2.1 c.2.2.1) 76 pc = some i := fun _ _ z => z
  unfold wm76 at w
  refine ge_of (by decide) (Nat.le_of_ble_eq_true rfl) ?_
  show gV c d 76 (0, [some (.ref r0), some (.int x1)], [], h) Post
  unfold gV
  refine gw_pst hk 1 (st' := (1, [some (.ref r0), some (.int x1)], [.int x1], h)) rfl ?_
  refine gw_br (c := x1 < 0) (a := (15, [some (.ref r0), some (.int x1)], [], h)) (b := (4, [some (.ref r0), some (.int x1)], [], h)) (hk _ _ rfl) rfl ⟨fun z1 => ?_, fun z1 => ?_⟩
  · replace w := w.1 z1
    refine gw_le (L' := [none, none]) (gm_le_n _ (gm_le_n _ gm_le_nil)) ?_
    exact ok76_15 c d Post _ w
  · replace w := w.2 z1
    refine gw_pst hk 2 (st' := (6, [some (.ref r0), some (.int x1)], [.ref r0, .int x1], h)) rfl ?_
    obtain ⟨q_2, e2, w⟩ := w
    refine gw_gf (hk _ _ rfl) e2 ?_
    obtain ⟨x_3, e3, w⟩ := w
    refine gw_gf (hk _ _ rfl) e3 ?_
    refine gw_br (c := x1 ≤ x_3) (a := (17, [some (.ref r0), some (.int x1)], [], h)) (b := (15, [some (.ref r0), some (.int x1)], [], h)) (hk _ _ rfl) rfl ⟨fun z4 => ?_, fun z4 => ?_⟩
    · replace w := w.1 z4
      refine gw_pst hk 1 (st' := (18, [some (.ref r0), some (.int x1)], [.ref r0], h)) rfl ?_
      obtain ⟨q_5, e5, w⟩ := w
      refine gw_gf (hk _ _ rfl) e5 ?_
      refine gw_pst hk 1 (st' := (22, [some (.ref r0), some (.int x1)], [.int x1, .ref q_5], h)) rfl ?_
      obtain ⟨fs6, e6, l6, w⟩ := w
      refine gw_pf (hk _ _ rfl) e6 l6 rfl ?_
      obtain ⟨h_6, eh6⟩ : ∃ z, z = gm_put h q_5 (.inr (7, fs6.set 1 (.int x1))) := ⟨_, rfl⟩
      rw [← eh6]
      replace w := w h_6 eh6
      refine gw_pst hk 1 (st' := (26, [some (.ref r0), some (.int x1)], [.int 1], h_6)) rfl ?_
      exact gw_ret (hk _ _ rfl) rfl w
    · replace w := w.2 z4
      refine gw_le (L' := [none, none]) (gm_le_n _ (gm_le_n _ gm_le_nil)) ?_
      exact ok76_15 c d Post _ w
def w77_87 (c : gx) (d : Nat) (Post : Option Value → gm_H → Prop) (xs0 : Int32) (h : gm_H) : Prop :=
  Post (some (.int xs0)) h
theorem ok77_87 (c : gx) (d : Nat) (Post : Option Value → gm_H → Prop)  (xs0 : Int32) (h : gm_H) (w : w77_87 c d Post xs0 h) : gV c d 77 (87, [none, none], [.int xs0], h) Post := by
  have hk : ∀ pc i, gm_find gk_77 pc = some i → gm_code (gt_T c.1 c.2.1 c.2.2.1) 77 pc = some i := fun _ _ z => z
  unfold w77_87 at w
  unfold gV
  exact gw_ret (hk _ _ rfl) rfl w
def w77_61 (c : gx) (d : Nat) (Post : Option Value → gm_H → Prop) (r0 : Nat) (x1 : Int32) (h : gm_H) : Prop :=
  ∃ q_1 : Nat, gm_fld h r0 9 0 = some (.ref q_1) ∧ ∃ fs2 : List Value, gm_get h q_1 = some (.inr (7, fs2)) ∧ 1 < fs2.length ∧ ∀ h_2 : gm_H, h_2 = gm_put h q_1 (.inr (7, fs2.set 1 (.int 0))) → ((x1 = (-1) → ∃ q_4 : Nat, gm_fld h_2 r0 9 1 = some (.ref q_4) ∧ ∃ x_5 : Int32, gm_fld h_2 q_4 1 2 = some (.int x_5) ∧ w77_87 c d Post x_5 h_2) ∧ (¬ (x1 = (-1)) → w77_87 c d Post ((-1) - x1) h_2))
theorem ok77_61 (c : gx) (d : Nat) (Post : Option Value → gm_H → Prop)  (r0 : Nat) (x1 : Int32) (h : gm_H) (w : w77_61 c d Post r0 x1 h) : gV c d 77 (61, [some (.ref r0), some (.int x1)], [], h) Post := by
  have hk : ∀ pc i, gm_find gk_77 pc = some i → gm_code (gt_T c.1 c.2.1 c.2.2.1) 77 pc = some i := fun _ _ z => z
  unfold w77_61 at w
  unfold gV
  refine gw_pst hk 1 (st' := (62, [some (.ref r0), some (.int x1)], [.ref r0], h)) rfl ?_
  obtain ⟨q_1, e1, w⟩ := w
  refine gw_gf (hk _ _ rfl) e1 ?_
  refine gw_pst hk 1 (st' := (66, [some (.ref r0), some (.int x1)], [.int 0, .ref q_1], h)) rfl ?_
  obtain ⟨fs2, e2, l2, w⟩ := w
  refine gw_pf (hk _ _ rfl) e2 l2 rfl ?_
  obtain ⟨h_2, eh2⟩ : ∃ z, z = gm_put h q_1 (.inr (7, fs2.set 1 (.int 0))) := ⟨_, rfl⟩
  rw [← eh2]
  replace w := w h_2 eh2
  refine gw_pst hk 2 (st' := (71, [some (.ref r0), some (.int x1)], [.int (-1), .int x1], h_2)) rfl ?_
  refine gw_br (c := x1 = (-1)) (a := (74, [some (.ref r0), some (.int x1)], [], h_2)) (b := (84, [some (.ref r0), some (.int x1)], [], h_2)) (hk _ _ rfl) rfl ⟨fun z3 => ?_, fun z3 => ?_⟩
  · replace w := w.1 z3
    refine gw_pst hk 1 (st' := (75, [some (.ref r0), some (.int x1)], [.ref r0], h_2)) rfl ?_
    obtain ⟨q_4, e4, w⟩ := w
    refine gw_gf (hk _ _ rfl) e4 ?_
    obtain ⟨x_5, e5, w⟩ := w
    refine gw_gf (hk _ _ rfl) e5 ?_
    refine gw_pst hk 1 (st' := (87, [some (.ref r0), some (.int x1)], [.int x_5], h_2)) rfl ?_
    refine gw_le (L' := [none, none]) (gm_le_n _ (gm_le_n _ gm_le_nil)) ?_
    exact ok77_87 c d Post _ _ w
  · replace w := w.2 z3
    refine gw_pst hk 3 (st' := (87, [some (.ref r0), some (.int x1)], [.int ((-1) - x1)], h_2)) rfl ?_
    refine gw_le (L' := [none, none]) (gm_le_n _ (gm_le_n _ gm_le_nil)) ?_
    exact ok77_87 c d Post _ _ w
/-- CommandByTurns.ground()I -/
def wm77 (c : gx) (d : Nat) (Post : Option Value → gm_H → Prop) (r0 : Nat) (h : gm_H) : Prop :=
  ∃ q_1 : Nat, gm_fld h r0 9 0 = some (.ref q_1) ∧ gE c d 23 [.ref q_1] h (fun v2 h_2 => ∃ x_2 : Int32, v2 = some (.int x_2) ∧ ((x_2 = (-1) → ∃ q_4 : Nat, gm_fld h_2 r0 9 1 = some (.ref q_4) ∧ ∃ q_5 : Nat, gm_fld h_2 r0 9 0 = some (.ref q_5) ∧ (∃ fs6, gm_get h_2 q_4 = some (.inr (1, fs6))) ∧ gE c d 24 [.ref q_4, .ref q_5] h_2 (fun v6 h_6 => v6 = none ∧ ∃ q_7 : Nat, gm_fld h_6 r0 9 5 = some (.ref q_7) ∧ ∃ fs8 : List Value, gm_get h_6 q_7 = some (.inr (6, fs8)) ∧ 1 < fs8.length ∧ ∀ h_8 : gm_H, h_8 = gm_put h_6 q_7 (.inr (6, fs8.set 1 (.int 0))) → ∃ q_9 : Nat, gm_fld h_8 r0 9 5 = some (.ref q_9) ∧ ∃ q_10 : Nat, gm_fld h_8 r0 9 1 = some (.ref q_10) ∧ ∃ x_11 : Int32, gm_fld h_8 q_10 1 2 = some (.int x_11) ∧ ∃ fs12 : List Value, gm_get h_8 q_9 = some (.inr (6, fs12)) ∧ 2 < fs12.length ∧ ∀ h_12 : gm_H, h_12 = gm_put h_8 q_9 (.inr (6, fs12.set 2 (.int (x_11 - 1)))) → ∃ q_13 : Nat, gm_fld h_12 r0 9 8 = some (.ref q_13) ∧ ∃ fs14 : List Value, gm_get h_12 q_13 = some (.inr (4, fs14)) ∧ 2 < fs14.length ∧ ∀ h_14 : gm_H, h_14 = gm_put h_12 q_13 (.inr (4, fs14.set 2 (.int 0))) → ∃ fs15 : List Value, gm_get h_14 r0 = some (.inr (9, fs15)) ∧ 10 < fs15.length ∧ ∀ h_15 : gm_H, h_15 = gm_put h_14 r0 (.inr (9, fs15.set 10 (.int 0))) → w77_61 c d Post r0 x_2 h_15)) ∧ (¬ (x_2 = (-1)) → w77_61 c d Post r0 x_2 h_2)))
theorem okm77 (c : gx) (d : Nat) (Post : Option Value → gm_H → Prop) (r0 : Nat) (h : gm_H) (w : wm77 c d Post r0 h) : gE c (d + 1) 77 [.ref r0] h Post := by
  have hk : ∀ pc i, gm_find gk_77 pc = some i → gm_code (gt_T c.1 c.2.1 c.2.2.1) 77 pc = some i := fun _ _ z => z
  unfold wm77 at w
  refine ge_of (by decide) (Nat.le_of_ble_eq_true rfl) ?_
  show gV c d 77 (0, [some (.ref r0), none], [], h) Post
  unfold gV
  refine gw_pst hk 1 (st' := (1, [some (.ref r0), none], [.ref r0], h)) rfl ?_
  obtain ⟨q_1, e1, w⟩ := w
  refine gw_gf (hk _ _ rfl) e1 ?_
  refine gw_call (jj := 23) (As := [.ref q_1]) (rest := []) (hk _ _ rfl) (fun _ => rfl) rfl rfl (Nat.le_of_ble_eq_true rfl) rfl ?_
  refine ge_imp w (fun v2 h_2 w => ?_)
  obtain ⟨x_2, rfl, w⟩ := w
  show gV c d 77 (7, [some (.ref r0), none], [.int x_2], h_2) Post
  refine gw_pst hk 3 (st' := (10, [some (.ref r0), some (.int x_2)], [.int (-1), .int x_2], h_2)) rfl ?_
  refine gw_br (c := x_2 = (-1)) (a := (13, [some (.ref r0), some (.int x_2)], [], h_2)) (b := (61, [some (.ref r0), some (.int x_2)], [], h_2)) (hk _ _ rfl) rfl ⟨fun z3 => ?_, fun z3 => ?_⟩
  · replace w := w.1 z3
    refine gw_pst hk 1 (st' := (14, [some (.ref r0), some (.int x_2)], [.ref r0], h_2)) rfl ?_
    obtain ⟨q_4, e4, w⟩ := w
    refine gw_gf (hk _ _ rfl) e4 ?_
    refine gw_pst hk 1 (st' := (18, [some (.ref r0), some (.int x_2)], [.ref r0, .ref q_4], h_2)) rfl ?_
    obtain ⟨q_5, e5, w⟩ := w
    refine gw_gf (hk _ _ rfl) e5 ?_
    obtain ⟨⟨fs6, e6⟩, w⟩ := w
    refine gw_call (jj := 24) (As := [.ref q_4, .ref q_5]) (rest := []) (hk _ _ rfl) (fun _ => rfl) rfl rfl (Nat.le_of_ble_eq_true rfl) (gm_rcv_v rfl e6 rfl) ?_
    refine ge_imp w (fun v6 h_6 w => ?_)
    obtain ⟨rfl, w⟩ := w
    show gV c d 77 (24, [some (.ref r0), some (.int x_2)], [], h_6) Post
    refine gw_pst hk 1 (st' := (25, [some (.ref r0), some (.int x_2)], [.ref r0], h_6)) rfl ?_
    obtain ⟨q_7, e7, w⟩ := w
    refine gw_gf (hk _ _ rfl) e7 ?_
    refine gw_pst hk 1 (st' := (29, [some (.ref r0), some (.int x_2)], [.int 0, .ref q_7], h_6)) rfl ?_
    obtain ⟨fs8, e8, l8, w⟩ := w
    refine gw_pf (hk _ _ rfl) e8 l8 rfl ?_
    obtain ⟨h_8, eh8⟩ : ∃ z, z = gm_put h_6 q_7 (.inr (6, fs8.set 1 (.int 0))) := ⟨_, rfl⟩
    rw [← eh8]
    replace w := w h_8 eh8
    refine gw_pst hk 1 (st' := (33, [some (.ref r0), some (.int x_2)], [.ref r0], h_8)) rfl ?_
    obtain ⟨q_9, e9, w⟩ := w
    refine gw_gf (hk _ _ rfl) e9 ?_
    refine gw_pst hk 1 (st' := (37, [some (.ref r0), some (.int x_2)], [.ref r0, .ref q_9], h_8)) rfl ?_
    obtain ⟨q_10, e10, w⟩ := w
    refine gw_gf (hk _ _ rfl) e10 ?_
    obtain ⟨x_11, e11, w⟩ := w
    refine gw_gf (hk _ _ rfl) e11 ?_
    refine gw_pst hk 2 (st' := (45, [some (.ref r0), some (.int x_2)], [.int (x_11 - 1), .ref q_9], h_8)) rfl ?_
    obtain ⟨fs12, e12, l12, w⟩ := w
    refine gw_pf (hk _ _ rfl) e12 l12 rfl ?_
    obtain ⟨h_12, eh12⟩ : ∃ z, z = gm_put h_8 q_9 (.inr (6, fs12.set 2 (.int (x_11 - 1)))) := ⟨_, rfl⟩
    rw [← eh12]
    replace w := w h_12 eh12
    refine gw_pst hk 1 (st' := (49, [some (.ref r0), some (.int x_2)], [.ref r0], h_12)) rfl ?_
    obtain ⟨q_13, e13, w⟩ := w
    refine gw_gf (hk _ _ rfl) e13 ?_
    refine gw_pst hk 1 (st' := (53, [some (.ref r0), some (.int x_2)], [.int 0, .ref q_13], h_12)) rfl ?_
    obtain ⟨fs14, e14, l14, w⟩ := w
    refine gw_pf (hk _ _ rfl) e14 l14 rfl ?_
    obtain ⟨h_14, eh14⟩ : ∃ z, z = gm_put h_12 q_13 (.inr (4, fs14.set 2 (.int 0))) := ⟨_, rfl⟩
    rw [← eh14]
    replace w := w h_14 eh14
    refine gw_pst hk 2 (st' := (58, [some (.ref r0), some (.int x_2)], [.int 0, .ref r0], h_14)) rfl ?_
    obtain ⟨fs15, e15, l15, w⟩ := w
    refine gw_pf (hk _ _ rfl) e15 l15 rfl ?_
    obtain ⟨h_15, eh15⟩ : ∃ z, z = gm_put h_14 r0 (.inr (9, fs15.set 10 (.int 0))) := ⟨_, rfl⟩
    rw [← eh15]
    replace w := w h_15 eh15
    exact ok77_61 c d Post _ _ _ w
  · replace w := w.2 z3
    exact ok77_61 c d Post _ _ _ w
def w78_61 (c : gx) (d : Nat) (Post : Option Value → gm_H → Prop) (r0 : Nat) (x2 : Int32) (h : gm_H) : Prop :=
  ∃ q_1 : Nat, gm_fld h r0 9 0 = some (.ref q_1) ∧ ∃ fs2 : List Value, gm_get h q_1 = some (.inr (7, fs2)) ∧ 1 < fs2.length ∧ ∀ h_2 : gm_H, h_2 = gm_put h q_1 (.inr (7, fs2.set 1 (.int 0))) → Post (some (.int x2)) h_2
theorem ok78_61 (c : gx) (d : Nat) (Post : Option Value → gm_H → Prop)  (r0 : Nat) (x2 : Int32) (h : gm_H) (w : w78_61 c d Post r0 x2 h) : gV c d 78 (61, [some (.ref r0), none, some (.int x2), none], [], h) Post := by
  have hk : ∀ pc i, gm_find gk_78 pc = some i → gm_code (gt_T c.1 c.2.1 c.2.2.1) 78 pc = some i := fun _ _ z => z
  unfold w78_61 at w
  unfold gV
  refine gw_pst hk 1 (st' := (62, [some (.ref r0), none, some (.int x2), none], [.ref r0], h)) rfl ?_
  obtain ⟨q_1, e1, w⟩ := w
  refine gw_gf (hk _ _ rfl) e1 ?_
  refine gw_pst hk 1 (st' := (66, [some (.ref r0), none, some (.int x2), none], [.int 0, .ref q_1], h)) rfl ?_
  obtain ⟨fs2, e2, l2, w⟩ := w
  refine gw_pf (hk _ _ rfl) e2 l2 rfl ?_
  obtain ⟨h_2, eh2⟩ : ∃ z, z = gm_put h q_1 (.inr (7, fs2.set 1 (.int 0))) := ⟨_, rfl⟩
  rw [← eh2]
  replace w := w h_2 eh2
  refine gw_pst hk 1 (st' := (70, [some (.ref r0), none, some (.int x2), none], [.int x2], h_2)) rfl ?_
  exact gw_ret (hk _ _ rfl) rfl w
def w78_60 (c : gx) (d : Nat) (Post : Option Value → gm_H → Prop) (r0 : Nat) (xs0 : Int32) (h : gm_H) : Prop :=
  w78_61 c d Post r0 xs0 h
theorem ok78_60 (c : gx) (d : Nat) (Post : Option Value → gm_H → Prop)  (r0 : Nat) (xs0 : Int32) (h : gm_H) (w : w78_60 c d Post r0 xs0 h) : gV c d 78 (60, [some (.ref r0), none, none, none], [.int xs0], h) Post := by
  have hk : ∀ pc i, gm_find gk_78 pc = some i → gm_code (gt_T c.1 c.2.1 c.2.2.1) 78 pc = some i := fun _ _ z => z
  unfold w78_60 at w
  unfold gV
  refine gw_pst hk 1 (st' := (61, [some (.ref r0), none, some (.int xs0), none], [], h)) rfl ?_
  exact ok78_61 c d Post _ _ _ w
def w78_42 (c : gx) (d : Nat) (Post : Option Value → gm_H → Prop) (r0 : Nat) (x3 : Int32) (h : gm_H) : Prop :=
  ((x3 = (-1) → ∃ q_2 : Nat, gm_fld h r0 9 0 = some (.ref q_2) ∧ ∃ x_3 : Int32, gm_fld h q_2 7 1 = some (.int x_3) ∧ w78_60 c d Post r0 x_3 h) ∧ (¬ (x3 = (-1)) → w78_60 c d Post r0 ((-1) - x3) h))
theorem ok78_42 (c : gx) (d : Nat) (Post : Option Value → gm_H → Prop)  (r0 : Nat) (x3 : Int32) (h : gm_H) (w : w78_42 c d Post r0 x3 h) : gV c d 78 (42, [some (.ref r0), none, none, some (.int x3)], [], h) Post := by
  have hk : ∀ pc i, gm_find gk_78 pc = some i → gm_code (gt_T c.1 c.2.1 c.2.2.1) 78 pc = some i := fun _ _ z => z
  unfold w78_42 at w
  unfold gV
  refine gw_pst hk 2 (st' := (44, [some (.ref r0), none, none, some (.int x3)], [.int (-1), .int x3], h)) rfl ?_
  refine gw_br (c := x3 = (-1)) (a := (47, [some (.ref r0), none, none, some (.int x3)], [], h)) (b := (57, [some (.ref r0), none, none, some (.int x3)], [], h)) (hk _ _ rfl) rfl ⟨fun z1 => ?_, fun z1 => ?_⟩
  · replace w := w.1 z1
    refine gw_pst hk 1 (st' := (48, [some (.ref r0), none, none, some (.int x3)], [.ref r0], h)) rfl ?_
    obtain ⟨q_2, e2, w⟩ := w
    refine gw_gf (hk _ _ rfl) e2 ?_
    obtain ⟨x_3, e3, w⟩ := w
    refine gw_gf (hk _ _ rfl) e3 ?_
    refine gw_pst hk 1 (st' := (60, [some (.ref r0), none, none, some (.int x3)], [.int x_3], h)) rfl ?_
    refine gw_le (L' := [some (.ref r0), none, none, none]) (gm_le_k _ (gm_le_k _ (gm_le_k _ (gm_le_n _ gm_le_nil)))) ?_
    exact ok78_60 c d Post _ _ _ w
  · replace w := w.2 z1
    refine gw_pst hk 3 (st' := (60, [some (.ref r0), none, none, some (.int x3)], [.int ((-1) - x3)], h)) rfl ?_
    refine gw_le (L' := [some (.ref r0), none, none, none]) (gm_le_k _ (gm_le_k _ (gm_le_k _ (gm_le_n _ gm_le_nil)))) ?_
    exact ok78_60 c d Post _ _ _ w
/-- CommandByTurns.wishes(I)I -/
def wm78 (c : gx) (d : Nat) (Post : Option Value → gm_H → Prop) (r0 : Nat) (x1 : Int32) (h : gm_H) : Prop :=
  gE c d 147 [.int x1] h (fun v1 h_1 => ∃ x_1 : Int32, v1 = some (.int x_1) ∧ ((x_1 = 0 → w78_61 c d Post r0 (-100) h_1) ∧ (¬ (x_1 = 0) → ∃ q_3 : Nat, gm_fld h_1 r0 9 0 = some (.ref q_3) ∧ gE c d 28 [.ref q_3] h_1 (fun v4 h_4 => ∃ x_4 : Int32, v4 = some (.int x_4) ∧ ((x_4 = (-1) → (∃ fs6, gm_get h_4 r0 = some (.inr (9, fs6))) ∧ gE c d 148 [.ref r0, .int x1] h_4 (fun v6 h_6 => ∃ q_6 : Nat, v6 = some (.ref q_6) ∧ ∃ q_7 : Nat, gm_fld h_6 r0 9 0 = some (.ref q_7) ∧ ∃ q_8 : Nat, gm_fld h_6 r0 9 5 = some (.ref q_8) ∧ ∃ x_9 : Int32, gm_fld h_6 q_8 6 0 = some (.int x_9) ∧ (∃ fs10, gm_get h_6 q_6 = some (.inr (2, fs10))) ∧ gE c d 29 [.ref q_6, .ref q_7, .int x_9] h_6 (fun v10 h_10 => v10 = none ∧ w78_42 c d Post r0 x_4 h_10))) ∧ (¬ (x_4 = (-1)) → w78_42 c d Post r0 x_4 h_4))))))
theorem okm78 (c : gx) (d : Nat) (Post : Option Value → gm_H → Prop) (r0 : Nat) (x1 : Int32) (h : gm_H) (w : wm78 c d Post r0 x1 h) : gE c (d + 1) 78 [.ref r0, .int x1] h Post := by
  have hk : ∀ pc i, gm_find gk_78 pc = some i → gm_code (gt_T c.1 c.2.1 c.2.2.1) 78 pc = some i := fun _ _ z => z
  unfold wm78 at w
  refine ge_of (by decide) (Nat.le_of_ble_eq_true rfl) ?_
  show gV c d 78 (0, [some (.ref r0), some (.int x1), none, none], [], h) Post
  unfold gV
  refine gw_pst hk 3 (st' := (4, [some (.ref r0), some (.int x1), some (.int (-100)), none], [.int x1], h)) rfl ?_
  refine gw_call (jj := 147) (As := [.int x1]) (rest := []) (hk _ _ rfl) (fun _ => rfl) rfl rfl (Nat.le_of_ble_eq_true rfl) rfl ?_
  refine ge_imp w (fun v1 h_1 w => ?_)
  obtain ⟨x_1, rfl, w⟩ := w
  show gV c d 78 (7, [some (.ref r0), some (.int x1), some (.int (-100)), none], [.int x_1], h_1) Post
  refine gw_br (c := x_1 = 0) (a := (61, [some (.ref r0), some (.int x1), some (.int (-100)), none], [], h_1)) (b := (10, [some (.ref r0), some (.int x1), some (.int (-100)), none], [], h_1)) (hk _ _ rfl) rfl ⟨fun z2 => ?_, fun z2 => ?_⟩
  · replace w := w.1 z2
    refine gw_le (L' := [some (.ref r0), none, some (.int (-100)), none]) (gm_le_k _ (gm_le_n _ (gm_le_k _ (gm_le_k _ gm_le_nil)))) ?_
    exact ok78_61 c d Post _ _ _ w
  · replace w := w.2 z2
    refine gw_pst hk 1 (st' := (11, [some (.ref r0), some (.int x1), some (.int (-100)), none], [.ref r0], h_1)) rfl ?_
    obtain ⟨q_3, e3, w⟩ := w
    refine gw_gf (hk _ _ rfl) e3 ?_
    refine gw_call (jj := 28) (As := [.ref q_3]) (rest := []) (hk _ _ rfl) (fun _ => rfl) rfl rfl (Nat.le_of_ble_eq_true rfl) rfl ?_
    refine ge_imp w (fun v4 h_4 w => ?_)
    obtain ⟨x_4, rfl, w⟩ := w
    show gV c d 78 (17, [some (.ref r0), some (.int x1), some (.int (-100)), none], [.int x_4], h_4) Post
    refine gw_pst hk 3 (st' := (20, [some (.ref r0), some (.int x1), some (.int (-100)), some (.int x_4)], [.int (-1), .int x_4], h_4)) rfl ?_
    refine gw_br (c := x_4 = (-1)) (a := (23, [some (.ref r0), some (.int x1), some (.int (-100)), some (.int x_4)], [], h_4)) (b := (42, [some (.ref r0), some (.int x1), some (.int (-100)), some (.int x_4)], [], h_4)) (hk _ _ rfl) rfl ⟨fun z5 => ?_, fun z5 => ?_⟩
    · replace w := w.1 z5
      refine gw_pst hk 2 (st' := (25, [some (.ref r0), some (.int x1), some (.int (-100)), some (.int x_4)], [.int x1, .ref r0], h_4)) rfl ?_
      obtain ⟨⟨fs6, e6⟩, w⟩ := w
      refine gw_call (jj := 148) (As := [.ref r0, .int x1]) (rest := []) (hk _ _ rfl) (fun _ => rfl) rfl rfl (Nat.le_of_ble_eq_true rfl) (gm_rcv_v rfl e6 rfl) ?_
      refine ge_imp w (fun v6 h_6 w => ?_)
      obtain ⟨q_6, rfl, w⟩ := w
      show gV c d 78 (28, [some (.ref r0), some (.int x1), some (.int (-100)), some (.int x_4)], [.ref q_6], h_6) Post
      refine gw_pst hk 1 (st' := (29, [some (.ref r0), some (.int x1), some (.int (-100)), some (.int x_4)], [.ref r0, .ref q_6], h_6)) rfl ?_
      obtain ⟨q_7, e7, w⟩ := w
      refine gw_gf (hk _ _ rfl) e7 ?_
      refine gw_pst hk 1 (st' := (33, [some (.ref r0), some (.int x1), some (.int (-100)), some (.int x_4)], [.ref r0, .ref q_7, .ref q_6], h_6)) rfl ?_
      obtain ⟨q_8, e8, w⟩ := w
      refine gw_gf (hk _ _ rfl) e8 ?_
      obtain ⟨x_9, e9, w⟩ := w
      refine gw_gf (hk _ _ rfl) e9 ?_
      obtain ⟨⟨fs10, e10⟩, w⟩ := w
      refine gw_call (jj := 29) (As := [.ref q_6, .ref q_7, .int x_9]) (rest := []) (hk _ _ rfl) (fun _ => rfl) rfl rfl (Nat.le_of_ble_eq_true rfl) (gm_rcv_v rfl e10 rfl) ?_
      refine ge_imp w (fun v10 h_10 w => ?_)
      obtain ⟨rfl, w⟩ := w
      show gV c d 78 (42, [some (.ref r0), some (.int x1), some (.int (-100)), some (.int x_4)], [], h_10) Post
      refine gw_le (L' := [some (.ref r0), none, none, some (.int x_4)]) (gm_le_k _ (gm_le_n _ (gm_le_n _ (gm_le_k _ gm_le_nil)))) ?_
      exact ok78_42 c d Post _ _ _ w
    · replace w := w.2 z5
      refine gw_le (L' := [some (.ref r0), none, none, some (.int x_4)]) (gm_le_k _ (gm_le_n _ (gm_le_n _ (gm_le_k _ gm_le_nil)))) ?_
      exact ok78_42 c d Post _ _ _ w
def w79_58 (c : gx) (d : Nat) (Post : Option Value → gm_H → Prop) (xs0 : Int32) (h : gm_H) : Prop :=
  Post (some (.int xs0)) h
theorem ok79_58 (c : gx) (d : Nat) (Post : Option Value → gm_H → Prop)  (xs0 : Int32) (h : gm_H) (w : w79_58 c d Post xs0 h) : gV c d 79 (58, [none, none], [.int xs0], h) Post := by
  have hk : ∀ pc i, gm_find gk_79 pc = some i → gm_code (gt_T c.1 c.2.1 c.2.2.1) 79 pc = some i := fun _ _ z => z
  unfold w79_58 at w
  unfold gV
  exact gw_ret (hk _ _ rfl) rfl w
def w79_38 (c : gx) (d : Nat) (Post : Option Value → gm_H → Prop) (r0 : Nat) (x1 : Int32) (h : gm_H) : Prop :=
  ∃ q_1 : Nat, gm_fld h r0 9 0 = some (.ref q_1) ∧ ∃ fs2 : List Value, gm_get h q_1 = some (.inr (7, fs2)) ∧ 1 < fs2.length ∧ ∀ h_2 : gm_H, h_2 = gm_put h q_1 (.inr (7, fs2.set 1 (.int 0))) → ((x1 = (-1) → w79_58 c d Post 0 h_2) ∧ (¬ (x1 = (-1)) → w79_58 c d Post ((-1) - x1) h_2))
theorem ok79_38 (c : gx) (d : Nat) (Post : Option Value → gm_H → Prop)  (r0 : Nat) (x1 : Int32) (h : gm_H) (w : w79_38 c d Post r0 x1 h) : gV c d 79 (38, [some (.ref r0), some (.int x1)], [], h) Post := by
  have hk : ∀ pc i, gm_find gk_79 pc = some i → gm_code (gt_T c.1 c.2.1 c.2.2.1) 79 pc = some i := fun _ _ z => z
  unfold w79_38 at w
  unfold gV
  refine gw_pst hk 1 (st' := (39, [some (.ref r0), some (.int x1)], [.ref r0], h)) rfl ?_
  obtain ⟨q_1, e1, w⟩ := w
  refine gw_gf (hk _ _ rfl) e1 ?_
  refine gw_pst hk 1 (st' := (43, [some (.ref r0), some (.int x1)], [.int 0, .ref q_1], h)) rfl ?_
  obtain ⟨fs2, e2, l2, w⟩ := w
  refine gw_pf (hk _ _ rfl) e2 l2 rfl ?_
  obtain ⟨h_2, eh2⟩ : ∃ z, z = gm_put h q_1 (.inr (7, fs2.set 1 (.int 0))) := ⟨_, rfl⟩
  rw [← eh2]
  replace w := w h_2 eh2
  refine gw_pst hk 2 (st' := (48, [some (.ref r0), some (.int x1)], [.int (-1), .int x1], h_2)) rfl ?_
  refine gw_br (c := x1 = (-1)) (a := (51, [some (.ref r0), some (.int x1)], [], h_2)) (b := (55, [some (.ref r0), some (.int x1)], [], h_2)) (hk _ _ rfl) rfl ⟨fun z3 => ?_, fun z3 => ?_⟩
  · replace w := w.1 z3
    refine gw_pst hk 2 (st' := (58, [some (.ref r0), some (.int x1)], [.int 0], h_2)) rfl ?_
    refine gw_le (L' := [none, none]) (gm_le_n _ (gm_le_n _ gm_le_nil)) ?_
    exact ok79_58 c d Post _ _ w
  · replace w := w.2 z3
    refine gw_pst hk 3 (st' := (58, [some (.ref r0), some (.int x1)], [.int ((-1) - x1)], h_2)) rfl ?_
    refine gw_le (L' := [none, none]) (gm_le_n _ (gm_le_n _ gm_le_nil)) ?_
    exact ok79_58 c d Post _ _ w
def w79_21 (c : gx) (d : Nat) (Post : Option Value → gm_H → Prop) (r0 : Nat) (xs0 : Int32) (h : gm_H) : Prop :=
  ((xs0 = (-1) → ∃ q_2 : Nat, gm_fld h r0 9 2 = some (.ref q_2) ∧ ∃ q_3 : Nat, gm_fld h r0 9 0 = some (.ref q_3) ∧ (∃ fs4, gm_get h q_2 = some (.inr (0, fs4))) ∧ gE c d 4 [.ref q_2, .ref q_3] h (fun v4 h_4 => v4 = none ∧ w79_38 c d Post r0 xs0 h_4)) ∧ (¬ (xs0 = (-1)) → w79_38 c d Post r0 xs0 h))
theorem ok79_21 (c : gx) (d : Nat) (Post : Option Value → gm_H → Prop)  (r0 : Nat) (xs0 : Int32) (h : gm_H) (w : w79_21 c d Post r0 xs0 h) : gV c d 79 (21, [some (.ref r0), none], [.int xs0], h) Post := by
  have hk : ∀ pc i, gm_find gk_79 pc = some i → gm_code (gt_T c.1 c.2.1 c.2.2.1) 79 pc = some i := fun _ _ z => z
  unfold w79_21 at w
  unfold gV
  refine gw_pst hk 3 (st' := (24, [some (.ref r0), some (.int xs0)], [.int (-1), .int xs0], h)) rfl ?_
  refine gw_br (c := xs0 = (-1)) (a := (27, [some (.ref r0), some (.int xs0)], [], h)) (b := (38, [some (.ref r0), some (.int xs0)], [], h)) (hk _ _ rfl) rfl ⟨fun z1 => ?_, fun z1 => ?_⟩
  · replace w := w.1 z1
    refine gw_pst hk 1 (st' := (28, [some (.ref r0), some (.int xs0)], [.ref r0], h)) rfl ?_
    obtain ⟨q_2, e2, w⟩ := w
    refine gw_gf (hk _ _ rfl) e2 ?_
    refine gw_pst hk 1 (st' := (32, [some (.ref r0), some (.int xs0)], [.ref r0, .ref q_2], h)) rfl ?_
    obtain ⟨q_3, e3, w⟩ := w
    refine gw_gf (hk _ _ rfl) e3 ?_
    obtain ⟨⟨fs4, e4⟩, w⟩ := w
    refine gw_call (jj := 4) (As := [.ref q_2, .ref q_3]) (rest := []) (hk _ _ rfl) (fun _ => rfl) rfl rfl (Nat.le_of_ble_eq_true rfl) (gm_rcv_v rfl e4 rfl) ?_
    refine ge_imp w (fun v4 h_4 w => ?_)
    obtain ⟨rfl, w⟩ := w
    show gV c d 79 (38, [some (.ref r0), some (.int xs0)], [], h_4) Post
    exact ok79_38 c d Post _ _ _ w
  · replace w := w.2 z1
    exact ok79_38 c d Post _ _ _ w
/-- CommandByTurns.rule()I -/
def wm79 (c : gx) (d : Nat) (Post : Option Value → gm_H → Prop) (r0 : Nat) (h : gm_H) : Prop :=
  ∃ q_1 : Nat, gm_fld h r0 9 0 = some (.ref q_1) ∧ ∃ x_2 : Int32, gm_fld h q_1 7 1 = some (.int x_2) ∧ ((x_2 = 0 → w79_21 c d Post r0 (-1) h) ∧ (¬ (x_2 = 0) → ∃ q_4 : Nat, gm_fld h r0 9 0 = some (.ref q_4) ∧ gE c d 1 [.ref q_4] h (fun v5 h_5 => ∃ x_5 : Int32, v5 = some (.int x_5) ∧ w79_21 c d Post r0 x_5 h_5)))
theorem okm79 (c : gx) (d : Nat) (Post : Option Value → gm_H → Prop) (r0 : Nat) (h : gm_H) (w : wm79 c d Post r0 h) : gE c (d + 1) 79 [.ref r0] h Post := by
  have hk : ∀ pc i, gm_find gk_79 pc = some i → gm_code (gt_T c.1 c.2.1 c.2.2.1) 79 pc = some i := fun _ _ z => z
  unfold wm79 at w
  refine ge_of (by decide) (Nat.le_of_ble_eq_true rfl) ?_
  show gV c d 79 (0, [some (.ref r0), none], [], h) Post
  unfold gV
  refine gw_pst hk 1 (st' := (1, [some (.ref r0), none], [.ref r0], h)) rfl ?_
  obtain ⟨q_1, e1, w⟩ := w
  refine gw_gf (hk _ _ rfl) e1 ?_
  obtain ⟨x_2, e2, w⟩ := w
  refine gw_gf (hk _ _ rfl) e2 ?_
  refine gw_br (c := x_2 = 0) (a := (10, [some (.ref r0), none], [], h)) (b := (14, [some (.ref r0), none], [], h)) (hk _ _ rfl) rfl ⟨fun z3 => ?_, fun z3 => ?_⟩
  · replace w := w.1 z3
    refine gw_pst hk 2 (st' := (21, [some (.ref r0), none], [.int (-1)], h)) rfl ?_
    exact ok79_21 c d Post _ _ _ w
  · replace w := w.2 z3
    refine gw_pst hk 1 (st' := (15, [some (.ref r0), none], [.ref r0], h)) rfl ?_
    obtain ⟨q_4, e4, w⟩ := w
    refine gw_gf (hk _ _ rfl) e4 ?_
    refine gw_call (jj := 1) (As := [.ref q_4]) (rest := []) (hk _ _ rfl) (fun _ => rfl) rfl rfl (Nat.le_of_ble_eq_true rfl) rfl ?_
    refine ge_imp w (fun v5 h_5 w => ?_)
    obtain ⟨x_5, rfl, w⟩ := w
    show gV c d 79 (21, [some (.ref r0), none], [.int x_5], h_5) Post
    exact ok79_21 c d Post _ _ _ w
def w80_89 (c : gx) (d : Nat) (Post : Option Value → gm_H → Prop) (xs0 : Int32) (h : gm_H) : Prop :=
  Post (some (.int xs0)) h
theorem ok80_89 (c : gx) (d : Nat) (Post : Option Value → gm_H → Prop)  (xs0 : Int32) (h : gm_H) (w : w80_89 c d Post xs0 h) : gV c d 80 (89, [none, none, none], [.int xs0], h) Post := by
  have hk : ∀ pc i, gm_find gk_80 pc = some i → gm_code (gt_T c.1 c.2.1 c.2.2.1) 80 pc = some i := fun _ _ z => z
  unfold w80_89 at w
  unfold gV
  exact gw_ret (hk _ _ rfl) rfl w
def w80_106 (c : gx) (d : Nat) (Post : Option Value → gm_H → Prop) (xs0 : Int32) (h : gm_H) : Prop :=
  Post (some (.int xs0)) h
theorem ok80_106 (c : gx) (d : Nat) (Post : Option Value → gm_H → Prop)  (xs0 : Int32) (h : gm_H) (w : w80_106 c d Post xs0 h) : gV c d 80 (106, [none, none, none], [.int xs0], h) Post := by
  have hk : ∀ pc i, gm_find gk_80 pc = some i → gm_code (gt_T c.1 c.2.1 c.2.2.1) 80 pc = some i := fun _ _ z => z
  unfold w80_106 at w
  unfold gV
  exact gw_ret (hk _ _ rfl) rfl w
/-- CommandByTurns.field(II)I -/
def wm80 (c : gx) (d : Nat) (Post : Option Value → gm_H → Prop) (r0 : Nat) (x1 : Int32) (x2 : Int32) (h : gm_H) : Prop :=
  ∃ q_1 : Nat, gm_fld h r0 9 1 = some (.ref q_1) ∧ (∃ fs2, gm_get h q_1 = some (.inr (1, fs2))) ∧ gE c d 14 [.ref q_1, .int x1] h (fun v2 h_2 => ∃ x_2 : Int32, v2 = some (.int x_2) ∧ ((x_2 = 0 → False) ∧ (¬ (x_2 = 0) → ((x2 = 0 → ∃ q_5 : Nat, gm_fld h_2 r0 9 1 = some (.ref q_5) ∧ (∃ fs6, gm_get h_2 q_5 = some (.inr (1, fs6))) ∧ gE c d 15 [.ref q_5, .int x1] h_2 (fun v6 h_6 => ∃ x_6 : Int32, v6 = some (.int x_6) ∧ Post (some (.int x_6)) h_6)) ∧ (x2 = 1 → ∃ q_7 : Nat, gm_fld h_2 r0 9 1 = some (.ref q_7) ∧ (∃ fs8, gm_get h_2 q_7 = some (.inr (1, fs8))) ∧ gE c d 18 [.ref q_7, .int x1, .int (x1 + 1)] h_2 (fun v8 h_8 => ∃ x_8 : Int32, v8 = some (.int x_8) ∧ Post (some (.int x_8)) h_8)) ∧ (x2 = 2 → ∃ q_9 : Nat, gm_fld h_2 r0 9 5 = some (.ref q_9) ∧ ∃ x_10 : Int32, gm_fld h_2 q_9 6 1 = some (.int x_10) ∧ ((x_10 = x1 → w80_89 c d Post 1 h_2) ∧ (¬ (x_10 = x1) → w80_89 c d Post 0 h_2))) ∧ (x2 = 3 → ∃ q_12 : Nat, gm_fld h_2 r0 9 5 = some (.ref q_12) ∧ ∃ x_13 : Int32, gm_fld h_2 q_12 6 2 = some (.int x_13) ∧ ((x_13 = x1 → w80_106 c d Post 1 h_2) ∧ (¬ (x_13 = x1) → w80_106 c d Post 0 h_2))) ∧ ((x2 : Int32).toInt < 0 ∨ 3 < (x2 : Int32).toInt → False)))))
theorem okm80 (c : gx) (d : Nat) (Post : Option Value → gm_H → Prop) (r0 : Nat) (x1 : Int32) (x2 : Int32) (h : gm_H) (w : wm80 c d Post r0 x1 x2 h) : gE c (d + 1) 80 [.ref r0, .int x1, .int x2] h Post := by
  have hk : ∀ pc i, gm_find gk_80 pc = some i → gm_code (gt_T c.1 c.2.1 c.2.2.1) 80 pc = some i := fun _ _ z => z
  unfold wm80 at w
  refine ge_of (by decide) (Nat.le_of_ble_eq_true rfl) ?_
  show gV c d 80 (0, [some (.ref r0), some (.int x1), some (.int x2)], [], h) Post
  unfold gV
  refine gw_pst hk 1 (st' := (1, [some (.ref r0), some (.int x1), some (.int x2)], [.ref r0], h)) rfl ?_
  obtain ⟨q_1, e1, w⟩ := w
  refine gw_gf (hk _ _ rfl) e1 ?_
  refine gw_pst hk 1 (st' := (5, [some (.ref r0), some (.int x1), some (.int x2)], [.int x1, .ref q_1], h)) rfl ?_
  obtain ⟨⟨fs2, e2⟩, w⟩ := w
  refine gw_call (jj := 14) (As := [.ref q_1, .int x1]) (rest := []) (hk _ _ rfl) (fun _ => rfl) rfl rfl (Nat.le_of_ble_eq_true rfl) (gm_rcv_v rfl e2 rfl) ?_
  refine ge_imp w (fun v2 h_2 w => ?_)
  obtain ⟨x_2, rfl, w⟩ := w
  show gV c d 80 (8, [some (.ref r0), some (.int x1), some (.int x2)], [.int x_2], h_2) Post
  refine gw_br (c := x_2 = 0) (a := (11, [some (.ref r0), some (.int x1), some (.int x2)], [], h_2)) (b := (21, [some (.ref r0), some (.int x1), some (.int x2)], [], h_2)) (hk _ _ rfl) rfl ⟨fun z3 => ?_, fun z3 => ?_⟩
  · replace w := w.1 z3
    exact w.elim
  · replace w := w.2 z3
    refine gw_pst hk 1 (st' := (22, [some (.ref r0), some (.int x1), some (.int x2)], [.int x2], h_2)) rfl ?_
    by_cases z4_0 : x2 = 0
    · replace w := w.1 z4_0
      refine gw_swk (st' := (52, [some (.ref r0), some (.int x1), some (.int x2)], [], h_2)) (hk _ _ rfl) z4_0 rfl ?_
      refine gw_pst hk 1 (st' := (53, [some (.ref r0), some (.int x1), some (.int x2)], [.ref r0], h_2)) rfl ?_
      obtain ⟨q_5, e5, w⟩ := w
      refine gw_gf (hk _ _ rfl) e5 ?_
      refine gw_pst hk 1 (st' := (57, [some (.ref r0), some (.int x1), some (.int x2)], [.int x1, .ref q_5], h_2)) rfl ?_
      obtain ⟨⟨fs6, e6⟩, w⟩ := w
      refine gw_call (jj := 15) (As := [.ref q_5, .int x1]) (rest := []) (hk _ _ rfl) (fun _ => rfl) rfl rfl (Nat.le_of_ble_eq_true rfl) (gm_rcv_v rfl e6 rfl) ?_
      refine ge_imp w (fun v6 h_6 w => ?_)
      obtain ⟨x_6, rfl, w⟩ := w
      show gV c d 80 (60, [some (.ref r0), some (.int x1), some (.int x2)], [.int x_6], h_6) Post
      exact gw_ret (hk _ _ rfl) rfl w
    by_cases z4_1 : x2 = 1
    · replace w := w.2.1 z4_1
      refine gw_swk (st' := (61, [some (.ref r0), some (.int x1), some (.int x2)], [], h_2)) (hk _ _ rfl) z4_1 rfl ?_
      refine gw_pst hk 1 (st' := (62, [some (.ref r0), some (.int x1), some (.int x2)], [.ref r0], h_2)) rfl ?_
      obtain ⟨q_7, e7, w⟩ := w
      refine gw_gf (hk _ _ rfl) e7 ?_
      refine gw_pst hk 4 (st' := (69, [some (.ref r0), some (.int x1), some (.int x2)], [.int (x1 + 1), .int x1, .ref q_7], h_2)) rfl ?_
      obtain ⟨⟨fs8, e8⟩, w⟩ := w
      refine gw_call (jj := 18) (As := [.ref q_7, .int x1, .int (x1 + 1)]) (rest := []) (hk _ _ rfl) (fun _ => rfl) rfl rfl (Nat.le_of_ble_eq_true rfl) (gm_rcv_v rfl e8 rfl) ?_
      refine ge_imp w (fun v8 h_8 w => ?_)
      obtain ⟨x_8, rfl, w⟩ := w
      show gV c d 80 (72, [some (.ref r0), some (.int x1), some (.int x2)], [.int x_8], h_8) Post
      exact gw_ret (hk _ _ rfl) rfl w
    by_cases z4_2 : x2 = 2
    · replace w := w.2.2.1 z4_2
      refine gw_swk (st' := (73, [some (.ref r0), some (.int x1), some (.int x2)], [], h_2)) (hk _ _ rfl) z4_2 rfl ?_
      refine gw_pst hk 1 (st' := (74, [some (.ref r0), some (.int x1), some (.int x2)], [.ref r0], h_2)) rfl ?_
      obtain ⟨q_9, e9, w⟩ := w
      refine gw_gf (hk _ _ rfl) e9 ?_
      obtain ⟨x_10, e10, w⟩ := w
      refine gw_gf (hk _ _ rfl) e10 ?_
      refine gw_pst hk 1 (st' := (81, [some (.ref r0), some (.int x1), some (.int x2)], [.int x1, .int x_10], h_2)) rfl ?_
      refine gw_br (c := x_10 = x1) (a := (84, [some (.ref r0), some (.int x1), some (.int x2)], [], h_2)) (b := (88, [some (.ref r0), some (.int x1), some (.int x2)], [], h_2)) (hk _ _ rfl) rfl ⟨fun z11 => ?_, fun z11 => ?_⟩
      · replace w := w.1 z11
        refine gw_pst hk 2 (st' := (89, [some (.ref r0), some (.int x1), some (.int x2)], [.int 1], h_2)) rfl ?_
        refine gw_le (L' := [none, none, none]) (gm_le_n _ (gm_le_n _ (gm_le_n _ gm_le_nil))) ?_
        exact ok80_89 c d Post _ _ w
      · replace w := w.2 z11
        refine gw_pst hk 1 (st' := (89, [some (.ref r0), some (.int x1), some (.int x2)], [.int 0], h_2)) rfl ?_
        refine gw_le (L' := [none, none, none]) (gm_le_n _ (gm_le_n _ (gm_le_n _ gm_le_nil))) ?_
        exact ok80_89 c d Post _ _ w
    by_cases z4_3 : x2 = 3
    · replace w := w.2.2.2.1 z4_3
      refine gw_swk (st' := (90, [some (.ref r0), some (.int x1), some (.int x2)], [], h_2)) (hk _ _ rfl) z4_3 rfl ?_
      refine gw_pst hk 1 (st' := (91, [some (.ref r0), some (.int x1), some (.int x2)], [.ref r0], h_2)) rfl ?_
      obtain ⟨q_12, e12, w⟩ := w
      refine gw_gf (hk _ _ rfl) e12 ?_
      obtain ⟨x_13, e13, w⟩ := w
      refine gw_gf (hk _ _ rfl) e13 ?_
      refine gw_pst hk 1 (st' := (98, [some (.ref r0), some (.int x1), some (.int x2)], [.int x1, .int x_13], h_2)) rfl ?_
      refine gw_br (c := x_13 = x1) (a := (101, [some (.ref r0), some (.int x1), some (.int x2)], [], h_2)) (b := (105, [some (.ref r0), some (.int x1), some (.int x2)], [], h_2)) (hk _ _ rfl) rfl ⟨fun z14 => ?_, fun z14 => ?_⟩
      · replace w := w.1 z14
        refine gw_pst hk 2 (st' := (106, [some (.ref r0), some (.int x1), some (.int x2)], [.int 1], h_2)) rfl ?_
        refine gw_le (L' := [none, none, none]) (gm_le_n _ (gm_le_n _ (gm_le_n _ gm_le_nil))) ?_
        exact ok80_106 c d Post _ _ w
      · replace w := w.2 z14
        refine gw_pst hk 1 (st' := (106, [some (.ref r0), some (.int x1), some (.int x2)], [.int 0], h_2)) rfl ?_
        refine gw_le (L' := [none, none, none]) (gm_le_n _ (gm_le_n _ (gm_le_n _ gm_le_nil))) ?_
        exact ok80_106 c d Post _ _ w
    have zd4 : (x2 : Int32).toInt < 0 ∨ 3 < (x2 : Int32).toInt := by
      have y0 : (x2 : Int32).toInt ≠ 0 := fun z => z4_0 (Int32.toInt_inj.mp z)
      have y1 : (x2 : Int32).toInt ≠ 1 := fun z => z4_1 (Int32.toInt_inj.mp z)
      have y2 : (x2 : Int32).toInt ≠ 2 := fun z => z4_2 (Int32.toInt_inj.mp z)
      have y3 : (x2 : Int32).toInt ≠ 3 := fun z => z4_3 (Int32.toInt_inj.mp z)
      omega
    replace w := w.2.2.2.2 zd4
    refine gw_tsd (st' := (107, [some (.ref r0), some (.int x1), some (.int x2)], [], h_2)) (hk _ _ rfl) zd4 rfl ?_
    exact w.elim
/-- CommandByTurns.consul(II)I -/
def wm81 (c : gx) (d : Nat) (Post : Option Value → gm_H → Prop) (r0 : Nat) (x1 : Int32) (x2 : Int32) (h : gm_H) : Prop :=
  gE c d 147 [.int x1] h (fun v1 h_1 => ∃ x_1 : Int32, v1 = some (.int x_1) ∧ ((x_1 = 0 → False) ∧ (¬ (x_1 = 0) → ((x2 = 0 → (∃ fs4, gm_get h_1 r0 = some (.inr (9, fs4))) ∧ gE c d 148 [.ref r0, .int x1] h_1 (fun v4 h_4 => ∃ q_4 : Nat, v4 = some (.ref q_4) ∧ ∃ x_5 : Int32, gm_fld h_4 q_4 2 0 = some (.int x_5) ∧ Post (some (.int x_5)) h_4)) ∧ (x2 = 1 → (∃ fs6, gm_get h_1 r0 = some (.inr (9, fs6))) ∧ gE c d 148 [.ref r0, .int x1] h_1 (fun v6 h_6 => ∃ q_6 : Nat, v6 = some (.ref q_6) ∧ ∃ x_7 : Int32, gm_fld h_6 q_6 2 1 = some (.int x_7) ∧ Post (some (.int x_7)) h_6)) ∧ (x2 = 2 → (∃ fs8, gm_get h_1 r0 = some (.inr (9, fs8))) ∧ gE c d 148 [.ref r0, .int x1] h_1 (fun v8 h_8 => ∃ q_8 : Nat, v8 = some (.ref q_8) ∧ (∃ fs9, gm_get h_8 q_8 = some (.inr (2, fs9))) ∧ gE c d 31 [.ref q_8] h_8 (fun v9 h_9 => ∃ x_9 : Int32, v9 = some (.int x_9) ∧ Post (some (.int x_9)) h_9))) ∧ (x2 = 3 → ∃ q_10 : Nat, gm_fld h_1 r0 9 5 = some (.ref q_10) ∧ (∃ fs11, gm_get h_1 q_10 = some (.inr (6, fs11))) ∧ gE c d 49 [.ref q_10, .int x1] h_1 (fun v11 h_11 => ∃ x_11 : Int32, v11 = some (.int x_11) ∧ Post (some (.int x_11)) h_11)) ∧ (x2 = 4 → (∃ fs12, gm_get h_1 r0 = some (.inr (9, fs12))) ∧ gE c d 148 [.ref r0, .int x1] h_1 (fun v12 h_12 => ∃ q_12 : Nat, v12 = some (.ref q_12) ∧ ∃ q_13 : Nat, gm_fld h_12 r0 9 5 = some (.ref q_13) ∧ ∃ x_14 : Int32, gm_fld h_12 q_13 6 0 = some (.int x_14) ∧ (∃ fs15, gm_get h_12 q_12 = some (.inr (2, fs15))) ∧ gE c d 30 [.ref q_12, .int x_14] h_12 (fun v15 h_15 => ∃ x_15 : Int32, v15 = some (.int x_15) ∧ Post (some (.int x_15)) h_15))) ∧ ((x2 : Int32).toInt < 0 ∨ 4 < (x2 : Int32).toInt → False)))))
theorem okm81 (c : gx) (d : Nat) (Post : Option Value → gm_H → Prop) (r0 : Nat) (x1 : Int32) (x2 : Int32) (h : gm_H) (w : wm81 c d Post r0 x1 x2 h) : gE c (d + 1) 81 [.ref r0, .int x1, .int x2] h Post := by
  have hk : ∀ pc i, gm_find gk_81 pc = some i → gm_code (gt_T c.1 c.2.1 c.2.2.1) 81 pc = some i := fun _ _ z => z
  unfold wm81 at w
  refine ge_of (by decide) (Nat.le_of_ble_eq_true rfl) ?_
  show gV c d 81 (0, [some (.ref r0), some (.int x1), some (.int x2)], [], h) Post
  unfold gV
  refine gw_pst hk 1 (st' := (1, [some (.ref r0), some (.int x1), some (.int x2)], [.int x1], h)) rfl ?_
  refine gw_call (jj := 147) (As := [.int x1]) (rest := []) (hk _ _ rfl) (fun _ => rfl) rfl rfl (Nat.le_of_ble_eq_true rfl) rfl ?_
  refine ge_imp w (fun v1 h_1 w => ?_)
  obtain ⟨x_1, rfl, w⟩ := w
  show gV c d 81 (4, [some (.ref r0), some (.int x1), some (.int x2)], [.int x_1], h_1) Post
  refine gw_br (c := x_1 = 0) (a := (7, [some (.ref r0), some (.int x1), some (.int x2)], [], h_1)) (b := (17, [some (.ref r0), some (.int x1), some (.int x2)], [], h_1)) (hk _ _ rfl) rfl ⟨fun z2 => ?_, fun z2 => ?_⟩
  · replace w := w.1 z2
    exact w.elim
  · replace w := w.2 z2
    refine gw_pst hk 1 (st' := (18, [some (.ref r0), some (.int x1), some (.int x2)], [.int x2], h_1)) rfl ?_
    by_cases z3_0 : x2 = 0
    · replace w := w.1 z3_0
      refine gw_swk (st' := (52, [some (.ref r0), some (.int x1), some (.int x2)], [], h_1)) (hk _ _ rfl) z3_0 rfl ?_
      refine gw_pst hk 2 (st' := (54, [some (.ref r0), some (.int x1), some (.int x2)], [.int x1, .ref r0], h_1)) rfl ?_
      obtain ⟨⟨fs4, e4⟩, w⟩ := w
      refine gw_call (jj := 148) (As := [.ref r0, .int x1]) (rest := []) (hk _ _ rfl) (fun _ => rfl) rfl rfl (Nat.le_of_ble_eq_true rfl) (gm_rcv_v rfl e4 rfl) ?_
      refine ge_imp w (fun v4 h_4 w => ?_)
      obtain ⟨q_4, rfl, w⟩ := w
      show gV c d 81 (57, [some (.ref r0), some (.int x1), some (.int x2)], [.ref q_4], h_4) Post
      obtain ⟨x_5, e5, w⟩ := w
      refine gw_gf (hk _ _ rfl) e5 ?_
      exact gw_ret (hk _ _ rfl) rfl w
    by_cases z3_1 : x2 = 1
    · replace w := w.2.1 z3_1
      refine gw_swk (st' := (61, [some (.ref r0), some (.int x1), some (.int x2)], [], h_1)) (hk _ _ rfl) z3_1 rfl ?_
      refine gw_pst hk 2 (st' := (63, [some (.ref r0), some (.int x1), some (.int x2)], [.int x1, .ref r0], h_1)) rfl ?_
      obtain ⟨⟨fs6, e6⟩, w⟩ := w
      refine gw_call (jj := 148) (As := [.ref r0, .int x1]) (rest := []) (hk _ _ rfl) (fun _ => rfl) rfl rfl (Nat.le_of_ble_eq_true rfl) (gm_rcv_v rfl e6 rfl) ?_
      refine ge_imp w (fun v6 h_6 w => ?_)
      obtain ⟨q_6, rfl, w⟩ := w
      show gV c d 81 (66, [some (.ref r0), some (.int x1), some (.int x2)], [.ref q_6], h_6) Post
      obtain ⟨x_7, e7, w⟩ := w
      refine gw_gf (hk _ _ rfl) e7 ?_
      exact gw_ret (hk _ _ rfl) rfl w
    by_cases z3_2 : x2 = 2
    · replace w := w.2.2.1 z3_2
      refine gw_swk (st' := (70, [some (.ref r0), some (.int x1), some (.int x2)], [], h_1)) (hk _ _ rfl) z3_2 rfl ?_
      refine gw_pst hk 2 (st' := (72, [some (.ref r0), some (.int x1), some (.int x2)], [.int x1, .ref r0], h_1)) rfl ?_
      obtain ⟨⟨fs8, e8⟩, w⟩ := w
      refine gw_call (jj := 148) (As := [.ref r0, .int x1]) (rest := []) (hk _ _ rfl) (fun _ => rfl) rfl rfl (Nat.le_of_ble_eq_true rfl) (gm_rcv_v rfl e8 rfl) ?_
      refine ge_imp w (fun v8 h_8 w => ?_)
      obtain ⟨q_8, rfl, w⟩ := w
      show gV c d 81 (75, [some (.ref r0), some (.int x1), some (.int x2)], [.ref q_8], h_8) Post
      obtain ⟨⟨fs9, e9⟩, w⟩ := w
      refine gw_call (jj := 31) (As := [.ref q_8]) (rest := []) (hk _ _ rfl) (fun _ => rfl) rfl rfl (Nat.le_of_ble_eq_true rfl) (gm_rcv_v rfl e9 rfl) ?_
      refine ge_imp w (fun v9 h_9 w => ?_)
      obtain ⟨x_9, rfl, w⟩ := w
      show gV c d 81 (78, [some (.ref r0), some (.int x1), some (.int x2)], [.int x_9], h_9) Post
      exact gw_ret (hk _ _ rfl) rfl w
    by_cases z3_3 : x2 = 3
    · replace w := w.2.2.2.1 z3_3
      refine gw_swk (st' := (79, [some (.ref r0), some (.int x1), some (.int x2)], [], h_1)) (hk _ _ rfl) z3_3 rfl ?_
      refine gw_pst hk 1 (st' := (80, [some (.ref r0), some (.int x1), some (.int x2)], [.ref r0], h_1)) rfl ?_
      obtain ⟨q_10, e10, w⟩ := w
      refine gw_gf (hk _ _ rfl) e10 ?_
      refine gw_pst hk 1 (st' := (84, [some (.ref r0), some (.int x1), some (.int x2)], [.int x1, .ref q_10], h_1)) rfl ?_
      obtain ⟨⟨fs11, e11⟩, w⟩ := w
      refine gw_call (jj := 49) (As := [.ref q_10, .int x1]) (rest := []) (hk _ _ rfl) (fun _ => rfl) rfl rfl (Nat.le_of_ble_eq_true rfl) (gm_rcv_v rfl e11 rfl) ?_
      refine ge_imp w (fun v11 h_11 w => ?_)
      obtain ⟨x_11, rfl, w⟩ := w
      show gV c d 81 (87, [some (.ref r0), some (.int x1), some (.int x2)], [.int x_11], h_11) Post
      exact gw_ret (hk _ _ rfl) rfl w
    by_cases z3_4 : x2 = 4
    · replace w := w.2.2.2.2.1 z3_4
      refine gw_swk (st' := (88, [some (.ref r0), some (.int x1), some (.int x2)], [], h_1)) (hk _ _ rfl) z3_4 rfl ?_
      refine gw_pst hk 2 (st' := (90, [some (.ref r0), some (.int x1), some (.int x2)], [.int x1, .ref r0], h_1)) rfl ?_
      obtain ⟨⟨fs12, e12⟩, w⟩ := w
      refine gw_call (jj := 148) (As := [.ref r0, .int x1]) (rest := []) (hk _ _ rfl) (fun _ => rfl) rfl rfl (Nat.le_of_ble_eq_true rfl) (gm_rcv_v rfl e12 rfl) ?_
      refine ge_imp w (fun v12 h_12 w => ?_)
      obtain ⟨q_12, rfl, w⟩ := w
      show gV c d 81 (93, [some (.ref r0), some (.int x1), some (.int x2)], [.ref q_12], h_12) Post
      refine gw_pst hk 1 (st' := (94, [some (.ref r0), some (.int x1), some (.int x2)], [.ref r0, .ref q_12], h_12)) rfl ?_
      obtain ⟨q_13, e13, w⟩ := w
      refine gw_gf (hk _ _ rfl) e13 ?_
      obtain ⟨x_14, e14, w⟩ := w
      refine gw_gf (hk _ _ rfl) e14 ?_
      obtain ⟨⟨fs15, e15⟩, w⟩ := w
      refine gw_call (jj := 30) (As := [.ref q_12, .int x_14]) (rest := []) (hk _ _ rfl) (fun _ => rfl) rfl rfl (Nat.le_of_ble_eq_true rfl) (gm_rcv_v rfl e15 rfl) ?_
      refine ge_imp w (fun v15 h_15 w => ?_)
      obtain ⟨x_15, rfl, w⟩ := w
      show gV c d 81 (103, [some (.ref r0), some (.int x1), some (.int x2)], [.int x_15], h_15) Post
      exact gw_ret (hk _ _ rfl) rfl w
    have zd3 : (x2 : Int32).toInt < 0 ∨ 4 < (x2 : Int32).toInt := by
      have y0 : (x2 : Int32).toInt ≠ 0 := fun z => z3_0 (Int32.toInt_inj.mp z)
      have y1 : (x2 : Int32).toInt ≠ 1 := fun z => z3_1 (Int32.toInt_inj.mp z)
      have y2 : (x2 : Int32).toInt ≠ 2 := fun z => z3_2 (Int32.toInt_inj.mp z)
      have y3 : (x2 : Int32).toInt ≠ 3 := fun z => z3_3 (Int32.toInt_inj.mp z)
      have y4 : (x2 : Int32).toInt ≠ 4 := fun z => z3_4 (Int32.toInt_inj.mp z)
      omega
    replace w := w.2.2.2.2.2 zd3
    refine gw_tsd (st' := (104, [some (.ref r0), some (.int x1), some (.int x2)], [], h_1)) (hk _ _ rfl) zd3 rfl ?_
    exact w.elim
def w82_26 (c : gx) (d : Nat) (Post : Option Value → gm_H → Prop)  (h : gm_H) : Prop :=
  Post (some (.int (-1))) h
theorem ok82_26 (c : gx) (d : Nat) (Post : Option Value → gm_H → Prop)   (h : gm_H) (w : w82_26 c d Post  h) : gV c d 82 (26, [none, none, none, none, none, none], [], h) Post := by
  have hk : ∀ pc i, gm_find gk_82 pc = some i → gm_code (gt_T c.1 c.2.1 c.2.2.1) 82 pc = some i := fun _ _ z => z
  unfold w82_26 at w
  unfold gV
  refine gw_pst hk 1 (st' := (27, [none, none, none, none, none, none], [.int (-1)], h)) rfl ?_
  exact gw_ret (hk _ _ rfl) rfl w
def w82_73 (c : gx) (d : Nat) (Post : Option Value → gm_H → Prop) (x5 : Int32) (h : gm_H) : Prop :=
  Post (some (.int x5)) h
theorem ok82_73 (c : gx) (d : Nat) (Post : Option Value → gm_H → Prop)  (x5 : Int32) (h : gm_H) (w : w82_73 c d Post x5 h) : gV c d 82 (73, [none, none, none, none, none, some (.int x5)], [], h) Post := by
  have hk : ∀ pc i, gm_find gk_82 pc = some i → gm_code (gt_T c.1 c.2.1 c.2.2.1) 82 pc = some i := fun _ _ z => z
  unfold w82_73 at w
  unfold gV
  refine gw_pst hk 1 (st' := (75, [none, none, none, none, none, some (.int x5)], [.int x5], h)) rfl ?_
  exact gw_ret (hk _ _ rfl) rfl w
def w82_52 (c : gx) (d : Nat) (Post : Option Value → gm_H → Prop) (x2 : Int32) (x3 : Int32) (r4 : Nat) (xs0 : Int32) (h : gm_H) : Prop :=
  ((x2 = 0 → ∃ fs2 : List Value, gm_get h r4 = some (.inr (2, fs2)) ∧ 0 < fs2.length ∧ ∀ h_2 : gm_H, h_2 = gm_put h r4 (.inr (2, fs2.set 0 (.int x3))) → w82_73 c d Post xs0 h_2) ∧ (¬ (x2 = 0) → ∃ fs3 : List Value, gm_get h r4 = some (.inr (2, fs3)) ∧ 1 < fs3.length ∧ ∀ h_3 : gm_H, h_3 = gm_put h r4 (.inr (2, fs3.set 1 (.int x3))) → w82_73 c d Post xs0 h_3))
theorem ok82_52 (c : gx) (d : Nat) (Post : Option Value → gm_H → Prop)  (x2 : Int32) (x3 : Int32) (r4 : Nat) (xs0 : Int32) (h : gm_H) (w : w82_52 c d Post x2 x3 r4 xs0 h) : gV c d 82 (52, [none, none, some (.int x2), some (.int x3), some (.ref r4), none], [.int xs0], h) Post := by
  have hk : ∀ pc i, gm_find gk_82 pc = some i → gm_code (gt_T c.1 c.2.1 c.2.2.1) 82 pc = some i := fun _ _ z => z
  unfold w82_52 at w
  unfold gV
  refine gw_pst hk 2 (st' := (55, [none, none, some (.int x2), some (.int x3), some (.ref r4), some (.int xs0)], [.int x2], h)) rfl ?_
  refine gw_br (c := x2 = 0) (a := (58, [none, none, some (.int x2), some (.int x3), some (.ref r4), some (.int xs0)], [], h)) (b := (67, [none, none, some (.int x2), some (.int x3), some (.ref r4), some (.int xs0)], [], h)) (hk _ _ rfl) rfl ⟨fun z1 => ?_, fun z1 => ?_⟩
  · replace w := w.1 z1
    refine gw_pst hk 2 (st' := (61, [none, none, some (.int x2), some (.int x3), some (.ref r4), some (.int xs0)], [.int x3, .ref r4], h)) rfl ?_
    obtain ⟨fs2, e2, l2, w⟩ := w
    refine gw_pf (hk _ _ rfl) e2 l2 rfl ?_
    obtain ⟨h_2, eh2⟩ : ∃ z, z = gm_put h r4 (.inr (2, fs2.set 0 (.int x3))) := ⟨_, rfl⟩
    rw [← eh2]
    replace w := w h_2 eh2
    refine gw_pst hk 1 (st' := (73, [none, none, some (.int x2), some (.int x3), some (.ref r4), some (.int xs0)], [], h_2)) rfl ?_
    refine gw_le (L' := [none, none, none, none, none, some (.int xs0)]) (gm_le_k _ (gm_le_k _ (gm_le_n _ (gm_le_n _ (gm_le_n _ (gm_le_k _ gm_le_nil)))))) ?_
    exact ok82_73 c d Post _ _ w
  · replace w := w.2 z1
    refine gw_pst hk 2 (st' := (70, [none, none, some (.int x2), some (.int x3), some (.ref r4), some (.int xs0)], [.int x3, .ref r4], h)) rfl ?_
    obtain ⟨fs3, e3, l3, w⟩ := w
    refine gw_pf (hk _ _ rfl) e3 l3 rfl ?_
    obtain ⟨h_3, eh3⟩ : ∃ z, z = gm_put h r4 (.inr (2, fs3.set 1 (.int x3))) := ⟨_, rfl⟩
    rw [← eh3]
    replace w := w h_3 eh3
    refine gw_le (L' := [none, none, none, none, none, some (.int xs0)]) (gm_le_k _ (gm_le_k _ (gm_le_n _ (gm_le_n _ (gm_le_n _ (gm_le_k _ gm_le_nil)))))) ?_
    exact ok82_73 c d Post _ _ w
/-- CommandByTurns.set(III)I -/
def wm82 (c : gx) (d : Nat) (Post : Option Value → gm_H → Prop) (r0 : Nat) (x1 : Int32) (x2 : Int32) (x3 : Int32) (h : gm_H) : Prop :=
  gE c d 147 [.int x1] h (fun v1 h_1 => ∃ x_1 : Int32, v1 = some (.int x_1) ∧ ((x_1 = 0 → w82_26 c d Post h_1) ∧ (¬ (x_1 = 0) → ((x2 < 0 → w82_26 c d Post h_1) ∧ (¬ (x2 < 0) → ((1 < x2 → w82_26 c d Post h_1) ∧ (¬ (1 < x2) → ((x3 < 0 → w82_26 c d Post h_1) ∧ (¬ (x3 < 0) → ((x3 ≤ 9 → (∃ fs7, gm_get h_1 r0 = some (.inr (9, fs7))) ∧ gE c d 148 [.ref r0, .int x1] h_1 (fun v7 h_7 => ∃ q_7 : Nat, v7 = some (.ref q_7) ∧ ((x2 = 0 → ∃ x_9 : Int32, gm_fld h_7 q_7 2 0 = some (.int x_9) ∧ w82_52 c d Post x2 x3 q_7 x_9 h_7) ∧ (¬ (x2 = 0) → ∃ x_10 : Int32, gm_fld h_7 q_7 2 1 = some (.int x_10) ∧ w82_52 c d Post x2 x3 q_7 x_10 h_7)))) ∧ (¬ (x3 ≤ 9) → w82_26 c d Post h_1)))))))))))
theorem okm82 (c : gx) (d : Nat) (Post : Option Value → gm_H → Prop) (r0 : Nat) (x1 : Int32) (x2 : Int32) (x3 : Int32) (h : gm_H) (w : wm82 c d Post r0 x1 x2 x3 h) : gE c (d + 1) 82 [.ref r0, .int x1, .int x2, .int x3] h Post := by
  have hk : ∀ pc i, gm_find gk_82 pc = some i → gm_code (gt_T c.1 c.2.1 c.2.2.1) 82 pc = some i := fun _ _ z => z
  unfold wm82 at w
  refine ge_of (by decide) (Nat.le_of_ble_eq_true rfl) ?_
  show gV c d 82 (0, [some (.ref r0), some (.int x1), some (.int x2), some (.int x3), none, none], [], h) Post
  unfold gV
  refine gw_pst hk 1 (st' := (1, [some (.ref r0), some (.int x1), some (.int x2), some (.int x3), none, none], [.int x1], h)) rfl ?_
  refine gw_call (jj := 147) (As := [.int x1]) (rest := []) (hk _ _ rfl) (fun _ => rfl) rfl rfl (Nat.le_of_ble_eq_true rfl) rfl ?_
  refine ge_imp w (fun v1 h_1 w => ?_)
  obtain ⟨x_1, rfl, w⟩ := w
  show gV c d 82 (4, [some (.ref r0), some (.int x1), some (.int x2), some (.int x3), none, none], [.int x_1], h_1) Post
  refine gw_br (c := x_1 = 0) (a := (26, [some (.ref r0), some (.int x1), some (.int x2), some (.int x3), none, none], [], h_1)) (b := (7, [some (.ref r0), some (.int x1), some (.int x2), some (.int x3), none, none], [], h_1)) (hk _ _ rfl) rfl ⟨fun z2 => ?_, fun z2 => ?_⟩
  · replace w := w.1 z2
    refine gw_le (L' := [none, none, none, none, none, none]) (gm_le_n _ (gm_le_n _ (gm_le_n _ (gm_le_n _ (gm_le_k _ (gm_le_k _ gm_le_nil)))))) ?_
    exact ok82_26 c d Post _ w
  · replace w := w.2 z2
    refine gw_pst hk 1 (st' := (8, [some (.ref r0), some (.int x1), some (.int x2), some (.int x3), none, none], [.int x2], h_1)) rfl ?_
    refine gw_br (c := x2 < 0) (a := (26, [some (.ref r0), some (.int x1), some (.int x2), some (.int x3), none, none], [], h_1)) (b := (11, [some (.ref r0), some (.int x1), some (.int x2), some (.int x3), none, none], [], h_1)) (hk _ _ rfl) rfl ⟨fun z3 => ?_, fun z3 => ?_⟩
    · replace w := w.1 z3
      refine gw_le (L' := [none, none, none, none, none, none]) (gm_le_n _ (gm_le_n _ (gm_le_n _ (gm_le_n _ (gm_le_k _ (gm_le_k _ gm_le_nil)))))) ?_
      exact ok82_26 c d Post _ w
    · replace w := w.2 z3
      refine gw_pst hk 2 (st' := (13, [some (.ref r0), some (.int x1), some (.int x2), some (.int x3), none, none], [.int 1, .int x2], h_1)) rfl ?_
      refine gw_br (c := 1 < x2) (a := (26, [some (.ref r0), some (.int x1), some (.int x2), some (.int x3), none, none], [], h_1)) (b := (16, [some (.ref r0), some (.int x1), some (.int x2), some (.int x3), none, none], [], h_1)) (hk _ _ rfl) rfl ⟨fun z4 => ?_, fun z4 => ?_⟩
      · replace w := w.1 z4
        refine gw_le (L' := [none, none, none, none, none, none]) (gm_le_n _ (gm_le_n _ (gm_le_n _ (gm_le_n _ (gm_le_k _ (gm_le_k _ gm_le_nil)))))) ?_
        exact ok82_26 c d Post _ w
      · replace w := w.2 z4
        refine gw_pst hk 1 (st' := (17, [some (.ref r0), some (.int x1), some (.int x2), some (.int x3), none, none], [.int x3], h_1)) rfl ?_
        refine gw_br (c := x3 < 0) (a := (26, [some (.ref r0), some (.int x1), some (.int x2), some (.int x3), none, none], [], h_1)) (b := (20, [some (.ref r0), some (.int x1), some (.int x2), some (.int x3), none, none], [], h_1)) (hk _ _ rfl) rfl ⟨fun z5 => ?_, fun z5 => ?_⟩
        · replace w := w.1 z5
          refine gw_le (L' := [none, none, none, none, none, none]) (gm_le_n _ (gm_le_n _ (gm_le_n _ (gm_le_n _ (gm_le_k _ (gm_le_k _ gm_le_nil)))))) ?_
          exact ok82_26 c d Post _ w
        · replace w := w.2 z5
          refine gw_pst hk 2 (st' := (23, [some (.ref r0), some (.int x1), some (.int x2), some (.int x3), none, none], [.int 9, .int x3], h_1)) rfl ?_
          refine gw_br (c := x3 ≤ 9) (a := (28, [some (.ref r0), some (.int x1), some (.int x2), some (.int x3), none, none], [], h_1)) (b := (26, [some (.ref r0), some (.int x1), some (.int x2), some (.int x3), none, none], [], h_1)) (hk _ _ rfl) rfl ⟨fun z6 => ?_, fun z6 => ?_⟩
          · replace w := w.1 z6
            refine gw_pst hk 2 (st' := (30, [some (.ref r0), some (.int x1), some (.int x2), some (.int x3), none, none], [.int x1, .ref r0], h_1)) rfl ?_
            obtain ⟨⟨fs7, e7⟩, w⟩ := w
            refine gw_call (jj := 148) (As := [.ref r0, .int x1]) (rest := []) (hk _ _ rfl) (fun _ => rfl) rfl rfl (Nat.le_of_ble_eq_true rfl) (gm_rcv_v rfl e7 rfl) ?_
            refine ge_imp w (fun v7 h_7 w => ?_)
            obtain ⟨q_7, rfl, w⟩ := w
            show gV c d 82 (33, [some (.ref r0), some (.int x1), some (.int x2), some (.int x3), none, none], [.ref q_7], h_7) Post
            refine gw_pst hk 2 (st' := (36, [some (.ref r0), some (.int x1), some (.int x2), some (.int x3), some (.ref q_7), none], [.int x2], h_7)) rfl ?_
            refine gw_br (c := x2 = 0) (a := (39, [some (.ref r0), some (.int x1), some (.int x2), some (.int x3), some (.ref q_7), none], [], h_7)) (b := (47, [some (.ref r0), some (.int x1), some (.int x2), some (.int x3), some (.ref q_7), none], [], h_7)) (hk _ _ rfl) rfl ⟨fun z8 => ?_, fun z8 => ?_⟩
            · replace w := w.1 z8
              refine gw_pst hk 1 (st' := (41, [some (.ref r0), some (.int x1), some (.int x2), some (.int x3), some (.ref q_7), none], [.ref q_7], h_7)) rfl ?_
              obtain ⟨x_9, e9, w⟩ := w
              refine gw_gf (hk _ _ rfl) e9 ?_
              refine gw_pst hk 1 (st' := (52, [some (.ref r0), some (.int x1), some (.int x2), some (.int x3), some (.ref q_7), none], [.int x_9], h_7)) rfl ?_
              refine gw_le (L' := [none, none, some (.int x2), some (.int x3), some (.ref q_7), none]) (gm_le_n _ (gm_le_n _ (gm_le_k _ (gm_le_k _ (gm_le_k _ (gm_le_k _ gm_le_nil)))))) ?_
              exact ok82_52 c d Post _ _ _ _ _ w
            · replace w := w.2 z8
              refine gw_pst hk 1 (st' := (49, [some (.ref r0), some (.int x1), some (.int x2), some (.int x3), some (.ref q_7), none], [.ref q_7], h_7)) rfl ?_
              obtain ⟨x_10, e10, w⟩ := w
              refine gw_gf (hk _ _ rfl) e10 ?_
              refine gw_le (L' := [none, none, some (.int x2), some (.int x3), some (.ref q_7), none]) (gm_le_n _ (gm_le_n _ (gm_le_k _ (gm_le_k _ (gm_le_k _ (gm_le_k _ gm_le_nil)))))) ?_
              exact ok82_52 c d Post _ _ _ _ _ w
          · replace w := w.2 z6
            refine gw_le (L' := [none, none, none, none, none, none]) (gm_le_n _ (gm_le_n _ (gm_le_n _ (gm_le_n _ (gm_le_k _ (gm_le_k _ gm_le_nil)))))) ?_
            exact ok82_26 c d Post _ w
def w83_15 (c : gx) (d : Nat) (Post : Option Value → gm_H → Prop)  (h : gm_H) : Prop :=
  Post (some (.int (-1))) h
theorem ok83_15 (c : gx) (d : Nat) (Post : Option Value → gm_H → Prop)   (h : gm_H) (w : w83_15 c d Post  h) : gV c d 83 (15, [none, none, none, none, none], [], h) Post := by
  have hk : ∀ pc i, gm_find gk_83 pc = some i → gm_code (gt_T c.1 c.2.1 c.2.2.1) 83 pc = some i := fun _ _ z => z
  unfold w83_15 at w
  unfold gV
  refine gw_pst hk 1 (st' := (16, [none, none, none, none, none], [.int (-1)], h)) rfl ?_
  exact gw_ret (hk _ _ rfl) rfl w
def w83_59 (c : gx) (d : Nat) (Post : Option Value → gm_H → Prop) (xs0 : Int32) (h : gm_H) : Prop :=
  Post (some (.int xs0)) h
theorem ok83_59 (c : gx) (d : Nat) (Post : Option Value → gm_H → Prop)  (xs0 : Int32) (h : gm_H) (w : w83_59 c d Post xs0 h) : gV c d 83 (59, [none, none, none, none, none], [.int xs0], h) Post := by
  have hk : ∀ pc i, gm_find gk_83 pc = some i → gm_code (gt_T c.1 c.2.1 c.2.2.1) 83 pc = some i := fun _ _ z => z
  unfold w83_59 at w
  unfold gV
  exact gw_ret (hk _ _ rfl) rfl w
/-- CommandByTurns.sheet(IIII)I -/
def wm83 (c : gx) (d : Nat) (Post : Option Value → gm_H → Prop) (r0 : Nat) (x1 : Int32) (x2 : Int32) (x3 : Int32) (x4 : Int32) (h : gm_H) : Prop :=
  ((x1 < 0 → w83_15 c d Post h) ∧ (¬ (x1 < 0) → ((3 < x1 → w83_15 c d Post h) ∧ (¬ (3 < x1) → ((x2 ≤ 12 → ((x1 = 3 → ∃ q_5 : Nat, gm_fld h r0 9 1 = some (.ref q_5) ∧ (∃ fs6, gm_get h q_5 = some (.inr (1, fs6))) ∧ gE c d 25 [.ref q_5, .int x1, .int 0, .int x3, .int x4] h (fun v6 h_6 => ∃ x_6 : Int32, v6 = some (.int x_6) ∧ Post (some (.int (-3))) h_6)) ∧ (¬ (x1 = 3) → ((0 ≤ x2 → ∃ q_8 : Nat, gm_fld h r0 9 1 = some (.ref q_8) ∧ (∃ fs9, gm_get h q_8 = some (.inr (1, fs9))) ∧ gE c d 25 [.ref q_8, .int x1, .int x2, .int x3, .int x4] h (fun v9 h_9 => ∃ x_9 : Int32, v9 = some (.int x_9) ∧ w83_59 c d Post x_9 h_9)) ∧ (¬ (0 ≤ x2) → w83_59 c d Post (-2) h))))) ∧ (¬ (x2 ≤ 12) → w83_15 c d Post h))))))
theorem okm83 (c : gx) (d : Nat) (Post : Option Value → gm_H → Prop) (r0 : Nat) (x1 : Int32) (x2 : Int32) (x3 : Int32) (x4 : Int32) (h : gm_H) (w : wm83 c d Post r0 x1 x2 x3 x4 h) : gE c (d + 1) 83 [.ref r0, .int x1, .int x2, .int x3, .int x4] h Post := by
  have hk : ∀ pc i, gm_find gk_83 pc = some i → gm_code (gt_T c.1 c.2.1 c.2.2.1) 83 pc = some i := fun _ _ z => z
  unfold wm83 at w
  refine ge_of (by decide) (Nat.le_of_ble_eq_true rfl) ?_
  show gV c d 83 (0, [some (.ref r0), some (.int x1), some (.int x2), some (.int x3), some (.int x4)], [], h) Post
  unfold gV
  refine gw_pst hk 1 (st' := (1, [some (.ref r0), some (.int x1), some (.int x2), some (.int x3), some (.int x4)], [.int x1], h)) rfl ?_
  refine gw_br (c := x1 < 0) (a := (15, [some (.ref r0), some (.int x1), some (.int x2), some (.int x3), some (.int x4)], [], h)) (b := (4, [some (.ref r0), some (.int x1), some (.int x2), some (.int x3), some (.int x4)], [], h)) (hk _ _ rfl) rfl ⟨fun z1 => ?_, fun z1 => ?_⟩
  · replace w := w.1 z1
    refine gw_le (L' := [none, none, none, none, none]) (gm_le_n _ (gm_le_n _ (gm_le_n _ (gm_le_n _ (gm_le_n _ gm_le_nil))))) ?_
    exact ok83_15 c d Post _ w
  · replace w := w.2 z1
    refine gw_pst hk 2 (st' := (6, [some (.ref r0), some (.int x1), some (.int x2), some (.int x3), some (.int x4)], [.int 3, .int x1], h)) rfl ?_
    refine gw_br (c := 3 < x1) (a := (15, [some (.ref r0), some (.int x1), some (.int x2), some (.int x3), some (.int x4)], [], h)) (b := (9, [some (.ref r0), some (.int x1), some (.int x2), some (.int x3), some (.int x4)], [], h)) (hk _ _ rfl) rfl ⟨fun z2 => ?_, fun z2 => ?_⟩
    · replace w := w.1 z2
      refine gw_le (L' := [none, none, none, none, none]) (gm_le_n _ (gm_le_n _ (gm_le_n _ (gm_le_n _ (gm_le_n _ gm_le_nil))))) ?_
      exact ok83_15 c d Post _ w
    · replace w := w.2 z2
      refine gw_pst hk 2 (st' := (12, [some (.ref r0), some (.int x1), some (.int x2), some (.int x3), some (.int x4)], [.int 12, .int x2], h)) rfl ?_
      refine gw_br (c := x2 ≤ 12) (a := (17, [some (.ref r0), some (.int x1), some (.int x2), some (.int x3), some (.int x4)], [], h)) (b := (15, [some (.ref r0), some (.int x1), some (.int x2), some (.int x3), some (.int x4)], [], h)) (hk _ _ rfl) rfl ⟨fun z3 => ?_, fun z3 => ?_⟩
      · replace w := w.1 z3
        refine gw_pst hk 2 (st' := (19, [some (.ref r0), some (.int x1), some (.int x2), some (.int x3), some (.int x4)], [.int 3, .int x1], h)) rfl ?_
        refine gw_br (c := x1 = 3) (a := (22, [some (.ref r0), some (.int x1), some (.int x2), some (.int x3), some (.int x4)], [], h)) (b := (38, [some (.ref r0), some (.int x1), some (.int x2), some (.int x3), some (.int x4)], [], h)) (hk _ _ rfl) rfl ⟨fun z4 => ?_, fun z4 => ?_⟩
        · replace w := w.1 z4
          refine gw_pst hk 1 (st' := (23, [some (.ref r0), some (.int x1), some (.int x2), some (.int x3), some (.int x4)], [.ref r0], h)) rfl ?_
          obtain ⟨q_5, e5, w⟩ := w
          refine gw_gf (hk _ _ rfl) e5 ?_
          refine gw_pst hk 4 (st' := (31, [some (.ref r0), some (.int x1), some (.int x2), some (.int x3), some (.int x4)], [.int x4, .int x3, .int 0, .int x1, .ref q_5], h)) rfl ?_
          obtain ⟨⟨fs6, e6⟩, w⟩ := w
          refine gw_call (jj := 25) (As := [.ref q_5, .int x1, .int 0, .int x3, .int x4]) (rest := []) (hk _ _ rfl) (fun _ => rfl) rfl rfl (Nat.le_of_ble_eq_true rfl) (gm_rcv_v rfl e6 rfl) ?_
          refine ge_imp w (fun v6 h_6 w => ?_)
          obtain ⟨x_6, rfl, w⟩ := w
          show gV c d 83 (34, [some (.ref r0), some (.int x1), some (.int x2), some (.int x3), some (.int x4)], [.int x_6], h_6) Post
          refine gw_pst hk 2 (st' := (37, [some (.ref r0), some (.int x1), some (.int x2), some (.int x3), some (.int x4)], [.int (-3)], h_6)) rfl ?_
          exact gw_ret (hk _ _ rfl) rfl w
        · replace w := w.2 z4
          refine gw_pst hk 1 (st' := (39, [some (.ref r0), some (.int x1), some (.int x2), some (.int x3), some (.int x4)], [.int x2], h)) rfl ?_
          refine gw_br (c := 0 ≤ x2) (a := (47, [some (.ref r0), some (.int x1), some (.int x2), some (.int x3), some (.int x4)], [], h)) (b := (42, [some (.ref r0), some (.int x1), some (.int x2), some (.int x3), some (.int x4)], [], h)) (hk _ _ rfl) rfl ⟨fun z7 => ?_, fun z7 => ?_⟩
          · replace w := w.1 z7
            refine gw_pst hk 1 (st' := (48, [some (.ref r0), some (.int x1), some (.int x2), some (.int x3), some (.int x4)], [.ref r0], h)) rfl ?_
            obtain ⟨q_8, e8, w⟩ := w
            refine gw_gf (hk _ _ rfl) e8 ?_
            refine gw_pst hk 4 (st' := (56, [some (.ref r0), some (.int x1), some (.int x2), some (.int x3), some (.int x4)], [.int x4, .int x3, .int x2, .int x1, .ref q_8], h)) rfl ?_
            obtain ⟨⟨fs9, e9⟩, w⟩ := w
            refine gw_call (jj := 25) (As := [.ref q_8, .int x1, .int x2, .int x3, .int x4]) (rest := []) (hk _ _ rfl) (fun _ => rfl) rfl rfl (Nat.le_of_ble_eq_true rfl) (gm_rcv_v rfl e9 rfl) ?_
            refine ge_imp w (fun v9 h_9 w => ?_)
            obtain ⟨x_9, rfl, w⟩ := w
            show gV c d 83 (59, [some (.ref r0), some (.int x1), some (.int x2), some (.int x3), some (.int x4)], [.int x_9], h_9) Post
            refine gw_le (L' := [none, none, none, none, none]) (gm_le_n _ (gm_le_n _ (gm_le_n _ (gm_le_n _ (gm_le_n _ gm_le_nil))))) ?_
            exact ok83_59 c d Post _ _ w
          · replace w := w.2 z7
            refine gw_pst hk 2 (st' := (59, [some (.ref r0), some (.int x1), some (.int x2), some (.int x3), some (.int x4)], [.int (-2)], h)) rfl ?_
            refine gw_le (L' := [none, none, none, none, none]) (gm_le_n _ (gm_le_n _ (gm_le_n _ (gm_le_n _ (gm_le_n _ gm_le_nil))))) ?_
            exact ok83_59 c d Post _ _ w
      · replace w := w.2 z3
        refine gw_le (L' := [none, none, none, none, none]) (gm_le_n _ (gm_le_n _ (gm_le_n _ (gm_le_n _ (gm_le_n _ gm_le_nil))))) ?_
        exact ok83_15 c d Post _ w
/-- CommandByTurns.whose()I -/
def wm84 (c : gx) (d : Nat) (Post : Option Value → gm_H → Prop) (r0 : Nat) (h : gm_H) : Prop :=
  ∃ q_1 : Nat, gm_fld h r0 9 5 = some (.ref q_1) ∧ ∃ q_2 : Nat, gm_fld h r0 9 5 = some (.ref q_2) ∧ ∃ x_3 : Int32, gm_fld h q_2 6 0 = some (.int x_3) ∧ (∃ fs4, gm_get h q_1 = some (.inr (6, fs4))) ∧ gE c d 51 [.ref q_1, .int x_3] h (fun v4 h_4 => ∃ x_4 : Int32, v4 = some (.int x_4) ∧ Post (some (.int x_4)) h_4)
theorem okm84 (c : gx) (d : Nat) (Post : Option Value → gm_H → Prop) (r0 : Nat) (h : gm_H) (w : wm84 c d Post r0 h) : gE c (d + 1) 84 [.ref r0] h Post := by
  have hk : ∀ pc i, gm_find gk_84 pc = some i → gm_code (gt_T c.1 c.2.1 c.2.2.1) 84 pc = some i := fun _ _ z => z
  unfold wm84 at w
  refine ge_of (by decide) (Nat.le_of_ble_eq_true rfl) ?_
  show gV c d 84 (0, [some (.ref r0)], [], h) Post
  unfold gV
  refine gw_pst hk 1 (st' := (1, [some (.ref r0)], [.ref r0], h)) rfl ?_
  obtain ⟨q_1, e1, w⟩ := w
  refine gw_gf (hk _ _ rfl) e1 ?_
  refine gw_pst hk 1 (st' := (5, [some (.ref r0)], [.ref r0, .ref q_1], h)) rfl ?_
  obtain ⟨q_2, e2, w⟩ := w
  refine gw_gf (hk _ _ rfl) e2 ?_
  obtain ⟨x_3, e3, w⟩ := w
  refine gw_gf (hk _ _ rfl) e3 ?_
  obtain ⟨⟨fs4, e4⟩, w⟩ := w
  refine gw_call (jj := 51) (As := [.ref q_1, .int x_3]) (rest := []) (hk _ _ rfl) (fun _ => rfl) rfl rfl (Nat.le_of_ble_eq_true rfl) (gm_rcv_v rfl e4 rfl) ?_
  refine ge_imp w (fun v4 h_4 w => ?_)
  obtain ⟨x_4, rfl, w⟩ := w
  show gV c d 84 (14, [some (.ref r0)], [.int x_4], h_4) Post
  exact gw_ret (hk _ _ rfl) rfl w
/-- CommandByTurns.march(I)I -/
def wm85 (c : gx) (d : Nat) (Post : Option Value → gm_H → Prop) (r0 : Nat) (x1 : Int32) (h : gm_H) : Prop :=
  ∃ q_1 : Nat, gm_fld h r0 9 6 = some (.ref q_1) ∧ ∃ q_2 : Nat, gm_fld h r0 9 5 = some (.ref q_2) ∧ (∃ fs3, gm_get h q_1 = some (.inr (6, fs3))) ∧ gE c d 48 [.ref q_1, .ref q_2] h (fun v3 h_3 => v3 = none ∧ (∃ fs4, gm_get h_3 r0 = some (.inr (9, fs4))) ∧ gE c d 95 [.ref r0, .int x1] h_3 (fun v4 h_4 => ∃ x_4 : Int32, v4 = some (.int x_4) ∧ (∃ fs5, gm_get h_4 r0 = some (.inr (9, fs5))) ∧ gE c d 94 [.ref r0, .int x_4] h_4 (fun v5 h_5 => ∃ x_5 : Int32, v5 = some (.int x_5) ∧ Post (some (.int x_5)) h_5)))
theorem okm85 (c : gx) (d : Nat) (Post : Option Value → gm_H → Prop) (r0 : Nat) (x1 : Int32) (h : gm_H) (w : wm85 c d Post r0 x1 h) : gE c (d + 1) 85 [.ref r0, .int x1] h Post := by
  have hk : ∀ pc i, gm_find gk_85 pc = some i → gm_code (gt_T c.1 c.2.1 c.2.2.1) 85 pc = some i := fun _ _ z => z
  unfold wm85 at w
  refine ge_of (by decide) (Nat.le_of_ble_eq_true rfl) ?_
  show gV c d 85 (0, [some (.ref r0), some (.int x1)], [], h) Post
  unfold gV
  refine gw_pst hk 1 (st' := (1, [some (.ref r0), some (.int x1)], [.ref r0], h)) rfl ?_
  obtain ⟨q_1, e1, w⟩ := w
  refine gw_gf (hk _ _ rfl) e1 ?_
  refine gw_pst hk 1 (st' := (5, [some (.ref r0), some (.int x1)], [.ref r0, .ref q_1], h)) rfl ?_
  obtain ⟨q_2, e2, w⟩ := w
  refine gw_gf (hk _ _ rfl) e2 ?_
  obtain ⟨⟨fs3, e3⟩, w⟩ := w
  refine gw_call (jj := 48) (As := [.ref q_1, .ref q_2]) (rest := []) (hk _ _ rfl) (fun _ => rfl) rfl rfl (Nat.le_of_ble_eq_true rfl) (gm_rcv_v rfl e3 rfl) ?_
  refine ge_imp w (fun v3 h_3 w => ?_)
  obtain ⟨rfl, w⟩ := w
  show gV c d 85 (11, [some (.ref r0), some (.int x1)], [], h_3) Post
  refine gw_pst hk 3 (st' := (14, [some (.ref r0), some (.int x1)], [.int x1, .ref r0, .ref r0], h_3)) rfl ?_
  obtain ⟨⟨fs4, e4⟩, w⟩ := w
  refine gw_call (jj := 95) (As := [.ref r0, .int x1]) (rest := [.ref r0]) (hk _ _ rfl) (fun _ => rfl) rfl rfl (Nat.le_of_ble_eq_true rfl) (gm_rcv_v rfl e4 rfl) ?_
  refine ge_imp w (fun v4 h_4 w => ?_)
  obtain ⟨x_4, rfl, w⟩ := w
  show gV c d 85 (17, [some (.ref r0), some (.int x1)], [.int x_4, .ref r0], h_4) Post
  obtain ⟨⟨fs5, e5⟩, w⟩ := w
  refine gw_call (jj := 94) (As := [.ref r0, .int x_4]) (rest := []) (hk _ _ rfl) (fun _ => rfl) rfl rfl (Nat.le_of_ble_eq_true rfl) (gm_rcv_v rfl e5 rfl) ?_
  refine ge_imp w (fun v5 h_5 w => ?_)
  obtain ⟨x_5, rfl, w⟩ := w
  show gV c d 85 (20, [some (.ref r0), some (.int x1)], [.int x_5], h_5) Post
  exact gw_ret (hk _ _ rfl) rfl w
/-- CommandByTurns.halt()I -/
def wm86 (c : gx) (d : Nat) (Post : Option Value → gm_H → Prop) (r0 : Nat) (h : gm_H) : Prop :=
  ∃ q_1 : Nat, gm_fld h r0 9 6 = some (.ref q_1) ∧ ∃ q_2 : Nat, gm_fld h r0 9 5 = some (.ref q_2) ∧ (∃ fs3, gm_get h q_1 = some (.inr (6, fs3))) ∧ gE c d 48 [.ref q_1, .ref q_2] h (fun v3 h_3 => v3 = none ∧ (∃ fs4, gm_get h_3 r0 = some (.inr (9, fs4))) ∧ gE c d 96 [.ref r0] h_3 (fun v4 h_4 => ∃ x_4 : Int32, v4 = some (.int x_4) ∧ (∃ fs5, gm_get h_4 r0 = some (.inr (9, fs5))) ∧ gE c d 94 [.ref r0, .int x_4] h_4 (fun v5 h_5 => ∃ x_5 : Int32, v5 = some (.int x_5) ∧ Post (some (.int x_5)) h_5)))
theorem okm86 (c : gx) (d : Nat) (Post : Option Value → gm_H → Prop) (r0 : Nat) (h : gm_H) (w : wm86 c d Post r0 h) : gE c (d + 1) 86 [.ref r0] h Post := by
  have hk : ∀ pc i, gm_find gk_86 pc = some i → gm_code (gt_T c.1 c.2.1 c.2.2.1) 86 pc = some i := fun _ _ z => z
  unfold wm86 at w
  refine ge_of (by decide) (Nat.le_of_ble_eq_true rfl) ?_
  show gV c d 86 (0, [some (.ref r0)], [], h) Post
  unfold gV
  refine gw_pst hk 1 (st' := (1, [some (.ref r0)], [.ref r0], h)) rfl ?_
  obtain ⟨q_1, e1, w⟩ := w
  refine gw_gf (hk _ _ rfl) e1 ?_
  refine gw_pst hk 1 (st' := (5, [some (.ref r0)], [.ref r0, .ref q_1], h)) rfl ?_
  obtain ⟨q_2, e2, w⟩ := w
  refine gw_gf (hk _ _ rfl) e2 ?_
  obtain ⟨⟨fs3, e3⟩, w⟩ := w
  refine gw_call (jj := 48) (As := [.ref q_1, .ref q_2]) (rest := []) (hk _ _ rfl) (fun _ => rfl) rfl rfl (Nat.le_of_ble_eq_true rfl) (gm_rcv_v rfl e3 rfl) ?_
  refine ge_imp w (fun v3 h_3 w => ?_)
  obtain ⟨rfl, w⟩ := w
  show gV c d 86 (11, [some (.ref r0)], [], h_3) Post
  refine gw_pst hk 2 (st' := (13, [some (.ref r0)], [.ref r0, .ref r0], h_3)) rfl ?_
  obtain ⟨⟨fs4, e4⟩, w⟩ := w
  refine gw_call (jj := 96) (As := [.ref r0]) (rest := [.ref r0]) (hk _ _ rfl) (fun _ => rfl) rfl rfl (Nat.le_of_ble_eq_true rfl) (gm_rcv_v rfl e4 rfl) ?_
  refine ge_imp w (fun v4 h_4 w => ?_)
  obtain ⟨x_4, rfl, w⟩ := w
  show gV c d 86 (16, [some (.ref r0)], [.int x_4, .ref r0], h_4) Post
  obtain ⟨⟨fs5, e5⟩, w⟩ := w
  refine gw_call (jj := 94) (As := [.ref r0, .int x_4]) (rest := []) (hk _ _ rfl) (fun _ => rfl) rfl rfl (Nat.le_of_ble_eq_true rfl) (gm_rcv_v rfl e5 rfl) ?_
  refine ge_imp w (fun v5 h_5 w => ?_)
  obtain ⟨x_5, rfl, w⟩ := w
  show gV c d 86 (19, [some (.ref r0)], [.int x_5], h_5) Post
  exact gw_ret (hk _ _ rfl) rfl w
/-- CommandByTurns.fight()I -/
def wm87 (c : gx) (d : Nat) (Post : Option Value → gm_H → Prop) (r0 : Nat) (h : gm_H) : Prop :=
  ∃ q_1 : Nat, gm_fld h r0 9 6 = some (.ref q_1) ∧ ∃ q_2 : Nat, gm_fld h r0 9 5 = some (.ref q_2) ∧ (∃ fs3, gm_get h q_1 = some (.inr (6, fs3))) ∧ gE c d 48 [.ref q_1, .ref q_2] h (fun v3 h_3 => v3 = none ∧ (∃ fs4, gm_get h_3 r0 = some (.inr (9, fs4))) ∧ gE c d 97 [.ref r0] h_3 (fun v4 h_4 => ∃ x_4 : Int32, v4 = some (.int x_4) ∧ (∃ fs5, gm_get h_4 r0 = some (.inr (9, fs5))) ∧ gE c d 94 [.ref r0, .int x_4] h_4 (fun v5 h_5 => ∃ x_5 : Int32, v5 = some (.int x_5) ∧ Post (some (.int x_5)) h_5)))
theorem okm87 (c : gx) (d : Nat) (Post : Option Value → gm_H → Prop) (r0 : Nat) (h : gm_H) (w : wm87 c d Post r0 h) : gE c (d + 1) 87 [.ref r0] h Post := by
  have hk : ∀ pc i, gm_find gk_87 pc = some i → gm_code (gt_T c.1 c.2.1 c.2.2.1) 87 pc = some i := fun _ _ z => z
  unfold wm87 at w
  refine ge_of (by decide) (Nat.le_of_ble_eq_true rfl) ?_
  show gV c d 87 (0, [some (.ref r0)], [], h) Post
  unfold gV
  refine gw_pst hk 1 (st' := (1, [some (.ref r0)], [.ref r0], h)) rfl ?_
  obtain ⟨q_1, e1, w⟩ := w
  refine gw_gf (hk _ _ rfl) e1 ?_
  refine gw_pst hk 1 (st' := (5, [some (.ref r0)], [.ref r0, .ref q_1], h)) rfl ?_
  obtain ⟨q_2, e2, w⟩ := w
  refine gw_gf (hk _ _ rfl) e2 ?_
  obtain ⟨⟨fs3, e3⟩, w⟩ := w
  refine gw_call (jj := 48) (As := [.ref q_1, .ref q_2]) (rest := []) (hk _ _ rfl) (fun _ => rfl) rfl rfl (Nat.le_of_ble_eq_true rfl) (gm_rcv_v rfl e3 rfl) ?_
  refine ge_imp w (fun v3 h_3 w => ?_)
  obtain ⟨rfl, w⟩ := w
  show gV c d 87 (11, [some (.ref r0)], [], h_3) Post
  refine gw_pst hk 2 (st' := (13, [some (.ref r0)], [.ref r0, .ref r0], h_3)) rfl ?_
  obtain ⟨⟨fs4, e4⟩, w⟩ := w
  refine gw_call (jj := 97) (As := [.ref r0]) (rest := [.ref r0]) (hk _ _ rfl) (fun _ => rfl) rfl rfl (Nat.le_of_ble_eq_true rfl) (gm_rcv_v rfl e4 rfl) ?_
  refine ge_imp w (fun v4 h_4 w => ?_)
  obtain ⟨x_4, rfl, w⟩ := w
  show gV c d 87 (16, [some (.ref r0)], [.int x_4, .ref r0], h_4) Post
  obtain ⟨⟨fs5, e5⟩, w⟩ := w
  refine gw_call (jj := 94) (As := [.ref r0, .int x_4]) (rest := []) (hk _ _ rfl) (fun _ => rfl) rfl rfl (Nat.le_of_ble_eq_true rfl) (gm_rcv_v rfl e5 rfl) ?_
  refine ge_imp w (fun v5 h_5 w => ?_)
  obtain ⟨x_5, rfl, w⟩ := w
  show gV c d 87 (19, [some (.ref r0)], [.int x_5], h_5) Post
  exact gw_ret (hk _ _ rfl) rfl w
/-- CommandByTurns.foe(I)I -/
def wm88 (c : gx) (d : Nat) (Post : Option Value → gm_H → Prop) (r0 : Nat) (x1 : Int32) (h : gm_H) : Prop :=
  ∃ q_1 : Nat, gm_fld h r0 9 6 = some (.ref q_1) ∧ ∃ q_2 : Nat, gm_fld h r0 9 5 = some (.ref q_2) ∧ (∃ fs3, gm_get h q_1 = some (.inr (6, fs3))) ∧ gE c d 48 [.ref q_1, .ref q_2] h (fun v3 h_3 => v3 = none ∧ (∃ fs4, gm_get h_3 r0 = some (.inr (9, fs4))) ∧ gE c d 98 [.ref r0, .int x1] h_3 (fun v4 h_4 => ∃ x_4 : Int32, v4 = some (.int x_4) ∧ (∃ fs5, gm_get h_4 r0 = some (.inr (9, fs5))) ∧ gE c d 94 [.ref r0, .int x_4] h_4 (fun v5 h_5 => ∃ x_5 : Int32, v5 = some (.int x_5) ∧ Post (some (.int x_5)) h_5)))
theorem okm88 (c : gx) (d : Nat) (Post : Option Value → gm_H → Prop) (r0 : Nat) (x1 : Int32) (h : gm_H) (w : wm88 c d Post r0 x1 h) : gE c (d + 1) 88 [.ref r0, .int x1] h Post := by
  have hk : ∀ pc i, gm_find gk_88 pc = some i → gm_code (gt_T c.1 c.2.1 c.2.2.1) 88 pc = some i := fun _ _ z => z
  unfold wm88 at w
  refine ge_of (by decide) (Nat.le_of_ble_eq_true rfl) ?_
  show gV c d 88 (0, [some (.ref r0), some (.int x1)], [], h) Post
  unfold gV
  refine gw_pst hk 1 (st' := (1, [some (.ref r0), some (.int x1)], [.ref r0], h)) rfl ?_
  obtain ⟨q_1, e1, w⟩ := w
  refine gw_gf (hk _ _ rfl) e1 ?_
  refine gw_pst hk 1 (st' := (5, [some (.ref r0), some (.int x1)], [.ref r0, .ref q_1], h)) rfl ?_
  obtain ⟨q_2, e2, w⟩ := w
  refine gw_gf (hk _ _ rfl) e2 ?_
  obtain ⟨⟨fs3, e3⟩, w⟩ := w
  refine gw_call (jj := 48) (As := [.ref q_1, .ref q_2]) (rest := []) (hk _ _ rfl) (fun _ => rfl) rfl rfl (Nat.le_of_ble_eq_true rfl) (gm_rcv_v rfl e3 rfl) ?_
  refine ge_imp w (fun v3 h_3 w => ?_)
  obtain ⟨rfl, w⟩ := w
  show gV c d 88 (11, [some (.ref r0), some (.int x1)], [], h_3) Post
  refine gw_pst hk 3 (st' := (14, [some (.ref r0), some (.int x1)], [.int x1, .ref r0, .ref r0], h_3)) rfl ?_
  obtain ⟨⟨fs4, e4⟩, w⟩ := w
  refine gw_call (jj := 98) (As := [.ref r0, .int x1]) (rest := [.ref r0]) (hk _ _ rfl) (fun _ => rfl) rfl rfl (Nat.le_of_ble_eq_true rfl) (gm_rcv_v rfl e4 rfl) ?_
  refine ge_imp w (fun v4 h_4 w => ?_)
  obtain ⟨x_4, rfl, w⟩ := w
  show gV c d 88 (17, [some (.ref r0), some (.int x1)], [.int x_4, .ref r0], h_4) Post
  obtain ⟨⟨fs5, e5⟩, w⟩ := w
  refine gw_call (jj := 94) (As := [.ref r0, .int x_4]) (rest := []) (hk _ _ rfl) (fun _ => rfl) rfl rfl (Nat.le_of_ble_eq_true rfl) (gm_rcv_v rfl e5 rfl) ?_
  refine ge_imp w (fun v5 h_5 w => ?_)
  obtain ⟨x_5, rfl, w⟩ := w
  show gV c d 88 (20, [some (.ref r0), some (.int x1)], [.int x_5], h_5) Post
  exact gw_ret (hk _ _ rfl) rfl w
def w89_21 (c : gx) (d : Nat) (Post : Option Value → gm_H → Prop)  (h : gm_H) : Prop :=
  Post (some (.int (-1))) h
theorem ok89_21 (c : gx) (d : Nat) (Post : Option Value → gm_H → Prop)   (h : gm_H) (w : w89_21 c d Post  h) : gV c d 89 (21, [none, none, none], [], h) Post := by
  have hk : ∀ pc i, gm_find gk_89 pc = some i → gm_code (gt_T c.1 c.2.1 c.2.2.1) 89 pc = some i := fun _ _ z => z
  unfold w89_21 at w
  unfold gV
  refine gw_pst hk 1 (st' := (22, [none, none, none], [.int (-1)], h)) rfl ?_
  exact gw_ret (hk _ _ rfl) rfl w
/-- CommandByTurns.send(II)I -/
def wm89 (c : gx) (d : Nat) (Post : Option Value → gm_H → Prop) (r0 : Nat) (x1 : Int32) (x2 : Int32) (h : gm_H) : Prop :=
  ((x1 < 0 → w89_21 c d Post h) ∧ (¬ (x1 < 0) → ((2 < x1 → w89_21 c d Post h) ∧ (¬ (2 < x1) → ((x2 < 1 → w89_21 c d Post h) ∧ (¬ (x2 < 1) → ((x2 ≤ 999 → ∃ q_5 : Nat, gm_fld h r0 9 6 = some (.ref q_5) ∧ ∃ q_6 : Nat, gm_fld h r0 9 5 = some (.ref q_6) ∧ (∃ fs7, gm_get h q_5 = some (.inr (6, fs7))) ∧ gE c d 48 [.ref q_5, .ref q_6] h (fun v7 h_7 => v7 = none ∧ ∃ q_8 : Nat, gm_fld h_7 r0 9 5 = some (.ref q_8) ∧ (∃ fs9, gm_get h_7 q_8 = some (.inr (6, fs9))) ∧ gE c d 55 [.ref q_8, .int x1, .int x2] h_7 (fun v9 h_9 => ∃ x_9 : Int32, v9 = some (.int x_9) ∧ (∃ fs10, gm_get h_9 r0 = some (.inr (9, fs10))) ∧ gE c d 94 [.ref r0, .int x_9] h_9 (fun v10 h_10 => ∃ x_10 : Int32, v10 = some (.int x_10) ∧ Post (some (.int x_10)) h_10)))) ∧ (¬ (x2 ≤ 999) → w89_21 c d Post h))))))))
theorem okm89 (c : gx) (d : Nat) (Post : Option Value → gm_H → Prop) (r0 : Nat) (x1 : Int32) (x2 : Int32) (h : gm_H) (w : wm89 c d Post r0 x1 x2 h) : gE c (d + 1) 89 [.ref r0, .int x1, .int x2] h Post := by
  have hk : ∀ pc i, gm_find gk_89 pc = some i → gm_code (gt_T c.1 c.2.1 c.2.2.1) 89 pc = some i := fun _ _ z => z
  unfold wm89 at w
  refine ge_of (by decide) (Nat.le_of_ble_eq_true rfl) ?_
  show gV c d 89 (0, [some (.ref r0), some (.int x1), some (.int x2)], [], h) Post
  unfold gV
  refine gw_pst hk 1 (st' := (1, [some (.ref r0), some (.int x1), some (.int x2)], [.int x1], h)) rfl ?_
  refine gw_br (c := x1 < 0) (a := (21, [some (.ref r0), some (.int x1), some (.int x2)], [], h)) (b := (4, [some (.ref r0), some (.int x1), some (.int x2)], [], h)) (hk _ _ rfl) rfl ⟨fun z1 => ?_, fun z1 => ?_⟩
  · replace w := w.1 z1
    refine gw_le (L' := [none, none, none]) (gm_le_n _ (gm_le_n _ (gm_le_n _ gm_le_nil))) ?_
    exact ok89_21 c d Post _ w
  · replace w := w.2 z1
    refine gw_pst hk 2 (st' := (6, [some (.ref r0), some (.int x1), some (.int x2)], [.int 2, .int x1], h)) rfl ?_
    refine gw_br (c := 2 < x1) (a := (21, [some (.ref r0), some (.int x1), some (.int x2)], [], h)) (b := (9, [some (.ref r0), some (.int x1), some (.int x2)], [], h)) (hk _ _ rfl) rfl ⟨fun z2 => ?_, fun z2 => ?_⟩
    · replace w := w.1 z2
      refine gw_le (L' := [none, none, none]) (gm_le_n _ (gm_le_n _ (gm_le_n _ gm_le_nil))) ?_
      exact ok89_21 c d Post _ w
    · replace w := w.2 z2
      refine gw_pst hk 2 (st' := (11, [some (.ref r0), some (.int x1), some (.int x2)], [.int 1, .int x2], h)) rfl ?_
      refine gw_br (c := x2 < 1) (a := (21, [some (.ref r0), some (.int x1), some (.int x2)], [], h)) (b := (14, [some (.ref r0), some (.int x1), some (.int x2)], [], h)) (hk _ _ rfl) rfl ⟨fun z3 => ?_, fun z3 => ?_⟩
      · replace w := w.1 z3
        refine gw_le (L' := [none, none, none]) (gm_le_n _ (gm_le_n _ (gm_le_n _ gm_le_nil))) ?_
        exact ok89_21 c d Post _ w
      · replace w := w.2 z3
        refine gw_pst hk 2 (st' := (18, [some (.ref r0), some (.int x1), some (.int x2)], [.int 999, .int x2], h)) rfl ?_
        refine gw_br (c := x2 ≤ 999) (a := (23, [some (.ref r0), some (.int x1), some (.int x2)], [], h)) (b := (21, [some (.ref r0), some (.int x1), some (.int x2)], [], h)) (hk _ _ rfl) rfl ⟨fun z4 => ?_, fun z4 => ?_⟩
        · replace w := w.1 z4
          refine gw_pst hk 1 (st' := (24, [some (.ref r0), some (.int x1), some (.int x2)], [.ref r0], h)) rfl ?_
          obtain ⟨q_5, e5, w⟩ := w
          refine gw_gf (hk _ _ rfl) e5 ?_
          refine gw_pst hk 1 (st' := (28, [some (.ref r0), some (.int x1), some (.int x2)], [.ref r0, .ref q_5], h)) rfl ?_
          obtain ⟨q_6, e6, w⟩ := w
          refine gw_gf (hk _ _ rfl) e6 ?_
          obtain ⟨⟨fs7, e7⟩, w⟩ := w
          refine gw_call (jj := 48) (As := [.ref q_5, .ref q_6]) (rest := []) (hk _ _ rfl) (fun _ => rfl) rfl rfl (Nat.le_of_ble_eq_true rfl) (gm_rcv_v rfl e7 rfl) ?_
          refine ge_imp w (fun v7 h_7 w => ?_)
          obtain ⟨rfl, w⟩ := w
          show gV c d 89 (34, [some (.ref r0), some (.int x1), some (.int x2)], [], h_7) Post
          refine gw_pst hk 2 (st' := (36, [some (.ref r0), some (.int x1), some (.int x2)], [.ref r0, .ref r0], h_7)) rfl ?_
          obtain ⟨q_8, e8, w⟩ := w
          refine gw_gf (hk _ _ rfl) e8 ?_
          refine gw_pst hk 2 (st' := (41, [some (.ref r0), some (.int x1), some (.int x2)], [.int x2, .int x1, .ref q_8, .ref r0], h_7)) rfl ?_
          obtain ⟨⟨fs9, e9⟩, w⟩ := w
          refine gw_call (jj := 55) (As := [.ref q_8, .int x1, .int x2]) (rest := [.ref r0]) (hk _ _ rfl) (fun _ => rfl) rfl rfl (Nat.le_of_ble_eq_true rfl) (gm_rcv_v rfl e9 rfl) ?_
          refine ge_imp w (fun v9 h_9 w => ?_)
          obtain ⟨x_9, rfl, w⟩ := w
          show gV c d 89 (44, [some (.ref r0), some (.int x1), some (.int x2)], [.int x_9, .ref r0], h_9) Post
          obtain ⟨⟨fs10, e10⟩, w⟩ := w
          refine gw_call (jj := 94) (As := [.ref r0, .int x_9]) (rest := []) (hk _ _ rfl) (fun _ => rfl) rfl rfl (Nat.le_of_ble_eq_true rfl) (gm_rcv_v rfl e10 rfl) ?_
          refine ge_imp w (fun v10 h_10 w => ?_)
          obtain ⟨x_10, rfl, w⟩ := w
          show gV c d 89 (47, [some (.ref r0), some (.int x1), some (.int x2)], [.int x_10], h_10) Post
          exact gw_ret (hk _ _ rfl) rfl w
        · replace w := w.2 z4
          refine gw_le (L' := [none, none, none]) (gm_le_n _ (gm_le_n _ (gm_le_n _ gm_le_nil))) ?_
          exact ok89_21 c d Post _ w
/-- CommandByTurns.lend(I)I -/
def wm90 (c : gx) (d : Nat) (Post : Option Value → gm_H → Prop) (r0 : Nat) (x1 : Int32) (h : gm_H) : Prop :=
  ∃ q_1 : Nat, gm_fld h r0 9 6 = some (.ref q_1) ∧ ∃ q_2 : Nat, gm_fld h r0 9 5 = some (.ref q_2) ∧ (∃ fs3, gm_get h q_1 = some (.inr (6, fs3))) ∧ gE c d 48 [.ref q_1, .ref q_2] h (fun v3 h_3 => v3 = none ∧ (∃ fs4, gm_get h_3 r0 = some (.inr (9, fs4))) ∧ gE c d 99 [.ref r0, .int x1] h_3 (fun v4 h_4 => ∃ x_4 : Int32, v4 = some (.int x_4) ∧ (∃ fs5, gm_get h_4 r0 = some (.inr (9, fs5))) ∧ gE c d 94 [.ref r0, .int x_4] h_4 (fun v5 h_5 => ∃ x_5 : Int32, v5 = some (.int x_5) ∧ Post (some (.int x_5)) h_5)))
theorem okm90 (c : gx) (d : Nat) (Post : Option Value → gm_H → Prop) (r0 : Nat) (x1 : Int32) (h : gm_H) (w : wm90 c d Post r0 x1 h) : gE c (d + 1) 90 [.ref r0, .int x1] h Post := by
  have hk : ∀ pc i, gm_find gk_90 pc = some i → gm_code (gt_T c.1 c.2.1 c.2.2.1) 90 pc = some i := fun _ _ z => z
  unfold wm90 at w
  refine ge_of (by decide) (Nat.le_of_ble_eq_true rfl) ?_
  show gV c d 90 (0, [some (.ref r0), some (.int x1)], [], h) Post
  unfold gV
  refine gw_pst hk 1 (st' := (1, [some (.ref r0), some (.int x1)], [.ref r0], h)) rfl ?_
  obtain ⟨q_1, e1, w⟩ := w
  refine gw_gf (hk _ _ rfl) e1 ?_
  refine gw_pst hk 1 (st' := (5, [some (.ref r0), some (.int x1)], [.ref r0, .ref q_1], h)) rfl ?_
  obtain ⟨q_2, e2, w⟩ := w
  refine gw_gf (hk _ _ rfl) e2 ?_
  obtain ⟨⟨fs3, e3⟩, w⟩ := w
  refine gw_call (jj := 48) (As := [.ref q_1, .ref q_2]) (rest := []) (hk _ _ rfl) (fun _ => rfl) rfl rfl (Nat.le_of_ble_eq_true rfl) (gm_rcv_v rfl e3 rfl) ?_
  refine ge_imp w (fun v3 h_3 w => ?_)
  obtain ⟨rfl, w⟩ := w
  show gV c d 90 (11, [some (.ref r0), some (.int x1)], [], h_3) Post
  refine gw_pst hk 3 (st' := (14, [some (.ref r0), some (.int x1)], [.int x1, .ref r0, .ref r0], h_3)) rfl ?_
  obtain ⟨⟨fs4, e4⟩, w⟩ := w
  refine gw_call (jj := 99) (As := [.ref r0, .int x1]) (rest := [.ref r0]) (hk _ _ rfl) (fun _ => rfl) rfl rfl (Nat.le_of_ble_eq_true rfl) (gm_rcv_v rfl e4 rfl) ?_
  refine ge_imp w (fun v4 h_4 w => ?_)
  obtain ⟨x_4, rfl, w⟩ := w
  show gV c d 90 (17, [some (.ref r0), some (.int x1)], [.int x_4, .ref r0], h_4) Post
  obtain ⟨⟨fs5, e5⟩, w⟩ := w
  refine gw_call (jj := 94) (As := [.ref r0, .int x_4]) (rest := []) (hk _ _ rfl) (fun _ => rfl) rfl rfl (Nat.le_of_ble_eq_true rfl) (gm_rcv_v rfl e5 rfl) ?_
  refine ge_imp w (fun v5 h_5 w => ?_)
  obtain ⟨x_5, rfl, w⟩ := w
  show gV c d 90 (20, [some (.ref r0), some (.int x1)], [.int x_5], h_5) Post
  exact gw_ret (hk _ _ rfl) rfl w
def w91_18 (c : gx) (d : Nat) (Post : Option Value → gm_H → Prop)  (h : gm_H) : Prop :=
  Post (some (.int (-1))) h
theorem ok91_18 (c : gx) (d : Nat) (Post : Option Value → gm_H → Prop)   (h : gm_H) (w : w91_18 c d Post  h) : gV c d 91 (18, [none, none, none], [], h) Post := by
  have hk : ∀ pc i, gm_find gk_91 pc = some i → gm_code (gt_T c.1 c.2.1 c.2.2.1) 91 pc = some i := fun _ _ z => z
  unfold w91_18 at w
  unfold gV
  refine gw_pst hk 1 (st' := (19, [none, none, none], [.int (-1)], h)) rfl ?_
  exact gw_ret (hk _ _ rfl) rfl w
/-- CommandByTurns.sick(II)I -/
def wm91 (c : gx) (d : Nat) (Post : Option Value → gm_H → Prop) (r0 : Nat) (x1 : Int32) (x2 : Int32) (h : gm_H) : Prop :=
  gE c d 147 [.int x1] h (fun v1 h_1 => ∃ x_1 : Int32, v1 = some (.int x_1) ∧ ((x_1 = 0 → w91_18 c d Post h_1) ∧ (¬ (x_1 = 0) → ((x2 < 1 → w91_18 c d Post h_1) ∧ (¬ (x2 < 1) → ((x2 ≤ 30 → ∃ q_5 : Nat, gm_fld h_1 r0 9 6 = some (.ref q_5) ∧ ∃ q_6 : Nat, gm_fld h_1 r0 9 5 = some (.ref q_6) ∧ (∃ fs7, gm_get h_1 q_5 = some (.inr (6, fs7))) ∧ gE c d 48 [.ref q_5, .ref q_6] h_1 (fun v7 h_7 => v7 = none ∧ ∃ q_8 : Nat, gm_fld h_7 r0 9 5 = some (.ref q_8) ∧ (∃ fs9, gm_get h_7 q_8 = some (.inr (6, fs9))) ∧ gE c d 50 [.ref q_8, .int x1, .int x2] h_7 (fun v9 h_9 => ∃ x_9 : Int32, v9 = some (.int x_9) ∧ (∃ fs10, gm_get h_9 r0 = some (.inr (9, fs10))) ∧ gE c d 94 [.ref r0, .int x_9] h_9 (fun v10 h_10 => ∃ x_10 : Int32, v10 = some (.int x_10) ∧ Post (some (.int x_10)) h_10)))) ∧ (¬ (x2 ≤ 30) → w91_18 c d Post h_1)))))))
theorem okm91 (c : gx) (d : Nat) (Post : Option Value → gm_H → Prop) (r0 : Nat) (x1 : Int32) (x2 : Int32) (h : gm_H) (w : wm91 c d Post r0 x1 x2 h) : gE c (d + 1) 91 [.ref r0, .int x1, .int x2] h Post := by
  have hk : ∀ pc i, gm_find gk_91 pc = some i → gm_code (gt_T c.1 c.2.1 c.2.2.1) 91 pc = some i := fun _ _ z => z
  unfold wm91 at w
  refine ge_of (by decide) (Nat.le_of_ble_eq_true rfl) ?_
  show gV c d 91 (0, [some (.ref r0), some (.int x1), some (.int x2)], [], h) Post
  unfold gV
  refine gw_pst hk 1 (st' := (1, [some (.ref r0), some (.int x1), some (.int x2)], [.int x1], h)) rfl ?_
  refine gw_call (jj := 147) (As := [.int x1]) (rest := []) (hk _ _ rfl) (fun _ => rfl) rfl rfl (Nat.le_of_ble_eq_true rfl) rfl ?_
  refine ge_imp w (fun v1 h_1 w => ?_)
  obtain ⟨x_1, rfl, w⟩ := w
  show gV c d 91 (4, [some (.ref r0), some (.int x1), some (.int x2)], [.int x_1], h_1) Post
  refine gw_br (c := x_1 = 0) (a := (18, [some (.ref r0), some (.int x1), some (.int x2)], [], h_1)) (b := (7, [some (.ref r0), some (.int x1), some (.int x2)], [], h_1)) (hk _ _ rfl) rfl ⟨fun z2 => ?_, fun z2 => ?_⟩
  · replace w := w.1 z2
    refine gw_le (L' := [none, none, none]) (gm_le_n _ (gm_le_n _ (gm_le_n _ gm_le_nil))) ?_
    exact ok91_18 c d Post _ w
  · replace w := w.2 z2
    refine gw_pst hk 2 (st' := (9, [some (.ref r0), some (.int x1), some (.int x2)], [.int 1, .int x2], h_1)) rfl ?_
    refine gw_br (c := x2 < 1) (a := (18, [some (.ref r0), some (.int x1), some (.int x2)], [], h_1)) (b := (12, [some (.ref r0), some (.int x1), some (.int x2)], [], h_1)) (hk _ _ rfl) rfl ⟨fun z3 => ?_, fun z3 => ?_⟩
    · replace w := w.1 z3
      refine gw_le (L' := [none, none, none]) (gm_le_n _ (gm_le_n _ (gm_le_n _ gm_le_nil))) ?_
      exact ok91_18 c d Post _ w
    · replace w := w.2 z3
      refine gw_pst hk 2 (st' := (15, [some (.ref r0), some (.int x1), some (.int x2)], [.int 30, .int x2], h_1)) rfl ?_
      refine gw_br (c := x2 ≤ 30) (a := (20, [some (.ref r0), some (.int x1), some (.int x2)], [], h_1)) (b := (18, [some (.ref r0), some (.int x1), some (.int x2)], [], h_1)) (hk _ _ rfl) rfl ⟨fun z4 => ?_, fun z4 => ?_⟩
      · replace w := w.1 z4
        refine gw_pst hk 1 (st' := (21, [some (.ref r0), some (.int x1), some (.int x2)], [.ref r0], h_1)) rfl ?_
        obtain ⟨q_5, e5, w⟩ := w
        refine gw_gf (hk _ _ rfl) e5 ?_
        refine gw_pst hk 1 (st' := (25, [some (.ref r0), some (.int x1), some (.int x2)], [.ref r0, .ref q_5], h_1)) rfl ?_
        obtain ⟨q_6, e6, w⟩ := w
        refine gw_gf (hk _ _ rfl) e6 ?_
        obtain ⟨⟨fs7, e7⟩, w⟩ := w
        refine gw_call (jj := 48) (As := [.ref q_5, .ref q_6]) (rest := []) (hk _ _ rfl) (fun _ => rfl) rfl rfl (Nat.le_of_ble_eq_true rfl) (gm_rcv_v rfl e7 rfl) ?_
        refine ge_imp w (fun v7 h_7 w => ?_)
        obtain ⟨rfl, w⟩ := w
        show gV c d 91 (31, [some (.ref r0), some (.int x1), some (.int x2)], [], h_7) Post
        refine gw_pst hk 2 (st' := (33, [some (.ref r0), some (.int x1), some (.int x2)], [.ref r0, .ref r0], h_7)) rfl ?_
        obtain ⟨q_8, e8, w⟩ := w
        refine gw_gf (hk _ _ rfl) e8 ?_
        refine gw_pst hk 2 (st' := (38, [some (.ref r0), some (.int x1), some (.int x2)], [.int x2, .int x1, .ref q_8, .ref r0], h_7)) rfl ?_
        obtain ⟨⟨fs9, e9⟩, w⟩ := w
        refine gw_call (jj := 50) (As := [.ref q_8, .int x1, .int x2]) (rest := [.ref r0]) (hk _ _ rfl) (fun _ => rfl) rfl rfl (Nat.le_of_ble_eq_true rfl) (gm_rcv_v rfl e9 rfl) ?_
        refine ge_imp w (fun v9 h_9 w => ?_)
        obtain ⟨x_9, rfl, w⟩ := w
        show gV c d 91 (41, [some (.ref r0), some (.int x1), some (.int x2)], [.int x_9, .ref r0], h_9) Post
        obtain ⟨⟨fs10, e10⟩, w⟩ := w
        refine gw_call (jj := 94) (As := [.ref r0, .int x_9]) (rest := []) (hk _ _ rfl) (fun _ => rfl) rfl rfl (Nat.le_of_ble_eq_true rfl) (gm_rcv_v rfl e10 rfl) ?_
        refine ge_imp w (fun v10 h_10 w => ?_)
        obtain ⟨x_10, rfl, w⟩ := w
        show gV c d 91 (44, [some (.ref r0), some (.int x1), some (.int x2)], [.int x_10], h_10) Post
        exact gw_ret (hk _ _ rfl) rfl w
      · replace w := w.2 z4
        refine gw_le (L' := [none, none, none]) (gm_le_n _ (gm_le_n _ (gm_le_n _ gm_le_nil))) ?_
        exact ok91_18 c d Post _ w
def w92_110 (c : gx) (d : Nat) (Post : Option Value → gm_H → Prop) (K40 : Nat → Int32 → Int32 → Int32 → gm_H → Prop) (r0 : Nat) (x2 : Int32) (x3 : Int32) (xs0 : Int32) (xs1 : Int32) (h : gm_H) : Prop :=
  K40 r0 x2 x3 ((xs0 + xs1) + 1) h
theorem ok92_110 (c : gx) (d : Nat) (Post : Option Value → gm_H → Prop) (K40 : Nat → Int32 → Int32 → Int32 → gm_H → Prop)  (hK40 : ∀ (r0 : Nat) (x2 : Int32) (x3 : Int32) (x4 : Int32) (h : gm_H), K40 r0 x2 x3 x4 h → gV c d 92 (40, [some (.ref r0), none, some (.int x2), some (.int x3), some (.int x4), none], [], h) Post) (r0 : Nat) (x2 : Int32) (x3 : Int32) (xs0 : Int32) (xs1 : Int32) (h : gm_H) (w : w92_110 c d Post K40 r0 x2 x3 xs0 xs1 h) : gV c d 92 (110, [some (.ref r0), none, some (.int x2), some (.int x3), none, none], [.int xs1, .int xs0], h) Post := by
  have hk : ∀ pc i, gm_find gk_92 pc = some i → gm_code (gt_T c.1 c.2.1 c.2.2.1) 92 pc = some i := fun _ _ z => z
  unfold w92_110 at w
  unfold gV
  refine gw_pst hk 4 (st' := (40, [some (.ref r0), none, some (.int x2), some (.int x3), some (.int ((xs0 + xs1) + 1)), none], [], h)) rfl ?_
  exact hK40 _ _ _ _ _ w
def w92_95 (c : gx) (d : Nat) (Post : Option Value → gm_H → Prop) (K40 : Nat → Int32 → Int32 → Int32 → gm_H → Prop) (r0 : Nat) (x2 : Int32) (x3 : Int32) (x4 : Int32) (x5 : Int32) (h : gm_H) : Prop :=
  gE c d 100 [.int x5] h (fun v1 h_1 => ∃ x_1 : Int32, v1 = some (.int x_1) ∧ ((x_1 = 0 → w92_110 c d Post K40 r0 x2 x3 x4 0 h_1) ∧ (¬ (x_1 = 0) → w92_110 c d Post K40 r0 x2 x3 x4 1 h_1)))
theorem ok92_95 (c : gx) (d : Nat) (Post : Option Value → gm_H → Prop) (K40 : Nat → Int32 → Int32 → Int32 → gm_H → Prop)  (hK40 : ∀ (r0 : Nat) (x2 : Int32) (x3 : Int32) (x4 : Int32) (h : gm_H), K40 r0 x2 x3 x4 h → gV c d 92 (40, [some (.ref r0), none, some (.int x2), some (.int x3), some (.int x4), none], [], h) Post) (r0 : Nat) (x2 : Int32) (x3 : Int32) (x4 : Int32) (x5 : Int32) (h : gm_H) (w : w92_95 c d Post K40 r0 x2 x3 x4 x5 h) : gV c d 92 (95, [some (.ref r0), none, some (.int x2), some (.int x3), some (.int x4), some (.int x5)], [], h) Post := by
  have hk : ∀ pc i, gm_find gk_92 pc = some i → gm_code (gt_T c.1 c.2.1 c.2.2.1) 92 pc = some i := fun _ _ z => z
  unfold w92_95 at w
  unfold gV
  refine gw_pst hk 2 (st' := (99, [some (.ref r0), none, some (.int x2), some (.int x3), some (.int x4), some (.int x5)], [.int x5, .int x4], h)) rfl ?_
  refine gw_call (jj := 100) (As := [.int x5]) (rest := [.int x4]) (hk _ _ rfl) (fun _ => rfl) rfl rfl (Nat.le_of_ble_eq_true rfl) rfl ?_
  refine ge_imp w (fun v1 h_1 w => ?_)
  obtain ⟨x_1, rfl, w⟩ := w
  show gV c d 92 (102, [some (.ref r0), none, some (.int x2), some (.int x3), some (.int x4), some (.int x5)], [.int x_1, .int x4], h_1) Post
  refine gw_br (c := x_1 = 0) (a := (109, [some (.ref r0), none, some (.int x2), some (.int x3), some (.int x4), some (.int x5)], [.int x4], h_1)) (b := (105, [some (.ref r0), none, some (.int x2), some (.int x3), some (.int x4), some (.int x5)], [.int x4], h_1)) (hk _ _ rfl) rfl ⟨fun z2 => ?_, fun z2 => ?_⟩
  · replace w := w.1 z2
    refine gw_pst hk 1 (st' := (110, [some (.ref r0), none, some (.int x2), some (.int x3), some (.int x4), some (.int x5)], [.int 0, .int x4], h_1)) rfl ?_
    refine gw_le (L' := [some (.ref r0), none, some (.int x2), some (.int x3), none, none]) (gm_le_k _ (gm_le_k _ (gm_le_k _ (gm_le_k _ (gm_le_n _ (gm_le_n _ gm_le_nil)))))) ?_
    exact ok92_110 c d Post K40 hK40 _ _ _ _ _ _ w
  · replace w := w.2 z2
    refine gw_pst hk 2 (st' := (110, [some (.ref r0), none, some (.int x2), some (.int x3), some (.int x4), some (.int x5)], [.int 1, .int x4], h_1)) rfl ?_
    refine gw_le (L' := [some (.ref r0), none, some (.int x2), some (.int x3), none, none]) (gm_le_k _ (gm_le_k _ (gm_le_k _ (gm_le_k _ (gm_le_n _ (gm_le_n _ gm_le_nil)))))) ?_
    exact ok92_110 c d Post K40 hK40 _ _ _ _ _ _ w
def w92_134 (c : gx) (d : Nat) (Post : Option Value → gm_H → Prop) (r0 : Nat) (x2 : Int32) (x3 : Int32) (h : gm_H) : Prop :=
  ∃ q_1 : Nat, gm_fld h r0 9 0 = some (.ref q_1) ∧ ∃ fs2 : List Value, gm_get h q_1 = some (.inr (7, fs2)) ∧ 1 < fs2.length ∧ ∀ h_2 : gm_H, h_2 = gm_put h q_1 (.inr (7, fs2.set 1 (.int 0))) → ∃ q_3 : Nat, gm_fld h_2 r0 9 11 = some (.ref q_3) ∧ ∃ q_4 : Nat, gm_fld h_2 r0 9 5 = some (.ref q_4) ∧ ∃ x_5 : Int32, gm_fld h_2 q_4 6 0 = some (.int x_5) ∧ (∃ fs6, gm_get h_2 q_3 = some (.inr (5, fs6))) ∧ gE c d 46 [.ref q_3, .long ((x3 : Int32).toInt64), .long ((x_5 : Int32).toInt64)] h_2 (fun v6 h_6 => v6 = none ∧ Post (some (.int x2)) h_6)
theorem ok92_134 (c : gx) (d : Nat) (Post : Option Value → gm_H → Prop)  (r0 : Nat) (x2 : Int32) (x3 : Int32) (h : gm_H) (w : w92_134 c d Post r0 x2 x3 h) : gV c d 92 (134, [some (.ref r0), none, some (.int x2), some (.int x3), none, none], [], h) Post := by
  have hk : ∀ pc i, gm_find gk_92 pc = some i → gm_code (gt_T c.1 c.2.1 c.2.2.1) 92 pc = some i := fun _ _ z => z
  unfold w92_134 at w
  unfold gV
  refine gw_pst hk 1 (st' := (135, [some (.ref r0), none, some (.int x2), some (.int x3), none, none], [.ref r0], h)) rfl ?_
  obtain ⟨q_1, e1, w⟩ := w
  refine gw_gf (hk _ _ rfl) e1 ?_
  refine gw_pst hk 1 (st' := (139, [some (.ref r0), none, some (.int x2), some (.int x3), none, none], [.int 0, .ref q_1], h)) rfl ?_
  obtain ⟨fs2, e2, l2, w⟩ := w
  refine gw_pf (hk _ _ rfl) e2 l2 rfl ?_
  obtain ⟨h_2, eh2⟩ : ∃ z, z = gm_put h q_1 (.inr (7, fs2.set 1 (.int 0))) := ⟨_, rfl⟩
  rw [← eh2]
  replace w := w h_2 eh2
  refine gw_pst hk 1 (st' := (143, [some (.ref r0), none, some (.int x2), some (.int x3), none, none], [.ref r0], h_2)) rfl ?_
  obtain ⟨q_3, e3, w⟩ := w
  refine gw_gf (hk _ _ rfl) e3 ?_
  refine gw_pst hk 3 (st' := (149, [some (.ref r0), none, some (.int x2), some (.int x3), none, none], [.ref r0, .long ((x3 : Int32).toInt64), .ref q_3], h_2)) rfl ?_
  obtain ⟨q_4, e4, w⟩ := w
  refine gw_gf (hk _ _ rfl) e4 ?_
  obtain ⟨x_5, e5, w⟩ := w
  refine gw_gf (hk _ _ rfl) e5 ?_
  refine gw_pst hk 1 (st' := (156, [some (.ref r0), none, some (.int x2), some (.int x3), none, none], [.long ((x_5 : Int32).toInt64), .long ((x3 : Int32).toInt64), .ref q_3], h_2)) rfl ?_
  obtain ⟨⟨fs6, e6⟩, w⟩ := w
  refine gw_call (jj := 46) (As := [.ref q_3, .long ((x3 : Int32).toInt64), .long ((x_5 : Int32).toInt64)]) (rest := []) (hk _ _ rfl) (fun _ => rfl) rfl rfl (Nat.le_of_ble_eq_true rfl) (gm_rcv_v rfl e6 rfl) ?_
  refine ge_imp w (fun v6 h_6 w => ?_)
  obtain ⟨rfl, w⟩ := w
  show gV c d 92 (159, [some (.ref r0), none, some (.int x2), some (.int x3), none, none], [], h_6) Post
  refine gw_pst hk 1 (st' := (160, [some (.ref r0), none, some (.int x2), some (.int x3), none, none], [.int x2], h_6)) rfl ?_
  exact gw_ret (hk _ _ rfl) rfl w
def w92_119 (c : gx) (d : Nat) (Post : Option Value → gm_H → Prop) (r0 : Nat) (x2 : Int32) (x3 : Int32) (h : gm_H) : Prop :=
  ((x2 ≤ 0 → w92_134 c d Post r0 x2 x3 h) ∧ (¬ (x2 ≤ 0) → ∃ q_2 : Nat, gm_fld h r0 9 8 = some (.ref q_2) ∧ ∃ q_3 : Nat, gm_fld h r0 9 6 = some (.ref q_3) ∧ (∃ fs4, gm_get h q_2 = some (.inr (4, fs4))) ∧ gE c d 41 [.ref q_2, .ref q_3] h (fun v4 h_4 => v4 = none ∧ w92_134 c d Post r0 x2 x3 h_4)))
theorem ok92_119 (c : gx) (d : Nat) (Post : Option Value → gm_H → Prop)  (r0 : Nat) (x2 : Int32) (x3 : Int32) (h : gm_H) (w : w92_119 c d Post r0 x2 x3 h) : gV c d 92 (119, [some (.ref r0), none, some (.int x2), some (.int x3), none, none], [], h) Post := by
  have hk : ∀ pc i, gm_find gk_92 pc = some i → gm_code (gt_T c.1 c.2.1 c.2.2.1) 92 pc = some i := fun _ _ z => z
  unfold w92_119 at w
  unfold gV
  refine gw_pst hk 1 (st' := (120, [some (.ref r0), none, some (.int x2), some (.int x3), none, none], [.int x2], h)) rfl ?_
  refine gw_br (c := x2 ≤ 0) (a := (134, [some (.ref r0), none, some (.int x2), some (.int x3), none, none], [], h)) (b := (123, [some (.ref r0), none, some (.int x2), some (.int x3), none, none], [], h)) (hk _ _ rfl) rfl ⟨fun z1 => ?_, fun z1 => ?_⟩
  · replace w := w.1 z1
    exact ok92_134 c d Post _ _ _ _ w
  · replace w := w.2 z1
    refine gw_pst hk 1 (st' := (124, [some (.ref r0), none, some (.int x2), some (.int x3), none, none], [.ref r0], h)) rfl ?_
    obtain ⟨q_2, e2, w⟩ := w
    refine gw_gf (hk _ _ rfl) e2 ?_
    refine gw_pst hk 1 (st' := (128, [some (.ref r0), none, some (.int x2), some (.int x3), none, none], [.ref r0, .ref q_2], h)) rfl ?_
    obtain ⟨q_3, e3, w⟩ := w
    refine gw_gf (hk _ _ rfl) e3 ?_
    obtain ⟨⟨fs4, e4⟩, w⟩ := w
    refine gw_call (jj := 41) (As := [.ref q_2, .ref q_3]) (rest := []) (hk _ _ rfl) (fun _ => rfl) rfl rfl (Nat.le_of_ble_eq_true rfl) (gm_rcv_v rfl e4 rfl) ?_
    refine ge_imp w (fun v4 h_4 w => ?_)
    obtain ⟨rfl, w⟩ := w
    show gV c d 92 (134, [some (.ref r0), none, some (.int x2), some (.int x3), none, none], [], h_4) Post
    exact ok92_134 c d Post _ _ _ _ w
def wb92_40 (c : gx) (d : Nat) (Post : Option Value → gm_H → Prop) (K40 : Nat → Int32 → Int32 → Int32 → gm_H → Prop) (r0 : Nat) (x2 : Int32) (x3 : Int32) (x4 : Int32) (h : gm_H) : Prop :=
  ∃ q_1 : Nat, gm_fld h r0 9 0 = some (.ref q_1) ∧ ∃ x_2 : Int32, gm_fld h q_1 7 1 = some (.int x_2) ∧ ((x_2 ≤ x4 → w92_119 c d Post r0 x2 x3 h) ∧ (¬ (x_2 ≤ x4) → ((x3 = 0 → ∃ q_5 : Nat, gm_fld h r0 9 0 = some (.ref q_5) ∧ (∃ fs6, gm_get h q_5 = some (.inr (7, fs6))) ∧ gE c d 61 [.ref q_5, .int x4] h (fun v6 h_6 => ∃ x_6 : Int32, v6 = some (.int x_6) ∧ ∃ q_7 : Nat, gm_fld h_6 r0 9 0 = some (.ref q_7) ∧ (∃ fs8, gm_get h_6 q_7 = some (.inr (7, fs8))) ∧ gE c d 61 [.ref q_7, .int (x4 + 1)] h_6 (fun v8 h_8 => ∃ x_8 : Int32, v8 = some (.int x_8) ∧ (∃ fs9, gm_get h_8 r0 = some (.inr (9, fs9))) ∧ gE c d 101 [.ref r0, .int x_6, .int x_8] h_8 (fun v9 h_9 => ∃ x_9 : Int32, v9 = some (.int x_9) ∧ ((0 ≤ x_9 → w92_95 c d Post K40 r0 (x2 + 1) x3 x4 x_6 h_9) ∧ (¬ (0 ≤ x_9) → w92_95 c d Post K40 r0 x2 1 x4 x_6 h_9)))))) ∧ (¬ (x3 = 0) → w92_119 c d Post r0 x2 x3 h))))
theorem okb92_40 (c : gx) (d : Nat) (Post : Option Value → gm_H → Prop) (K40 : Nat → Int32 → Int32 → Int32 → gm_H → Prop)  (hK40 : ∀ (r0 : Nat) (x2 : Int32) (x3 : Int32) (x4 : Int32) (h : gm_H), K40 r0 x2 x3 x4 h → gV c d 92 (40, [some (.ref r0), none, some (.int x2), some (.int x3), some (.int x4), none], [], h) Post) (r0 : Nat) (x2 : Int32) (x3 : Int32) (x4 : Int32) (h : gm_H) (w : wb92_40 c d Post K40 r0 x2 x3 x4 h) : gV c d 92 (40, [some (.ref r0), none, some (.int x2), some (.int x3), some (.int x4), none], [], h) Post := by
  have hk : ∀ pc i, gm_find gk_92 pc = some i → gm_code (gt_T c.1 c.2.1 c.2.2.1) 92 pc = some i := fun _ _ z => z
  unfold wb92_40 at w
  unfold gV
  refine gw_pst hk 2 (st' := (43, [some (.ref r0), none, some (.int x2), some (.int x3), some (.int x4), none], [.ref r0, .int x4], h)) rfl ?_
  obtain ⟨q_1, e1, w⟩ := w
  refine gw_gf (hk _ _ rfl) e1 ?_
  obtain ⟨x_2, e2, w⟩ := w
  refine gw_gf (hk _ _ rfl) e2 ?_
  refine gw_br (c := x_2 ≤ x4) (a := (119, [some (.ref r0), none, some (.int x2), some (.int x3), some (.int x4), none], [], h)) (b := (52, [some (.ref r0), none, some (.int x2), some (.int x3), some (.int x4), none], [], h)) (hk _ _ rfl) rfl ⟨fun z3 => ?_, fun z3 => ?_⟩
  · replace w := w.1 z3
    refine gw_le (L' := [some (.ref r0), none, some (.int x2), some (.int x3), none, none]) (gm_le_k _ (gm_le_k _ (gm_le_k _ (gm_le_k _ (gm_le_n _ (gm_le_k _ gm_le_nil)))))) ?_
    exact ok92_119 c d Post _ _ _ _ w
  · replace w := w.2 z3
    refine gw_pst hk 1 (st' := (53, [some (.ref r0), none, some (.int x2), some (.int x3), some (.int x4), none], [.int x3], h)) rfl ?_
    refine gw_br (c := x3 = 0) (a := (56, [some (.ref r0), none, some (.int x2), some (.int x3), some (.int x4), none], [], h)) (b := (119, [some (.ref r0), none, some (.int x2), some (.int x3), some (.int x4), none], [], h)) (hk _ _ rfl) rfl ⟨fun z4 => ?_, fun z4 => ?_⟩
    · replace w := w.1 z4
      refine gw_pst hk 1 (st' := (57, [some (.ref r0), none, some (.int x2), some (.int x3), some (.int x4), none], [.ref r0], h)) rfl ?_
      obtain ⟨q_5, e5, w⟩ := w
      refine gw_gf (hk _ _ rfl) e5 ?_
      refine gw_pst hk 1 (st' := (62, [some (.ref r0), none, some (.int x2), some (.int x3), some (.int x4), none], [.int x4, .ref q_5], h)) rfl ?_
      obtain ⟨⟨fs6, e6⟩, w⟩ := w
      refine gw_call (jj := 61) (As := [.ref q_5, .int x4]) (rest := []) (hk _ _ rfl) (fun _ => rfl) rfl rfl (Nat.le_of_ble_eq_true rfl) (gm_rcv_v rfl e6 rfl) ?_
      refine ge_imp w (fun v6 h_6 w => ?_)
      obtain ⟨x_6, rfl, w⟩ := w
      show gV c d 92 (65, [some (.ref r0), none, some (.int x2), some (.int x3), some (.int x4), none], [.int x_6], h_6) Post
      refine gw_pst hk 4 (st' := (71, [some (.ref r0), none, some (.int x2), some (.int x3), some (.int x4), some (.int x_6)], [.ref r0, .int x_6, .ref r0], h_6)) rfl ?_
      obtain ⟨q_7, e7, w⟩ := w
      refine gw_gf (hk _ _ rfl) e7 ?_
      refine gw_pst hk 3 (st' := (78, [some (.ref r0), none, some (.int x2), some (.int x3), some (.int x4), some (.int x_6)], [.int (x4 + 1), .ref q_7, .int x_6, .ref r0], h_6)) rfl ?_
      obtain ⟨⟨fs8, e8⟩, w⟩ := w
      refine gw_call (jj := 61) (As := [.ref q_7, .int (x4 + 1)]) (rest := [.int x_6, .ref r0]) (hk _ _ rfl) (fun _ => rfl) rfl rfl (Nat.le_of_ble_eq_true rfl) (gm_rcv_v rfl e8 rfl) ?_
      refine ge_imp w (fun v8 h_8 w => ?_)
      obtain ⟨x_8, rfl, w⟩ := w
      show gV c d 92 (81, [some (.ref r0), none, some (.int x2), some (.int x3), some (.int x4), some (.int x_6)], [.int x_8, .int x_6, .ref r0], h_8) Post
      obtain ⟨⟨fs9, e9⟩, w⟩ := w
      refine gw_call (jj := 101) (As := [.ref r0, .int x_6, .int x_8]) (rest := []) (hk _ _ rfl) (fun _ => rfl) rfl rfl (Nat.le_of_ble_eq_true rfl) (gm_rcv_v rfl e9 rfl) ?_
      refine ge_imp w (fun v9 h_9 w => ?_)
      obtain ⟨x_9, rfl, w⟩ := w
      show gV c d 92 (84, [some (.ref r0), none, some (.int x2), some (.int x3), some (.int x4), some (.int x_6)], [.int x_9], h_9) Post
      refine gw_br (c := 0 ≤ x_9) (a := (92, [some (.ref r0), none, some (.int x2), some (.int x3), some (.int x4), some (.int x_6)], [], h_9)) (b := (87, [some (.ref r0), none, some (.int x2), some (.int x3), some (.int x4), some (.int x_6)], [], h_9)) (hk _ _ rfl) rfl ⟨fun z10 => ?_, fun z10 => ?_⟩
      · replace w := w.1 z10
        refine gw_pst hk 1 (st' := (95, [some (.ref r0), none, some (.int (x2 + 1)), some (.int x3), some (.int x4), some (.int x_6)], [], h_9)) rfl ?_
        exact ok92_95 c d Post K40 hK40 _ _ _ _ _ _ w
      · replace w := w.2 z10
        refine gw_pst hk 3 (st' := (95, [some (.ref r0), none, some (.int x2), some (.int 1), some (.int x4), some (.int x_6)], [], h_9)) rfl ?_
        exact ok92_95 c d Post K40 hK40 _ _ _ _ _ _ w
    · replace w := w.2 z4
      refine gw_le (L' := [some (.ref r0), none, some (.int x2), some (.int x3), none, none]) (gm_le_k _ (gm_le_k _ (gm_le_k _ (gm_le_k _ (gm_le_n _ (gm_le_k _ gm_le_nil)))))) ?_
      exact ok92_119 c d Post _ _ _ _ w
def wl92_40 (c : gx) (d : Nat) (Post : Option Value → gm_H → Prop) : Nat → Nat → Int32 → Int32 → Int32 → gm_H → Prop
  | 0 => fun _ _ _ _ _ => False
  | n + 1 => wb92_40 c d Post (wl92_40 c d Post n)
theorem okl92_40 (c : gx) (d : Nat) (Post : Option Value → gm_H → Prop) : ∀ (n : Nat) (r0 : Nat) (x2 : Int32) (x3 : Int32) (x4 : Int32) (h : gm_H), wl92_40 c d Post n r0 x2 x3 x4 h → gV c d 92 (40, [some (.ref r0), none, some (.int x2), some (.int x3), some (.int x4), none], [], h) Post
  | 0, _, _, _, _, _, w => w.elim
  | n + 1, r0, x2, x3, x4, h, w => okb92_40 c d Post (wl92_40 c d Post n) (okl92_40 c d Post n) r0 x2 x3 x4 h w
/-- CommandByTurns.war()I -/
def wm92 (c : gx) (d : Nat) (Post : Option Value → gm_H → Prop) (r0 : Nat) (h : gm_H) : Prop :=
  (∃ fs1, gm_get h r0 = some (.inr (9, fs1))) ∧ gE c d 102 [.ref r0] h (fun v1 h_1 => ∃ x_1 : Int32, v1 = some (.int x_1) ∧ ((x_1 = (-1) → ∃ q_3 : Nat, gm_fld h_1 r0 9 6 = some (.ref q_3) ∧ ∃ q_4 : Nat, gm_fld h_1 r0 9 5 = some (.ref q_4) ∧ (∃ fs5, gm_get h_1 q_3 = some (.inr (6, fs5))) ∧ gE c d 48 [.ref q_3, .ref q_4] h_1 (fun v5 h_5 => v5 = none ∧ ∃ n, wl92_40 c d Post n r0 0 0 0 h_5)) ∧ (¬ (x_1 = (-1)) → ∃ q_6 : Nat, gm_fld h_1 r0 9 0 = some (.ref q_6) ∧ ∃ fs7 : List Value, gm_get h_1 q_6 = some (.inr (7, fs7)) ∧ 1 < fs7.length ∧ ∀ h_7 : gm_H, h_7 = gm_put h_1 q_6 (.inr (7, fs7.set 1 (.int 0))) → Post (some (.int ((-1) - x_1))) h_7)))
theorem okm92 (c : gx) (d : Nat) (Post : Option Value → gm_H → Prop) (r0 : Nat) (h : gm_H) (w : wm92 c d Post r0 h) : gE c (d + 1) 92 [.ref r0] h Post := by
  have hk : ∀ pc i, gm_find gk_92 pc = some i → gm_code (gt_T c.1 c.2.1 c.2.2.1) 92 pc = some i := fun _ _ z => z
  unfold wm92 at w
  refine ge_of (by decide) (Nat.le_of_ble_eq_true rfl) ?_
  show gV c d 92 (0, [some (.ref r0), none, none, none, none, none], [], h) Post
  unfold gV
  refine gw_pst hk 1 (st' := (1, [some (.ref r0), none, none, none, none, none], [.ref r0], h)) rfl ?_
  obtain ⟨⟨fs1, e1⟩, w⟩ := w
  refine gw_call (jj := 102) (As := [.ref r0]) (rest := []) (hk _ _ rfl) (fun _ => rfl) rfl rfl (Nat.le_of_ble_eq_true rfl) (gm_rcv_v rfl e1 rfl) ?_
  refine ge_imp w (fun v1 h_1 w => ?_)
  obtain ⟨x_1, rfl, w⟩ := w
  show gV c d 92 (4, [some (.ref r0), none, none, none, none, none], [.int x_1], h_1) Post
  refine gw_pst hk 3 (st' := (7, [some (.ref r0), some (.int x_1), none, none, none, none], [.int (-1), .int x_1], h_1)) rfl ?_
  refine gw_br (c := x_1 = (-1)) (a := (22, [some (.ref r0), some (.int x_1), none, none, none, none], [], h_1)) (b := (10, [some (.ref r0), some (.int x_1), none, none, none, none], [], h_1)) (hk _ _ rfl) rfl ⟨fun z2 => ?_, fun z2 => ?_⟩
  · replace w := w.1 z2
    refine gw_pst hk 1 (st' := (23, [some (.ref r0), some (.int x_1), none, none, none, none], [.ref r0], h_1)) rfl ?_
    obtain ⟨q_3, e3, w⟩ := w
    refine gw_gf (hk _ _ rfl) e3 ?_
    refine gw_pst hk 1 (st' := (27, [some (.ref r0), some (.int x_1), none, none, none, none], [.ref r0, .ref q_3], h_1)) rfl ?_
    obtain ⟨q_4, e4, w⟩ := w
    refine gw_gf (hk _ _ rfl) e4 ?_
    obtain ⟨⟨fs5, e5⟩, w⟩ := w
    refine gw_call (jj := 48) (As := [.ref q_3, .ref q_4]) (rest := []) (hk _ _ rfl) (fun _ => rfl) rfl rfl (Nat.le_of_ble_eq_true rfl) (gm_rcv_v rfl e5 rfl) ?_
    refine ge_imp w (fun v5 h_5 w => ?_)
    obtain ⟨rfl, w⟩ := w
    show gV c d 92 (33, [some (.ref r0), some (.int x_1), none, none, none, none], [], h_5) Post
    refine gw_pst hk 6 (st' := (40, [some (.ref r0), some (.int x_1), some (.int 0), some (.int 0), some (.int 0), none], [], h_5)) rfl ?_
    refine gw_le (L' := [some (.ref r0), none, some (.int 0), some (.int 0), some (.int 0), none]) (gm_le_k _ (gm_le_n _ (gm_le_k _ (gm_le_k _ (gm_le_k _ (gm_le_k _ gm_le_nil)))))) ?_
    obtain ⟨n, w⟩ := w
    exact okl92_40 c d Post n _ _ _ _ _ w
  · replace w := w.2 z2
    refine gw_pst hk 1 (st' := (11, [some (.ref r0), some (.int x_1), none, none, none, none], [.ref r0], h_1)) rfl ?_
    obtain ⟨q_6, e6, w⟩ := w
    refine gw_gf (hk _ _ rfl) e6 ?_
    refine gw_pst hk 1 (st' := (15, [some (.ref r0), some (.int x_1), none, none, none, none], [.int 0, .ref q_6], h_1)) rfl ?_
    obtain ⟨fs7, e7, l7, w⟩ := w
    refine gw_pf (hk _ _ rfl) e7 l7 rfl ?_
    obtain ⟨h_7, eh7⟩ : ∃ z, z = gm_put h_1 q_6 (.inr (7, fs7.set 1 (.int 0))) := ⟨_, rfl⟩
    rw [← eh7]
    replace w := w h_7 eh7
    refine gw_pst hk 3 (st' := (21, [some (.ref r0), some (.int x_1), none, none, none, none], [.int ((-1) - x_1)], h_7)) rfl ?_
    exact gw_ret (hk _ _ rfl) rfl w
def w93_25 (c : gx) (d : Nat) (Post : Option Value → gm_H → Prop) (xs0 : Int32) (h : gm_H) : Prop :=
  Post (some (.int xs0)) h
theorem ok93_25 (c : gx) (d : Nat) (Post : Option Value → gm_H → Prop)  (xs0 : Int32) (h : gm_H) (w : w93_25 c d Post xs0 h) : gV c d 93 (25, [none], [.int xs0], h) Post := by
  have hk : ∀ pc i, gm_find gk_93 pc = some i → gm_code (gt_T c.1 c.2.1 c.2.2.1) 93 pc = some i := fun _ _ z => z
  unfold w93_25 at w
  unfold gV
  exact gw_ret (hk _ _ rfl) rfl w
/-- CommandByTurns.undo()I -/
def wm93 (c : gx) (d : Nat) (Post : Option Value → gm_H → Prop) (r0 : Nat) (h : gm_H) : Prop :=
  ∃ q_1 : Nat, gm_fld h r0 9 8 = some (.ref q_1) ∧ ∃ q_2 : Nat, gm_fld h r0 9 5 = some (.ref q_2) ∧ (∃ fs3, gm_get h q_1 = some (.inr (4, fs3))) ∧ gE c d 42 [.ref q_1, .ref q_2] h (fun v3 h_3 => ∃ x_3 : Int32, v3 = some (.int x_3) ∧ ((x_3 = 0 → w93_25 c d Post (-1) h_3) ∧ (¬ (x_3 = 0) → ∃ q_5 : Nat, gm_fld h_3 r0 9 8 = some (.ref q_5) ∧ ∃ x_6 : Int32, gm_fld h_3 q_5 4 2 = some (.int x_6) ∧ w93_25 c d Post x_6 h_3)))
theorem okm93 (c : gx) (d : Nat) (Post : Option Value → gm_H → Prop) (r0 : Nat) (h : gm_H) (w : wm93 c d Post r0 h) : gE c (d + 1) 93 [.ref r0] h Post := by
  have hk : ∀ pc i, gm_find gk_93 pc = some i → gm_code (gt_T c.1 c.2.1 c.2.2.1) 93 pc = some i := fun _ _ z => z
  unfold wm93 at w
  refine ge_of (by decide) (Nat.le_of_ble_eq_true rfl) ?_
  show gV c d 93 (0, [some (.ref r0)], [], h) Post
  unfold gV
  refine gw_pst hk 1 (st' := (1, [some (.ref r0)], [.ref r0], h)) rfl ?_
  obtain ⟨q_1, e1, w⟩ := w
  refine gw_gf (hk _ _ rfl) e1 ?_
  refine gw_pst hk 1 (st' := (5, [some (.ref r0)], [.ref r0, .ref q_1], h)) rfl ?_
  obtain ⟨q_2, e2, w⟩ := w
  refine gw_gf (hk _ _ rfl) e2 ?_
  obtain ⟨⟨fs3, e3⟩, w⟩ := w
  refine gw_call (jj := 42) (As := [.ref q_1, .ref q_2]) (rest := []) (hk _ _ rfl) (fun _ => rfl) rfl rfl (Nat.le_of_ble_eq_true rfl) (gm_rcv_v rfl e3 rfl) ?_
  refine ge_imp w (fun v3 h_3 w => ?_)
  obtain ⟨x_3, rfl, w⟩ := w
  show gV c d 93 (11, [some (.ref r0)], [.int x_3], h_3) Post
  refine gw_br (c := x_3 = 0) (a := (24, [some (.ref r0)], [], h_3)) (b := (14, [some (.ref r0)], [], h_3)) (hk _ _ rfl) rfl ⟨fun z4 => ?_, fun z4 => ?_⟩
  · replace w := w.1 z4
    refine gw_pst hk 1 (st' := (25, [some (.ref r0)], [.int (-1)], h_3)) rfl ?_
    refine gw_le (L' := [none]) (gm_le_n _ gm_le_nil) ?_
    exact ok93_25 c d Post _ _ w
  · replace w := w.2 z4
    refine gw_pst hk 1 (st' := (15, [some (.ref r0)], [.ref r0], h_3)) rfl ?_
    obtain ⟨q_5, e5, w⟩ := w
    refine gw_gf (hk _ _ rfl) e5 ?_
    obtain ⟨x_6, e6, w⟩ := w
    refine gw_gf (hk _ _ rfl) e6 ?_
    refine gw_pst hk 1 (st' := (25, [some (.ref r0)], [.int x_6], h_3)) rfl ?_
    refine gw_le (L' := [none]) (gm_le_n _ gm_le_nil) ?_
    exact ok93_25 c d Post _ _ w
def w94_15 (c : gx) (d : Nat) (Post : Option Value → gm_H → Prop) (x1 : Int32) (h : gm_H) : Prop :=
  Post (some (.int x1)) h
theorem ok94_15 (c : gx) (d : Nat) (Post : Option Value → gm_H → Prop)  (x1 : Int32) (h : gm_H) (w : w94_15 c d Post x1 h) : gV c d 94 (15, [none, some (.int x1)], [], h) Post := by
  have hk : ∀ pc i, gm_find gk_94 pc = some i → gm_code (gt_T c.1 c.2.1 c.2.2.1) 94 pc = some i := fun _ _ z => z
  unfold w94_15 at w
  unfold gV
  refine gw_pst hk 1 (st' := (16, [none, some (.int x1)], [.int x1], h)) rfl ?_
  exact gw_ret (hk _ _ rfl) rfl w
/-- CommandByTurns.remembered(I)I -/
def wm94 (c : gx) (d : Nat) (Post : Option Value → gm_H → Prop) (r0 : Nat) (x1 : Int32) (h : gm_H) : Prop :=
  ((x1 < 0 → w94_15 c d Post x1 h) ∧ (¬ (x1 < 0) → ∃ q_2 : Nat, gm_fld h r0 9 8 = some (.ref q_2) ∧ ∃ q_3 : Nat, gm_fld h r0 9 6 = some (.ref q_3) ∧ (∃ fs4, gm_get h q_2 = some (.inr (4, fs4))) ∧ gE c d 41 [.ref q_2, .ref q_3] h (fun v4 h_4 => v4 = none ∧ w94_15 c d Post x1 h_4)))
theorem okm94 (c : gx) (d : Nat) (Post : Option Value → gm_H → Prop) (r0 : Nat) (x1 : Int32) (h : gm_H) (w : wm94 c d Post r0 x1 h) : gE c (d + 1) 94 [.ref r0, .int x1] h Post := by
  have hk : ∀ pc i, gm_find gk_94 pc = some i → gm_code (gt_T c.1 c.2.1 c.2.2.1) 94 pc = some i := fun _ _ z => z
  unfold wm94 at w
  refine ge_of (by decide) (Nat.le_of_ble_eq_true rfl) ?_
  show gV c d 94 (0, [some (.ref r0), some (.int x1)], [], h) Post
  unfold gV
  refine gw_pst hk 1 (st' := (1, [some (.ref r0), some (.int x1)], [.int x1], h)) rfl ?_
  refine gw_br (c := x1 < 0) (a := (15, [some (.ref r0), some (.int x1)], [], h)) (b := (4, [some (.ref r0), some (.int x1)], [], h)) (hk _ _ rfl) rfl ⟨fun z1 => ?_, fun z1 => ?_⟩
  · replace w := w.1 z1
    refine gw_le (L' := [none, some (.int x1)]) (gm_le_n _ (gm_le_k _ gm_le_nil)) ?_
    exact ok94_15 c d Post _ _ w
  · replace w := w.2 z1
    refine gw_pst hk 1 (st' := (5, [some (.ref r0), some (.int x1)], [.ref r0], h)) rfl ?_
    obtain ⟨q_2, e2, w⟩ := w
    refine gw_gf (hk _ _ rfl) e2 ?_
    refine gw_pst hk 1 (st' := (9, [some (.ref r0), some (.int x1)], [.ref r0, .ref q_2], h)) rfl ?_
    obtain ⟨q_3, e3, w⟩ := w
    refine gw_gf (hk _ _ rfl) e3 ?_
    obtain ⟨⟨fs4, e4⟩, w⟩ := w
    refine gw_call (jj := 41) (As := [.ref q_2, .ref q_3]) (rest := []) (hk _ _ rfl) (fun _ => rfl) rfl rfl (Nat.le_of_ble_eq_true rfl) (gm_rcv_v rfl e4 rfl) ?_
    refine ge_imp w (fun v4 h_4 w => ?_)
    obtain ⟨rfl, w⟩ := w
    show gV c d 94 (15, [some (.ref r0), some (.int x1)], [], h_4) Post
    refine gw_le (L' := [none, some (.int x1)]) (gm_le_n _ (gm_le_k _ gm_le_nil)) ?_
    exact ok94_15 c d Post _ _ w
def w95_16 (c : gx) (d : Nat) (Post : Option Value → gm_H → Prop)  (h : gm_H) : Prop :=
  Post (some (.int (-1))) h
theorem ok95_16 (c : gx) (d : Nat) (Post : Option Value → gm_H → Prop)   (h : gm_H) (w : w95_16 c d Post  h) : gV c d 95 (16, [none, none, none, none], [], h) Post := by
  have hk : ∀ pc i, gm_find gk_95 pc = some i → gm_code (gt_T c.1 c.2.1 c.2.2.1) 95 pc = some i := fun _ _ z => z
  unfold w95_16 at w
  unfold gV
  refine gw_pst hk 1 (st' := (17, [none, none, none, none], [.int (-1)], h)) rfl ?_
  exact gw_ret (hk _ _ rfl) rfl w
/-- CommandByTurns.marchBy(I)I -/
def wm95 (c : gx) (d : Nat) (Post : Option Value → gm_H → Prop) (r0 : Nat) (x1 : Int32) (h : gm_H) : Prop :=
  ((x1 < (-12) → w95_16 c d Post h) ∧ (¬ (x1 < (-12)) → ((12 < x1 → w95_16 c d Post h) ∧ (¬ (12 < x1) → ((x1 = 0 → w95_16 c d Post h) ∧ (¬ (x1 = 0) → (∃ fs4, gm_get h r0 = some (.inr (9, fs4))) ∧ gE c d 84 [.ref r0] h (fun v4 h_4 => ∃ x_4 : Int32, v4 = some (.int x_4) ∧ ((x_4 = (-1) → Post (some (.int (-2))) h_4) ∧ (¬ (x_4 = (-1)) → ∃ q_6 : Nat, gm_fld h_4 r0 9 5 = some (.ref q_6) ∧ ∃ x_7 : Int32, gm_fld h_4 q_6 6 1 = some (.int x_7) ∧ ∃ q_8 : Nat, gm_fld h_4 r0 9 1 = some (.ref q_8) ∧ (∃ fs9, gm_get h_4 q_8 = some (.inr (1, fs9))) ∧ gE c d 14 [.ref q_8, .int (x_7 + x1)] h_4 (fun v9 h_9 => ∃ x_9 : Int32, v9 = some (.int x_9) ∧ ((x_9 = 0 → Post (some (.int (-3))) h_9) ∧ (¬ (x_9 = 0) → ∃ q_11 : Nat, gm_fld h_9 r0 9 1 = some (.ref q_11) ∧ ∃ q_12 : Nat, gm_fld h_9 r0 9 5 = some (.ref q_12) ∧ ∃ x_13 : Int32, gm_fld h_9 q_12 6 1 = some (.int x_13) ∧ (∃ fs14, gm_get h_9 q_11 = some (.inr (1, fs14))) ∧ gE c d 19 [.ref q_11, .int x_13, .int (x_7 + x1)] h_9 (fun v14 h_14 => ∃ x_14 : Int32, v14 = some (.int x_14) ∧ (∃ fs15, gm_get h_14 r0 = some (.inr (9, fs15))) ∧ gE c d 148 [.ref r0, .int x_4] h_14 (fun v15 h_15 => ∃ q_15 : Nat, v15 = some (.ref q_15) ∧ (∃ fs16, gm_get h_15 q_15 = some (.inr (2, fs16))) ∧ gE c d 31 [.ref q_15] h_15 (fun v16 h_16 => ∃ x_16 : Int32, v16 = some (.int x_16) ∧ ((x_14 ≤ x_16 → ∃ q_18 : Nat, gm_fld h_16 r0 9 5 = some (.ref q_18) ∧ ∃ x_19 : Int32, gm_fld h_16 q_18 6 1 = some (.int x_19) ∧ ∃ q_20 : Nat, gm_fld h_16 r0 9 5 = some (.ref q_20) ∧ ∃ x_21 : Int32, gm_fld h_16 q_20 6 2 = some (.int x_21) ∧ gE c d 17 [.int x_19, .int x_21, .int (x_7 + x1)] h_16 (fun v22 h_22 => ∃ x_22 : Int32, v22 = some (.int x_22) ∧ ((x_22 = 0 → ∃ q_24 : Nat, gm_fld h_22 r0 9 5 = some (.ref q_24) ∧ ∃ fs25 : List Value, gm_get h_22 q_24 = some (.inr (6, fs25)) ∧ 1 < fs25.length ∧ ∀ h_25 : gm_H, h_25 = gm_put h_22 q_24 (.inr (6, fs25.set 1 (.int (x_7 + x1)))) → ∃ q_26 : Nat, gm_fld h_25 r0 9 5 = some (.ref q_26) ∧ (∃ fs27, gm_get h_25 q_26 = some (.inr (6, fs27))) ∧ gE c d 58 [.ref q_26] h_25 (fun v27 h_27 => v27 = none ∧ ∃ q_28 : Nat, gm_fld h_27 r0 9 11 = some (.ref q_28) ∧ ∃ q_29 : Nat, gm_fld h_27 r0 9 5 = some (.ref q_29) ∧ ∃ x_30 : Int32, gm_fld h_27 q_29 6 5 = some (.int x_30) ∧ (∃ fs31, gm_get h_27 q_28 = some (.inr (5, fs31))) ∧ gE c d 46 [.ref q_28, .long ((x_4 : Int32).toInt64), .long ((x_30 : Int32).toInt64)] h_27 (fun v31 h_31 => v31 = none ∧ Post (some (.int (x_7 + x1))) h_31))) ∧ (¬ (x_22 = 0) → Post (some (.int (-5))) h_22)))) ∧ (¬ (x_14 ≤ x_16) → Post (some (.int (-4))) h_16)))))))))))))))))
theorem okm95 (c : gx) (d : Nat) (Post : Option Value → gm_H → Prop) (r0 : Nat) (x1 : Int32) (h : gm_H) (w : wm95 c d Post r0 x1 h) : gE c (d + 1) 95 [.ref r0, .int x1] h Post := by
  have hk : ∀ pc i, gm_find gk_95 pc = some i → gm_code (gt_T c.1 c.2.1 c.2.2.1) 95 pc = some i := fun _ _ z => z
  unfold wm95 at w
  refine ge_of (by decide) (Nat.le_of_ble_eq_true rfl) ?_
  show gV c d 95 (0, [some (.ref r0), some (.int x1), none, none], [], h) Post
  unfold gV
  refine gw_pst hk 2 (st' := (3, [some (.ref r0), some (.int x1), none, none], [.int (-12), .int x1], h)) rfl ?_
  refine gw_br (c := x1 < (-12)) (a := (16, [some (.ref r0), some (.int x1), none, none], [], h)) (b := (6, [some (.ref r0), some (.int x1), none, none], [], h)) (hk _ _ rfl) rfl ⟨fun z1 => ?_, fun z1 => ?_⟩
  · replace w := w.1 z1
    refine gw_le (L' := [none, none, none, none]) (gm_le_n _ (gm_le_n _ (gm_le_k _ (gm_le_k _ gm_le_nil)))) ?_
    exact ok95_16 c d Post _ w
  · replace w := w.2 z1
    refine gw_pst hk 2 (st' := (9, [some (.ref r0), some (.int x1), none, none], [.int 12, .int x1], h)) rfl ?_
    refine gw_br (c := 12 < x1) (a := (16, [some (.ref r0), some (.int x1), none, none], [], h)) (b := (12, [some (.ref r0), some (.int x1), none, none], [], h)) (hk _ _ rfl) rfl ⟨fun z2 => ?_, fun z2 => ?_⟩
    · replace w := w.1 z2
      refine gw_le (L' := [none, none, none, none]) (gm_le_n _ (gm_le_n _ (gm_le_k _ (gm_le_k _ gm_le_nil)))) ?_
      exact ok95_16 c d Post _ w
    · replace w := w.2 z2
      refine gw_pst hk 1 (st' := (13, [some (.ref r0), some (.int x1), none, none], [.int x1], h)) rfl ?_
      refine gw_br (c := x1 = 0) (a := (16, [some (.ref r0), some (.int x1), none, none], [], h)) (b := (18, [some (.ref r0), some (.int x1), none, none], [], h)) (hk _ _ rfl) rfl ⟨fun z3 => ?_, fun z3 => ?_⟩
      · replace w := w.1 z3
        refine gw_le (L' := [none, none, none, none]) (gm_le_n _ (gm_le_n _ (gm_le_k _ (gm_le_k _ gm_le_nil)))) ?_
        exact ok95_16 c d Post _ w
      · replace w := w.2 z3
        refine gw_pst hk 1 (st' := (19, [some (.ref r0), some (.int x1), none, none], [.ref r0], h)) rfl ?_
        obtain ⟨⟨fs4, e4⟩, w⟩ := w
        refine gw_call (jj := 84) (As := [.ref r0]) (rest := []) (hk _ _ rfl) (fun _ => rfl) rfl rfl (Nat.le_of_ble_eq_true rfl) (gm_rcv_v rfl e4 rfl) ?_
        refine ge_imp w (fun v4 h_4 w => ?_)
        obtain ⟨x_4, rfl, w⟩ := w
        show gV c d 95 (22, [some (.ref r0), some (.int x1), none, none], [.int x_4], h_4) Post
        refine gw_pst hk 3 (st' := (25, [some (.ref r0), some (.int x1), some (.int x_4), none], [.int (-1), .int x_4], h_4)) rfl ?_
        refine gw_br (c := x_4 = (-1)) (a := (28, [some (.ref r0), some (.int x1), some (.int x_4), none], [], h_4)) (b := (31, [some (.ref r0), some (.int x1), some (.int x_4), none], [], h_4)) (hk _ _ rfl) rfl ⟨fun z5 => ?_, fun z5 => ?_⟩
        · replace w := w.1 z5
          refine gw_pst hk 1 (st' := (30, [some (.ref r0), some (.int x1), some (.int x_4), none], [.int (-2)], h_4)) rfl ?_
          exact gw_ret (hk _ _ rfl) rfl w
        · replace w := w.2 z5
          refine gw_pst hk 1 (st' := (32, [some (.ref r0), some (.int x1), some (.int x_4), none], [.ref r0], h_4)) rfl ?_
          obtain ⟨q_6, e6, w⟩ := w
          refine gw_gf (hk _ _ rfl) e6 ?_
          obtain ⟨x_7, e7, w⟩ := w
          refine gw_gf (hk _ _ rfl) e7 ?_
          refine gw_pst hk 4 (st' := (42, [some (.ref r0), some (.int x1), some (.int x_4), some (.int (x_7 + x1))], [.ref r0], h_4)) rfl ?_
          obtain ⟨q_8, e8, w⟩ := w
          refine gw_gf (hk _ _ rfl) e8 ?_
          refine gw_pst hk 1 (st' := (46, [some (.ref r0), some (.int x1), some (.int x_4), some (.int (x_7 + x1))], [.int (x_7 + x1), .ref q_8], h_4)) rfl ?_
          obtain ⟨⟨fs9, e9⟩, w⟩ := w
          refine gw_call (jj := 14) (As := [.ref q_8, .int (x_7 + x1)]) (rest := []) (hk _ _ rfl) (fun _ => rfl) rfl rfl (Nat.le_of_ble_eq_true rfl) (gm_rcv_v rfl e9 rfl) ?_
          refine ge_imp w (fun v9 h_9 w => ?_)
          obtain ⟨x_9, rfl, w⟩ := w
          show gV c d 95 (49, [some (.ref r0), some (.int x1), some (.int x_4), some (.int (x_7 + x1))], [.int x_9], h_9) Post
          refine gw_br (c := x_9 = 0) (a := (52, [some (.ref r0), some (.int x1), some (.int x_4), some (.int (x_7 + x1))], [], h_9)) (b := (55, [some (.ref r0), some (.int x1), some (.int x_4), some (.int (x_7 + x1))], [], h_9)) (hk _ _ rfl) rfl ⟨fun z10 => ?_, fun z10 => ?_⟩
          · replace w := w.1 z10
            refine gw_pst hk 1 (st' := (54, [some (.ref r0), some (.int x1), some (.int x_4), some (.int (x_7 + x1))], [.int (-3)], h_9)) rfl ?_
            exact gw_ret (hk _ _ rfl) rfl w
          · replace w := w.2 z10
            refine gw_pst hk 1 (st' := (56, [some (.ref r0), some (.int x1), some (.int x_4), some (.int (x_7 + x1))], [.ref r0], h_9)) rfl ?_
            obtain ⟨q_11, e11, w⟩ := w
            refine gw_gf (hk _ _ rfl) e11 ?_
            refine gw_pst hk 1 (st' := (60, [some (.ref r0), some (.int x1), some (.int x_4), some (.int (x_7 + x1))], [.ref r0, .ref q_11], h_9)) rfl ?_
            obtain ⟨q_12, e12, w⟩ := w
            refine gw_gf (hk _ _ rfl) e12 ?_
            obtain ⟨x_13, e13, w⟩ := w
            refine gw_gf (hk _ _ rfl) e13 ?_
            refine gw_pst hk 1 (st' := (67, [some (.ref r0), some (.int x1), some (.int x_4), some (.int (x_7 + x1))], [.int (x_7 + x1), .int x_13, .ref q_11], h_9)) rfl ?_
            obtain ⟨⟨fs14, e14⟩, w⟩ := w
            refine gw_call (jj := 19) (As := [.ref q_11, .int x_13, .int (x_7 + x1)]) (rest := []) (hk _ _ rfl) (fun _ => rfl) rfl rfl (Nat.le_of_ble_eq_true rfl) (gm_rcv_v rfl e14 rfl) ?_
            refine ge_imp w (fun v14 h_14 w => ?_)
            obtain ⟨x_14, rfl, w⟩ := w
            show gV c d 95 (70, [some (.ref r0), some (.int x1), some (.int x_4), some (.int (x_7 + x1))], [.int x_14], h_14) Post
            refine gw_pst hk 2 (st' := (72, [some (.ref r0), some (.int x1), some (.int x_4), some (.int (x_7 + x1))], [.int x_4, .ref r0, .int x_14], h_14)) rfl ?_
            obtain ⟨⟨fs15, e15⟩, w⟩ := w
            refine gw_call (jj := 148) (As := [.ref r0, .int x_4]) (rest := [.int x_14]) (hk _ _ rfl) (fun _ => rfl) rfl rfl (Nat.le_of_ble_eq_true rfl) (gm_rcv_v rfl e15 rfl) ?_
            refine ge_imp w (fun v15 h_15 w => ?_)
            obtain ⟨q_15, rfl, w⟩ := w
            show gV c d 95 (75, [some (.ref r0), some (.int x1), some (.int x_4), some (.int (x_7 + x1))], [.ref q_15, .int x_14], h_15) Post
            obtain ⟨⟨fs16, e16⟩, w⟩ := w
            refine gw_call (jj := 31) (As := [.ref q_15]) (rest := [.int x_14]) (hk _ _ rfl) (fun _ => rfl) rfl rfl (Nat.le_of_ble_eq_true rfl) (gm_rcv_v rfl e16 rfl) ?_
            refine ge_imp w (fun v16 h_16 w => ?_)
            obtain ⟨x_16, rfl, w⟩ := w
            show gV c d 95 (78, [some (.ref r0), some (.int x1), some (.int x_4), some (.int (x_7 + x1))], [.int x_16, .int x_14], h_16) Post
            refine gw_br (c := x_14 ≤ x_16) (a := (84, [some (.ref r0), some (.int x1), some (.int x_4), some (.int (x_7 + x1))], [], h_16)) (b := (81, [some (.ref r0), some (.int x1), some (.int x_4), some (.int (x_7 + x1))], [], h_16)) (hk _ _ rfl) rfl ⟨fun z17 => ?_, fun z17 => ?_⟩
            · replace w := w.1 z17
              refine gw_pst hk 1 (st' := (85, [some (.ref r0), some (.int x1), some (.int x_4), some (.int (x_7 + x1))], [.ref r0], h_16)) rfl ?_
              obtain ⟨q_18, e18, w⟩ := w
              refine gw_gf (hk _ _ rfl) e18 ?_
              obtain ⟨x_19, e19, w⟩ := w
              refine gw_gf (hk _ _ rfl) e19 ?_
              refine gw_pst hk 1 (st' := (92, [some (.ref r0), some (.int x1), some (.int x_4), some (.int (x_7 + x1))], [.ref r0, .int x_19], h_16)) rfl ?_
              obtain ⟨q_20, e20, w⟩ := w
              refine gw_gf (hk _ _ rfl) e20 ?_
              obtain ⟨x_21, e21, w⟩ := w
              refine gw_gf (hk _ _ rfl) e21 ?_
              refine gw_pst hk 1 (st' := (99, [some (.ref r0), some (.int x1), some (.int x_4), some (.int (x_7 + x1))], [.int (x_7 + x1), .int x_21, .int x_19], h_16)) rfl ?_
              refine gw_call (jj := 17) (As := [.int x_19, .int x_21, .int (x_7 + x1)]) (rest := []) (hk _ _ rfl) (fun _ => rfl) rfl rfl (Nat.le_of_ble_eq_true rfl) rfl ?_
              refine ge_imp w (fun v22 h_22 w => ?_)
              obtain ⟨x_22, rfl, w⟩ := w
              show gV c d 95 (102, [some (.ref r0), some (.int x1), some (.int x_4), some (.int (x_7 + x1))], [.int x_22], h_22) Post
              refine gw_br (c := x_22 = 0) (a := (108, [some (.ref r0), some (.int x1), some (.int x_4), some (.int (x_7 + x1))], [], h_22)) (b := (105, [some (.ref r0), some (.int x1), some (.int x_4), some (.int (x_7 + x1))], [], h_22)) (hk _ _ rfl) rfl ⟨fun z23 => ?_, fun z23 => ?_⟩
              · replace w := w.1 z23
                refine gw_pst hk 1 (st' := (109, [some (.ref r0), some (.int x1), some (.int x_4), some (.int (x_7 + x1))], [.ref r0], h_22)) rfl ?_
                obtain ⟨q_24, e24, w⟩ := w
                refine gw_gf (hk _ _ rfl) e24 ?_
                refine gw_pst hk 1 (st' := (113, [some (.ref r0), some (.int x1), some (.int x_4), some (.int (x_7 + x1))], [.int (x_7 + x1), .ref q_24], h_22)) rfl ?_
                obtain ⟨fs25, e25, l25, w⟩ := w
                refine gw_pf (hk _ _ rfl) e25 l25 rfl ?_
                obtain ⟨h_25, eh25⟩ : ∃ z, z = gm_put h_22 q_24 (.inr (6, fs25.set 1 (.int (x_7 + x1)))) := ⟨_, rfl⟩
                rw [← eh25]
                replace w := w h_25 eh25
                refine gw_pst hk 1 (st' := (117, [some (.ref r0), some (.int x1), some (.int x_4), some (.int (x_7 + x1))], [.ref r0], h_25)) rfl ?_
                obtain ⟨q_26, e26, w⟩ := w
                refine gw_gf (hk _ _ rfl) e26 ?_
                obtain ⟨⟨fs27, e27⟩, w⟩ := w
                refine gw_call (jj := 58) (As := [.ref q_26]) (rest := []) (hk _ _ rfl) (fun _ => rfl) rfl rfl (Nat.le_of_ble_eq_true rfl) (gm_rcv_v rfl e27 rfl) ?_
                refine ge_imp w (fun v27 h_27 w => ?_)
                obtain ⟨rfl, w⟩ := w
                show gV c d 95 (123, [some (.ref r0), some (.int x1), some (.int x_4), some (.int (x_7 + x1))], [], h_27) Post
                refine gw_pst hk 1 (st' := (124, [some (.ref r0), some (.int x1), some (.int x_4), some (.int (x_7 + x1))], [.ref r0], h_27)) rfl ?_
                obtain ⟨q_28, e28, w⟩ := w
                refine gw_gf (hk _ _ rfl) e28 ?_
                refine gw_pst hk 3 (st' := (130, [some (.ref r0), some (.int x1), some (.int x_4), some (.int (x_7 + x1))], [.ref r0, .long ((x_4 : Int32).toInt64), .ref q_28], h_27)) rfl ?_
                obtain ⟨q_29, e29, w⟩ := w
                refine gw_gf (hk _ _ rfl) e29 ?_
                obtain ⟨x_30, e30, w⟩ := w
                refine gw_gf (hk _ _ rfl) e30 ?_
                refine gw_pst hk 1 (st' := (137, [some (.ref r0), some (.int x1), some (.int x_4), some (.int (x_7 + x1))], [.long ((x_30 : Int32).toInt64), .long ((x_4 : Int32).toInt64), .ref q_28], h_27)) rfl ?_
                obtain ⟨⟨fs31, e31⟩, w⟩ := w
                refine gw_call (jj := 46) (As := [.ref q_28, .long ((x_4 : Int32).toInt64), .long ((x_30 : Int32).toInt64)]) (rest := []) (hk _ _ rfl) (fun _ => rfl) rfl rfl (Nat.le_of_ble_eq_true rfl) (gm_rcv_v rfl e31 rfl) ?_
                refine ge_imp w (fun v31 h_31 w => ?_)
                obtain ⟨rfl, w⟩ := w
                show gV c d 95 (140, [some (.ref r0), some (.int x1), some (.int x_4), some (.int (x_7 + x1))], [], h_31) Post
                refine gw_pst hk 1 (st' := (141, [some (.ref r0), some (.int x1), some (.int x_4), some (.int (x_7 + x1))], [.int (x_7 + x1)], h_31)) rfl ?_
                exact gw_ret (hk _ _ rfl) rfl w
              · replace w := w.2 z23
                refine gw_pst hk 1 (st' := (107, [some (.ref r0), some (.int x1), some (.int x_4), some (.int (x_7 + x1))], [.int (-5)], h_22)) rfl ?_
                exact gw_ret (hk _ _ rfl) rfl w
            · replace w := w.2 z17
              refine gw_pst hk 1 (st' := (83, [some (.ref r0), some (.int x1), some (.int x_4), some (.int (x_7 + x1))], [.int (-4)], h_16)) rfl ?_
              exact gw_ret (hk _ _ rfl) rfl w
/-- CommandByTurns.stay()I -/
def wm96 (c : gx) (d : Nat) (Post : Option Value → gm_H → Prop) (r0 : Nat) (h : gm_H) : Prop :=
  (∃ fs1, gm_get h r0 = some (.inr (9, fs1))) ∧ gE c d 84 [.ref r0] h (fun v1 h_1 => ∃ x_1 : Int32, v1 = some (.int x_1) ∧ ∃ q_2 : Nat, gm_fld h_1 r0 9 5 = some (.ref q_2) ∧ (∃ fs3, gm_get h_1 q_2 = some (.inr (6, fs3))) ∧ gE c d 58 [.ref q_2] h_1 (fun v3 h_3 => v3 = none ∧ ∃ q_4 : Nat, gm_fld h_3 r0 9 11 = some (.ref q_4) ∧ (∃ fs5, gm_get h_3 q_4 = some (.inr (5, fs5))) ∧ gE c d 45 [.ref q_4, .long ((x_1 : Int32).toInt64)] h_3 (fun v5 h_5 => v5 = none ∧ ∃ q_6 : Nat, gm_fld h_5 r0 9 5 = some (.ref q_6) ∧ ∃ x_7 : Int32, gm_fld h_5 q_6 6 5 = some (.int x_7) ∧ Post (some (.int x_7)) h_5)))
theorem okm96 (c : gx) (d : Nat) (Post : Option Value → gm_H → Prop) (r0 : Nat) (h : gm_H) (w : wm96 c d Post r0 h) : gE c (d + 1) 96 [.ref r0] h Post := by
  have hk : ∀ pc i, gm_find gk_96 pc = some i → gm_code (gt_T c.1 c.2.1 c.2.2.1) 96 pc = some i := fun _ _ z => z
  unfold wm96 at w
  refine ge_of (by decide) (Nat.le_of_ble_eq_true rfl) ?_
  show gV c d 96 (0, [some (.ref r0), none], [], h) Post
  unfold gV
  refine gw_pst hk 1 (st' := (1, [some (.ref r0), none], [.ref r0], h)) rfl ?_
  obtain ⟨⟨fs1, e1⟩, w⟩ := w
  refine gw_call (jj := 84) (As := [.ref r0]) (rest := []) (hk _ _ rfl) (fun _ => rfl) rfl rfl (Nat.le_of_ble_eq_true rfl) (gm_rcv_v rfl e1 rfl) ?_
  refine ge_imp w (fun v1 h_1 w => ?_)
  obtain ⟨x_1, rfl, w⟩ := w
  show gV c d 96 (4, [some (.ref r0), none], [.int x_1], h_1) Post
  refine gw_pst hk 2 (st' := (6, [some (.ref r0), some (.int x_1)], [.ref r0], h_1)) rfl ?_
  obtain ⟨q_2, e2, w⟩ := w
  refine gw_gf (hk _ _ rfl) e2 ?_
  obtain ⟨⟨fs3, e3⟩, w⟩ := w
  refine gw_call (jj := 58) (As := [.ref q_2]) (rest := []) (hk _ _ rfl) (fun _ => rfl) rfl rfl (Nat.le_of_ble_eq_true rfl) (gm_rcv_v rfl e3 rfl) ?_
  refine ge_imp w (fun v3 h_3 w => ?_)
  obtain ⟨rfl, w⟩ := w
  show gV c d 96 (12, [some (.ref r0), some (.int x_1)], [], h_3) Post
  refine gw_pst hk 1 (st' := (13, [some (.ref r0), some (.int x_1)], [.ref r0], h_3)) rfl ?_
  obtain ⟨q_4, e4, w⟩ := w
  refine gw_gf (hk _ _ rfl) e4 ?_
  refine gw_pst hk 2 (st' := (18, [some (.ref r0), some (.int x_1)], [.long ((x_1 : Int32).toInt64), .ref q_4], h_3)) rfl ?_
  obtain ⟨⟨fs5, e5⟩, w⟩ := w
  refine gw_call (jj := 45) (As := [.ref q_4, .long ((x_1 : Int32).toInt64)]) (rest := []) (hk _ _ rfl) (fun _ => rfl) rfl rfl (Nat.le_of_ble_eq_true rfl) (gm_rcv_v rfl e5 rfl) ?_
  refine ge_imp w (fun v5 h_5 w => ?_)
  obtain ⟨rfl, w⟩ := w
  show gV c d 96 (21, [some (.ref r0), some (.int x_1)], [], h_5) Post
  refine gw_pst hk 1 (st' := (22, [some (.ref r0), some (.int x_1)], [.ref r0], h_5)) rfl ?_
  obtain ⟨q_6, e6, w⟩ := w
  refine gw_gf (hk _ _ rfl) e6 ?_
  obtain ⟨x_7, e7, w⟩ := w
  refine gw_gf (hk _ _ rfl) e7 ?_
  exact gw_ret (hk _ _ rfl) rfl w
def w97_56 (c : gx) (d : Nat) (Post : Option Value → gm_H → Prop)  (h : gm_H) : Prop :=
  Post (some (.int (-4))) h
theorem ok97_56 (c : gx) (d : Nat) (Post : Option Value → gm_H → Prop)   (h : gm_H) (w : w97_56 c d Post  h) : gV c d 97 (56, [none, none, none], [], h) Post := by
  have hk : ∀ pc i, gm_find gk_97 pc = some i → gm_code (gt_T c.1 c.2.1 c.2.2.1) 97 pc = some i := fun _ _ z => z
  unfold w97_56 at w
  unfold gV
  refine gw_pst hk 1 (st' := (58, [none, none, none], [.int (-4)], h)) rfl ?_
  exact gw_ret (hk _ _ rfl) rfl w
/-- CommandByTurns.doBattle()I -/
def wm97 (c : gx) (d : Nat) (Post : Option Value → gm_H → Prop) (r0 : Nat) (h : gm_H) : Prop :=
  (∃ fs1, gm_get h r0 = some (.inr (9, fs1))) ∧ gE c d 84 [.ref r0] h (fun v1 h_1 => ∃ x_1 : Int32, v1 = some (.int x_1) ∧ ((x_1 = (-1) → Post (some (.int (-2))) h_1) ∧ (¬ (x_1 = (-1)) → ∃ q_3 : Nat, gm_fld h_1 r0 9 5 = some (.ref q_3) ∧ ∃ x_4 : Int32, gm_fld h_1 q_3 6 1 = some (.int x_4) ∧ ∃ q_5 : Nat, gm_fld h_1 r0 9 5 = some (.ref q_5) ∧ ∃ x_6 : Int32, gm_fld h_1 q_5 6 2 = some (.int x_6) ∧ gE c d 16 [.int x_4, .int x_6] h_1 (fun v7 h_7 => ∃ x_7 : Int32, v7 = some (.int x_7) ∧ ((x_7 = 0 → Post (some (.int (-3))) h_7) ∧ (¬ (x_7 = 0) → ∃ q_9 : Nat, gm_fld h_7 r0 9 5 = some (.ref q_9) ∧ ∃ x_10 : Int32, gm_fld h_7 q_9 6 3 = some (.int x_10) ∧ ((x_10 = 0 → w97_56 c d Post h_7) ∧ (¬ (x_10 = 0) → ∃ q_12 : Nat, gm_fld h_7 r0 9 5 = some (.ref q_12) ∧ ∃ x_13 : Int32, gm_fld h_7 q_12 6 4 = some (.int x_13) ∧ ((x_13 = 0 → w97_56 c d Post h_7) ∧ (¬ (x_13 = 0) → ∃ q_15 : Nat, gm_fld h_7 r0 9 5 = some (.ref q_15) ∧ ∃ q_16 : Nat, gm_fld h_7 r0 9 5 = some (.ref q_16) ∧ ∃ x_17 : Int32, gm_fld h_7 q_16 6 1 = some (.int x_17) ∧ ∃ q_18 : Nat, gm_fld h_7 r0 9 5 = some (.ref q_18) ∧ ∃ x_19 : Int32, gm_fld h_7 q_18 6 0 = some (.int x_19) ∧ (∃ fs20, gm_get h_7 r0 = some (.inr (9, fs20))) ∧ gE c d 150 [.ref r0, .ref q_15, .int x_17, .int x_1, .int x_19] h_7 (fun v20 h_20 => ∃ x_20 : Int32, v20 = some (.int x_20) ∧ ∃ q_21 : Nat, gm_fld h_20 r0 9 5 = some (.ref q_21) ∧ (∃ fs22, gm_get h_20 q_21 = some (.inr (6, fs22))) ∧ gE c d 56 [.ref q_21, .int x_20] h_20 (fun v22 h_22 => v22 = none ∧ ∃ q_23 : Nat, gm_fld h_22 r0 9 11 = some (.ref q_23) ∧ ∃ q_24 : Nat, gm_fld h_22 r0 9 5 = some (.ref q_24) ∧ ∃ x_25 : Int32, gm_fld h_22 q_24 6 3 = some (.int x_25) ∧ ∃ q_26 : Nat, gm_fld h_22 r0 9 5 = some (.ref q_26) ∧ ∃ x_27 : Int32, gm_fld h_22 q_26 6 4 = some (.int x_27) ∧ (∃ fs28, gm_get h_22 q_23 = some (.inr (5, fs28))) ∧ gE c d 46 [.ref q_23, .long ((x_25 : Int32).toInt64), .long ((x_27 : Int32).toInt64)] h_22 (fun v28 h_28 => v28 = none ∧ ∃ q_29 : Nat, gm_fld h_28 r0 9 5 = some (.ref q_29) ∧ (∃ fs30, gm_get h_28 q_29 = some (.inr (6, fs30))) ∧ gE c d 58 [.ref q_29] h_28 (fun v30 h_30 => v30 = none ∧ Post (some (.int (501 + x_20))) h_30))))))))))))))
theorem okm97 (c : gx) (d : Nat) (Post : Option Value → gm_H → Prop) (r0 : Nat) (h : gm_H) (w : wm97 c d Post r0 h) : gE c (d + 1) 97 [.ref r0] h Post := by
  have hk : ∀ pc i, gm_find gk_97 pc = some i → gm_code (gt_T c.1 c.2.1 c.2.2.1) 97 pc = some i := fun _ _ z => z
  unfold wm97 at w
  refine ge_of (by decide) (Nat.le_of_ble_eq_true rfl) ?_
  show gV c d 97 (0, [some (.ref r0), none, none], [], h) Post
  unfold gV
  refine gw_pst hk 1 (st' := (1, [some (.ref r0), none, none], [.ref r0], h)) rfl ?_
  obtain ⟨⟨fs1, e1⟩, w⟩ := w
  refine gw_call (jj := 84) (As := [.ref r0]) (rest := []) (hk _ _ rfl) (fun _ => rfl) rfl rfl (Nat.le_of_ble_eq_true rfl) (gm_rcv_v rfl e1 rfl) ?_
  refine ge_imp w (fun v1 h_1 w => ?_)
  obtain ⟨x_1, rfl, w⟩ := w
  show gV c d 97 (4, [some (.ref r0), none, none], [.int x_1], h_1) Post
  refine gw_pst hk 3 (st' := (7, [some (.ref r0), some (.int x_1), none], [.int (-1), .int x_1], h_1)) rfl ?_
  refine gw_br (c := x_1 = (-1)) (a := (10, [some (.ref r0), some (.int x_1), none], [], h_1)) (b := (13, [some (.ref r0), some (.int x_1), none], [], h_1)) (hk _ _ rfl) rfl ⟨fun z2 => ?_, fun z2 => ?_⟩
  · replace w := w.1 z2
    refine gw_pst hk 1 (st' := (12, [some (.ref r0), some (.int x_1), none], [.int (-2)], h_1)) rfl ?_
    exact gw_ret (hk _ _ rfl) rfl w
  · replace w := w.2 z2
    refine gw_pst hk 1 (st' := (14, [some (.ref r0), some (.int x_1), none], [.ref r0], h_1)) rfl ?_
    obtain ⟨q_3, e3, w⟩ := w
    refine gw_gf (hk _ _ rfl) e3 ?_
    obtain ⟨x_4, e4, w⟩ := w
    refine gw_gf (hk _ _ rfl) e4 ?_
    refine gw_pst hk 1 (st' := (21, [some (.ref r0), some (.int x_1), none], [.ref r0, .int x_4], h_1)) rfl ?_
    obtain ⟨q_5, e5, w⟩ := w
    refine gw_gf (hk _ _ rfl) e5 ?_
    obtain ⟨x_6, e6, w⟩ := w
    refine gw_gf (hk _ _ rfl) e6 ?_
    refine gw_call (jj := 16) (As := [.int x_4, .int x_6]) (rest := []) (hk _ _ rfl) (fun _ => rfl) rfl rfl (Nat.le_of_ble_eq_true rfl) rfl ?_
    refine ge_imp w (fun v7 h_7 w => ?_)
    obtain ⟨x_7, rfl, w⟩ := w
    show gV c d 97 (30, [some (.ref r0), some (.int x_1), none], [.int x_7], h_7) Post
    refine gw_br (c := x_7 = 0) (a := (33, [some (.ref r0), some (.int x_1), none], [], h_7)) (b := (36, [some (.ref r0), some (.int x_1), none], [], h_7)) (hk _ _ rfl) rfl ⟨fun z8 => ?_, fun z8 => ?_⟩
    · replace w := w.1 z8
      refine gw_pst hk 1 (st' := (35, [some (.ref r0), some (.int x_1), none], [.int (-3)], h_7)) rfl ?_
      exact gw_ret (hk _ _ rfl) rfl w
    · replace w := w.2 z8
      refine gw_pst hk 1 (st' := (37, [some (.ref r0), some (.int x_1), none], [.ref r0], h_7)) rfl ?_
      obtain ⟨q_9, e9, w⟩ := w
      refine gw_gf (hk _ _ rfl) e9 ?_
      obtain ⟨x_10, e10, w⟩ := w
      refine gw_gf (hk _ _ rfl) e10 ?_
      refine gw_br (c := x_10 = 0) (a := (56, [some (.ref r0), some (.int x_1), none], [], h_7)) (b := (46, [some (.ref r0), some (.int x_1), none], [], h_7)) (hk _ _ rfl) rfl ⟨fun z11 => ?_, fun z11 => ?_⟩
      · replace w := w.1 z11
        refine gw_le (L' := [none, none, none]) (gm_le_n _ (gm_le_n _ (gm_le_k _ gm_le_nil))) ?_
        exact ok97_56 c d Post _ w
      · replace w := w.2 z11
        refine gw_pst hk 1 (st' := (47, [some (.ref r0), some (.int x_1), none], [.ref r0], h_7)) rfl ?_
        obtain ⟨q_12, e12, w⟩ := w
        refine gw_gf (hk _ _ rfl) e12 ?_
        obtain ⟨x_13, e13, w⟩ := w
        refine gw_gf (hk _ _ rfl) e13 ?_
        refine gw_br (c := x_13 = 0) (a := (56, [some (.ref r0), some (.int x_1), none], [], h_7)) (b := (59, [some (.ref r0), some (.int x_1), none], [], h_7)) (hk _ _ rfl) rfl ⟨fun z14 => ?_, fun z14 => ?_⟩
        · replace w := w.1 z14
          refine gw_le (L' := [none, none, none]) (gm_le_n _ (gm_le_n _ (gm_le_k _ gm_le_nil))) ?_
          exact ok97_56 c d Post _ w
        · replace w := w.2 z14
          refine gw_pst hk 2 (st' := (61, [some (.ref r0), some (.int x_1), none], [.ref r0, .ref r0], h_7)) rfl ?_
          obtain ⟨q_15, e15, w⟩ := w
          refine gw_gf (hk _ _ rfl) e15 ?_
          refine gw_pst hk 1 (st' := (65, [some (.ref r0), some (.int x_1), none], [.ref r0, .ref q_15, .ref r0], h_7)) rfl ?_
          obtain ⟨q_16, e16, w⟩ := w
          refine gw_gf (hk _ _ rfl) e16 ?_
          obtain ⟨x_17, e17, w⟩ := w
          refine gw_gf (hk _ _ rfl) e17 ?_
          refine gw_pst hk 2 (st' := (73, [some (.ref r0), some (.int x_1), none], [.ref r0, .int x_1, .int x_17, .ref q_15, .ref r0], h_7)) rfl ?_
          obtain ⟨q_18, e18, w⟩ := w
          refine gw_gf (hk _ _ rfl) e18 ?_
          obtain ⟨x_19, e19, w⟩ := w
          refine gw_gf (hk _ _ rfl) e19 ?_
          obtain ⟨⟨fs20, e20⟩, w⟩ := w
          refine gw_call (jj := 150) (As := [.ref r0, .ref q_15, .int x_17, .int x_1, .int x_19]) (rest := []) (hk _ _ rfl) (fun _ => rfl) rfl rfl (Nat.le_of_ble_eq_true rfl) (gm_rcv_v rfl e20 rfl) ?_
          refine ge_imp w (fun v20 h_20 w => ?_)
          obtain ⟨x_20, rfl, w⟩ := w
          show gV c d 97 (82, [some (.ref r0), some (.int x_1), none], [.int x_20], h_20) Post
          refine gw_pst hk 2 (st' := (84, [some (.ref r0), some (.int x_1), some (.int x_20)], [.ref r0], h_20)) rfl ?_
          obtain ⟨q_21, e21, w⟩ := w
          refine gw_gf (hk _ _ rfl) e21 ?_
          refine gw_pst hk 1 (st' := (88, [some (.ref r0), some (.int x_1), some (.int x_20)], [.int x_20, .ref q_21], h_20)) rfl ?_
          obtain ⟨⟨fs22, e22⟩, w⟩ := w
          refine gw_call (jj := 56) (As := [.ref q_21, .int x_20]) (rest := []) (hk _ _ rfl) (fun _ => rfl) rfl rfl (Nat.le_of_ble_eq_true rfl) (gm_rcv_v rfl e22 rfl) ?_
          refine ge_imp w (fun v22 h_22 w => ?_)
          obtain ⟨rfl, w⟩ := w
          show gV c d 97 (91, [some (.ref r0), some (.int x_1), some (.int x_20)], [], h_22) Post
          refine gw_pst hk 1 (st' := (92, [some (.ref r0), some (.int x_1), some (.int x_20)], [.ref r0], h_22)) rfl ?_
          obtain ⟨q_23, e23, w⟩ := w
          refine gw_gf (hk _ _ rfl) e23 ?_
          refine gw_pst hk 1 (st' := (96, [some (.ref r0), some (.int x_1), some (.int x_20)], [.ref r0, .ref q_23], h_22)) rfl ?_
          obtain ⟨q_24, e24, w⟩ := w
          refine gw_gf (hk _ _ rfl) e24 ?_
          obtain ⟨x_25, e25, w⟩ := w
          refine gw_gf (hk _ _ rfl) e25 ?_
          refine gw_pst hk 2 (st' := (104, [some (.ref r0), some (.int x_1), some (.int x_20)], [.ref r0, .long ((x_25 : Int32).toInt64), .ref q_23], h_22)) rfl ?_
          obtain ⟨q_26, e26, w⟩ := w
          refine gw_gf (hk _ _ rfl) e26 ?_
          obtain ⟨x_27, e27, w⟩ := w
          refine gw_gf (hk _ _ rfl) e27 ?_
          refine gw_pst hk 1 (st' := (111, [some (.ref r0), some (.int x_1), some (.int x_20)], [.long ((x_27 : Int32).toInt64), .long ((x_25 : Int32).toInt64), .ref q_23], h_22)) rfl ?_
          obtain ⟨⟨fs28, e28⟩, w⟩ := w
          refine gw_call (jj := 46) (As := [.ref q_23, .long ((x_25 : Int32).toInt64), .long ((x_27 : Int32).toInt64)]) (rest := []) (hk _ _ rfl) (fun _ => rfl) rfl rfl (Nat.le_of_ble_eq_true rfl) (gm_rcv_v rfl e28 rfl) ?_
          refine ge_imp w (fun v28 h_28 w => ?_)
          obtain ⟨rfl, w⟩ := w
          show gV c d 97 (114, [some (.ref r0), some (.int x_1), some (.int x_20)], [], h_28) Post
          refine gw_pst hk 1 (st' := (115, [some (.ref r0), some (.int x_1), some (.int x_20)], [.ref r0], h_28)) rfl ?_
          obtain ⟨q_29, e29, w⟩ := w
          refine gw_gf (hk _ _ rfl) e29 ?_
          obtain ⟨⟨fs30, e30⟩, w⟩ := w
          refine gw_call (jj := 58) (As := [.ref q_29]) (rest := []) (hk _ _ rfl) (fun _ => rfl) rfl rfl (Nat.le_of_ble_eq_true rfl) (gm_rcv_v rfl e30 rfl) ?_
          refine ge_imp w (fun v30 h_30 w => ?_)
          obtain ⟨rfl, w⟩ := w
          show gV c d 97 (121, [some (.ref r0), some (.int x_1), some (.int x_20)], [], h_30) Post
          refine gw_pst hk 3 (st' := (126, [some (.ref r0), some (.int x_1), some (.int x_20)], [.int (501 + x_20)], h_30)) rfl ?_
          exact gw_ret (hk _ _ rfl) rfl w
/-- CommandByTurns.moveFoe(I)I -/
def wm98 (c : gx) (d : Nat) (Post : Option Value → gm_H → Prop) (r0 : Nat) (x1 : Int32) (h : gm_H) : Prop :=
  ∃ q_1 : Nat, gm_fld h r0 9 1 = some (.ref q_1) ∧ (∃ fs2, gm_get h q_1 = some (.inr (1, fs2))) ∧ gE c d 14 [.ref q_1, .int x1] h (fun v2 h_2 => ∃ x_2 : Int32, v2 = some (.int x_2) ∧ ((x_2 = 0 → Post (some (.int (-1))) h_2) ∧ (¬ (x_2 = 0) → ∃ q_4 : Nat, gm_fld h_2 r0 9 5 = some (.ref q_4) ∧ ∃ x_5 : Int32, gm_fld h_2 q_4 6 2 = some (.int x_5) ∧ ∃ q_6 : Nat, gm_fld h_2 r0 9 5 = some (.ref q_6) ∧ ∃ fs7 : List Value, gm_get h_2 q_6 = some (.inr (6, fs7)) ∧ 2 < fs7.length ∧ ∀ h_7 : gm_H, h_7 = gm_put h_2 q_6 (.inr (6, fs7.set 2 (.int x1))) → Post (some (.int x_5)) h_7)))
theorem okm98 (c : gx) (d : Nat) (Post : Option Value → gm_H → Prop) (r0 : Nat) (x1 : Int32) (h : gm_H) (w : wm98 c d Post r0 x1 h) : gE c (d + 1) 98 [.ref r0, .int x1] h Post := by
  have hk : ∀ pc i, gm_find gk_98 pc = some i → gm_code (gt_T c.1 c.2.1 c.2.2.1) 98 pc = some i := fun _ _ z => z
  unfold wm98 at w
  refine ge_of (by decide) (Nat.le_of_ble_eq_true rfl) ?_
  show gV c d 98 (0, [some (.ref r0), some (.int x1), none], [], h) Post
  unfold gV
  refine gw_pst hk 1 (st' := (1, [some (.ref r0), some (.int x1), none], [.ref r0], h)) rfl ?_
  obtain ⟨q_1, e1, w⟩ := w
  refine gw_gf (hk _ _ rfl) e1 ?_
  refine gw_pst hk 1 (st' := (5, [some (.ref r0), some (.int x1), none], [.int x1, .ref q_1], h)) rfl ?_
  obtain ⟨⟨fs2, e2⟩, w⟩ := w
  refine gw_call (jj := 14) (As := [.ref q_1, .int x1]) (rest := []) (hk _ _ rfl) (fun _ => rfl) rfl rfl (Nat.le_of_ble_eq_true rfl) (gm_rcv_v rfl e2 rfl) ?_
  refine ge_imp w (fun v2 h_2 w => ?_)
  obtain ⟨x_2, rfl, w⟩ := w
  show gV c d 98 (8, [some (.ref r0), some (.int x1), none], [.int x_2], h_2) Post
  refine gw_br (c := x_2 = 0) (a := (11, [some (.ref r0), some (.int x1), none], [], h_2)) (b := (13, [some (.ref r0), some (.int x1), none], [], h_2)) (hk _ _ rfl) rfl ⟨fun z3 => ?_, fun z3 => ?_⟩
  · replace w := w.1 z3
    refine gw_pst hk 1 (st' := (12, [some (.ref r0), some (.int x1), none], [.int (-1)], h_2)) rfl ?_
    exact gw_ret (hk _ _ rfl) rfl w
  · replace w := w.2 z3
    refine gw_pst hk 1 (st' := (14, [some (.ref r0), some (.int x1), none], [.ref r0], h_2)) rfl ?_
    obtain ⟨q_4, e4, w⟩ := w
    refine gw_gf (hk _ _ rfl) e4 ?_
    obtain ⟨x_5, e5, w⟩ := w
    refine gw_gf (hk _ _ rfl) e5 ?_
    refine gw_pst hk 2 (st' := (22, [some (.ref r0), some (.int x1), some (.int x_5)], [.ref r0], h_2)) rfl ?_
    obtain ⟨q_6, e6, w⟩ := w
    refine gw_gf (hk _ _ rfl) e6 ?_
    refine gw_pst hk 1 (st' := (26, [some (.ref r0), some (.int x1), some (.int x_5)], [.int x1, .ref q_6], h_2)) rfl ?_
    obtain ⟨fs7, e7, l7, w⟩ := w
    refine gw_pf (hk _ _ rfl) e7 l7 rfl ?_
    obtain ⟨h_7, eh7⟩ : ∃ z, z = gm_put h_2 q_6 (.inr (6, fs7.set 2 (.int x1))) := ⟨_, rfl⟩
    rw [← eh7]
    replace w := w h_7 eh7
    refine gw_pst hk 1 (st' := (30, [some (.ref r0), some (.int x1), some (.int x_5)], [.int x_5], h_7)) rfl ?_
    exact gw_ret (hk _ _ rfl) rfl w
def w99_17 (c : gx) (d : Nat) (Post : Option Value → gm_H → Prop)  (h : gm_H) : Prop :=
  Post (some (.int (-1))) h
theorem ok99_17 (c : gx) (d : Nat) (Post : Option Value → gm_H → Prop)   (h : gm_H) (w : w99_17 c d Post  h) : gV c d 99 (17, [none, none], [], h) Post := by
  have hk : ∀ pc i, gm_find gk_99 pc = some i → gm_code (gt_T c.1 c.2.1 c.2.2.1) 99 pc = some i := fun _ _ z => z
  unfold w99_17 at w
  unfold gV
  refine gw_pst hk 1 (st' := (18, [none, none], [.int (-1)], h)) rfl ?_
  exact gw_ret (hk _ _ rfl) rfl w
/-- CommandByTurns.turnDay(I)I -/
def wm99 (c : gx) (d : Nat) (Post : Option Value → gm_H → Prop) (r0 : Nat) (x1 : Int32) (h : gm_H) : Prop :=
  ∃ q_1 : Nat, gm_fld h r0 9 5 = some (.ref q_1) ∧ ∃ x_2 : Int32, gm_fld h q_1 6 0 = some (.int x_2) ∧ ((x1 < x_2 → w99_17 c d Post h) ∧ (¬ (x1 < x_2) → ((x1 ≤ 99 → ∃ q_5 : Nat, gm_fld h r0 9 5 = some (.ref q_5) ∧ (∃ fs6, gm_get h q_5 = some (.inr (6, fs6))) ∧ gE c d 53 [.ref q_5, .int x1] h (fun v6 h_6 => v6 = none ∧ ∃ q_7 : Nat, gm_fld h_6 r0 9 5 = some (.ref q_7) ∧ ∃ q_8 : Nat, gm_fld h_6 r0 9 5 = some (.ref q_8) ∧ ∃ x_9 : Int32, gm_fld h_6 q_8 6 0 = some (.int x_9) ∧ (∃ fs10, gm_get h_6 q_7 = some (.inr (6, fs10))) ∧ gE c d 54 [.ref q_7, .int x_9] h_6 (fun v10 h_10 => ∃ x_10 : Int32, v10 = some (.int x_10) ∧ Post (some (.int x_10)) h_10))) ∧ (¬ (x1 ≤ 99) → w99_17 c d Post h))))
theorem okm99 (c : gx) (d : Nat) (Post : Option Value → gm_H → Prop) (r0 : Nat) (x1 : Int32) (h : gm_H) (w : wm99 c d Post r0 x1 h) : gE c (d + 1) 99 [.ref r0, .int x1] h Post := by
  have hk : ∀ pc i, gm_find gk_99 pc = some i → gm_code (gt_T c.1 c.2.1 c.2.2.1) 99 pc = some i := fun _ _ z => z
  unfold wm99 at w
  refine ge_of (by decide) (Nat.le_of_ble_eq_true rfl) ?_
  show gV c d 99 (0, [some (.ref r0), some (.int x1)], [], h) Post
  unfold gV
  refine gw_pst hk 2 (st' := (2, [some (.ref r0), some (.int x1)], [.ref r0, .int x1], h)) rfl ?_
  obtain ⟨q_1, e1, w⟩ := w
  refine gw_gf (hk _ _ rfl) e1 ?_
  obtain ⟨x_2, e2, w⟩ := w
  refine gw_gf (hk _ _ rfl) e2 ?_
  refine gw_br (c := x1 < x_2) (a := (17, [some (.ref r0), some (.int x1)], [], h)) (b := (11, [some (.ref r0), some (.int x1)], [], h)) (hk _ _ rfl) rfl ⟨fun z3 => ?_, fun z3 => ?_⟩
  · replace w := w.1 z3
    refine gw_le (L' := [none, none]) (gm_le_n _ (gm_le_n _ gm_le_nil)) ?_
    exact ok99_17 c d Post _ w
  · replace w := w.2 z3
    refine gw_pst hk 2 (st' := (14, [some (.ref r0), some (.int x1)], [.int 99, .int x1], h)) rfl ?_
    refine gw_br (c := x1 ≤ 99) (a := (19, [some (.ref r0), some (.int x1)], [], h)) (b := (17, [some (.ref r0), some (.int x1)], [], h)) (hk _ _ rfl) rfl ⟨fun z4 => ?_, fun z4 => ?_⟩
    · replace w := w.1 z4
      refine gw_pst hk 1 (st' := (20, [some (.ref r0), some (.int x1)], [.ref r0], h)) rfl ?_
      obtain ⟨q_5, e5, w⟩ := w
      refine gw_gf (hk _ _ rfl) e5 ?_
      refine gw_pst hk 1 (st' := (24, [some (.ref r0), some (.int x1)], [.int x1, .ref q_5], h)) rfl ?_
      obtain ⟨⟨fs6, e6⟩, w⟩ := w
      refine gw_call (jj := 53) (As := [.ref q_5, .int x1]) (rest := []) (hk _ _ rfl) (fun _ => rfl) rfl rfl (Nat.le_of_ble_eq_true rfl) (gm_rcv_v rfl e6 rfl) ?_
      refine ge_imp w (fun v6 h_6 w => ?_)
      obtain ⟨rfl, w⟩ := w
      show gV c d 99 (27, [some (.ref r0), some (.int x1)], [], h_6) Post
      refine gw_pst hk 1 (st' := (28, [some (.ref r0), some (.int x1)], [.ref r0], h_6)) rfl ?_
      obtain ⟨q_7, e7, w⟩ := w
      refine gw_gf (hk _ _ rfl) e7 ?_
      refine gw_pst hk 1 (st' := (32, [some (.ref r0), some (.int x1)], [.ref r0, .ref q_7], h_6)) rfl ?_
      obtain ⟨q_8, e8, w⟩ := w
      refine gw_gf (hk _ _ rfl) e8 ?_
      obtain ⟨x_9, e9, w⟩ := w
      refine gw_gf (hk _ _ rfl) e9 ?_
      obtain ⟨⟨fs10, e10⟩, w⟩ := w
      refine gw_call (jj := 54) (As := [.ref q_7, .int x_9]) (rest := []) (hk _ _ rfl) (fun _ => rfl) rfl rfl (Nat.le_of_ble_eq_true rfl) (gm_rcv_v rfl e10 rfl) ?_
      refine ge_imp w (fun v10 h_10 w => ?_)
      obtain ⟨x_10, rfl, w⟩ := w
      show gV c d 99 (41, [some (.ref r0), some (.int x1)], [.int x_10], h_10) Post
      exact gw_ret (hk _ _ rfl) rfl w
    · replace w := w.2 z4
      refine gw_le (L' := [none, none]) (gm_le_n _ (gm_le_n _ gm_le_nil)) ?_
      exact ok99_17 c d Post _ w
