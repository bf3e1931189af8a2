/-! What must hold for a run to end with Post: by program (wip/whole/gen_wp.py). -/
def w100_23 (c : gx) (d : Nat) (Post : Option Value → gm_H → Prop) (xs0 : Int32) (h : gm_H) : Prop :=
  ((xs0 = 0 ∨ xs0 = 1) ∧ Post (some (.int xs0)) h)
theorem ok100_23 (c : gx) (d : Nat) (Post : Option Value → gm_H → Prop)  (xs0 : Int32) (h : gm_H) (w : w100_23 c d Post xs0 h) : gV c d 100 (23, [none], [.int xs0], h) Post := by
  have hk : ∀ pc i, gm_find gk_100 pc = some i → gm_code (gt_T c.1 c.2.1 c.2.2.1) 100 pc = some i := fun _ _ z => z
  unfold w100_23 at w
  unfold gV
  exact gw_retZ (hk _ _ rfl) rfl w.1 w.2
def w100_18 (c : gx) (d : Nat) (Post : Option Value → gm_H → Prop)  (h : gm_H) : Prop :=
  w100_23 c d Post 1 h
theorem ok100_18 (c : gx) (d : Nat) (Post : Option Value → gm_H → Prop)   (h : gm_H) (w : w100_18 c d Post  h) : gV c d 100 (18, [none], [], h) Post := by
  have hk : ∀ pc i, gm_find gk_100 pc = some i → gm_code (gt_T c.1 c.2.1 c.2.2.1) 100 pc = some i := fun _ _ z => z
  unfold w100_18 at w
  unfold gV
  refine gw_pst hk 2 (st' := (23, [none], [.int 1], h)) rfl ?_
  exact ok100_23 c d Post _ _ w
/-- CommandByTurns.isActOfTwo(C)Z -/
def wm100 (c : gx) (d : Nat) (Post : Option Value → gm_H → Prop) (x0 : Int32) (h : gm_H) : Prop :=
  ((x0 = 62 → w100_18 c d Post h) ∧ (¬ (x0 = 62) → ((x0 = 60 → w100_18 c d Post h) ∧ (¬ (x0 = 60) → ((x0 = 102 → w100_18 c d Post h) ∧ (¬ (x0 = 102) → w100_23 c d Post 0 h))))))
theorem okm100 (c : gx) (d : Nat) (Post : Option Value → gm_H → Prop) (x0 : Int32) (h : gm_H) (w : wm100 c d Post x0 h) : gE c (d + 1) 100 [.int x0] h Post := by
  have hk : ∀ pc i, gm_find gk_100 pc = some i → gm_code (gt_T c.1 c.2.1 c.2.2.1) 100 pc = some i := fun _ _ z => z
  unfold wm100 at w
  refine ge_of (by decide) (Nat.le_of_ble_eq_true rfl) ?_
  show gV c d 100 (0, [some (.int x0)], [], h) Post
  unfold gV
  refine gw_pst hk 2 (st' := (3, [some (.int x0)], [.int 62, .int x0], h)) rfl ?_
  refine gw_br (c := x0 = 62) (a := (18, [some (.int x0)], [], h)) (b := (6, [some (.int x0)], [], h)) (hk _ _ rfl) rfl ⟨fun z1 => ?_, fun z1 => ?_⟩
  · replace w := w.1 z1
    refine gw_le (L' := [none]) (gm_le_n _ gm_le_nil) ?_
    exact ok100_18 c d Post _ w
  · replace w := w.2 z1
    refine gw_pst hk 2 (st' := (9, [some (.int x0)], [.int 60, .int x0], h)) rfl ?_
    refine gw_br (c := x0 = 60) (a := (18, [some (.int x0)], [], h)) (b := (12, [some (.int x0)], [], h)) (hk _ _ rfl) rfl ⟨fun z2 => ?_, fun z2 => ?_⟩
    · replace w := w.1 z2
      refine gw_le (L' := [none]) (gm_le_n _ gm_le_nil) ?_
      exact ok100_18 c d Post _ w
    · replace w := w.2 z2
      refine gw_pst hk 2 (st' := (15, [some (.int x0)], [.int 102, .int x0], h)) rfl ?_
      refine gw_br (c := x0 = 102) (a := (18, [some (.int x0)], [], h)) (b := (22, [some (.int x0)], [], h)) (hk _ _ rfl) rfl ⟨fun z3 => ?_, fun z3 => ?_⟩
      · replace w := w.1 z3
        refine gw_le (L' := [none]) (gm_le_n _ gm_le_nil) ?_
        exact ok100_18 c d Post _ w
      · replace w := w.2 z3
        refine gw_pst hk 1 (st' := (23, [some (.int x0)], [.int 0], h)) rfl ?_
        refine gw_le (L' := [none]) (gm_le_n _ gm_le_nil) ?_
        exact ok100_23 c d Post _ _ w
def w101_101 (c : gx) (d : Nat) (Post : Option Value → gm_H → Prop) (rs0 : Nat) (xs1 : Int32) (h : gm_H) : Prop :=
  (∃ fs1, gm_get h rs0 = some (.inr (9, fs1))) ∧ gE c d 98 [.ref rs0, .int xs1] h (fun v1 h_1 => ∃ x_1 : Int32, v1 = some (.int x_1) ∧ Post (some (.int x_1)) h_1)
theorem ok101_101 (c : gx) (d : Nat) (Post : Option Value → gm_H → Prop)  (rs0 : Nat) (xs1 : Int32) (h : gm_H) (w : w101_101 c d Post rs0 xs1 h) : gV c d 101 (101, [none, none, none], [.int xs1, .ref rs0], h) Post := by
  have hk : ∀ pc i, gm_find gk_101 pc = some i → gm_code (gt_T c.1 c.2.1 c.2.2.1) 101 pc = some i := fun _ _ z => z
  unfold w101_101 at w
  unfold gV
  obtain ⟨⟨fs1, e1⟩, w⟩ := w
  refine gw_call (jj := 98) (As := [.ref rs0, .int xs1]) (rest := []) (hk _ _ rfl) (fun _ => rfl) rfl rfl (Nat.le_of_ble_eq_true rfl) (gm_rcv_v rfl e1 rfl) ?_
  refine ge_imp w (fun v1 h_1 w => ?_)
  obtain ⟨x_1, rfl, w⟩ := w
  show gV c d 101 (104, [none, none, none], [.int x_1], h_1) Post
  exact gw_ret (hk _ _ rfl) rfl w
/-- CommandByTurns.act(CC)I -/
def wm101 (c : gx) (d : Nat) (Post : Option Value → gm_H → Prop) (r0 : Nat) (x1 : Int32) (x2 : Int32) (h : gm_H) : Prop :=
  ((x1 = 60 → (∃ fs2, gm_get h r0 = some (.inr (9, fs2))) ∧ gE c d 95 [.ref r0, .int (48 - x2)] h (fun v2 h_2 => ∃ x_2 : Int32, v2 = some (.int x_2) ∧ Post (some (.int x_2)) h_2)) ∧ (x1 = 62 → (∃ fs3, gm_get h r0 = some (.inr (9, fs3))) ∧ gE c d 95 [.ref r0, .int (x2 - 48)] h (fun v3 h_3 => ∃ x_3 : Int32, v3 = some (.int x_3) ∧ Post (some (.int x_3)) h_3)) ∧ (x1 = 102 → ((x2 < 97 → w101_101 c d Post r0 (x2 - 48) h) ∧ (¬ (x2 < 97) → w101_101 c d Post r0 ((x2 - 97) + 10) h))) ∧ (x1 = 104 → (∃ fs5, gm_get h r0 = some (.inr (9, fs5))) ∧ gE c d 96 [.ref r0] h (fun v5 h_5 => ∃ x_5 : Int32, v5 = some (.int x_5) ∧ Post (some (.int x_5)) h_5)) ∧ (x1 = 120 → (∃ fs6, gm_get h r0 = some (.inr (9, fs6))) ∧ gE c d 97 [.ref r0] h (fun v6 h_6 => ∃ x_6 : Int32, v6 = some (.int x_6) ∧ Post (some (.int x_6)) h_6)) ∧ (¬ x1 = 60 ∧ ¬ x1 = 62 ∧ ¬ x1 = 102 ∧ ¬ x1 = 104 ∧ ¬ x1 = 120 → ∃ q_7 : Nat, gm_fld h r0 9 5 = some (.ref q_7) ∧ ∃ x_8 : Int32, gm_fld h q_7 6 0 = some (.int x_8) ∧ (∃ fs9, gm_get h r0 = some (.inr (9, fs9))) ∧ gE c d 99 [.ref r0, .int x_8] h (fun v9 h_9 => ∃ x_9 : Int32, v9 = some (.int x_9) ∧ Post (some (.int x_9)) h_9)))
theorem okm101 (c : gx) (d : Nat) (Post : Option Value → gm_H → Prop) (r0 : Nat) (x1 : Int32) (x2 : Int32) (h : gm_H) (w : wm101 c d Post r0 x1 x2 h) : gE c (d + 1) 101 [.ref r0, .int x1, .int x2] h Post := by
  have hk : ∀ pc i, gm_find gk_101 pc = some i → gm_code (gt_T c.1 c.2.1 c.2.2.1) 101 pc = some i := fun _ _ z => z
  unfold wm101 at w
  refine ge_of (by decide) (Nat.le_of_ble_eq_true rfl) ?_
  show gV c d 101 (0, [some (.ref r0), some (.int x1), some (.int x2)], [], h) Post
  unfold gV
  refine gw_pst hk 1 (st' := (1, [some (.ref r0), some (.int x1), some (.int x2)], [.int x1], h)) rfl ?_
  by_cases z1_0 : x1 = 60
  · replace w := w.1 z1_0
    refine gw_swk (st' := (61, [some (.ref r0), some (.int x1), some (.int x2)], [], h)) (hk _ _ rfl) z1_0 rfl ?_
    refine gw_pst hk 4 (st' := (66, [some (.ref r0), some (.int x1), some (.int x2)], [.int (48 - x2), .ref r0], h)) rfl ?_
    obtain ⟨⟨fs2, e2⟩, w⟩ := w
    refine gw_call (jj := 95) (As := [.ref r0, .int (48 - x2)]) (rest := []) (hk _ _ rfl) (fun _ => rfl) rfl rfl (Nat.le_of_ble_eq_true rfl) (gm_rcv_v rfl e2 rfl) ?_
    refine ge_imp w (fun v2 h_2 w => ?_)
    obtain ⟨x_2, rfl, w⟩ := w
    show gV c d 101 (69, [some (.ref r0), some (.int x1), some (.int x2)], [.int x_2], h_2) Post
    exact gw_ret (hk _ _ rfl) rfl w
  by_cases z1_1 : x1 = 62
  · replace w := w.2.1 z1_1
    refine gw_swk (st' := (52, [some (.ref r0), some (.int x1), some (.int x2)], [], h)) (hk _ _ rfl) z1_1 rfl ?_
    refine gw_pst hk 4 (st' := (57, [some (.ref r0), some (.int x1), some (.int x2)], [.int (x2 - 48), .ref r0], h)) rfl ?_
    obtain ⟨⟨fs3, e3⟩, w⟩ := w
    refine gw_call (jj := 95) (As := [.ref r0, .int (x2 - 48)]) (rest := []) (hk _ _ rfl) (fun _ => rfl) rfl rfl (Nat.le_of_ble_eq_true rfl) (gm_rcv_v rfl e3 rfl) ?_
    refine ge_imp w (fun v3 h_3 w => ?_)
    obtain ⟨x_3, rfl, w⟩ := w
    show gV c d 101 (60, [some (.ref r0), some (.int x1), some (.int x2)], [.int x_3], h_3) Post
    exact gw_ret (hk _ _ rfl) rfl w
  by_cases z1_2 : x1 = 102
  · replace w := w.2.2.1 z1_2
    refine gw_swk (st' := (80, [some (.ref r0), some (.int x1), some (.int x2)], [], h)) (hk _ _ rfl) z1_2 rfl ?_
    refine gw_pst hk 3 (st' := (84, [some (.ref r0), some (.int x1), some (.int x2)], [.int 97, .int x2, .ref r0], h)) rfl ?_
    refine gw_br (c := x2 < 97) (a := (97, [some (.ref r0), some (.int x1), some (.int x2)], [.ref r0], h)) (b := (87, [some (.ref r0), some (.int x1), some (.int x2)], [.ref r0], h)) (hk _ _ rfl) rfl ⟨fun z4 => ?_, fun z4 => ?_⟩
    · replace w := w.1 z4
      refine gw_pst hk 3 (st' := (101, [some (.ref r0), some (.int x1), some (.int x2)], [.int (x2 - 48), .ref r0], h)) rfl ?_
      refine gw_le (L' := [none, none, none]) (gm_le_n _ (gm_le_n _ (gm_le_n _ gm_le_nil))) ?_
      exact ok101_101 c d Post _ _ _ w
    · replace w := w.2 z4
      refine gw_pst hk 6 (st' := (101, [some (.ref r0), some (.int x1), some (.int x2)], [.int ((x2 - 97) + 10), .ref r0], h)) rfl ?_
      refine gw_le (L' := [none, none, none]) (gm_le_n _ (gm_le_n _ (gm_le_n _ gm_le_nil))) ?_
      exact ok101_101 c d Post _ _ _ w
  by_cases z1_3 : x1 = 104
  · replace w := w.2.2.2.1 z1_3
    refine gw_swk (st' := (70, [some (.ref r0), some (.int x1), some (.int x2)], [], h)) (hk _ _ rfl) z1_3 rfl ?_
    refine gw_pst hk 1 (st' := (71, [some (.ref r0), some (.int x1), some (.int x2)], [.ref r0], h)) rfl ?_
    obtain ⟨⟨fs5, e5⟩, w⟩ := w
    refine gw_call (jj := 96) (As := [.ref r0]) (rest := []) (hk _ _ rfl) (fun _ => rfl) rfl rfl (Nat.le_of_ble_eq_true rfl) (gm_rcv_v rfl e5 rfl) ?_
    refine ge_imp w (fun v5 h_5 w => ?_)
    obtain ⟨x_5, rfl, w⟩ := w
    show gV c d 101 (74, [some (.ref r0), some (.int x1), some (.int x2)], [.int x_5], h_5) Post
    exact gw_ret (hk _ _ rfl) rfl w
  by_cases z1_4 : x1 = 120
  · replace w := w.2.2.2.2.1 z1_4
    refine gw_swk (st' := (75, [some (.ref r0), some (.int x1), some (.int x2)], [], h)) (hk _ _ rfl) z1_4 rfl ?_
    refine gw_pst hk 1 (st' := (76, [some (.ref r0), some (.int x1), some (.int x2)], [.ref r0], h)) rfl ?_
    obtain ⟨⟨fs6, e6⟩, w⟩ := w
    refine gw_call (jj := 97) (As := [.ref r0]) (rest := []) (hk _ _ rfl) (fun _ => rfl) rfl rfl (Nat.le_of_ble_eq_true rfl) (gm_rcv_v rfl e6 rfl) ?_
    refine ge_imp w (fun v6 h_6 w => ?_)
    obtain ⟨x_6, rfl, w⟩ := w
    show gV c d 101 (79, [some (.ref r0), some (.int x1), some (.int x2)], [.int x_6], h_6) Post
    exact gw_ret (hk _ _ rfl) rfl w
  replace w := w.2.2.2.2.2 ⟨z1_0, z1_1, z1_2, z1_3, z1_4⟩
  refine gw_lsd (st' := (105, [some (.ref r0), some (.int x1), some (.int x2)], [], h)) (hk _ _ rfl) (by
      have y0 : ¬ 60 = (x1 : Int32).toInt := fun z => z1_0 (Int32.toInt_inj.mp z.symm)
      have y1 : ¬ 62 = (x1 : Int32).toInt := fun z => z1_1 (Int32.toInt_inj.mp z.symm)
      have y2 : ¬ 102 = (x1 : Int32).toInt := fun z => z1_2 (Int32.toInt_inj.mp z.symm)
      have y3 : ¬ 104 = (x1 : Int32).toInt := fun z => z1_3 (Int32.toInt_inj.mp z.symm)
      have y4 : ¬ 120 = (x1 : Int32).toInt := fun z => z1_4 (Int32.toInt_inj.mp z.symm)
      simp [Op.lookupswitch.offset, y0, y1, y2, y3, y4]) rfl ?_
  refine gw_pst hk 2 (st' := (107, [some (.ref r0), some (.int x1), some (.int x2)], [.ref r0, .ref r0], h)) rfl ?_
  obtain ⟨q_7, e7, w⟩ := w
  refine gw_gf (hk _ _ rfl) e7 ?_
  obtain ⟨x_8, e8, w⟩ := w
  refine gw_gf (hk _ _ rfl) e8 ?_
  obtain ⟨⟨fs9, e9⟩, w⟩ := w
  refine gw_call (jj := 99) (As := [.ref r0, .int x_8]) (rest := []) (hk _ _ rfl) (fun _ => rfl) rfl rfl (Nat.le_of_ble_eq_true rfl) (gm_rcv_v rfl e9 rfl) ?_
  refine ge_imp w (fun v9 h_9 w => ?_)
  obtain ⟨x_9, rfl, w⟩ := w
  show gV c d 101 (116, [some (.ref r0), some (.int x1), some (.int x2)], [.int x_9], h_9) Post
  exact gw_ret (hk _ _ rfl) rfl w
def w102_140 (c : gx) (d : Nat) (Post : Option Value → gm_H → Prop) (K17 : Nat → Int32 → Int32 → Int32 → gm_H → Prop) (r0 : Nat) (x1 : Int32) (x2 : Int32) (x3 : Int32) (h : gm_H) : Prop :=
  K17 r0 x1 x2 (x3 + 1) h
theorem ok102_140 (c : gx) (d : Nat) (Post : Option Value → gm_H → Prop) (K17 : Nat → Int32 → Int32 → Int32 → gm_H → Prop)  (hK17 : ∀ (r0 : Nat) (x1 : Int32) (x2 : Int32) (x3 : Int32) (h : gm_H), K17 r0 x1 x2 x3 h → gV c d 102 (17, [some (.ref r0), some (.int x1), some (.int x2), some (.int x3), none, none], [], h) Post) (r0 : Nat) (x1 : Int32) (x2 : Int32) (x3 : Int32) (h : gm_H) (w : w102_140 c d Post K17 r0 x1 x2 x3 h) : gV c d 102 (140, [some (.ref r0), some (.int x1), some (.int x2), some (.int x3), none, none], [], h) Post := by
  have hk : ∀ pc i, gm_find gk_102 pc = some i → gm_code (gt_T c.1 c.2.1 c.2.2.1) 102 pc = some i := fun _ _ z => z
  unfold w102_140 at w
  unfold gV
  refine gw_pst hk 2 (st' := (17, [some (.ref r0), some (.int x1), some (.int x2), some (.int (x3 + 1)), none, none], [], h)) rfl ?_
  exact hK17 _ _ _ _ _ w
def w102_129 (c : gx) (d : Nat) (Post : Option Value → gm_H → Prop) (K17 : Nat → Int32 → Int32 → Int32 → gm_H → Prop) (r0 : Nat) (x1 : Int32) (x3 : Int32) (xs0 : Int32) (h : gm_H) : Prop :=
  ((xs0 = 0 → Post (some (.int x3)) h) ∧ (¬ (xs0 = 0) → w102_140 c d Post K17 r0 x1 0 x3 h))
theorem ok102_129 (c : gx) (d : Nat) (Post : Option Value → gm_H → Prop) (K17 : Nat → Int32 → Int32 → Int32 → gm_H → Prop)  (hK17 : ∀ (r0 : Nat) (x1 : Int32) (x2 : Int32) (x3 : Int32) (h : gm_H), K17 r0 x1 x2 x3 h → gV c d 102 (17, [some (.ref r0), some (.int x1), some (.int x2), some (.int x3), none, none], [], h) Post) (r0 : Nat) (x1 : Int32) (x3 : Int32) (xs0 : Int32) (h : gm_H) (w : w102_129 c d Post K17 r0 x1 x3 xs0 h) : gV c d 102 (129, [some (.ref r0), some (.int x1), none, some (.int x3), none, none], [.int xs0], h) Post := by
  have hk : ∀ pc i, gm_find gk_102 pc = some i → gm_code (gt_T c.1 c.2.1 c.2.2.1) 102 pc = some i := fun _ _ z => z
  unfold w102_129 at w
  unfold gV
  refine gw_pst hk 2 (st' := (133, [some (.ref r0), some (.int x1), none, some (.int x3), none, some (.int xs0)], [.int xs0], h)) rfl ?_
  refine gw_br (c := xs0 = 0) (a := (136, [some (.ref r0), some (.int x1), none, some (.int x3), none, some (.int xs0)], [], h)) (b := (138, [some (.ref r0), some (.int x1), none, some (.int x3), none, some (.int xs0)], [], h)) (hk _ _ rfl) rfl ⟨fun z1 => ?_, fun z1 => ?_⟩
  · replace w := w.1 z1
    refine gw_pst hk 1 (st' := (137, [some (.ref r0), some (.int x1), none, some (.int x3), none, some (.int xs0)], [.int x3], h)) rfl ?_
    exact gw_ret (hk _ _ rfl) rfl w
  · replace w := w.2 z1
    refine gw_pst hk 2 (st' := (140, [some (.ref r0), some (.int x1), some (.int 0), some (.int x3), none, some (.int xs0)], [], h)) rfl ?_
    refine gw_le (L' := [some (.ref r0), some (.int x1), some (.int 0), some (.int x3), none, none]) (gm_le_k _ (gm_le_k _ (gm_le_k _ (gm_le_k _ (gm_le_k _ (gm_le_n _ gm_le_nil)))))) ?_
    exact ok102_140 c d Post K17 hK17 _ _ _ _ _ w
def w102_101 (c : gx) (d : Nat) (Post : Option Value → gm_H → Prop) (K17 : Nat → Int32 → Int32 → Int32 → gm_H → Prop) (r0 : Nat) (x1 : Int32) (x3 : Int32) (h : gm_H) : Prop :=
  w102_129 c d Post K17 r0 x1 x3 1 h
theorem ok102_101 (c : gx) (d : Nat) (Post : Option Value → gm_H → Prop) (K17 : Nat → Int32 → Int32 → Int32 → gm_H → Prop)  (hK17 : ∀ (r0 : Nat) (x1 : Int32) (x2 : Int32) (x3 : Int32) (h : gm_H), K17 r0 x1 x2 x3 h → gV c d 102 (17, [some (.ref r0), some (.int x1), some (.int x2), some (.int x3), none, none], [], h) Post) (r0 : Nat) (x1 : Int32) (x3 : Int32) (h : gm_H) (w : w102_101 c d Post K17 r0 x1 x3 h) : gV c d 102 (101, [some (.ref r0), some (.int x1), none, some (.int x3), none, none], [], h) Post := by
  have hk : ∀ pc i, gm_find gk_102 pc = some i → gm_code (gt_T c.1 c.2.1 c.2.2.1) 102 pc = some i := fun _ _ z => z
  unfold w102_101 at w
  unfold gV
  refine gw_pst hk 2 (st' := (129, [some (.ref r0), some (.int x1), none, some (.int x3), none, none], [.int 1], h)) rfl ?_
  exact ok102_129 c d Post K17 hK17 _ _ _ _ _ w
def w102_128 (c : gx) (d : Nat) (Post : Option Value → gm_H → Prop) (K17 : Nat → Int32 → Int32 → Int32 → gm_H → Prop) (r0 : Nat) (x1 : Int32) (x3 : Int32) (h : gm_H) : Prop :=
  w102_129 c d Post K17 r0 x1 x3 0 h
theorem ok102_128 (c : gx) (d : Nat) (Post : Option Value → gm_H → Prop) (K17 : Nat → Int32 → Int32 → Int32 → gm_H → Prop)  (hK17 : ∀ (r0 : Nat) (x1 : Int32) (x2 : Int32) (x3 : Int32) (h : gm_H), K17 r0 x1 x2 x3 h → gV c d 102 (17, [some (.ref r0), some (.int x1), some (.int x2), some (.int x3), none, none], [], h) Post) (r0 : Nat) (x1 : Int32) (x3 : Int32) (h : gm_H) (w : w102_128 c d Post K17 r0 x1 x3 h) : gV c d 102 (128, [some (.ref r0), some (.int x1), none, some (.int x3), none, none], [], h) Post := by
  have hk : ∀ pc i, gm_find gk_102 pc = some i → gm_code (gt_T c.1 c.2.1 c.2.2.1) 102 pc = some i := fun _ _ z => z
  unfold w102_128 at w
  unfold gV
  refine gw_pst hk 1 (st' := (129, [some (.ref r0), some (.int x1), none, some (.int x3), none, none], [.int 0], h)) rfl ?_
  exact ok102_129 c d Post K17 hK17 _ _ _ _ _ w
def w102_176 (c : gx) (d : Nat) (Post : Option Value → gm_H → Prop) (xs0 : Int32) (h : gm_H) : Prop :=
  Post (some (.int xs0)) h
theorem ok102_176 (c : gx) (d : Nat) (Post : Option Value → gm_H → Prop)  (xs0 : Int32) (h : gm_H) (w : w102_176 c d Post xs0 h) : gV c d 102 (176, [none, none, none, none, none, none], [.int xs0], h) Post := by
  have hk : ∀ pc i, gm_find gk_102 pc = some i → gm_code (gt_T c.1 c.2.1 c.2.2.1) 102 pc = some i := fun _ _ z => z
  unfold w102_176 at w
  unfold gV
  exact gw_ret (hk _ _ rfl) rfl w
def wb102_17 (c : gx) (d : Nat) (Post : Option Value → gm_H → Prop) (K17 : Nat → Int32 → Int32 → Int32 → gm_H → Prop) (r0 : Nat) (x1 : Int32) (x2 : Int32) (x3 : Int32) (h : gm_H) : Prop :=
  ((x1 ≤ x3 → ∃ q_2 : Nat, gm_fld h r0 9 0 = some (.ref q_2) ∧ ∃ x_3 : Int32, gm_fld h q_2 7 1 = some (.int x_3) ∧ ((x_3 ≤ 60 → ((x2 = 0 → w102_176 c d Post (-1) h) ∧ (¬ (x2 = 0) → ∃ q_6 : Nat, gm_fld h r0 9 0 = some (.ref q_6) ∧ ∃ x_7 : Int32, gm_fld h q_6 7 1 = some (.int x_7) ∧ w102_176 c d Post x_7 h))) ∧ (¬ (x_3 ≤ 60) → Post (some (.int 60)) h))) ∧ (¬ (x1 ≤ x3) → ∃ q_8 : Nat, gm_fld h r0 9 0 = some (.ref q_8) ∧ (∃ fs9, gm_get h q_8 = some (.inr (7, fs9))) ∧ gE c d 61 [.ref q_8, .int x3] h (fun v9 h_9 => ∃ x_9 : Int32, v9 = some (.int x_9) ∧ ((x2 = 0 → gE c d 100 [.int x_9] h_9 (fun v11 h_11 => ∃ x_11 : Int32, v11 = some (.int x_11) ∧ ((x_11 = 0 → ((x_9 = 104 → w102_140 c d Post K17 r0 x1 x2 x3 h_11) ∧ (¬ (x_9 = 104) → ((x_9 = 120 → w102_140 c d Post K17 r0 x1 x2 x3 h_11) ∧ (¬ (x_9 = 120) → ((x_9 = 108 → w102_140 c d Post K17 r0 x1 x2 x3 h_11) ∧ (¬ (x_9 = 108) → Post (some (.int x3)) h_11))))))) ∧ (¬ (x_11 = 0) → w102_140 c d Post K17 r0 x1 x_9 x3 h_11)))) ∧ (¬ (x2 = 0) → ((x2 = 102 → gE c d 60 [.int x_9] h_9 (fun v17 h_17 => ∃ x_17 : Int32, v17 = some (.int x_17) ∧ ((x_17 = 0 → ((x_9 = 97 → w102_101 c d Post K17 r0 x1 x3 h_17) ∧ (¬ (x_9 = 97) → ((x_9 = 98 → w102_101 c d Post K17 r0 x1 x3 h_17) ∧ (¬ (x_9 = 98) → w102_129 c d Post K17 r0 x1 x3 0 h_17))))) ∧ (¬ (x_17 = 0) → w102_101 c d Post K17 r0 x1 x3 h_17)))) ∧ (¬ (x2 = 102) → gE c d 60 [.int x_9] h_9 (fun v21 h_21 => ∃ x_21 : Int32, v21 = some (.int x_21) ∧ ((x_21 = 0 → w102_128 c d Post K17 r0 x1 x3 h_21) ∧ (¬ (x_21 = 0) → ((x_9 = 48 → w102_128 c d Post K17 r0 x1 x3 h_21) ∧ (¬ (x_9 = 48) → w102_129 c d Post K17 r0 x1 x3 1 h_21))))))))))))
theorem okb102_17 (c : gx) (d : Nat) (Post : Option Value → gm_H → Prop) (K17 : Nat → Int32 → Int32 → Int32 → gm_H → Prop)  (hK17 : ∀ (r0 : Nat) (x1 : Int32) (x2 : Int32) (x3 : Int32) (h : gm_H), K17 r0 x1 x2 x3 h → gV c d 102 (17, [some (.ref r0), some (.int x1), some (.int x2), some (.int x3), none, none], [], h) Post) (r0 : Nat) (x1 : Int32) (x2 : Int32) (x3 : Int32) (h : gm_H) (w : wb102_17 c d Post K17 r0 x1 x2 x3 h) : gV c d 102 (17, [some (.ref r0), some (.int x1), some (.int x2), some (.int x3), none, none], [], h) Post := by
  have hk : ∀ pc i, gm_find gk_102 pc = some i → gm_code (gt_T c.1 c.2.1 c.2.2.1) 102 pc = some i := fun _ _ z => z
  unfold wb102_17 at w
  unfold gV
  refine gw_pst hk 2 (st' := (19, [some (.ref r0), some (.int x1), some (.int x2), some (.int x3), none, none], [.int x1, .int x3], h)) rfl ?_
  refine gw_br (c := x1 ≤ x3) (a := (146, [some (.ref r0), some (.int x1), some (.int x2), some (.int x3), none, none], [], h)) (b := (22, [some (.ref r0), some (.int x1), some (.int x2), some (.int x3), none, none], [], h)) (hk _ _ rfl) rfl ⟨fun z1 => ?_, fun z1 => ?_⟩
  · replace w := w.1 z1
    refine gw_pst hk 1 (st' := (147, [some (.ref r0), some (.int x1), some (.int x2), some (.int x3), none, none], [.ref r0], h)) rfl ?_
    obtain ⟨q_2, e2, w⟩ := w
    refine gw_gf (hk _ _ rfl) e2 ?_
    obtain ⟨x_3, e3, w⟩ := w
    refine gw_gf (hk _ _ rfl) e3 ?_
    refine gw_pst hk 1 (st' := (155, [some (.ref r0), some (.int x1), some (.int x2), some (.int x3), none, none], [.int 60, .int x_3], h)) rfl ?_
    refine gw_br (c := x_3 ≤ 60) (a := (161, [some (.ref r0), some (.int x1), some (.int x2), some (.int x3), none, none], [], h)) (b := (158, [some (.ref r0), some (.int x1), some (.int x2), some (.int x3), none, none], [], h)) (hk _ _ rfl) rfl ⟨fun z4 => ?_, fun z4 => ?_⟩
    · replace w := w.1 z4
      refine gw_pst hk 1 (st' := (162, [some (.ref r0), some (.int x1), some (.int x2), some (.int x3), none, none], [.int x2], h)) rfl ?_
      refine gw_br (c := x2 = 0) (a := (165, [some (.ref r0), some (.int x1), some (.int x2), some (.int x3), none, none], [], h)) (b := (169, [some (.ref r0), some (.int x1), some (.int x2), some (.int x3), none, none], [], h)) (hk _ _ rfl) rfl ⟨fun z5 => ?_, fun z5 => ?_⟩
      · replace w := w.1 z5
        refine gw_pst hk 2 (st' := (176, [some (.ref r0), some (.int x1), some (.int x2), some (.int x3), none, none], [.int (-1)], h)) rfl ?_
        refine gw_le (L' := [none, none, none, none, none, none]) (gm_le_n _ (gm_le_n _ (gm_le_n _ (gm_le_n _ (gm_le_k _ (gm_le_k _ gm_le_nil)))))) ?_
        exact ok102_176 c d Post _ _ w
      · replace w := w.2 z5
        refine gw_pst hk 1 (st' := (170, [some (.ref r0), some (.int x1), some (.int x2), some (.int x3), none, none], [.ref r0], h)) rfl ?_
        obtain ⟨q_6, e6, w⟩ := w
        refine gw_gf (hk _ _ rfl) e6 ?_
        obtain ⟨x_7, e7, w⟩ := w
        refine gw_gf (hk _ _ rfl) e7 ?_
        refine gw_le (L' := [none, none, none, none, none, none]) (gm_le_n _ (gm_le_n _ (gm_le_n _ (gm_le_n _ (gm_le_k _ (gm_le_k _ gm_le_nil)))))) ?_
        exact ok102_176 c d Post _ _ w
    · replace w := w.2 z4
      refine gw_pst hk 1 (st' := (160, [some (.ref r0), some (.int x1), some (.int x2), some (.int x3), none, none], [.int 60], h)) rfl ?_
      exact gw_ret (hk _ _ rfl) rfl w
  · replace w := w.2 z1
    refine gw_pst hk 1 (st' := (23, [some (.ref r0), some (.int x1), some (.int x2), some (.int x3), none, none], [.ref r0], h)) rfl ?_
    obtain ⟨q_8, e8, w⟩ := w
    refine gw_gf (hk _ _ rfl) e8 ?_
    refine gw_pst hk 1 (st' := (27, [some (.ref r0), some (.int x1), some (.int x2), some (.int x3), none, none], [.int x3, .ref q_8], h)) rfl ?_
    obtain ⟨⟨fs9, e9⟩, w⟩ := w
    refine gw_call (jj := 61) (As := [.ref q_8, .int x3]) (rest := []) (hk _ _ rfl) (fun _ => rfl) rfl rfl (Nat.le_of_ble_eq_true rfl) (gm_rcv_v rfl e9 rfl) ?_
    refine ge_imp w (fun v9 h_9 w => ?_)
    obtain ⟨x_9, rfl, w⟩ := w
    show gV c d 102 (30, [some (.ref r0), some (.int x1), some (.int x2), some (.int x3), none, none], [.int x_9], h_9) Post
    refine gw_pst hk 2 (st' := (33, [some (.ref r0), some (.int x1), some (.int x2), some (.int x3), some (.int x_9), none], [.int x2], h_9)) rfl ?_
    refine gw_br (c := x2 = 0) (a := (36, [some (.ref r0), some (.int x1), some (.int x2), some (.int x3), some (.int x_9), none], [], h_9)) (b := (73, [some (.ref r0), some (.int x1), some (.int x2), some (.int x3), some (.int x_9), none], [], h_9)) (hk _ _ rfl) rfl ⟨fun z10 => ?_, fun z10 => ?_⟩
    · replace w := w.1 z10
      refine gw_pst hk 1 (st' := (38, [some (.ref r0), some (.int x1), some (.int x2), some (.int x3), some (.int x_9), none], [.int x_9], h_9)) rfl ?_
      refine gw_call (jj := 100) (As := [.int x_9]) (rest := []) (hk _ _ rfl) (fun _ => rfl) rfl rfl (Nat.le_of_ble_eq_true rfl) rfl ?_
      refine ge_imp w (fun v11 h_11 w => ?_)
      obtain ⟨x_11, rfl, w⟩ := w
      show gV c d 102 (41, [some (.ref r0), some (.int x1), some (.int x2), some (.int x3), some (.int x_9), none], [.int x_11], h_11) Post
      refine gw_br (c := x_11 = 0) (a := (50, [some (.ref r0), some (.int x1), some (.int x2), some (.int x3), some (.int x_9), none], [], h_11)) (b := (44, [some (.ref r0), some (.int x1), some (.int x2), some (.int x3), some (.int x_9), none], [], h_11)) (hk _ _ rfl) rfl ⟨fun z12 => ?_, fun z12 => ?_⟩
      · replace w := w.1 z12
        refine gw_pst hk 2 (st' := (54, [some (.ref r0), some (.int x1), some (.int x2), some (.int x3), some (.int x_9), none], [.int 104, .int x_9], h_11)) rfl ?_
        refine gw_br (c := x_9 = 104) (a := (140, [some (.ref r0), some (.int x1), some (.int x2), some (.int x3), some (.int x_9), none], [], h_11)) (b := (57, [some (.ref r0), some (.int x1), some (.int x2), some (.int x3), some (.int x_9), none], [], h_11)) (hk _ _ rfl) rfl ⟨fun z13 => ?_, fun z13 => ?_⟩
        · replace w := w.1 z13
          refine gw_le (L' := [some (.ref r0), some (.int x1), some (.int x2), some (.int x3), none, none]) (gm_le_k _ (gm_le_k _ (gm_le_k _ (gm_le_k _ (gm_le_n _ (gm_le_k _ gm_le_nil)))))) ?_
          exact ok102_140 c d Post K17 hK17 _ _ _ _ _ w
        · replace w := w.2 z13
          refine gw_pst hk 2 (st' := (61, [some (.ref r0), some (.int x1), some (.int x2), some (.int x3), some (.int x_9), none], [.int 120, .int x_9], h_11)) rfl ?_
          refine gw_br (c := x_9 = 120) (a := (140, [some (.ref r0), some (.int x1), some (.int x2), some (.int x3), some (.int x_9), none], [], h_11)) (b := (64, [some (.ref r0), some (.int x1), some (.int x2), some (.int x3), some (.int x_9), none], [], h_11)) (hk _ _ rfl) rfl ⟨fun z14 => ?_, fun z14 => ?_⟩
          · replace w := w.1 z14
            refine gw_le (L' := [some (.ref r0), some (.int x1), some (.int x2), some (.int x3), none, none]) (gm_le_k _ (gm_le_k _ (gm_le_k _ (gm_le_k _ (gm_le_n _ (gm_le_k _ gm_le_nil)))))) ?_
            exact ok102_140 c d Post K17 hK17 _ _ _ _ _ w
          · replace w := w.2 z14
            refine gw_pst hk 2 (st' := (68, [some (.ref r0), some (.int x1), some (.int x2), some (.int x3), some (.int x_9), none], [.int 108, .int x_9], h_11)) rfl ?_
            refine gw_br (c := x_9 = 108) (a := (140, [some (.ref r0), some (.int x1), some (.int x2), some (.int x3), some (.int x_9), none], [], h_11)) (b := (71, [some (.ref r0), some (.int x1), some (.int x2), some (.int x3), some (.int x_9), none], [], h_11)) (hk _ _ rfl) rfl ⟨fun z15 => ?_, fun z15 => ?_⟩
            · replace w := w.1 z15
              refine gw_le (L' := [some (.ref r0), some (.int x1), some (.int x2), some (.int x3), none, none]) (gm_le_k _ (gm_le_k _ (gm_le_k _ (gm_le_k _ (gm_le_n _ (gm_le_k _ gm_le_nil)))))) ?_
              exact ok102_140 c d Post K17 hK17 _ _ _ _ _ w
            · replace w := w.2 z15
              refine gw_pst hk 1 (st' := (72, [some (.ref r0), some (.int x1), some (.int x2), some (.int x3), some (.int x_9), none], [.int x3], h_11)) rfl ?_
              exact gw_ret (hk _ _ rfl) rfl w
      · replace w := w.2 z12
        refine gw_pst hk 3 (st' := (140, [some (.ref r0), some (.int x1), some (.int x_9), some (.int x3), some (.int x_9), none], [], h_11)) rfl ?_
        refine gw_le (L' := [some (.ref r0), some (.int x1), some (.int x_9), some (.int x3), none, none]) (gm_le_k _ (gm_le_k _ (gm_le_k _ (gm_le_k _ (gm_le_n _ (gm_le_k _ gm_le_nil)))))) ?_
        exact ok102_140 c d Post K17 hK17 _ _ _ _ _ w
    · replace w := w.2 z10
      refine gw_pst hk 2 (st' := (76, [some (.ref r0), some (.int x1), some (.int x2), some (.int x3), some (.int x_9), none], [.int 102, .int x2], h_9)) rfl ?_
      refine gw_br (c := x2 = 102) (a := (79, [some (.ref r0), some (.int x1), some (.int x2), some (.int x3), some (.int x_9), none], [], h_9)) (b := (109, [some (.ref r0), some (.int x1), some (.int x2), some (.int x3), some (.int x_9), none], [], h_9)) (hk _ _ rfl) rfl ⟨fun z16 => ?_, fun z16 => ?_⟩
      · replace w := w.1 z16
        refine gw_pst hk 1 (st' := (81, [some (.ref r0), some (.int x1), some (.int x2), some (.int x3), some (.int x_9), none], [.int x_9], h_9)) rfl ?_
        refine gw_call (jj := 60) (As := [.int x_9]) (rest := []) (hk _ _ rfl) (fun _ => rfl) rfl rfl (Nat.le_of_ble_eq_true rfl) rfl ?_
        refine ge_imp w (fun v17 h_17 w => ?_)
        obtain ⟨x_17, rfl, w⟩ := w
        show gV c d 102 (84, [some (.ref r0), some (.int x1), some (.int x2), some (.int x3), some (.int x_9), none], [.int x_17], h_17) Post
        refine gw_br (c := x_17 = 0) (a := (87, [some (.ref r0), some (.int x1), some (.int x2), some (.int x3), some (.int x_9), none], [], h_17)) (b := (101, [some (.ref r0), some (.int x1), some (.int x2), some (.int x3), some (.int x_9), none], [], h_17)) (hk _ _ rfl) rfl ⟨fun z18 => ?_, fun z18 => ?_⟩
        · replace w := w.1 z18
          refine gw_pst hk 2 (st' := (91, [some (.ref r0), some (.int x1), some (.int x2), some (.int x3), some (.int x_9), none], [.int 97, .int x_9], h_17)) rfl ?_
          refine gw_br (c := x_9 = 97) (a := (101, [some (.ref r0), some (.int x1), some (.int x2), some (.int x3), some (.int x_9), none], [], h_17)) (b := (94, [some (.ref r0), some (.int x1), some (.int x2), some (.int x3), some (.int x_9), none], [], h_17)) (hk _ _ rfl) rfl ⟨fun z19 => ?_, fun z19 => ?_⟩
          · replace w := w.1 z19
            refine gw_le (L' := [some (.ref r0), some (.int x1), none, some (.int x3), none, none]) (gm_le_k _ (gm_le_k _ (gm_le_n _ (gm_le_k _ (gm_le_n _ (gm_le_k _ gm_le_nil)))))) ?_
            exact ok102_101 c d Post K17 hK17 _ _ _ _ w
          · replace w := w.2 z19
            refine gw_pst hk 2 (st' := (98, [some (.ref r0), some (.int x1), some (.int x2), some (.int x3), some (.int x_9), none], [.int 98, .int x_9], h_17)) rfl ?_
            refine gw_br (c := x_9 = 98) (a := (101, [some (.ref r0), some (.int x1), some (.int x2), some (.int x3), some (.int x_9), none], [], h_17)) (b := (105, [some (.ref r0), some (.int x1), some (.int x2), some (.int x3), some (.int x_9), none], [], h_17)) (hk _ _ rfl) rfl ⟨fun z20 => ?_, fun z20 => ?_⟩
            · replace w := w.1 z20
              refine gw_le (L' := [some (.ref r0), some (.int x1), none, some (.int x3), none, none]) (gm_le_k _ (gm_le_k _ (gm_le_n _ (gm_le_k _ (gm_le_n _ (gm_le_k _ gm_le_nil)))))) ?_
              exact ok102_101 c d Post K17 hK17 _ _ _ _ w
            · replace w := w.2 z20
              refine gw_pst hk 2 (st' := (129, [some (.ref r0), some (.int x1), some (.int x2), some (.int x3), some (.int x_9), none], [.int 0], h_17)) rfl ?_
              refine gw_le (L' := [some (.ref r0), some (.int x1), none, some (.int x3), none, none]) (gm_le_k _ (gm_le_k _ (gm_le_n _ (gm_le_k _ (gm_le_n _ (gm_le_k _ gm_le_nil)))))) ?_
              exact ok102_129 c d Post K17 hK17 _ _ _ _ _ w
        · replace w := w.2 z18
          refine gw_le (L' := [some (.ref r0), some (.int x1), none, some (.int x3), none, none]) (gm_le_k _ (gm_le_k _ (gm_le_n _ (gm_le_k _ (gm_le_n _ (gm_le_k _ gm_le_nil)))))) ?_
          exact ok102_101 c d Post K17 hK17 _ _ _ _ w
      · replace w := w.2 z16
        refine gw_pst hk 1 (st' := (111, [some (.ref r0), some (.int x1), some (.int x2), some (.int x3), some (.int x_9), none], [.int x_9], h_9)) rfl ?_
        refine gw_call (jj := 60) (As := [.int x_9]) (rest := []) (hk _ _ rfl) (fun _ => rfl) rfl rfl (Nat.le_of_ble_eq_true rfl) rfl ?_
        refine ge_imp w (fun v21 h_21 w => ?_)
        obtain ⟨x_21, rfl, w⟩ := w
        show gV c d 102 (114, [some (.ref r0), some (.int x1), some (.int x2), some (.int x3), some (.int x_9), none], [.int x_21], h_21) Post
        refine gw_br (c := x_21 = 0) (a := (128, [some (.ref r0), some (.int x1), some (.int x2), some (.int x3), some (.int x_9), none], [], h_21)) (b := (117, [some (.ref r0), some (.int x1), some (.int x2), some (.int x3), some (.int x_9), none], [], h_21)) (hk _ _ rfl) rfl ⟨fun z22 => ?_, fun z22 => ?_⟩
        · replace w := w.1 z22
          refine gw_le (L' := [some (.ref r0), some (.int x1), none, some (.int x3), none, none]) (gm_le_k _ (gm_le_k _ (gm_le_n _ (gm_le_k _ (gm_le_n _ (gm_le_k _ gm_le_nil)))))) ?_
          exact ok102_128 c d Post K17 hK17 _ _ _ _ w
        · replace w := w.2 z22
          refine gw_pst hk 2 (st' := (121, [some (.ref r0), some (.int x1), some (.int x2), some (.int x3), some (.int x_9), none], [.int 48, .int x_9], h_21)) rfl ?_
          refine gw_br (c := x_9 = 48) (a := (128, [some (.ref r0), some (.int x1), some (.int x2), some (.int x3), some (.int x_9), none], [], h_21)) (b := (124, [some (.ref r0), some (.int x1), some (.int x2), some (.int x3), some (.int x_9), none], [], h_21)) (hk _ _ rfl) rfl ⟨fun z23 => ?_, fun z23 => ?_⟩
          · replace w := w.1 z23
            refine gw_le (L' := [some (.ref r0), some (.int x1), none, some (.int x3), none, none]) (gm_le_k _ (gm_le_k _ (gm_le_n _ (gm_le_k _ (gm_le_n _ (gm_le_k _ gm_le_nil)))))) ?_
            exact ok102_128 c d Post K17 hK17 _ _ _ _ w
          · replace w := w.2 z23
            refine gw_pst hk 2 (st' := (129, [some (.ref r0), some (.int x1), some (.int x2), some (.int x3), some (.int x_9), none], [.int 1], h_21)) rfl ?_
            refine gw_le (L' := [some (.ref r0), some (.int x1), none, some (.int x3), none, none]) (gm_le_k _ (gm_le_k _ (gm_le_n _ (gm_le_k _ (gm_le_n _ (gm_le_k _ gm_le_nil)))))) ?_
            exact ok102_129 c d Post K17 hK17 _ _ _ _ _ w
def wl102_17 (c : gx) (d : Nat) (Post : Option Value → gm_H → Prop) : Nat → Nat → Int32 → Int32 → Int32 → gm_H → Prop
  | 0 => fun _ _ _ _ _ => False
  | n + 1 => wb102_17 c d Post (wl102_17 c d Post n)
theorem okl102_17 (c : gx) (d : Nat) (Post : Option Value → gm_H → Prop) : ∀ (n : Nat) (r0 : Nat) (x1 : Int32) (x2 : Int32) (x3 : Int32) (h : gm_H), wl102_17 c d Post n r0 x1 x2 x3 h → gV c d 102 (17, [some (.ref r0), some (.int x1), some (.int x2), some (.int x3), none, none], [], h) Post
  | 0, _, _, _, _, _, w => w.elim
  | n + 1, r0, x1, x2, x3, h, w => okb102_17 c d Post (wl102_17 c d Post n) (okl102_17 c d Post n) r0 x1 x2 x3 h w
/-- CommandByTurns.warMisreadAt()I -/
def wm102 (c : gx) (d : Nat) (Post : Option Value → gm_H → Prop) (r0 : Nat) (h : gm_H) : Prop :=
  ∃ q_1 : Nat, gm_fld h r0 9 0 = some (.ref q_1) ∧ ∃ x_2 : Int32, gm_fld h q_1 7 1 = some (.int x_2) ∧ ∃ n, wl102_17 c d Post n r0 (if 60 < x_2 then 60 else x_2) 0 0 h
theorem okm102 (c : gx) (d : Nat) (Post : Option Value → gm_H → Prop) (r0 : Nat) (h : gm_H) (w : wm102 c d Post r0 h) : gE c (d + 1) 102 [.ref r0] h Post := by
  have hk : ∀ pc i, gm_find gk_102 pc = some i → gm_code (gt_T c.1 c.2.1 c.2.2.1) 102 pc = some i := fun _ _ z => z
  unfold wm102 at w
  refine ge_of (by decide) (Nat.le_of_ble_eq_true rfl) ?_
  show gV c d 102 (0, [some (.ref r0), none, none, none, none, none], [], h) Post
  unfold gV
  refine gw_pst hk 1 (st' := (1, [some (.ref r0), none, none, none, none, none], [.ref r0], h)) rfl ?_
  obtain ⟨q_1, e1, w⟩ := w
  refine gw_gf (hk _ _ rfl) e1 ?_
  obtain ⟨x_2, e2, w⟩ := w
  refine gw_gf (hk _ _ rfl) e2 ?_
  refine gw_pst hk 7 (st' := (17, [some (.ref r0), some (.int (if 60 < x_2 then 60 else x_2)), some (.int 0), some (.int 0), none, none], [], h)) rfl ?_
  obtain ⟨n, w⟩ := w
  exact okl102_17 c d Post n _ _ _ _ _ w
def w103_18 (c : gx) (d : Nat) (Post : Option Value → gm_H → Prop)  (h : gm_H) : Prop :=
  Post (some (.int (-1))) h
theorem ok103_18 (c : gx) (d : Nat) (Post : Option Value → gm_H → Prop)   (h : gm_H) (w : w103_18 c d Post  h) : gV c d 103 (18, [none, none, none, none, none, none, none], [], h) Post := by
  have hk : ∀ pc i, gm_find gk_103 pc = some i → gm_code (gt_T c.1 c.2.1 c.2.2.1) 103 pc = some i := fun _ _ z => z
  unfold w103_18 at w
  unfold gV
  refine gw_pst hk 1 (st' := (19, [none, none, none, none, none, none, none], [.int (-1)], h)) rfl ?_
  exact gw_ret (hk _ _ rfl) rfl w
def w103_78 (c : gx) (d : Nat) (Post : Option Value → gm_H → Prop) (K28 : Nat → Int32 → Int32 → Int32 → Int32 → Int32 → gm_H → Prop) (r0 : Nat) (x1 : Int32) (x2 : Int32) (x3 : Int32) (x4 : Int32) (x5 : Int32) (h : gm_H) : Prop :=
  K28 r0 x1 x2 x3 x4 (x5 + 1) h
theorem ok103_78 (c : gx) (d : Nat) (Post : Option Value → gm_H → Prop) (K28 : Nat → Int32 → Int32 → Int32 → Int32 → Int32 → gm_H → Prop)  (hK28 : ∀ (r0 : Nat) (x1 : Int32) (x2 : Int32) (x3 : Int32) (x4 : Int32) (x5 : Int32) (h : gm_H), K28 r0 x1 x2 x3 x4 x5 h → gV c d 103 (28, [some (.ref r0), some (.int x1), some (.int x2), some (.int x3), some (.int x4), some (.int x5), none], [], h) Post) (r0 : Nat) (x1 : Int32) (x2 : Int32) (x3 : Int32) (x4 : Int32) (x5 : Int32) (h : gm_H) (w : w103_78 c d Post K28 r0 x1 x2 x3 x4 x5 h) : gV c d 103 (78, [some (.ref r0), some (.int x1), some (.int x2), some (.int x3), some (.int x4), some (.int x5), none], [], h) Post := by
  have hk : ∀ pc i, gm_find gk_103 pc = some i → gm_code (gt_T c.1 c.2.1 c.2.2.1) 103 pc = some i := fun _ _ z => z
  unfold w103_78 at w
  unfold gV
  refine gw_pst hk 2 (st' := (28, [some (.ref r0), some (.int x1), some (.int x2), some (.int x3), some (.int x4), some (.int (x5 + 1)), none], [], h)) rfl ?_
  exact hK28 _ _ _ _ _ _ _ w
def wb103_28 (c : gx) (d : Nat) (Post : Option Value → gm_H → Prop) (K28 : Nat → Int32 → Int32 → Int32 → Int32 → Int32 → gm_H → Prop) (r0 : Nat) (x1 : Int32) (x2 : Int32) (x3 : Int32) (x4 : Int32) (x5 : Int32) (h : gm_H) : Prop :=
  ((x2 ≤ x5 → ∃ q_2 : Nat, gm_fld h r0 9 11 = some (.ref q_2) ∧ gE c d 266 [.int x3] h (fun v3 h_3 => ∃ x_3 : Int32, v3 = some (.int x_3) ∧ (∃ fs4, gm_get h_3 q_2 = some (.inr (5, fs4))) ∧ gE c d 46 [.ref q_2, .long ((x_3 : Int32).toInt64), .long ((x4 : Int32).toInt64)] h_3 (fun v4 h_4 => v4 = none ∧ Post (some (.int x3)) h_4))) ∧ (¬ (x2 ≤ x5) → ∃ q_5 : Nat, gm_fld h r0 9 5 = some (.ref q_5) ∧ ∃ q_6 : Nat, gm_fld h r0 9 5 = some (.ref q_6) ∧ ∃ x_7 : Int32, gm_fld h q_6 6 0 = some (.int x_7) ∧ (∃ fs8, gm_get h q_5 = some (.inr (6, fs8))) ∧ gE c d 51 [.ref q_5, .int (x_7 + x5)] h (fun v8 h_8 => ∃ x_8 : Int32, v8 = some (.int x_8) ∧ ((x_8 = x1 → w103_78 c d Post K28 r0 x1 x2 (x3 ||| (1 <<< (x5 &&& 31))) x4 x5 h_8) ∧ (¬ (x_8 = x1) → ((x_8 = (-1) → w103_78 c d Post K28 r0 x1 x2 x3 (x4 + 1) x5 h_8) ∧ (¬ (x_8 = (-1)) → w103_78 c d Post K28 r0 x1 x2 x3 x4 x5 h_8)))))))
theorem okb103_28 (c : gx) (d : Nat) (Post : Option Value → gm_H → Prop) (K28 : Nat → Int32 → Int32 → Int32 → Int32 → Int32 → gm_H → Prop)  (hK28 : ∀ (r0 : Nat) (x1 : Int32) (x2 : Int32) (x3 : Int32) (x4 : Int32) (x5 : Int32) (h : gm_H), K28 r0 x1 x2 x3 x4 x5 h → gV c d 103 (28, [some (.ref r0), some (.int x1), some (.int x2), some (.int x3), some (.int x4), some (.int x5), none], [], h) Post) (r0 : Nat) (x1 : Int32) (x2 : Int32) (x3 : Int32) (x4 : Int32) (x5 : Int32) (h : gm_H) (w : wb103_28 c d Post K28 r0 x1 x2 x3 x4 x5 h) : gV c d 103 (28, [some (.ref r0), some (.int x1), some (.int x2), some (.int x3), some (.int x4), some (.int x5), none], [], h) Post := by
  have hk : ∀ pc i, gm_find gk_103 pc = some i → gm_code (gt_T c.1 c.2.1 c.2.2.1) 103 pc = some i := fun _ _ z => z
  unfold wb103_28 at w
  unfold gV
  refine gw_pst hk 2 (st' := (31, [some (.ref r0), some (.int x1), some (.int x2), some (.int x3), some (.int x4), some (.int x5), none], [.int x2, .int x5], h)) rfl ?_
  refine gw_br (c := x2 ≤ x5) (a := (84, [some (.ref r0), some (.int x1), some (.int x2), some (.int x3), some (.int x4), some (.int x5), none], [], h)) (b := (34, [some (.ref r0), some (.int x1), some (.int x2), some (.int x3), some (.int x4), some (.int x5), none], [], h)) (hk _ _ rfl) rfl ⟨fun z1 => ?_, fun z1 => ?_⟩
  · replace w := w.1 z1
    refine gw_pst hk 1 (st' := (85, [some (.ref r0), some (.int x1), some (.int x2), some (.int x3), some (.int x4), some (.int x5), none], [.ref r0], h)) rfl ?_
    obtain ⟨q_2, e2, w⟩ := w
    refine gw_gf (hk _ _ rfl) e2 ?_
    refine gw_pst hk 1 (st' := (89, [some (.ref r0), some (.int x1), some (.int x2), some (.int x3), some (.int x4), some (.int x5), none], [.int x3, .ref q_2], h)) rfl ?_
    refine gw_call (jj := 266) (As := [.int x3]) (rest := [.ref q_2]) (hk _ _ rfl) (fun _ => rfl) rfl rfl (Nat.le_of_ble_eq_true rfl) rfl ?_
    refine ge_imp w (fun v3 h_3 w => ?_)
    obtain ⟨x_3, rfl, w⟩ := w
    show gV c d 103 (92, [some (.ref r0), some (.int x1), some (.int x2), some (.int x3), some (.int x4), some (.int x5), none], [.int x_3, .ref q_2], h_3) Post
    refine gw_pst hk 3 (st' := (96, [some (.ref r0), some (.int x1), some (.int x2), some (.int x3), some (.int x4), some (.int x5), none], [.long ((x4 : Int32).toInt64), .long ((x_3 : Int32).toInt64), .ref q_2], h_3)) rfl ?_
    obtain ⟨⟨fs4, e4⟩, w⟩ := w
    refine gw_call (jj := 46) (As := [.ref q_2, .long ((x_3 : Int32).toInt64), .long ((x4 : Int32).toInt64)]) (rest := []) (hk _ _ rfl) (fun _ => rfl) rfl rfl (Nat.le_of_ble_eq_true rfl) (gm_rcv_v rfl e4 rfl) ?_
    refine ge_imp w (fun v4 h_4 w => ?_)
    obtain ⟨rfl, w⟩ := w
    show gV c d 103 (99, [some (.ref r0), some (.int x1), some (.int x2), some (.int x3), some (.int x4), some (.int x5), none], [], h_4) Post
    refine gw_pst hk 1 (st' := (100, [some (.ref r0), some (.int x1), some (.int x2), some (.int x3), some (.int x4), some (.int x5), none], [.int x3], h_4)) rfl ?_
    exact gw_ret (hk _ _ rfl) rfl w
  · replace w := w.2 z1
    refine gw_pst hk 1 (st' := (35, [some (.ref r0), some (.int x1), some (.int x2), some (.int x3), some (.int x4), some (.int x5), none], [.ref r0], h)) rfl ?_
    obtain ⟨q_5, e5, w⟩ := w
    refine gw_gf (hk _ _ rfl) e5 ?_
    refine gw_pst hk 1 (st' := (39, [some (.ref r0), some (.int x1), some (.int x2), some (.int x3), some (.int x4), some (.int x5), none], [.ref r0, .ref q_5], h)) rfl ?_
    obtain ⟨q_6, e6, w⟩ := w
    refine gw_gf (hk _ _ rfl) e6 ?_
    obtain ⟨x_7, e7, w⟩ := w
    refine gw_gf (hk _ _ rfl) e7 ?_
    refine gw_pst hk 2 (st' := (48, [some (.ref r0), some (.int x1), some (.int x2), some (.int x3), some (.int x4), some (.int x5), none], [.int (x_7 + x5), .ref q_5], h)) rfl ?_
    obtain ⟨⟨fs8, e8⟩, w⟩ := w
    refine gw_call (jj := 51) (As := [.ref q_5, .int (x_7 + x5)]) (rest := []) (hk _ _ rfl) (fun _ => rfl) rfl rfl (Nat.le_of_ble_eq_true rfl) (gm_rcv_v rfl e8 rfl) ?_
    refine ge_imp w (fun v8 h_8 w => ?_)
    obtain ⟨x_8, rfl, w⟩ := w
    show gV c d 103 (51, [some (.ref r0), some (.int x1), some (.int x2), some (.int x3), some (.int x4), some (.int x5), none], [.int x_8], h_8) Post
    refine gw_pst hk 3 (st' := (56, [some (.ref r0), some (.int x1), some (.int x2), some (.int x3), some (.int x4), some (.int x5), some (.int x_8)], [.int x1, .int x_8], h_8)) rfl ?_
    refine gw_br (c := x_8 = x1) (a := (59, [some (.ref r0), some (.int x1), some (.int x2), some (.int x3), some (.int x4), some (.int x5), some (.int x_8)], [], h_8)) (b := (69, [some (.ref r0), some (.int x1), some (.int x2), some (.int x3), some (.int x4), some (.int x5), some (.int x_8)], [], h_8)) (hk _ _ rfl) rfl ⟨fun z9 => ?_, fun z9 => ?_⟩
    · replace w := w.1 z9
      refine gw_pst hk 7 (st' := (78, [some (.ref r0), some (.int x1), some (.int x2), some (.int (x3 ||| (1 <<< (x5 &&& 31)))), some (.int x4), some (.int x5), some (.int x_8)], [], h_8)) rfl ?_
      refine gw_le (L' := [some (.ref r0), some (.int x1), some (.int x2), some (.int (x3 ||| (1 <<< (x5 &&& 31)))), some (.int x4), some (.int x5), none]) (gm_le_k _ (gm_le_k _ (gm_le_k _ (gm_le_k _ (gm_le_k _ (gm_le_k _ (gm_le_n _ gm_le_nil))))))) ?_
      exact ok103_78 c d Post K28 hK28 _ _ _ _ _ _ _ w
    · replace w := w.2 z9
      refine gw_pst hk 2 (st' := (72, [some (.ref r0), some (.int x1), some (.int x2), some (.int x3), some (.int x4), some (.int x5), some (.int x_8)], [.int (-1), .int x_8], h_8)) rfl ?_
      refine gw_br (c := x_8 = (-1)) (a := (75, [some (.ref r0), some (.int x1), some (.int x2), some (.int x3), some (.int x4), some (.int x5), some (.int x_8)], [], h_8)) (b := (78, [some (.ref r0), some (.int x1), some (.int x2), some (.int x3), some (.int x4), some (.int x5), some (.int x_8)], [], h_8)) (hk _ _ rfl) rfl ⟨fun z10 => ?_, fun z10 => ?_⟩
      · replace w := w.1 z10
        refine gw_pst hk 1 (st' := (78, [some (.ref r0), some (.int x1), some (.int x2), some (.int x3), some (.int (x4 + 1)), some (.int x5), some (.int x_8)], [], h_8)) rfl ?_
        refine gw_le (L' := [some (.ref r0), some (.int x1), some (.int x2), some (.int x3), some (.int (x4 + 1)), some (.int x5), none]) (gm_le_k _ (gm_le_k _ (gm_le_k _ (gm_le_k _ (gm_le_k _ (gm_le_k _ (gm_le_n _ gm_le_nil))))))) ?_
        exact ok103_78 c d Post K28 hK28 _ _ _ _ _ _ _ w
      · replace w := w.2 z10
        refine gw_le (L' := [some (.ref r0), some (.int x1), some (.int x2), some (.int x3), some (.int x4), some (.int x5), none]) (gm_le_k _ (gm_le_k _ (gm_le_k _ (gm_le_k _ (gm_le_k _ (gm_le_k _ (gm_le_n _ gm_le_nil))))))) ?_
        exact ok103_78 c d Post K28 hK28 _ _ _ _ _ _ _ w
def wl103_28 (c : gx) (d : Nat) (Post : Option Value → gm_H → Prop) : Nat → Nat → Int32 → Int32 → Int32 → Int32 → Int32 → gm_H → Prop
  | 0 => fun _ _ _ _ _ _ _ => False
  | n + 1 => wb103_28 c d Post (wl103_28 c d Post n)
theorem okl103_28 (c : gx) (d : Nat) (Post : Option Value → gm_H → Prop) : ∀ (n : Nat) (r0 : Nat) (x1 : Int32) (x2 : Int32) (x3 : Int32) (x4 : Int32) (x5 : Int32) (h : gm_H), wl103_28 c d Post n r0 x1 x2 x3 x4 x5 h → gV c d 103 (28, [some (.ref r0), some (.int x1), some (.int x2), some (.int x3), some (.int x4), some (.int x5), none], [], h) Post
  | 0, _, _, _, _, _, _, _, w => w.elim
  | n + 1, r0, x1, x2, x3, x4, x5, h, w => okb103_28 c d Post (wl103_28 c d Post n) (okl103_28 c d Post n) r0 x1 x2 x3 x4 x5 h w
/-- CommandByTurns.comes(II)I -/
def wm103 (c : gx) (d : Nat) (Post : Option Value → gm_H → Prop) (r0 : Nat) (x1 : Int32) (x2 : Int32) (h : gm_H) : Prop :=
  gE c d 147 [.int x1] h (fun v1 h_1 => ∃ x_1 : Int32, v1 = some (.int x_1) ∧ ((x_1 = 0 → w103_18 c d Post h_1) ∧ (¬ (x_1 = 0) → ((x2 < 1 → w103_18 c d Post h_1) ∧ (¬ (x2 < 1) → ((x2 ≤ 30 → ∃ n, wl103_28 c d Post n r0 x1 x2 0 0 0 h_1) ∧ (¬ (x2 ≤ 30) → w103_18 c d Post h_1)))))))
theorem okm103 (c : gx) (d : Nat) (Post : Option Value → gm_H → Prop) (r0 : Nat) (x1 : Int32) (x2 : Int32) (h : gm_H) (w : wm103 c d Post r0 x1 x2 h) : gE c (d + 1) 103 [.ref r0, .int x1, .int x2] h Post := by
  have hk : ∀ pc i, gm_find gk_103 pc = some i → gm_code (gt_T c.1 c.2.1 c.2.2.1) 103 pc = some i := fun _ _ z => z
  unfold wm103 at w
  refine ge_of (by decide) (Nat.le_of_ble_eq_true rfl) ?_
  show gV c d 103 (0, [some (.ref r0), some (.int x1), some (.int x2), none, none, none, none], [], h) Post
  unfold gV
  refine gw_pst hk 1 (st' := (1, [some (.ref r0), some (.int x1), some (.int x2), none, none, none, none], [.int x1], h)) rfl ?_
  refine gw_call (jj := 147) (As := [.int x1]) (rest := []) (hk _ _ rfl) (fun _ => rfl) rfl rfl (Nat.le_of_ble_eq_true rfl) rfl ?_
  refine ge_imp w (fun v1 h_1 w => ?_)
  obtain ⟨x_1, rfl, w⟩ := w
  show gV c d 103 (4, [some (.ref r0), some (.int x1), some (.int x2), none, none, none, none], [.int x_1], h_1) Post
  refine gw_br (c := x_1 = 0) (a := (18, [some (.ref r0), some (.int x1), some (.int x2), none, none, none, none], [], h_1)) (b := (7, [some (.ref r0), some (.int x1), some (.int x2), none, none, none, none], [], h_1)) (hk _ _ rfl) rfl ⟨fun z2 => ?_, fun z2 => ?_⟩
  · replace w := w.1 z2
    refine gw_le (L' := [none, none, none, none, none, none, none]) (gm_le_n _ (gm_le_n _ (gm_le_n _ (gm_le_k _ (gm_le_k _ (gm_le_k _ (gm_le_k _ gm_le_nil))))))) ?_
    exact ok103_18 c d Post _ w
  · replace w := w.2 z2
    refine gw_pst hk 2 (st' := (9, [some (.ref r0), some (.int x1), some (.int x2), none, none, none, none], [.int 1, .int x2], h_1)) rfl ?_
    refine gw_br (c := x2 < 1) (a := (18, [some (.ref r0), some (.int x1), some (.int x2), none, none, none, none], [], h_1)) (b := (12, [some (.ref r0), some (.int x1), some (.int x2), none, none, none, none], [], h_1)) (hk _ _ rfl) rfl ⟨fun z3 => ?_, fun z3 => ?_⟩
    · replace w := w.1 z3
      refine gw_le (L' := [none, none, none, none, none, none, none]) (gm_le_n _ (gm_le_n _ (gm_le_n _ (gm_le_k _ (gm_le_k _ (gm_le_k _ (gm_le_k _ gm_le_nil))))))) ?_
      exact ok103_18 c d Post _ w
    · replace w := w.2 z3
      refine gw_pst hk 2 (st' := (15, [some (.ref r0), some (.int x1), some (.int x2), none, none, none, none], [.int 30, .int x2], h_1)) rfl ?_
      refine gw_br (c := x2 ≤ 30) (a := (20, [some (.ref r0), some (.int x1), some (.int x2), none, none, none, none], [], h_1)) (b := (18, [some (.ref r0), some (.int x1), some (.int x2), none, none, none, none], [], h_1)) (hk _ _ rfl) rfl ⟨fun z4 => ?_, fun z4 => ?_⟩
      · replace w := w.1 z4
        refine gw_pst hk 6 (st' := (28, [some (.ref r0), some (.int x1), some (.int x2), some (.int 0), some (.int 0), some (.int 0), none], [], h_1)) rfl ?_
        obtain ⟨n, w⟩ := w
        exact okl103_28 c d Post n _ _ _ _ _ _ _ w
      · replace w := w.2 z4
        refine gw_le (L' := [none, none, none, none, none, none, none]) (gm_le_n _ (gm_le_n _ (gm_le_n _ (gm_le_k _ (gm_le_k _ (gm_le_k _ (gm_le_k _ gm_le_nil))))))) ?_
        exact ok103_18 c d Post _ w
def w104_21 (c : gx) (d : Nat) (Post : Option Value → gm_H → Prop)  (h : gm_H) : Prop :=
  Post (some (.int (-1))) h
theorem ok104_21 (c : gx) (d : Nat) (Post : Option Value → gm_H → Prop)   (h : gm_H) (w : w104_21 c d Post  h) : gV c d 104 (21, [none, none, none, none, none], [], h) Post := by
  have hk : ∀ pc i, gm_find gk_104 pc = some i → gm_code (gt_T c.1 c.2.1 c.2.2.1) 104 pc = some i := fun _ _ z => z
  unfold w104_21 at w
  unfold gV
  refine gw_pst hk 1 (st' := (22, [none, none, none, none, none], [.int (-1)], h)) rfl ?_
  exact gw_ret (hk _ _ rfl) rfl w
/-- CommandByTurns.issue(II)I -/
def wm104 (c : gx) (d : Nat) (Post : Option Value → gm_H → Prop) (r0 : Nat) (x1 : Int32) (x2 : Int32) (h : gm_H) : Prop :=
  ∃ q_1 : Nat, gm_fld h r0 9 1 = some (.ref q_1) ∧ (∃ fs2, gm_get h q_1 = some (.inr (1, fs2))) ∧ gE c d 14 [.ref q_1, .int x1] h (fun v2 h_2 => ∃ x_2 : Int32, v2 = some (.int x_2) ∧ ((x_2 = 0 → w104_21 c d Post h_2) ∧ (¬ (x_2 = 0) → ((x2 < 0 → w104_21 c d Post h_2) ∧ (¬ (x2 < 0) → ((x2 ≤ 30 → ∃ q_6 : Nat, gm_fld h_2 r0 9 5 = some (.ref q_6) ∧ ∃ x_7 : Int32, gm_fld h_2 q_6 6 0 = some (.int x_7) ∧ ∃ q_8 : Nat, gm_fld h_2 r0 9 5 = some (.ref q_8) ∧ (∃ fs9, gm_get h_2 q_8 = some (.inr (6, fs9))) ∧ gE c d 51 [.ref q_8, .int (x_7 + x2)] h_2 (fun v9 h_9 => ∃ x_9 : Int32, v9 = some (.int x_9) ∧ ((x_9 = (-1) → Post (some (.int (-2))) h_9) ∧ (¬ (x_9 = (-1)) → ∃ q_11 : Nat, gm_fld h_9 r0 9 5 = some (.ref q_11) ∧ ∃ x_12 : Int32, gm_fld h_9 q_11 6 2 = some (.int x_12) ∧ gE c d 16 [.int x1, .int x_12] h_9 (fun v13 h_13 => ∃ x_13 : Int32, v13 = some (.int x_13) ∧ ((x_13 = 0 → Post (some (.int (-3))) h_13) ∧ (¬ (x_13 = 0) → ∃ q_15 : Nat, gm_fld h_13 r0 9 11 = some (.ref q_15) ∧ (∃ fs16, gm_get h_13 q_15 = some (.inr (5, fs16))) ∧ gE c d 45 [.ref q_15, .long ((x_9 : Int32).toInt64)] h_13 (fun v16 h_16 => v16 = none ∧ ∃ q_17 : Nat, gm_fld h_16 r0 9 5 = some (.ref q_17) ∧ (∃ fs18, gm_get h_16 r0 = some (.inr (9, fs18))) ∧ gE c d 150 [.ref r0, .ref q_17, .int x1, .int x_9, .int (x_7 + x2)] h_16 (fun v18 h_18 => ∃ x_18 : Int32, v18 = some (.int x_18) ∧ Post (some (.int (501 + x_18))) h_18))))))))) ∧ (¬ (x2 ≤ 30) → w104_21 c d Post h_2)))))))
theorem okm104 (c : gx) (d : Nat) (Post : Option Value → gm_H → Prop) (r0 : Nat) (x1 : Int32) (x2 : Int32) (h : gm_H) (w : wm104 c d Post r0 x1 x2 h) : gE c (d + 1) 104 [.ref r0, .int x1, .int x2] h Post := by
  have hk : ∀ pc i, gm_find gk_104 pc = some i → gm_code (gt_T c.1 c.2.1 c.2.2.1) 104 pc = some i := fun _ _ z => z
  unfold wm104 at w
  refine ge_of (by decide) (Nat.le_of_ble_eq_true rfl) ?_
  show gV c d 104 (0, [some (.ref r0), some (.int x1), some (.int x2), none, none], [], h) Post
  unfold gV
  refine gw_pst hk 1 (st' := (1, [some (.ref r0), some (.int x1), some (.int x2), none, none], [.ref r0], h)) rfl ?_
  obtain ⟨q_1, e1, w⟩ := w
  refine gw_gf (hk _ _ rfl) e1 ?_
  refine gw_pst hk 1 (st' := (5, [some (.ref r0), some (.int x1), some (.int x2), none, none], [.int x1, .ref q_1], h)) rfl ?_
  obtain ⟨⟨fs2, e2⟩, w⟩ := w
  refine gw_call (jj := 14) (As := [.ref q_1, .int x1]) (rest := []) (hk _ _ rfl) (fun _ => rfl) rfl rfl (Nat.le_of_ble_eq_true rfl) (gm_rcv_v rfl e2 rfl) ?_
  refine ge_imp w (fun v2 h_2 w => ?_)
  obtain ⟨x_2, rfl, w⟩ := w
  show gV c d 104 (8, [some (.ref r0), some (.int x1), some (.int x2), none, none], [.int x_2], h_2) Post
  refine gw_br (c := x_2 = 0) (a := (21, [some (.ref r0), some (.int x1), some (.int x2), none, none], [], h_2)) (b := (11, [some (.ref r0), some (.int x1), some (.int x2), none, none], [], h_2)) (hk _ _ rfl) rfl ⟨fun z3 => ?_, fun z3 => ?_⟩
  · replace w := w.1 z3
    refine gw_le (L' := [none, none, none, none, none]) (gm_le_n _ (gm_le_n _ (gm_le_n _ (gm_le_k _ (gm_le_k _ gm_le_nil))))) ?_
    exact ok104_21 c d Post _ w
  · replace w := w.2 z3
    refine gw_pst hk 1 (st' := (12, [some (.ref r0), some (.int x1), some (.int x2), none, none], [.int x2], h_2)) rfl ?_
    refine gw_br (c := x2 < 0) (a := (21, [some (.ref r0), some (.int x1), some (.int x2), none, none], [], h_2)) (b := (15, [some (.ref r0), some (.int x1), some (.int x2), none, none], [], h_2)) (hk _ _ rfl) rfl ⟨fun z4 => ?_, fun z4 => ?_⟩
    · replace w := w.1 z4
      refine gw_le (L' := [none, none, none, none, none]) (gm_le_n _ (gm_le_n _ (gm_le_n _ (gm_le_k _ (gm_le_k _ gm_le_nil))))) ?_
      exact ok104_21 c d Post _ w
    · replace w := w.2 z4
      refine gw_pst hk 2 (st' := (18, [some (.ref r0), some (.int x1), some (.int x2), none, none], [.int 30, .int x2], h_2)) rfl ?_
      refine gw_br (c := x2 ≤ 30) (a := (23, [some (.ref r0), some (.int x1), some (.int x2), none, none], [], h_2)) (b := (21, [some (.ref r0), some (.int x1), some (.int x2), none, none], [], h_2)) (hk _ _ rfl) rfl ⟨fun z5 => ?_, fun z5 => ?_⟩
      · replace w := w.1 z5
        refine gw_pst hk 1 (st' := (24, [some (.ref r0), some (.int x1), some (.int x2), none, none], [.ref r0], h_2)) rfl ?_
        obtain ⟨q_6, e6, w⟩ := w
        refine gw_gf (hk _ _ rfl) e6 ?_
        obtain ⟨x_7, e7, w⟩ := w
        refine gw_gf (hk _ _ rfl) e7 ?_
        refine gw_pst hk 4 (st' := (34, [some (.ref r0), some (.int x1), some (.int x2), some (.int (x_7 + x2)), none], [.ref r0], h_2)) rfl ?_
        obtain ⟨q_8, e8, w⟩ := w
        refine gw_gf (hk _ _ rfl) e8 ?_
        refine gw_pst hk 1 (st' := (38, [some (.ref r0), some (.int x1), some (.int x2), some (.int (x_7 + x2)), none], [.int (x_7 + x2), .ref q_8], h_2)) rfl ?_
        obtain ⟨⟨fs9, e9⟩, w⟩ := w
        refine gw_call (jj := 51) (As := [.ref q_8, .int (x_7 + x2)]) (rest := []) (hk _ _ rfl) (fun _ => rfl) rfl rfl (Nat.le_of_ble_eq_true rfl) (gm_rcv_v rfl e9 rfl) ?_
        refine ge_imp w (fun v9 h_9 w => ?_)
        obtain ⟨x_9, rfl, w⟩ := w
        show gV c d 104 (41, [some (.ref r0), some (.int x1), some (.int x2), some (.int (x_7 + x2)), none], [.int x_9], h_9) Post
        refine gw_pst hk 3 (st' := (46, [some (.ref r0), some (.int x1), some (.int x2), some (.int (x_7 + x2)), some (.int x_9)], [.int (-1), .int x_9], h_9)) rfl ?_
        refine gw_br (c := x_9 = (-1)) (a := (49, [some (.ref r0), some (.int x1), some (.int x2), some (.int (x_7 + x2)), some (.int x_9)], [], h_9)) (b := (52, [some (.ref r0), some (.int x1), some (.int x2), some (.int (x_7 + x2)), some (.int x_9)], [], h_9)) (hk _ _ rfl) rfl ⟨fun z10 => ?_, fun z10 => ?_⟩
        · replace w := w.1 z10
          refine gw_pst hk 1 (st' := (51, [some (.ref r0), some (.int x1), some (.int x2), some (.int (x_7 + x2)), some (.int x_9)], [.int (-2)], h_9)) rfl ?_
          exact gw_ret (hk _ _ rfl) rfl w
        · replace w := w.2 z10
          refine gw_pst hk 2 (st' := (54, [some (.ref r0), some (.int x1), some (.int x2), some (.int (x_7 + x2)), some (.int x_9)], [.ref r0, .int x1], h_9)) rfl ?_
          obtain ⟨q_11, e11, w⟩ := w
          refine gw_gf (hk _ _ rfl) e11 ?_
          obtain ⟨x_12, e12, w⟩ := w
          refine gw_gf (hk _ _ rfl) e12 ?_
          refine gw_call (jj := 16) (As := [.int x1, .int x_12]) (rest := []) (hk _ _ rfl) (fun _ => rfl) rfl rfl (Nat.le_of_ble_eq_true rfl) rfl ?_
          refine ge_imp w (fun v13 h_13 w => ?_)
          obtain ⟨x_13, rfl, w⟩ := w
          show gV c d 104 (63, [some (.ref r0), some (.int x1), some (.int x2), some (.int (x_7 + x2)), some (.int x_9)], [.int x_13], h_13) Post
          refine gw_br (c := x_13 = 0) (a := (66, [some (.ref r0), some (.int x1), some (.int x2), some (.int (x_7 + x2)), some (.int x_9)], [], h_13)) (b := (69, [some (.ref r0), some (.int x1), some (.int x2), some (.int (x_7 + x2)), some (.int x_9)], [], h_13)) (hk _ _ rfl) rfl ⟨fun z14 => ?_, fun z14 => ?_⟩
          · replace w := w.1 z14
            refine gw_pst hk 1 (st' := (68, [some (.ref r0), some (.int x1), some (.int x2), some (.int (x_7 + x2)), some (.int x_9)], [.int (-3)], h_13)) rfl ?_
            exact gw_ret (hk _ _ rfl) rfl w
          · replace w := w.2 z14
            refine gw_pst hk 1 (st' := (70, [some (.ref r0), some (.int x1), some (.int x2), some (.int (x_7 + x2)), some (.int x_9)], [.ref r0], h_13)) rfl ?_
            obtain ⟨q_15, e15, w⟩ := w
            refine gw_gf (hk _ _ rfl) e15 ?_
            refine gw_pst hk 2 (st' := (76, [some (.ref r0), some (.int x1), some (.int x2), some (.int (x_7 + x2)), some (.int x_9)], [.long ((x_9 : Int32).toInt64), .ref q_15], h_13)) rfl ?_
            obtain ⟨⟨fs16, e16⟩, w⟩ := w
            refine gw_call (jj := 45) (As := [.ref q_15, .long ((x_9 : Int32).toInt64)]) (rest := []) (hk _ _ rfl) (fun _ => rfl) rfl rfl (Nat.le_of_ble_eq_true rfl) (gm_rcv_v rfl e16 rfl) ?_
            refine ge_imp w (fun v16 h_16 w => ?_)
            obtain ⟨rfl, w⟩ := w
            show gV c d 104 (79, [some (.ref r0), some (.int x1), some (.int x2), some (.int (x_7 + x2)), some (.int x_9)], [], h_16) Post
            refine gw_pst hk 3 (st' := (84, [some (.ref r0), some (.int x1), some (.int x2), some (.int (x_7 + x2)), some (.int x_9)], [.ref r0, .ref r0, .int 501], h_16)) rfl ?_
            obtain ⟨q_17, e17, w⟩ := w
            refine gw_gf (hk _ _ rfl) e17 ?_
            refine gw_pst hk 3 (st' := (91, [some (.ref r0), some (.int x1), some (.int x2), some (.int (x_7 + x2)), some (.int x_9)], [.int (x_7 + x2), .int x_9, .int x1, .ref q_17, .ref r0, .int 501], h_16)) rfl ?_
            obtain ⟨⟨fs18, e18⟩, w⟩ := w
            refine gw_call (jj := 150) (As := [.ref r0, .ref q_17, .int x1, .int x_9, .int (x_7 + x2)]) (rest := [.int 501]) (hk _ _ rfl) (fun _ => rfl) rfl rfl (Nat.le_of_ble_eq_true rfl) (gm_rcv_v rfl e18 rfl) ?_
            refine ge_imp w (fun v18 h_18 w => ?_)
            obtain ⟨x_18, rfl, w⟩ := w
            show gV c d 104 (94, [some (.ref r0), some (.int x1), some (.int x2), some (.int (x_7 + x2)), some (.int x_9)], [.int x_18, .int 501], h_18) Post
            refine gw_pst hk 1 (st' := (95, [some (.ref r0), some (.int x1), some (.int x2), some (.int (x_7 + x2)), some (.int x_9)], [.int (501 + x_18)], h_18)) rfl ?_
            exact gw_ret (hk _ _ rfl) rfl w
      · replace w := w.2 z5
        refine gw_le (L' := [none, none, none, none, none]) (gm_le_n _ (gm_le_n _ (gm_le_n _ (gm_le_k _ (gm_le_k _ gm_le_nil))))) ?_
        exact ok104_21 c d Post _ w
/-- CommandByTurns.reach(I)I -/
def wm105 (c : gx) (d : Nat) (Post : Option Value → gm_H → Prop) (r0 : Nat) (x1 : Int32) (h : gm_H) : Prop :=
  gE c d 147 [.int x1] h (fun v1 h_1 => ∃ x_1 : Int32, v1 = some (.int x_1) ∧ ((x_1 = 0 → Post (some (.int (-1))) h_1) ∧ (¬ (x_1 = 0) → ∃ q_3 : Nat, gm_fld h_1 r0 9 5 = some (.ref q_3) ∧ ∃ x_4 : Int32, gm_fld h_1 q_3 6 1 = some (.int x_4) ∧ (∃ fs5, gm_get h_1 r0 = some (.inr (9, fs5))) ∧ gE c d 112 [.ref r0, .int x1, .int x_4] h_1 (fun v5 h_5 => ∃ x_5 : Int32, v5 = some (.int x_5) ∧ ∃ q_6 : Nat, gm_fld h_5 r0 9 11 = some (.ref q_6) ∧ gE c d 266 [.int x_5] h_5 (fun v7 h_7 => ∃ x_7 : Int32, v7 = some (.int x_7) ∧ (∃ fs8, gm_get h_7 q_6 = some (.inr (5, fs8))) ∧ gE c d 45 [.ref q_6, .long ((x_7 : Int32).toInt64)] h_7 (fun v8 h_8 => v8 = none ∧ Post (some (.int x_5)) h_8))))))
theorem okm105 (c : gx) (d : Nat) (Post : Option Value → gm_H → Prop) (r0 : Nat) (x1 : Int32) (h : gm_H) (w : wm105 c d Post r0 x1 h) : gE c (d + 1) 105 [.ref r0, .int x1] h Post := by
  have hk : ∀ pc i, gm_find gk_105 pc = some i → gm_code (gt_T c.1 c.2.1 c.2.2.1) 105 pc = some i := fun _ _ z => z
  unfold wm105 at w
  refine ge_of (by decide) (Nat.le_of_ble_eq_true rfl) ?_
  show gV c d 105 (0, [some (.ref r0), some (.int x1), none], [], h) Post
  unfold gV
  refine gw_pst hk 1 (st' := (1, [some (.ref r0), some (.int x1), none], [.int x1], h)) rfl ?_
  refine gw_call (jj := 147) (As := [.int x1]) (rest := []) (hk _ _ rfl) (fun _ => rfl) rfl rfl (Nat.le_of_ble_eq_true rfl) rfl ?_
  refine ge_imp w (fun v1 h_1 w => ?_)
  obtain ⟨x_1, rfl, w⟩ := w
  show gV c d 105 (4, [some (.ref r0), some (.int x1), none], [.int x_1], h_1) Post
  refine gw_br (c := x_1 = 0) (a := (7, [some (.ref r0), some (.int x1), none], [], h_1)) (b := (9, [some (.ref r0), some (.int x1), none], [], h_1)) (hk _ _ rfl) rfl ⟨fun z2 => ?_, fun z2 => ?_⟩
  · replace w := w.1 z2
    refine gw_pst hk 1 (st' := (8, [some (.ref r0), some (.int x1), none], [.int (-1)], h_1)) rfl ?_
    exact gw_ret (hk _ _ rfl) rfl w
  · replace w := w.2 z2
    refine gw_pst hk 3 (st' := (12, [some (.ref r0), some (.int x1), none], [.ref r0, .int x1, .ref r0], h_1)) rfl ?_
    obtain ⟨q_3, e3, w⟩ := w
    refine gw_gf (hk _ _ rfl) e3 ?_
    obtain ⟨x_4, e4, w⟩ := w
    refine gw_gf (hk _ _ rfl) e4 ?_
    obtain ⟨⟨fs5, e5⟩, w⟩ := w
    refine gw_call (jj := 112) (As := [.ref r0, .int x1, .int x_4]) (rest := []) (hk _ _ rfl) (fun _ => rfl) rfl rfl (Nat.le_of_ble_eq_true rfl) (gm_rcv_v rfl e5 rfl) ?_
    refine ge_imp w (fun v5 h_5 w => ?_)
    obtain ⟨x_5, rfl, w⟩ := w
    show gV c d 105 (21, [some (.ref r0), some (.int x1), none], [.int x_5], h_5) Post
    refine gw_pst hk 2 (st' := (23, [some (.ref r0), some (.int x1), some (.int x_5)], [.ref r0], h_5)) rfl ?_
    obtain ⟨q_6, e6, w⟩ := w
    refine gw_gf (hk _ _ rfl) e6 ?_
    refine gw_pst hk 1 (st' := (27, [some (.ref r0), some (.int x1), some (.int x_5)], [.int x_5, .ref q_6], h_5)) rfl ?_
    refine gw_call (jj := 266) (As := [.int x_5]) (rest := [.ref q_6]) (hk _ _ rfl) (fun _ => rfl) rfl rfl (Nat.le_of_ble_eq_true rfl) rfl ?_
    refine ge_imp w (fun v7 h_7 w => ?_)
    obtain ⟨x_7, rfl, w⟩ := w
    show gV c d 105 (30, [some (.ref r0), some (.int x1), some (.int x_5)], [.int x_7, .ref q_6], h_7) Post
    refine gw_pst hk 1 (st' := (31, [some (.ref r0), some (.int x1), some (.int x_5)], [.long ((x_7 : Int32).toInt64), .ref q_6], h_7)) rfl ?_
    obtain ⟨⟨fs8, e8⟩, w⟩ := w
    refine gw_call (jj := 45) (As := [.ref q_6, .long ((x_7 : Int32).toInt64)]) (rest := []) (hk _ _ rfl) (fun _ => rfl) rfl rfl (Nat.le_of_ble_eq_true rfl) (gm_rcv_v rfl e8 rfl) ?_
    refine ge_imp w (fun v8 h_8 w => ?_)
    obtain ⟨rfl, w⟩ := w
    show gV c d 105 (34, [some (.ref r0), some (.int x1), some (.int x_5)], [], h_8) Post
    refine gw_pst hk 1 (st' := (35, [some (.ref r0), some (.int x1), some (.int x_5)], [.int x_5], h_8)) rfl ?_
    exact gw_ret (hk _ _ rfl) rfl w
def w106_121 (c : gx) (d : Nat) (Post : Option Value → gm_H → Prop) (K44 : Nat → Int32 → Int32 → Int32 → Int32 → gm_H → Prop) (K63 : Nat → Int32 → Int32 → Int32 → Int32 → Int32 → gm_H → Prop) (r0 : Nat) (x2 : Int32) (x3 : Int32) (x4 : Int32) (x5 : Int32) (x6 : Int32) (h : gm_H) : Prop :=
  K63 r0 x2 x3 x4 x5 (x6 + (2 * x5)) h
theorem ok106_121 (c : gx) (d : Nat) (Post : Option Value → gm_H → Prop) (K44 : Nat → Int32 → Int32 → Int32 → Int32 → gm_H → Prop) (K63 : Nat → Int32 → Int32 → Int32 → Int32 → Int32 → gm_H → Prop)  (hK44 : ∀ (r0 : Nat) (x2 : Int32) (x3 : Int32) (x4 : Int32) (x5 : Int32) (h : gm_H), K44 r0 x2 x3 x4 x5 h → gV c d 106 (44, [some (.ref r0), none, some (.int x2), some (.int x3), some (.int x4), some (.int x5), none], [], h) Post) (hK63 : ∀ (r0 : Nat) (x2 : Int32) (x3 : Int32) (x4 : Int32) (x5 : Int32) (x6 : Int32) (h : gm_H), K63 r0 x2 x3 x4 x5 x6 h → gV c d 106 (63, [some (.ref r0), none, some (.int x2), some (.int x3), some (.int x4), some (.int x5), some (.int x6)], [], h) Post) (r0 : Nat) (x2 : Int32) (x3 : Int32) (x4 : Int32) (x5 : Int32) (x6 : Int32) (h : gm_H) (w : w106_121 c d Post K44 K63 r0 x2 x3 x4 x5 x6 h) : gV c d 106 (121, [some (.ref r0), none, some (.int x2), some (.int x3), some (.int x4), some (.int x5), some (.int x6)], [], h) Post := by
  have hk : ∀ pc i, gm_find gk_106 pc = some i → gm_code (gt_T c.1 c.2.1 c.2.2.1) 106 pc = some i := fun _ _ z => z
  unfold w106_121 at w
  unfold gV
  refine gw_pst hk 7 (st' := (63, [some (.ref r0), none, some (.int x2), some (.int x3), some (.int x4), some (.int x5), some (.int (x6 + (2 * x5)))], [], h)) rfl ?_
  exact hK63 _ _ _ _ _ _ _ w
def wb106_63 (c : gx) (d : Nat) (Post : Option Value → gm_H → Prop) (K44 : Nat → Int32 → Int32 → Int32 → Int32 → gm_H → Prop) (K63 : Nat → Int32 → Int32 → Int32 → Int32 → Int32 → gm_H → Prop) (r0 : Nat) (x2 : Int32) (x3 : Int32) (x4 : Int32) (x5 : Int32) (x6 : Int32) (h : gm_H) : Prop :=
  ∃ q_1 : Nat, gm_fld h r0 9 5 = some (.ref q_1) ∧ ∃ x_2 : Int32, gm_fld h q_1 6 1 = some (.int x_2) ∧ (((x_2 + x5) < x6 → K44 r0 x2 x3 x4 (x5 + 1) h) ∧ (¬ ((x_2 + x5) < x6) → ∃ q_4 : Nat, gm_fld h r0 9 1 = some (.ref q_4) ∧ (∃ fs5, gm_get h q_4 = some (.inr (1, fs5))) ∧ gE c d 14 [.ref q_4, .int x6] h (fun v5 h_5 => ∃ x_5 : Int32, v5 = some (.int x_5) ∧ ((x_5 = 0 → w106_121 c d Post K44 K63 r0 x2 x3 x4 x5 x6 h_5) ∧ (¬ (x_5 = 0) → (((x2 &&& (1 <<< (x6 &&& 31))) = 0 → w106_121 c d Post K44 K63 r0 x2 x3 x4 x5 x6 h_5) ∧ (¬ ((x2 &&& (1 <<< (x6 &&& 31))) = 0) → (∃ fs8, gm_get h_5 r0 = some (.inr (9, fs8))) ∧ gE c d 111 [.ref r0, .int x6] h_5 (fun v8 h_8 => ∃ x_8 : Int32, v8 = some (.int x_8) ∧ ((x_8 ≤ x4 → w106_121 c d Post K44 K63 r0 x2 x3 x4 x5 x6 h_8) ∧ (¬ (x_8 ≤ x4) → (∃ fs10, gm_get h_8 r0 = some (.inr (9, fs10))) ∧ gE c d 111 [.ref r0, .int x6] h_8 (fun v10 h_10 => ∃ x_10 : Int32, v10 = some (.int x_10) ∧ w106_121 c d Post K44 K63 r0 x2 x6 x_10 x5 x6 h_10)))))))))))
theorem okb106_63 (c : gx) (d : Nat) (Post : Option Value → gm_H → Prop) (K44 : Nat → Int32 → Int32 → Int32 → Int32 → gm_H → Prop) (K63 : Nat → Int32 → Int32 → Int32 → Int32 → Int32 → gm_H → Prop)  (hK44 : ∀ (r0 : Nat) (x2 : Int32) (x3 : Int32) (x4 : Int32) (x5 : Int32) (h : gm_H), K44 r0 x2 x3 x4 x5 h → gV c d 106 (44, [some (.ref r0), none, some (.int x2), some (.int x3), some (.int x4), some (.int x5), none], [], h) Post) (hK63 : ∀ (r0 : Nat) (x2 : Int32) (x3 : Int32) (x4 : Int32) (x5 : Int32) (x6 : Int32) (h : gm_H), K63 r0 x2 x3 x4 x5 x6 h → gV c d 106 (63, [some (.ref r0), none, some (.int x2), some (.int x3), some (.int x4), some (.int x5), some (.int x6)], [], h) Post) (r0 : Nat) (x2 : Int32) (x3 : Int32) (x4 : Int32) (x5 : Int32) (x6 : Int32) (h : gm_H) (w : wb106_63 c d Post K44 K63 r0 x2 x3 x4 x5 x6 h) : gV c d 106 (63, [some (.ref r0), none, some (.int x2), some (.int x3), some (.int x4), some (.int x5), some (.int x6)], [], h) Post := by
  have hk : ∀ pc i, gm_find gk_106 pc = some i → gm_code (gt_T c.1 c.2.1 c.2.2.1) 106 pc = some i := fun _ _ z => z
  unfold wb106_63 at w
  unfold gV
  refine gw_pst hk 2 (st' := (66, [some (.ref r0), none, some (.int x2), some (.int x3), some (.int x4), some (.int x5), some (.int x6)], [.ref r0, .int x6], h)) rfl ?_
  obtain ⟨q_1, e1, w⟩ := w
  refine gw_gf (hk _ _ rfl) e1 ?_
  obtain ⟨x_2, e2, w⟩ := w
  refine gw_gf (hk _ _ rfl) e2 ?_
  refine gw_pst hk 2 (st' := (75, [some (.ref r0), none, some (.int x2), some (.int x3), some (.int x4), some (.int x5), some (.int x6)], [.int (x_2 + x5), .int x6], h)) rfl ?_
  refine gw_br (c := (x_2 + x5) < x6) (a := (133, [some (.ref r0), none, some (.int x2), some (.int x3), some (.int x4), some (.int x5), some (.int x6)], [], h)) (b := (78, [some (.ref r0), none, some (.int x2), some (.int x3), some (.int x4), some (.int x5), some (.int x6)], [], h)) (hk _ _ rfl) rfl ⟨fun z3 => ?_, fun z3 => ?_⟩
  · replace w := w.1 z3
    refine gw_pst hk 2 (st' := (44, [some (.ref r0), none, some (.int x2), some (.int x3), some (.int x4), some (.int (x5 + 1)), some (.int x6)], [], h)) rfl ?_
    refine gw_le (L' := [some (.ref r0), none, some (.int x2), some (.int x3), some (.int x4), some (.int (x5 + 1)), none]) (gm_le_k _ (gm_le_k _ (gm_le_k _ (gm_le_k _ (gm_le_k _ (gm_le_k _ (gm_le_n _ gm_le_nil))))))) ?_
    exact hK44 _ _ _ _ _ _ w
  · replace w := w.2 z3
    refine gw_pst hk 1 (st' := (79, [some (.ref r0), none, some (.int x2), some (.int x3), some (.int x4), some (.int x5), some (.int x6)], [.ref r0], h)) rfl ?_
    obtain ⟨q_4, e4, w⟩ := w
    refine gw_gf (hk _ _ rfl) e4 ?_
    refine gw_pst hk 1 (st' := (84, [some (.ref r0), none, some (.int x2), some (.int x3), some (.int x4), some (.int x5), some (.int x6)], [.int x6, .ref q_4], h)) rfl ?_
    obtain ⟨⟨fs5, e5⟩, w⟩ := w
    refine gw_call (jj := 14) (As := [.ref q_4, .int x6]) (rest := []) (hk _ _ rfl) (fun _ => rfl) rfl rfl (Nat.le_of_ble_eq_true rfl) (gm_rcv_v rfl e5 rfl) ?_
    refine ge_imp w (fun v5 h_5 w => ?_)
    obtain ⟨x_5, rfl, w⟩ := w
    show gV c d 106 (87, [some (.ref r0), none, some (.int x2), some (.int x3), some (.int x4), some (.int x5), some (.int x6)], [.int x_5], h_5) Post
    refine gw_br (c := x_5 = 0) (a := (121, [some (.ref r0), none, some (.int x2), some (.int x3), some (.int x4), some (.int x5), some (.int x6)], [], h_5)) (b := (90, [some (.ref r0), none, some (.int x2), some (.int x3), some (.int x4), some (.int x5), some (.int x6)], [], h_5)) (hk _ _ rfl) rfl ⟨fun z6 => ?_, fun z6 => ?_⟩
    · replace w := w.1 z6
      exact ok106_121 c d Post K44 K63 hK44 hK63 _ _ _ _ _ _ _ w
    · replace w := w.2 z6
      refine gw_pst hk 5 (st' := (96, [some (.ref r0), none, some (.int x2), some (.int x3), some (.int x4), some (.int x5), some (.int x6)], [.int (x2 &&& (1 <<< (x6 &&& 31)))], h_5)) rfl ?_
      refine gw_br (c := (x2 &&& (1 <<< (x6 &&& 31))) = 0) (a := (121, [some (.ref r0), none, some (.int x2), some (.int x3), some (.int x4), some (.int x5), some (.int x6)], [], h_5)) (b := (99, [some (.ref r0), none, some (.int x2), some (.int x3), some (.int x4), some (.int x5), some (.int x6)], [], h_5)) (hk _ _ rfl) rfl ⟨fun z7 => ?_, fun z7 => ?_⟩
      · replace w := w.1 z7
        exact ok106_121 c d Post K44 K63 hK44 hK63 _ _ _ _ _ _ _ w
      · replace w := w.2 z7
        refine gw_pst hk 2 (st' := (102, [some (.ref r0), none, some (.int x2), some (.int x3), some (.int x4), some (.int x5), some (.int x6)], [.int x6, .ref r0], h_5)) rfl ?_
        obtain ⟨⟨fs8, e8⟩, w⟩ := w
        refine gw_call (jj := 111) (As := [.ref r0, .int x6]) (rest := []) (hk _ _ rfl) (fun _ => rfl) rfl rfl (Nat.le_of_ble_eq_true rfl) (gm_rcv_v rfl e8 rfl) ?_
        refine ge_imp w (fun v8 h_8 w => ?_)
        obtain ⟨x_8, rfl, w⟩ := w
        show gV c d 106 (105, [some (.ref r0), none, some (.int x2), some (.int x3), some (.int x4), some (.int x5), some (.int x6)], [.int x_8], h_8) Post
        refine gw_pst hk 1 (st' := (107, [some (.ref r0), none, some (.int x2), some (.int x3), some (.int x4), some (.int x5), some (.int x6)], [.int x4, .int x_8], h_8)) rfl ?_
        refine gw_br (c := x_8 ≤ x4) (a := (121, [some (.ref r0), none, some (.int x2), some (.int x3), some (.int x4), some (.int x5), some (.int x6)], [], h_8)) (b := (110, [some (.ref r0), none, some (.int x2), some (.int x3), some (.int x4), some (.int x5), some (.int x6)], [], h_8)) (hk _ _ rfl) rfl ⟨fun z9 => ?_, fun z9 => ?_⟩
        · replace w := w.1 z9
          exact ok106_121 c d Post K44 K63 hK44 hK63 _ _ _ _ _ _ _ w
        · replace w := w.2 z9
          refine gw_pst hk 4 (st' := (116, [some (.ref r0), none, some (.int x2), some (.int x6), some (.int x4), some (.int x5), some (.int x6)], [.int x6, .ref r0], h_8)) rfl ?_
          obtain ⟨⟨fs10, e10⟩, w⟩ := w
          refine gw_call (jj := 111) (As := [.ref r0, .int x6]) (rest := []) (hk _ _ rfl) (fun _ => rfl) rfl rfl (Nat.le_of_ble_eq_true rfl) (gm_rcv_v rfl e10 rfl) ?_
          refine ge_imp w (fun v10 h_10 w => ?_)
          obtain ⟨x_10, rfl, w⟩ := w
          show gV c d 106 (119, [some (.ref r0), none, some (.int x2), some (.int x6), some (.int x4), some (.int x5), some (.int x6)], [.int x_10], h_10) Post
          refine gw_pst hk 1 (st' := (121, [some (.ref r0), none, some (.int x2), some (.int x6), some (.int x_10), some (.int x5), some (.int x6)], [], h_10)) rfl ?_
          exact ok106_121 c d Post K44 K63 hK44 hK63 _ _ _ _ _ _ _ w
def wl106_63 (c : gx) (d : Nat) (Post : Option Value → gm_H → Prop) (K44 : Nat → Int32 → Int32 → Int32 → Int32 → gm_H → Prop) : Nat → Nat → Int32 → Int32 → Int32 → Int32 → Int32 → gm_H → Prop
  | 0 => fun _ _ _ _ _ _ _ => False
  | n + 1 => wb106_63 c d Post K44 (wl106_63 c d Post K44 n)
theorem okl106_63 (c : gx) (d : Nat) (Post : Option Value → gm_H → Prop) (K44 : Nat → Int32 → Int32 → Int32 → Int32 → gm_H → Prop) (hK44 : ∀ (r0 : Nat) (x2 : Int32) (x3 : Int32) (x4 : Int32) (x5 : Int32) (h : gm_H), K44 r0 x2 x3 x4 x5 h → gV c d 106 (44, [some (.ref r0), none, some (.int x2), some (.int x3), some (.int x4), some (.int x5), none], [], h) Post) : ∀ (n : Nat) (r0 : Nat) (x2 : Int32) (x3 : Int32) (x4 : Int32) (x5 : Int32) (x6 : Int32) (h : gm_H), wl106_63 c d Post K44 n r0 x2 x3 x4 x5 x6 h → gV c d 106 (63, [some (.ref r0), none, some (.int x2), some (.int x3), some (.int x4), some (.int x5), some (.int x6)], [], h) Post
  | 0, _, _, _, _, _, _, _, w => w.elim
  | n + 1, r0, x2, x3, x4, x5, x6, h, w => okb106_63 c d Post K44 (wl106_63 c d Post K44 n) hK44 (okl106_63 c d Post K44 hK44 n) r0 x2 x3 x4 x5 x6 h w
def wb106_44 (c : gx) (d : Nat) (Post : Option Value → gm_H → Prop) (K44 : Nat → Int32 → Int32 → Int32 → Int32 → gm_H → Prop) (r0 : Nat) (x2 : Int32) (x3 : Int32) (x4 : Int32) (x5 : Int32) (h : gm_H) : Prop :=
  ((12 ≤ x5 → ∃ q_2 : Nat, gm_fld h r0 9 11 = some (.ref q_2) ∧ (∃ fs3, gm_get h q_2 = some (.inr (5, fs3))) ∧ gE c d 45 [.ref q_2, .long ((501 + x4 : Int32).toInt64)] h (fun v3 h_3 => v3 = none ∧ Post (some (.int x3)) h_3)) ∧ (¬ (12 ≤ x5) → ∃ q_4 : Nat, gm_fld h r0 9 5 = some (.ref q_4) ∧ ∃ x_5 : Int32, gm_fld h q_4 6 1 = some (.int x_5) ∧ ∃ n, wl106_63 c d Post K44 n r0 x2 x3 x4 x5 (x_5 - x5) h))
theorem okb106_44 (c : gx) (d : Nat) (Post : Option Value → gm_H → Prop) (K44 : Nat → Int32 → Int32 → Int32 → Int32 → gm_H → Prop)  (hK44 : ∀ (r0 : Nat) (x2 : Int32) (x3 : Int32) (x4 : Int32) (x5 : Int32) (h : gm_H), K44 r0 x2 x3 x4 x5 h → gV c d 106 (44, [some (.ref r0), none, some (.int x2), some (.int x3), some (.int x4), some (.int x5), none], [], h) Post) (r0 : Nat) (x2 : Int32) (x3 : Int32) (x4 : Int32) (x5 : Int32) (h : gm_H) (w : wb106_44 c d Post K44 r0 x2 x3 x4 x5 h) : gV c d 106 (44, [some (.ref r0), none, some (.int x2), some (.int x3), some (.int x4), some (.int x5), none], [], h) Post := by
  have hk : ∀ pc i, gm_find gk_106 pc = some i → gm_code (gt_T c.1 c.2.1 c.2.2.1) 106 pc = some i := fun _ _ z => z
  unfold wb106_44 at w
  unfold gV
  refine gw_pst hk 2 (st' := (48, [some (.ref r0), none, some (.int x2), some (.int x3), some (.int x4), some (.int x5), none], [.int 12, .int x5], h)) rfl ?_
  refine gw_br (c := 12 ≤ x5) (a := (139, [some (.ref r0), none, some (.int x2), some (.int x3), some (.int x4), some (.int x5), none], [], h)) (b := (51, [some (.ref r0), none, some (.int x2), some (.int x3), some (.int x4), some (.int x5), none], [], h)) (hk _ _ rfl) rfl ⟨fun z1 => ?_, fun z1 => ?_⟩
  · replace w := w.1 z1
    refine gw_pst hk 1 (st' := (140, [some (.ref r0), none, some (.int x2), some (.int x3), some (.int x4), some (.int x5), none], [.ref r0], h)) rfl ?_
    obtain ⟨q_2, e2, w⟩ := w
    refine gw_gf (hk _ _ rfl) e2 ?_
    refine gw_pst hk 4 (st' := (150, [some (.ref r0), none, some (.int x2), some (.int x3), some (.int x4), some (.int x5), none], [.long ((501 + x4 : Int32).toInt64), .ref q_2], h)) rfl ?_
    obtain ⟨⟨fs3, e3⟩, w⟩ := w
    refine gw_call (jj := 45) (As := [.ref q_2, .long ((501 + x4 : Int32).toInt64)]) (rest := []) (hk _ _ rfl) (fun _ => rfl) rfl rfl (Nat.le_of_ble_eq_true rfl) (gm_rcv_v rfl e3 rfl) ?_
    refine ge_imp w (fun v3 h_3 w => ?_)
    obtain ⟨rfl, w⟩ := w
    show gV c d 106 (153, [some (.ref r0), none, some (.int x2), some (.int x3), some (.int x4), some (.int x5), none], [], h_3) Post
    refine gw_pst hk 1 (st' := (154, [some (.ref r0), none, some (.int x2), some (.int x3), some (.int x4), some (.int x5), none], [.int x3], h_3)) rfl ?_
    exact gw_ret (hk _ _ rfl) rfl w
  · replace w := w.2 z1
    refine gw_pst hk 1 (st' := (52, [some (.ref r0), none, some (.int x2), some (.int x3), some (.int x4), some (.int x5), none], [.ref r0], h)) rfl ?_
    obtain ⟨q_4, e4, w⟩ := w
    refine gw_gf (hk _ _ rfl) e4 ?_
    obtain ⟨x_5, e5, w⟩ := w
    refine gw_gf (hk _ _ rfl) e5 ?_
    refine gw_pst hk 3 (st' := (63, [some (.ref r0), none, some (.int x2), some (.int x3), some (.int x4), some (.int x5), some (.int (x_5 - x5))], [], h)) rfl ?_
    obtain ⟨n, w⟩ := w
    exact okl106_63 c d Post K44 hK44 n _ _ _ _ _ _ _ w
def wl106_44 (c : gx) (d : Nat) (Post : Option Value → gm_H → Prop) : Nat → Nat → Int32 → Int32 → Int32 → Int32 → gm_H → Prop
  | 0 => fun _ _ _ _ _ _ => False
  | n + 1 => wb106_44 c d Post (wl106_44 c d Post n)
theorem okl106_44 (c : gx) (d : Nat) (Post : Option Value → gm_H → Prop) : ∀ (n : Nat) (r0 : Nat) (x2 : Int32) (x3 : Int32) (x4 : Int32) (x5 : Int32) (h : gm_H), wl106_44 c d Post n r0 x2 x3 x4 x5 h → gV c d 106 (44, [some (.ref r0), none, some (.int x2), some (.int x3), some (.int x4), some (.int x5), none], [], h) Post
  | 0, _, _, _, _, _, _, w => w.elim
  | n + 1, r0, x2, x3, x4, x5, h, w => okb106_44 c d Post (wl106_44 c d Post n) (okl106_44 c d Post n) r0 x2 x3 x4 x5 h w
/-- CommandByTurns.evening()I -/
def wm106 (c : gx) (d : Nat) (Post : Option Value → gm_H → Prop) (r0 : Nat) (h : gm_H) : Prop :=
  (∃ fs1, gm_get h r0 = some (.inr (9, fs1))) ∧ gE c d 84 [.ref r0] h (fun v1 h_1 => ∃ x_1 : Int32, v1 = some (.int x_1) ∧ ((x_1 = (-1) → Post (some (.int (-2))) h_1) ∧ (¬ (x_1 = (-1)) → ∃ q_3 : Nat, gm_fld h_1 r0 9 5 = some (.ref q_3) ∧ ∃ x_4 : Int32, gm_fld h_1 q_3 6 1 = some (.int x_4) ∧ (∃ fs5, gm_get h_1 r0 = some (.inr (9, fs5))) ∧ gE c d 112 [.ref r0, .int x_1, .int x_4] h_1 (fun v5 h_5 => ∃ x_5 : Int32, v5 = some (.int x_5) ∧ ∃ q_6 : Nat, gm_fld h_5 r0 9 5 = some (.ref q_6) ∧ ∃ x_7 : Int32, gm_fld h_5 q_6 6 1 = some (.int x_7) ∧ (∃ fs8, gm_get h_5 r0 = some (.inr (9, fs8))) ∧ gE c d 111 [.ref r0, .int x_7] h_5 (fun v8 h_8 => ∃ x_8 : Int32, v8 = some (.int x_8) ∧ ∃ n, wl106_44 c d Post n r0 x_5 x_7 x_8 1 h_8)))))
theorem okm106 (c : gx) (d : Nat) (Post : Option Value → gm_H → Prop) (r0 : Nat) (h : gm_H) (w : wm106 c d Post r0 h) : gE c (d + 1) 106 [.ref r0] h Post := by
  have hk : ∀ pc i, gm_find gk_106 pc = some i → gm_code (gt_T c.1 c.2.1 c.2.2.1) 106 pc = some i := fun _ _ z => z
  unfold wm106 at w
  refine ge_of (by decide) (Nat.le_of_ble_eq_true rfl) ?_
  show gV c d 106 (0, [some (.ref r0), none, none, none, none, none, none], [], h) Post
  unfold gV
  refine gw_pst hk 1 (st' := (1, [some (.ref r0), none, none, none, none, none, none], [.ref r0], h)) rfl ?_
  obtain ⟨⟨fs1, e1⟩, w⟩ := w
  refine gw_call (jj := 84) (As := [.ref r0]) (rest := []) (hk _ _ rfl) (fun _ => rfl) rfl rfl (Nat.le_of_ble_eq_true rfl) (gm_rcv_v rfl e1 rfl) ?_
  refine ge_imp w (fun v1 h_1 w => ?_)
  obtain ⟨x_1, rfl, w⟩ := w
  show gV c d 106 (4, [some (.ref r0), none, none, none, none, none, none], [.int x_1], h_1) Post
  refine gw_pst hk 3 (st' := (7, [some (.ref r0), some (.int x_1), none, none, none, none, none], [.int (-1), .int x_1], h_1)) rfl ?_
  refine gw_br (c := x_1 = (-1)) (a := (10, [some (.ref r0), some (.int x_1), none, none, none, none, none], [], h_1)) (b := (13, [some (.ref r0), some (.int x_1), none, none, none, none, none], [], h_1)) (hk _ _ rfl) rfl ⟨fun z2 => ?_, fun z2 => ?_⟩
  · replace w := w.1 z2
    refine gw_pst hk 1 (st' := (12, [some (.ref r0), some (.int x_1), none, none, none, none, none], [.int (-2)], h_1)) rfl ?_
    exact gw_ret (hk _ _ rfl) rfl w
  · replace w := w.2 z2
    refine gw_pst hk 3 (st' := (16, [some (.ref r0), some (.int x_1), none, none, none, none, none], [.ref r0, .int x_1, .ref r0], h_1)) rfl ?_
    obtain ⟨q_3, e3, w⟩ := w
    refine gw_gf (hk _ _ rfl) e3 ?_
    obtain ⟨x_4, e4, w⟩ := w
    refine gw_gf (hk _ _ rfl) e4 ?_
    obtain ⟨⟨fs5, e5⟩, w⟩ := w
    refine gw_call (jj := 112) (As := [.ref r0, .int x_1, .int x_4]) (rest := []) (hk _ _ rfl) (fun _ => rfl) rfl rfl (Nat.le_of_ble_eq_true rfl) (gm_rcv_v rfl e5 rfl) ?_
    refine ge_imp w (fun v5 h_5 w => ?_)
    obtain ⟨x_5, rfl, w⟩ := w
    show gV c d 106 (25, [some (.ref r0), some (.int x_1), none, none, none, none, none], [.int x_5], h_5) Post
    refine gw_pst hk 2 (st' := (27, [some (.ref r0), some (.int x_1), some (.int x_5), none, none, none, none], [.ref r0], h_5)) rfl ?_
    obtain ⟨q_6, e6, w⟩ := w
    refine gw_gf (hk _ _ rfl) e6 ?_
    obtain ⟨x_7, e7, w⟩ := w
    refine gw_gf (hk _ _ rfl) e7 ?_
    refine gw_pst hk 3 (st' := (36, [some (.ref r0), some (.int x_1), some (.int x_5), some (.int x_7), none, none, none], [.int x_7, .ref r0], h_5)) rfl ?_
    obtain ⟨⟨fs8, e8⟩, w⟩ := w
    refine gw_call (jj := 111) (As := [.ref r0, .int x_7]) (rest := []) (hk _ _ rfl) (fun _ => rfl) rfl rfl (Nat.le_of_ble_eq_true rfl) (gm_rcv_v rfl e8 rfl) ?_
    refine ge_imp w (fun v8 h_8 w => ?_)
    obtain ⟨x_8, rfl, w⟩ := w
    show gV c d 106 (39, [some (.ref r0), some (.int x_1), some (.int x_5), some (.int x_7), none, none, none], [.int x_8], h_8) Post
    refine gw_pst hk 3 (st' := (44, [some (.ref r0), some (.int x_1), some (.int x_5), some (.int x_7), some (.int x_8), some (.int 1), none], [], h_8)) rfl ?_
    refine gw_le (L' := [some (.ref r0), none, some (.int x_5), some (.int x_7), some (.int x_8), some (.int 1), none]) (gm_le_k _ (gm_le_n _ (gm_le_k _ (gm_le_k _ (gm_le_k _ (gm_le_k _ (gm_le_k _ gm_le_nil))))))) ?_
    obtain ⟨n, w⟩ := w
    exact okl106_44 c d Post n _ _ _ _ _ _ w
def w107_30 (c : gx) (d : Nat) (Post : Option Value → gm_H → Prop) (xs0 : Int32) (h : gm_H) : Prop :=
  Post (some (.int xs0)) h
theorem ok107_30 (c : gx) (d : Nat) (Post : Option Value → gm_H → Prop)  (xs0 : Int32) (h : gm_H) (w : w107_30 c d Post xs0 h) : gV c d 107 (30, [none, none], [.int xs0], h) Post := by
  have hk : ∀ pc i, gm_find gk_107 pc = some i → gm_code (gt_T c.1 c.2.1 c.2.2.1) 107 pc = some i := fun _ _ z => z
  unfold w107_30 at w
  unfold gV
  exact gw_ret (hk _ _ rfl) rfl w
/-- CommandByTurns.lasts()I -/
def wm107 (c : gx) (d : Nat) (Post : Option Value → gm_H → Prop) (r0 : Nat) (h : gm_H) : Prop :=
  ∃ q_1 : Nat, gm_fld h r0 9 5 = some (.ref q_1) ∧ ∃ x_2 : Int32, gm_fld h q_1 6 5 = some (.int x_2) ∧ ∃ q_3 : Nat, gm_fld h r0 9 5 = some (.ref q_3) ∧ (∃ fs4, gm_get h q_3 = some (.inr (6, fs4))) ∧ gE c d 57 [.ref q_3] h (fun v4 h_4 => ∃ x_4 : Int32, v4 = some (.int x_4) ∧ ¬ x_4 = 0 ∧ ((((x_2 / x_4) + 1) ≤ 99 → w107_30 c d Post ((x_2 / x_4) + 1) h_4) ∧ (¬ (((x_2 / x_4) + 1) ≤ 99) → w107_30 c d Post (-2) h_4)))
theorem okm107 (c : gx) (d : Nat) (Post : Option Value → gm_H → Prop) (r0 : Nat) (h : gm_H) (w : wm107 c d Post r0 h) : gE c (d + 1) 107 [.ref r0] h Post := by
  have hk : ∀ pc i, gm_find gk_107 pc = some i → gm_code (gt_T c.1 c.2.1 c.2.2.1) 107 pc = some i := fun _ _ z => z
  unfold wm107 at w
  refine ge_of (by decide) (Nat.le_of_ble_eq_true rfl) ?_
  show gV c d 107 (0, [some (.ref r0), none], [], h) Post
  unfold gV
  refine gw_pst hk 1 (st' := (1, [some (.ref r0), none], [.ref r0], h)) rfl ?_
  obtain ⟨q_1, e1, w⟩ := w
  refine gw_gf (hk _ _ rfl) e1 ?_
  obtain ⟨x_2, e2, w⟩ := w
  refine gw_gf (hk _ _ rfl) e2 ?_
  refine gw_pst hk 1 (st' := (8, [some (.ref r0), none], [.ref r0, .int x_2], h)) rfl ?_
  obtain ⟨q_3, e3, w⟩ := w
  refine gw_gf (hk _ _ rfl) e3 ?_
  obtain ⟨⟨fs4, e4⟩, w⟩ := w
  refine gw_call (jj := 57) (As := [.ref q_3]) (rest := [.int x_2]) (hk _ _ rfl) (fun _ => rfl) rfl rfl (Nat.le_of_ble_eq_true rfl) (gm_rcv_v rfl e4 rfl) ?_
  refine ge_imp w (fun v4 h_4 w => ?_)
  obtain ⟨x_4, rfl, w⟩ := w
  show gV c d 107 (14, [some (.ref r0), none], [.int x_4, .int x_2], h_4) Post
  obtain ⟨z5, w⟩ := w
  refine gw_idiv (hk _ _ rfl) z5 ?_ rfl
  refine gw_pst hk 5 (st' := (21, [some (.ref r0), some (.int ((x_2 / x_4) + 1))], [.int 99, .int ((x_2 / x_4) + 1)], h_4)) rfl ?_
  refine gw_br (c := ((x_2 / x_4) + 1) ≤ 99) (a := (29, [some (.ref r0), some (.int ((x_2 / x_4) + 1))], [], h_4)) (b := (24, [some (.ref r0), some (.int ((x_2 / x_4) + 1))], [], h_4)) (hk _ _ rfl) rfl ⟨fun z6 => ?_, fun z6 => ?_⟩
  · replace w := w.1 z6
    refine gw_pst hk 1 (st' := (30, [some (.ref r0), some (.int ((x_2 / x_4) + 1))], [.int ((x_2 / x_4) + 1)], h_4)) rfl ?_
    refine gw_le (L' := [none, none]) (gm_le_n _ (gm_le_n _ gm_le_nil)) ?_
    exact ok107_30 c d Post _ _ w
  · replace w := w.2 z6
    refine gw_pst hk 2 (st' := (30, [some (.ref r0), some (.int ((x_2 / x_4) + 1))], [.int (-2)], h_4)) rfl ?_
    refine gw_le (L' := [none, none]) (gm_le_n _ (gm_le_n _ gm_le_nil)) ?_
    exact ok107_30 c d Post _ _ w
def w108_10 (c : gx) (d : Nat) (Post : Option Value → gm_H → Prop)  (h : gm_H) : Prop :=
  Post (some (.int (-1))) h
theorem ok108_10 (c : gx) (d : Nat) (Post : Option Value → gm_H → Prop)   (h : gm_H) (w : w108_10 c d Post  h) : gV c d 108 (10, [none, none, none], [], h) Post := by
  have hk : ∀ pc i, gm_find gk_108 pc = some i → gm_code (gt_T c.1 c.2.1 c.2.2.1) 108 pc = some i := fun _ _ z => z
  unfold w108_10 at w
  unfold gV
  refine gw_pst hk 1 (st' := (11, [none, none, none], [.int (-1)], h)) rfl ?_
  exact gw_ret (hk _ _ rfl) rfl w
def wb108_25 (c : gx) (d : Nat) (Post : Option Value → gm_H → Prop) (K25 : Nat → Int32 → Int32 → gm_H → Prop) (r0 : Nat) (x1 : Int32) (x2 : Int32) (h : gm_H) : Prop :=
  ((x1 ≤ x2 → ∃ q_2 : Nat, gm_fld h r0 9 11 = some (.ref q_2) ∧ ∃ q_3 : Nat, gm_fld h r0 9 7 = some (.ref q_3) ∧ ∃ x_4 : Int32, gm_fld h q_3 6 5 = some (.int x_4) ∧ (∃ fs5, gm_get h q_2 = some (.inr (5, fs5))) ∧ gE c d 45 [.ref q_2, .long ((x_4 : Int32).toInt64)] h (fun v5 h_5 => v5 = none ∧ ∃ q_6 : Nat, gm_fld h_5 r0 9 7 = some (.ref q_6) ∧ ∃ x_7 : Int32, gm_fld h_5 q_6 6 3 = some (.int x_7) ∧ Post (some (.int x_7)) h_5)) ∧ (¬ (x1 ≤ x2) → ∃ q_8 : Nat, gm_fld h r0 9 7 = some (.ref q_8) ∧ (∃ fs9, gm_get h q_8 = some (.inr (6, fs9))) ∧ gE c d 58 [.ref q_8] h (fun v9 h_9 => v9 = none ∧ K25 r0 x1 (x2 + 1) h_9)))
theorem okb108_25 (c : gx) (d : Nat) (Post : Option Value → gm_H → Prop) (K25 : Nat → Int32 → Int32 → gm_H → Prop)  (hK25 : ∀ (r0 : Nat) (x1 : Int32) (x2 : Int32) (h : gm_H), K25 r0 x1 x2 h → gV c d 108 (25, [some (.ref r0), some (.int x1), some (.int x2)], [], h) Post) (r0 : Nat) (x1 : Int32) (x2 : Int32) (h : gm_H) (w : wb108_25 c d Post K25 r0 x1 x2 h) : gV c d 108 (25, [some (.ref r0), some (.int x1), some (.int x2)], [], h) Post := by
  have hk : ∀ pc i, gm_find gk_108 pc = some i → gm_code (gt_T c.1 c.2.1 c.2.2.1) 108 pc = some i := fun _ _ z => z
  unfold wb108_25 at w
  unfold gV
  refine gw_pst hk 2 (st' := (27, [some (.ref r0), some (.int x1), some (.int x2)], [.int x1, .int x2], h)) rfl ?_
  refine gw_br (c := x1 ≤ x2) (a := (43, [some (.ref r0), some (.int x1), some (.int x2)], [], h)) (b := (30, [some (.ref r0), some (.int x1), some (.int x2)], [], h)) (hk _ _ rfl) rfl ⟨fun z1 => ?_, fun z1 => ?_⟩
  · replace w := w.1 z1
    refine gw_pst hk 1 (st' := (44, [some (.ref r0), some (.int x1), some (.int x2)], [.ref r0], h)) rfl ?_
    obtain ⟨q_2, e2, w⟩ := w
    refine gw_gf (hk _ _ rfl) e2 ?_
    refine gw_pst hk 1 (st' := (48, [some (.ref r0), some (.int x1), some (.int x2)], [.ref r0, .ref q_2], h)) rfl ?_
    obtain ⟨q_3, e3, w⟩ := w
    refine gw_gf (hk _ _ rfl) e3 ?_
    obtain ⟨x_4, e4, w⟩ := w
    refine gw_gf (hk _ _ rfl) e4 ?_
    refine gw_pst hk 1 (st' := (55, [some (.ref r0), some (.int x1), some (.int x2)], [.long ((x_4 : Int32).toInt64), .ref q_2], h)) rfl ?_
    obtain ⟨⟨fs5, e5⟩, w⟩ := w
    refine gw_call (jj := 45) (As := [.ref q_2, .long ((x_4 : Int32).toInt64)]) (rest := []) (hk _ _ rfl) (fun _ => rfl) rfl rfl (Nat.le_of_ble_eq_true rfl) (gm_rcv_v rfl e5 rfl) ?_
    refine ge_imp w (fun v5 h_5 w => ?_)
    obtain ⟨rfl, w⟩ := w
    show gV c d 108 (58, [some (.ref r0), some (.int x1), some (.int x2)], [], h_5) Post
    refine gw_pst hk 1 (st' := (59, [some (.ref r0), some (.int x1), some (.int x2)], [.ref r0], h_5)) rfl ?_
    obtain ⟨q_6, e6, w⟩ := w
    refine gw_gf (hk _ _ rfl) e6 ?_
    obtain ⟨x_7, e7, w⟩ := w
    refine gw_gf (hk _ _ rfl) e7 ?_
    exact gw_ret (hk _ _ rfl) rfl w
  · replace w := w.2 z1
    refine gw_pst hk 1 (st' := (31, [some (.ref r0), some (.int x1), some (.int x2)], [.ref r0], h)) rfl ?_
    obtain ⟨q_8, e8, w⟩ := w
    refine gw_gf (hk _ _ rfl) e8 ?_
    obtain ⟨⟨fs9, e9⟩, w⟩ := w
    refine gw_call (jj := 58) (As := [.ref q_8]) (rest := []) (hk _ _ rfl) (fun _ => rfl) rfl rfl (Nat.le_of_ble_eq_true rfl) (gm_rcv_v rfl e9 rfl) ?_
    refine ge_imp w (fun v9 h_9 w => ?_)
    obtain ⟨rfl, w⟩ := w
    show gV c d 108 (37, [some (.ref r0), some (.int x1), some (.int x2)], [], h_9) Post
    refine gw_pst hk 2 (st' := (25, [some (.ref r0), some (.int x1), some (.int (x2 + 1))], [], h_9)) rfl ?_
    exact hK25 _ _ _ _ w
def wl108_25 (c : gx) (d : Nat) (Post : Option Value → gm_H → Prop) : Nat → Nat → Int32 → Int32 → gm_H → Prop
  | 0 => fun _ _ _ _ => False
  | n + 1 => wb108_25 c d Post (wl108_25 c d Post n)
theorem okl108_25 (c : gx) (d : Nat) (Post : Option Value → gm_H → Prop) : ∀ (n : Nat) (r0 : Nat) (x1 : Int32) (x2 : Int32) (h : gm_H), wl108_25 c d Post n r0 x1 x2 h → gV c d 108 (25, [some (.ref r0), some (.int x1), some (.int x2)], [], h) Post
  | 0, _, _, _, _, w => w.elim
  | n + 1, r0, x1, x2, h, w => okb108_25 c d Post (wl108_25 c d Post n) (okl108_25 c d Post n) r0 x1 x2 h w
/-- CommandByTurns.feeds(I)I -/
def wm108 (c : gx) (d : Nat) (Post : Option Value → gm_H → Prop) (r0 : Nat) (x1 : Int32) (h : gm_H) : Prop :=
  ((x1 < 0 → w108_10 c d Post h) ∧ (¬ (x1 < 0) → ((x1 ≤ 99 → ∃ q_3 : Nat, gm_fld h r0 9 7 = some (.ref q_3) ∧ ∃ q_4 : Nat, gm_fld h r0 9 5 = some (.ref q_4) ∧ (∃ fs5, gm_get h q_3 = some (.inr (6, fs5))) ∧ gE c d 48 [.ref q_3, .ref q_4] h (fun v5 h_5 => v5 = none ∧ ∃ n, wl108_25 c d Post n r0 x1 0 h_5)) ∧ (¬ (x1 ≤ 99) → w108_10 c d Post h))))
theorem okm108 (c : gx) (d : Nat) (Post : Option Value → gm_H → Prop) (r0 : Nat) (x1 : Int32) (h : gm_H) (w : wm108 c d Post r0 x1 h) : gE c (d + 1) 108 [.ref r0, .int x1] h Post := by
  have hk : ∀ pc i, gm_find gk_108 pc = some i → gm_code (gt_T c.1 c.2.1 c.2.2.1) 108 pc = some i := fun _ _ z => z
  unfold wm108 at w
  refine ge_of (by decide) (Nat.le_of_ble_eq_true rfl) ?_
  show gV c d 108 (0, [some (.ref r0), some (.int x1), none], [], h) Post
  unfold gV
  refine gw_pst hk 1 (st' := (1, [some (.ref r0), some (.int x1), none], [.int x1], h)) rfl ?_
  refine gw_br (c := x1 < 0) (a := (10, [some (.ref r0), some (.int x1), none], [], h)) (b := (4, [some (.ref r0), some (.int x1), none], [], h)) (hk _ _ rfl) rfl ⟨fun z1 => ?_, fun z1 => ?_⟩
  · replace w := w.1 z1
    refine gw_le (L' := [none, none, none]) (gm_le_n _ (gm_le_n _ (gm_le_k _ gm_le_nil))) ?_
    exact ok108_10 c d Post _ w
  · replace w := w.2 z1
    refine gw_pst hk 2 (st' := (7, [some (.ref r0), some (.int x1), none], [.int 99, .int x1], h)) rfl ?_
    refine gw_br (c := x1 ≤ 99) (a := (12, [some (.ref r0), some (.int x1), none], [], h)) (b := (10, [some (.ref r0), some (.int x1), none], [], h)) (hk _ _ rfl) rfl ⟨fun z2 => ?_, fun z2 => ?_⟩
    · replace w := w.1 z2
      refine gw_pst hk 1 (st' := (13, [some (.ref r0), some (.int x1), none], [.ref r0], h)) rfl ?_
      obtain ⟨q_3, e3, w⟩ := w
      refine gw_gf (hk _ _ rfl) e3 ?_
      refine gw_pst hk 1 (st' := (17, [some (.ref r0), some (.int x1), none], [.ref r0, .ref q_3], h)) rfl ?_
      obtain ⟨q_4, e4, w⟩ := w
      refine gw_gf (hk _ _ rfl) e4 ?_
      obtain ⟨⟨fs5, e5⟩, w⟩ := w
      refine gw_call (jj := 48) (As := [.ref q_3, .ref q_4]) (rest := []) (hk _ _ rfl) (fun _ => rfl) rfl rfl (Nat.le_of_ble_eq_true rfl) (gm_rcv_v rfl e5 rfl) ?_
      refine ge_imp w (fun v5 h_5 w => ?_)
      obtain ⟨rfl, w⟩ := w
      show gV c d 108 (23, [some (.ref r0), some (.int x1), none], [], h_5) Post
      refine gw_pst hk 2 (st' := (25, [some (.ref r0), some (.int x1), some (.int 0)], [], h_5)) rfl ?_
      obtain ⟨n, w⟩ := w
      exact okl108_25 c d Post n _ _ _ _ w
    · replace w := w.2 z2
      refine gw_le (L' := [none, none, none]) (gm_le_n _ (gm_le_n _ (gm_le_k _ gm_le_nil))) ?_
      exact ok108_10 c d Post _ w
/-- CommandByTurns.boldness(I)I -/
def wm109 (c : gx) (d : Nat) (Post : Option Value → gm_H → Prop) (r0 : Nat) (x1 : Int32) (h : gm_H) : Prop :=
  ∃ q_1 : Nat, gm_fld h r0 9 1 = some (.ref q_1) ∧ (∃ fs2, gm_get h q_1 = some (.inr (1, fs2))) ∧ gE c d 14 [.ref q_1, .int x1] h (fun v2 h_2 => ∃ x_2 : Int32, v2 = some (.int x_2) ∧ ((x_2 = 0 → Post (some (.int (-1000))) h_2) ∧ (¬ (x_2 = 0) → ∃ q_4 : Nat, gm_fld h_2 r0 9 5 = some (.ref q_4) ∧ ∃ x_5 : Int32, gm_fld h_2 q_4 6 2 = some (.int x_5) ∧ gE c d 16 [.int x1, .int x_5] h_2 (fun v6 h_6 => ∃ x_6 : Int32, v6 = some (.int x_6) ∧ ((x_6 = 0 → Post (some (.int (-2000))) h_6) ∧ (¬ (x_6 = 0) → ∃ q_8 : Nat, gm_fld h_6 r0 9 5 = some (.ref q_8) ∧ ∃ q_9 : Nat, gm_fld h_6 r0 9 5 = some (.ref q_9) ∧ ∃ x_10 : Int32, gm_fld h_6 q_9 6 0 = some (.int x_10) ∧ (∃ fs11, gm_get h_6 r0 = some (.inr (9, fs11))) ∧ gE c d 150 [.ref r0, .ref q_8, .int x1, .int 0, .int x_10] h_6 (fun v11 h_11 => ∃ x_11 : Int32, v11 = some (.int x_11) ∧ ∃ q_12 : Nat, gm_fld h_11 r0 9 5 = some (.ref q_12) ∧ ∃ q_13 : Nat, gm_fld h_11 r0 9 5 = some (.ref q_13) ∧ ∃ x_14 : Int32, gm_fld h_11 q_13 6 0 = some (.int x_14) ∧ (∃ fs15, gm_get h_11 r0 = some (.inr (9, fs15))) ∧ gE c d 150 [.ref r0, .ref q_12, .int x1, .int 1, .int x_14] h_11 (fun v15 h_15 => ∃ x_15 : Int32, v15 = some (.int x_15) ∧ ∃ q_16 : Nat, gm_fld h_15 r0 9 11 = some (.ref q_16) ∧ (∃ fs17, gm_get h_15 q_16 = some (.inr (5, fs17))) ∧ gE c d 46 [.ref q_16, .long ((501 + x_11 : Int32).toInt64), .long ((501 + x_15 : Int32).toInt64)] h_15 (fun v17 h_17 => v17 = none ∧ Post (some (.int (x_11 - x_15))) h_17)))))))))
theorem okm109 (c : gx) (d : Nat) (Post : Option Value → gm_H → Prop) (r0 : Nat) (x1 : Int32) (h : gm_H) (w : wm109 c d Post r0 x1 h) : gE c (d + 1) 109 [.ref r0, .int x1] h Post := by
  have hk : ∀ pc i, gm_find gk_109 pc = some i → gm_code (gt_T c.1 c.2.1 c.2.2.1) 109 pc = some i := fun _ _ z => z
  unfold wm109 at w
  refine ge_of (by decide) (Nat.le_of_ble_eq_true rfl) ?_
  show gV c d 109 (0, [some (.ref r0), some (.int x1), none, none], [], h) Post
  unfold gV
  refine gw_pst hk 1 (st' := (1, [some (.ref r0), some (.int x1), none, none], [.ref r0], h)) rfl ?_
  obtain ⟨q_1, e1, w⟩ := w
  refine gw_gf (hk _ _ rfl) e1 ?_
  refine gw_pst hk 1 (st' := (5, [some (.ref r0), some (.int x1), none, none], [.int x1, .ref q_1], h)) rfl ?_
  obtain ⟨⟨fs2, e2⟩, w⟩ := w
  refine gw_call (jj := 14) (As := [.ref q_1, .int x1]) (rest := []) (hk _ _ rfl) (fun _ => rfl) rfl rfl (Nat.le_of_ble_eq_true rfl) (gm_rcv_v rfl e2 rfl) ?_
  refine ge_imp w (fun v2 h_2 w => ?_)
  obtain ⟨x_2, rfl, w⟩ := w
  show gV c d 109 (8, [some (.ref r0), some (.int x1), none, none], [.int x_2], h_2) Post
  refine gw_br (c := x_2 = 0) (a := (11, [some (.ref r0), some (.int x1), none, none], [], h_2)) (b := (15, [some (.ref r0), some (.int x1), none, none], [], h_2)) (hk _ _ rfl) rfl ⟨fun z3 => ?_, fun z3 => ?_⟩
  · replace w := w.1 z3
    refine gw_pst hk 1 (st' := (14, [some (.ref r0), some (.int x1), none, none], [.int (-1000)], h_2)) rfl ?_
    exact gw_ret (hk _ _ rfl) rfl w
  · replace w := w.2 z3
    refine gw_pst hk 2 (st' := (17, [some (.ref r0), some (.int x1), none, none], [.ref r0, .int x1], h_2)) rfl ?_
    obtain ⟨q_4, e4, w⟩ := w
    refine gw_gf (hk _ _ rfl) e4 ?_
    obtain ⟨x_5, e5, w⟩ := w
    refine gw_gf (hk _ _ rfl) e5 ?_
    refine gw_call (jj := 16) (As := [.int x1, .int x_5]) (rest := []) (hk _ _ rfl) (fun _ => rfl) rfl rfl (Nat.le_of_ble_eq_true rfl) rfl ?_
    refine ge_imp w (fun v6 h_6 w => ?_)
    obtain ⟨x_6, rfl, w⟩ := w
    show gV c d 109 (26, [some (.ref r0), some (.int x1), none, none], [.int x_6], h_6) Post
    refine gw_br (c := x_6 = 0) (a := (29, [some (.ref r0), some (.int x1), none, none], [], h_6)) (b := (33, [some (.ref r0), some (.int x1), none, none], [], h_6)) (hk _ _ rfl) rfl ⟨fun z7 => ?_, fun z7 => ?_⟩
    · replace w := w.1 z7
      refine gw_pst hk 1 (st' := (32, [some (.ref r0), some (.int x1), none, none], [.int (-2000)], h_6)) rfl ?_
      exact gw_ret (hk _ _ rfl) rfl w
    · replace w := w.2 z7
      refine gw_pst hk 2 (st' := (35, [some (.ref r0), some (.int x1), none, none], [.ref r0, .ref r0], h_6)) rfl ?_
      obtain ⟨q_8, e8, w⟩ := w
      refine gw_gf (hk _ _ rfl) e8 ?_
      refine gw_pst hk 3 (st' := (41, [some (.ref r0), some (.int x1), none, none], [.ref r0, .int 0, .int x1, .ref q_8, .ref r0], h_6)) rfl ?_
      obtain ⟨q_9, e9, w⟩ := w
      refine gw_gf (hk _ _ rfl) e9 ?_
      obtain ⟨x_10, e10, w⟩ := w
      refine gw_gf (hk _ _ rfl) e10 ?_
      obtain ⟨⟨fs11, e11⟩, w⟩ := w
      refine gw_call (jj := 150) (As := [.ref r0, .ref q_8, .int x1, .int 0, .int x_10]) (rest := []) (hk _ _ rfl) (fun _ => rfl) rfl rfl (Nat.le_of_ble_eq_true rfl) (gm_rcv_v rfl e11 rfl) ?_
      refine ge_imp w (fun v11 h_11 w => ?_)
      obtain ⟨x_11, rfl, w⟩ := w
      show gV c d 109 (50, [some (.ref r0), some (.int x1), none, none], [.int x_11], h_11) Post
      refine gw_pst hk 3 (st' := (53, [some (.ref r0), some (.int x1), some (.int x_11), none], [.ref r0, .ref r0], h_11)) rfl ?_
      obtain ⟨q_12, e12, w⟩ := w
      refine gw_gf (hk _ _ rfl) e12 ?_
      refine gw_pst hk 3 (st' := (59, [some (.ref r0), some (.int x1), some (.int x_11), none], [.ref r0, .int 1, .int x1, .ref q_12, .ref r0], h_11)) rfl ?_
      obtain ⟨q_13, e13, w⟩ := w
      refine gw_gf (hk _ _ rfl) e13 ?_
      obtain ⟨x_14, e14, w⟩ := w
      refine gw_gf (hk _ _ rfl) e14 ?_
      obtain ⟨⟨fs15, e15⟩, w⟩ := w
      refine gw_call (jj := 150) (As := [.ref r0, .ref q_12, .int x1, .int 1, .int x_14]) (rest := []) (hk _ _ rfl) (fun _ => rfl) rfl rfl (Nat.le_of_ble_eq_true rfl) (gm_rcv_v rfl e15 rfl) ?_
      refine ge_imp w (fun v15 h_15 w => ?_)
      obtain ⟨x_15, rfl, w⟩ := w
      show gV c d 109 (68, [some (.ref r0), some (.int x1), some (.int x_11), none], [.int x_15], h_15) Post
      refine gw_pst hk 2 (st' := (70, [some (.ref r0), some (.int x1), some (.int x_11), some (.int x_15)], [.ref r0], h_15)) rfl ?_
      obtain ⟨q_16, e16, w⟩ := w
      refine gw_gf (hk _ _ rfl) e16 ?_
      refine gw_pst hk 8 (st' := (85, [some (.ref r0), some (.int x1), some (.int x_11), some (.int x_15)], [.long ((501 + x_15 : Int32).toInt64), .long ((501 + x_11 : Int32).toInt64), .ref q_16], h_15)) rfl ?_
      obtain ⟨⟨fs17, e17⟩, w⟩ := w
      refine gw_call (jj := 46) (As := [.ref q_16, .long ((501 + x_11 : Int32).toInt64), .long ((501 + x_15 : Int32).toInt64)]) (rest := []) (hk _ _ rfl) (fun _ => rfl) rfl rfl (Nat.le_of_ble_eq_true rfl) (gm_rcv_v rfl e17 rfl) ?_
      refine ge_imp w (fun v17 h_17 w => ?_)
      obtain ⟨rfl, w⟩ := w
      show gV c d 109 (88, [some (.ref r0), some (.int x1), some (.int x_11), some (.int x_15)], [], h_17) Post
      refine gw_pst hk 3 (st' := (91, [some (.ref r0), some (.int x1), some (.int x_11), some (.int x_15)], [.int (x_11 - x_15)], h_17)) rfl ?_
      exact gw_ret (hk _ _ rfl) rfl w
/-- CommandByTurns.arrives(I)I -/
def wm110 (c : gx) (d : Nat) (Post : Option Value → gm_H → Prop) (r0 : Nat) (x1 : Int32) (h : gm_H) : Prop :=
  ∃ q_1 : Nat, gm_fld h r0 9 1 = some (.ref q_1) ∧ (∃ fs2, gm_get h q_1 = some (.inr (1, fs2))) ∧ gE c d 14 [.ref q_1, .int x1] h (fun v2 h_2 => ∃ x_2 : Int32, v2 = some (.int x_2) ∧ ((x_2 = 0 → Post (some (.int (-1))) h_2) ∧ (¬ (x_2 = 0) → (∃ fs4, gm_get h_2 r0 = some (.inr (9, fs4))) ∧ gE c d 118 [.ref r0] h_2 (fun v4 h_4 => v4 = none ∧ ∃ q_5 : Nat, gm_fld h_4 r0 9 12 = some (.ref q_5) ∧ ∃ q_6 : Nat, gm_fld h_4 r0 9 5 = some (.ref q_6) ∧ ∃ x_7 : Int32, gm_fld h_4 q_6 6 1 = some (.int x_7) ∧ (∃ fs8, gm_get h_4 q_5 = some (.inr (8, fs8))) ∧ gE c d 67 [.ref q_5, .int x_7, .int x1] h_4 (fun v8 h_8 => ∃ x_8 : Int32, v8 = some (.int x_8) ∧ ((x_8 = (-1) → Post (some (.int (-2))) h_8) ∧ (¬ (x_8 = (-1)) → ∃ q_10 : Nat, gm_fld h_8 r0 9 12 = some (.ref q_10) ∧ (∃ fs11, gm_get h_8 q_10 = some (.inr (8, fs11))) ∧ gE c d 69 [.ref q_10, .int x_8, .int (1 <<< (x1 &&& 31))] h_8 (fun v11 h_11 => ∃ x_11 : Int32, v11 = some (.int x_11) ∧ (∃ fs12, gm_get h_11 r0 = some (.inr (9, fs12))) ∧ gE c d 113 [.ref r0, .int x_8] h_11 (fun v12 h_12 => v12 = none ∧ Post (some (.int x_8)) h_12)))))))))
theorem okm110 (c : gx) (d : Nat) (Post : Option Value → gm_H → Prop) (r0 : Nat) (x1 : Int32) (h : gm_H) (w : wm110 c d Post r0 x1 h) : gE c (d + 1) 110 [.ref r0, .int x1] h Post := by
  have hk : ∀ pc i, gm_find gk_110 pc = some i → gm_code (gt_T c.1 c.2.1 c.2.2.1) 110 pc = some i := fun _ _ z => z
  unfold wm110 at w
  refine ge_of (by decide) (Nat.le_of_ble_eq_true rfl) ?_
  show gV c d 110 (0, [some (.ref r0), some (.int x1), none], [], h) Post
  unfold gV
  refine gw_pst hk 1 (st' := (1, [some (.ref r0), some (.int x1), none], [.ref r0], h)) rfl ?_
  obtain ⟨q_1, e1, w⟩ := w
  refine gw_gf (hk _ _ rfl) e1 ?_
  refine gw_pst hk 1 (st' := (5, [some (.ref r0), some (.int x1), none], [.int x1, .ref q_1], h)) rfl ?_
  obtain ⟨⟨fs2, e2⟩, w⟩ := w
  refine gw_call (jj := 14) (As := [.ref q_1, .int x1]) (rest := []) (hk _ _ rfl) (fun _ => rfl) rfl rfl (Nat.le_of_ble_eq_true rfl) (gm_rcv_v rfl e2 rfl) ?_
  refine ge_imp w (fun v2 h_2 w => ?_)
  obtain ⟨x_2, rfl, w⟩ := w
  show gV c d 110 (8, [some (.ref r0), some (.int x1), none], [.int x_2], h_2) Post
  refine gw_br (c := x_2 = 0) (a := (11, [some (.ref r0), some (.int x1), none], [], h_2)) (b := (13, [some (.ref r0), some (.int x1), none], [], h_2)) (hk _ _ rfl) rfl ⟨fun z3 => ?_, fun z3 => ?_⟩
  · replace w := w.1 z3
    refine gw_pst hk 1 (st' := (12, [some (.ref r0), some (.int x1), none], [.int (-1)], h_2)) rfl ?_
    exact gw_ret (hk _ _ rfl) rfl w
  · replace w := w.2 z3
    refine gw_pst hk 1 (st' := (14, [some (.ref r0), some (.int x1), none], [.ref r0], h_2)) rfl ?_
    obtain ⟨⟨fs4, e4⟩, w⟩ := w
    refine gw_call (jj := 118) (As := [.ref r0]) (rest := []) (hk _ _ rfl) (fun _ => rfl) rfl rfl (Nat.le_of_ble_eq_true rfl) (gm_rcv_v rfl e4 rfl) ?_
    refine ge_imp w (fun v4 h_4 w => ?_)
    obtain ⟨rfl, w⟩ := w
    show gV c d 110 (17, [some (.ref r0), some (.int x1), none], [], h_4) Post
    refine gw_pst hk 1 (st' := (18, [some (.ref r0), some (.int x1), none], [.ref r0], h_4)) rfl ?_
    obtain ⟨q_5, e5, w⟩ := w
    refine gw_gf (hk _ _ rfl) e5 ?_
    refine gw_pst hk 1 (st' := (22, [some (.ref r0), some (.int x1), none], [.ref r0, .ref q_5], h_4)) rfl ?_
    obtain ⟨q_6, e6, w⟩ := w
    refine gw_gf (hk _ _ rfl) e6 ?_
    obtain ⟨x_7, e7, w⟩ := w
    refine gw_gf (hk _ _ rfl) e7 ?_
    refine gw_pst hk 1 (st' := (29, [some (.ref r0), some (.int x1), none], [.int x1, .int x_7, .ref q_5], h_4)) rfl ?_
    obtain ⟨⟨fs8, e8⟩, w⟩ := w
    refine gw_call (jj := 67) (As := [.ref q_5, .int x_7, .int x1]) (rest := []) (hk _ _ rfl) (fun _ => rfl) rfl rfl (Nat.le_of_ble_eq_true rfl) (gm_rcv_v rfl e8 rfl) ?_
    refine ge_imp w (fun v8 h_8 w => ?_)
    obtain ⟨x_8, rfl, w⟩ := w
    show gV c d 110 (32, [some (.ref r0), some (.int x1), none], [.int x_8], h_8) Post
    refine gw_pst hk 3 (st' := (35, [some (.ref r0), some (.int x1), some (.int x_8)], [.int (-1), .int x_8], h_8)) rfl ?_
    refine gw_br (c := x_8 = (-1)) (a := (38, [some (.ref r0), some (.int x1), some (.int x_8)], [], h_8)) (b := (41, [some (.ref r0), some (.int x1), some (.int x_8)], [], h_8)) (hk _ _ rfl) rfl ⟨fun z9 => ?_, fun z9 => ?_⟩
    · replace w := w.1 z9
      refine gw_pst hk 1 (st' := (40, [some (.ref r0), some (.int x1), some (.int x_8)], [.int (-2)], h_8)) rfl ?_
      exact gw_ret (hk _ _ rfl) rfl w
    · replace w := w.2 z9
      refine gw_pst hk 1 (st' := (42, [some (.ref r0), some (.int x1), some (.int x_8)], [.ref r0], h_8)) rfl ?_
      obtain ⟨q_10, e10, w⟩ := w
      refine gw_gf (hk _ _ rfl) e10 ?_
      refine gw_pst hk 4 (st' := (49, [some (.ref r0), some (.int x1), some (.int x_8)], [.int (1 <<< (x1 &&& 31)), .int x_8, .ref q_10], h_8)) rfl ?_
      obtain ⟨⟨fs11, e11⟩, w⟩ := w
      refine gw_call (jj := 69) (As := [.ref q_10, .int x_8, .int (1 <<< (x1 &&& 31))]) (rest := []) (hk _ _ rfl) (fun _ => rfl) rfl rfl (Nat.le_of_ble_eq_true rfl) (gm_rcv_v rfl e11 rfl) ?_
      refine ge_imp w (fun v11 h_11 w => ?_)
      obtain ⟨x_11, rfl, w⟩ := w
      show gV c d 110 (52, [some (.ref r0), some (.int x1), some (.int x_8)], [.int x_11], h_11) Post
      refine gw_pst hk 3 (st' := (55, [some (.ref r0), some (.int x1), some (.int x_8)], [.int x_8, .ref r0], h_11)) rfl ?_
      obtain ⟨⟨fs12, e12⟩, w⟩ := w
      refine gw_call (jj := 113) (As := [.ref r0, .int x_8]) (rest := []) (hk _ _ rfl) (fun _ => rfl) rfl rfl (Nat.le_of_ble_eq_true rfl) (gm_rcv_v rfl e12 rfl) ?_
      refine ge_imp w (fun v12 h_12 w => ?_)
      obtain ⟨rfl, w⟩ := w
      show gV c d 110 (58, [some (.ref r0), some (.int x1), some (.int x_8)], [], h_12) Post
      refine gw_pst hk 1 (st' := (59, [some (.ref r0), some (.int x1), some (.int x_8)], [.int x_8], h_12)) rfl ?_
      exact gw_ret (hk _ _ rfl) rfl w
def w111_38 (c : gx) (d : Nat) (Post : Option Value → gm_H → Prop)  (h : gm_H) : Prop :=
  Post (some (.int 0)) h
theorem ok111_38 (c : gx) (d : Nat) (Post : Option Value → gm_H → Prop)   (h : gm_H) (w : w111_38 c d Post  h) : gV c d 111 (38, [none, none, none, none], [], h) Post := by
  have hk : ∀ pc i, gm_find gk_111 pc = some i → gm_code (gt_T c.1 c.2.1 c.2.2.1) 111 pc = some i := fun _ _ z => z
  unfold w111_38 at w
  unfold gV
  refine gw_pst hk 1 (st' := (39, [none, none, none, none], [.int 0], h)) rfl ?_
  exact gw_ret (hk _ _ rfl) rfl w
/-- CommandByTurns.tomorrowFrom(I)I -/
def wm111 (c : gx) (d : Nat) (Post : Option Value → gm_H → Prop) (r0 : Nat) (x1 : Int32) (h : gm_H) : Prop :=
  ∃ q_1 : Nat, gm_fld h r0 9 5 = some (.ref q_1) ∧ ∃ x_2 : Int32, gm_fld h q_1 6 0 = some (.int x_2) ∧ ∃ q_3 : Nat, gm_fld h r0 9 5 = some (.ref q_3) ∧ (∃ fs4, gm_get h q_3 = some (.inr (6, fs4))) ∧ gE c d 51 [.ref q_3, .int (x_2 + 1)] h (fun v4 h_4 => ∃ x_4 : Int32, v4 = some (.int x_4) ∧ ((x_4 = (-1) → w111_38 c d Post h_4) ∧ (¬ (x_4 = (-1)) → ∃ q_6 : Nat, gm_fld h_4 r0 9 5 = some (.ref q_6) ∧ ∃ x_7 : Int32, gm_fld h_4 q_6 6 2 = some (.int x_7) ∧ gE c d 16 [.int x1, .int x_7] h_4 (fun v8 h_8 => ∃ x_8 : Int32, v8 = some (.int x_8) ∧ ((x_8 = 0 → w111_38 c d Post h_8) ∧ (¬ (x_8 = 0) → ∃ q_10 : Nat, gm_fld h_8 r0 9 5 = some (.ref q_10) ∧ (∃ fs11, gm_get h_8 r0 = some (.inr (9, fs11))) ∧ gE c d 150 [.ref r0, .ref q_10, .int x1, .int x_4, .int (x_2 + 1)] h_8 (fun v11 h_11 => ∃ x_11 : Int32, v11 = some (.int x_11) ∧ Post (some (.int x_11)) h_11)))))))
theorem okm111 (c : gx) (d : Nat) (Post : Option Value → gm_H → Prop) (r0 : Nat) (x1 : Int32) (h : gm_H) (w : wm111 c d Post r0 x1 h) : gE c (d + 1) 111 [.ref r0, .int x1] h Post := by
  have hk : ∀ pc i, gm_find gk_111 pc = some i → gm_code (gt_T c.1 c.2.1 c.2.2.1) 111 pc = some i := fun _ _ z => z
  unfold wm111 at w
  refine ge_of (by decide) (Nat.le_of_ble_eq_true rfl) ?_
  show gV c d 111 (0, [some (.ref r0), some (.int x1), none, none], [], h) Post
  unfold gV
  refine gw_pst hk 1 (st' := (1, [some (.ref r0), some (.int x1), none, none], [.ref r0], h)) rfl ?_
  obtain ⟨q_1, e1, w⟩ := w
  refine gw_gf (hk _ _ rfl) e1 ?_
  obtain ⟨x_2, e2, w⟩ := w
  refine gw_gf (hk _ _ rfl) e2 ?_
  refine gw_pst hk 4 (st' := (11, [some (.ref r0), some (.int x1), some (.int (x_2 + 1)), none], [.ref r0], h)) rfl ?_
  obtain ⟨q_3, e3, w⟩ := w
  refine gw_gf (hk _ _ rfl) e3 ?_
  refine gw_pst hk 1 (st' := (15, [some (.ref r0), some (.int x1), some (.int (x_2 + 1)), none], [.int (x_2 + 1), .ref q_3], h)) rfl ?_
  obtain ⟨⟨fs4, e4⟩, w⟩ := w
  refine gw_call (jj := 51) (As := [.ref q_3, .int (x_2 + 1)]) (rest := []) (hk _ _ rfl) (fun _ => rfl) rfl rfl (Nat.le_of_ble_eq_true rfl) (gm_rcv_v rfl e4 rfl) ?_
  refine ge_imp w (fun v4 h_4 w => ?_)
  obtain ⟨x_4, rfl, w⟩ := w
  show gV c d 111 (18, [some (.ref r0), some (.int x1), some (.int (x_2 + 1)), none], [.int x_4], h_4) Post
  refine gw_pst hk 3 (st' := (21, [some (.ref r0), some (.int x1), some (.int (x_2 + 1)), some (.int x_4)], [.int (-1), .int x_4], h_4)) rfl ?_
  refine gw_br (c := x_4 = (-1)) (a := (38, [some (.ref r0), some (.int x1), some (.int (x_2 + 1)), some (.int x_4)], [], h_4)) (b := (24, [some (.ref r0), some (.int x1), some (.int (x_2 + 1)), some (.int x_4)], [], h_4)) (hk _ _ rfl) rfl ⟨fun z5 => ?_, fun z5 => ?_⟩
  · replace w := w.1 z5
    refine gw_le (L' := [none, none, none, none]) (gm_le_n _ (gm_le_n _ (gm_le_n _ (gm_le_n _ gm_le_nil)))) ?_
    exact ok111_38 c d Post _ w
  · replace w := w.2 z5
    refine gw_pst hk 2 (st' := (26, [some (.ref r0), some (.int x1), some (.int (x_2 + 1)), some (.int x_4)], [.ref r0, .int x1], h_4)) rfl ?_
    obtain ⟨q_6, e6, w⟩ := w
    refine gw_gf (hk _ _ rfl) e6 ?_
    obtain ⟨x_7, e7, w⟩ := w
    refine gw_gf (hk _ _ rfl) e7 ?_
    refine gw_call (jj := 16) (As := [.int x1, .int x_7]) (rest := []) (hk _ _ rfl) (fun _ => rfl) rfl rfl (Nat.le_of_ble_eq_true rfl) rfl ?_
    refine ge_imp w (fun v8 h_8 w => ?_)
    obtain ⟨x_8, rfl, w⟩ := w
    show gV c d 111 (35, [some (.ref r0), some (.int x1), some (.int (x_2 + 1)), some (.int x_4)], [.int x_8], h_8) Post
    refine gw_br (c := x_8 = 0) (a := (38, [some (.ref r0), some (.int x1), some (.int (x_2 + 1)), some (.int x_4)], [], h_8)) (b := (40, [some (.ref r0), some (.int x1), some (.int (x_2 + 1)), some (.int x_4)], [], h_8)) (hk _ _ rfl) rfl ⟨fun z9 => ?_, fun z9 => ?_⟩
    · replace w := w.1 z9
      refine gw_le (L' := [none, none, none, none]) (gm_le_n _ (gm_le_n _ (gm_le_n _ (gm_le_n _ gm_le_nil)))) ?_
      exact ok111_38 c d Post _ w
    · replace w := w.2 z9
      refine gw_pst hk 2 (st' := (42, [some (.ref r0), some (.int x1), some (.int (x_2 + 1)), some (.int x_4)], [.ref r0, .ref r0], h_8)) rfl ?_
      obtain ⟨q_10, e10, w⟩ := w
      refine gw_gf (hk _ _ rfl) e10 ?_
      refine gw_pst hk 3 (st' := (48, [some (.ref r0), some (.int x1), some (.int (x_2 + 1)), some (.int x_4)], [.int (x_2 + 1), .int x_4, .int x1, .ref q_10, .ref r0], h_8)) rfl ?_
      obtain ⟨⟨fs11, e11⟩, w⟩ := w
      refine gw_call (jj := 150) (As := [.ref r0, .ref q_10, .int x1, .int x_4, .int (x_2 + 1)]) (rest := []) (hk _ _ rfl) (fun _ => rfl) rfl rfl (Nat.le_of_ble_eq_true rfl) (gm_rcv_v rfl e11 rfl) ?_
      refine ge_imp w (fun v11 h_11 w => ?_)
      obtain ⟨x_11, rfl, w⟩ := w
      show gV c d 111 (51, [some (.ref r0), some (.int x1), some (.int (x_2 + 1)), some (.int x_4)], [.int x_11], h_11) Post
      exact gw_ret (hk _ _ rfl) rfl w
/-- CommandByTurns.goals(II)I -/
def wm112 (c : gx) (d : Nat) (Post : Option Value → gm_H → Prop) (r0 : Nat) (x1 : Int32) (x2 : Int32) (h : gm_H) : Prop :=
  ∃ q_1 : Nat, gm_fld h r0 9 1 = some (.ref q_1) ∧ ∃ q_2 : Nat, gm_fld h r0 9 5 = some (.ref q_2) ∧ ∃ x_3 : Int32, gm_fld h q_2 6 2 = some (.int x_3) ∧ (∃ fs4, gm_get h r0 = some (.inr (9, fs4))) ∧ gE c d 148 [.ref r0, .int x1] h (fun v4 h_4 => ∃ q_4 : Nat, v4 = some (.ref q_4) ∧ (∃ fs5, gm_get h_4 q_4 = some (.inr (2, fs5))) ∧ gE c d 31 [.ref q_4] h_4 (fun v5 h_5 => ∃ x_5 : Int32, v5 = some (.int x_5) ∧ (∃ fs6, gm_get h_5 q_1 = some (.inr (1, fs6))) ∧ gE c d 21 [.ref q_1, .int x2, .int x_3, .int x_5] h_5 (fun v6 h_6 => ∃ x_6 : Int32, v6 = some (.int x_6) ∧ Post (some (.int x_6)) h_6)))
theorem okm112 (c : gx) (d : Nat) (Post : Option Value → gm_H → Prop) (r0 : Nat) (x1 : Int32) (x2 : Int32) (h : gm_H) (w : wm112 c d Post r0 x1 x2 h) : gE c (d + 1) 112 [.ref r0, .int x1, .int x2] h Post := by
  have hk : ∀ pc i, gm_find gk_112 pc = some i → gm_code (gt_T c.1 c.2.1 c.2.2.1) 112 pc = some i := fun _ _ z => z
  unfold wm112 at w
  refine ge_of (by decide) (Nat.le_of_ble_eq_true rfl) ?_
  show gV c d 112 (0, [some (.ref r0), some (.int x1), some (.int x2)], [], h) Post
  unfold gV
  refine gw_pst hk 1 (st' := (1, [some (.ref r0), some (.int x1), some (.int x2)], [.ref r0], h)) rfl ?_
  obtain ⟨q_1, e1, w⟩ := w
  refine gw_gf (hk _ _ rfl) e1 ?_
  refine gw_pst hk 2 (st' := (6, [some (.ref r0), some (.int x1), some (.int x2)], [.ref r0, .int x2, .ref q_1], h)) rfl ?_
  obtain ⟨q_2, e2, w⟩ := w
  refine gw_gf (hk _ _ rfl) e2 ?_
  obtain ⟨x_3, e3, w⟩ := w
  refine gw_gf (hk _ _ rfl) e3 ?_
  refine gw_pst hk 2 (st' := (14, [some (.ref r0), some (.int x1), some (.int x2)], [.int x1, .ref r0, .int x_3, .int x2, .ref q_1], h)) rfl ?_
  obtain ⟨⟨fs4, e4⟩, w⟩ := w
  refine gw_call (jj := 148) (As := [.ref r0, .int x1]) (rest := [.int x_3, .int x2, .ref q_1]) (hk _ _ rfl) (fun _ => rfl) rfl rfl (Nat.le_of_ble_eq_true rfl) (gm_rcv_v rfl e4 rfl) ?_
  refine ge_imp w (fun v4 h_4 w => ?_)
  obtain ⟨q_4, rfl, w⟩ := w
  show gV c d 112 (17, [some (.ref r0), some (.int x1), some (.int x2)], [.ref q_4, .int x_3, .int x2, .ref q_1], h_4) Post
  obtain ⟨⟨fs5, e5⟩, w⟩ := w
  refine gw_call (jj := 31) (As := [.ref q_4]) (rest := [.int x_3, .int x2, .ref q_1]) (hk _ _ rfl) (fun _ => rfl) rfl rfl (Nat.le_of_ble_eq_true rfl) (gm_rcv_v rfl e5 rfl) ?_
  refine ge_imp w (fun v5 h_5 w => ?_)
  obtain ⟨x_5, rfl, w⟩ := w
  show gV c d 112 (20, [some (.ref r0), some (.int x1), some (.int x2)], [.int x_5, .int x_3, .int x2, .ref q_1], h_5) Post
  obtain ⟨⟨fs6, e6⟩, w⟩ := w
  refine gw_call (jj := 21) (As := [.ref q_1, .int x2, .int x_3, .int x_5]) (rest := []) (hk _ _ rfl) (fun _ => rfl) rfl rfl (Nat.le_of_ble_eq_true rfl) (gm_rcv_v rfl e6 rfl) ?_
  refine ge_imp w (fun v6 h_6 w => ?_)
  obtain ⟨x_6, rfl, w⟩ := w
  show gV c d 112 (23, [some (.ref r0), some (.int x1), some (.int x2)], [.int x_6], h_6) Post
  exact gw_ret (hk _ _ rfl) rfl w
def wb113_18 (c : gx) (d : Nat) (Post : Option Value → gm_H → Prop) (K18 : Nat → Int32 → Int32 → Int32 → gm_H → Prop) (r0 : Nat) (x1 : Int32) (x2 : Int32) (x3 : Int32) (h : gm_H) : Prop :=
  ((x1 ≤ x3 → Post none h) ∧ (¬ (x1 ≤ x3) → ∃ q_2 : Nat, gm_fld h r0 9 12 = some (.ref q_2) ∧ (∃ fs3, gm_get h q_2 = some (.inr (8, fs3))) ∧ gE c d 71 [.ref q_2, .int x3, .int x2] h (fun v3 h_3 => ∃ x_3 : Int32, v3 = some (.int x_3) ∧ ∃ q_4 : Nat, gm_fld h_3 r0 9 11 = some (.ref q_4) ∧ (∃ fs5, gm_get h_3 q_4 = some (.inr (5, fs5))) ∧ gE c d 44 [.ref q_4, .long ((x_3 : Int32).toInt64)] h_3 (fun v5 h_5 => v5 = none ∧ K18 r0 x1 x_3 (x3 + 1) h_5))))
theorem okb113_18 (c : gx) (d : Nat) (Post : Option Value → gm_H → Prop) (K18 : Nat → Int32 → Int32 → Int32 → gm_H → Prop)  (hK18 : ∀ (r0 : Nat) (x1 : Int32) (x2 : Int32) (x3 : Int32) (h : gm_H), K18 r0 x1 x2 x3 h → gV c d 113 (18, [some (.ref r0), some (.int x1), some (.int x2), some (.int x3)], [], h) Post) (r0 : Nat) (x1 : Int32) (x2 : Int32) (x3 : Int32) (h : gm_H) (w : wb113_18 c d Post K18 r0 x1 x2 x3 h) : gV c d 113 (18, [some (.ref r0), some (.int x1), some (.int x2), some (.int x3)], [], h) Post := by
  have hk : ∀ pc i, gm_find gk_113 pc = some i → gm_code (gt_T c.1 c.2.1 c.2.2.1) 113 pc = some i := fun _ _ z => z
  unfold wb113_18 at w
  unfold gV
  refine gw_pst hk 2 (st' := (20, [some (.ref r0), some (.int x1), some (.int x2), some (.int x3)], [.int x1, .int x3], h)) rfl ?_
  refine gw_br (c := x1 ≤ x3) (a := (48, [some (.ref r0), some (.int x1), some (.int x2), some (.int x3)], [], h)) (b := (23, [some (.ref r0), some (.int x1), some (.int x2), some (.int x3)], [], h)) (hk _ _ rfl) rfl ⟨fun z1 => ?_, fun z1 => ?_⟩
  · replace w := w.1 z1
    exact gw_ret (hk _ _ rfl) rfl w
  · replace w := w.2 z1
    refine gw_pst hk 1 (st' := (24, [some (.ref r0), some (.int x1), some (.int x2), some (.int x3)], [.ref r0], h)) rfl ?_
    obtain ⟨q_2, e2, w⟩ := w
    refine gw_gf (hk _ _ rfl) e2 ?_
    refine gw_pst hk 2 (st' := (29, [some (.ref r0), some (.int x1), some (.int x2), some (.int x3)], [.int x2, .int x3, .ref q_2], h)) rfl ?_
    obtain ⟨⟨fs3, e3⟩, w⟩ := w
    refine gw_call (jj := 71) (As := [.ref q_2, .int x3, .int x2]) (rest := []) (hk _ _ rfl) (fun _ => rfl) rfl rfl (Nat.le_of_ble_eq_true rfl) (gm_rcv_v rfl e3 rfl) ?_
    refine ge_imp w (fun v3 h_3 w => ?_)
    obtain ⟨x_3, rfl, w⟩ := w
    show gV c d 113 (32, [some (.ref r0), some (.int x1), some (.int x2), some (.int x3)], [.int x_3], h_3) Post
    refine gw_pst hk 2 (st' := (34, [some (.ref r0), some (.int x1), some (.int x_3), some (.int x3)], [.ref r0], h_3)) rfl ?_
    obtain ⟨q_4, e4, w⟩ := w
    refine gw_gf (hk _ _ rfl) e4 ?_
    refine gw_pst hk 2 (st' := (39, [some (.ref r0), some (.int x1), some (.int x_3), some (.int x3)], [.long ((x_3 : Int32).toInt64), .ref q_4], h_3)) rfl ?_
    obtain ⟨⟨fs5, e5⟩, w⟩ := w
    refine gw_call (jj := 44) (As := [.ref q_4, .long ((x_3 : Int32).toInt64)]) (rest := []) (hk _ _ rfl) (fun _ => rfl) rfl rfl (Nat.le_of_ble_eq_true rfl) (gm_rcv_v rfl e5 rfl) ?_
    refine ge_imp w (fun v5 h_5 w => ?_)
    obtain ⟨rfl, w⟩ := w
    show gV c d 113 (42, [some (.ref r0), some (.int x1), some (.int x_3), some (.int x3)], [], h_5) Post
    refine gw_pst hk 2 (st' := (18, [some (.ref r0), some (.int x1), some (.int x_3), some (.int (x3 + 1))], [], h_5)) rfl ?_
    exact hK18 _ _ _ _ _ w
def wl113_18 (c : gx) (d : Nat) (Post : Option Value → gm_H → Prop) : Nat → Nat → Int32 → Int32 → Int32 → gm_H → Prop
  | 0 => fun _ _ _ _ _ => False
  | n + 1 => wb113_18 c d Post (wl113_18 c d Post n)
theorem okl113_18 (c : gx) (d : Nat) (Post : Option Value → gm_H → Prop) : ∀ (n : Nat) (r0 : Nat) (x1 : Int32) (x2 : Int32) (x3 : Int32) (h : gm_H), wl113_18 c d Post n r0 x1 x2 x3 h → gV c d 113 (18, [some (.ref r0), some (.int x1), some (.int x2), some (.int x3)], [], h) Post
  | 0, _, _, _, _, _, w => w.elim
  | n + 1, r0, x1, x2, x3, h, w => okb113_18 c d Post (wl113_18 c d Post n) (okl113_18 c d Post n) r0 x1 x2 x3 h w
/-- CommandByTurns.tellLeastWay(I)V -/
def wm113 (c : gx) (d : Nat) (Post : Option Value → gm_H → Prop) (r0 : Nat) (x1 : Int32) (h : gm_H) : Prop :=
  ∃ q_1 : Nat, gm_fld h r0 9 11 = some (.ref q_1) ∧ ∃ fs2 : List Value, gm_get h q_1 = some (.inr (5, fs2)) ∧ 1 < fs2.length ∧ ∀ h_2 : gm_H, h_2 = gm_put h q_1 (.inr (5, fs2.set 1 (.int 0))) → ∃ q_3 : Nat, gm_fld h_2 r0 9 5 = some (.ref q_3) ∧ ∃ x_4 : Int32, gm_fld h_2 q_3 6 1 = some (.int x_4) ∧ ∃ n, wl113_18 c d Post n r0 x1 x_4 0 h_2
theorem okm113 (c : gx) (d : Nat) (Post : Option Value → gm_H → Prop) (r0 : Nat) (x1 : Int32) (h : gm_H) (w : wm113 c d Post r0 x1 h) : gE c (d + 1) 113 [.ref r0, .int x1] h Post := by
  have hk : ∀ pc i, gm_find gk_113 pc = some i → gm_code (gt_T c.1 c.2.1 c.2.2.1) 113 pc = some i := fun _ _ z => z
  unfold wm113 at w
  refine ge_of (by decide) (Nat.le_of_ble_eq_true rfl) ?_
  show gV c d 113 (0, [some (.ref r0), some (.int x1), none, none], [], h) Post
  unfold gV
  refine gw_pst hk 1 (st' := (1, [some (.ref r0), some (.int x1), none, none], [.ref r0], h)) rfl ?_
  obtain ⟨q_1, e1, w⟩ := w
  refine gw_gf (hk _ _ rfl) e1 ?_
  refine gw_pst hk 1 (st' := (5, [some (.ref r0), some (.int x1), none, none], [.int 0, .ref q_1], h)) rfl ?_
  obtain ⟨fs2, e2, l2, w⟩ := w
  refine gw_pf (hk _ _ rfl) e2 l2 rfl ?_
  obtain ⟨h_2, eh2⟩ : ∃ z, z = gm_put h q_1 (.inr (5, fs2.set 1 (.int 0))) := ⟨_, rfl⟩
  rw [← eh2]
  replace w := w h_2 eh2
  refine gw_pst hk 1 (st' := (9, [some (.ref r0), some (.int x1), none, none], [.ref r0], h_2)) rfl ?_
  obtain ⟨q_3, e3, w⟩ := w
  refine gw_gf (hk _ _ rfl) e3 ?_
  obtain ⟨x_4, e4, w⟩ := w
  refine gw_gf (hk _ _ rfl) e4 ?_
  refine gw_pst hk 3 (st' := (18, [some (.ref r0), some (.int x1), some (.int x_4), some (.int 0)], [], h_2)) rfl ?_
  obtain ⟨n, w⟩ := w
  exact okl113_18 c d Post n _ _ _ _ _ w
def w114_11 (c : gx) (d : Nat) (Post : Option Value → gm_H → Prop)  (h : gm_H) : Prop :=
  Post (some (.int (-1))) h
theorem ok114_11 (c : gx) (d : Nat) (Post : Option Value → gm_H → Prop)   (h : gm_H) (w : w114_11 c d Post  h) : gV c d 114 (11, [none, none, none], [], h) Post := by
  have hk : ∀ pc i, gm_find gk_114 pc = some i → gm_code (gt_T c.1 c.2.1 c.2.2.1) 114 pc = some i := fun _ _ z => z
  unfold w114_11 at w
  unfold gV
  refine gw_pst hk 1 (st' := (12, [none, none, none], [.int (-1)], h)) rfl ?_
  exact gw_ret (hk _ _ rfl) rfl w
/-- CommandByTurns.avoids(I)I -/
def wm114 (c : gx) (d : Nat) (Post : Option Value → gm_H → Prop) (r0 : Nat) (x1 : Int32) (h : gm_H) : Prop :=
  ((x1 < 1 → w114_11 c d Post h) ∧ (¬ (x1 < 1) → ((x1 ≤ 20 → (∃ fs3, gm_get h r0 = some (.inr (9, fs3))) ∧ gE c d 119 [.ref r0] h (fun v3 h_3 => v3 = none ∧ ∃ q_4 : Nat, gm_fld h_3 r0 9 12 = some (.ref q_4) ∧ ∃ q_5 : Nat, gm_fld h_3 r0 9 5 = some (.ref q_5) ∧ ∃ x_6 : Int32, gm_fld h_3 q_5 6 1 = some (.int x_6) ∧ (∃ fs7, gm_get h_3 q_4 = some (.inr (8, fs7))) ∧ gE c d 68 [.ref q_4, .int x_6, .int x1] h_3 (fun v7 h_7 => ∃ x_7 : Int32, v7 = some (.int x_7) ∧ ∃ q_8 : Nat, gm_fld h_7 r0 9 12 = some (.ref q_8) ∧ ∃ q_9 : Nat, gm_fld h_7 r0 9 1 = some (.ref q_9) ∧ (∃ fs10, gm_get h_7 q_9 = some (.inr (1, fs10))) ∧ gE c d 20 [.ref q_9] h_7 (fun v10 h_10 => ∃ x_10 : Int32, v10 = some (.int x_10) ∧ (∃ fs11, gm_get h_10 q_8 = some (.inr (8, fs11))) ∧ gE c d 69 [.ref q_8, .int x_7, .int x_10] h_10 (fun v11 h_11 => ∃ x_11 : Int32, v11 = some (.int x_11) ∧ (∃ fs12, gm_get h_11 r0 = some (.inr (9, fs12))) ∧ gE c d 113 [.ref r0, .int x_7] h_11 (fun v12 h_12 => v12 = none ∧ Post (some (.int x_7)) h_12)))))) ∧ (¬ (x1 ≤ 20) → w114_11 c d Post h))))
theorem okm114 (c : gx) (d : Nat) (Post : Option Value → gm_H → Prop) (r0 : Nat) (x1 : Int32) (h : gm_H) (w : wm114 c d Post r0 x1 h) : gE c (d + 1) 114 [.ref r0, .int x1] h Post := by
  have hk : ∀ pc i, gm_find gk_114 pc = some i → gm_code (gt_T c.1 c.2.1 c.2.2.1) 114 pc = some i := fun _ _ z => z
  unfold wm114 at w
  refine ge_of (by decide) (Nat.le_of_ble_eq_true rfl) ?_
  show gV c d 114 (0, [some (.ref r0), some (.int x1), none], [], h) Post
  unfold gV
  refine gw_pst hk 2 (st' := (2, [some (.ref r0), some (.int x1), none], [.int 1, .int x1], h)) rfl ?_
  refine gw_br (c := x1 < 1) (a := (11, [some (.ref r0), some (.int x1), none], [], h)) (b := (5, [some (.ref r0), some (.int x1), none], [], h)) (hk _ _ rfl) rfl ⟨fun z1 => ?_, fun z1 => ?_⟩
  · replace w := w.1 z1
    refine gw_le (L' := [none, none, none]) (gm_le_n _ (gm_le_n _ (gm_le_k _ gm_le_nil))) ?_
    exact ok114_11 c d Post _ w
  · replace w := w.2 z1
    refine gw_pst hk 2 (st' := (8, [some (.ref r0), some (.int x1), none], [.int 20, .int x1], h)) rfl ?_
    refine gw_br (c := x1 ≤ 20) (a := (13, [some (.ref r0), some (.int x1), none], [], h)) (b := (11, [some (.ref r0), some (.int x1), none], [], h)) (hk _ _ rfl) rfl ⟨fun z2 => ?_, fun z2 => ?_⟩
    · replace w := w.1 z2
      refine gw_pst hk 1 (st' := (14, [some (.ref r0), some (.int x1), none], [.ref r0], h)) rfl ?_
      obtain ⟨⟨fs3, e3⟩, w⟩ := w
      refine gw_call (jj := 119) (As := [.ref r0]) (rest := []) (hk _ _ rfl) (fun _ => rfl) rfl rfl (Nat.le_of_ble_eq_true rfl) (gm_rcv_v rfl e3 rfl) ?_
      refine ge_imp w (fun v3 h_3 w => ?_)
      obtain ⟨rfl, w⟩ := w
      show gV c d 114 (17, [some (.ref r0), some (.int x1), none], [], h_3) Post
      refine gw_pst hk 1 (st' := (18, [some (.ref r0), some (.int x1), none], [.ref r0], h_3)) rfl ?_
      obtain ⟨q_4, e4, w⟩ := w
      refine gw_gf (hk _ _ rfl) e4 ?_
      refine gw_pst hk 1 (st' := (22, [some (.ref r0), some (.int x1), none], [.ref r0, .ref q_4], h_3)) rfl ?_
      obtain ⟨q_5, e5, w⟩ := w
      refine gw_gf (hk _ _ rfl) e5 ?_
      obtain ⟨x_6, e6, w⟩ := w
      refine gw_gf (hk _ _ rfl) e6 ?_
      refine gw_pst hk 1 (st' := (29, [some (.ref r0), some (.int x1), none], [.int x1, .int x_6, .ref q_4], h_3)) rfl ?_
      obtain ⟨⟨fs7, e7⟩, w⟩ := w
      refine gw_call (jj := 68) (As := [.ref q_4, .int x_6, .int x1]) (rest := []) (hk _ _ rfl) (fun _ => rfl) rfl rfl (Nat.le_of_ble_eq_true rfl) (gm_rcv_v rfl e7 rfl) ?_
      refine ge_imp w (fun v7 h_7 w => ?_)
      obtain ⟨x_7, rfl, w⟩ := w
      show gV c d 114 (32, [some (.ref r0), some (.int x1), none], [.int x_7], h_7) Post
      refine gw_pst hk 2 (st' := (34, [some (.ref r0), some (.int x1), some (.int x_7)], [.ref r0], h_7)) rfl ?_
      obtain ⟨q_8, e8, w⟩ := w
      refine gw_gf (hk _ _ rfl) e8 ?_
      refine gw_pst hk 2 (st' := (39, [some (.ref r0), some (.int x1), some (.int x_7)], [.ref r0, .int x_7, .ref q_8], h_7)) rfl ?_
      obtain ⟨q_9, e9, w⟩ := w
      refine gw_gf (hk _ _ rfl) e9 ?_
      obtain ⟨⟨fs10, e10⟩, w⟩ := w
      refine gw_call (jj := 20) (As := [.ref q_9]) (rest := [.int x_7, .ref q_8]) (hk _ _ rfl) (fun _ => rfl) rfl rfl (Nat.le_of_ble_eq_true rfl) (gm_rcv_v rfl e10 rfl) ?_
      refine ge_imp w (fun v10 h_10 w => ?_)
      obtain ⟨x_10, rfl, w⟩ := w
      show gV c d 114 (45, [some (.ref r0), some (.int x1), some (.int x_7)], [.int x_10, .int x_7, .ref q_8], h_10) Post
      obtain ⟨⟨fs11, e11⟩, w⟩ := w
      refine gw_call (jj := 69) (As := [.ref q_8, .int x_7, .int x_10]) (rest := []) (hk _ _ rfl) (fun _ => rfl) rfl rfl (Nat.le_of_ble_eq_true rfl) (gm_rcv_v rfl e11 rfl) ?_
      refine ge_imp w (fun v11 h_11 w => ?_)
      obtain ⟨x_11, rfl, w⟩ := w
      show gV c d 114 (48, [some (.ref r0), some (.int x1), some (.int x_7)], [.int x_11], h_11) Post
      refine gw_pst hk 3 (st' := (51, [some (.ref r0), some (.int x1), some (.int x_7)], [.int x_7, .ref r0], h_11)) rfl ?_
      obtain ⟨⟨fs12, e12⟩, w⟩ := w
      refine gw_call (jj := 113) (As := [.ref r0, .int x_7]) (rest := []) (hk _ _ rfl) (fun _ => rfl) rfl rfl (Nat.le_of_ble_eq_true rfl) (gm_rcv_v rfl e12 rfl) ?_
      refine ge_imp w (fun v12 h_12 w => ?_)
      obtain ⟨rfl, w⟩ := w
      show gV c d 114 (54, [some (.ref r0), some (.int x1), some (.int x_7)], [], h_12) Post
      refine gw_pst hk 1 (st' := (55, [some (.ref r0), some (.int x1), some (.int x_7)], [.int x_7], h_12)) rfl ?_
      exact gw_ret (hk _ _ rfl) rfl w
    · replace w := w.2 z2
      refine gw_le (L' := [none, none, none]) (gm_le_n _ (gm_le_n _ (gm_le_k _ gm_le_nil))) ?_
      exact ok114_11 c d Post _ w
def w115_11 (c : gx) (d : Nat) (Post : Option Value → gm_H → Prop)  (h : gm_H) : Prop :=
  Post (some (.int (-1))) h
theorem ok115_11 (c : gx) (d : Nat) (Post : Option Value → gm_H → Prop)   (h : gm_H) (w : w115_11 c d Post  h) : gV c d 115 (11, [none, none, none], [], h) Post := by
  have hk : ∀ pc i, gm_find gk_115 pc = some i → gm_code (gt_T c.1 c.2.1 c.2.2.1) 115 pc = some i := fun _ _ z => z
  unfold w115_11 at w
  unfold gV
  refine gw_pst hk 1 (st' := (12, [none, none, none], [.int (-1)], h)) rfl ?_
  exact gw_ret (hk _ _ rfl) rfl w
/-- CommandByTurns.safe(I)I -/
def wm115 (c : gx) (d : Nat) (Post : Option Value → gm_H → Prop) (r0 : Nat) (x1 : Int32) (h : gm_H) : Prop :=
  ((x1 < 1 → w115_11 c d Post h) ∧ (¬ (x1 < 1) → ((x1 ≤ 20 → (∃ fs3, gm_get h r0 = some (.inr (9, fs3))) ∧ gE c d 119 [.ref r0] h (fun v3 h_3 => v3 = none ∧ ∃ q_4 : Nat, gm_fld h_3 r0 9 12 = some (.ref q_4) ∧ ∃ q_5 : Nat, gm_fld h_3 r0 9 1 = some (.ref q_5) ∧ (∃ fs6, gm_get h_3 q_5 = some (.inr (1, fs6))) ∧ gE c d 20 [.ref q_5] h_3 (fun v6 h_6 => ∃ x_6 : Int32, v6 = some (.int x_6) ∧ (∃ fs7, gm_get h_6 q_4 = some (.inr (8, fs7))) ∧ gE c d 69 [.ref q_4, .int x1, .int x_6] h_6 (fun v7 h_7 => ∃ x_7 : Int32, v7 = some (.int x_7) ∧ ∃ q_8 : Nat, gm_fld h_7 r0 9 11 = some (.ref q_8) ∧ gE c d 266 [.int x_7] h_7 (fun v9 h_9 => ∃ x_9 : Int32, v9 = some (.int x_9) ∧ (∃ fs10, gm_get h_9 q_8 = some (.inr (5, fs10))) ∧ gE c d 45 [.ref q_8, .long ((x_9 : Int32).toInt64)] h_9 (fun v10 h_10 => v10 = none ∧ Post (some (.int x_7)) h_10)))))) ∧ (¬ (x1 ≤ 20) → w115_11 c d Post h))))
theorem okm115 (c : gx) (d : Nat) (Post : Option Value → gm_H → Prop) (r0 : Nat) (x1 : Int32) (h : gm_H) (w : wm115 c d Post r0 x1 h) : gE c (d + 1) 115 [.ref r0, .int x1] h Post := by
  have hk : ∀ pc i, gm_find gk_115 pc = some i → gm_code (gt_T c.1 c.2.1 c.2.2.1) 115 pc = some i := fun _ _ z => z
  unfold wm115 at w
  refine ge_of (by decide) (Nat.le_of_ble_eq_true rfl) ?_
  show gV c d 115 (0, [some (.ref r0), some (.int x1), none], [], h) Post
  unfold gV
  refine gw_pst hk 2 (st' := (2, [some (.ref r0), some (.int x1), none], [.int 1, .int x1], h)) rfl ?_
  refine gw_br (c := x1 < 1) (a := (11, [some (.ref r0), some (.int x1), none], [], h)) (b := (5, [some (.ref r0), some (.int x1), none], [], h)) (hk _ _ rfl) rfl ⟨fun z1 => ?_, fun z1 => ?_⟩
  · replace w := w.1 z1
    refine gw_le (L' := [none, none, none]) (gm_le_n _ (gm_le_n _ (gm_le_k _ gm_le_nil))) ?_
    exact ok115_11 c d Post _ w
  · replace w := w.2 z1
    refine gw_pst hk 2 (st' := (8, [some (.ref r0), some (.int x1), none], [.int 20, .int x1], h)) rfl ?_
    refine gw_br (c := x1 ≤ 20) (a := (13, [some (.ref r0), some (.int x1), none], [], h)) (b := (11, [some (.ref r0), some (.int x1), none], [], h)) (hk _ _ rfl) rfl ⟨fun z2 => ?_, fun z2 => ?_⟩
    · replace w := w.1 z2
      refine gw_pst hk 1 (st' := (14, [some (.ref r0), some (.int x1), none], [.ref r0], h)) rfl ?_
      obtain ⟨⟨fs3, e3⟩, w⟩ := w
      refine gw_call (jj := 119) (As := [.ref r0]) (rest := []) (hk _ _ rfl) (fun _ => rfl) rfl rfl (Nat.le_of_ble_eq_true rfl) (gm_rcv_v rfl e3 rfl) ?_
      refine ge_imp w (fun v3 h_3 w => ?_)
      obtain ⟨rfl, w⟩ := w
      show gV c d 115 (17, [some (.ref r0), some (.int x1), none], [], h_3) Post
      refine gw_pst hk 1 (st' := (18, [some (.ref r0), some (.int x1), none], [.ref r0], h_3)) rfl ?_
      obtain ⟨q_4, e4, w⟩ := w
      refine gw_gf (hk _ _ rfl) e4 ?_
      refine gw_pst hk 2 (st' := (23, [some (.ref r0), some (.int x1), none], [.ref r0, .int x1, .ref q_4], h_3)) rfl ?_
      obtain ⟨q_5, e5, w⟩ := w
      refine gw_gf (hk _ _ rfl) e5 ?_
      obtain ⟨⟨fs6, e6⟩, w⟩ := w
      refine gw_call (jj := 20) (As := [.ref q_5]) (rest := [.int x1, .ref q_4]) (hk _ _ rfl) (fun _ => rfl) rfl rfl (Nat.le_of_ble_eq_true rfl) (gm_rcv_v rfl e6 rfl) ?_
      refine ge_imp w (fun v6 h_6 w => ?_)
      obtain ⟨x_6, rfl, w⟩ := w
      show gV c d 115 (29, [some (.ref r0), some (.int x1), none], [.int x_6, .int x1, .ref q_4], h_6) Post
      obtain ⟨⟨fs7, e7⟩, w⟩ := w
      refine gw_call (jj := 69) (As := [.ref q_4, .int x1, .int x_6]) (rest := []) (hk _ _ rfl) (fun _ => rfl) rfl rfl (Nat.le_of_ble_eq_true rfl) (gm_rcv_v rfl e7 rfl) ?_
      refine ge_imp w (fun v7 h_7 w => ?_)
      obtain ⟨x_7, rfl, w⟩ := w
      show gV c d 115 (32, [some (.ref r0), some (.int x1), none], [.int x_7], h_7) Post
      refine gw_pst hk 2 (st' := (34, [some (.ref r0), some (.int x1), some (.int x_7)], [.ref r0], h_7)) rfl ?_
      obtain ⟨q_8, e8, w⟩ := w
      refine gw_gf (hk _ _ rfl) e8 ?_
      refine gw_pst hk 1 (st' := (38, [some (.ref r0), some (.int x1), some (.int x_7)], [.int x_7, .ref q_8], h_7)) rfl ?_
      refine gw_call (jj := 266) (As := [.int x_7]) (rest := [.ref q_8]) (hk _ _ rfl) (fun _ => rfl) rfl rfl (Nat.le_of_ble_eq_true rfl) rfl ?_
      refine ge_imp w (fun v9 h_9 w => ?_)
      obtain ⟨x_9, rfl, w⟩ := w
      show gV c d 115 (41, [some (.ref r0), some (.int x1), some (.int x_7)], [.int x_9, .ref q_8], h_9) Post
      refine gw_pst hk 1 (st' := (42, [some (.ref r0), some (.int x1), some (.int x_7)], [.long ((x_9 : Int32).toInt64), .ref q_8], h_9)) rfl ?_
      obtain ⟨⟨fs10, e10⟩, w⟩ := w
      refine gw_call (jj := 45) (As := [.ref q_8, .long ((x_9 : Int32).toInt64)]) (rest := []) (hk _ _ rfl) (fun _ => rfl) rfl rfl (Nat.le_of_ble_eq_true rfl) (gm_rcv_v rfl e10 rfl) ?_
      refine ge_imp w (fun v10 h_10 w => ?_)
      obtain ⟨rfl, w⟩ := w
      show gV c d 115 (45, [some (.ref r0), some (.int x1), some (.int x_7)], [], h_10) Post
      refine gw_pst hk 1 (st' := (46, [some (.ref r0), some (.int x1), some (.int x_7)], [.int x_7], h_10)) rfl ?_
      exact gw_ret (hk _ _ rfl) rfl w
    · replace w := w.2 z2
      refine gw_le (L' := [none, none, none]) (gm_le_n _ (gm_le_n _ (gm_le_k _ gm_le_nil))) ?_
      exact ok115_11 c d Post _ w
def w116_11 (c : gx) (d : Nat) (Post : Option Value → gm_H → Prop)  (h : gm_H) : Prop :=
  Post (some (.int (-1))) h
theorem ok116_11 (c : gx) (d : Nat) (Post : Option Value → gm_H → Prop)   (h : gm_H) (w : w116_11 c d Post  h) : gV c d 116 (11, [none, none], [], h) Post := by
  have hk : ∀ pc i, gm_find gk_116 pc = some i → gm_code (gt_T c.1 c.2.1 c.2.2.1) 116 pc = some i := fun _ _ z => z
  unfold w116_11 at w
  unfold gV
  refine gw_pst hk 1 (st' := (12, [none, none], [.int (-1)], h)) rfl ?_
  exact gw_ret (hk _ _ rfl) rfl w
/-- CommandByTurns.forces(I)I -/
def wm116 (c : gx) (d : Nat) (Post : Option Value → gm_H → Prop) (r0 : Nat) (x1 : Int32) (h : gm_H) : Prop :=
  ((x1 < 1 → w116_11 c d Post h) ∧ (¬ (x1 < 1) → ((x1 ≤ 10 → (∃ fs3, gm_get h r0 = some (.inr (9, fs3))) ∧ gE c d 119 [.ref r0] h (fun v3 h_3 => v3 = none ∧ ∃ q_4 : Nat, gm_fld h_3 r0 9 12 = some (.ref q_4) ∧ ∃ q_5 : Nat, gm_fld h_3 r0 9 5 = some (.ref q_5) ∧ ∃ x_6 : Int32, gm_fld h_3 q_5 6 1 = some (.int x_6) ∧ (∃ fs7, gm_get h_3 q_4 = some (.inr (8, fs7))) ∧ gE c d 72 [.ref q_4, .int x_6, .int x1] h_3 (fun v7 h_7 => ∃ x_7 : Int32, v7 = some (.int x_7) ∧ ((x_7 = 0 → Post (some (.int (-2))) h_7) ∧ (¬ (x_7 = 0) → ∃ q_9 : Nat, gm_fld h_7 r0 9 11 = some (.ref q_9) ∧ ∃ q_10 : Nat, gm_fld h_7 r0 9 12 = some (.ref q_10) ∧ ∃ x_11 : Int32, gm_fld h_7 q_10 8 5 = some (.int x_11) ∧ (∃ fs12, gm_get h_7 q_9 = some (.inr (5, fs12))) ∧ gE c d 45 [.ref q_9, .long ((x_11 : Int32).toInt64)] h_7 (fun v12 h_12 => v12 = none ∧ ∃ q_13 : Nat, gm_fld h_12 r0 9 12 = some (.ref q_13) ∧ ∃ x_14 : Int32, gm_fld h_12 q_13 8 4 = some (.int x_14) ∧ Post (some (.int x_14)) h_12)))))) ∧ (¬ (x1 ≤ 10) → w116_11 c d Post h))))
theorem okm116 (c : gx) (d : Nat) (Post : Option Value → gm_H → Prop) (r0 : Nat) (x1 : Int32) (h : gm_H) (w : wm116 c d Post r0 x1 h) : gE c (d + 1) 116 [.ref r0, .int x1] h Post := by
  have hk : ∀ pc i, gm_find gk_116 pc = some i → gm_code (gt_T c.1 c.2.1 c.2.2.1) 116 pc = some i := fun _ _ z => z
  unfold wm116 at w
  refine ge_of (by decide) (Nat.le_of_ble_eq_true rfl) ?_
  show gV c d 116 (0, [some (.ref r0), some (.int x1)], [], h) Post
  unfold gV
  refine gw_pst hk 2 (st' := (2, [some (.ref r0), some (.int x1)], [.int 1, .int x1], h)) rfl ?_
  refine gw_br (c := x1 < 1) (a := (11, [some (.ref r0), some (.int x1)], [], h)) (b := (5, [some (.ref r0), some (.int x1)], [], h)) (hk _ _ rfl) rfl ⟨fun z1 => ?_, fun z1 => ?_⟩
  · replace w := w.1 z1
    refine gw_le (L' := [none, none]) (gm_le_n _ (gm_le_n _ gm_le_nil)) ?_
    exact ok116_11 c d Post _ w
  · replace w := w.2 z1
    refine gw_pst hk 2 (st' := (8, [some (.ref r0), some (.int x1)], [.int 10, .int x1], h)) rfl ?_
    refine gw_br (c := x1 ≤ 10) (a := (13, [some (.ref r0), some (.int x1)], [], h)) (b := (11, [some (.ref r0), some (.int x1)], [], h)) (hk _ _ rfl) rfl ⟨fun z2 => ?_, fun z2 => ?_⟩
    · replace w := w.1 z2
      refine gw_pst hk 1 (st' := (14, [some (.ref r0), some (.int x1)], [.ref r0], h)) rfl ?_
      obtain ⟨⟨fs3, e3⟩, w⟩ := w
      refine gw_call (jj := 119) (As := [.ref r0]) (rest := []) (hk _ _ rfl) (fun _ => rfl) rfl rfl (Nat.le_of_ble_eq_true rfl) (gm_rcv_v rfl e3 rfl) ?_
      refine ge_imp w (fun v3 h_3 w => ?_)
      obtain ⟨rfl, w⟩ := w
      show gV c d 116 (17, [some (.ref r0), some (.int x1)], [], h_3) Post
      refine gw_pst hk 1 (st' := (18, [some (.ref r0), some (.int x1)], [.ref r0], h_3)) rfl ?_
      obtain ⟨q_4, e4, w⟩ := w
      refine gw_gf (hk _ _ rfl) e4 ?_
      refine gw_pst hk 1 (st' := (22, [some (.ref r0), some (.int x1)], [.ref r0, .ref q_4], h_3)) rfl ?_
      obtain ⟨q_5, e5, w⟩ := w
      refine gw_gf (hk _ _ rfl) e5 ?_
      obtain ⟨x_6, e6, w⟩ := w
      refine gw_gf (hk _ _ rfl) e6 ?_
      refine gw_pst hk 1 (st' := (29, [some (.ref r0), some (.int x1)], [.int x1, .int x_6, .ref q_4], h_3)) rfl ?_
      obtain ⟨⟨fs7, e7⟩, w⟩ := w
      refine gw_call (jj := 72) (As := [.ref q_4, .int x_6, .int x1]) (rest := []) (hk _ _ rfl) (fun _ => rfl) rfl rfl (Nat.le_of_ble_eq_true rfl) (gm_rcv_v rfl e7 rfl) ?_
      refine ge_imp w (fun v7 h_7 w => ?_)
      obtain ⟨x_7, rfl, w⟩ := w
      show gV c d 116 (32, [some (.ref r0), some (.int x1)], [.int x_7], h_7) Post
      refine gw_br (c := x_7 = 0) (a := (35, [some (.ref r0), some (.int x1)], [], h_7)) (b := (38, [some (.ref r0), some (.int x1)], [], h_7)) (hk _ _ rfl) rfl ⟨fun z8 => ?_, fun z8 => ?_⟩
      · replace w := w.1 z8
        refine gw_pst hk 1 (st' := (37, [some (.ref r0), some (.int x1)], [.int (-2)], h_7)) rfl ?_
        exact gw_ret (hk _ _ rfl) rfl w
      · replace w := w.2 z8
        refine gw_pst hk 1 (st' := (39, [some (.ref r0), some (.int x1)], [.ref r0], h_7)) rfl ?_
        obtain ⟨q_9, e9, w⟩ := w
        refine gw_gf (hk _ _ rfl) e9 ?_
        refine gw_pst hk 1 (st' := (43, [some (.ref r0), some (.int x1)], [.ref r0, .ref q_9], h_7)) rfl ?_
        obtain ⟨q_10, e10, w⟩ := w
        refine gw_gf (hk _ _ rfl) e10 ?_
        obtain ⟨x_11, e11, w⟩ := w
        refine gw_gf (hk _ _ rfl) e11 ?_
        refine gw_pst hk 1 (st' := (50, [some (.ref r0), some (.int x1)], [.long ((x_11 : Int32).toInt64), .ref q_9], h_7)) rfl ?_
        obtain ⟨⟨fs12, e12⟩, w⟩ := w
        refine gw_call (jj := 45) (As := [.ref q_9, .long ((x_11 : Int32).toInt64)]) (rest := []) (hk _ _ rfl) (fun _ => rfl) rfl rfl (Nat.le_of_ble_eq_true rfl) (gm_rcv_v rfl e12 rfl) ?_
        refine ge_imp w (fun v12 h_12 w => ?_)
        obtain ⟨rfl, w⟩ := w
        show gV c d 116 (53, [some (.ref r0), some (.int x1)], [], h_12) Post
        refine gw_pst hk 1 (st' := (54, [some (.ref r0), some (.int x1)], [.ref r0], h_12)) rfl ?_
        obtain ⟨q_13, e13, w⟩ := w
        refine gw_gf (hk _ _ rfl) e13 ?_
        obtain ⟨x_14, e14, w⟩ := w
        refine gw_gf (hk _ _ rfl) e14 ?_
        exact gw_ret (hk _ _ rfl) rfl w
    · replace w := w.2 z2
      refine gw_le (L' := [none, none]) (gm_le_n _ (gm_le_n _ gm_le_nil)) ?_
      exact ok116_11 c d Post _ w
def w117_11 (c : gx) (d : Nat) (Post : Option Value → gm_H → Prop)  (h : gm_H) : Prop :=
  Post (some (.int (-1))) h
theorem ok117_11 (c : gx) (d : Nat) (Post : Option Value → gm_H → Prop)   (h : gm_H) (w : w117_11 c d Post  h) : gV c d 117 (11, [none, none, none, none, none, none, none, none], [], h) Post := by
  have hk : ∀ pc i, gm_find gk_117 pc = some i → gm_code (gt_T c.1 c.2.1 c.2.2.1) 117 pc = some i := fun _ _ z => z
  unfold w117_11 at w
  unfold gV
  refine gw_pst hk 1 (st' := (12, [none, none, none, none, none, none, none, none], [.int (-1)], h)) rfl ?_
  exact gw_ret (hk _ _ rfl) rfl w
def w117_126 (c : gx) (d : Nat) (Post : Option Value → gm_H → Prop) (K20 : Nat → Int32 → Int32 → Int32 → Int32 → gm_H → Prop) (r0 : Nat) (x1 : Int32) (x2 : Int32) (x3 : Int32) (x4 : Int32) (h : gm_H) : Prop :=
  K20 r0 x1 x2 x3 (x4 + 1) h
theorem ok117_126 (c : gx) (d : Nat) (Post : Option Value → gm_H → Prop) (K20 : Nat → Int32 → Int32 → Int32 → Int32 → gm_H → Prop)  (hK20 : ∀ (r0 : Nat) (x1 : Int32) (x2 : Int32) (x3 : Int32) (x4 : Int32) (h : gm_H), K20 r0 x1 x2 x3 x4 h → gV c d 117 (20, [some (.ref r0), some (.int x1), some (.int x2), some (.int x3), some (.int x4), none, none, none], [], h) Post) (r0 : Nat) (x1 : Int32) (x2 : Int32) (x3 : Int32) (x4 : Int32) (h : gm_H) (w : w117_126 c d Post K20 r0 x1 x2 x3 x4 h) : gV c d 117 (126, [some (.ref r0), some (.int x1), some (.int x2), some (.int x3), some (.int x4), none, none, none], [], h) Post := by
  have hk : ∀ pc i, gm_find gk_117 pc = some i → gm_code (gt_T c.1 c.2.1 c.2.2.1) 117 pc = some i := fun _ _ z => z
  unfold w117_126 at w
  unfold gV
  refine gw_pst hk 2 (st' := (20, [some (.ref r0), some (.int x1), some (.int x2), some (.int x3), some (.int (x4 + 1)), none, none, none], [], h)) rfl ?_
  exact hK20 _ _ _ _ _ _ w
def w117_120 (c : gx) (d : Nat) (Post : Option Value → gm_H → Prop) (K20 : Nat → Int32 → Int32 → Int32 → Int32 → gm_H → Prop) (r0 : Nat) (x1 : Int32) (x4 : Int32) (x7 : Int32) (h : gm_H) : Prop :=
  w117_126 c d Post K20 r0 x1 x4 x7 x4 h
theorem ok117_120 (c : gx) (d : Nat) (Post : Option Value → gm_H → Prop) (K20 : Nat → Int32 → Int32 → Int32 → Int32 → gm_H → Prop)  (hK20 : ∀ (r0 : Nat) (x1 : Int32) (x2 : Int32) (x3 : Int32) (x4 : Int32) (h : gm_H), K20 r0 x1 x2 x3 x4 h → gV c d 117 (20, [some (.ref r0), some (.int x1), some (.int x2), some (.int x3), some (.int x4), none, none, none], [], h) Post) (r0 : Nat) (x1 : Int32) (x4 : Int32) (x7 : Int32) (h : gm_H) (w : w117_120 c d Post K20 r0 x1 x4 x7 h) : gV c d 117 (120, [some (.ref r0), some (.int x1), none, none, some (.int x4), none, none, some (.int x7)], [], h) Post := by
  have hk : ∀ pc i, gm_find gk_117 pc = some i → gm_code (gt_T c.1 c.2.1 c.2.2.1) 117 pc = some i := fun _ _ z => z
  unfold w117_120 at w
  unfold gV
  refine gw_pst hk 4 (st' := (126, [some (.ref r0), some (.int x1), some (.int x4), some (.int x7), some (.int x4), none, none, some (.int x7)], [], h)) rfl ?_
  refine gw_le (L' := [some (.ref r0), some (.int x1), some (.int x4), some (.int x7), some (.int x4), none, none, none]) (gm_le_k _ (gm_le_k _ (gm_le_k _ (gm_le_k _ (gm_le_k _ (gm_le_k _ (gm_le_k _ (gm_le_n _ gm_le_nil)))))))) ?_
  exact ok117_126 c d Post K20 hK20 _ _ _ _ _ _ w
def wb117_20 (c : gx) (d : Nat) (Post : Option Value → gm_H → Prop) (K20 : Nat → Int32 → Int32 → Int32 → Int32 → gm_H → Prop) (r0 : Nat) (x1 : Int32) (x2 : Int32) (x3 : Int32) (x4 : Int32) (h : gm_H) : Prop :=
  ((x1 ≤ x4 → ((x2 = (-1) → Post (some (.int (-2))) h) ∧ (¬ (x2 = (-1)) → ∃ q_3 : Nat, gm_fld h r0 9 11 = some (.ref q_3) ∧ (∃ fs4, gm_get h q_3 = some (.inr (5, fs4))) ∧ gE c d 45 [.ref q_3, .long ((501 + x3 : Int32).toInt64)] h (fun v4 h_4 => v4 = none ∧ Post (some (.int x2)) h_4)))) ∧ (¬ (x1 ≤ x4) → ∃ q_5 : Nat, gm_fld h r0 9 5 = some (.ref q_5) ∧ ∃ x_6 : Int32, gm_fld h q_5 6 0 = some (.int x_6) ∧ ∃ q_7 : Nat, gm_fld h r0 9 5 = some (.ref q_7) ∧ (∃ fs8, gm_get h q_7 = some (.inr (6, fs8))) ∧ gE c d 51 [.ref q_7, .int (x_6 + x4)] h (fun v8 h_8 => ∃ x_8 : Int32, v8 = some (.int x_8) ∧ ((x_8 = (-1) → w117_126 c d Post K20 r0 x1 x2 x3 x4 h_8) ∧ (¬ (x_8 = (-1)) → (∃ fs10, gm_get h_8 r0 = some (.inr (9, fs10))) ∧ gE c d 148 [.ref r0, .int x_8] h_8 (fun v10 h_10 => ∃ q_10 : Nat, v10 = some (.ref q_10) ∧ ∃ q_11 : Nat, gm_fld h_10 r0 9 5 = some (.ref q_11) ∧ ∃ x_12 : Int32, gm_fld h_10 q_11 6 1 = some (.int x_12) ∧ ∃ q_13 : Nat, gm_fld h_10 r0 9 5 = some (.ref q_13) ∧ ∃ x_14 : Int32, gm_fld h_10 q_13 6 2 = some (.int x_14) ∧ (∃ fs15, gm_get h_10 r0 = some (.inr (9, fs15))) ∧ gE c d 149 [.ref r0, .int x_12, .int x_14] h_10 (fun v15 h_15 => ∃ x_15 : Int32, v15 = some (.int x_15) ∧ ∃ q_16 : Nat, gm_fld h_15 r0 9 5 = some (.ref q_16) ∧ ∃ x_17 : Int32, gm_fld h_15 q_16 6 3 = some (.int x_17) ∧ ∃ q_18 : Nat, gm_fld h_15 r0 9 5 = some (.ref q_18) ∧ ∃ x_19 : Int32, gm_fld h_15 q_18 6 4 = some (.int x_19) ∧ ∃ q_20 : Nat, gm_fld h_15 r0 9 5 = some (.ref q_20) ∧ ∃ x_21 : Int32, gm_fld h_15 q_20 6 5 = some (.int x_21) ∧ (∃ fs22, gm_get h_15 r0 = some (.inr (9, fs22))) ∧ gE c d 151 [.ref r0, .ref q_10, .int x_15, .int x_17, .int x_19, .int x_21, .int (x_6 + x4), .int 0] h_15 (fun v22 h_22 => ∃ x_22 : Int32, v22 = some (.int x_22) ∧ ((x2 = (-1) → w117_120 c d Post K20 r0 x1 x4 x_22 h_22) ∧ (¬ (x2 = (-1)) → ((x3 ≤ x_22 → w117_126 c d Post K20 r0 x1 x2 x3 x4 h_22) ∧ (¬ (x3 ≤ x_22) → w117_120 c d Post K20 r0 x1 x4 x_22 h_22))))))))))))
theorem okb117_20 (c : gx) (d : Nat) (Post : Option Value → gm_H → Prop) (K20 : Nat → Int32 → Int32 → Int32 → Int32 → gm_H → Prop)  (hK20 : ∀ (r0 : Nat) (x1 : Int32) (x2 : Int32) (x3 : Int32) (x4 : Int32) (h : gm_H), K20 r0 x1 x2 x3 x4 h → gV c d 117 (20, [some (.ref r0), some (.int x1), some (.int x2), some (.int x3), some (.int x4), none, none, none], [], h) Post) (r0 : Nat) (x1 : Int32) (x2 : Int32) (x3 : Int32) (x4 : Int32) (h : gm_H) (w : wb117_20 c d Post K20 r0 x1 x2 x3 x4 h) : gV c d 117 (20, [some (.ref r0), some (.int x1), some (.int x2), some (.int x3), some (.int x4), none, none, none], [], h) Post := by
  have hk : ∀ pc i, gm_find gk_117 pc = some i → gm_code (gt_T c.1 c.2.1 c.2.2.1) 117 pc = some i := fun _ _ z => z
  unfold wb117_20 at w
  unfold gV
  refine gw_pst hk 2 (st' := (23, [some (.ref r0), some (.int x1), some (.int x2), some (.int x3), some (.int x4), none, none, none], [.int x1, .int x4], h)) rfl ?_
  refine gw_br (c := x1 ≤ x4) (a := (132, [some (.ref r0), some (.int x1), some (.int x2), some (.int x3), some (.int x4), none, none, none], [], h)) (b := (26, [some (.ref r0), some (.int x1), some (.int x2), some (.int x3), some (.int x4), none, none, none], [], h)) (hk _ _ rfl) rfl ⟨fun z1 => ?_, fun z1 => ?_⟩
  · replace w := w.1 z1
    refine gw_pst hk 2 (st' := (134, [some (.ref r0), some (.int x1), some (.int x2), some (.int x3), some (.int x4), none, none, none], [.int (-1), .int x2], h)) rfl ?_
    refine gw_br (c := x2 = (-1)) (a := (137, [some (.ref r0), some (.int x1), some (.int x2), some (.int x3), some (.int x4), none, none, none], [], h)) (b := (140, [some (.ref r0), some (.int x1), some (.int x2), some (.int x3), some (.int x4), none, none, none], [], h)) (hk _ _ rfl) rfl ⟨fun z2 => ?_, fun z2 => ?_⟩
    · replace w := w.1 z2
      refine gw_pst hk 1 (st' := (139, [some (.ref r0), some (.int x1), some (.int x2), some (.int x3), some (.int x4), none, none, none], [.int (-2)], h)) rfl ?_
      exact gw_ret (hk _ _ rfl) rfl w
    · replace w := w.2 z2
      refine gw_pst hk 1 (st' := (141, [some (.ref r0), some (.int x1), some (.int x2), some (.int x3), some (.int x4), none, none, none], [.ref r0], h)) rfl ?_
      obtain ⟨q_3, e3, w⟩ := w
      refine gw_gf (hk _ _ rfl) e3 ?_
      refine gw_pst hk 4 (st' := (150, [some (.ref r0), some (.int x1), some (.int x2), some (.int x3), some (.int x4), none, none, none], [.long ((501 + x3 : Int32).toInt64), .ref q_3], h)) rfl ?_
      obtain ⟨⟨fs4, e4⟩, w⟩ := w
      refine gw_call (jj := 45) (As := [.ref q_3, .long ((501 + x3 : Int32).toInt64)]) (rest := []) (hk _ _ rfl) (fun _ => rfl) rfl rfl (Nat.le_of_ble_eq_true rfl) (gm_rcv_v rfl e4 rfl) ?_
      refine ge_imp w (fun v4 h_4 w => ?_)
      obtain ⟨rfl, w⟩ := w
      show gV c d 117 (153, [some (.ref r0), some (.int x1), some (.int x2), some (.int x3), some (.int x4), none, none, none], [], h_4) Post
      refine gw_pst hk 1 (st' := (154, [some (.ref r0), some (.int x1), some (.int x2), some (.int x3), some (.int x4), none, none, none], [.int x2], h_4)) rfl ?_
      exact gw_ret (hk _ _ rfl) rfl w
  · replace w := w.2 z1
    refine gw_pst hk 1 (st' := (27, [some (.ref r0), some (.int x1), some (.int x2), some (.int x3), some (.int x4), none, none, none], [.ref r0], h)) rfl ?_
    obtain ⟨q_5, e5, w⟩ := w
    refine gw_gf (hk _ _ rfl) e5 ?_
    obtain ⟨x_6, e6, w⟩ := w
    refine gw_gf (hk _ _ rfl) e6 ?_
    refine gw_pst hk 4 (st' := (39, [some (.ref r0), some (.int x1), some (.int x2), some (.int x3), some (.int x4), some (.int (x_6 + x4)), none, none], [.ref r0], h)) rfl ?_
    obtain ⟨q_7, e7, w⟩ := w
    refine gw_gf (hk _ _ rfl) e7 ?_
    refine gw_pst hk 1 (st' := (44, [some (.ref r0), some (.int x1), some (.int x2), some (.int x3), some (.int x4), some (.int (x_6 + x4)), none, none], [.int (x_6 + x4), .ref q_7], h)) rfl ?_
    obtain ⟨⟨fs8, e8⟩, w⟩ := w
    refine gw_call (jj := 51) (As := [.ref q_7, .int (x_6 + x4)]) (rest := []) (hk _ _ rfl) (fun _ => rfl) rfl rfl (Nat.le_of_ble_eq_true rfl) (gm_rcv_v rfl e8 rfl) ?_
    refine ge_imp w (fun v8 h_8 w => ?_)
    obtain ⟨x_8, rfl, w⟩ := w
    show gV c d 117 (47, [some (.ref r0), some (.int x1), some (.int x2), some (.int x3), some (.int x4), some (.int (x_6 + x4)), none, none], [.int x_8], h_8) Post
    refine gw_pst hk 3 (st' := (52, [some (.ref r0), some (.int x1), some (.int x2), some (.int x3), some (.int x4), some (.int (x_6 + x4)), some (.int x_8), none], [.int (-1), .int x_8], h_8)) rfl ?_
    refine gw_br (c := x_8 = (-1)) (a := (126, [some (.ref r0), some (.int x1), some (.int x2), some (.int x3), some (.int x4), some (.int (x_6 + x4)), some (.int x_8), none], [], h_8)) (b := (55, [some (.ref r0), some (.int x1), some (.int x2), some (.int x3), some (.int x4), some (.int (x_6 + x4)), some (.int x_8), none], [], h_8)) (hk _ _ rfl) rfl ⟨fun z9 => ?_, fun z9 => ?_⟩
    · replace w := w.1 z9
      refine gw_le (L' := [some (.ref r0), some (.int x1), some (.int x2), some (.int x3), some (.int x4), none, none, none]) (gm_le_k _ (gm_le_k _ (gm_le_k _ (gm_le_k _ (gm_le_k _ (gm_le_n _ (gm_le_n _ (gm_le_k _ gm_le_nil)))))))) ?_
      exact ok117_126 c d Post K20 hK20 _ _ _ _ _ _ w
    · replace w := w.2 z9
      refine gw_pst hk 3 (st' := (59, [some (.ref r0), some (.int x1), some (.int x2), some (.int x3), some (.int x4), some (.int (x_6 + x4)), some (.int x_8), none], [.int x_8, .ref r0, .ref r0], h_8)) rfl ?_
      obtain ⟨⟨fs10, e10⟩, w⟩ := w
      refine gw_call (jj := 148) (As := [.ref r0, .int x_8]) (rest := [.ref r0]) (hk _ _ rfl) (fun _ => rfl) rfl rfl (Nat.le_of_ble_eq_true rfl) (gm_rcv_v rfl e10 rfl) ?_
      refine ge_imp w (fun v10 h_10 w => ?_)
      obtain ⟨q_10, rfl, w⟩ := w
      show gV c d 117 (62, [some (.ref r0), some (.int x1), some (.int x2), some (.int x3), some (.int x4), some (.int (x_6 + x4)), some (.int x_8), none], [.ref q_10, .ref r0], h_10) Post
      refine gw_pst hk 2 (st' := (64, [some (.ref r0), some (.int x1), some (.int x2), some (.int x3), some (.int x4), some (.int (x_6 + x4)), some (.int x_8), none], [.ref r0, .ref r0, .ref q_10, .ref r0], h_10)) rfl ?_
      obtain ⟨q_11, e11, w⟩ := w
      refine gw_gf (hk _ _ rfl) e11 ?_
      obtain ⟨x_12, e12, w⟩ := w
      refine gw_gf (hk _ _ rfl) e12 ?_
      refine gw_pst hk 1 (st' := (71, [some (.ref r0), some (.int x1), some (.int x2), some (.int x3), some (.int x4), some (.int (x_6 + x4)), some (.int x_8), none], [.ref r0, .int x_12, .ref r0, .ref q_10, .ref r0], h_10)) rfl ?_
      obtain ⟨q_13, e13, w⟩ := w
      refine gw_gf (hk _ _ rfl) e13 ?_
      obtain ⟨x_14, e14, w⟩ := w
      refine gw_gf (hk _ _ rfl) e14 ?_
      obtain ⟨⟨fs15, e15⟩, w⟩ := w
      refine gw_call (jj := 149) (As := [.ref r0, .int x_12, .int x_14]) (rest := [.ref q_10, .ref r0]) (hk _ _ rfl) (fun _ => rfl) rfl rfl (Nat.le_of_ble_eq_true rfl) (gm_rcv_v rfl e15 rfl) ?_
      refine ge_imp w (fun v15 h_15 w => ?_)
      obtain ⟨x_15, rfl, w⟩ := w
      show gV c d 117 (80, [some (.ref r0), some (.int x1), some (.int x2), some (.int x3), some (.int x4), some (.int (x_6 + x4)), some (.int x_8), none], [.int x_15, .ref q_10, .ref r0], h_15) Post
      refine gw_pst hk 1 (st' := (81, [some (.ref r0), some (.int x1), some (.int x2), some (.int x3), some (.int x4), some (.int (x_6 + x4)), some (.int x_8), none], [.ref r0, .int x_15, .ref q_10, .ref r0], h_15)) rfl ?_
      obtain ⟨q_16, e16, w⟩ := w
      refine gw_gf (hk _ _ rfl) e16 ?_
      obtain ⟨x_17, e17, w⟩ := w
      refine gw_gf (hk _ _ rfl) e17 ?_
      refine gw_pst hk 1 (st' := (88, [some (.ref r0), some (.int x1), some (.int x2), some (.int x3), some (.int x4), some (.int (x_6 + x4)), some (.int x_8), none], [.ref r0, .int x_17, .int x_15, .ref q_10, .ref r0], h_15)) rfl ?_
      obtain ⟨q_18, e18, w⟩ := w
      refine gw_gf (hk _ _ rfl) e18 ?_
      obtain ⟨x_19, e19, w⟩ := w
      refine gw_gf (hk _ _ rfl) e19 ?_
      refine gw_pst hk 1 (st' := (95, [some (.ref r0), some (.int x1), some (.int x2), some (.int x3), some (.int x4), some (.int (x_6 + x4)), some (.int x_8), none], [.ref r0, .int x_19, .int x_17, .int x_15, .ref q_10, .ref r0], h_15)) rfl ?_
      obtain ⟨q_20, e20, w⟩ := w
      refine gw_gf (hk _ _ rfl) e20 ?_
      obtain ⟨x_21, e21, w⟩ := w
      refine gw_gf (hk _ _ rfl) e21 ?_
      refine gw_pst hk 2 (st' := (104, [some (.ref r0), some (.int x1), some (.int x2), some (.int x3), some (.int x4), some (.int (x_6 + x4)), some (.int x_8), none], [.int 0, .int (x_6 + x4), .int x_21, .int x_19, .int x_17, .int x_15, .ref q_10, .ref r0], h_15)) rfl ?_
      obtain ⟨⟨fs22, e22⟩, w⟩ := w
      refine gw_call (jj := 151) (As := [.ref r0, .ref q_10, .int x_15, .int x_17, .int x_19, .int x_21, .int (x_6 + x4), .int 0]) (rest := []) (hk _ _ rfl) (fun _ => rfl) rfl rfl (Nat.le_of_ble_eq_true rfl) (gm_rcv_v rfl e22 rfl) ?_
      refine ge_imp w (fun v22 h_22 w => ?_)
      obtain ⟨x_22, rfl, w⟩ := w
      show gV c d 117 (107, [some (.ref r0), some (.int x1), some (.int x2), some (.int x3), some (.int x4), some (.int (x_6 + x4)), some (.int x_8), none], [.int x_22], h_22) Post
      refine gw_pst hk 3 (st' := (111, [some (.ref r0), some (.int x1), some (.int x2), some (.int x3), some (.int x4), some (.int (x_6 + x4)), some (.int x_8), some (.int x_22)], [.int (-1), .int x2], h_22)) rfl ?_
      refine gw_br (c := x2 = (-1)) (a := (120, [some (.ref r0), some (.int x1), some (.int x2), some (.int x3), some (.int x4), some (.int (x_6 + x4)), some (.int x_8), some (.int x_22)], [], h_22)) (b := (114, [some (.ref r0), some (.int x1), some (.int x2), some (.int x3), some (.int x4), some (.int (x_6 + x4)), some (.int x_8), some (.int x_22)], [], h_22)) (hk _ _ rfl) rfl ⟨fun z23 => ?_, fun z23 => ?_⟩
      · replace w := w.1 z23
        refine gw_le (L' := [some (.ref r0), some (.int x1), none, none, some (.int x4), none, none, some (.int x_22)]) (gm_le_k _ (gm_le_k _ (gm_le_n _ (gm_le_n _ (gm_le_k _ (gm_le_n _ (gm_le_n _ (gm_le_k _ gm_le_nil)))))))) ?_
        exact ok117_120 c d Post K20 hK20 _ _ _ _ _ w
      · replace w := w.2 z23
        refine gw_pst hk 2 (st' := (117, [some (.ref r0), some (.int x1), some (.int x2), some (.int x3), some (.int x4), some (.int (x_6 + x4)), some (.int x_8), some (.int x_22)], [.int x3, .int x_22], h_22)) rfl ?_
        refine gw_br (c := x3 ≤ x_22) (a := (126, [some (.ref r0), some (.int x1), some (.int x2), some (.int x3), some (.int x4), some (.int (x_6 + x4)), some (.int x_8), some (.int x_22)], [], h_22)) (b := (120, [some (.ref r0), some (.int x1), some (.int x2), some (.int x3), some (.int x4), some (.int (x_6 + x4)), some (.int x_8), some (.int x_22)], [], h_22)) (hk _ _ rfl) rfl ⟨fun z24 => ?_, fun z24 => ?_⟩
        · replace w := w.1 z24
          refine gw_le (L' := [some (.ref r0), some (.int x1), some (.int x2), some (.int x3), some (.int x4), none, none, none]) (gm_le_k _ (gm_le_k _ (gm_le_k _ (gm_le_k _ (gm_le_k _ (gm_le_n _ (gm_le_n _ (gm_le_n _ gm_le_nil)))))))) ?_
          exact ok117_126 c d Post K20 hK20 _ _ _ _ _ _ w
        · replace w := w.2 z24
          refine gw_le (L' := [some (.ref r0), some (.int x1), none, none, some (.int x4), none, none, some (.int x_22)]) (gm_le_k _ (gm_le_k _ (gm_le_n _ (gm_le_n _ (gm_le_k _ (gm_le_n _ (gm_le_n _ (gm_le_k _ gm_le_nil)))))))) ?_
          exact ok117_120 c d Post K20 hK20 _ _ _ _ _ w
def wl117_20 (c : gx) (d : Nat) (Post : Option Value → gm_H → Prop) : Nat → Nat → Int32 → Int32 → Int32 → Int32 → gm_H → Prop
  | 0 => fun _ _ _ _ _ _ => False
  | n + 1 => wb117_20 c d Post (wl117_20 c d Post n)
theorem okl117_20 (c : gx) (d : Nat) (Post : Option Value → gm_H → Prop) : ∀ (n : Nat) (r0 : Nat) (x1 : Int32) (x2 : Int32) (x3 : Int32) (x4 : Int32) (h : gm_H), wl117_20 c d Post n r0 x1 x2 x3 x4 h → gV c d 117 (20, [some (.ref r0), some (.int x1), some (.int x2), some (.int x3), some (.int x4), none, none, none], [], h) Post
  | 0, _, _, _, _, _, _, w => w.elim
  | n + 1, r0, x1, x2, x3, x4, h, w => okb117_20 c d Post (wl117_20 c d Post n) (okl117_20 c d Post n) r0 x1 x2 x3 x4 h w
/-- CommandByTurns.offers(I)I -/
def wm117 (c : gx) (d : Nat) (Post : Option Value → gm_H → Prop) (r0 : Nat) (x1 : Int32) (h : gm_H) : Prop :=
  ((x1 < 1 → w117_11 c d Post h) ∧ (¬ (x1 < 1) → ((x1 ≤ 30 → ∃ n, wl117_20 c d Post n r0 x1 (-1) 0 0 h) ∧ (¬ (x1 ≤ 30) → w117_11 c d Post h))))
theorem okm117 (c : gx) (d : Nat) (Post : Option Value → gm_H → Prop) (r0 : Nat) (x1 : Int32) (h : gm_H) (w : wm117 c d Post r0 x1 h) : gE c (d + 1) 117 [.ref r0, .int x1] h Post := by
  have hk : ∀ pc i, gm_find gk_117 pc = some i → gm_code (gt_T c.1 c.2.1 c.2.2.1) 117 pc = some i := fun _ _ z => z
  unfold wm117 at w
  refine ge_of (by decide) (Nat.le_of_ble_eq_true rfl) ?_
  show gV c d 117 (0, [some (.ref r0), some (.int x1), none, none, none, none, none, none], [], h) Post
  unfold gV
  refine gw_pst hk 2 (st' := (2, [some (.ref r0), some (.int x1), none, none, none, none, none, none], [.int 1, .int x1], h)) rfl ?_
  refine gw_br (c := x1 < 1) (a := (11, [some (.ref r0), some (.int x1), none, none, none, none, none, none], [], h)) (b := (5, [some (.ref r0), some (.int x1), none, none, none, none, none, none], [], h)) (hk _ _ rfl) rfl ⟨fun z1 => ?_, fun z1 => ?_⟩
  · replace w := w.1 z1
    refine gw_le (L' := [none, none, none, none, none, none, none, none]) (gm_le_n _ (gm_le_n _ (gm_le_k _ (gm_le_k _ (gm_le_k _ (gm_le_k _ (gm_le_k _ (gm_le_k _ gm_le_nil)))))))) ?_
    exact ok117_11 c d Post _ w
  · replace w := w.2 z1
    refine gw_pst hk 2 (st' := (8, [some (.ref r0), some (.int x1), none, none, none, none, none, none], [.int 30, .int x1], h)) rfl ?_
    refine gw_br (c := x1 ≤ 30) (a := (13, [some (.ref r0), some (.int x1), none, none, none, none, none, none], [], h)) (b := (11, [some (.ref r0), some (.int x1), none, none, none, none, none, none], [], h)) (hk _ _ rfl) rfl ⟨fun z2 => ?_, fun z2 => ?_⟩
    · replace w := w.1 z2
      refine gw_pst hk 6 (st' := (20, [some (.ref r0), some (.int x1), some (.int (-1)), some (.int 0), some (.int 0), none, none, none], [], h)) rfl ?_
      obtain ⟨n, w⟩ := w
      exact okl117_20 c d Post n _ _ _ _ _ _ w
    · replace w := w.2 z2
      refine gw_le (L' := [none, none, none, none, none, none, none, none]) (gm_le_n _ (gm_le_n _ (gm_le_k _ (gm_le_k _ (gm_le_k _ (gm_le_k _ (gm_le_k _ (gm_le_k _ gm_le_nil)))))))) ?_
      exact ok117_11 c d Post _ w
