/-! What must hold for a run to end with Post: by program (wip/whole/gen_wp.py). -/
def w100_23 (c : gx) (d : Nat) (Post : Option Value → gs → Prop) (xs0 : Int32) (s : gs) : Prop :=
  ((xs0 = 0 ∨ xs0 = 1) ∧ Post (some (.int xs0)) s)
theorem ok100_23 (c : gx) (d : Nat) (Post : Option Value → gs → Prop)  (xs0 : Int32) (s : gs) (w : w100_23 c d Post xs0 s) : tV c d 100 23 [none] [.int xs0] s Post := by
  intro h hR
  have hk : ∀ pc i, gm_find gk_100 pc = some i → gm_code (gt_T c.1 c.2.1 c.2.2.1) 100 pc = some i := fun _ _ z => z
  unfold w100_23 at w
  unfold gV
  exact gw_retZ (hk _ _ rfl) rfl w.1 ⟨_, hR, w.2⟩
def w100_18 (c : gx) (d : Nat) (Post : Option Value → gs → Prop)  (s : gs) : Prop :=
  w100_23 c d Post 1 s
theorem ok100_18 (c : gx) (d : Nat) (Post : Option Value → gs → Prop)   (s : gs) (w : w100_18 c d Post  s) : tV c d 100 18 [none] [] s Post := by
  intro h hR
  have hk : ∀ pc i, gm_find gk_100 pc = some i → gm_code (gt_T c.1 c.2.1 c.2.2.1) 100 pc = some i := fun _ _ z => z
  unfold w100_18 at w
  unfold gV
  refine gw_pst hk 2 (st' := (23, [none], [.int 1], h)) rfl ?_
  exact ok100_23 c d Post _ _ w _ hR
/-- CommandByTurns.isActOfTwo(C)Z -/
def wm100 (c : gx) (d : Nat) (Post : Option Value → gs → Prop) (x0 : Int32) (s : gs) : Prop :=
  ((x0 = 62 → w100_18 c d Post s) ∧ (¬ (x0 = 62) → ((x0 = 60 → w100_18 c d Post s) ∧ (¬ (x0 = 60) → ((x0 = 102 → w100_18 c d Post s) ∧ (¬ (x0 = 102) → w100_23 c d Post 0 s))))))
theorem okm100 (c : gx) (d : Nat) (Post : Option Value → gs → Prop) (x0 : Int32) (s : gs) (w : wm100 c d Post x0 s) : tE c (d + 1) 100 [.int x0] s Post := by
  intro h hR
  have hk : ∀ pc i, gm_find gk_100 pc = some i → gm_code (gt_T c.1 c.2.1 c.2.2.1) 100 pc = some i := fun _ _ z => z
  unfold wm100 at w
  refine ge_of (by decide) (Nat.le_of_ble_eq_true rfl) ?_
  show gw (gt_T c.1 c.2.1 c.2.2.1) c.2.2.2 d 100 (0, [some (.int x0)], [], h) _
  refine gw_pst hk 2 (st' := (3, [some (.int x0)], [.int 62, .int x0], h)) rfl ?_
  refine gw_br (c := x0 = 62) (a := (18, [some (.int x0)], [], h)) (b := (6, [some (.int x0)], [], h)) (hk _ _ rfl) rfl ⟨fun z1 => ?_, fun z1 => ?_⟩
  · replace w := w.1 z1
    refine gw_le (L' := [none]) (gm_le_n _ gm_le_nil) ?_
    exact ok100_18 c d Post _ w _ hR
  · replace w := w.2 z1
    refine gw_pst hk 2 (st' := (9, [some (.int x0)], [.int 60, .int x0], h)) rfl ?_
    refine gw_br (c := x0 = 60) (a := (18, [some (.int x0)], [], h)) (b := (12, [some (.int x0)], [], h)) (hk _ _ rfl) rfl ⟨fun z2 => ?_, fun z2 => ?_⟩
    · replace w := w.1 z2
      refine gw_le (L' := [none]) (gm_le_n _ gm_le_nil) ?_
      exact ok100_18 c d Post _ w _ hR
    · replace w := w.2 z2
      refine gw_pst hk 2 (st' := (15, [some (.int x0)], [.int 102, .int x0], h)) rfl ?_
      refine gw_br (c := x0 = 102) (a := (18, [some (.int x0)], [], h)) (b := (22, [some (.int x0)], [], h)) (hk _ _ rfl) rfl ⟨fun z3 => ?_, fun z3 => ?_⟩
      · replace w := w.1 z3
        refine gw_le (L' := [none]) (gm_le_n _ gm_le_nil) ?_
        exact ok100_18 c d Post _ w _ hR
      · replace w := w.2 z3
        refine gw_pst hk 1 (st' := (23, [some (.int x0)], [.int 0], h)) rfl ?_
        refine gw_le (L' := [none]) (gm_le_n _ gm_le_nil) ?_
        exact ok100_23 c d Post _ _ w _ hR
def w101_101 (c : gx) (d : Nat) (Post : Option Value → gs → Prop) (xs1 : Int32) (s : gs) : Prop :=
  tE c d 98 [.ref 0, .int xs1] s (fun v1 s_1 => ∃ x_1 : Int32, v1 = some (.int x_1) ∧ Post (some (.int x_1)) s_1)
theorem ok101_101 (c : gx) (d : Nat) (Post : Option Value → gs → Prop)  (xs1 : Int32) (s : gs) (w : w101_101 c d Post xs1 s) : tV c d 101 101 [none, none, none] [.int xs1, .ref 0] s Post := by
  intro h hR
  have hk : ∀ pc i, gm_find gk_101 pc = some i → gm_code (gt_T c.1 c.2.1 c.2.2.1) 101 pc = some i := fun _ _ z => z
  unfold w101_101 at w
  unfold gV
  obtain ⟨fs1, e1⟩ := RL_o hR (r := 0) (ci := 9) rfl
  refine gw_call (jj := 98) (As := [.ref 0, .int xs1]) (rest := []) (hk _ _ rfl) (fun _ => rfl) rfl rfl (Nat.le_of_ble_eq_true rfl) (gm_rcv_v rfl e1 rfl) ?_
  refine ge_imp (w h hR) (fun v1 h w => ?_)
  obtain ⟨s_1, hR, x_1, rfl, w⟩ := w
  show gw (gt_T c.1 c.2.1 c.2.2.1) c.2.2.2 d 101 (104, [none, none, none], [.int x_1], h) _
  exact gw_ret (hk _ _ rfl) rfl ⟨_, hR, w⟩
/-- CommandByTurns.act(CC)I -/
def wm101 (c : gx) (d : Nat) (Post : Option Value → gs → Prop) (x1 : Int32) (x2 : Int32) (s : gs) : Prop :=
  ((x1 = 60 → tE c d 95 [.ref 0, .int (48 - x2)] s (fun v2 s_2 => ∃ x_2 : Int32, v2 = some (.int x_2) ∧ Post (some (.int x_2)) s_2)) ∧ (x1 = 62 → tE c d 95 [.ref 0, .int (x2 - 48)] s (fun v3 s_3 => ∃ x_3 : Int32, v3 = some (.int x_3) ∧ Post (some (.int x_3)) s_3)) ∧ (x1 = 102 → ((x2 < 97 → w101_101 c d Post (x2 - 48) s) ∧ (¬ (x2 < 97) → w101_101 c d Post ((x2 - 97) + 10) s))) ∧ (x1 = 104 → tE c d 96 [.ref 0] s (fun v5 s_5 => ∃ x_5 : Int32, v5 = some (.int x_5) ∧ Post (some (.int x_5)) s_5)) ∧ (x1 = 120 → tE c d 97 [.ref 0] s (fun v6 s_6 => ∃ x_6 : Int32, v6 = some (.int x_6) ∧ Post (some (.int x_6)) s_6)) ∧ (¬ x1 = 60 ∧ ¬ x1 = 62 ∧ ¬ x1 = 102 ∧ ¬ x1 = 104 ∧ ¬ x1 = 120 → tE c d 99 [.ref 0, .int (gsV s 14 0)] s (fun v9 s_9 => ∃ x_9 : Int32, v9 = some (.int x_9) ∧ Post (some (.int x_9)) s_9)))
theorem okm101 (c : gx) (d : Nat) (Post : Option Value → gs → Prop) (x1 : Int32) (x2 : Int32) (s : gs) (w : wm101 c d Post x1 x2 s) : tE c (d + 1) 101 [.ref 0, .int x1, .int x2] s Post := by
  intro h hR
  have hk : ∀ pc i, gm_find gk_101 pc = some i → gm_code (gt_T c.1 c.2.1 c.2.2.1) 101 pc = some i := fun _ _ z => z
  unfold wm101 at w
  refine ge_of (by decide) (Nat.le_of_ble_eq_true rfl) ?_
  show gw (gt_T c.1 c.2.1 c.2.2.1) c.2.2.2 d 101 (0, [some (.ref 0), some (.int x1), some (.int x2)], [], h) _
  refine gw_pst hk 1 (st' := (1, [some (.ref 0), some (.int x1), some (.int x2)], [.int x1], h)) rfl ?_
  by_cases z1_0 : x1 = 60
  · replace w := w.1 z1_0
    refine gw_swk (st' := (61, [some (.ref 0), some (.int x1), some (.int x2)], [], h)) (hk _ _ rfl) z1_0 rfl ?_
    refine gw_pst hk 4 (st' := (66, [some (.ref 0), some (.int x1), some (.int x2)], [.int (48 - x2), .ref 0], h)) rfl ?_
    obtain ⟨fs2, e2⟩ := RL_o hR (r := 0) (ci := 9) rfl
    refine gw_call (jj := 95) (As := [.ref 0, .int (48 - x2)]) (rest := []) (hk _ _ rfl) (fun _ => rfl) rfl rfl (Nat.le_of_ble_eq_true rfl) (gm_rcv_v rfl e2 rfl) ?_
    refine ge_imp (w h hR) (fun v2 h w => ?_)
    obtain ⟨s_2, hR, x_2, rfl, w⟩ := w
    show gw (gt_T c.1 c.2.1 c.2.2.1) c.2.2.2 d 101 (69, [some (.ref 0), some (.int x1), some (.int x2)], [.int x_2], h) _
    exact gw_ret (hk _ _ rfl) rfl ⟨_, hR, w⟩
  by_cases z1_1 : x1 = 62
  · replace w := w.2.1 z1_1
    refine gw_swk (st' := (52, [some (.ref 0), some (.int x1), some (.int x2)], [], h)) (hk _ _ rfl) z1_1 rfl ?_
    refine gw_pst hk 4 (st' := (57, [some (.ref 0), some (.int x1), some (.int x2)], [.int (x2 - 48), .ref 0], h)) rfl ?_
    obtain ⟨fs3, e3⟩ := RL_o hR (r := 0) (ci := 9) rfl
    refine gw_call (jj := 95) (As := [.ref 0, .int (x2 - 48)]) (rest := []) (hk _ _ rfl) (fun _ => rfl) rfl rfl (Nat.le_of_ble_eq_true rfl) (gm_rcv_v rfl e3 rfl) ?_
    refine ge_imp (w h hR) (fun v3 h w => ?_)
    obtain ⟨s_3, hR, x_3, rfl, w⟩ := w
    show gw (gt_T c.1 c.2.1 c.2.2.1) c.2.2.2 d 101 (60, [some (.ref 0), some (.int x1), some (.int x2)], [.int x_3], h) _
    exact gw_ret (hk _ _ rfl) rfl ⟨_, hR, w⟩
  by_cases z1_2 : x1 = 102
  · replace w := w.2.2.1 z1_2
    refine gw_swk (st' := (80, [some (.ref 0), some (.int x1), some (.int x2)], [], h)) (hk _ _ rfl) z1_2 rfl ?_
    refine gw_pst hk 3 (st' := (84, [some (.ref 0), some (.int x1), some (.int x2)], [.int 97, .int x2, .ref 0], h)) rfl ?_
    refine gw_br (c := x2 < 97) (a := (97, [some (.ref 0), some (.int x1), some (.int x2)], [.ref 0], h)) (b := (87, [some (.ref 0), some (.int x1), some (.int x2)], [.ref 0], h)) (hk _ _ rfl) rfl ⟨fun z4 => ?_, fun z4 => ?_⟩
    · replace w := w.1 z4
      refine gw_pst hk 3 (st' := (101, [some (.ref 0), some (.int x1), some (.int x2)], [.int (x2 - 48), .ref 0], h)) rfl ?_
      refine gw_le (L' := [none, none, none]) (gm_le_n _ (gm_le_n _ (gm_le_n _ gm_le_nil))) ?_
      exact ok101_101 c d Post _ _ w _ hR
    · replace w := w.2 z4
      refine gw_pst hk 6 (st' := (101, [some (.ref 0), some (.int x1), some (.int x2)], [.int ((x2 - 97) + 10), .ref 0], h)) rfl ?_
      refine gw_le (L' := [none, none, none]) (gm_le_n _ (gm_le_n _ (gm_le_n _ gm_le_nil))) ?_
      exact ok101_101 c d Post _ _ w _ hR
  by_cases z1_3 : x1 = 104
  · replace w := w.2.2.2.1 z1_3
    refine gw_swk (st' := (70, [some (.ref 0), some (.int x1), some (.int x2)], [], h)) (hk _ _ rfl) z1_3 rfl ?_
    refine gw_pst hk 1 (st' := (71, [some (.ref 0), some (.int x1), some (.int x2)], [.ref 0], h)) rfl ?_
    obtain ⟨fs5, e5⟩ := RL_o hR (r := 0) (ci := 9) rfl
    refine gw_call (jj := 96) (As := [.ref 0]) (rest := []) (hk _ _ rfl) (fun _ => rfl) rfl rfl (Nat.le_of_ble_eq_true rfl) (gm_rcv_v rfl e5 rfl) ?_
    refine ge_imp (w h hR) (fun v5 h w => ?_)
    obtain ⟨s_5, hR, x_5, rfl, w⟩ := w
    show gw (gt_T c.1 c.2.1 c.2.2.1) c.2.2.2 d 101 (74, [some (.ref 0), some (.int x1), some (.int x2)], [.int x_5], h) _
    exact gw_ret (hk _ _ rfl) rfl ⟨_, hR, w⟩
  by_cases z1_4 : x1 = 120
  · replace w := w.2.2.2.2.1 z1_4
    refine gw_swk (st' := (75, [some (.ref 0), some (.int x1), some (.int x2)], [], h)) (hk _ _ rfl) z1_4 rfl ?_
    refine gw_pst hk 1 (st' := (76, [some (.ref 0), some (.int x1), some (.int x2)], [.ref 0], h)) rfl ?_
    obtain ⟨fs6, e6⟩ := RL_o hR (r := 0) (ci := 9) rfl
    refine gw_call (jj := 97) (As := [.ref 0]) (rest := []) (hk _ _ rfl) (fun _ => rfl) rfl rfl (Nat.le_of_ble_eq_true rfl) (gm_rcv_v rfl e6 rfl) ?_
    refine ge_imp (w h hR) (fun v6 h w => ?_)
    obtain ⟨s_6, hR, x_6, rfl, w⟩ := w
    show gw (gt_T c.1 c.2.1 c.2.2.1) c.2.2.2 d 101 (79, [some (.ref 0), some (.int x1), some (.int x2)], [.int x_6], h) _
    exact gw_ret (hk _ _ rfl) rfl ⟨_, hR, w⟩
  replace w := w.2.2.2.2.2 ⟨z1_0, z1_1, z1_2, z1_3, z1_4⟩
  refine gw_lsd (st' := (105, [some (.ref 0), some (.int x1), some (.int x2)], [], h)) (hk _ _ rfl) (by
      have y0 : ¬ 60 = (x1 : Int32).toInt := fun z => z1_0 (Int32.toInt_inj.mp z.symm)
      have y1 : ¬ 62 = (x1 : Int32).toInt := fun z => z1_1 (Int32.toInt_inj.mp z.symm)
      have y2 : ¬ 102 = (x1 : Int32).toInt := fun z => z1_2 (Int32.toInt_inj.mp z.symm)
      have y3 : ¬ 104 = (x1 : Int32).toInt := fun z => z1_3 (Int32.toInt_inj.mp z.symm)
      have y4 : ¬ 120 = (x1 : Int32).toInt := fun z => z1_4 (Int32.toInt_inj.mp z.symm)
      simp [Op.lookupswitch.offset, y0, y1, y2, y3, y4]) rfl ?_
  refine gw_pst hk 2 (st' := (107, [some (.ref 0), some (.int x1), some (.int x2)], [.ref 0, .ref 0], h)) rfl ?_
  refine gw_gf (hk _ _ rfl) (RL_fR (n := 14) hR rfl) ?_
  refine gw_gf (hk _ _ rfl) (RL_fI hR rfl) ?_
  obtain ⟨fs9, e9⟩ := RL_o hR (r := 0) (ci := 9) rfl
  refine gw_call (jj := 99) (As := [.ref 0, .int (gsV s 14 0)]) (rest := []) (hk _ _ rfl) (fun _ => rfl) rfl rfl (Nat.le_of_ble_eq_true rfl) (gm_rcv_v rfl e9 rfl) ?_
  refine ge_imp (w h hR) (fun v9 h w => ?_)
  obtain ⟨s_9, hR, x_9, rfl, w⟩ := w
  show gw (gt_T c.1 c.2.1 c.2.2.1) c.2.2.2 d 101 (116, [some (.ref 0), some (.int x1), some (.int x2)], [.int x_9], h) _
  exact gw_ret (hk _ _ rfl) rfl ⟨_, hR, w⟩
def w102_140 (c : gx) (d : Nat) (Post : Option Value → gs → Prop) (K17 : Int32 → Int32 → Int32 → gs → Prop) (x1 : Int32) (x2 : Int32) (x3 : Int32) (s : gs) : Prop :=
  K17 x1 x2 (x3 + 1) s
theorem ok102_140 (c : gx) (d : Nat) (Post : Option Value → gs → Prop) (K17 : Int32 → Int32 → Int32 → gs → Prop)  (hK17 : ∀ (x1 : Int32) (x2 : Int32) (x3 : Int32) (s : gs), K17 x1 x2 x3 s → tV c d 102 17 [some (.ref 0), some (.int x1), some (.int x2), some (.int x3), none, none] [] s Post) (x1 : Int32) (x2 : Int32) (x3 : Int32) (s : gs) (w : w102_140 c d Post K17 x1 x2 x3 s) : tV c d 102 140 [some (.ref 0), some (.int x1), some (.int x2), some (.int x3), none, none] [] s Post := by
  intro h hR
  have hk : ∀ pc i, gm_find gk_102 pc = some i → gm_code (gt_T c.1 c.2.1 c.2.2.1) 102 pc = some i := fun _ _ z => z
  unfold w102_140 at w
  unfold gV
  refine gw_pst hk 2 (st' := (17, [some (.ref 0), some (.int x1), some (.int x2), some (.int (x3 + 1)), none, none], [], h)) rfl ?_
  exact hK17 _ _ _ _ w _ hR
def w102_129 (c : gx) (d : Nat) (Post : Option Value → gs → Prop) (K17 : Int32 → Int32 → Int32 → gs → Prop) (x1 : Int32) (x3 : Int32) (xs0 : Int32) (s : gs) : Prop :=
  ((xs0 = 0 → Post (some (.int x3)) s) ∧ (¬ (xs0 = 0) → w102_140 c d Post K17 x1 0 x3 s))
theorem ok102_129 (c : gx) (d : Nat) (Post : Option Value → gs → Prop) (K17 : Int32 → Int32 → Int32 → gs → Prop)  (hK17 : ∀ (x1 : Int32) (x2 : Int32) (x3 : Int32) (s : gs), K17 x1 x2 x3 s → tV c d 102 17 [some (.ref 0), some (.int x1), some (.int x2), some (.int x3), none, none] [] s Post) (x1 : Int32) (x3 : Int32) (xs0 : Int32) (s : gs) (w : w102_129 c d Post K17 x1 x3 xs0 s) : tV c d 102 129 [some (.ref 0), some (.int x1), none, some (.int x3), none, none] [.int xs0] s Post := by
  intro h hR
  have hk : ∀ pc i, gm_find gk_102 pc = some i → gm_code (gt_T c.1 c.2.1 c.2.2.1) 102 pc = some i := fun _ _ z => z
  unfold w102_129 at w
  unfold gV
  refine gw_pst hk 2 (st' := (133, [some (.ref 0), some (.int x1), none, some (.int x3), none, some (.int xs0)], [.int xs0], h)) rfl ?_
  refine gw_br (c := xs0 = 0) (a := (136, [some (.ref 0), some (.int x1), none, some (.int x3), none, some (.int xs0)], [], h)) (b := (138, [some (.ref 0), some (.int x1), none, some (.int x3), none, some (.int xs0)], [], h)) (hk _ _ rfl) rfl ⟨fun z1 => ?_, fun z1 => ?_⟩
  · replace w := w.1 z1
    refine gw_pst hk 1 (st' := (137, [some (.ref 0), some (.int x1), none, some (.int x3), none, some (.int xs0)], [.int x3], h)) rfl ?_
    exact gw_ret (hk _ _ rfl) rfl ⟨_, hR, w⟩
  · replace w := w.2 z1
    refine gw_pst hk 2 (st' := (140, [some (.ref 0), some (.int x1), some (.int 0), some (.int x3), none, some (.int xs0)], [], h)) rfl ?_
    refine gw_le (L' := [some (.ref 0), some (.int x1), some (.int 0), some (.int x3), none, none]) (gm_le_k _ (gm_le_k _ (gm_le_k _ (gm_le_k _ (gm_le_k _ (gm_le_n _ gm_le_nil)))))) ?_
    exact ok102_140 c d Post K17 hK17 _ _ _ _ w _ hR
def w102_101 (c : gx) (d : Nat) (Post : Option Value → gs → Prop) (K17 : Int32 → Int32 → Int32 → gs → Prop) (x1 : Int32) (x3 : Int32) (s : gs) : Prop :=
  w102_129 c d Post K17 x1 x3 1 s
theorem ok102_101 (c : gx) (d : Nat) (Post : Option Value → gs → Prop) (K17 : Int32 → Int32 → Int32 → gs → Prop)  (hK17 : ∀ (x1 : Int32) (x2 : Int32) (x3 : Int32) (s : gs), K17 x1 x2 x3 s → tV c d 102 17 [some (.ref 0), some (.int x1), some (.int x2), some (.int x3), none, none] [] s Post) (x1 : Int32) (x3 : Int32) (s : gs) (w : w102_101 c d Post K17 x1 x3 s) : tV c d 102 101 [some (.ref 0), some (.int x1), none, some (.int x3), none, none] [] s Post := by
  intro h hR
  have hk : ∀ pc i, gm_find gk_102 pc = some i → gm_code (gt_T c.1 c.2.1 c.2.2.1) 102 pc = some i := fun _ _ z => z
  unfold w102_101 at w
  unfold gV
  refine gw_pst hk 2 (st' := (129, [some (.ref 0), some (.int x1), none, some (.int x3), none, none], [.int 1], h)) rfl ?_
  exact ok102_129 c d Post K17 hK17 _ _ _ _ w _ hR
def w102_128 (c : gx) (d : Nat) (Post : Option Value → gs → Prop) (K17 : Int32 → Int32 → Int32 → gs → Prop) (x1 : Int32) (x3 : Int32) (s : gs) : Prop :=
  w102_129 c d Post K17 x1 x3 0 s
theorem ok102_128 (c : gx) (d : Nat) (Post : Option Value → gs → Prop) (K17 : Int32 → Int32 → Int32 → gs → Prop)  (hK17 : ∀ (x1 : Int32) (x2 : Int32) (x3 : Int32) (s : gs), K17 x1 x2 x3 s → tV c d 102 17 [some (.ref 0), some (.int x1), some (.int x2), some (.int x3), none, none] [] s Post) (x1 : Int32) (x3 : Int32) (s : gs) (w : w102_128 c d Post K17 x1 x3 s) : tV c d 102 128 [some (.ref 0), some (.int x1), none, some (.int x3), none, none] [] s Post := by
  intro h hR
  have hk : ∀ pc i, gm_find gk_102 pc = some i → gm_code (gt_T c.1 c.2.1 c.2.2.1) 102 pc = some i := fun _ _ z => z
  unfold w102_128 at w
  unfold gV
  refine gw_pst hk 1 (st' := (129, [some (.ref 0), some (.int x1), none, some (.int x3), none, none], [.int 0], h)) rfl ?_
  exact ok102_129 c d Post K17 hK17 _ _ _ _ w _ hR
def w102_176 (c : gx) (d : Nat) (Post : Option Value → gs → Prop) (xs0 : Int32) (s : gs) : Prop :=
  Post (some (.int xs0)) s
theorem ok102_176 (c : gx) (d : Nat) (Post : Option Value → gs → Prop)  (xs0 : Int32) (s : gs) (w : w102_176 c d Post xs0 s) : tV c d 102 176 [none, none, none, none, none, none] [.int xs0] s Post := by
  intro h hR
  have hk : ∀ pc i, gm_find gk_102 pc = some i → gm_code (gt_T c.1 c.2.1 c.2.2.1) 102 pc = some i := fun _ _ z => z
  unfold w102_176 at w
  unfold gV
  exact gw_ret (hk _ _ rfl) rfl ⟨_, hR, w⟩
def wb102_17 (c : gx) (d : Nat) (Post : Option Value → gs → Prop) (K17 : Int32 → Int32 → Int32 → gs → Prop) (x1 : Int32) (x2 : Int32) (x3 : Int32) (s : gs) : Prop :=
  ((x1 ≤ x3 → (((gsV s 1 1) ≤ 60 → ((x2 = 0 → w102_176 c d Post (-1) s) ∧ (¬ (x2 = 0) → w102_176 c d Post (gsV s 1 1) s))) ∧ (¬ ((gsV s 1 1) ≤ 60) → Post (some (.int 60)) s))) ∧ (¬ (x1 ≤ x3) → tE c d 61 [.ref 1, .int x3] s (fun v9 s_9 => ∃ x_9 : Int32, v9 = some (.int x_9) ∧ ((x2 = 0 → tE c d 100 [.int x_9] s_9 (fun v11 s_11 => ∃ x_11 : Int32, v11 = some (.int x_11) ∧ ((x_11 = 0 → ((x_9 = 104 → w102_140 c d Post K17 x1 x2 x3 s_11) ∧ (¬ (x_9 = 104) → ((x_9 = 120 → w102_140 c d Post K17 x1 x2 x3 s_11) ∧ (¬ (x_9 = 120) → ((x_9 = 108 → w102_140 c d Post K17 x1 x2 x3 s_11) ∧ (¬ (x_9 = 108) → Post (some (.int x3)) s_11))))))) ∧ (¬ (x_11 = 0) → w102_140 c d Post K17 x1 x_9 x3 s_11)))) ∧ (¬ (x2 = 0) → ((x2 = 102 → tE c d 60 [.int x_9] s_9 (fun v17 s_17 => ∃ x_17 : Int32, v17 = some (.int x_17) ∧ ((x_17 = 0 → ((x_9 = 97 → w102_101 c d Post K17 x1 x3 s_17) ∧ (¬ (x_9 = 97) → ((x_9 = 98 → w102_101 c d Post K17 x1 x3 s_17) ∧ (¬ (x_9 = 98) → w102_129 c d Post K17 x1 x3 0 s_17))))) ∧ (¬ (x_17 = 0) → w102_101 c d Post K17 x1 x3 s_17)))) ∧ (¬ (x2 = 102) → tE c d 60 [.int x_9] s_9 (fun v21 s_21 => ∃ x_21 : Int32, v21 = some (.int x_21) ∧ ((x_21 = 0 → w102_128 c d Post K17 x1 x3 s_21) ∧ (¬ (x_21 = 0) → ((x_9 = 48 → w102_128 c d Post K17 x1 x3 s_21) ∧ (¬ (x_9 = 48) → w102_129 c d Post K17 x1 x3 1 s_21))))))))))))
theorem okb102_17 (c : gx) (d : Nat) (Post : Option Value → gs → Prop) (K17 : Int32 → Int32 → Int32 → gs → Prop)  (hK17 : ∀ (x1 : Int32) (x2 : Int32) (x3 : Int32) (s : gs), K17 x1 x2 x3 s → tV c d 102 17 [some (.ref 0), some (.int x1), some (.int x2), some (.int x3), none, none] [] s Post) (x1 : Int32) (x2 : Int32) (x3 : Int32) (s : gs) (w : wb102_17 c d Post K17 x1 x2 x3 s) : tV c d 102 17 [some (.ref 0), some (.int x1), some (.int x2), some (.int x3), none, none] [] s Post := by
  intro h hR
  have hk : ∀ pc i, gm_find gk_102 pc = some i → gm_code (gt_T c.1 c.2.1 c.2.2.1) 102 pc = some i := fun _ _ z => z
  unfold wb102_17 at w
  unfold gV
  refine gw_pst hk 2 (st' := (19, [some (.ref 0), some (.int x1), some (.int x2), some (.int x3), none, none], [.int x1, .int x3], h)) rfl ?_
  refine gw_br (c := x1 ≤ x3) (a := (146, [some (.ref 0), some (.int x1), some (.int x2), some (.int x3), none, none], [], h)) (b := (22, [some (.ref 0), some (.int x1), some (.int x2), some (.int x3), none, none], [], h)) (hk _ _ rfl) rfl ⟨fun z1 => ?_, fun z1 => ?_⟩
  · replace w := w.1 z1
    refine gw_pst hk 1 (st' := (147, [some (.ref 0), some (.int x1), some (.int x2), some (.int x3), none, none], [.ref 0], h)) rfl ?_
    refine gw_gf (hk _ _ rfl) (RL_fR (n := 1) hR rfl) ?_
    refine gw_gf (hk _ _ rfl) (RL_fI hR rfl) ?_
    refine gw_pst hk 1 (st' := (155, [some (.ref 0), some (.int x1), some (.int x2), some (.int x3), none, none], [.int 60, .int (gsV s 1 1)], h)) rfl ?_
    refine gw_br (c := (gsV s 1 1) ≤ 60) (a := (161, [some (.ref 0), some (.int x1), some (.int x2), some (.int x3), none, none], [], h)) (b := (158, [some (.ref 0), some (.int x1), some (.int x2), some (.int x3), none, none], [], h)) (hk _ _ rfl) rfl ⟨fun z4 => ?_, fun z4 => ?_⟩
    · replace w := w.1 z4
      refine gw_pst hk 1 (st' := (162, [some (.ref 0), some (.int x1), some (.int x2), some (.int x3), none, none], [.int x2], h)) rfl ?_
      refine gw_br (c := x2 = 0) (a := (165, [some (.ref 0), some (.int x1), some (.int x2), some (.int x3), none, none], [], h)) (b := (169, [some (.ref 0), some (.int x1), some (.int x2), some (.int x3), none, none], [], h)) (hk _ _ rfl) rfl ⟨fun z5 => ?_, fun z5 => ?_⟩
      · replace w := w.1 z5
        refine gw_pst hk 2 (st' := (176, [some (.ref 0), some (.int x1), some (.int x2), some (.int x3), none, none], [.int (-1)], h)) rfl ?_
        refine gw_le (L' := [none, none, none, none, none, none]) (gm_le_n _ (gm_le_n _ (gm_le_n _ (gm_le_n _ (gm_le_k _ (gm_le_k _ gm_le_nil)))))) ?_
        exact ok102_176 c d Post _ _ w _ hR
      · replace w := w.2 z5
        refine gw_pst hk 1 (st' := (170, [some (.ref 0), some (.int x1), some (.int x2), some (.int x3), none, none], [.ref 0], h)) rfl ?_
        refine gw_gf (hk _ _ rfl) (RL_fR (n := 1) hR rfl) ?_
        refine gw_gf (hk _ _ rfl) (RL_fI hR rfl) ?_
        refine gw_le (L' := [none, none, none, none, none, none]) (gm_le_n _ (gm_le_n _ (gm_le_n _ (gm_le_n _ (gm_le_k _ (gm_le_k _ gm_le_nil)))))) ?_
        exact ok102_176 c d Post _ _ w _ hR
    · replace w := w.2 z4
      refine gw_pst hk 1 (st' := (160, [some (.ref 0), some (.int x1), some (.int x2), some (.int x3), none, none], [.int 60], h)) rfl ?_
      exact gw_ret (hk _ _ rfl) rfl ⟨_, hR, w⟩
  · replace w := w.2 z1
    refine gw_pst hk 1 (st' := (23, [some (.ref 0), some (.int x1), some (.int x2), some (.int x3), none, none], [.ref 0], h)) rfl ?_
    refine gw_gf (hk _ _ rfl) (RL_fR (n := 1) hR rfl) ?_
    refine gw_pst hk 1 (st' := (27, [some (.ref 0), some (.int x1), some (.int x2), some (.int x3), none, none], [.int x3, .ref 1], h)) rfl ?_
    obtain ⟨fs9, e9⟩ := RL_o hR (r := 1) (ci := 7) rfl
    refine gw_call (jj := 61) (As := [.ref 1, .int x3]) (rest := []) (hk _ _ rfl) (fun _ => rfl) rfl rfl (Nat.le_of_ble_eq_true rfl) (gm_rcv_v rfl e9 rfl) ?_
    refine ge_imp (w h hR) (fun v9 h w => ?_)
    obtain ⟨s_9, hR, x_9, rfl, w⟩ := w
    show gw (gt_T c.1 c.2.1 c.2.2.1) c.2.2.2 d 102 (30, [some (.ref 0), some (.int x1), some (.int x2), some (.int x3), none, none], [.int x_9], h) _
    refine gw_pst hk 2 (st' := (33, [some (.ref 0), some (.int x1), some (.int x2), some (.int x3), some (.int x_9), none], [.int x2], h)) rfl ?_
    refine gw_br (c := x2 = 0) (a := (36, [some (.ref 0), some (.int x1), some (.int x2), some (.int x3), some (.int x_9), none], [], h)) (b := (73, [some (.ref 0), some (.int x1), some (.int x2), some (.int x3), some (.int x_9), none], [], h)) (hk _ _ rfl) rfl ⟨fun z10 => ?_, fun z10 => ?_⟩
    · replace w := w.1 z10
      refine gw_pst hk 1 (st' := (38, [some (.ref 0), some (.int x1), some (.int x2), some (.int x3), some (.int x_9), none], [.int x_9], h)) rfl ?_
      refine gw_call (jj := 100) (As := [.int x_9]) (rest := []) (hk _ _ rfl) (fun _ => rfl) rfl rfl (Nat.le_of_ble_eq_true rfl) rfl ?_
      refine ge_imp (w h hR) (fun v11 h w => ?_)
      obtain ⟨s_11, hR, x_11, rfl, w⟩ := w
      show gw (gt_T c.1 c.2.1 c.2.2.1) c.2.2.2 d 102 (41, [some (.ref 0), some (.int x1), some (.int x2), some (.int x3), some (.int x_9), none], [.int x_11], h) _
      refine gw_br (c := x_11 = 0) (a := (50, [some (.ref 0), some (.int x1), some (.int x2), some (.int x3), some (.int x_9), none], [], h)) (b := (44, [some (.ref 0), some (.int x1), some (.int x2), some (.int x3), some (.int x_9), none], [], h)) (hk _ _ rfl) rfl ⟨fun z12 => ?_, fun z12 => ?_⟩
      · replace w := w.1 z12
        refine gw_pst hk 2 (st' := (54, [some (.ref 0), some (.int x1), some (.int x2), some (.int x3), some (.int x_9), none], [.int 104, .int x_9], h)) rfl ?_
        refine gw_br (c := x_9 = 104) (a := (140, [some (.ref 0), some (.int x1), some (.int x2), some (.int x3), some (.int x_9), none], [], h)) (b := (57, [some (.ref 0), some (.int x1), some (.int x2), some (.int x3), some (.int x_9), none], [], h)) (hk _ _ rfl) rfl ⟨fun z13 => ?_, fun z13 => ?_⟩
        · replace w := w.1 z13
          refine gw_le (L' := [some (.ref 0), some (.int x1), some (.int x2), some (.int x3), none, none]) (gm_le_k _ (gm_le_k _ (gm_le_k _ (gm_le_k _ (gm_le_n _ (gm_le_k _ gm_le_nil)))))) ?_
          exact ok102_140 c d Post K17 hK17 _ _ _ _ w _ hR
        · replace w := w.2 z13
          refine gw_pst hk 2 (st' := (61, [some (.ref 0), some (.int x1), some (.int x2), some (.int x3), some (.int x_9), none], [.int 120, .int x_9], h)) rfl ?_
          refine gw_br (c := x_9 = 120) (a := (140, [some (.ref 0), some (.int x1), some (.int x2), some (.int x3), some (.int x_9), none], [], h)) (b := (64, [some (.ref 0), some (.int x1), some (.int x2), some (.int x3), some (.int x_9), none], [], h)) (hk _ _ rfl) rfl ⟨fun z14 => ?_, fun z14 => ?_⟩
          · replace w := w.1 z14
            refine gw_le (L' := [some (.ref 0), some (.int x1), some (.int x2), some (.int x3), none, none]) (gm_le_k _ (gm_le_k _ (gm_le_k _ (gm_le_k _ (gm_le_n _ (gm_le_k _ gm_le_nil)))))) ?_
            exact ok102_140 c d Post K17 hK17 _ _ _ _ w _ hR
          · replace w := w.2 z14
            refine gw_pst hk 2 (st' := (68, [some (.ref 0), some (.int x1), some (.int x2), some (.int x3), some (.int x_9), none], [.int 108, .int x_9], h)) rfl ?_
            refine gw_br (c := x_9 = 108) (a := (140, [some (.ref 0), some (.int x1), some (.int x2), some (.int x3), some (.int x_9), none], [], h)) (b := (71, [some (.ref 0), some (.int x1), some (.int x2), some (.int x3), some (.int x_9), none], [], h)) (hk _ _ rfl) rfl ⟨fun z15 => ?_, fun z15 => ?_⟩
            · replace w := w.1 z15
              refine gw_le (L' := [some (.ref 0), some (.int x1), some (.int x2), some (.int x3), none, none]) (gm_le_k _ (gm_le_k _ (gm_le_k _ (gm_le_k _ (gm_le_n _ (gm_le_k _ gm_le_nil)))))) ?_
              exact ok102_140 c d Post K17 hK17 _ _ _ _ w _ hR
            · replace w := w.2 z15
              refine gw_pst hk 1 (st' := (72, [some (.ref 0), some (.int x1), some (.int x2), some (.int x3), some (.int x_9), none], [.int x3], h)) rfl ?_
              exact gw_ret (hk _ _ rfl) rfl ⟨_, hR, w⟩
      · replace w := w.2 z12
        refine gw_pst hk 3 (st' := (140, [some (.ref 0), some (.int x1), some (.int x_9), some (.int x3), some (.int x_9), none], [], h)) rfl ?_
        refine gw_le (L' := [some (.ref 0), some (.int x1), some (.int x_9), some (.int x3), none, none]) (gm_le_k _ (gm_le_k _ (gm_le_k _ (gm_le_k _ (gm_le_n _ (gm_le_k _ gm_le_nil)))))) ?_
        exact ok102_140 c d Post K17 hK17 _ _ _ _ w _ hR
    · replace w := w.2 z10
      refine gw_pst hk 2 (st' := (76, [some (.ref 0), some (.int x1), some (.int x2), some (.int x3), some (.int x_9), none], [.int 102, .int x2], h)) rfl ?_
      refine gw_br (c := x2 = 102) (a := (79, [some (.ref 0), some (.int x1), some (.int x2), some (.int x3), some (.int x_9), none], [], h)) (b := (109, [some (.ref 0), some (.int x1), some (.int x2), some (.int x3), some (.int x_9), none], [], h)) (hk _ _ rfl) rfl ⟨fun z16 => ?_, fun z16 => ?_⟩
      · replace w := w.1 z16
        refine gw_pst hk 1 (st' := (81, [some (.ref 0), some (.int x1), some (.int x2), some (.int x3), some (.int x_9), none], [.int x_9], h)) rfl ?_
        refine gw_call (jj := 60) (As := [.int x_9]) (rest := []) (hk _ _ rfl) (fun _ => rfl) rfl rfl (Nat.le_of_ble_eq_true rfl) rfl ?_
        refine ge_imp (w h hR) (fun v17 h w => ?_)
        obtain ⟨s_17, hR, x_17, rfl, w⟩ := w
        show gw (gt_T c.1 c.2.1 c.2.2.1) c.2.2.2 d 102 (84, [some (.ref 0), some (.int x1), some (.int x2), some (.int x3), some (.int x_9), none], [.int x_17], h) _
        refine gw_br (c := x_17 = 0) (a := (87, [some (.ref 0), some (.int x1), some (.int x2), some (.int x3), some (.int x_9), none], [], h)) (b := (101, [some (.ref 0), some (.int x1), some (.int x2), some (.int x3), some (.int x_9), none], [], h)) (hk _ _ rfl) rfl ⟨fun z18 => ?_, fun z18 => ?_⟩
        · replace w := w.1 z18
          refine gw_pst hk 2 (st' := (91, [some (.ref 0), some (.int x1), some (.int x2), some (.int x3), some (.int x_9), none], [.int 97, .int x_9], h)) rfl ?_
          refine gw_br (c := x_9 = 97) (a := (101, [some (.ref 0), some (.int x1), some (.int x2), some (.int x3), some (.int x_9), none], [], h)) (b := (94, [some (.ref 0), some (.int x1), some (.int x2), some (.int x3), some (.int x_9), none], [], h)) (hk _ _ rfl) rfl ⟨fun z19 => ?_, fun z19 => ?_⟩
          · replace w := w.1 z19
            refine gw_le (L' := [some (.ref 0), some (.int x1), none, some (.int x3), none, none]) (gm_le_k _ (gm_le_k _ (gm_le_n _ (gm_le_k _ (gm_le_n _ (gm_le_k _ gm_le_nil)))))) ?_
            exact ok102_101 c d Post K17 hK17 _ _ _ w _ hR
          · replace w := w.2 z19
            refine gw_pst hk 2 (st' := (98, [some (.ref 0), some (.int x1), some (.int x2), some (.int x3), some (.int x_9), none], [.int 98, .int x_9], h)) rfl ?_
            refine gw_br (c := x_9 = 98) (a := (101, [some (.ref 0), some (.int x1), some (.int x2), some (.int x3), some (.int x_9), none], [], h)) (b := (105, [some (.ref 0), some (.int x1), some (.int x2), some (.int x3), some (.int x_9), none], [], h)) (hk _ _ rfl) rfl ⟨fun z20 => ?_, fun z20 => ?_⟩
            · replace w := w.1 z20
              refine gw_le (L' := [some (.ref 0), some (.int x1), none, some (.int x3), none, none]) (gm_le_k _ (gm_le_k _ (gm_le_n _ (gm_le_k _ (gm_le_n _ (gm_le_k _ gm_le_nil)))))) ?_
              exact ok102_101 c d Post K17 hK17 _ _ _ w _ hR
            · replace w := w.2 z20
              refine gw_pst hk 2 (st' := (129, [some (.ref 0), some (.int x1), some (.int x2), some (.int x3), some (.int x_9), none], [.int 0], h)) rfl ?_
              refine gw_le (L' := [some (.ref 0), some (.int x1), none, some (.int x3), none, none]) (gm_le_k _ (gm_le_k _ (gm_le_n _ (gm_le_k _ (gm_le_n _ (gm_le_k _ gm_le_nil)))))) ?_
              exact ok102_129 c d Post K17 hK17 _ _ _ _ w _ hR
        · replace w := w.2 z18
          refine gw_le (L' := [some (.ref 0), some (.int x1), none, some (.int x3), none, none]) (gm_le_k _ (gm_le_k _ (gm_le_n _ (gm_le_k _ (gm_le_n _ (gm_le_k _ gm_le_nil)))))) ?_
          exact ok102_101 c d Post K17 hK17 _ _ _ w _ hR
      · replace w := w.2 z16
        refine gw_pst hk 1 (st' := (111, [some (.ref 0), some (.int x1), some (.int x2), some (.int x3), some (.int x_9), none], [.int x_9], h)) rfl ?_
        refine gw_call (jj := 60) (As := [.int x_9]) (rest := []) (hk _ _ rfl) (fun _ => rfl) rfl rfl (Nat.le_of_ble_eq_true rfl) rfl ?_
        refine ge_imp (w h hR) (fun v21 h w => ?_)
        obtain ⟨s_21, hR, x_21, rfl, w⟩ := w
        show gw (gt_T c.1 c.2.1 c.2.2.1) c.2.2.2 d 102 (114, [some (.ref 0), some (.int x1), some (.int x2), some (.int x3), some (.int x_9), none], [.int x_21], h) _
        refine gw_br (c := x_21 = 0) (a := (128, [some (.ref 0), some (.int x1), some (.int x2), some (.int x3), some (.int x_9), none], [], h)) (b := (117, [some (.ref 0), some (.int x1), some (.int x2), some (.int x3), some (.int x_9), none], [], h)) (hk _ _ rfl) rfl ⟨fun z22 => ?_, fun z22 => ?_⟩
        · replace w := w.1 z22
          refine gw_le (L' := [some (.ref 0), some (.int x1), none, some (.int x3), none, none]) (gm_le_k _ (gm_le_k _ (gm_le_n _ (gm_le_k _ (gm_le_n _ (gm_le_k _ gm_le_nil)))))) ?_
          exact ok102_128 c d Post K17 hK17 _ _ _ w _ hR
        · replace w := w.2 z22
          refine gw_pst hk 2 (st' := (121, [some (.ref 0), some (.int x1), some (.int x2), some (.int x3), some (.int x_9), none], [.int 48, .int x_9], h)) rfl ?_
          refine gw_br (c := x_9 = 48) (a := (128, [some (.ref 0), some (.int x1), some (.int x2), some (.int x3), some (.int x_9), none], [], h)) (b := (124, [some (.ref 0), some (.int x1), some (.int x2), some (.int x3), some (.int x_9), none], [], h)) (hk _ _ rfl) rfl ⟨fun z23 => ?_, fun z23 => ?_⟩
          · replace w := w.1 z23
            refine gw_le (L' := [some (.ref 0), some (.int x1), none, some (.int x3), none, none]) (gm_le_k _ (gm_le_k _ (gm_le_n _ (gm_le_k _ (gm_le_n _ (gm_le_k _ gm_le_nil)))))) ?_
            exact ok102_128 c d Post K17 hK17 _ _ _ w _ hR
          · replace w := w.2 z23
            refine gw_pst hk 2 (st' := (129, [some (.ref 0), some (.int x1), some (.int x2), some (.int x3), some (.int x_9), none], [.int 1], h)) rfl ?_
            refine gw_le (L' := [some (.ref 0), some (.int x1), none, some (.int x3), none, none]) (gm_le_k _ (gm_le_k _ (gm_le_n _ (gm_le_k _ (gm_le_n _ (gm_le_k _ gm_le_nil)))))) ?_
            exact ok102_129 c d Post K17 hK17 _ _ _ _ w _ hR
def wl102_17 (c : gx) (d : Nat) (Post : Option Value → gs → Prop) : Nat → Int32 → Int32 → Int32 → gs → Prop
  | 0 => fun _ _ _ _ => False
  | n + 1 => wb102_17 c d Post (wl102_17 c d Post n)
theorem okl102_17 (c : gx) (d : Nat) (Post : Option Value → gs → Prop) : ∀ (n : Nat) (x1 : Int32) (x2 : Int32) (x3 : Int32) (s : gs), wl102_17 c d Post n x1 x2 x3 s → tV c d 102 17 [some (.ref 0), some (.int x1), some (.int x2), some (.int x3), none, none] [] s Post
  | 0, _, _, _, _, w => w.elim
  | n + 1, x1, x2, x3, s, w => okb102_17 c d Post (wl102_17 c d Post n) (okl102_17 c d Post n) x1 x2 x3 s w
/-- CommandByTurns.warMisreadAt()I -/
def wm102 (c : gx) (d : Nat) (Post : Option Value → gs → Prop)  (s : gs) : Prop :=
  ∃ n, wl102_17 c d Post n (if 60 < (gsV s 1 1) then 60 else (gsV s 1 1)) 0 0 s
theorem okm102 (c : gx) (d : Nat) (Post : Option Value → gs → Prop)  (s : gs) (w : wm102 c d Post  s) : tE c (d + 1) 102 [.ref 0] s Post := by
  intro h hR
  have hk : ∀ pc i, gm_find gk_102 pc = some i → gm_code (gt_T c.1 c.2.1 c.2.2.1) 102 pc = some i := fun _ _ z => z
  unfold wm102 at w
  refine ge_of (by decide) (Nat.le_of_ble_eq_true rfl) ?_
  show gw (gt_T c.1 c.2.1 c.2.2.1) c.2.2.2 d 102 (0, [some (.ref 0), none, none, none, none, none], [], h) _
  refine gw_pst hk 1 (st' := (1, [some (.ref 0), none, none, none, none, none], [.ref 0], h)) rfl ?_
  refine gw_gf (hk _ _ rfl) (RL_fR (n := 1) hR rfl) ?_
  refine gw_gf (hk _ _ rfl) (RL_fI hR rfl) ?_
  refine gw_pst hk 7 (st' := (17, [some (.ref 0), some (.int (if 60 < (gsV s 1 1) then 60 else (gsV s 1 1))), some (.int 0), some (.int 0), none, none], [], h)) rfl ?_
  obtain ⟨n, w⟩ := w
  exact okl102_17 c d Post n _ _ _ _ w _ hR
def w103_18 (c : gx) (d : Nat) (Post : Option Value → gs → Prop)  (s : gs) : Prop :=
  Post (some (.int (-1))) s
theorem ok103_18 (c : gx) (d : Nat) (Post : Option Value → gs → Prop)   (s : gs) (w : w103_18 c d Post  s) : tV c d 103 18 [none, none, none, none, none, none, none] [] s Post := by
  intro h hR
  have hk : ∀ pc i, gm_find gk_103 pc = some i → gm_code (gt_T c.1 c.2.1 c.2.2.1) 103 pc = some i := fun _ _ z => z
  unfold w103_18 at w
  unfold gV
  refine gw_pst hk 1 (st' := (19, [none, none, none, none, none, none, none], [.int (-1)], h)) rfl ?_
  exact gw_ret (hk _ _ rfl) rfl ⟨_, hR, w⟩
def w103_78 (c : gx) (d : Nat) (Post : Option Value → gs → Prop) (K28 : Int32 → Int32 → Int32 → Int32 → Int32 → gs → Prop) (x1 : Int32) (x2 : Int32) (x3 : Int32) (x4 : Int32) (x5 : Int32) (s : gs) : Prop :=
  K28 x1 x2 x3 x4 (x5 + 1) s
theorem ok103_78 (c : gx) (d : Nat) (Post : Option Value → gs → Prop) (K28 : Int32 → Int32 → Int32 → Int32 → Int32 → gs → Prop)  (hK28 : ∀ (x1 : Int32) (x2 : Int32) (x3 : Int32) (x4 : Int32) (x5 : Int32) (s : gs), K28 x1 x2 x3 x4 x5 s → tV c d 103 28 [some (.ref 0), some (.int x1), some (.int x2), some (.int x3), some (.int x4), some (.int x5), none] [] s Post) (x1 : Int32) (x2 : Int32) (x3 : Int32) (x4 : Int32) (x5 : Int32) (s : gs) (w : w103_78 c d Post K28 x1 x2 x3 x4 x5 s) : tV c d 103 78 [some (.ref 0), some (.int x1), some (.int x2), some (.int x3), some (.int x4), some (.int x5), none] [] s Post := by
  intro h hR
  have hk : ∀ pc i, gm_find gk_103 pc = some i → gm_code (gt_T c.1 c.2.1 c.2.2.1) 103 pc = some i := fun _ _ z => z
  unfold w103_78 at w
  unfold gV
  refine gw_pst hk 2 (st' := (28, [some (.ref 0), some (.int x1), some (.int x2), some (.int x3), some (.int x4), some (.int (x5 + 1)), none], [], h)) rfl ?_
  exact hK28 _ _ _ _ _ _ w _ hR
def wb103_28 (c : gx) (d : Nat) (Post : Option Value → gs → Prop) (K28 : Int32 → Int32 → Int32 → Int32 → Int32 → gs → Prop) (x1 : Int32) (x2 : Int32) (x3 : Int32) (x4 : Int32) (x5 : Int32) (s : gs) : Prop :=
  ((x2 ≤ x5 → tE c d 266 [.int x3] s (fun v3 s_3 => ∃ x_3 : Int32, v3 = some (.int x_3) ∧ tE c d 46 [.ref 34, .long ((x_3 : Int32).toInt64), .long ((x4 : Int32).toInt64)] s_3 (fun v4 s_4 => v4 = none ∧ Post (some (.int x3)) s_4))) ∧ (¬ (x2 ≤ x5) → tE c d 51 [.ref 14, .int ((gsV s 14 0) + x5)] s (fun v8 s_8 => ∃ x_8 : Int32, v8 = some (.int x_8) ∧ ((x_8 = x1 → w103_78 c d Post K28 x1 x2 (x3 ||| (1 <<< (x5 &&& 31))) x4 x5 s_8) ∧ (¬ (x_8 = x1) → ((x_8 = (-1) → w103_78 c d Post K28 x1 x2 x3 (x4 + 1) x5 s_8) ∧ (¬ (x_8 = (-1)) → w103_78 c d Post K28 x1 x2 x3 x4 x5 s_8)))))))
theorem okb103_28 (c : gx) (d : Nat) (Post : Option Value → gs → Prop) (K28 : Int32 → Int32 → Int32 → Int32 → Int32 → gs → Prop)  (hK28 : ∀ (x1 : Int32) (x2 : Int32) (x3 : Int32) (x4 : Int32) (x5 : Int32) (s : gs), K28 x1 x2 x3 x4 x5 s → tV c d 103 28 [some (.ref 0), some (.int x1), some (.int x2), some (.int x3), some (.int x4), some (.int x5), none] [] s Post) (x1 : Int32) (x2 : Int32) (x3 : Int32) (x4 : Int32) (x5 : Int32) (s : gs) (w : wb103_28 c d Post K28 x1 x2 x3 x4 x5 s) : tV c d 103 28 [some (.ref 0), some (.int x1), some (.int x2), some (.int x3), some (.int x4), some (.int x5), none] [] s Post := by
  intro h hR
  have hk : ∀ pc i, gm_find gk_103 pc = some i → gm_code (gt_T c.1 c.2.1 c.2.2.1) 103 pc = some i := fun _ _ z => z
  unfold wb103_28 at w
  unfold gV
  refine gw_pst hk 2 (st' := (31, [some (.ref 0), some (.int x1), some (.int x2), some (.int x3), some (.int x4), some (.int x5), none], [.int x2, .int x5], h)) rfl ?_
  refine gw_br (c := x2 ≤ x5) (a := (84, [some (.ref 0), some (.int x1), some (.int x2), some (.int x3), some (.int x4), some (.int x5), none], [], h)) (b := (34, [some (.ref 0), some (.int x1), some (.int x2), some (.int x3), some (.int x4), some (.int x5), none], [], h)) (hk _ _ rfl) rfl ⟨fun z1 => ?_, fun z1 => ?_⟩
  · replace w := w.1 z1
    refine gw_pst hk 1 (st' := (85, [some (.ref 0), some (.int x1), some (.int x2), some (.int x3), some (.int x4), some (.int x5), none], [.ref 0], h)) rfl ?_
    refine gw_gf (hk _ _ rfl) (RL_fR (n := 34) hR rfl) ?_
    refine gw_pst hk 1 (st' := (89, [some (.ref 0), some (.int x1), some (.int x2), some (.int x3), some (.int x4), some (.int x5), none], [.int x3, .ref 34], h)) rfl ?_
    refine gw_call (jj := 266) (As := [.int x3]) (rest := [.ref 34]) (hk _ _ rfl) (fun _ => rfl) rfl rfl (Nat.le_of_ble_eq_true rfl) rfl ?_
    refine ge_imp (w h hR) (fun v3 h w => ?_)
    obtain ⟨s_3, hR, x_3, rfl, w⟩ := w
    show gw (gt_T c.1 c.2.1 c.2.2.1) c.2.2.2 d 103 (92, [some (.ref 0), some (.int x1), some (.int x2), some (.int x3), some (.int x4), some (.int x5), none], [.int x_3, .ref 34], h) _
    refine gw_pst hk 3 (st' := (96, [some (.ref 0), some (.int x1), some (.int x2), some (.int x3), some (.int x4), some (.int x5), none], [.long ((x4 : Int32).toInt64), .long ((x_3 : Int32).toInt64), .ref 34], h)) rfl ?_
    obtain ⟨fs4, e4⟩ := RL_o hR (r := 34) (ci := 5) rfl
    refine gw_call (jj := 46) (As := [.ref 34, .long ((x_3 : Int32).toInt64), .long ((x4 : Int32).toInt64)]) (rest := []) (hk _ _ rfl) (fun _ => rfl) rfl rfl (Nat.le_of_ble_eq_true rfl) (gm_rcv_v rfl e4 rfl) ?_
    refine ge_imp (w h hR) (fun v4 h w => ?_)
    obtain ⟨s_4, hR, rfl, w⟩ := w
    show gw (gt_T c.1 c.2.1 c.2.2.1) c.2.2.2 d 103 (99, [some (.ref 0), some (.int x1), some (.int x2), some (.int x3), some (.int x4), some (.int x5), none], [], h) _
    refine gw_pst hk 1 (st' := (100, [some (.ref 0), some (.int x1), some (.int x2), some (.int x3), some (.int x4), some (.int x5), none], [.int x3], h)) rfl ?_
    exact gw_ret (hk _ _ rfl) rfl ⟨_, hR, w⟩
  · replace w := w.2 z1
    refine gw_pst hk 1 (st' := (35, [some (.ref 0), some (.int x1), some (.int x2), some (.int x3), some (.int x4), some (.int x5), none], [.ref 0], h)) rfl ?_
    refine gw_gf (hk _ _ rfl) (RL_fR (n := 14) hR rfl) ?_
    refine gw_pst hk 1 (st' := (39, [some (.ref 0), some (.int x1), some (.int x2), some (.int x3), some (.int x4), some (.int x5), none], [.ref 0, .ref 14], h)) rfl ?_
    refine gw_gf (hk _ _ rfl) (RL_fR (n := 14) hR rfl) ?_
    refine gw_gf (hk _ _ rfl) (RL_fI hR rfl) ?_
    refine gw_pst hk 2 (st' := (48, [some (.ref 0), some (.int x1), some (.int x2), some (.int x3), some (.int x4), some (.int x5), none], [.int ((gsV s 14 0) + x5), .ref 14], h)) rfl ?_
    obtain ⟨fs8, e8⟩ := RL_o hR (r := 14) (ci := 6) rfl
    refine gw_call (jj := 51) (As := [.ref 14, .int ((gsV s 14 0) + x5)]) (rest := []) (hk _ _ rfl) (fun _ => rfl) rfl rfl (Nat.le_of_ble_eq_true rfl) (gm_rcv_v rfl e8 rfl) ?_
    refine ge_imp (w h hR) (fun v8 h w => ?_)
    obtain ⟨s_8, hR, x_8, rfl, w⟩ := w
    show gw (gt_T c.1 c.2.1 c.2.2.1) c.2.2.2 d 103 (51, [some (.ref 0), some (.int x1), some (.int x2), some (.int x3), some (.int x4), some (.int x5), none], [.int x_8], h) _
    refine gw_pst hk 3 (st' := (56, [some (.ref 0), some (.int x1), some (.int x2), some (.int x3), some (.int x4), some (.int x5), some (.int x_8)], [.int x1, .int x_8], h)) rfl ?_
    refine gw_br (c := x_8 = x1) (a := (59, [some (.ref 0), some (.int x1), some (.int x2), some (.int x3), some (.int x4), some (.int x5), some (.int x_8)], [], h)) (b := (69, [some (.ref 0), some (.int x1), some (.int x2), some (.int x3), some (.int x4), some (.int x5), some (.int x_8)], [], h)) (hk _ _ rfl) rfl ⟨fun z9 => ?_, fun z9 => ?_⟩
    · replace w := w.1 z9
      refine gw_pst hk 7 (st' := (78, [some (.ref 0), some (.int x1), some (.int x2), some (.int (x3 ||| (1 <<< (x5 &&& 31)))), some (.int x4), some (.int x5), some (.int x_8)], [], h)) rfl ?_
      refine gw_le (L' := [some (.ref 0), some (.int x1), some (.int x2), some (.int (x3 ||| (1 <<< (x5 &&& 31)))), some (.int x4), some (.int x5), none]) (gm_le_k _ (gm_le_k _ (gm_le_k _ (gm_le_k _ (gm_le_k _ (gm_le_k _ (gm_le_n _ gm_le_nil))))))) ?_
      exact ok103_78 c d Post K28 hK28 _ _ _ _ _ _ w _ hR
    · replace w := w.2 z9
      refine gw_pst hk 2 (st' := (72, [some (.ref 0), some (.int x1), some (.int x2), some (.int x3), some (.int x4), some (.int x5), some (.int x_8)], [.int (-1), .int x_8], h)) rfl ?_
      refine gw_br (c := x_8 = (-1)) (a := (75, [some (.ref 0), some (.int x1), some (.int x2), some (.int x3), some (.int x4), some (.int x5), some (.int x_8)], [], h)) (b := (78, [some (.ref 0), some (.int x1), some (.int x2), some (.int x3), some (.int x4), some (.int x5), some (.int x_8)], [], h)) (hk _ _ rfl) rfl ⟨fun z10 => ?_, fun z10 => ?_⟩
      · replace w := w.1 z10
        refine gw_pst hk 1 (st' := (78, [some (.ref 0), some (.int x1), some (.int x2), some (.int x3), some (.int (x4 + 1)), some (.int x5), some (.int x_8)], [], h)) rfl ?_
        refine gw_le (L' := [some (.ref 0), some (.int x1), some (.int x2), some (.int x3), some (.int (x4 + 1)), some (.int x5), none]) (gm_le_k _ (gm_le_k _ (gm_le_k _ (gm_le_k _ (gm_le_k _ (gm_le_k _ (gm_le_n _ gm_le_nil))))))) ?_
        exact ok103_78 c d Post K28 hK28 _ _ _ _ _ _ w _ hR
      · replace w := w.2 z10
        refine gw_le (L' := [some (.ref 0), some (.int x1), some (.int x2), some (.int x3), some (.int x4), some (.int x5), none]) (gm_le_k _ (gm_le_k _ (gm_le_k _ (gm_le_k _ (gm_le_k _ (gm_le_k _ (gm_le_n _ gm_le_nil))))))) ?_
        exact ok103_78 c d Post K28 hK28 _ _ _ _ _ _ w _ hR
def wl103_28 (c : gx) (d : Nat) (Post : Option Value → gs → Prop) : Nat → Int32 → Int32 → Int32 → Int32 → Int32 → gs → Prop
  | 0 => fun _ _ _ _ _ _ => False
  | n + 1 => wb103_28 c d Post (wl103_28 c d Post n)
theorem okl103_28 (c : gx) (d : Nat) (Post : Option Value → gs → Prop) : ∀ (n : Nat) (x1 : Int32) (x2 : Int32) (x3 : Int32) (x4 : Int32) (x5 : Int32) (s : gs), wl103_28 c d Post n x1 x2 x3 x4 x5 s → tV c d 103 28 [some (.ref 0), some (.int x1), some (.int x2), some (.int x3), some (.int x4), some (.int x5), none] [] s Post
  | 0, _, _, _, _, _, _, w => w.elim
  | n + 1, x1, x2, x3, x4, x5, s, w => okb103_28 c d Post (wl103_28 c d Post n) (okl103_28 c d Post n) x1 x2 x3 x4 x5 s w
/-- CommandByTurns.comes(II)I -/
def wm103 (c : gx) (d : Nat) (Post : Option Value → gs → Prop) (x1 : Int32) (x2 : Int32) (s : gs) : Prop :=
  tE c d 147 [.int x1] s (fun v1 s_1 => ∃ x_1 : Int32, v1 = some (.int x_1) ∧ ((x_1 = 0 → w103_18 c d Post s_1) ∧ (¬ (x_1 = 0) → ((x2 < 1 → w103_18 c d Post s_1) ∧ (¬ (x2 < 1) → ((x2 ≤ 30 → ∃ n, wl103_28 c d Post n x1 x2 0 0 0 s_1) ∧ (¬ (x2 ≤ 30) → w103_18 c d Post s_1)))))))
theorem okm103 (c : gx) (d : Nat) (Post : Option Value → gs → Prop) (x1 : Int32) (x2 : Int32) (s : gs) (w : wm103 c d Post x1 x2 s) : tE c (d + 1) 103 [.ref 0, .int x1, .int x2] s Post := by
  intro h hR
  have hk : ∀ pc i, gm_find gk_103 pc = some i → gm_code (gt_T c.1 c.2.1 c.2.2.1) 103 pc = some i := fun _ _ z => z
  unfold wm103 at w
  refine ge_of (by decide) (Nat.le_of_ble_eq_true rfl) ?_
  show gw (gt_T c.1 c.2.1 c.2.2.1) c.2.2.2 d 103 (0, [some (.ref 0), some (.int x1), some (.int x2), none, none, none, none], [], h) _
  refine gw_pst hk 1 (st' := (1, [some (.ref 0), some (.int x1), some (.int x2), none, none, none, none], [.int x1], h)) rfl ?_
  refine gw_call (jj := 147) (As := [.int x1]) (rest := []) (hk _ _ rfl) (fun _ => rfl) rfl rfl (Nat.le_of_ble_eq_true rfl) rfl ?_
  refine ge_imp (w h hR) (fun v1 h w => ?_)
  obtain ⟨s_1, hR, x_1, rfl, w⟩ := w
  show gw (gt_T c.1 c.2.1 c.2.2.1) c.2.2.2 d 103 (4, [some (.ref 0), some (.int x1), some (.int x2), none, none, none, none], [.int x_1], h) _
  refine gw_br (c := x_1 = 0) (a := (18, [some (.ref 0), some (.int x1), some (.int x2), none, none, none, none], [], h)) (b := (7, [some (.ref 0), some (.int x1), some (.int x2), none, none, none, none], [], h)) (hk _ _ rfl) rfl ⟨fun z2 => ?_, fun z2 => ?_⟩
  · replace w := w.1 z2
    refine gw_le (L' := [none, none, none, none, none, none, none]) (gm_le_n _ (gm_le_n _ (gm_le_n _ (gm_le_k _ (gm_le_k _ (gm_le_k _ (gm_le_k _ gm_le_nil))))))) ?_
    exact ok103_18 c d Post _ w _ hR
  · replace w := w.2 z2
    refine gw_pst hk 2 (st' := (9, [some (.ref 0), some (.int x1), some (.int x2), none, none, none, none], [.int 1, .int x2], h)) rfl ?_
    refine gw_br (c := x2 < 1) (a := (18, [some (.ref 0), some (.int x1), some (.int x2), none, none, none, none], [], h)) (b := (12, [some (.ref 0), some (.int x1), some (.int x2), none, none, none, none], [], h)) (hk _ _ rfl) rfl ⟨fun z3 => ?_, fun z3 => ?_⟩
    · replace w := w.1 z3
      refine gw_le (L' := [none, none, none, none, none, none, none]) (gm_le_n _ (gm_le_n _ (gm_le_n _ (gm_le_k _ (gm_le_k _ (gm_le_k _ (gm_le_k _ gm_le_nil))))))) ?_
      exact ok103_18 c d Post _ w _ hR
    · replace w := w.2 z3
      refine gw_pst hk 2 (st' := (15, [some (.ref 0), some (.int x1), some (.int x2), none, none, none, none], [.int 30, .int x2], h)) rfl ?_
      refine gw_br (c := x2 ≤ 30) (a := (20, [some (.ref 0), some (.int x1), some (.int x2), none, none, none, none], [], h)) (b := (18, [some (.ref 0), some (.int x1), some (.int x2), none, none, none, none], [], h)) (hk _ _ rfl) rfl ⟨fun z4 => ?_, fun z4 => ?_⟩
      · replace w := w.1 z4
        refine gw_pst hk 6 (st' := (28, [some (.ref 0), some (.int x1), some (.int x2), some (.int 0), some (.int 0), some (.int 0), none], [], h)) rfl ?_
        obtain ⟨n, w⟩ := w
        exact okl103_28 c d Post n _ _ _ _ _ _ w _ hR
      · replace w := w.2 z4
        refine gw_le (L' := [none, none, none, none, none, none, none]) (gm_le_n _ (gm_le_n _ (gm_le_n _ (gm_le_k _ (gm_le_k _ (gm_le_k _ (gm_le_k _ gm_le_nil))))))) ?_
        exact ok103_18 c d Post _ w _ hR
def w104_21 (c : gx) (d : Nat) (Post : Option Value → gs → Prop)  (s : gs) : Prop :=
  Post (some (.int (-1))) s
theorem ok104_21 (c : gx) (d : Nat) (Post : Option Value → gs → Prop)   (s : gs) (w : w104_21 c d Post  s) : tV c d 104 21 [none, none, none, none, none] [] s Post := by
  intro h hR
  have hk : ∀ pc i, gm_find gk_104 pc = some i → gm_code (gt_T c.1 c.2.1 c.2.2.1) 104 pc = some i := fun _ _ z => z
  unfold w104_21 at w
  unfold gV
  refine gw_pst hk 1 (st' := (22, [none, none, none, none, none], [.int (-1)], h)) rfl ?_
  exact gw_ret (hk _ _ rfl) rfl ⟨_, hR, w⟩
/-- CommandByTurns.issue(II)I -/
def wm104 (c : gx) (d : Nat) (Post : Option Value → gs → Prop) (x1 : Int32) (x2 : Int32) (s : gs) : Prop :=
  tE c d 14 [.ref 3, .int x1] s (fun v2 s_2 => ∃ x_2 : Int32, v2 = some (.int x_2) ∧ ((x_2 = 0 → w104_21 c d Post s_2) ∧ (¬ (x_2 = 0) → ((x2 < 0 → w104_21 c d Post s_2) ∧ (¬ (x2 < 0) → ((x2 ≤ 30 → tE c d 51 [.ref 14, .int ((gsV s_2 14 0) + x2)] s_2 (fun v9 s_9 => ∃ x_9 : Int32, v9 = some (.int x_9) ∧ ((x_9 = (-1) → Post (some (.int (-2))) s_9) ∧ (¬ (x_9 = (-1)) → tE c d 16 [.int x1, .int (gsV s_9 14 2)] s_9 (fun v13 s_13 => ∃ x_13 : Int32, v13 = some (.int x_13) ∧ ((x_13 = 0 → Post (some (.int (-3))) s_13) ∧ (¬ (x_13 = 0) → tE c d 45 [.ref 34, .long ((x_9 : Int32).toInt64)] s_13 (fun v16 s_16 => v16 = none ∧ tE c d 150 [.ref 0, .ref 14, .int x1, .int x_9, .int ((gsV s_2 14 0) + x2)] s_16 (fun v18 s_18 => ∃ x_18 : Int32, v18 = some (.int x_18) ∧ Post (some (.int (501 + x_18))) s_18))))))))) ∧ (¬ (x2 ≤ 30) → w104_21 c d Post s_2)))))))
theorem okm104 (c : gx) (d : Nat) (Post : Option Value → gs → Prop) (x1 : Int32) (x2 : Int32) (s : gs) (w : wm104 c d Post x1 x2 s) : tE c (d + 1) 104 [.ref 0, .int x1, .int x2] s Post := by
  intro h hR
  have hk : ∀ pc i, gm_find gk_104 pc = some i → gm_code (gt_T c.1 c.2.1 c.2.2.1) 104 pc = some i := fun _ _ z => z
  unfold wm104 at w
  refine ge_of (by decide) (Nat.le_of_ble_eq_true rfl) ?_
  show gw (gt_T c.1 c.2.1 c.2.2.1) c.2.2.2 d 104 (0, [some (.ref 0), some (.int x1), some (.int x2), none, none], [], h) _
  refine gw_pst hk 1 (st' := (1, [some (.ref 0), some (.int x1), some (.int x2), none, none], [.ref 0], h)) rfl ?_
  refine gw_gf (hk _ _ rfl) (RL_fR (n := 3) hR rfl) ?_
  refine gw_pst hk 1 (st' := (5, [some (.ref 0), some (.int x1), some (.int x2), none, none], [.int x1, .ref 3], h)) rfl ?_
  obtain ⟨fs2, e2⟩ := RL_o hR (r := 3) (ci := 1) rfl
  refine gw_call (jj := 14) (As := [.ref 3, .int x1]) (rest := []) (hk _ _ rfl) (fun _ => rfl) rfl rfl (Nat.le_of_ble_eq_true rfl) (gm_rcv_v rfl e2 rfl) ?_
  refine ge_imp (w h hR) (fun v2 h w => ?_)
  obtain ⟨s_2, hR, x_2, rfl, w⟩ := w
  show gw (gt_T c.1 c.2.1 c.2.2.1) c.2.2.2 d 104 (8, [some (.ref 0), some (.int x1), some (.int x2), none, none], [.int x_2], h) _
  refine gw_br (c := x_2 = 0) (a := (21, [some (.ref 0), some (.int x1), some (.int x2), none, none], [], h)) (b := (11, [some (.ref 0), some (.int x1), some (.int x2), none, none], [], h)) (hk _ _ rfl) rfl ⟨fun z3 => ?_, fun z3 => ?_⟩
  · replace w := w.1 z3
    refine gw_le (L' := [none, none, none, none, none]) (gm_le_n _ (gm_le_n _ (gm_le_n _ (gm_le_k _ (gm_le_k _ gm_le_nil))))) ?_
    exact ok104_21 c d Post _ w _ hR
  · replace w := w.2 z3
    refine gw_pst hk 1 (st' := (12, [some (.ref 0), some (.int x1), some (.int x2), none, none], [.int x2], h)) rfl ?_
    refine gw_br (c := x2 < 0) (a := (21, [some (.ref 0), some (.int x1), some (.int x2), none, none], [], h)) (b := (15, [some (.ref 0), some (.int x1), some (.int x2), none, none], [], h)) (hk _ _ rfl) rfl ⟨fun z4 => ?_, fun z4 => ?_⟩
    · replace w := w.1 z4
      refine gw_le (L' := [none, none, none, none, none]) (gm_le_n _ (gm_le_n _ (gm_le_n _ (gm_le_k _ (gm_le_k _ gm_le_nil))))) ?_
      exact ok104_21 c d Post _ w _ hR
    · replace w := w.2 z4
      refine gw_pst hk 2 (st' := (18, [some (.ref 0), some (.int x1), some (.int x2), none, none], [.int 30, .int x2], h)) rfl ?_
      refine gw_br (c := x2 ≤ 30) (a := (23, [some (.ref 0), some (.int x1), some (.int x2), none, none], [], h)) (b := (21, [some (.ref 0), some (.int x1), some (.int x2), none, none], [], h)) (hk _ _ rfl) rfl ⟨fun z5 => ?_, fun z5 => ?_⟩
      · replace w := w.1 z5
        refine gw_pst hk 1 (st' := (24, [some (.ref 0), some (.int x1), some (.int x2), none, none], [.ref 0], h)) rfl ?_
        refine gw_gf (hk _ _ rfl) (RL_fR (n := 14) hR rfl) ?_
        refine gw_gf (hk _ _ rfl) (RL_fI hR rfl) ?_
        refine gw_pst hk 4 (st' := (34, [some (.ref 0), some (.int x1), some (.int x2), some (.int ((gsV s_2 14 0) + x2)), none], [.ref 0], h)) rfl ?_
        refine gw_gf (hk _ _ rfl) (RL_fR (n := 14) hR rfl) ?_
        refine gw_pst hk 1 (st' := (38, [some (.ref 0), some (.int x1), some (.int x2), some (.int ((gsV s_2 14 0) + x2)), none], [.int ((gsV s_2 14 0) + x2), .ref 14], h)) rfl ?_
        obtain ⟨fs9, e9⟩ := RL_o hR (r := 14) (ci := 6) rfl
        refine gw_call (jj := 51) (As := [.ref 14, .int ((gsV s_2 14 0) + x2)]) (rest := []) (hk _ _ rfl) (fun _ => rfl) rfl rfl (Nat.le_of_ble_eq_true rfl) (gm_rcv_v rfl e9 rfl) ?_
        refine ge_imp (w h hR) (fun v9 h w => ?_)
        obtain ⟨s_9, hR, x_9, rfl, w⟩ := w
        show gw (gt_T c.1 c.2.1 c.2.2.1) c.2.2.2 d 104 (41, [some (.ref 0), some (.int x1), some (.int x2), some (.int ((gsV s_2 14 0) + x2)), none], [.int x_9], h) _
        refine gw_pst hk 3 (st' := (46, [some (.ref 0), some (.int x1), some (.int x2), some (.int ((gsV s_2 14 0) + x2)), some (.int x_9)], [.int (-1), .int x_9], h)) rfl ?_
        refine gw_br (c := x_9 = (-1)) (a := (49, [some (.ref 0), some (.int x1), some (.int x2), some (.int ((gsV s_2 14 0) + x2)), some (.int x_9)], [], h)) (b := (52, [some (.ref 0), some (.int x1), some (.int x2), some (.int ((gsV s_2 14 0) + x2)), some (.int x_9)], [], h)) (hk _ _ rfl) rfl ⟨fun z10 => ?_, fun z10 => ?_⟩
        · replace w := w.1 z10
          refine gw_pst hk 1 (st' := (51, [some (.ref 0), some (.int x1), some (.int x2), some (.int ((gsV s_2 14 0) + x2)), some (.int x_9)], [.int (-2)], h)) rfl ?_
          exact gw_ret (hk _ _ rfl) rfl ⟨_, hR, w⟩
        · replace w := w.2 z10
          refine gw_pst hk 2 (st' := (54, [some (.ref 0), some (.int x1), some (.int x2), some (.int ((gsV s_2 14 0) + x2)), some (.int x_9)], [.ref 0, .int x1], h)) rfl ?_
          refine gw_gf (hk _ _ rfl) (RL_fR (n := 14) hR rfl) ?_
          refine gw_gf (hk _ _ rfl) (RL_fI hR rfl) ?_
          refine gw_call (jj := 16) (As := [.int x1, .int (gsV s_9 14 2)]) (rest := []) (hk _ _ rfl) (fun _ => rfl) rfl rfl (Nat.le_of_ble_eq_true rfl) rfl ?_
          refine ge_imp (w h hR) (fun v13 h w => ?_)
          obtain ⟨s_13, hR, x_13, rfl, w⟩ := w
          show gw (gt_T c.1 c.2.1 c.2.2.1) c.2.2.2 d 104 (63, [some (.ref 0), some (.int x1), some (.int x2), some (.int ((gsV s_2 14 0) + x2)), some (.int x_9)], [.int x_13], h) _
          refine gw_br (c := x_13 = 0) (a := (66, [some (.ref 0), some (.int x1), some (.int x2), some (.int ((gsV s_2 14 0) + x2)), some (.int x_9)], [], h)) (b := (69, [some (.ref 0), some (.int x1), some (.int x2), some (.int ((gsV s_2 14 0) + x2)), some (.int x_9)], [], h)) (hk _ _ rfl) rfl ⟨fun z14 => ?_, fun z14 => ?_⟩
          · replace w := w.1 z14
            refine gw_pst hk 1 (st' := (68, [some (.ref 0), some (.int x1), some (.int x2), some (.int ((gsV s_2 14 0) + x2)), some (.int x_9)], [.int (-3)], h)) rfl ?_
            exact gw_ret (hk _ _ rfl) rfl ⟨_, hR, w⟩
          · replace w := w.2 z14
            refine gw_pst hk 1 (st' := (70, [some (.ref 0), some (.int x1), some (.int x2), some (.int ((gsV s_2 14 0) + x2)), some (.int x_9)], [.ref 0], h)) rfl ?_
            refine gw_gf (hk _ _ rfl) (RL_fR (n := 34) hR rfl) ?_
            refine gw_pst hk 2 (st' := (76, [some (.ref 0), some (.int x1), some (.int x2), some (.int ((gsV s_2 14 0) + x2)), some (.int x_9)], [.long ((x_9 : Int32).toInt64), .ref 34], h)) rfl ?_
            obtain ⟨fs16, e16⟩ := RL_o hR (r := 34) (ci := 5) rfl
            refine gw_call (jj := 45) (As := [.ref 34, .long ((x_9 : Int32).toInt64)]) (rest := []) (hk _ _ rfl) (fun _ => rfl) rfl rfl (Nat.le_of_ble_eq_true rfl) (gm_rcv_v rfl e16 rfl) ?_
            refine ge_imp (w h hR) (fun v16 h w => ?_)
            obtain ⟨s_16, hR, rfl, w⟩ := w
            show gw (gt_T c.1 c.2.1 c.2.2.1) c.2.2.2 d 104 (79, [some (.ref 0), some (.int x1), some (.int x2), some (.int ((gsV s_2 14 0) + x2)), some (.int x_9)], [], h) _
            refine gw_pst hk 3 (st' := (84, [some (.ref 0), some (.int x1), some (.int x2), some (.int ((gsV s_2 14 0) + x2)), some (.int x_9)], [.ref 0, .ref 0, .int 501], h)) rfl ?_
            refine gw_gf (hk _ _ rfl) (RL_fR (n := 14) hR rfl) ?_
            refine gw_pst hk 3 (st' := (91, [some (.ref 0), some (.int x1), some (.int x2), some (.int ((gsV s_2 14 0) + x2)), some (.int x_9)], [.int ((gsV s_2 14 0) + x2), .int x_9, .int x1, .ref 14, .ref 0, .int 501], h)) rfl ?_
            obtain ⟨fs18, e18⟩ := RL_o hR (r := 0) (ci := 9) rfl
            refine gw_call (jj := 150) (As := [.ref 0, .ref 14, .int x1, .int x_9, .int ((gsV s_2 14 0) + x2)]) (rest := [.int 501]) (hk _ _ rfl) (fun _ => rfl) rfl rfl (Nat.le_of_ble_eq_true rfl) (gm_rcv_v rfl e18 rfl) ?_
            refine ge_imp (w h hR) (fun v18 h w => ?_)
            obtain ⟨s_18, hR, x_18, rfl, w⟩ := w
            show gw (gt_T c.1 c.2.1 c.2.2.1) c.2.2.2 d 104 (94, [some (.ref 0), some (.int x1), some (.int x2), some (.int ((gsV s_2 14 0) + x2)), some (.int x_9)], [.int x_18, .int 501], h) _
            refine gw_pst hk 1 (st' := (95, [some (.ref 0), some (.int x1), some (.int x2), some (.int ((gsV s_2 14 0) + x2)), some (.int x_9)], [.int (501 + x_18)], h)) rfl ?_
            exact gw_ret (hk _ _ rfl) rfl ⟨_, hR, w⟩
      · replace w := w.2 z5
        refine gw_le (L' := [none, none, none, none, none]) (gm_le_n _ (gm_le_n _ (gm_le_n _ (gm_le_k _ (gm_le_k _ gm_le_nil))))) ?_
        exact ok104_21 c d Post _ w _ hR
/-- CommandByTurns.reach(I)I -/
def wm105 (c : gx) (d : Nat) (Post : Option Value → gs → Prop) (x1 : Int32) (s : gs) : Prop :=
  tE c d 147 [.int x1] s (fun v1 s_1 => ∃ x_1 : Int32, v1 = some (.int x_1) ∧ ((x_1 = 0 → Post (some (.int (-1))) s_1) ∧ (¬ (x_1 = 0) → tE c d 112 [.ref 0, .int x1, .int (gsV s_1 14 1)] s_1 (fun v5 s_5 => ∃ x_5 : Int32, v5 = some (.int x_5) ∧ tE c d 266 [.int x_5] s_5 (fun v7 s_7 => ∃ x_7 : Int32, v7 = some (.int x_7) ∧ tE c d 45 [.ref 34, .long ((x_7 : Int32).toInt64)] s_7 (fun v8 s_8 => v8 = none ∧ Post (some (.int x_5)) s_8))))))
theorem okm105 (c : gx) (d : Nat) (Post : Option Value → gs → Prop) (x1 : Int32) (s : gs) (w : wm105 c d Post x1 s) : tE c (d + 1) 105 [.ref 0, .int x1] s Post := by
  intro h hR
  have hk : ∀ pc i, gm_find gk_105 pc = some i → gm_code (gt_T c.1 c.2.1 c.2.2.1) 105 pc = some i := fun _ _ z => z
  unfold wm105 at w
  refine ge_of (by decide) (Nat.le_of_ble_eq_true rfl) ?_
  show gw (gt_T c.1 c.2.1 c.2.2.1) c.2.2.2 d 105 (0, [some (.ref 0), some (.int x1), none], [], h) _
  refine gw_pst hk 1 (st' := (1, [some (.ref 0), some (.int x1), none], [.int x1], h)) rfl ?_
  refine gw_call (jj := 147) (As := [.int x1]) (rest := []) (hk _ _ rfl) (fun _ => rfl) rfl rfl (Nat.le_of_ble_eq_true rfl) rfl ?_
  refine ge_imp (w h hR) (fun v1 h w => ?_)
  obtain ⟨s_1, hR, x_1, rfl, w⟩ := w
  show gw (gt_T c.1 c.2.1 c.2.2.1) c.2.2.2 d 105 (4, [some (.ref 0), some (.int x1), none], [.int x_1], h) _
  refine gw_br (c := x_1 = 0) (a := (7, [some (.ref 0), some (.int x1), none], [], h)) (b := (9, [some (.ref 0), some (.int x1), none], [], h)) (hk _ _ rfl) rfl ⟨fun z2 => ?_, fun z2 => ?_⟩
  · replace w := w.1 z2
    refine gw_pst hk 1 (st' := (8, [some (.ref 0), some (.int x1), none], [.int (-1)], h)) rfl ?_
    exact gw_ret (hk _ _ rfl) rfl ⟨_, hR, w⟩
  · replace w := w.2 z2
    refine gw_pst hk 3 (st' := (12, [some (.ref 0), some (.int x1), none], [.ref 0, .int x1, .ref 0], h)) rfl ?_
    refine gw_gf (hk _ _ rfl) (RL_fR (n := 14) hR rfl) ?_
    refine gw_gf (hk _ _ rfl) (RL_fI hR rfl) ?_
    obtain ⟨fs5, e5⟩ := RL_o hR (r := 0) (ci := 9) rfl
    refine gw_call (jj := 112) (As := [.ref 0, .int x1, .int (gsV s_1 14 1)]) (rest := []) (hk _ _ rfl) (fun _ => rfl) rfl rfl (Nat.le_of_ble_eq_true rfl) (gm_rcv_v rfl e5 rfl) ?_
    refine ge_imp (w h hR) (fun v5 h w => ?_)
    obtain ⟨s_5, hR, x_5, rfl, w⟩ := w
    show gw (gt_T c.1 c.2.1 c.2.2.1) c.2.2.2 d 105 (21, [some (.ref 0), some (.int x1), none], [.int x_5], h) _
    refine gw_pst hk 2 (st' := (23, [some (.ref 0), some (.int x1), some (.int x_5)], [.ref 0], h)) rfl ?_
    refine gw_gf (hk _ _ rfl) (RL_fR (n := 34) hR rfl) ?_
    refine gw_pst hk 1 (st' := (27, [some (.ref 0), some (.int x1), some (.int x_5)], [.int x_5, .ref 34], h)) rfl ?_
    refine gw_call (jj := 266) (As := [.int x_5]) (rest := [.ref 34]) (hk _ _ rfl) (fun _ => rfl) rfl rfl (Nat.le_of_ble_eq_true rfl) rfl ?_
    refine ge_imp (w h hR) (fun v7 h w => ?_)
    obtain ⟨s_7, hR, x_7, rfl, w⟩ := w
    show gw (gt_T c.1 c.2.1 c.2.2.1) c.2.2.2 d 105 (30, [some (.ref 0), some (.int x1), some (.int x_5)], [.int x_7, .ref 34], h) _
    refine gw_pst hk 1 (st' := (31, [some (.ref 0), some (.int x1), some (.int x_5)], [.long ((x_7 : Int32).toInt64), .ref 34], h)) rfl ?_
    obtain ⟨fs8, e8⟩ := RL_o hR (r := 34) (ci := 5) rfl
    refine gw_call (jj := 45) (As := [.ref 34, .long ((x_7 : Int32).toInt64)]) (rest := []) (hk _ _ rfl) (fun _ => rfl) rfl rfl (Nat.le_of_ble_eq_true rfl) (gm_rcv_v rfl e8 rfl) ?_
    refine ge_imp (w h hR) (fun v8 h w => ?_)
    obtain ⟨s_8, hR, rfl, w⟩ := w
    show gw (gt_T c.1 c.2.1 c.2.2.1) c.2.2.2 d 105 (34, [some (.ref 0), some (.int x1), some (.int x_5)], [], h) _
    refine gw_pst hk 1 (st' := (35, [some (.ref 0), some (.int x1), some (.int x_5)], [.int x_5], h)) rfl ?_
    exact gw_ret (hk _ _ rfl) rfl ⟨_, hR, w⟩
def w106_121 (c : gx) (d : Nat) (Post : Option Value → gs → Prop) (K44 : Int32 → Int32 → Int32 → Int32 → gs → Prop) (K63 : Int32 → Int32 → Int32 → Int32 → Int32 → gs → Prop) (x2 : Int32) (x3 : Int32) (x4 : Int32) (x5 : Int32) (x6 : Int32) (s : gs) : Prop :=
  K63 x2 x3 x4 x5 (x6 + (2 * x5)) s
theorem ok106_121 (c : gx) (d : Nat) (Post : Option Value → gs → Prop) (K44 : Int32 → Int32 → Int32 → Int32 → gs → Prop) (K63 : Int32 → Int32 → Int32 → Int32 → Int32 → gs → Prop)  (hK44 : ∀ (x2 : Int32) (x3 : Int32) (x4 : Int32) (x5 : Int32) (s : gs), K44 x2 x3 x4 x5 s → tV c d 106 44 [some (.ref 0), none, some (.int x2), some (.int x3), some (.int x4), some (.int x5), none] [] s Post) (hK63 : ∀ (x2 : Int32) (x3 : Int32) (x4 : Int32) (x5 : Int32) (x6 : Int32) (s : gs), K63 x2 x3 x4 x5 x6 s → tV c d 106 63 [some (.ref 0), none, some (.int x2), some (.int x3), some (.int x4), some (.int x5), some (.int x6)] [] s Post) (x2 : Int32) (x3 : Int32) (x4 : Int32) (x5 : Int32) (x6 : Int32) (s : gs) (w : w106_121 c d Post K44 K63 x2 x3 x4 x5 x6 s) : tV c d 106 121 [some (.ref 0), none, some (.int x2), some (.int x3), some (.int x4), some (.int x5), some (.int x6)] [] s Post := by
  intro h hR
  have hk : ∀ pc i, gm_find gk_106 pc = some i → gm_code (gt_T c.1 c.2.1 c.2.2.1) 106 pc = some i := fun _ _ z => z
  unfold w106_121 at w
  unfold gV
  refine gw_pst hk 7 (st' := (63, [some (.ref 0), none, some (.int x2), some (.int x3), some (.int x4), some (.int x5), some (.int (x6 + (2 * x5)))], [], h)) rfl ?_
  exact hK63 _ _ _ _ _ _ w _ hR
def wb106_63 (c : gx) (d : Nat) (Post : Option Value → gs → Prop) (K44 : Int32 → Int32 → Int32 → Int32 → gs → Prop) (K63 : Int32 → Int32 → Int32 → Int32 → Int32 → gs → Prop) (x2 : Int32) (x3 : Int32) (x4 : Int32) (x5 : Int32) (x6 : Int32) (s : gs) : Prop :=
  ((((gsV s 14 1) + x5) < x6 → K44 x2 x3 x4 (x5 + 1) s) ∧ (¬ (((gsV s 14 1) + x5) < x6) → tE c d 14 [.ref 3, .int x6] s (fun v5 s_5 => ∃ x_5 : Int32, v5 = some (.int x_5) ∧ ((x_5 = 0 → w106_121 c d Post K44 K63 x2 x3 x4 x5 x6 s_5) ∧ (¬ (x_5 = 0) → (((x2 &&& (1 <<< (x6 &&& 31))) = 0 → w106_121 c d Post K44 K63 x2 x3 x4 x5 x6 s_5) ∧ (¬ ((x2 &&& (1 <<< (x6 &&& 31))) = 0) → tE c d 111 [.ref 0, .int x6] s_5 (fun v8 s_8 => ∃ x_8 : Int32, v8 = some (.int x_8) ∧ ((x_8 ≤ x4 → w106_121 c d Post K44 K63 x2 x3 x4 x5 x6 s_8) ∧ (¬ (x_8 ≤ x4) → tE c d 111 [.ref 0, .int x6] s_8 (fun v10 s_10 => ∃ x_10 : Int32, v10 = some (.int x_10) ∧ w106_121 c d Post K44 K63 x2 x6 x_10 x5 x6 s_10)))))))))))
theorem okb106_63 (c : gx) (d : Nat) (Post : Option Value → gs → Prop) (K44 : Int32 → Int32 → Int32 → Int32 → gs → Prop) (K63 : Int32 → Int32 → Int32 → Int32 → Int32 → gs → Prop)  (hK44 : ∀ (x2 : Int32) (x3 : Int32) (x4 : Int32) (x5 : Int32) (s : gs), K44 x2 x3 x4 x5 s → tV c d 106 44 [some (.ref 0), none, some (.int x2), some (.int x3), some (.int x4), some (.int x5), none] [] s Post) (hK63 : ∀ (x2 : Int32) (x3 : Int32) (x4 : Int32) (x5 : Int32) (x6 : Int32) (s : gs), K63 x2 x3 x4 x5 x6 s → tV c d 106 63 [some (.ref 0), none, some (.int x2), some (.int x3), some (.int x4), some (.int x5), some (.int x6)] [] s Post) (x2 : Int32) (x3 : Int32) (x4 : Int32) (x5 : Int32) (x6 : Int32) (s : gs) (w : wb106_63 c d Post K44 K63 x2 x3 x4 x5 x6 s) : tV c d 106 63 [some (.ref 0), none, some (.int x2), some (.int x3), some (.int x4), some (.int x5), some (.int x6)] [] s Post := by
  intro h hR
  have hk : ∀ pc i, gm_find gk_106 pc = some i → gm_code (gt_T c.1 c.2.1 c.2.2.1) 106 pc = some i := fun _ _ z => z
  unfold wb106_63 at w
  unfold gV
  refine gw_pst hk 2 (st' := (66, [some (.ref 0), none, some (.int x2), some (.int x3), some (.int x4), some (.int x5), some (.int x6)], [.ref 0, .int x6], h)) rfl ?_
  refine gw_gf (hk _ _ rfl) (RL_fR (n := 14) hR rfl) ?_
  refine gw_gf (hk _ _ rfl) (RL_fI hR rfl) ?_
  refine gw_pst hk 2 (st' := (75, [some (.ref 0), none, some (.int x2), some (.int x3), some (.int x4), some (.int x5), some (.int x6)], [.int ((gsV s 14 1) + x5), .int x6], h)) rfl ?_
  refine gw_br (c := ((gsV s 14 1) + x5) < x6) (a := (133, [some (.ref 0), none, some (.int x2), some (.int x3), some (.int x4), some (.int x5), some (.int x6)], [], h)) (b := (78, [some (.ref 0), none, some (.int x2), some (.int x3), some (.int x4), some (.int x5), some (.int x6)], [], h)) (hk _ _ rfl) rfl ⟨fun z3 => ?_, fun z3 => ?_⟩
  · replace w := w.1 z3
    refine gw_pst hk 2 (st' := (44, [some (.ref 0), none, some (.int x2), some (.int x3), some (.int x4), some (.int (x5 + 1)), some (.int x6)], [], h)) rfl ?_
    refine gw_le (L' := [some (.ref 0), none, some (.int x2), some (.int x3), some (.int x4), some (.int (x5 + 1)), none]) (gm_le_k _ (gm_le_k _ (gm_le_k _ (gm_le_k _ (gm_le_k _ (gm_le_k _ (gm_le_n _ gm_le_nil))))))) ?_
    exact hK44 _ _ _ _ _ w _ hR
  · replace w := w.2 z3
    refine gw_pst hk 1 (st' := (79, [some (.ref 0), none, some (.int x2), some (.int x3), some (.int x4), some (.int x5), some (.int x6)], [.ref 0], h)) rfl ?_
    refine gw_gf (hk _ _ rfl) (RL_fR (n := 3) hR rfl) ?_
    refine gw_pst hk 1 (st' := (84, [some (.ref 0), none, some (.int x2), some (.int x3), some (.int x4), some (.int x5), some (.int x6)], [.int x6, .ref 3], h)) rfl ?_
    obtain ⟨fs5, e5⟩ := RL_o hR (r := 3) (ci := 1) rfl
    refine gw_call (jj := 14) (As := [.ref 3, .int x6]) (rest := []) (hk _ _ rfl) (fun _ => rfl) rfl rfl (Nat.le_of_ble_eq_true rfl) (gm_rcv_v rfl e5 rfl) ?_
    refine ge_imp (w h hR) (fun v5 h w => ?_)
    obtain ⟨s_5, hR, x_5, rfl, w⟩ := w
    show gw (gt_T c.1 c.2.1 c.2.2.1) c.2.2.2 d 106 (87, [some (.ref 0), none, some (.int x2), some (.int x3), some (.int x4), some (.int x5), some (.int x6)], [.int x_5], h) _
    refine gw_br (c := x_5 = 0) (a := (121, [some (.ref 0), none, some (.int x2), some (.int x3), some (.int x4), some (.int x5), some (.int x6)], [], h)) (b := (90, [some (.ref 0), none, some (.int x2), some (.int x3), some (.int x4), some (.int x5), some (.int x6)], [], h)) (hk _ _ rfl) rfl ⟨fun z6 => ?_, fun z6 => ?_⟩
    · replace w := w.1 z6
      exact ok106_121 c d Post K44 K63 hK44 hK63 _ _ _ _ _ _ w _ hR
    · replace w := w.2 z6
      refine gw_pst hk 5 (st' := (96, [some (.ref 0), none, some (.int x2), some (.int x3), some (.int x4), some (.int x5), some (.int x6)], [.int (x2 &&& (1 <<< (x6 &&& 31)))], h)) rfl ?_
      refine gw_br (c := (x2 &&& (1 <<< (x6 &&& 31))) = 0) (a := (121, [some (.ref 0), none, some (.int x2), some (.int x3), some (.int x4), some (.int x5), some (.int x6)], [], h)) (b := (99, [some (.ref 0), none, some (.int x2), some (.int x3), some (.int x4), some (.int x5), some (.int x6)], [], h)) (hk _ _ rfl) rfl ⟨fun z7 => ?_, fun z7 => ?_⟩
      · replace w := w.1 z7
        exact ok106_121 c d Post K44 K63 hK44 hK63 _ _ _ _ _ _ w _ hR
      · replace w := w.2 z7
        refine gw_pst hk 2 (st' := (102, [some (.ref 0), none, some (.int x2), some (.int x3), some (.int x4), some (.int x5), some (.int x6)], [.int x6, .ref 0], h)) rfl ?_
        obtain ⟨fs8, e8⟩ := RL_o hR (r := 0) (ci := 9) rfl
        refine gw_call (jj := 111) (As := [.ref 0, .int x6]) (rest := []) (hk _ _ rfl) (fun _ => rfl) rfl rfl (Nat.le_of_ble_eq_true rfl) (gm_rcv_v rfl e8 rfl) ?_
        refine ge_imp (w h hR) (fun v8 h w => ?_)
        obtain ⟨s_8, hR, x_8, rfl, w⟩ := w
        show gw (gt_T c.1 c.2.1 c.2.2.1) c.2.2.2 d 106 (105, [some (.ref 0), none, some (.int x2), some (.int x3), some (.int x4), some (.int x5), some (.int x6)], [.int x_8], h) _
        refine gw_pst hk 1 (st' := (107, [some (.ref 0), none, some (.int x2), some (.int x3), some (.int x4), some (.int x5), some (.int x6)], [.int x4, .int x_8], h)) rfl ?_
        refine gw_br (c := x_8 ≤ x4) (a := (121, [some (.ref 0), none, some (.int x2), some (.int x3), some (.int x4), some (.int x5), some (.int x6)], [], h)) (b := (110, [some (.ref 0), none, some (.int x2), some (.int x3), some (.int x4), some (.int x5), some (.int x6)], [], h)) (hk _ _ rfl) rfl ⟨fun z9 => ?_, fun z9 => ?_⟩
        · replace w := w.1 z9
          exact ok106_121 c d Post K44 K63 hK44 hK63 _ _ _ _ _ _ w _ hR
        · replace w := w.2 z9
          refine gw_pst hk 4 (st' := (116, [some (.ref 0), none, some (.int x2), some (.int x6), some (.int x4), some (.int x5), some (.int x6)], [.int x6, .ref 0], h)) rfl ?_
          obtain ⟨fs10, e10⟩ := RL_o hR (r := 0) (ci := 9) rfl
          refine gw_call (jj := 111) (As := [.ref 0, .int x6]) (rest := []) (hk _ _ rfl) (fun _ => rfl) rfl rfl (Nat.le_of_ble_eq_true rfl) (gm_rcv_v rfl e10 rfl) ?_
          refine ge_imp (w h hR) (fun v10 h w => ?_)
          obtain ⟨s_10, hR, x_10, rfl, w⟩ := w
          show gw (gt_T c.1 c.2.1 c.2.2.1) c.2.2.2 d 106 (119, [some (.ref 0), none, some (.int x2), some (.int x6), some (.int x4), some (.int x5), some (.int x6)], [.int x_10], h) _
          refine gw_pst hk 1 (st' := (121, [some (.ref 0), none, some (.int x2), some (.int x6), some (.int x_10), some (.int x5), some (.int x6)], [], h)) rfl ?_
          exact ok106_121 c d Post K44 K63 hK44 hK63 _ _ _ _ _ _ w _ hR
def wl106_63 (c : gx) (d : Nat) (Post : Option Value → gs → Prop) (K44 : Int32 → Int32 → Int32 → Int32 → gs → Prop) : Nat → Int32 → Int32 → Int32 → Int32 → Int32 → gs → Prop
  | 0 => fun _ _ _ _ _ _ => False
  | n + 1 => wb106_63 c d Post K44 (wl106_63 c d Post K44 n)
theorem okl106_63 (c : gx) (d : Nat) (Post : Option Value → gs → Prop) (K44 : Int32 → Int32 → Int32 → Int32 → gs → Prop) (hK44 : ∀ (x2 : Int32) (x3 : Int32) (x4 : Int32) (x5 : Int32) (s : gs), K44 x2 x3 x4 x5 s → tV c d 106 44 [some (.ref 0), none, some (.int x2), some (.int x3), some (.int x4), some (.int x5), none] [] s Post) : ∀ (n : Nat) (x2 : Int32) (x3 : Int32) (x4 : Int32) (x5 : Int32) (x6 : Int32) (s : gs), wl106_63 c d Post K44 n x2 x3 x4 x5 x6 s → tV c d 106 63 [some (.ref 0), none, some (.int x2), some (.int x3), some (.int x4), some (.int x5), some (.int x6)] [] s Post
  | 0, _, _, _, _, _, _, w => w.elim
  | n + 1, x2, x3, x4, x5, x6, s, w => okb106_63 c d Post K44 (wl106_63 c d Post K44 n) hK44 (okl106_63 c d Post K44 hK44 n) x2 x3 x4 x5 x6 s w
def wb106_44 (c : gx) (d : Nat) (Post : Option Value → gs → Prop) (K44 : Int32 → Int32 → Int32 → Int32 → gs → Prop) (x2 : Int32) (x3 : Int32) (x4 : Int32) (x5 : Int32) (s : gs) : Prop :=
  ((12 ≤ x5 → tE c d 45 [.ref 34, .long ((501 + x4 : Int32).toInt64)] s (fun v3 s_3 => v3 = none ∧ Post (some (.int x3)) s_3)) ∧ (¬ (12 ≤ x5) → ∃ n, wl106_63 c d Post K44 n x2 x3 x4 x5 ((gsV s 14 1) - x5) s))
theorem okb106_44 (c : gx) (d : Nat) (Post : Option Value → gs → Prop) (K44 : Int32 → Int32 → Int32 → Int32 → gs → Prop)  (hK44 : ∀ (x2 : Int32) (x3 : Int32) (x4 : Int32) (x5 : Int32) (s : gs), K44 x2 x3 x4 x5 s → tV c d 106 44 [some (.ref 0), none, some (.int x2), some (.int x3), some (.int x4), some (.int x5), none] [] s Post) (x2 : Int32) (x3 : Int32) (x4 : Int32) (x5 : Int32) (s : gs) (w : wb106_44 c d Post K44 x2 x3 x4 x5 s) : tV c d 106 44 [some (.ref 0), none, some (.int x2), some (.int x3), some (.int x4), some (.int x5), none] [] s Post := by
  intro h hR
  have hk : ∀ pc i, gm_find gk_106 pc = some i → gm_code (gt_T c.1 c.2.1 c.2.2.1) 106 pc = some i := fun _ _ z => z
  unfold wb106_44 at w
  unfold gV
  refine gw_pst hk 2 (st' := (48, [some (.ref 0), none, some (.int x2), some (.int x3), some (.int x4), some (.int x5), none], [.int 12, .int x5], h)) rfl ?_
  refine gw_br (c := 12 ≤ x5) (a := (139, [some (.ref 0), none, some (.int x2), some (.int x3), some (.int x4), some (.int x5), none], [], h)) (b := (51, [some (.ref 0), none, some (.int x2), some (.int x3), some (.int x4), some (.int x5), none], [], h)) (hk _ _ rfl) rfl ⟨fun z1 => ?_, fun z1 => ?_⟩
  · replace w := w.1 z1
    refine gw_pst hk 1 (st' := (140, [some (.ref 0), none, some (.int x2), some (.int x3), some (.int x4), some (.int x5), none], [.ref 0], h)) rfl ?_
    refine gw_gf (hk _ _ rfl) (RL_fR (n := 34) hR rfl) ?_
    refine gw_pst hk 4 (st' := (150, [some (.ref 0), none, some (.int x2), some (.int x3), some (.int x4), some (.int x5), none], [.long ((501 + x4 : Int32).toInt64), .ref 34], h)) rfl ?_
    obtain ⟨fs3, e3⟩ := RL_o hR (r := 34) (ci := 5) rfl
    refine gw_call (jj := 45) (As := [.ref 34, .long ((501 + x4 : Int32).toInt64)]) (rest := []) (hk _ _ rfl) (fun _ => rfl) rfl rfl (Nat.le_of_ble_eq_true rfl) (gm_rcv_v rfl e3 rfl) ?_
    refine ge_imp (w h hR) (fun v3 h w => ?_)
    obtain ⟨s_3, hR, rfl, w⟩ := w
    show gw (gt_T c.1 c.2.1 c.2.2.1) c.2.2.2 d 106 (153, [some (.ref 0), none, some (.int x2), some (.int x3), some (.int x4), some (.int x5), none], [], h) _
    refine gw_pst hk 1 (st' := (154, [some (.ref 0), none, some (.int x2), some (.int x3), some (.int x4), some (.int x5), none], [.int x3], h)) rfl ?_
    exact gw_ret (hk _ _ rfl) rfl ⟨_, hR, w⟩
  · replace w := w.2 z1
    refine gw_pst hk 1 (st' := (52, [some (.ref 0), none, some (.int x2), some (.int x3), some (.int x4), some (.int x5), none], [.ref 0], h)) rfl ?_
    refine gw_gf (hk _ _ rfl) (RL_fR (n := 14) hR rfl) ?_
    refine gw_gf (hk _ _ rfl) (RL_fI hR rfl) ?_
    refine gw_pst hk 3 (st' := (63, [some (.ref 0), none, some (.int x2), some (.int x3), some (.int x4), some (.int x5), some (.int ((gsV s 14 1) - x5))], [], h)) rfl ?_
    obtain ⟨n, w⟩ := w
    exact okl106_63 c d Post K44 hK44 n _ _ _ _ _ _ w _ hR
def wl106_44 (c : gx) (d : Nat) (Post : Option Value → gs → Prop) : Nat → Int32 → Int32 → Int32 → Int32 → gs → Prop
  | 0 => fun _ _ _ _ _ => False
  | n + 1 => wb106_44 c d Post (wl106_44 c d Post n)
theorem okl106_44 (c : gx) (d : Nat) (Post : Option Value → gs → Prop) : ∀ (n : Nat) (x2 : Int32) (x3 : Int32) (x4 : Int32) (x5 : Int32) (s : gs), wl106_44 c d Post n x2 x3 x4 x5 s → tV c d 106 44 [some (.ref 0), none, some (.int x2), some (.int x3), some (.int x4), some (.int x5), none] [] s Post
  | 0, _, _, _, _, _, w => w.elim
  | n + 1, x2, x3, x4, x5, s, w => okb106_44 c d Post (wl106_44 c d Post n) (okl106_44 c d Post n) x2 x3 x4 x5 s w
/-- CommandByTurns.evening()I -/
def wm106 (c : gx) (d : Nat) (Post : Option Value → gs → Prop)  (s : gs) : Prop :=
  tE c d 84 [.ref 0] s (fun v1 s_1 => ∃ x_1 : Int32, v1 = some (.int x_1) ∧ ((x_1 = (-1) → Post (some (.int (-2))) s_1) ∧ (¬ (x_1 = (-1)) → tE c d 112 [.ref 0, .int x_1, .int (gsV s_1 14 1)] s_1 (fun v5 s_5 => ∃ x_5 : Int32, v5 = some (.int x_5) ∧ tE c d 111 [.ref 0, .int (gsV s_5 14 1)] s_5 (fun v8 s_8 => ∃ x_8 : Int32, v8 = some (.int x_8) ∧ ∃ n, wl106_44 c d Post n x_5 (gsV s_5 14 1) x_8 1 s_8)))))
theorem okm106 (c : gx) (d : Nat) (Post : Option Value → gs → Prop)  (s : gs) (w : wm106 c d Post  s) : tE c (d + 1) 106 [.ref 0] s Post := by
  intro h hR
  have hk : ∀ pc i, gm_find gk_106 pc = some i → gm_code (gt_T c.1 c.2.1 c.2.2.1) 106 pc = some i := fun _ _ z => z
  unfold wm106 at w
  refine ge_of (by decide) (Nat.le_of_ble_eq_true rfl) ?_
  show gw (gt_T c.1 c.2.1 c.2.2.1) c.2.2.2 d 106 (0, [some (.ref 0), none, none, none, none, none, none], [], h) _
  refine gw_pst hk 1 (st' := (1, [some (.ref 0), none, none, none, none, none, none], [.ref 0], h)) rfl ?_
  obtain ⟨fs1, e1⟩ := RL_o hR (r := 0) (ci := 9) rfl
  refine gw_call (jj := 84) (As := [.ref 0]) (rest := []) (hk _ _ rfl) (fun _ => rfl) rfl rfl (Nat.le_of_ble_eq_true rfl) (gm_rcv_v rfl e1 rfl) ?_
  refine ge_imp (w h hR) (fun v1 h w => ?_)
  obtain ⟨s_1, hR, x_1, rfl, w⟩ := w
  show gw (gt_T c.1 c.2.1 c.2.2.1) c.2.2.2 d 106 (4, [some (.ref 0), none, none, none, none, none, none], [.int x_1], h) _
  refine gw_pst hk 3 (st' := (7, [some (.ref 0), some (.int x_1), none, none, none, none, none], [.int (-1), .int x_1], h)) rfl ?_
  refine gw_br (c := x_1 = (-1)) (a := (10, [some (.ref 0), some (.int x_1), none, none, none, none, none], [], h)) (b := (13, [some (.ref 0), some (.int x_1), none, none, none, none, none], [], h)) (hk _ _ rfl) rfl ⟨fun z2 => ?_, fun z2 => ?_⟩
  · replace w := w.1 z2
    refine gw_pst hk 1 (st' := (12, [some (.ref 0), some (.int x_1), none, none, none, none, none], [.int (-2)], h)) rfl ?_
    exact gw_ret (hk _ _ rfl) rfl ⟨_, hR, w⟩
  · replace w := w.2 z2
    refine gw_pst hk 3 (st' := (16, [some (.ref 0), some (.int x_1), none, none, none, none, none], [.ref 0, .int x_1, .ref 0], h)) rfl ?_
    refine gw_gf (hk _ _ rfl) (RL_fR (n := 14) hR rfl) ?_
    refine gw_gf (hk _ _ rfl) (RL_fI hR rfl) ?_
    obtain ⟨fs5, e5⟩ := RL_o hR (r := 0) (ci := 9) rfl
    refine gw_call (jj := 112) (As := [.ref 0, .int x_1, .int (gsV s_1 14 1)]) (rest := []) (hk _ _ rfl) (fun _ => rfl) rfl rfl (Nat.le_of_ble_eq_true rfl) (gm_rcv_v rfl e5 rfl) ?_
    refine ge_imp (w h hR) (fun v5 h w => ?_)
    obtain ⟨s_5, hR, x_5, rfl, w⟩ := w
    show gw (gt_T c.1 c.2.1 c.2.2.1) c.2.2.2 d 106 (25, [some (.ref 0), some (.int x_1), none, none, none, none, none], [.int x_5], h) _
    refine gw_pst hk 2 (st' := (27, [some (.ref 0), some (.int x_1), some (.int x_5), none, none, none, none], [.ref 0], h)) rfl ?_
    refine gw_gf (hk _ _ rfl) (RL_fR (n := 14) hR rfl) ?_
    refine gw_gf (hk _ _ rfl) (RL_fI hR rfl) ?_
    refine gw_pst hk 3 (st' := (36, [some (.ref 0), some (.int x_1), some (.int x_5), some (.int (gsV s_5 14 1)), none, none, none], [.int (gsV s_5 14 1), .ref 0], h)) rfl ?_
    obtain ⟨fs8, e8⟩ := RL_o hR (r := 0) (ci := 9) rfl
    refine gw_call (jj := 111) (As := [.ref 0, .int (gsV s_5 14 1)]) (rest := []) (hk _ _ rfl) (fun _ => rfl) rfl rfl (Nat.le_of_ble_eq_true rfl) (gm_rcv_v rfl e8 rfl) ?_
    refine ge_imp (w h hR) (fun v8 h w => ?_)
    obtain ⟨s_8, hR, x_8, rfl, w⟩ := w
    show gw (gt_T c.1 c.2.1 c.2.2.1) c.2.2.2 d 106 (39, [some (.ref 0), some (.int x_1), some (.int x_5), some (.int (gsV s_5 14 1)), none, none, none], [.int x_8], h) _
    refine gw_pst hk 3 (st' := (44, [some (.ref 0), some (.int x_1), some (.int x_5), some (.int (gsV s_5 14 1)), some (.int x_8), some (.int 1), none], [], h)) rfl ?_
    refine gw_le (L' := [some (.ref 0), none, some (.int x_5), some (.int (gsV s_5 14 1)), some (.int x_8), some (.int 1), none]) (gm_le_k _ (gm_le_n _ (gm_le_k _ (gm_le_k _ (gm_le_k _ (gm_le_k _ (gm_le_k _ gm_le_nil))))))) ?_
    obtain ⟨n, w⟩ := w
    exact okl106_44 c d Post n _ _ _ _ _ w _ hR
def w107_30 (c : gx) (d : Nat) (Post : Option Value → gs → Prop) (xs0 : Int32) (s : gs) : Prop :=
  Post (some (.int xs0)) s
theorem ok107_30 (c : gx) (d : Nat) (Post : Option Value → gs → Prop)  (xs0 : Int32) (s : gs) (w : w107_30 c d Post xs0 s) : tV c d 107 30 [none, none] [.int xs0] s Post := by
  intro h hR
  have hk : ∀ pc i, gm_find gk_107 pc = some i → gm_code (gt_T c.1 c.2.1 c.2.2.1) 107 pc = some i := fun _ _ z => z
  unfold w107_30 at w
  unfold gV
  exact gw_ret (hk _ _ rfl) rfl ⟨_, hR, w⟩
/-- CommandByTurns.lasts()I -/
def wm107 (c : gx) (d : Nat) (Post : Option Value → gs → Prop)  (s : gs) : Prop :=
  tE c d 57 [.ref 14] s (fun v4 s_4 => ∃ x_4 : Int32, v4 = some (.int x_4) ∧ ¬ x_4 = 0 ∧ (((((gsV s 14 5) / x_4) + 1) ≤ 99 → w107_30 c d Post (((gsV s 14 5) / x_4) + 1) s_4) ∧ (¬ ((((gsV s 14 5) / x_4) + 1) ≤ 99) → w107_30 c d Post (-2) s_4)))
theorem okm107 (c : gx) (d : Nat) (Post : Option Value → gs → Prop)  (s : gs) (w : wm107 c d Post  s) : tE c (d + 1) 107 [.ref 0] s Post := by
  intro h hR
  have hk : ∀ pc i, gm_find gk_107 pc = some i → gm_code (gt_T c.1 c.2.1 c.2.2.1) 107 pc = some i := fun _ _ z => z
  unfold wm107 at w
  refine ge_of (by decide) (Nat.le_of_ble_eq_true rfl) ?_
  show gw (gt_T c.1 c.2.1 c.2.2.1) c.2.2.2 d 107 (0, [some (.ref 0), none], [], h) _
  refine gw_pst hk 1 (st' := (1, [some (.ref 0), none], [.ref 0], h)) rfl ?_
  refine gw_gf (hk _ _ rfl) (RL_fR (n := 14) hR rfl) ?_
  refine gw_gf (hk _ _ rfl) (RL_fI hR rfl) ?_
  refine gw_pst hk 1 (st' := (8, [some (.ref 0), none], [.ref 0, .int (gsV s 14 5)], h)) rfl ?_
  refine gw_gf (hk _ _ rfl) (RL_fR (n := 14) hR rfl) ?_
  obtain ⟨fs4, e4⟩ := RL_o hR (r := 14) (ci := 6) rfl
  refine gw_call (jj := 57) (As := [.ref 14]) (rest := [.int (gsV s 14 5)]) (hk _ _ rfl) (fun _ => rfl) rfl rfl (Nat.le_of_ble_eq_true rfl) (gm_rcv_v rfl e4 rfl) ?_
  refine ge_imp (w h hR) (fun v4 h w => ?_)
  obtain ⟨s_4, hR, x_4, rfl, w⟩ := w
  show gw (gt_T c.1 c.2.1 c.2.2.1) c.2.2.2 d 107 (14, [some (.ref 0), none], [.int x_4, .int (gsV s 14 5)], h) _
  obtain ⟨z5, w⟩ := w
  refine gw_idiv (hk _ _ rfl) z5 ?_ rfl
  refine gw_pst hk 5 (st' := (21, [some (.ref 0), some (.int (((gsV s 14 5) / x_4) + 1))], [.int 99, .int (((gsV s 14 5) / x_4) + 1)], h)) rfl ?_
  refine gw_br (c := (((gsV s 14 5) / x_4) + 1) ≤ 99) (a := (29, [some (.ref 0), some (.int (((gsV s 14 5) / x_4) + 1))], [], h)) (b := (24, [some (.ref 0), some (.int (((gsV s 14 5) / x_4) + 1))], [], h)) (hk _ _ rfl) rfl ⟨fun z6 => ?_, fun z6 => ?_⟩
  · replace w := w.1 z6
    refine gw_pst hk 1 (st' := (30, [some (.ref 0), some (.int (((gsV s 14 5) / x_4) + 1))], [.int (((gsV s 14 5) / x_4) + 1)], h)) rfl ?_
    refine gw_le (L' := [none, none]) (gm_le_n _ (gm_le_n _ gm_le_nil)) ?_
    exact ok107_30 c d Post _ _ w _ hR
  · replace w := w.2 z6
    refine gw_pst hk 2 (st' := (30, [some (.ref 0), some (.int (((gsV s 14 5) / x_4) + 1))], [.int (-2)], h)) rfl ?_
    refine gw_le (L' := [none, none]) (gm_le_n _ (gm_le_n _ gm_le_nil)) ?_
    exact ok107_30 c d Post _ _ w _ hR
def w108_10 (c : gx) (d : Nat) (Post : Option Value → gs → Prop)  (s : gs) : Prop :=
  Post (some (.int (-1))) s
theorem ok108_10 (c : gx) (d : Nat) (Post : Option Value → gs → Prop)   (s : gs) (w : w108_10 c d Post  s) : tV c d 108 10 [none, none, none] [] s Post := by
  intro h hR
  have hk : ∀ pc i, gm_find gk_108 pc = some i → gm_code (gt_T c.1 c.2.1 c.2.2.1) 108 pc = some i := fun _ _ z => z
  unfold w108_10 at w
  unfold gV
  refine gw_pst hk 1 (st' := (11, [none, none, none], [.int (-1)], h)) rfl ?_
  exact gw_ret (hk _ _ rfl) rfl ⟨_, hR, w⟩
def wb108_25 (c : gx) (d : Nat) (Post : Option Value → gs → Prop) (K25 : Int32 → Int32 → gs → Prop) (x1 : Int32) (x2 : Int32) (s : gs) : Prop :=
  ((x1 ≤ x2 → tE c d 45 [.ref 34, .long ((gsV s 16 5 : Int32).toInt64)] s (fun v5 s_5 => v5 = none ∧ Post (some (.int (gsV s_5 16 3))) s_5)) ∧ (¬ (x1 ≤ x2) → tE c d 58 [.ref 16] s (fun v9 s_9 => v9 = none ∧ K25 x1 (x2 + 1) s_9)))
theorem okb108_25 (c : gx) (d : Nat) (Post : Option Value → gs → Prop) (K25 : Int32 → Int32 → gs → Prop)  (hK25 : ∀ (x1 : Int32) (x2 : Int32) (s : gs), K25 x1 x2 s → tV c d 108 25 [some (.ref 0), some (.int x1), some (.int x2)] [] s Post) (x1 : Int32) (x2 : Int32) (s : gs) (w : wb108_25 c d Post K25 x1 x2 s) : tV c d 108 25 [some (.ref 0), some (.int x1), some (.int x2)] [] s Post := by
  intro h hR
  have hk : ∀ pc i, gm_find gk_108 pc = some i → gm_code (gt_T c.1 c.2.1 c.2.2.1) 108 pc = some i := fun _ _ z => z
  unfold wb108_25 at w
  unfold gV
  refine gw_pst hk 2 (st' := (27, [some (.ref 0), some (.int x1), some (.int x2)], [.int x1, .int x2], h)) rfl ?_
  refine gw_br (c := x1 ≤ x2) (a := (43, [some (.ref 0), some (.int x1), some (.int x2)], [], h)) (b := (30, [some (.ref 0), some (.int x1), some (.int x2)], [], h)) (hk _ _ rfl) rfl ⟨fun z1 => ?_, fun z1 => ?_⟩
  · replace w := w.1 z1
    refine gw_pst hk 1 (st' := (44, [some (.ref 0), some (.int x1), some (.int x2)], [.ref 0], h)) rfl ?_
    refine gw_gf (hk _ _ rfl) (RL_fR (n := 34) hR rfl) ?_
    refine gw_pst hk 1 (st' := (48, [some (.ref 0), some (.int x1), some (.int x2)], [.ref 0, .ref 34], h)) rfl ?_
    refine gw_gf (hk _ _ rfl) (RL_fR (n := 16) hR rfl) ?_
    refine gw_gf (hk _ _ rfl) (RL_fI hR rfl) ?_
    refine gw_pst hk 1 (st' := (55, [some (.ref 0), some (.int x1), some (.int x2)], [.long ((gsV s 16 5 : Int32).toInt64), .ref 34], h)) rfl ?_
    obtain ⟨fs5, e5⟩ := RL_o hR (r := 34) (ci := 5) rfl
    refine gw_call (jj := 45) (As := [.ref 34, .long ((gsV s 16 5 : Int32).toInt64)]) (rest := []) (hk _ _ rfl) (fun _ => rfl) rfl rfl (Nat.le_of_ble_eq_true rfl) (gm_rcv_v rfl e5 rfl) ?_
    refine ge_imp (w h hR) (fun v5 h w => ?_)
    obtain ⟨s_5, hR, rfl, w⟩ := w
    show gw (gt_T c.1 c.2.1 c.2.2.1) c.2.2.2 d 108 (58, [some (.ref 0), some (.int x1), some (.int x2)], [], h) _
    refine gw_pst hk 1 (st' := (59, [some (.ref 0), some (.int x1), some (.int x2)], [.ref 0], h)) rfl ?_
    refine gw_gf (hk _ _ rfl) (RL_fR (n := 16) hR rfl) ?_
    refine gw_gf (hk _ _ rfl) (RL_fI hR rfl) ?_
    exact gw_ret (hk _ _ rfl) rfl ⟨_, hR, w⟩
  · replace w := w.2 z1
    refine gw_pst hk 1 (st' := (31, [some (.ref 0), some (.int x1), some (.int x2)], [.ref 0], h)) rfl ?_
    refine gw_gf (hk _ _ rfl) (RL_fR (n := 16) hR rfl) ?_
    obtain ⟨fs9, e9⟩ := RL_o hR (r := 16) (ci := 6) rfl
    refine gw_call (jj := 58) (As := [.ref 16]) (rest := []) (hk _ _ rfl) (fun _ => rfl) rfl rfl (Nat.le_of_ble_eq_true rfl) (gm_rcv_v rfl e9 rfl) ?_
    refine ge_imp (w h hR) (fun v9 h w => ?_)
    obtain ⟨s_9, hR, rfl, w⟩ := w
    show gw (gt_T c.1 c.2.1 c.2.2.1) c.2.2.2 d 108 (37, [some (.ref 0), some (.int x1), some (.int x2)], [], h) _
    refine gw_pst hk 2 (st' := (25, [some (.ref 0), some (.int x1), some (.int (x2 + 1))], [], h)) rfl ?_
    exact hK25 _ _ _ w _ hR
def wl108_25 (c : gx) (d : Nat) (Post : Option Value → gs → Prop) : Nat → Int32 → Int32 → gs → Prop
  | 0 => fun _ _ _ => False
  | n + 1 => wb108_25 c d Post (wl108_25 c d Post n)
theorem okl108_25 (c : gx) (d : Nat) (Post : Option Value → gs → Prop) : ∀ (n : Nat) (x1 : Int32) (x2 : Int32) (s : gs), wl108_25 c d Post n x1 x2 s → tV c d 108 25 [some (.ref 0), some (.int x1), some (.int x2)] [] s Post
  | 0, _, _, _, w => w.elim
  | n + 1, x1, x2, s, w => okb108_25 c d Post (wl108_25 c d Post n) (okl108_25 c d Post n) x1 x2 s w
/-- CommandByTurns.feeds(I)I -/
def wm108 (c : gx) (d : Nat) (Post : Option Value → gs → Prop) (x1 : Int32) (s : gs) : Prop :=
  ((x1 < 0 → w108_10 c d Post s) ∧ (¬ (x1 < 0) → ((x1 ≤ 99 → tE c d 48 [.ref 16, .ref 14] s (fun v5 s_5 => v5 = none ∧ ∃ n, wl108_25 c d Post n x1 0 s_5)) ∧ (¬ (x1 ≤ 99) → w108_10 c d Post s))))
theorem okm108 (c : gx) (d : Nat) (Post : Option Value → gs → Prop) (x1 : Int32) (s : gs) (w : wm108 c d Post x1 s) : tE c (d + 1) 108 [.ref 0, .int x1] s Post := by
  intro h hR
  have hk : ∀ pc i, gm_find gk_108 pc = some i → gm_code (gt_T c.1 c.2.1 c.2.2.1) 108 pc = some i := fun _ _ z => z
  unfold wm108 at w
  refine ge_of (by decide) (Nat.le_of_ble_eq_true rfl) ?_
  show gw (gt_T c.1 c.2.1 c.2.2.1) c.2.2.2 d 108 (0, [some (.ref 0), some (.int x1), none], [], h) _
  refine gw_pst hk 1 (st' := (1, [some (.ref 0), some (.int x1), none], [.int x1], h)) rfl ?_
  refine gw_br (c := x1 < 0) (a := (10, [some (.ref 0), some (.int x1), none], [], h)) (b := (4, [some (.ref 0), some (.int x1), none], [], h)) (hk _ _ rfl) rfl ⟨fun z1 => ?_, fun z1 => ?_⟩
  · replace w := w.1 z1
    refine gw_le (L' := [none, none, none]) (gm_le_n _ (gm_le_n _ (gm_le_k _ gm_le_nil))) ?_
    exact ok108_10 c d Post _ w _ hR
  · replace w := w.2 z1
    refine gw_pst hk 2 (st' := (7, [some (.ref 0), some (.int x1), none], [.int 99, .int x1], h)) rfl ?_
    refine gw_br (c := x1 ≤ 99) (a := (12, [some (.ref 0), some (.int x1), none], [], h)) (b := (10, [some (.ref 0), some (.int x1), none], [], h)) (hk _ _ rfl) rfl ⟨fun z2 => ?_, fun z2 => ?_⟩
    · replace w := w.1 z2
      refine gw_pst hk 1 (st' := (13, [some (.ref 0), some (.int x1), none], [.ref 0], h)) rfl ?_
      refine gw_gf (hk _ _ rfl) (RL_fR (n := 16) hR rfl) ?_
      refine gw_pst hk 1 (st' := (17, [some (.ref 0), some (.int x1), none], [.ref 0, .ref 16], h)) rfl ?_
      refine gw_gf (hk _ _ rfl) (RL_fR (n := 14) hR rfl) ?_
      obtain ⟨fs5, e5⟩ := RL_o hR (r := 16) (ci := 6) rfl
      refine gw_call (jj := 48) (As := [.ref 16, .ref 14]) (rest := []) (hk _ _ rfl) (fun _ => rfl) rfl rfl (Nat.le_of_ble_eq_true rfl) (gm_rcv_v rfl e5 rfl) ?_
      refine ge_imp (w h hR) (fun v5 h w => ?_)
      obtain ⟨s_5, hR, rfl, w⟩ := w
      show gw (gt_T c.1 c.2.1 c.2.2.1) c.2.2.2 d 108 (23, [some (.ref 0), some (.int x1), none], [], h) _
      refine gw_pst hk 2 (st' := (25, [some (.ref 0), some (.int x1), some (.int 0)], [], h)) rfl ?_
      obtain ⟨n, w⟩ := w
      exact okl108_25 c d Post n _ _ _ w _ hR
    · replace w := w.2 z2
      refine gw_le (L' := [none, none, none]) (gm_le_n _ (gm_le_n _ (gm_le_k _ gm_le_nil))) ?_
      exact ok108_10 c d Post _ w _ hR
/-- CommandByTurns.boldness(I)I -/
def wm109 (c : gx) (d : Nat) (Post : Option Value → gs → Prop) (x1 : Int32) (s : gs) : Prop :=
  tE c d 14 [.ref 3, .int x1] s (fun v2 s_2 => ∃ x_2 : Int32, v2 = some (.int x_2) ∧ ((x_2 = 0 → Post (some (.int (-1000))) s_2) ∧ (¬ (x_2 = 0) → tE c d 16 [.int x1, .int (gsV s_2 14 2)] s_2 (fun v6 s_6 => ∃ x_6 : Int32, v6 = some (.int x_6) ∧ ((x_6 = 0 → Post (some (.int (-2000))) s_6) ∧ (¬ (x_6 = 0) → tE c d 150 [.ref 0, .ref 14, .int x1, .int 0, .int (gsV s_6 14 0)] s_6 (fun v11 s_11 => ∃ x_11 : Int32, v11 = some (.int x_11) ∧ tE c d 150 [.ref 0, .ref 14, .int x1, .int 1, .int (gsV s_11 14 0)] s_11 (fun v15 s_15 => ∃ x_15 : Int32, v15 = some (.int x_15) ∧ tE c d 46 [.ref 34, .long ((501 + x_11 : Int32).toInt64), .long ((501 + x_15 : Int32).toInt64)] s_15 (fun v17 s_17 => v17 = none ∧ Post (some (.int (x_11 - x_15))) s_17)))))))))
theorem okm109 (c : gx) (d : Nat) (Post : Option Value → gs → Prop) (x1 : Int32) (s : gs) (w : wm109 c d Post x1 s) : tE c (d + 1) 109 [.ref 0, .int x1] s Post := by
  intro h hR
  have hk : ∀ pc i, gm_find gk_109 pc = some i → gm_code (gt_T c.1 c.2.1 c.2.2.1) 109 pc = some i := fun _ _ z => z
  unfold wm109 at w
  refine ge_of (by decide) (Nat.le_of_ble_eq_true rfl) ?_
  show gw (gt_T c.1 c.2.1 c.2.2.1) c.2.2.2 d 109 (0, [some (.ref 0), some (.int x1), none, none], [], h) _
  refine gw_pst hk 1 (st' := (1, [some (.ref 0), some (.int x1), none, none], [.ref 0], h)) rfl ?_
  refine gw_gf (hk _ _ rfl) (RL_fR (n := 3) hR rfl) ?_
  refine gw_pst hk 1 (st' := (5, [some (.ref 0), some (.int x1), none, none], [.int x1, .ref 3], h)) rfl ?_
  obtain ⟨fs2, e2⟩ := RL_o hR (r := 3) (ci := 1) rfl
  refine gw_call (jj := 14) (As := [.ref 3, .int x1]) (rest := []) (hk _ _ rfl) (fun _ => rfl) rfl rfl (Nat.le_of_ble_eq_true rfl) (gm_rcv_v rfl e2 rfl) ?_
  refine ge_imp (w h hR) (fun v2 h w => ?_)
  obtain ⟨s_2, hR, x_2, rfl, w⟩ := w
  show gw (gt_T c.1 c.2.1 c.2.2.1) c.2.2.2 d 109 (8, [some (.ref 0), some (.int x1), none, none], [.int x_2], h) _
  refine gw_br (c := x_2 = 0) (a := (11, [some (.ref 0), some (.int x1), none, none], [], h)) (b := (15, [some (.ref 0), some (.int x1), none, none], [], h)) (hk _ _ rfl) rfl ⟨fun z3 => ?_, fun z3 => ?_⟩
  · replace w := w.1 z3
    refine gw_pst hk 1 (st' := (14, [some (.ref 0), some (.int x1), none, none], [.int (-1000)], h)) rfl ?_
    exact gw_ret (hk _ _ rfl) rfl ⟨_, hR, w⟩
  · replace w := w.2 z3
    refine gw_pst hk 2 (st' := (17, [some (.ref 0), some (.int x1), none, none], [.ref 0, .int x1], h)) rfl ?_
    refine gw_gf (hk _ _ rfl) (RL_fR (n := 14) hR rfl) ?_
    refine gw_gf (hk _ _ rfl) (RL_fI hR rfl) ?_
    refine gw_call (jj := 16) (As := [.int x1, .int (gsV s_2 14 2)]) (rest := []) (hk _ _ rfl) (fun _ => rfl) rfl rfl (Nat.le_of_ble_eq_true rfl) rfl ?_
    refine ge_imp (w h hR) (fun v6 h w => ?_)
    obtain ⟨s_6, hR, x_6, rfl, w⟩ := w
    show gw (gt_T c.1 c.2.1 c.2.2.1) c.2.2.2 d 109 (26, [some (.ref 0), some (.int x1), none, none], [.int x_6], h) _
    refine gw_br (c := x_6 = 0) (a := (29, [some (.ref 0), some (.int x1), none, none], [], h)) (b := (33, [some (.ref 0), some (.int x1), none, none], [], h)) (hk _ _ rfl) rfl ⟨fun z7 => ?_, fun z7 => ?_⟩
    · replace w := w.1 z7
      refine gw_pst hk 1 (st' := (32, [some (.ref 0), some (.int x1), none, none], [.int (-2000)], h)) rfl ?_
      exact gw_ret (hk _ _ rfl) rfl ⟨_, hR, w⟩
    · replace w := w.2 z7
      refine gw_pst hk 2 (st' := (35, [some (.ref 0), some (.int x1), none, none], [.ref 0, .ref 0], h)) rfl ?_
      refine gw_gf (hk _ _ rfl) (RL_fR (n := 14) hR rfl) ?_
      refine gw_pst hk 3 (st' := (41, [some (.ref 0), some (.int x1), none, none], [.ref 0, .int 0, .int x1, .ref 14, .ref 0], h)) rfl ?_
      refine gw_gf (hk _ _ rfl) (RL_fR (n := 14) hR rfl) ?_
      refine gw_gf (hk _ _ rfl) (RL_fI hR rfl) ?_
      obtain ⟨fs11, e11⟩ := RL_o hR (r := 0) (ci := 9) rfl
      refine gw_call (jj := 150) (As := [.ref 0, .ref 14, .int x1, .int 0, .int (gsV s_6 14 0)]) (rest := []) (hk _ _ rfl) (fun _ => rfl) rfl rfl (Nat.le_of_ble_eq_true rfl) (gm_rcv_v rfl e11 rfl) ?_
      refine ge_imp (w h hR) (fun v11 h w => ?_)
      obtain ⟨s_11, hR, x_11, rfl, w⟩ := w
      show gw (gt_T c.1 c.2.1 c.2.2.1) c.2.2.2 d 109 (50, [some (.ref 0), some (.int x1), none, none], [.int x_11], h) _
      refine gw_pst hk 3 (st' := (53, [some (.ref 0), some (.int x1), some (.int x_11), none], [.ref 0, .ref 0], h)) rfl ?_
      refine gw_gf (hk _ _ rfl) (RL_fR (n := 14) hR rfl) ?_
      refine gw_pst hk 3 (st' := (59, [some (.ref 0), some (.int x1), some (.int x_11), none], [.ref 0, .int 1, .int x1, .ref 14, .ref 0], h)) rfl ?_
      refine gw_gf (hk _ _ rfl) (RL_fR (n := 14) hR rfl) ?_
      refine gw_gf (hk _ _ rfl) (RL_fI hR rfl) ?_
      obtain ⟨fs15, e15⟩ := RL_o hR (r := 0) (ci := 9) rfl
      refine gw_call (jj := 150) (As := [.ref 0, .ref 14, .int x1, .int 1, .int (gsV s_11 14 0)]) (rest := []) (hk _ _ rfl) (fun _ => rfl) rfl rfl (Nat.le_of_ble_eq_true rfl) (gm_rcv_v rfl e15 rfl) ?_
      refine ge_imp (w h hR) (fun v15 h w => ?_)
      obtain ⟨s_15, hR, x_15, rfl, w⟩ := w
      show gw (gt_T c.1 c.2.1 c.2.2.1) c.2.2.2 d 109 (68, [some (.ref 0), some (.int x1), some (.int x_11), none], [.int x_15], h) _
      refine gw_pst hk 2 (st' := (70, [some (.ref 0), some (.int x1), some (.int x_11), some (.int x_15)], [.ref 0], h)) rfl ?_
      refine gw_gf (hk _ _ rfl) (RL_fR (n := 34) hR rfl) ?_
      refine gw_pst hk 8 (st' := (85, [some (.ref 0), some (.int x1), some (.int x_11), some (.int x_15)], [.long ((501 + x_15 : Int32).toInt64), .long ((501 + x_11 : Int32).toInt64), .ref 34], h)) rfl ?_
      obtain ⟨fs17, e17⟩ := RL_o hR (r := 34) (ci := 5) rfl
      refine gw_call (jj := 46) (As := [.ref 34, .long ((501 + x_11 : Int32).toInt64), .long ((501 + x_15 : Int32).toInt64)]) (rest := []) (hk _ _ rfl) (fun _ => rfl) rfl rfl (Nat.le_of_ble_eq_true rfl) (gm_rcv_v rfl e17 rfl) ?_
      refine ge_imp (w h hR) (fun v17 h w => ?_)
      obtain ⟨s_17, hR, rfl, w⟩ := w
      show gw (gt_T c.1 c.2.1 c.2.2.1) c.2.2.2 d 109 (88, [some (.ref 0), some (.int x1), some (.int x_11), some (.int x_15)], [], h) _
      refine gw_pst hk 3 (st' := (91, [some (.ref 0), some (.int x1), some (.int x_11), some (.int x_15)], [.int (x_11 - x_15)], h)) rfl ?_
      exact gw_ret (hk _ _ rfl) rfl ⟨_, hR, w⟩
/-- CommandByTurns.arrives(I)I -/
def wm110 (c : gx) (d : Nat) (Post : Option Value → gs → Prop) (x1 : Int32) (s : gs) : Prop :=
  tE c d 14 [.ref 3, .int x1] s (fun v2 s_2 => ∃ x_2 : Int32, v2 = some (.int x_2) ∧ ((x_2 = 0 → Post (some (.int (-1))) s_2) ∧ (¬ (x_2 = 0) → tE c d 118 [.ref 0] s_2 (fun v4 s_4 => v4 = none ∧ tE c d 67 [.ref 36, .int (gsV s_4 14 1), .int x1] s_4 (fun v8 s_8 => ∃ x_8 : Int32, v8 = some (.int x_8) ∧ ((x_8 = (-1) → Post (some (.int (-2))) s_8) ∧ (¬ (x_8 = (-1)) → tE c d 69 [.ref 36, .int x_8, .int (1 <<< (x1 &&& 31))] s_8 (fun v11 s_11 => ∃ x_11 : Int32, v11 = some (.int x_11) ∧ tE c d 113 [.ref 0, .int x_8] s_11 (fun v12 s_12 => v12 = none ∧ Post (some (.int x_8)) s_12)))))))))
theorem okm110 (c : gx) (d : Nat) (Post : Option Value → gs → Prop) (x1 : Int32) (s : gs) (w : wm110 c d Post x1 s) : tE c (d + 1) 110 [.ref 0, .int x1] s Post := by
  intro h hR
  have hk : ∀ pc i, gm_find gk_110 pc = some i → gm_code (gt_T c.1 c.2.1 c.2.2.1) 110 pc = some i := fun _ _ z => z
  unfold wm110 at w
  refine ge_of (by decide) (Nat.le_of_ble_eq_true rfl) ?_
  show gw (gt_T c.1 c.2.1 c.2.2.1) c.2.2.2 d 110 (0, [some (.ref 0), some (.int x1), none], [], h) _
  refine gw_pst hk 1 (st' := (1, [some (.ref 0), some (.int x1), none], [.ref 0], h)) rfl ?_
  refine gw_gf (hk _ _ rfl) (RL_fR (n := 3) hR rfl) ?_
  refine gw_pst hk 1 (st' := (5, [some (.ref 0), some (.int x1), none], [.int x1, .ref 3], h)) rfl ?_
  obtain ⟨fs2, e2⟩ := RL_o hR (r := 3) (ci := 1) rfl
  refine gw_call (jj := 14) (As := [.ref 3, .int x1]) (rest := []) (hk _ _ rfl) (fun _ => rfl) rfl rfl (Nat.le_of_ble_eq_true rfl) (gm_rcv_v rfl e2 rfl) ?_
  refine ge_imp (w h hR) (fun v2 h w => ?_)
  obtain ⟨s_2, hR, x_2, rfl, w⟩ := w
  show gw (gt_T c.1 c.2.1 c.2.2.1) c.2.2.2 d 110 (8, [some (.ref 0), some (.int x1), none], [.int x_2], h) _
  refine gw_br (c := x_2 = 0) (a := (11, [some (.ref 0), some (.int x1), none], [], h)) (b := (13, [some (.ref 0), some (.int x1), none], [], h)) (hk _ _ rfl) rfl ⟨fun z3 => ?_, fun z3 => ?_⟩
  · replace w := w.1 z3
    refine gw_pst hk 1 (st' := (12, [some (.ref 0), some (.int x1), none], [.int (-1)], h)) rfl ?_
    exact gw_ret (hk _ _ rfl) rfl ⟨_, hR, w⟩
  · replace w := w.2 z3
    refine gw_pst hk 1 (st' := (14, [some (.ref 0), some (.int x1), none], [.ref 0], h)) rfl ?_
    obtain ⟨fs4, e4⟩ := RL_o hR (r := 0) (ci := 9) rfl
    refine gw_call (jj := 118) (As := [.ref 0]) (rest := []) (hk _ _ rfl) (fun _ => rfl) rfl rfl (Nat.le_of_ble_eq_true rfl) (gm_rcv_v rfl e4 rfl) ?_
    refine ge_imp (w h hR) (fun v4 h w => ?_)
    obtain ⟨s_4, hR, rfl, w⟩ := w
    show gw (gt_T c.1 c.2.1 c.2.2.1) c.2.2.2 d 110 (17, [some (.ref 0), some (.int x1), none], [], h) _
    refine gw_pst hk 1 (st' := (18, [some (.ref 0), some (.int x1), none], [.ref 0], h)) rfl ?_
    refine gw_gf (hk _ _ rfl) (RL_fR (n := 36) hR rfl) ?_
    refine gw_pst hk 1 (st' := (22, [some (.ref 0), some (.int x1), none], [.ref 0, .ref 36], h)) rfl ?_
    refine gw_gf (hk _ _ rfl) (RL_fR (n := 14) hR rfl) ?_
    refine gw_gf (hk _ _ rfl) (RL_fI hR rfl) ?_
    refine gw_pst hk 1 (st' := (29, [some (.ref 0), some (.int x1), none], [.int x1, .int (gsV s_4 14 1), .ref 36], h)) rfl ?_
    obtain ⟨fs8, e8⟩ := RL_o hR (r := 36) (ci := 8) rfl
    refine gw_call (jj := 67) (As := [.ref 36, .int (gsV s_4 14 1), .int x1]) (rest := []) (hk _ _ rfl) (fun _ => rfl) rfl rfl (Nat.le_of_ble_eq_true rfl) (gm_rcv_v rfl e8 rfl) ?_
    refine ge_imp (w h hR) (fun v8 h w => ?_)
    obtain ⟨s_8, hR, x_8, rfl, w⟩ := w
    show gw (gt_T c.1 c.2.1 c.2.2.1) c.2.2.2 d 110 (32, [some (.ref 0), some (.int x1), none], [.int x_8], h) _
    refine gw_pst hk 3 (st' := (35, [some (.ref 0), some (.int x1), some (.int x_8)], [.int (-1), .int x_8], h)) rfl ?_
    refine gw_br (c := x_8 = (-1)) (a := (38, [some (.ref 0), some (.int x1), some (.int x_8)], [], h)) (b := (41, [some (.ref 0), some (.int x1), some (.int x_8)], [], h)) (hk _ _ rfl) rfl ⟨fun z9 => ?_, fun z9 => ?_⟩
    · replace w := w.1 z9
      refine gw_pst hk 1 (st' := (40, [some (.ref 0), some (.int x1), some (.int x_8)], [.int (-2)], h)) rfl ?_
      exact gw_ret (hk _ _ rfl) rfl ⟨_, hR, w⟩
    · replace w := w.2 z9
      refine gw_pst hk 1 (st' := (42, [some (.ref 0), some (.int x1), some (.int x_8)], [.ref 0], h)) rfl ?_
      refine gw_gf (hk _ _ rfl) (RL_fR (n := 36) hR rfl) ?_
      refine gw_pst hk 4 (st' := (49, [some (.ref 0), some (.int x1), some (.int x_8)], [.int (1 <<< (x1 &&& 31)), .int x_8, .ref 36], h)) rfl ?_
      obtain ⟨fs11, e11⟩ := RL_o hR (r := 36) (ci := 8) rfl
      refine gw_call (jj := 69) (As := [.ref 36, .int x_8, .int (1 <<< (x1 &&& 31))]) (rest := []) (hk _ _ rfl) (fun _ => rfl) rfl rfl (Nat.le_of_ble_eq_true rfl) (gm_rcv_v rfl e11 rfl) ?_
      refine ge_imp (w h hR) (fun v11 h w => ?_)
      obtain ⟨s_11, hR, x_11, rfl, w⟩ := w
      show gw (gt_T c.1 c.2.1 c.2.2.1) c.2.2.2 d 110 (52, [some (.ref 0), some (.int x1), some (.int x_8)], [.int x_11], h) _
      refine gw_pst hk 3 (st' := (55, [some (.ref 0), some (.int x1), some (.int x_8)], [.int x_8, .ref 0], h)) rfl ?_
      obtain ⟨fs12, e12⟩ := RL_o hR (r := 0) (ci := 9) rfl
      refine gw_call (jj := 113) (As := [.ref 0, .int x_8]) (rest := []) (hk _ _ rfl) (fun _ => rfl) rfl rfl (Nat.le_of_ble_eq_true rfl) (gm_rcv_v rfl e12 rfl) ?_
      refine ge_imp (w h hR) (fun v12 h w => ?_)
      obtain ⟨s_12, hR, rfl, w⟩ := w
      show gw (gt_T c.1 c.2.1 c.2.2.1) c.2.2.2 d 110 (58, [some (.ref 0), some (.int x1), some (.int x_8)], [], h) _
      refine gw_pst hk 1 (st' := (59, [some (.ref 0), some (.int x1), some (.int x_8)], [.int x_8], h)) rfl ?_
      exact gw_ret (hk _ _ rfl) rfl ⟨_, hR, w⟩
def w111_38 (c : gx) (d : Nat) (Post : Option Value → gs → Prop)  (s : gs) : Prop :=
  Post (some (.int 0)) s
theorem ok111_38 (c : gx) (d : Nat) (Post : Option Value → gs → Prop)   (s : gs) (w : w111_38 c d Post  s) : tV c d 111 38 [none, none, none, none] [] s Post := by
  intro h hR
  have hk : ∀ pc i, gm_find gk_111 pc = some i → gm_code (gt_T c.1 c.2.1 c.2.2.1) 111 pc = some i := fun _ _ z => z
  unfold w111_38 at w
  unfold gV
  refine gw_pst hk 1 (st' := (39, [none, none, none, none], [.int 0], h)) rfl ?_
  exact gw_ret (hk _ _ rfl) rfl ⟨_, hR, w⟩
/-- CommandByTurns.tomorrowFrom(I)I -/
def wm111 (c : gx) (d : Nat) (Post : Option Value → gs → Prop) (x1 : Int32) (s : gs) : Prop :=
  tE c d 51 [.ref 14, .int ((gsV s 14 0) + 1)] s (fun v4 s_4 => ∃ x_4 : Int32, v4 = some (.int x_4) ∧ ((x_4 = (-1) → w111_38 c d Post s_4) ∧ (¬ (x_4 = (-1)) → tE c d 16 [.int x1, .int (gsV s_4 14 2)] s_4 (fun v8 s_8 => ∃ x_8 : Int32, v8 = some (.int x_8) ∧ ((x_8 = 0 → w111_38 c d Post s_8) ∧ (¬ (x_8 = 0) → tE c d 150 [.ref 0, .ref 14, .int x1, .int x_4, .int ((gsV s 14 0) + 1)] s_8 (fun v11 s_11 => ∃ x_11 : Int32, v11 = some (.int x_11) ∧ Post (some (.int x_11)) s_11)))))))
theorem okm111 (c : gx) (d : Nat) (Post : Option Value → gs → Prop) (x1 : Int32) (s : gs) (w : wm111 c d Post x1 s) : tE c (d + 1) 111 [.ref 0, .int x1] s Post := by
  intro h hR
  have hk : ∀ pc i, gm_find gk_111 pc = some i → gm_code (gt_T c.1 c.2.1 c.2.2.1) 111 pc = some i := fun _ _ z => z
  unfold wm111 at w
  refine ge_of (by decide) (Nat.le_of_ble_eq_true rfl) ?_
  show gw (gt_T c.1 c.2.1 c.2.2.1) c.2.2.2 d 111 (0, [some (.ref 0), some (.int x1), none, none], [], h) _
  refine gw_pst hk 1 (st' := (1, [some (.ref 0), some (.int x1), none, none], [.ref 0], h)) rfl ?_
  refine gw_gf (hk _ _ rfl) (RL_fR (n := 14) hR rfl) ?_
  refine gw_gf (hk _ _ rfl) (RL_fI hR rfl) ?_
  refine gw_pst hk 4 (st' := (11, [some (.ref 0), some (.int x1), some (.int ((gsV s 14 0) + 1)), none], [.ref 0], h)) rfl ?_
  refine gw_gf (hk _ _ rfl) (RL_fR (n := 14) hR rfl) ?_
  refine gw_pst hk 1 (st' := (15, [some (.ref 0), some (.int x1), some (.int ((gsV s 14 0) + 1)), none], [.int ((gsV s 14 0) + 1), .ref 14], h)) rfl ?_
  obtain ⟨fs4, e4⟩ := RL_o hR (r := 14) (ci := 6) rfl
  refine gw_call (jj := 51) (As := [.ref 14, .int ((gsV s 14 0) + 1)]) (rest := []) (hk _ _ rfl) (fun _ => rfl) rfl rfl (Nat.le_of_ble_eq_true rfl) (gm_rcv_v rfl e4 rfl) ?_
  refine ge_imp (w h hR) (fun v4 h w => ?_)
  obtain ⟨s_4, hR, x_4, rfl, w⟩ := w
  show gw (gt_T c.1 c.2.1 c.2.2.1) c.2.2.2 d 111 (18, [some (.ref 0), some (.int x1), some (.int ((gsV s 14 0) + 1)), none], [.int x_4], h) _
  refine gw_pst hk 3 (st' := (21, [some (.ref 0), some (.int x1), some (.int ((gsV s 14 0) + 1)), some (.int x_4)], [.int (-1), .int x_4], h)) rfl ?_
  refine gw_br (c := x_4 = (-1)) (a := (38, [some (.ref 0), some (.int x1), some (.int ((gsV s 14 0) + 1)), some (.int x_4)], [], h)) (b := (24, [some (.ref 0), some (.int x1), some (.int ((gsV s 14 0) + 1)), some (.int x_4)], [], h)) (hk _ _ rfl) rfl ⟨fun z5 => ?_, fun z5 => ?_⟩
  · replace w := w.1 z5
    refine gw_le (L' := [none, none, none, none]) (gm_le_n _ (gm_le_n _ (gm_le_n _ (gm_le_n _ gm_le_nil)))) ?_
    exact ok111_38 c d Post _ w _ hR
  · replace w := w.2 z5
    refine gw_pst hk 2 (st' := (26, [some (.ref 0), some (.int x1), some (.int ((gsV s 14 0) + 1)), some (.int x_4)], [.ref 0, .int x1], h)) rfl ?_
    refine gw_gf (hk _ _ rfl) (RL_fR (n := 14) hR rfl) ?_
    refine gw_gf (hk _ _ rfl) (RL_fI hR rfl) ?_
    refine gw_call (jj := 16) (As := [.int x1, .int (gsV s_4 14 2)]) (rest := []) (hk _ _ rfl) (fun _ => rfl) rfl rfl (Nat.le_of_ble_eq_true rfl) rfl ?_
    refine ge_imp (w h hR) (fun v8 h w => ?_)
    obtain ⟨s_8, hR, x_8, rfl, w⟩ := w
    show gw (gt_T c.1 c.2.1 c.2.2.1) c.2.2.2 d 111 (35, [some (.ref 0), some (.int x1), some (.int ((gsV s 14 0) + 1)), some (.int x_4)], [.int x_8], h) _
    refine gw_br (c := x_8 = 0) (a := (38, [some (.ref 0), some (.int x1), some (.int ((gsV s 14 0) + 1)), some (.int x_4)], [], h)) (b := (40, [some (.ref 0), some (.int x1), some (.int ((gsV s 14 0) + 1)), some (.int x_4)], [], h)) (hk _ _ rfl) rfl ⟨fun z9 => ?_, fun z9 => ?_⟩
    · replace w := w.1 z9
      refine gw_le (L' := [none, none, none, none]) (gm_le_n _ (gm_le_n _ (gm_le_n _ (gm_le_n _ gm_le_nil)))) ?_
      exact ok111_38 c d Post _ w _ hR
    · replace w := w.2 z9
      refine gw_pst hk 2 (st' := (42, [some (.ref 0), some (.int x1), some (.int ((gsV s 14 0) + 1)), some (.int x_4)], [.ref 0, .ref 0], h)) rfl ?_
      refine gw_gf (hk _ _ rfl) (RL_fR (n := 14) hR rfl) ?_
      refine gw_pst hk 3 (st' := (48, [some (.ref 0), some (.int x1), some (.int ((gsV s 14 0) + 1)), some (.int x_4)], [.int ((gsV s 14 0) + 1), .int x_4, .int x1, .ref 14, .ref 0], h)) rfl ?_
      obtain ⟨fs11, e11⟩ := RL_o hR (r := 0) (ci := 9) rfl
      refine gw_call (jj := 150) (As := [.ref 0, .ref 14, .int x1, .int x_4, .int ((gsV s 14 0) + 1)]) (rest := []) (hk _ _ rfl) (fun _ => rfl) rfl rfl (Nat.le_of_ble_eq_true rfl) (gm_rcv_v rfl e11 rfl) ?_
      refine ge_imp (w h hR) (fun v11 h w => ?_)
      obtain ⟨s_11, hR, x_11, rfl, w⟩ := w
      show gw (gt_T c.1 c.2.1 c.2.2.1) c.2.2.2 d 111 (51, [some (.ref 0), some (.int x1), some (.int ((gsV s 14 0) + 1)), some (.int x_4)], [.int x_11], h) _
      exact gw_ret (hk _ _ rfl) rfl ⟨_, hR, w⟩
/-- CommandByTurns.goals(II)I -/
def wm112 (c : gx) (d : Nat) (Post : Option Value → gs → Prop) (x1 : Int32) (x2 : Int32) (s : gs) : Prop :=
  tE c d 148 [.ref 0, .int x1] s (fun v4 s_4 => ∃ q_4 : Nat, v4 = some (.ref q_4) ∧ gs_isC q_4 2 = true ∧ tE c d 31 [.ref q_4] s_4 (fun v5 s_5 => ∃ x_5 : Int32, v5 = some (.int x_5) ∧ tE c d 21 [.ref 3, .int x2, .int (gsV s 14 2), .int x_5] s_5 (fun v6 s_6 => ∃ x_6 : Int32, v6 = some (.int x_6) ∧ Post (some (.int x_6)) s_6)))
theorem okm112 (c : gx) (d : Nat) (Post : Option Value → gs → Prop) (x1 : Int32) (x2 : Int32) (s : gs) (w : wm112 c d Post x1 x2 s) : tE c (d + 1) 112 [.ref 0, .int x1, .int x2] s Post := by
  intro h hR
  have hk : ∀ pc i, gm_find gk_112 pc = some i → gm_code (gt_T c.1 c.2.1 c.2.2.1) 112 pc = some i := fun _ _ z => z
  unfold wm112 at w
  refine ge_of (by decide) (Nat.le_of_ble_eq_true rfl) ?_
  show gw (gt_T c.1 c.2.1 c.2.2.1) c.2.2.2 d 112 (0, [some (.ref 0), some (.int x1), some (.int x2)], [], h) _
  refine gw_pst hk 1 (st' := (1, [some (.ref 0), some (.int x1), some (.int x2)], [.ref 0], h)) rfl ?_
  refine gw_gf (hk _ _ rfl) (RL_fR (n := 3) hR rfl) ?_
  refine gw_pst hk 2 (st' := (6, [some (.ref 0), some (.int x1), some (.int x2)], [.ref 0, .int x2, .ref 3], h)) rfl ?_
  refine gw_gf (hk _ _ rfl) (RL_fR (n := 14) hR rfl) ?_
  refine gw_gf (hk _ _ rfl) (RL_fI hR rfl) ?_
  refine gw_pst hk 2 (st' := (14, [some (.ref 0), some (.int x1), some (.int x2)], [.int x1, .ref 0, .int (gsV s 14 2), .int x2, .ref 3], h)) rfl ?_
  obtain ⟨fs4, e4⟩ := RL_o hR (r := 0) (ci := 9) rfl
  refine gw_call (jj := 148) (As := [.ref 0, .int x1]) (rest := [.int (gsV s 14 2), .int x2, .ref 3]) (hk _ _ rfl) (fun _ => rfl) rfl rfl (Nat.le_of_ble_eq_true rfl) (gm_rcv_v rfl e4 rfl) ?_
  refine ge_imp (w h hR) (fun v4 h w => ?_)
  obtain ⟨s_4, hR, q_4, rfl, w⟩ := w
  show gw (gt_T c.1 c.2.1 c.2.2.1) c.2.2.2 d 112 (17, [some (.ref 0), some (.int x1), some (.int x2)], [.ref q_4, .int (gsV s 14 2), .int x2, .ref 3], h) _
  obtain ⟨z5, w⟩ := w
  obtain ⟨fs5, e5⟩ := RL_o hR (r := q_4) (ci := 2) z5
  refine gw_call (jj := 31) (As := [.ref q_4]) (rest := [.int (gsV s 14 2), .int x2, .ref 3]) (hk _ _ rfl) (fun _ => rfl) rfl rfl (Nat.le_of_ble_eq_true rfl) (gm_rcv_v rfl e5 rfl) ?_
  refine ge_imp (w h hR) (fun v5 h w => ?_)
  obtain ⟨s_5, hR, x_5, rfl, w⟩ := w
  show gw (gt_T c.1 c.2.1 c.2.2.1) c.2.2.2 d 112 (20, [some (.ref 0), some (.int x1), some (.int x2)], [.int x_5, .int (gsV s 14 2), .int x2, .ref 3], h) _
  obtain ⟨fs6, e6⟩ := RL_o hR (r := 3) (ci := 1) rfl
  refine gw_call (jj := 21) (As := [.ref 3, .int x2, .int (gsV s 14 2), .int x_5]) (rest := []) (hk _ _ rfl) (fun _ => rfl) rfl rfl (Nat.le_of_ble_eq_true rfl) (gm_rcv_v rfl e6 rfl) ?_
  refine ge_imp (w h hR) (fun v6 h w => ?_)
  obtain ⟨s_6, hR, x_6, rfl, w⟩ := w
  show gw (gt_T c.1 c.2.1 c.2.2.1) c.2.2.2 d 112 (23, [some (.ref 0), some (.int x1), some (.int x2)], [.int x_6], h) _
  exact gw_ret (hk _ _ rfl) rfl ⟨_, hR, w⟩
def wb113_18 (c : gx) (d : Nat) (Post : Option Value → gs → Prop) (K18 : Int32 → Int32 → Int32 → gs → Prop) (x1 : Int32) (x2 : Int32) (x3 : Int32) (s : gs) : Prop :=
  ((x1 ≤ x3 → Post none s) ∧ (¬ (x1 ≤ x3) → tE c d 71 [.ref 36, .int x3, .int x2] s (fun v3 s_3 => ∃ x_3 : Int32, v3 = some (.int x_3) ∧ tE c d 44 [.ref 34, .long ((x_3 : Int32).toInt64)] s_3 (fun v5 s_5 => v5 = none ∧ K18 x1 x_3 (x3 + 1) s_5))))
theorem okb113_18 (c : gx) (d : Nat) (Post : Option Value → gs → Prop) (K18 : Int32 → Int32 → Int32 → gs → Prop)  (hK18 : ∀ (x1 : Int32) (x2 : Int32) (x3 : Int32) (s : gs), K18 x1 x2 x3 s → tV c d 113 18 [some (.ref 0), some (.int x1), some (.int x2), some (.int x3)] [] s Post) (x1 : Int32) (x2 : Int32) (x3 : Int32) (s : gs) (w : wb113_18 c d Post K18 x1 x2 x3 s) : tV c d 113 18 [some (.ref 0), some (.int x1), some (.int x2), some (.int x3)] [] s Post := by
  intro h hR
  have hk : ∀ pc i, gm_find gk_113 pc = some i → gm_code (gt_T c.1 c.2.1 c.2.2.1) 113 pc = some i := fun _ _ z => z
  unfold wb113_18 at w
  unfold gV
  refine gw_pst hk 2 (st' := (20, [some (.ref 0), some (.int x1), some (.int x2), some (.int x3)], [.int x1, .int x3], h)) rfl ?_
  refine gw_br (c := x1 ≤ x3) (a := (48, [some (.ref 0), some (.int x1), some (.int x2), some (.int x3)], [], h)) (b := (23, [some (.ref 0), some (.int x1), some (.int x2), some (.int x3)], [], h)) (hk _ _ rfl) rfl ⟨fun z1 => ?_, fun z1 => ?_⟩
  · replace w := w.1 z1
    exact gw_ret (hk _ _ rfl) rfl ⟨_, hR, w⟩
  · replace w := w.2 z1
    refine gw_pst hk 1 (st' := (24, [some (.ref 0), some (.int x1), some (.int x2), some (.int x3)], [.ref 0], h)) rfl ?_
    refine gw_gf (hk _ _ rfl) (RL_fR (n := 36) hR rfl) ?_
    refine gw_pst hk 2 (st' := (29, [some (.ref 0), some (.int x1), some (.int x2), some (.int x3)], [.int x2, .int x3, .ref 36], h)) rfl ?_
    obtain ⟨fs3, e3⟩ := RL_o hR (r := 36) (ci := 8) rfl
    refine gw_call (jj := 71) (As := [.ref 36, .int x3, .int x2]) (rest := []) (hk _ _ rfl) (fun _ => rfl) rfl rfl (Nat.le_of_ble_eq_true rfl) (gm_rcv_v rfl e3 rfl) ?_
    refine ge_imp (w h hR) (fun v3 h w => ?_)
    obtain ⟨s_3, hR, x_3, rfl, w⟩ := w
    show gw (gt_T c.1 c.2.1 c.2.2.1) c.2.2.2 d 113 (32, [some (.ref 0), some (.int x1), some (.int x2), some (.int x3)], [.int x_3], h) _
    refine gw_pst hk 2 (st' := (34, [some (.ref 0), some (.int x1), some (.int x_3), some (.int x3)], [.ref 0], h)) rfl ?_
    refine gw_gf (hk _ _ rfl) (RL_fR (n := 34) hR rfl) ?_
    refine gw_pst hk 2 (st' := (39, [some (.ref 0), some (.int x1), some (.int x_3), some (.int x3)], [.long ((x_3 : Int32).toInt64), .ref 34], h)) rfl ?_
    obtain ⟨fs5, e5⟩ := RL_o hR (r := 34) (ci := 5) rfl
    refine gw_call (jj := 44) (As := [.ref 34, .long ((x_3 : Int32).toInt64)]) (rest := []) (hk _ _ rfl) (fun _ => rfl) rfl rfl (Nat.le_of_ble_eq_true rfl) (gm_rcv_v rfl e5 rfl) ?_
    refine ge_imp (w h hR) (fun v5 h w => ?_)
    obtain ⟨s_5, hR, rfl, w⟩ := w
    show gw (gt_T c.1 c.2.1 c.2.2.1) c.2.2.2 d 113 (42, [some (.ref 0), some (.int x1), some (.int x_3), some (.int x3)], [], h) _
    refine gw_pst hk 2 (st' := (18, [some (.ref 0), some (.int x1), some (.int x_3), some (.int (x3 + 1))], [], h)) rfl ?_
    exact hK18 _ _ _ _ w _ hR
def wl113_18 (c : gx) (d : Nat) (Post : Option Value → gs → Prop) : Nat → Int32 → Int32 → Int32 → gs → Prop
  | 0 => fun _ _ _ _ => False
  | n + 1 => wb113_18 c d Post (wl113_18 c d Post n)
theorem okl113_18 (c : gx) (d : Nat) (Post : Option Value → gs → Prop) : ∀ (n : Nat) (x1 : Int32) (x2 : Int32) (x3 : Int32) (s : gs), wl113_18 c d Post n x1 x2 x3 s → tV c d 113 18 [some (.ref 0), some (.int x1), some (.int x2), some (.int x3)] [] s Post
  | 0, _, _, _, _, w => w.elim
  | n + 1, x1, x2, x3, s, w => okb113_18 c d Post (wl113_18 c d Post n) (okl113_18 c d Post n) x1 x2 x3 s w
/-- CommandByTurns.tellLeastWay(I)V -/
def wm113 (c : gx) (d : Nat) (Post : Option Value → gs → Prop) (x1 : Int32) (s : gs) : Prop :=
  ∀ s_2 : gs, s_2 = gs_V s 34 1 0 → ∃ n, wl113_18 c d Post n x1 (gsV s_2 14 1) 0 s_2
theorem okm113 (c : gx) (d : Nat) (Post : Option Value → gs → Prop) (x1 : Int32) (s : gs) (w : wm113 c d Post x1 s) : tE c (d + 1) 113 [.ref 0, .int x1] s Post := by
  intro h hR
  have hk : ∀ pc i, gm_find gk_113 pc = some i → gm_code (gt_T c.1 c.2.1 c.2.2.1) 113 pc = some i := fun _ _ z => z
  unfold wm113 at w
  refine ge_of (by decide) (Nat.le_of_ble_eq_true rfl) ?_
  show gw (gt_T c.1 c.2.1 c.2.2.1) c.2.2.2 d 113 (0, [some (.ref 0), some (.int x1), none, none], [], h) _
  refine gw_pst hk 1 (st' := (1, [some (.ref 0), some (.int x1), none, none], [.ref 0], h)) rfl ?_
  refine gw_gf (hk _ _ rfl) (RL_fR (n := 34) hR rfl) ?_
  refine gw_pst hk 1 (st' := (5, [some (.ref 0), some (.int x1), none, none], [.int 0, .ref 34], h)) rfl ?_
  obtain ⟨fs2, e2⟩ := RL_o hR (r := 34) (ci := 5) rfl
  obtain ⟨l2, hR2⟩ := RL_pI (k := 1) (x := 0) hR rfl e2
  refine gw_pf (hk _ _ rfl) e2 l2 rfl ?_
  generalize gm_put h _ _ = h at hR2 ⊢
  obtain ⟨s_2, es2⟩ : ∃ z, z = gs_V s 34 1 0 := ⟨_, rfl⟩
  rw [← es2] at hR2
  replace w := w s_2 es2
  replace hR := hR2
  refine gw_pst hk 1 (st' := (9, [some (.ref 0), some (.int x1), none, none], [.ref 0], h)) rfl ?_
  refine gw_gf (hk _ _ rfl) (RL_fR (n := 14) hR rfl) ?_
  refine gw_gf (hk _ _ rfl) (RL_fI hR rfl) ?_
  refine gw_pst hk 3 (st' := (18, [some (.ref 0), some (.int x1), some (.int (gsV s_2 14 1)), some (.int 0)], [], h)) rfl ?_
  obtain ⟨n, w⟩ := w
  exact okl113_18 c d Post n _ _ _ _ w _ hR
def w114_11 (c : gx) (d : Nat) (Post : Option Value → gs → Prop)  (s : gs) : Prop :=
  Post (some (.int (-1))) s
theorem ok114_11 (c : gx) (d : Nat) (Post : Option Value → gs → Prop)   (s : gs) (w : w114_11 c d Post  s) : tV c d 114 11 [none, none, none] [] s Post := by
  intro h hR
  have hk : ∀ pc i, gm_find gk_114 pc = some i → gm_code (gt_T c.1 c.2.1 c.2.2.1) 114 pc = some i := fun _ _ z => z
  unfold w114_11 at w
  unfold gV
  refine gw_pst hk 1 (st' := (12, [none, none, none], [.int (-1)], h)) rfl ?_
  exact gw_ret (hk _ _ rfl) rfl ⟨_, hR, w⟩
/-- CommandByTurns.avoids(I)I -/
def wm114 (c : gx) (d : Nat) (Post : Option Value → gs → Prop) (x1 : Int32) (s : gs) : Prop :=
  ((x1 < 1 → w114_11 c d Post s) ∧ (¬ (x1 < 1) → ((x1 ≤ 20 → tE c d 119 [.ref 0] s (fun v3 s_3 => v3 = none ∧ tE c d 68 [.ref 36, .int (gsV s_3 14 1), .int x1] s_3 (fun v7 s_7 => ∃ x_7 : Int32, v7 = some (.int x_7) ∧ tE c d 20 [.ref 3] s_7 (fun v10 s_10 => ∃ x_10 : Int32, v10 = some (.int x_10) ∧ tE c d 69 [.ref 36, .int x_7, .int x_10] s_10 (fun v11 s_11 => ∃ x_11 : Int32, v11 = some (.int x_11) ∧ tE c d 113 [.ref 0, .int x_7] s_11 (fun v12 s_12 => v12 = none ∧ Post (some (.int x_7)) s_12)))))) ∧ (¬ (x1 ≤ 20) → w114_11 c d Post s))))
theorem okm114 (c : gx) (d : Nat) (Post : Option Value → gs → Prop) (x1 : Int32) (s : gs) (w : wm114 c d Post x1 s) : tE c (d + 1) 114 [.ref 0, .int x1] s Post := by
  intro h hR
  have hk : ∀ pc i, gm_find gk_114 pc = some i → gm_code (gt_T c.1 c.2.1 c.2.2.1) 114 pc = some i := fun _ _ z => z
  unfold wm114 at w
  refine ge_of (by decide) (Nat.le_of_ble_eq_true rfl) ?_
  show gw (gt_T c.1 c.2.1 c.2.2.1) c.2.2.2 d 114 (0, [some (.ref 0), some (.int x1), none], [], h) _
  refine gw_pst hk 2 (st' := (2, [some (.ref 0), some (.int x1), none], [.int 1, .int x1], h)) rfl ?_
  refine gw_br (c := x1 < 1) (a := (11, [some (.ref 0), some (.int x1), none], [], h)) (b := (5, [some (.ref 0), some (.int x1), none], [], h)) (hk _ _ rfl) rfl ⟨fun z1 => ?_, fun z1 => ?_⟩
  · replace w := w.1 z1
    refine gw_le (L' := [none, none, none]) (gm_le_n _ (gm_le_n _ (gm_le_k _ gm_le_nil))) ?_
    exact ok114_11 c d Post _ w _ hR
  · replace w := w.2 z1
    refine gw_pst hk 2 (st' := (8, [some (.ref 0), some (.int x1), none], [.int 20, .int x1], h)) rfl ?_
    refine gw_br (c := x1 ≤ 20) (a := (13, [some (.ref 0), some (.int x1), none], [], h)) (b := (11, [some (.ref 0), some (.int x1), none], [], h)) (hk _ _ rfl) rfl ⟨fun z2 => ?_, fun z2 => ?_⟩
    · replace w := w.1 z2
      refine gw_pst hk 1 (st' := (14, [some (.ref 0), some (.int x1), none], [.ref 0], h)) rfl ?_
      obtain ⟨fs3, e3⟩ := RL_o hR (r := 0) (ci := 9) rfl
      refine gw_call (jj := 119) (As := [.ref 0]) (rest := []) (hk _ _ rfl) (fun _ => rfl) rfl rfl (Nat.le_of_ble_eq_true rfl) (gm_rcv_v rfl e3 rfl) ?_
      refine ge_imp (w h hR) (fun v3 h w => ?_)
      obtain ⟨s_3, hR, rfl, w⟩ := w
      show gw (gt_T c.1 c.2.1 c.2.2.1) c.2.2.2 d 114 (17, [some (.ref 0), some (.int x1), none], [], h) _
      refine gw_pst hk 1 (st' := (18, [some (.ref 0), some (.int x1), none], [.ref 0], h)) rfl ?_
      refine gw_gf (hk _ _ rfl) (RL_fR (n := 36) hR rfl) ?_
      refine gw_pst hk 1 (st' := (22, [some (.ref 0), some (.int x1), none], [.ref 0, .ref 36], h)) rfl ?_
      refine gw_gf (hk _ _ rfl) (RL_fR (n := 14) hR rfl) ?_
      refine gw_gf (hk _ _ rfl) (RL_fI hR rfl) ?_
      refine gw_pst hk 1 (st' := (29, [some (.ref 0), some (.int x1), none], [.int x1, .int (gsV s_3 14 1), .ref 36], h)) rfl ?_
      obtain ⟨fs7, e7⟩ := RL_o hR (r := 36) (ci := 8) rfl
      refine gw_call (jj := 68) (As := [.ref 36, .int (gsV s_3 14 1), .int x1]) (rest := []) (hk _ _ rfl) (fun _ => rfl) rfl rfl (Nat.le_of_ble_eq_true rfl) (gm_rcv_v rfl e7 rfl) ?_
      refine ge_imp (w h hR) (fun v7 h w => ?_)
      obtain ⟨s_7, hR, x_7, rfl, w⟩ := w
      show gw (gt_T c.1 c.2.1 c.2.2.1) c.2.2.2 d 114 (32, [some (.ref 0), some (.int x1), none], [.int x_7], h) _
      refine gw_pst hk 2 (st' := (34, [some (.ref 0), some (.int x1), some (.int x_7)], [.ref 0], h)) rfl ?_
      refine gw_gf (hk _ _ rfl) (RL_fR (n := 36) hR rfl) ?_
      refine gw_pst hk 2 (st' := (39, [some (.ref 0), some (.int x1), some (.int x_7)], [.ref 0, .int x_7, .ref 36], h)) rfl ?_
      refine gw_gf (hk _ _ rfl) (RL_fR (n := 3) hR rfl) ?_
      obtain ⟨fs10, e10⟩ := RL_o hR (r := 3) (ci := 1) rfl
      refine gw_call (jj := 20) (As := [.ref 3]) (rest := [.int x_7, .ref 36]) (hk _ _ rfl) (fun _ => rfl) rfl rfl (Nat.le_of_ble_eq_true rfl) (gm_rcv_v rfl e10 rfl) ?_
      refine ge_imp (w h hR) (fun v10 h w => ?_)
      obtain ⟨s_10, hR, x_10, rfl, w⟩ := w
      show gw (gt_T c.1 c.2.1 c.2.2.1) c.2.2.2 d 114 (45, [some (.ref 0), some (.int x1), some (.int x_7)], [.int x_10, .int x_7, .ref 36], h) _
      obtain ⟨fs11, e11⟩ := RL_o hR (r := 36) (ci := 8) rfl
      refine gw_call (jj := 69) (As := [.ref 36, .int x_7, .int x_10]) (rest := []) (hk _ _ rfl) (fun _ => rfl) rfl rfl (Nat.le_of_ble_eq_true rfl) (gm_rcv_v rfl e11 rfl) ?_
      refine ge_imp (w h hR) (fun v11 h w => ?_)
      obtain ⟨s_11, hR, x_11, rfl, w⟩ := w
      show gw (gt_T c.1 c.2.1 c.2.2.1) c.2.2.2 d 114 (48, [some (.ref 0), some (.int x1), some (.int x_7)], [.int x_11], h) _
      refine gw_pst hk 3 (st' := (51, [some (.ref 0), some (.int x1), some (.int x_7)], [.int x_7, .ref 0], h)) rfl ?_
      obtain ⟨fs12, e12⟩ := RL_o hR (r := 0) (ci := 9) rfl
      refine gw_call (jj := 113) (As := [.ref 0, .int x_7]) (rest := []) (hk _ _ rfl) (fun _ => rfl) rfl rfl (Nat.le_of_ble_eq_true rfl) (gm_rcv_v rfl e12 rfl) ?_
      refine ge_imp (w h hR) (fun v12 h w => ?_)
      obtain ⟨s_12, hR, rfl, w⟩ := w
      show gw (gt_T c.1 c.2.1 c.2.2.1) c.2.2.2 d 114 (54, [some (.ref 0), some (.int x1), some (.int x_7)], [], h) _
      refine gw_pst hk 1 (st' := (55, [some (.ref 0), some (.int x1), some (.int x_7)], [.int x_7], h)) rfl ?_
      exact gw_ret (hk _ _ rfl) rfl ⟨_, hR, w⟩
    · replace w := w.2 z2
      refine gw_le (L' := [none, none, none]) (gm_le_n _ (gm_le_n _ (gm_le_k _ gm_le_nil))) ?_
      exact ok114_11 c d Post _ w _ hR
def w115_11 (c : gx) (d : Nat) (Post : Option Value → gs → Prop)  (s : gs) : Prop :=
  Post (some (.int (-1))) s
theorem ok115_11 (c : gx) (d : Nat) (Post : Option Value → gs → Prop)   (s : gs) (w : w115_11 c d Post  s) : tV c d 115 11 [none, none, none] [] s Post := by
  intro h hR
  have hk : ∀ pc i, gm_find gk_115 pc = some i → gm_code (gt_T c.1 c.2.1 c.2.2.1) 115 pc = some i := fun _ _ z => z
  unfold w115_11 at w
  unfold gV
  refine gw_pst hk 1 (st' := (12, [none, none, none], [.int (-1)], h)) rfl ?_
  exact gw_ret (hk _ _ rfl) rfl ⟨_, hR, w⟩
/-- CommandByTurns.safe(I)I -/
def wm115 (c : gx) (d : Nat) (Post : Option Value → gs → Prop) (x1 : Int32) (s : gs) : Prop :=
  ((x1 < 1 → w115_11 c d Post s) ∧ (¬ (x1 < 1) → ((x1 ≤ 20 → tE c d 119 [.ref 0] s (fun v3 s_3 => v3 = none ∧ tE c d 20 [.ref 3] s_3 (fun v6 s_6 => ∃ x_6 : Int32, v6 = some (.int x_6) ∧ tE c d 69 [.ref 36, .int x1, .int x_6] s_6 (fun v7 s_7 => ∃ x_7 : Int32, v7 = some (.int x_7) ∧ tE c d 266 [.int x_7] s_7 (fun v9 s_9 => ∃ x_9 : Int32, v9 = some (.int x_9) ∧ tE c d 45 [.ref 34, .long ((x_9 : Int32).toInt64)] s_9 (fun v10 s_10 => v10 = none ∧ Post (some (.int x_7)) s_10)))))) ∧ (¬ (x1 ≤ 20) → w115_11 c d Post s))))
theorem okm115 (c : gx) (d : Nat) (Post : Option Value → gs → Prop) (x1 : Int32) (s : gs) (w : wm115 c d Post x1 s) : tE c (d + 1) 115 [.ref 0, .int x1] s Post := by
  intro h hR
  have hk : ∀ pc i, gm_find gk_115 pc = some i → gm_code (gt_T c.1 c.2.1 c.2.2.1) 115 pc = some i := fun _ _ z => z
  unfold wm115 at w
  refine ge_of (by decide) (Nat.le_of_ble_eq_true rfl) ?_
  show gw (gt_T c.1 c.2.1 c.2.2.1) c.2.2.2 d 115 (0, [some (.ref 0), some (.int x1), none], [], h) _
  refine gw_pst hk 2 (st' := (2, [some (.ref 0), some (.int x1), none], [.int 1, .int x1], h)) rfl ?_
  refine gw_br (c := x1 < 1) (a := (11, [some (.ref 0), some (.int x1), none], [], h)) (b := (5, [some (.ref 0), some (.int x1), none], [], h)) (hk _ _ rfl) rfl ⟨fun z1 => ?_, fun z1 => ?_⟩
  · replace w := w.1 z1
    refine gw_le (L' := [none, none, none]) (gm_le_n _ (gm_le_n _ (gm_le_k _ gm_le_nil))) ?_
    exact ok115_11 c d Post _ w _ hR
  · replace w := w.2 z1
    refine gw_pst hk 2 (st' := (8, [some (.ref 0), some (.int x1), none], [.int 20, .int x1], h)) rfl ?_
    refine gw_br (c := x1 ≤ 20) (a := (13, [some (.ref 0), some (.int x1), none], [], h)) (b := (11, [some (.ref 0), some (.int x1), none], [], h)) (hk _ _ rfl) rfl ⟨fun z2 => ?_, fun z2 => ?_⟩
    · replace w := w.1 z2
      refine gw_pst hk 1 (st' := (14, [some (.ref 0), some (.int x1), none], [.ref 0], h)) rfl ?_
      obtain ⟨fs3, e3⟩ := RL_o hR (r := 0) (ci := 9) rfl
      refine gw_call (jj := 119) (As := [.ref 0]) (rest := []) (hk _ _ rfl) (fun _ => rfl) rfl rfl (Nat.le_of_ble_eq_true rfl) (gm_rcv_v rfl e3 rfl) ?_
      refine ge_imp (w h hR) (fun v3 h w => ?_)
      obtain ⟨s_3, hR, rfl, w⟩ := w
      show gw (gt_T c.1 c.2.1 c.2.2.1) c.2.2.2 d 115 (17, [some (.ref 0), some (.int x1), none], [], h) _
      refine gw_pst hk 1 (st' := (18, [some (.ref 0), some (.int x1), none], [.ref 0], h)) rfl ?_
      refine gw_gf (hk _ _ rfl) (RL_fR (n := 36) hR rfl) ?_
      refine gw_pst hk 2 (st' := (23, [some (.ref 0), some (.int x1), none], [.ref 0, .int x1, .ref 36], h)) rfl ?_
      refine gw_gf (hk _ _ rfl) (RL_fR (n := 3) hR rfl) ?_
      obtain ⟨fs6, e6⟩ := RL_o hR (r := 3) (ci := 1) rfl
      refine gw_call (jj := 20) (As := [.ref 3]) (rest := [.int x1, .ref 36]) (hk _ _ rfl) (fun _ => rfl) rfl rfl (Nat.le_of_ble_eq_true rfl) (gm_rcv_v rfl e6 rfl) ?_
      refine ge_imp (w h hR) (fun v6 h w => ?_)
      obtain ⟨s_6, hR, x_6, rfl, w⟩ := w
      show gw (gt_T c.1 c.2.1 c.2.2.1) c.2.2.2 d 115 (29, [some (.ref 0), some (.int x1), none], [.int x_6, .int x1, .ref 36], h) _
      obtain ⟨fs7, e7⟩ := RL_o hR (r := 36) (ci := 8) rfl
      refine gw_call (jj := 69) (As := [.ref 36, .int x1, .int x_6]) (rest := []) (hk _ _ rfl) (fun _ => rfl) rfl rfl (Nat.le_of_ble_eq_true rfl) (gm_rcv_v rfl e7 rfl) ?_
      refine ge_imp (w h hR) (fun v7 h w => ?_)
      obtain ⟨s_7, hR, x_7, rfl, w⟩ := w
      show gw (gt_T c.1 c.2.1 c.2.2.1) c.2.2.2 d 115 (32, [some (.ref 0), some (.int x1), none], [.int x_7], h) _
      refine gw_pst hk 2 (st' := (34, [some (.ref 0), some (.int x1), some (.int x_7)], [.ref 0], h)) rfl ?_
      refine gw_gf (hk _ _ rfl) (RL_fR (n := 34) hR rfl) ?_
      refine gw_pst hk 1 (st' := (38, [some (.ref 0), some (.int x1), some (.int x_7)], [.int x_7, .ref 34], h)) rfl ?_
      refine gw_call (jj := 266) (As := [.int x_7]) (rest := [.ref 34]) (hk _ _ rfl) (fun _ => rfl) rfl rfl (Nat.le_of_ble_eq_true rfl) rfl ?_
      refine ge_imp (w h hR) (fun v9 h w => ?_)
      obtain ⟨s_9, hR, x_9, rfl, w⟩ := w
      show gw (gt_T c.1 c.2.1 c.2.2.1) c.2.2.2 d 115 (41, [some (.ref 0), some (.int x1), some (.int x_7)], [.int x_9, .ref 34], h) _
      refine gw_pst hk 1 (st' := (42, [some (.ref 0), some (.int x1), some (.int x_7)], [.long ((x_9 : Int32).toInt64), .ref 34], h)) rfl ?_
      obtain ⟨fs10, e10⟩ := RL_o hR (r := 34) (ci := 5) rfl
      refine gw_call (jj := 45) (As := [.ref 34, .long ((x_9 : Int32).toInt64)]) (rest := []) (hk _ _ rfl) (fun _ => rfl) rfl rfl (Nat.le_of_ble_eq_true rfl) (gm_rcv_v rfl e10 rfl) ?_
      refine ge_imp (w h hR) (fun v10 h w => ?_)
      obtain ⟨s_10, hR, rfl, w⟩ := w
      show gw (gt_T c.1 c.2.1 c.2.2.1) c.2.2.2 d 115 (45, [some (.ref 0), some (.int x1), some (.int x_7)], [], h) _
      refine gw_pst hk 1 (st' := (46, [some (.ref 0), some (.int x1), some (.int x_7)], [.int x_7], h)) rfl ?_
      exact gw_ret (hk _ _ rfl) rfl ⟨_, hR, w⟩
    · replace w := w.2 z2
      refine gw_le (L' := [none, none, none]) (gm_le_n _ (gm_le_n _ (gm_le_k _ gm_le_nil))) ?_
      exact ok115_11 c d Post _ w _ hR
def w116_11 (c : gx) (d : Nat) (Post : Option Value → gs → Prop)  (s : gs) : Prop :=
  Post (some (.int (-1))) s
theorem ok116_11 (c : gx) (d : Nat) (Post : Option Value → gs → Prop)   (s : gs) (w : w116_11 c d Post  s) : tV c d 116 11 [none, none] [] s Post := by
  intro h hR
  have hk : ∀ pc i, gm_find gk_116 pc = some i → gm_code (gt_T c.1 c.2.1 c.2.2.1) 116 pc = some i := fun _ _ z => z
  unfold w116_11 at w
  unfold gV
  refine gw_pst hk 1 (st' := (12, [none, none], [.int (-1)], h)) rfl ?_
  exact gw_ret (hk _ _ rfl) rfl ⟨_, hR, w⟩
/-- CommandByTurns.forces(I)I -/
def wm116 (c : gx) (d : Nat) (Post : Option Value → gs → Prop) (x1 : Int32) (s : gs) : Prop :=
  ((x1 < 1 → w116_11 c d Post s) ∧ (¬ (x1 < 1) → ((x1 ≤ 10 → tE c d 119 [.ref 0] s (fun v3 s_3 => v3 = none ∧ tE c d 72 [.ref 36, .int (gsV s_3 14 1), .int x1] s_3 (fun v7 s_7 => ∃ x_7 : Int32, v7 = some (.int x_7) ∧ ((x_7 = 0 → Post (some (.int (-2))) s_7) ∧ (¬ (x_7 = 0) → tE c d 45 [.ref 34, .long ((gsV s_7 36 5 : Int32).toInt64)] s_7 (fun v12 s_12 => v12 = none ∧ Post (some (.int (gsV s_12 36 4))) s_12)))))) ∧ (¬ (x1 ≤ 10) → w116_11 c d Post s))))
theorem okm116 (c : gx) (d : Nat) (Post : Option Value → gs → Prop) (x1 : Int32) (s : gs) (w : wm116 c d Post x1 s) : tE c (d + 1) 116 [.ref 0, .int x1] s Post := by
  intro h hR
  have hk : ∀ pc i, gm_find gk_116 pc = some i → gm_code (gt_T c.1 c.2.1 c.2.2.1) 116 pc = some i := fun _ _ z => z
  unfold wm116 at w
  refine ge_of (by decide) (Nat.le_of_ble_eq_true rfl) ?_
  show gw (gt_T c.1 c.2.1 c.2.2.1) c.2.2.2 d 116 (0, [some (.ref 0), some (.int x1)], [], h) _
  refine gw_pst hk 2 (st' := (2, [some (.ref 0), some (.int x1)], [.int 1, .int x1], h)) rfl ?_
  refine gw_br (c := x1 < 1) (a := (11, [some (.ref 0), some (.int x1)], [], h)) (b := (5, [some (.ref 0), some (.int x1)], [], h)) (hk _ _ rfl) rfl ⟨fun z1 => ?_, fun z1 => ?_⟩
  · replace w := w.1 z1
    refine gw_le (L' := [none, none]) (gm_le_n _ (gm_le_n _ gm_le_nil)) ?_
    exact ok116_11 c d Post _ w _ hR
  · replace w := w.2 z1
    refine gw_pst hk 2 (st' := (8, [some (.ref 0), some (.int x1)], [.int 10, .int x1], h)) rfl ?_
    refine gw_br (c := x1 ≤ 10) (a := (13, [some (.ref 0), some (.int x1)], [], h)) (b := (11, [some (.ref 0), some (.int x1)], [], h)) (hk _ _ rfl) rfl ⟨fun z2 => ?_, fun z2 => ?_⟩
    · replace w := w.1 z2
      refine gw_pst hk 1 (st' := (14, [some (.ref 0), some (.int x1)], [.ref 0], h)) rfl ?_
      obtain ⟨fs3, e3⟩ := RL_o hR (r := 0) (ci := 9) rfl
      refine gw_call (jj := 119) (As := [.ref 0]) (rest := []) (hk _ _ rfl) (fun _ => rfl) rfl rfl (Nat.le_of_ble_eq_true rfl) (gm_rcv_v rfl e3 rfl) ?_
      refine ge_imp (w h hR) (fun v3 h w => ?_)
      obtain ⟨s_3, hR, rfl, w⟩ := w
      show gw (gt_T c.1 c.2.1 c.2.2.1) c.2.2.2 d 116 (17, [some (.ref 0), some (.int x1)], [], h) _
      refine gw_pst hk 1 (st' := (18, [some (.ref 0), some (.int x1)], [.ref 0], h)) rfl ?_
      refine gw_gf (hk _ _ rfl) (RL_fR (n := 36) hR rfl) ?_
      refine gw_pst hk 1 (st' := (22, [some (.ref 0), some (.int x1)], [.ref 0, .ref 36], h)) rfl ?_
      refine gw_gf (hk _ _ rfl) (RL_fR (n := 14) hR rfl) ?_
      refine gw_gf (hk _ _ rfl) (RL_fI hR rfl) ?_
      refine gw_pst hk 1 (st' := (29, [some (.ref 0), some (.int x1)], [.int x1, .int (gsV s_3 14 1), .ref 36], h)) rfl ?_
      obtain ⟨fs7, e7⟩ := RL_o hR (r := 36) (ci := 8) rfl
      refine gw_call (jj := 72) (As := [.ref 36, .int (gsV s_3 14 1), .int x1]) (rest := []) (hk _ _ rfl) (fun _ => rfl) rfl rfl (Nat.le_of_ble_eq_true rfl) (gm_rcv_v rfl e7 rfl) ?_
      refine ge_imp (w h hR) (fun v7 h w => ?_)
      obtain ⟨s_7, hR, x_7, rfl, w⟩ := w
      show gw (gt_T c.1 c.2.1 c.2.2.1) c.2.2.2 d 116 (32, [some (.ref 0), some (.int x1)], [.int x_7], h) _
      refine gw_br (c := x_7 = 0) (a := (35, [some (.ref 0), some (.int x1)], [], h)) (b := (38, [some (.ref 0), some (.int x1)], [], h)) (hk _ _ rfl) rfl ⟨fun z8 => ?_, fun z8 => ?_⟩
      · replace w := w.1 z8
        refine gw_pst hk 1 (st' := (37, [some (.ref 0), some (.int x1)], [.int (-2)], h)) rfl ?_
        exact gw_ret (hk _ _ rfl) rfl ⟨_, hR, w⟩
      · replace w := w.2 z8
        refine gw_pst hk 1 (st' := (39, [some (.ref 0), some (.int x1)], [.ref 0], h)) rfl ?_
        refine gw_gf (hk _ _ rfl) (RL_fR (n := 34) hR rfl) ?_
        refine gw_pst hk 1 (st' := (43, [some (.ref 0), some (.int x1)], [.ref 0, .ref 34], h)) rfl ?_
        refine gw_gf (hk _ _ rfl) (RL_fR (n := 36) hR rfl) ?_
        refine gw_gf (hk _ _ rfl) (RL_fI hR rfl) ?_
        refine gw_pst hk 1 (st' := (50, [some (.ref 0), some (.int x1)], [.long ((gsV s_7 36 5 : Int32).toInt64), .ref 34], h)) rfl ?_
        obtain ⟨fs12, e12⟩ := RL_o hR (r := 34) (ci := 5) rfl
        refine gw_call (jj := 45) (As := [.ref 34, .long ((gsV s_7 36 5 : Int32).toInt64)]) (rest := []) (hk _ _ rfl) (fun _ => rfl) rfl rfl (Nat.le_of_ble_eq_true rfl) (gm_rcv_v rfl e12 rfl) ?_
        refine ge_imp (w h hR) (fun v12 h w => ?_)
        obtain ⟨s_12, hR, rfl, w⟩ := w
        show gw (gt_T c.1 c.2.1 c.2.2.1) c.2.2.2 d 116 (53, [some (.ref 0), some (.int x1)], [], h) _
        refine gw_pst hk 1 (st' := (54, [some (.ref 0), some (.int x1)], [.ref 0], h)) rfl ?_
        refine gw_gf (hk _ _ rfl) (RL_fR (n := 36) hR rfl) ?_
        refine gw_gf (hk _ _ rfl) (RL_fI hR rfl) ?_
        exact gw_ret (hk _ _ rfl) rfl ⟨_, hR, w⟩
    · replace w := w.2 z2
      refine gw_le (L' := [none, none]) (gm_le_n _ (gm_le_n _ gm_le_nil)) ?_
      exact ok116_11 c d Post _ w _ hR
def w117_11 (c : gx) (d : Nat) (Post : Option Value → gs → Prop)  (s : gs) : Prop :=
  Post (some (.int (-1))) s
theorem ok117_11 (c : gx) (d : Nat) (Post : Option Value → gs → Prop)   (s : gs) (w : w117_11 c d Post  s) : tV c d 117 11 [none, none, none, none, none, none, none, none] [] s Post := by
  intro h hR
  have hk : ∀ pc i, gm_find gk_117 pc = some i → gm_code (gt_T c.1 c.2.1 c.2.2.1) 117 pc = some i := fun _ _ z => z
  unfold w117_11 at w
  unfold gV
  refine gw_pst hk 1 (st' := (12, [none, none, none, none, none, none, none, none], [.int (-1)], h)) rfl ?_
  exact gw_ret (hk _ _ rfl) rfl ⟨_, hR, w⟩
def w117_126 (c : gx) (d : Nat) (Post : Option Value → gs → Prop) (K20 : Int32 → Int32 → Int32 → Int32 → gs → Prop) (x1 : Int32) (x2 : Int32) (x3 : Int32) (x4 : Int32) (s : gs) : Prop :=
  K20 x1 x2 x3 (x4 + 1) s
theorem ok117_126 (c : gx) (d : Nat) (Post : Option Value → gs → Prop) (K20 : Int32 → Int32 → Int32 → Int32 → gs → Prop)  (hK20 : ∀ (x1 : Int32) (x2 : Int32) (x3 : Int32) (x4 : Int32) (s : gs), K20 x1 x2 x3 x4 s → tV c d 117 20 [some (.ref 0), some (.int x1), some (.int x2), some (.int x3), some (.int x4), none, none, none] [] s Post) (x1 : Int32) (x2 : Int32) (x3 : Int32) (x4 : Int32) (s : gs) (w : w117_126 c d Post K20 x1 x2 x3 x4 s) : tV c d 117 126 [some (.ref 0), some (.int x1), some (.int x2), some (.int x3), some (.int x4), none, none, none] [] s Post := by
  intro h hR
  have hk : ∀ pc i, gm_find gk_117 pc = some i → gm_code (gt_T c.1 c.2.1 c.2.2.1) 117 pc = some i := fun _ _ z => z
  unfold w117_126 at w
  unfold gV
  refine gw_pst hk 2 (st' := (20, [some (.ref 0), some (.int x1), some (.int x2), some (.int x3), some (.int (x4 + 1)), none, none, none], [], h)) rfl ?_
  exact hK20 _ _ _ _ _ w _ hR
def w117_120 (c : gx) (d : Nat) (Post : Option Value → gs → Prop) (K20 : Int32 → Int32 → Int32 → Int32 → gs → Prop) (x1 : Int32) (x4 : Int32) (x7 : Int32) (s : gs) : Prop :=
  w117_126 c d Post K20 x1 x4 x7 x4 s
theorem ok117_120 (c : gx) (d : Nat) (Post : Option Value → gs → Prop) (K20 : Int32 → Int32 → Int32 → Int32 → gs → Prop)  (hK20 : ∀ (x1 : Int32) (x2 : Int32) (x3 : Int32) (x4 : Int32) (s : gs), K20 x1 x2 x3 x4 s → tV c d 117 20 [some (.ref 0), some (.int x1), some (.int x2), some (.int x3), some (.int x4), none, none, none] [] s Post) (x1 : Int32) (x4 : Int32) (x7 : Int32) (s : gs) (w : w117_120 c d Post K20 x1 x4 x7 s) : tV c d 117 120 [some (.ref 0), some (.int x1), none, none, some (.int x4), none, none, some (.int x7)] [] s Post := by
  intro h hR
  have hk : ∀ pc i, gm_find gk_117 pc = some i → gm_code (gt_T c.1 c.2.1 c.2.2.1) 117 pc = some i := fun _ _ z => z
  unfold w117_120 at w
  unfold gV
  refine gw_pst hk 4 (st' := (126, [some (.ref 0), some (.int x1), some (.int x4), some (.int x7), some (.int x4), none, none, some (.int x7)], [], h)) rfl ?_
  refine gw_le (L' := [some (.ref 0), some (.int x1), some (.int x4), some (.int x7), some (.int x4), none, none, none]) (gm_le_k _ (gm_le_k _ (gm_le_k _ (gm_le_k _ (gm_le_k _ (gm_le_k _ (gm_le_k _ (gm_le_n _ gm_le_nil)))))))) ?_
  exact ok117_126 c d Post K20 hK20 _ _ _ _ _ w _ hR
def wb117_20 (c : gx) (d : Nat) (Post : Option Value → gs → Prop) (K20 : Int32 → Int32 → Int32 → Int32 → gs → Prop) (x1 : Int32) (x2 : Int32) (x3 : Int32) (x4 : Int32) (s : gs) : Prop :=
  ((x1 ≤ x4 → ((x2 = (-1) → Post (some (.int (-2))) s) ∧ (¬ (x2 = (-1)) → tE c d 45 [.ref 34, .long ((501 + x3 : Int32).toInt64)] s (fun v4 s_4 => v4 = none ∧ Post (some (.int x2)) s_4)))) ∧ (¬ (x1 ≤ x4) → tE c d 51 [.ref 14, .int ((gsV s 14 0) + x4)] s (fun v8 s_8 => ∃ x_8 : Int32, v8 = some (.int x_8) ∧ ((x_8 = (-1) → w117_126 c d Post K20 x1 x2 x3 x4 s_8) ∧ (¬ (x_8 = (-1)) → tE c d 148 [.ref 0, .int x_8] s_8 (fun v10 s_10 => ∃ q_10 : Nat, v10 = some (.ref q_10) ∧ tE c d 149 [.ref 0, .int (gsV s_10 14 1), .int (gsV s_10 14 2)] s_10 (fun v15 s_15 => ∃ x_15 : Int32, v15 = some (.int x_15) ∧ tE c d 151 [.ref 0, .ref q_10, .int x_15, .int (gsV s_15 14 3), .int (gsV s_15 14 4), .int (gsV s_15 14 5), .int ((gsV s 14 0) + x4), .int 0] s_15 (fun v22 s_22 => ∃ x_22 : Int32, v22 = some (.int x_22) ∧ ((x2 = (-1) → w117_120 c d Post K20 x1 x4 x_22 s_22) ∧ (¬ (x2 = (-1)) → ((x3 ≤ x_22 → w117_126 c d Post K20 x1 x2 x3 x4 s_22) ∧ (¬ (x3 ≤ x_22) → w117_120 c d Post K20 x1 x4 x_22 s_22))))))))))))
theorem okb117_20 (c : gx) (d : Nat) (Post : Option Value → gs → Prop) (K20 : Int32 → Int32 → Int32 → Int32 → gs → Prop)  (hK20 : ∀ (x1 : Int32) (x2 : Int32) (x3 : Int32) (x4 : Int32) (s : gs), K20 x1 x2 x3 x4 s → tV c d 117 20 [some (.ref 0), some (.int x1), some (.int x2), some (.int x3), some (.int x4), none, none, none] [] s Post) (x1 : Int32) (x2 : Int32) (x3 : Int32) (x4 : Int32) (s : gs) (w : wb117_20 c d Post K20 x1 x2 x3 x4 s) : tV c d 117 20 [some (.ref 0), some (.int x1), some (.int x2), some (.int x3), some (.int x4), none, none, none] [] s Post := by
  intro h hR
  have hk : ∀ pc i, gm_find gk_117 pc = some i → gm_code (gt_T c.1 c.2.1 c.2.2.1) 117 pc = some i := fun _ _ z => z
  unfold wb117_20 at w
  unfold gV
  refine gw_pst hk 2 (st' := (23, [some (.ref 0), some (.int x1), some (.int x2), some (.int x3), some (.int x4), none, none, none], [.int x1, .int x4], h)) rfl ?_
  refine gw_br (c := x1 ≤ x4) (a := (132, [some (.ref 0), some (.int x1), some (.int x2), some (.int x3), some (.int x4), none, none, none], [], h)) (b := (26, [some (.ref 0), some (.int x1), some (.int x2), some (.int x3), some (.int x4), none, none, none], [], h)) (hk _ _ rfl) rfl ⟨fun z1 => ?_, fun z1 => ?_⟩
  · replace w := w.1 z1
    refine gw_pst hk 2 (st' := (134, [some (.ref 0), some (.int x1), some (.int x2), some (.int x3), some (.int x4), none, none, none], [.int (-1), .int x2], h)) rfl ?_
    refine gw_br (c := x2 = (-1)) (a := (137, [some (.ref 0), some (.int x1), some (.int x2), some (.int x3), some (.int x4), none, none, none], [], h)) (b := (140, [some (.ref 0), some (.int x1), some (.int x2), some (.int x3), some (.int x4), none, none, none], [], h)) (hk _ _ rfl) rfl ⟨fun z2 => ?_, fun z2 => ?_⟩
    · replace w := w.1 z2
      refine gw_pst hk 1 (st' := (139, [some (.ref 0), some (.int x1), some (.int x2), some (.int x3), some (.int x4), none, none, none], [.int (-2)], h)) rfl ?_
      exact gw_ret (hk _ _ rfl) rfl ⟨_, hR, w⟩
    · replace w := w.2 z2
      refine gw_pst hk 1 (st' := (141, [some (.ref 0), some (.int x1), some (.int x2), some (.int x3), some (.int x4), none, none, none], [.ref 0], h)) rfl ?_
      refine gw_gf (hk _ _ rfl) (RL_fR (n := 34) hR rfl) ?_
      refine gw_pst hk 4 (st' := (150, [some (.ref 0), some (.int x1), some (.int x2), some (.int x3), some (.int x4), none, none, none], [.long ((501 + x3 : Int32).toInt64), .ref 34], h)) rfl ?_
      obtain ⟨fs4, e4⟩ := RL_o hR (r := 34) (ci := 5) rfl
      refine gw_call (jj := 45) (As := [.ref 34, .long ((501 + x3 : Int32).toInt64)]) (rest := []) (hk _ _ rfl) (fun _ => rfl) rfl rfl (Nat.le_of_ble_eq_true rfl) (gm_rcv_v rfl e4 rfl) ?_
      refine ge_imp (w h hR) (fun v4 h w => ?_)
      obtain ⟨s_4, hR, rfl, w⟩ := w
      show gw (gt_T c.1 c.2.1 c.2.2.1) c.2.2.2 d 117 (153, [some (.ref 0), some (.int x1), some (.int x2), some (.int x3), some (.int x4), none, none, none], [], h) _
      refine gw_pst hk 1 (st' := (154, [some (.ref 0), some (.int x1), some (.int x2), some (.int x3), some (.int x4), none, none, none], [.int x2], h)) rfl ?_
      exact gw_ret (hk _ _ rfl) rfl ⟨_, hR, w⟩
  · replace w := w.2 z1
    refine gw_pst hk 1 (st' := (27, [some (.ref 0), some (.int x1), some (.int x2), some (.int x3), some (.int x4), none, none, none], [.ref 0], h)) rfl ?_
    refine gw_gf (hk _ _ rfl) (RL_fR (n := 14) hR rfl) ?_
    refine gw_gf (hk _ _ rfl) (RL_fI hR rfl) ?_
    refine gw_pst hk 4 (st' := (39, [some (.ref 0), some (.int x1), some (.int x2), some (.int x3), some (.int x4), some (.int ((gsV s 14 0) + x4)), none, none], [.ref 0], h)) rfl ?_
    refine gw_gf (hk _ _ rfl) (RL_fR (n := 14) hR rfl) ?_
    refine gw_pst hk 1 (st' := (44, [some (.ref 0), some (.int x1), some (.int x2), some (.int x3), some (.int x4), some (.int ((gsV s 14 0) + x4)), none, none], [.int ((gsV s 14 0) + x4), .ref 14], h)) rfl ?_
    obtain ⟨fs8, e8⟩ := RL_o hR (r := 14) (ci := 6) rfl
    refine gw_call (jj := 51) (As := [.ref 14, .int ((gsV s 14 0) + x4)]) (rest := []) (hk _ _ rfl) (fun _ => rfl) rfl rfl (Nat.le_of_ble_eq_true rfl) (gm_rcv_v rfl e8 rfl) ?_
    refine ge_imp (w h hR) (fun v8 h w => ?_)
    obtain ⟨s_8, hR, x_8, rfl, w⟩ := w
    show gw (gt_T c.1 c.2.1 c.2.2.1) c.2.2.2 d 117 (47, [some (.ref 0), some (.int x1), some (.int x2), some (.int x3), some (.int x4), some (.int ((gsV s 14 0) + x4)), none, none], [.int x_8], h) _
    refine gw_pst hk 3 (st' := (52, [some (.ref 0), some (.int x1), some (.int x2), some (.int x3), some (.int x4), some (.int ((gsV s 14 0) + x4)), some (.int x_8), none], [.int (-1), .int x_8], h)) rfl ?_
    refine gw_br (c := x_8 = (-1)) (a := (126, [some (.ref 0), some (.int x1), some (.int x2), some (.int x3), some (.int x4), some (.int ((gsV s 14 0) + x4)), some (.int x_8), none], [], h)) (b := (55, [some (.ref 0), some (.int x1), some (.int x2), some (.int x3), some (.int x4), some (.int ((gsV s 14 0) + x4)), some (.int x_8), none], [], h)) (hk _ _ rfl) rfl ⟨fun z9 => ?_, fun z9 => ?_⟩
    · replace w := w.1 z9
      refine gw_le (L' := [some (.ref 0), some (.int x1), some (.int x2), some (.int x3), some (.int x4), none, none, none]) (gm_le_k _ (gm_le_k _ (gm_le_k _ (gm_le_k _ (gm_le_k _ (gm_le_n _ (gm_le_n _ (gm_le_k _ gm_le_nil)))))))) ?_
      exact ok117_126 c d Post K20 hK20 _ _ _ _ _ w _ hR
    · replace w := w.2 z9
      refine gw_pst hk 3 (st' := (59, [some (.ref 0), some (.int x1), some (.int x2), some (.int x3), some (.int x4), some (.int ((gsV s 14 0) + x4)), some (.int x_8), none], [.int x_8, .ref 0, .ref 0], h)) rfl ?_
      obtain ⟨fs10, e10⟩ := RL_o hR (r := 0) (ci := 9) rfl
      refine gw_call (jj := 148) (As := [.ref 0, .int x_8]) (rest := [.ref 0]) (hk _ _ rfl) (fun _ => rfl) rfl rfl (Nat.le_of_ble_eq_true rfl) (gm_rcv_v rfl e10 rfl) ?_
      refine ge_imp (w h hR) (fun v10 h w => ?_)
      obtain ⟨s_10, hR, q_10, rfl, w⟩ := w
      show gw (gt_T c.1 c.2.1 c.2.2.1) c.2.2.2 d 117 (62, [some (.ref 0), some (.int x1), some (.int x2), some (.int x3), some (.int x4), some (.int ((gsV s 14 0) + x4)), some (.int x_8), none], [.ref q_10, .ref 0], h) _
      refine gw_pst hk 2 (st' := (64, [some (.ref 0), some (.int x1), some (.int x2), some (.int x3), some (.int x4), some (.int ((gsV s 14 0) + x4)), some (.int x_8), none], [.ref 0, .ref 0, .ref q_10, .ref 0], h)) rfl ?_
      refine gw_gf (hk _ _ rfl) (RL_fR (n := 14) hR rfl) ?_
      refine gw_gf (hk _ _ rfl) (RL_fI hR rfl) ?_
      refine gw_pst hk 1 (st' := (71, [some (.ref 0), some (.int x1), some (.int x2), some (.int x3), some (.int x4), some (.int ((gsV s 14 0) + x4)), some (.int x_8), none], [.ref 0, .int (gsV s_10 14 1), .ref 0, .ref q_10, .ref 0], h)) rfl ?_
      refine gw_gf (hk _ _ rfl) (RL_fR (n := 14) hR rfl) ?_
      refine gw_gf (hk _ _ rfl) (RL_fI hR rfl) ?_
      obtain ⟨fs15, e15⟩ := RL_o hR (r := 0) (ci := 9) rfl
      refine gw_call (jj := 149) (As := [.ref 0, .int (gsV s_10 14 1), .int (gsV s_10 14 2)]) (rest := [.ref q_10, .ref 0]) (hk _ _ rfl) (fun _ => rfl) rfl rfl (Nat.le_of_ble_eq_true rfl) (gm_rcv_v rfl e15 rfl) ?_
      refine ge_imp (w h hR) (fun v15 h w => ?_)
      obtain ⟨s_15, hR, x_15, rfl, w⟩ := w
      show gw (gt_T c.1 c.2.1 c.2.2.1) c.2.2.2 d 117 (80, [some (.ref 0), some (.int x1), some (.int x2), some (.int x3), some (.int x4), some (.int ((gsV s 14 0) + x4)), some (.int x_8), none], [.int x_15, .ref q_10, .ref 0], h) _
      refine gw_pst hk 1 (st' := (81, [some (.ref 0), some (.int x1), some (.int x2), some (.int x3), some (.int x4), some (.int ((gsV s 14 0) + x4)), some (.int x_8), none], [.ref 0, .int x_15, .ref q_10, .ref 0], h)) rfl ?_
      refine gw_gf (hk _ _ rfl) (RL_fR (n := 14) hR rfl) ?_
      refine gw_gf (hk _ _ rfl) (RL_fI hR rfl) ?_
      refine gw_pst hk 1 (st' := (88, [some (.ref 0), some (.int x1), some (.int x2), some (.int x3), some (.int x4), some (.int ((gsV s 14 0) + x4)), some (.int x_8), none], [.ref 0, .int (gsV s_15 14 3), .int x_15, .ref q_10, .ref 0], h)) rfl ?_
      refine gw_gf (hk _ _ rfl) (RL_fR (n := 14) hR rfl) ?_
      refine gw_gf (hk _ _ rfl) (RL_fI hR rfl) ?_
      refine gw_pst hk 1 (st' := (95, [some (.ref 0), some (.int x1), some (.int x2), some (.int x3), some (.int x4), some (.int ((gsV s 14 0) + x4)), some (.int x_8), none], [.ref 0, .int (gsV s_15 14 4), .int (gsV s_15 14 3), .int x_15, .ref q_10, .ref 0], h)) rfl ?_
      refine gw_gf (hk _ _ rfl) (RL_fR (n := 14) hR rfl) ?_
      refine gw_gf (hk _ _ rfl) (RL_fI hR rfl) ?_
      refine gw_pst hk 2 (st' := (104, [some (.ref 0), some (.int x1), some (.int x2), some (.int x3), some (.int x4), some (.int ((gsV s 14 0) + x4)), some (.int x_8), none], [.int 0, .int ((gsV s 14 0) + x4), .int (gsV s_15 14 5), .int (gsV s_15 14 4), .int (gsV s_15 14 3), .int x_15, .ref q_10, .ref 0], h)) rfl ?_
      obtain ⟨fs22, e22⟩ := RL_o hR (r := 0) (ci := 9) rfl
      refine gw_call (jj := 151) (As := [.ref 0, .ref q_10, .int x_15, .int (gsV s_15 14 3), .int (gsV s_15 14 4), .int (gsV s_15 14 5), .int ((gsV s 14 0) + x4), .int 0]) (rest := []) (hk _ _ rfl) (fun _ => rfl) rfl rfl (Nat.le_of_ble_eq_true rfl) (gm_rcv_v rfl e22 rfl) ?_
      refine ge_imp (w h hR) (fun v22 h w => ?_)
      obtain ⟨s_22, hR, x_22, rfl, w⟩ := w
      show gw (gt_T c.1 c.2.1 c.2.2.1) c.2.2.2 d 117 (107, [some (.ref 0), some (.int x1), some (.int x2), some (.int x3), some (.int x4), some (.int ((gsV s 14 0) + x4)), some (.int x_8), none], [.int x_22], h) _
      refine gw_pst hk 3 (st' := (111, [some (.ref 0), some (.int x1), some (.int x2), some (.int x3), some (.int x4), some (.int ((gsV s 14 0) + x4)), some (.int x_8), some (.int x_22)], [.int (-1), .int x2], h)) rfl ?_
      refine gw_br (c := x2 = (-1)) (a := (120, [some (.ref 0), some (.int x1), some (.int x2), some (.int x3), some (.int x4), some (.int ((gsV s 14 0) + x4)), some (.int x_8), some (.int x_22)], [], h)) (b := (114, [some (.ref 0), some (.int x1), some (.int x2), some (.int x3), some (.int x4), some (.int ((gsV s 14 0) + x4)), some (.int x_8), some (.int x_22)], [], h)) (hk _ _ rfl) rfl ⟨fun z23 => ?_, fun z23 => ?_⟩
      · replace w := w.1 z23
        refine gw_le (L' := [some (.ref 0), some (.int x1), none, none, some (.int x4), none, none, some (.int x_22)]) (gm_le_k _ (gm_le_k _ (gm_le_n _ (gm_le_n _ (gm_le_k _ (gm_le_n _ (gm_le_n _ (gm_le_k _ gm_le_nil)))))))) ?_
        exact ok117_120 c d Post K20 hK20 _ _ _ _ w _ hR
      · replace w := w.2 z23
        refine gw_pst hk 2 (st' := (117, [some (.ref 0), some (.int x1), some (.int x2), some (.int x3), some (.int x4), some (.int ((gsV s 14 0) + x4)), some (.int x_8), some (.int x_22)], [.int x3, .int x_22], h)) rfl ?_
        refine gw_br (c := x3 ≤ x_22) (a := (126, [some (.ref 0), some (.int x1), some (.int x2), some (.int x3), some (.int x4), some (.int ((gsV s 14 0) + x4)), some (.int x_8), some (.int x_22)], [], h)) (b := (120, [some (.ref 0), some (.int x1), some (.int x2), some (.int x3), some (.int x4), some (.int ((gsV s 14 0) + x4)), some (.int x_8), some (.int x_22)], [], h)) (hk _ _ rfl) rfl ⟨fun z24 => ?_, fun z24 => ?_⟩
        · replace w := w.1 z24
          refine gw_le (L' := [some (.ref 0), some (.int x1), some (.int x2), some (.int x3), some (.int x4), none, none, none]) (gm_le_k _ (gm_le_k _ (gm_le_k _ (gm_le_k _ (gm_le_k _ (gm_le_n _ (gm_le_n _ (gm_le_n _ gm_le_nil)))))))) ?_
          exact ok117_126 c d Post K20 hK20 _ _ _ _ _ w _ hR
        · replace w := w.2 z24
          refine gw_le (L' := [some (.ref 0), some (.int x1), none, none, some (.int x4), none, none, some (.int x_22)]) (gm_le_k _ (gm_le_k _ (gm_le_n _ (gm_le_n _ (gm_le_k _ (gm_le_n _ (gm_le_n _ (gm_le_k _ gm_le_nil)))))))) ?_
          exact ok117_120 c d Post K20 hK20 _ _ _ _ w _ hR
def wl117_20 (c : gx) (d : Nat) (Post : Option Value → gs → Prop) : Nat → Int32 → Int32 → Int32 → Int32 → gs → Prop
  | 0 => fun _ _ _ _ _ => False
  | n + 1 => wb117_20 c d Post (wl117_20 c d Post n)
theorem okl117_20 (c : gx) (d : Nat) (Post : Option Value → gs → Prop) : ∀ (n : Nat) (x1 : Int32) (x2 : Int32) (x3 : Int32) (x4 : Int32) (s : gs), wl117_20 c d Post n x1 x2 x3 x4 s → tV c d 117 20 [some (.ref 0), some (.int x1), some (.int x2), some (.int x3), some (.int x4), none, none, none] [] s Post
  | 0, _, _, _, _, _, w => w.elim
  | n + 1, x1, x2, x3, x4, s, w => okb117_20 c d Post (wl117_20 c d Post n) (okl117_20 c d Post n) x1 x2 x3 x4 s w
/-- CommandByTurns.offers(I)I -/
def wm117 (c : gx) (d : Nat) (Post : Option Value → gs → Prop) (x1 : Int32) (s : gs) : Prop :=
  ((x1 < 1 → w117_11 c d Post s) ∧ (¬ (x1 < 1) → ((x1 ≤ 30 → ∃ n, wl117_20 c d Post n x1 (-1) 0 0 s) ∧ (¬ (x1 ≤ 30) → w117_11 c d Post s))))
theorem okm117 (c : gx) (d : Nat) (Post : Option Value → gs → Prop) (x1 : Int32) (s : gs) (w : wm117 c d Post x1 s) : tE c (d + 1) 117 [.ref 0, .int x1] s Post := by
  intro h hR
  have hk : ∀ pc i, gm_find gk_117 pc = some i → gm_code (gt_T c.1 c.2.1 c.2.2.1) 117 pc = some i := fun _ _ z => z
  unfold wm117 at w
  refine ge_of (by decide) (Nat.le_of_ble_eq_true rfl) ?_
  show gw (gt_T c.1 c.2.1 c.2.2.1) c.2.2.2 d 117 (0, [some (.ref 0), some (.int x1), none, none, none, none, none, none], [], h) _
  refine gw_pst hk 2 (st' := (2, [some (.ref 0), some (.int x1), none, none, none, none, none, none], [.int 1, .int x1], h)) rfl ?_
  refine gw_br (c := x1 < 1) (a := (11, [some (.ref 0), some (.int x1), none, none, none, none, none, none], [], h)) (b := (5, [some (.ref 0), some (.int x1), none, none, none, none, none, none], [], h)) (hk _ _ rfl) rfl ⟨fun z1 => ?_, fun z1 => ?_⟩
  · replace w := w.1 z1
    refine gw_le (L' := [none, none, none, none, none, none, none, none]) (gm_le_n _ (gm_le_n _ (gm_le_k _ (gm_le_k _ (gm_le_k _ (gm_le_k _ (gm_le_k _ (gm_le_k _ gm_le_nil)))))))) ?_
    exact ok117_11 c d Post _ w _ hR
  · replace w := w.2 z1
    refine gw_pst hk 2 (st' := (8, [some (.ref 0), some (.int x1), none, none, none, none, none, none], [.int 30, .int x1], h)) rfl ?_
    refine gw_br (c := x1 ≤ 30) (a := (13, [some (.ref 0), some (.int x1), none, none, none, none, none, none], [], h)) (b := (11, [some (.ref 0), some (.int x1), none, none, none, none, none, none], [], h)) (hk _ _ rfl) rfl ⟨fun z2 => ?_, fun z2 => ?_⟩
    · replace w := w.1 z2
      refine gw_pst hk 6 (st' := (20, [some (.ref 0), some (.int x1), some (.int (-1)), some (.int 0), some (.int 0), none, none, none], [], h)) rfl ?_
      obtain ⟨n, w⟩ := w
      exact okl117_20 c d Post n _ _ _ _ _ w _ hR
    · replace w := w.2 z2
      refine gw_le (L' := [none, none, none, none, none, none, none, none]) (gm_le_n _ (gm_le_n _ (gm_le_k _ (gm_le_k _ (gm_le_k _ (gm_le_k _ (gm_le_k _ (gm_le_k _ gm_le_nil)))))))) ?_
      exact ok117_11 c d Post _ w _ hR
