/-! What must hold for a run to end with Post: by program (wip/whole/gen_wp.py). -/
def w75_22 (c : gx) (d : Nat) (Post : Option Value → gs → Prop) (xs0 : Int32) (s : gs) : Prop :=
  Post (some (.int xs0)) s
theorem ok75_22 (c : gx) (d : Nat) (Post : Option Value → gs → Prop)  (xs0 : Int32) (s : gs) (w : w75_22 c d Post xs0 s) : tV c d 75 22 [none, none] [.int xs0] s Post := by
  intro h hR
  have hk : ∀ pc i, gm_find gk_75 pc = some i → gm_code (gt_T c.1 c.2.1 c.2.2.1) 75 pc = some i := fun _ _ z => z
  unfold w75_22 at w
  unfold gV
  exact gw_ret (hk _ _ rfl) rfl ⟨_, hR, w⟩
/-- CommandByTurns.sign(I)I -/
def wm75 (c : gx) (d : Nat) (Post : Option Value → gs → Prop) (x1 : Int32) (s : gs) : Prop :=
  tE c d 62 [.ref 1, .int x1] s (fun v2 s_2 => ∃ x_2 : Int32, v2 = some (.int x_2) ∧ ((x_2 = 0 → w75_22 c d Post (-1) s_2) ∧ (¬ (x_2 = 0) → w75_22 c d Post (gsV s_2 1 1) s_2)))
theorem okm75 (c : gx) (d : Nat) (Post : Option Value → gs → Prop) (x1 : Int32) (s : gs) (w : wm75 c d Post x1 s) : tE c (d + 1) 75 [.ref 0, .int x1] s Post := by
  intro h hR
  have hk : ∀ pc i, gm_find gk_75 pc = some i → gm_code (gt_T c.1 c.2.1 c.2.2.1) 75 pc = some i := fun _ _ z => z
  unfold wm75 at w
  refine ge_of (by decide) (Nat.le_of_ble_eq_true rfl) ?_
  show gw (gt_T c.1 c.2.1 c.2.2.1) c.2.2.2 d 75 (0, [some (.ref 0), some (.int x1)], [], h) _
  refine gw_pst hk 1 (st' := (1, [some (.ref 0), some (.int x1)], [.ref 0], h)) rfl ?_
  refine gw_gf (hk _ _ rfl) (RL_fR (n := 1) hR rfl) ?_
  refine gw_pst hk 1 (st' := (5, [some (.ref 0), some (.int x1)], [.int x1, .ref 1], h)) rfl ?_
  obtain ⟨fs2, e2⟩ := RL_o hR (r := 1) (ci := 7) rfl
  refine gw_call (jj := 62) (As := [.ref 1, .int x1]) (rest := []) (hk _ _ rfl) (fun _ => rfl) rfl rfl (Nat.le_of_ble_eq_true rfl) (gm_rcv_v rfl e2 rfl) ?_
  refine ge_imp (w h hR) (fun v2 h w => ?_)
  obtain ⟨s_2, hR, x_2, rfl, w⟩ := w
  show gw (gt_T c.1 c.2.1 c.2.2.1) c.2.2.2 d 75 (8, [some (.ref 0), some (.int x1)], [.int x_2], h) _
  refine gw_br (c := x_2 = 0) (a := (21, [some (.ref 0), some (.int x1)], [], h)) (b := (11, [some (.ref 0), some (.int x1)], [], h)) (hk _ _ rfl) rfl ⟨fun z3 => ?_, fun z3 => ?_⟩
  · replace w := w.1 z3
    refine gw_pst hk 1 (st' := (22, [some (.ref 0), some (.int x1)], [.int (-1)], h)) rfl ?_
    refine gw_le (L' := [none, none]) (gm_le_n _ (gm_le_n _ gm_le_nil)) ?_
    exact ok75_22 c d Post _ _ w _ hR
  · replace w := w.2 z3
    refine gw_pst hk 1 (st' := (12, [some (.ref 0), some (.int x1)], [.ref 0], h)) rfl ?_
    refine gw_gf (hk _ _ rfl) (RL_fR (n := 1) hR rfl) ?_
    refine gw_gf (hk _ _ rfl) (RL_fI hR rfl) ?_
    refine gw_pst hk 1 (st' := (22, [some (.ref 0), some (.int x1)], [.int (gsV s_2 1 1)], h)) rfl ?_
    refine gw_le (L' := [none, none]) (gm_le_n _ (gm_le_n _ gm_le_nil)) ?_
    exact ok75_22 c d Post _ _ w _ hR
def w76_15 (c : gx) (d : Nat) (Post : Option Value → gs → Prop)  (s : gs) : Prop :=
  Post (some (.int 0)) s
theorem ok76_15 (c : gx) (d : Nat) (Post : Option Value → gs → Prop)   (s : gs) (w : w76_15 c d Post  s) : tV c d 76 15 [none, none] [] s Post := by
  intro h hR
  have hk : ∀ pc i, gm_find gk_76 pc = some i → gm_code (gt_T c.1 c.2.1 c.2.2.1) 76 pc = some i := fun _ _ z => z
  unfold w76_15 at w
  unfold gV
  refine gw_pst hk 1 (st' := (16, [none, none], [.int 0], h)) rfl ?_
  exact gw_ret (hk _ _ rfl) rfl ⟨_, hR, w⟩
/-- CommandByTurns.end(I)Z -/
def wm76 (c : gx) (d : Nat) (Post : Option Value → gs → Prop) (x1 : Int32) (s : gs) : Prop :=
  ((x1 < 0 → w76_15 c d Post s) ∧ (¬ (x1 < 0) → ((x1 ≤ (gsV s 1 1) → ∀ s_6 : gs, s_6 = gs_V s 1 1 x1 → Post (some (.int 1)) s_6) ∧ (¬ (x1 ≤ (gsV s 1 1)) → w76_15 c d Post s))))
theorem okm76 (c : gx) (d : Nat) (Post : Option Value → gs → Prop) (x1 : Int32) (s : gs) (w : wm76 c d Post x1 s) : tE c (d + 1) 76 [.ref 0, .int x1] s Post := by
  intro h hR
  have hk : ∀ pc i, gm_find gk_76 pc = some i → gm_code (gt_T c.1 c.2.1 c.2.2.1) 76 pc = some i := fun _ _ z => z
  unfold wm76 at w
  refine ge_of (by decide) (Nat.le_of_ble_eq_true rfl) ?_
  show gw (gt_T c.1 c.2.1 c.2.2.1) c.2.2.2 d 76 (0, [some (.ref 0), some (.int x1)], [], h) _
  refine gw_pst hk 1 (st' := (1, [some (.ref 0), some (.int x1)], [.int x1], h)) rfl ?_
  refine gw_br (c := x1 < 0) (a := (15, [some (.ref 0), some (.int x1)], [], h)) (b := (4, [some (.ref 0), some (.int x1)], [], h)) (hk _ _ rfl) rfl ⟨fun z1 => ?_, fun z1 => ?_⟩
  · replace w := w.1 z1
    refine gw_le (L' := [none, none]) (gm_le_n _ (gm_le_n _ gm_le_nil)) ?_
    exact ok76_15 c d Post _ w _ hR
  · replace w := w.2 z1
    refine gw_pst hk 2 (st' := (6, [some (.ref 0), some (.int x1)], [.ref 0, .int x1], h)) rfl ?_
    refine gw_gf (hk _ _ rfl) (RL_fR (n := 1) hR rfl) ?_
    refine gw_gf (hk _ _ rfl) (RL_fI hR rfl) ?_
    refine gw_br (c := x1 ≤ (gsV s 1 1)) (a := (17, [some (.ref 0), some (.int x1)], [], h)) (b := (15, [some (.ref 0), some (.int x1)], [], h)) (hk _ _ rfl) rfl ⟨fun z4 => ?_, fun z4 => ?_⟩
    · replace w := w.1 z4
      refine gw_pst hk 1 (st' := (18, [some (.ref 0), some (.int x1)], [.ref 0], h)) rfl ?_
      refine gw_gf (hk _ _ rfl) (RL_fR (n := 1) hR rfl) ?_
      refine gw_pst hk 1 (st' := (22, [some (.ref 0), some (.int x1)], [.int x1, .ref 1], h)) rfl ?_
      obtain ⟨fs6, e6⟩ := RL_o hR (r := 1) (ci := 7) rfl
      obtain ⟨l6, hR6⟩ := RL_pI (k := 1) (x := x1) hR rfl e6
      refine gw_pf (hk _ _ rfl) e6 l6 rfl ?_
      generalize gm_put h _ _ = h at hR6 ⊢
      obtain ⟨s_6, es6⟩ : ∃ z, z = gs_V s 1 1 x1 := ⟨_, rfl⟩
      rw [← es6] at hR6
      replace w := w s_6 es6
      replace hR := hR6
      refine gw_pst hk 1 (st' := (26, [some (.ref 0), some (.int x1)], [.int 1], h)) rfl ?_
      exact gw_ret (hk _ _ rfl) rfl ⟨_, hR, w⟩
    · replace w := w.2 z4
      refine gw_le (L' := [none, none]) (gm_le_n _ (gm_le_n _ gm_le_nil)) ?_
      exact ok76_15 c d Post _ w _ hR
def w77_87 (c : gx) (d : Nat) (Post : Option Value → gs → Prop) (xs0 : Int32) (s : gs) : Prop :=
  Post (some (.int xs0)) s
theorem ok77_87 (c : gx) (d : Nat) (Post : Option Value → gs → Prop)  (xs0 : Int32) (s : gs) (w : w77_87 c d Post xs0 s) : tV c d 77 87 [none, none] [.int xs0] s Post := by
  intro h hR
  have hk : ∀ pc i, gm_find gk_77 pc = some i → gm_code (gt_T c.1 c.2.1 c.2.2.1) 77 pc = some i := fun _ _ z => z
  unfold w77_87 at w
  unfold gV
  exact gw_ret (hk _ _ rfl) rfl ⟨_, hR, w⟩
def w77_61 (c : gx) (d : Nat) (Post : Option Value → gs → Prop) (x1 : Int32) (s : gs) : Prop :=
  ∀ s_2 : gs, s_2 = gs_V s 1 1 0 → ((x1 = (-1) → w77_87 c d Post (gsV s_2 3 2) s_2) ∧ (¬ (x1 = (-1)) → w77_87 c d Post ((-1) - x1) s_2))
theorem ok77_61 (c : gx) (d : Nat) (Post : Option Value → gs → Prop)  (x1 : Int32) (s : gs) (w : w77_61 c d Post x1 s) : tV c d 77 61 [some (.ref 0), some (.int x1)] [] s Post := by
  intro h hR
  have hk : ∀ pc i, gm_find gk_77 pc = some i → gm_code (gt_T c.1 c.2.1 c.2.2.1) 77 pc = some i := fun _ _ z => z
  unfold w77_61 at w
  unfold gV
  refine gw_pst hk 1 (st' := (62, [some (.ref 0), some (.int x1)], [.ref 0], h)) rfl ?_
  refine gw_gf (hk _ _ rfl) (RL_fR (n := 1) hR rfl) ?_
  refine gw_pst hk 1 (st' := (66, [some (.ref 0), some (.int x1)], [.int 0, .ref 1], h)) rfl ?_
  obtain ⟨fs2, e2⟩ := RL_o hR (r := 1) (ci := 7) rfl
  obtain ⟨l2, hR2⟩ := RL_pI (k := 1) (x := 0) hR rfl e2
  refine gw_pf (hk _ _ rfl) e2 l2 rfl ?_
  generalize gm_put h _ _ = h at hR2 ⊢
  obtain ⟨s_2, es2⟩ : ∃ z, z = gs_V s 1 1 0 := ⟨_, rfl⟩
  rw [← es2] at hR2
  replace w := w s_2 es2
  replace hR := hR2
  refine gw_pst hk 2 (st' := (71, [some (.ref 0), some (.int x1)], [.int (-1), .int x1], h)) rfl ?_
  refine gw_br (c := x1 = (-1)) (a := (74, [some (.ref 0), some (.int x1)], [], h)) (b := (84, [some (.ref 0), some (.int x1)], [], h)) (hk _ _ rfl) rfl ⟨fun z3 => ?_, fun z3 => ?_⟩
  · replace w := w.1 z3
    refine gw_pst hk 1 (st' := (75, [some (.ref 0), some (.int x1)], [.ref 0], h)) rfl ?_
    refine gw_gf (hk _ _ rfl) (RL_fR (n := 3) hR rfl) ?_
    refine gw_gf (hk _ _ rfl) (RL_fI hR rfl) ?_
    refine gw_pst hk 1 (st' := (87, [some (.ref 0), some (.int x1)], [.int (gsV s_2 3 2)], h)) rfl ?_
    refine gw_le (L' := [none, none]) (gm_le_n _ (gm_le_n _ gm_le_nil)) ?_
    exact ok77_87 c d Post _ _ w _ hR
  · replace w := w.2 z3
    refine gw_pst hk 3 (st' := (87, [some (.ref 0), some (.int x1)], [.int ((-1) - x1)], h)) rfl ?_
    refine gw_le (L' := [none, none]) (gm_le_n _ (gm_le_n _ gm_le_nil)) ?_
    exact ok77_87 c d Post _ _ w _ hR
/-- CommandByTurns.ground()I -/
def wm77 (c : gx) (d : Nat) (Post : Option Value → gs → Prop)  (s : gs) : Prop :=
  tE c d 23 [.ref 1] s (fun v2 s_2 => ∃ x_2 : Int32, v2 = some (.int x_2) ∧ ((x_2 = (-1) → tE c d 24 [.ref 3, .ref 1] s_2 (fun v6 s_6 => v6 = none ∧ ∀ s_8 : gs, s_8 = gs_V s_6 14 1 0 → ∀ s_12 : gs, s_12 = gs_V s_8 14 2 ((gsV s_8 3 2) - 1) → ∀ s_14 : gs, s_14 = gs_V s_12 17 2 0 → ∀ s_15 : gs, s_15 = gs_V s_14 0 10 0 → w77_61 c d Post x_2 s_15)) ∧ (¬ (x_2 = (-1)) → w77_61 c d Post x_2 s_2)))
theorem okm77 (c : gx) (d : Nat) (Post : Option Value → gs → Prop)  (s : gs) (w : wm77 c d Post  s) : tE c (d + 1) 77 [.ref 0] s Post := by
  intro h hR
  have hk : ∀ pc i, gm_find gk_77 pc = some i → gm_code (gt_T c.1 c.2.1 c.2.2.1) 77 pc = some i := fun _ _ z => z
  unfold wm77 at w
  refine ge_of (by decide) (Nat.le_of_ble_eq_true rfl) ?_
  show gw (gt_T c.1 c.2.1 c.2.2.1) c.2.2.2 d 77 (0, [some (.ref 0), none], [], h) _
  refine gw_pst hk 1 (st' := (1, [some (.ref 0), none], [.ref 0], h)) rfl ?_
  refine gw_gf (hk _ _ rfl) (RL_fR (n := 1) hR rfl) ?_
  refine gw_call (jj := 23) (As := [.ref 1]) (rest := []) (hk _ _ rfl) (fun _ => rfl) rfl rfl (Nat.le_of_ble_eq_true rfl) rfl ?_
  refine ge_imp (w h hR) (fun v2 h w => ?_)
  obtain ⟨s_2, hR, x_2, rfl, w⟩ := w
  show gw (gt_T c.1 c.2.1 c.2.2.1) c.2.2.2 d 77 (7, [some (.ref 0), none], [.int x_2], h) _
  refine gw_pst hk 3 (st' := (10, [some (.ref 0), some (.int x_2)], [.int (-1), .int x_2], h)) rfl ?_
  refine gw_br (c := x_2 = (-1)) (a := (13, [some (.ref 0), some (.int x_2)], [], h)) (b := (61, [some (.ref 0), some (.int x_2)], [], h)) (hk _ _ rfl) rfl ⟨fun z3 => ?_, fun z3 => ?_⟩
  · replace w := w.1 z3
    refine gw_pst hk 1 (st' := (14, [some (.ref 0), some (.int x_2)], [.ref 0], h)) rfl ?_
    refine gw_gf (hk _ _ rfl) (RL_fR (n := 3) hR rfl) ?_
    refine gw_pst hk 1 (st' := (18, [some (.ref 0), some (.int x_2)], [.ref 0, .ref 3], h)) rfl ?_
    refine gw_gf (hk _ _ rfl) (RL_fR (n := 1) hR rfl) ?_
    obtain ⟨fs6, e6⟩ := RL_o hR (r := 3) (ci := 1) rfl
    refine gw_call (jj := 24) (As := [.ref 3, .ref 1]) (rest := []) (hk _ _ rfl) (fun _ => rfl) rfl rfl (Nat.le_of_ble_eq_true rfl) (gm_rcv_v rfl e6 rfl) ?_
    refine ge_imp (w h hR) (fun v6 h w => ?_)
    obtain ⟨s_6, hR, rfl, w⟩ := w
    show gw (gt_T c.1 c.2.1 c.2.2.1) c.2.2.2 d 77 (24, [some (.ref 0), some (.int x_2)], [], h) _
    refine gw_pst hk 1 (st' := (25, [some (.ref 0), some (.int x_2)], [.ref 0], h)) rfl ?_
    refine gw_gf (hk _ _ rfl) (RL_fR (n := 14) hR rfl) ?_
    refine gw_pst hk 1 (st' := (29, [some (.ref 0), some (.int x_2)], [.int 0, .ref 14], h)) rfl ?_
    obtain ⟨fs8, e8⟩ := RL_o hR (r := 14) (ci := 6) rfl
    obtain ⟨l8, hR8⟩ := RL_pI (k := 1) (x := 0) hR rfl e8
    refine gw_pf (hk _ _ rfl) e8 l8 rfl ?_
    generalize gm_put h _ _ = h at hR8 ⊢
    obtain ⟨s_8, es8⟩ : ∃ z, z = gs_V s_6 14 1 0 := ⟨_, rfl⟩
    rw [← es8] at hR8
    replace w := w s_8 es8
    replace hR := hR8
    refine gw_pst hk 1 (st' := (33, [some (.ref 0), some (.int x_2)], [.ref 0], h)) rfl ?_
    refine gw_gf (hk _ _ rfl) (RL_fR (n := 14) hR rfl) ?_
    refine gw_pst hk 1 (st' := (37, [some (.ref 0), some (.int x_2)], [.ref 0, .ref 14], h)) rfl ?_
    refine gw_gf (hk _ _ rfl) (RL_fR (n := 3) hR rfl) ?_
    refine gw_gf (hk _ _ rfl) (RL_fI hR rfl) ?_
    refine gw_pst hk 2 (st' := (45, [some (.ref 0), some (.int x_2)], [.int ((gsV s_8 3 2) - 1), .ref 14], h)) rfl ?_
    obtain ⟨fs12, e12⟩ := RL_o hR (r := 14) (ci := 6) rfl
    obtain ⟨l12, hR12⟩ := RL_pI (k := 2) (x := (gsV s_8 3 2) - 1) hR rfl e12
    refine gw_pf (hk _ _ rfl) e12 l12 rfl ?_
    generalize gm_put h _ _ = h at hR12 ⊢
    obtain ⟨s_12, es12⟩ : ∃ z, z = gs_V s_8 14 2 ((gsV s_8 3 2) - 1) := ⟨_, rfl⟩
    rw [← es12] at hR12
    replace w := w s_12 es12
    replace hR := hR12
    refine gw_pst hk 1 (st' := (49, [some (.ref 0), some (.int x_2)], [.ref 0], h)) rfl ?_
    refine gw_gf (hk _ _ rfl) (RL_fR (n := 17) hR rfl) ?_
    refine gw_pst hk 1 (st' := (53, [some (.ref 0), some (.int x_2)], [.int 0, .ref 17], h)) rfl ?_
    obtain ⟨fs14, e14⟩ := RL_o hR (r := 17) (ci := 4) rfl
    obtain ⟨l14, hR14⟩ := RL_pI (k := 2) (x := 0) hR rfl e14
    refine gw_pf (hk _ _ rfl) e14 l14 rfl ?_
    generalize gm_put h _ _ = h at hR14 ⊢
    obtain ⟨s_14, es14⟩ : ∃ z, z = gs_V s_12 17 2 0 := ⟨_, rfl⟩
    rw [← es14] at hR14
    replace w := w s_14 es14
    replace hR := hR14
    refine gw_pst hk 2 (st' := (58, [some (.ref 0), some (.int x_2)], [.int 0, .ref 0], h)) rfl ?_
    obtain ⟨fs15, e15⟩ := RL_o hR (r := 0) (ci := 9) rfl
    obtain ⟨l15, hR15⟩ := RL_pI (k := 10) (x := 0) hR rfl e15
    refine gw_pf (hk _ _ rfl) e15 l15 rfl ?_
    generalize gm_put h _ _ = h at hR15 ⊢
    obtain ⟨s_15, es15⟩ : ∃ z, z = gs_V s_14 0 10 0 := ⟨_, rfl⟩
    rw [← es15] at hR15
    replace w := w s_15 es15
    replace hR := hR15
    exact ok77_61 c d Post _ _ w _ hR
  · replace w := w.2 z3
    exact ok77_61 c d Post _ _ w _ hR
def w78_61 (c : gx) (d : Nat) (Post : Option Value → gs → Prop) (x2 : Int32) (s : gs) : Prop :=
  ∀ s_2 : gs, s_2 = gs_V s 1 1 0 → Post (some (.int x2)) s_2
theorem ok78_61 (c : gx) (d : Nat) (Post : Option Value → gs → Prop)  (x2 : Int32) (s : gs) (w : w78_61 c d Post x2 s) : tV c d 78 61 [some (.ref 0), none, some (.int x2), none] [] s Post := by
  intro h hR
  have hk : ∀ pc i, gm_find gk_78 pc = some i → gm_code (gt_T c.1 c.2.1 c.2.2.1) 78 pc = some i := fun _ _ z => z
  unfold w78_61 at w
  unfold gV
  refine gw_pst hk 1 (st' := (62, [some (.ref 0), none, some (.int x2), none], [.ref 0], h)) rfl ?_
  refine gw_gf (hk _ _ rfl) (RL_fR (n := 1) hR rfl) ?_
  refine gw_pst hk 1 (st' := (66, [some (.ref 0), none, some (.int x2), none], [.int 0, .ref 1], h)) rfl ?_
  obtain ⟨fs2, e2⟩ := RL_o hR (r := 1) (ci := 7) rfl
  obtain ⟨l2, hR2⟩ := RL_pI (k := 1) (x := 0) hR rfl e2
  refine gw_pf (hk _ _ rfl) e2 l2 rfl ?_
  generalize gm_put h _ _ = h at hR2 ⊢
  obtain ⟨s_2, es2⟩ : ∃ z, z = gs_V s 1 1 0 := ⟨_, rfl⟩
  rw [← es2] at hR2
  replace w := w s_2 es2
  replace hR := hR2
  refine gw_pst hk 1 (st' := (70, [some (.ref 0), none, some (.int x2), none], [.int x2], h)) rfl ?_
  exact gw_ret (hk _ _ rfl) rfl ⟨_, hR, w⟩
def w78_60 (c : gx) (d : Nat) (Post : Option Value → gs → Prop) (xs0 : Int32) (s : gs) : Prop :=
  w78_61 c d Post xs0 s
theorem ok78_60 (c : gx) (d : Nat) (Post : Option Value → gs → Prop)  (xs0 : Int32) (s : gs) (w : w78_60 c d Post xs0 s) : tV c d 78 60 [some (.ref 0), none, none, none] [.int xs0] s Post := by
  intro h hR
  have hk : ∀ pc i, gm_find gk_78 pc = some i → gm_code (gt_T c.1 c.2.1 c.2.2.1) 78 pc = some i := fun _ _ z => z
  unfold w78_60 at w
  unfold gV
  refine gw_pst hk 1 (st' := (61, [some (.ref 0), none, some (.int xs0), none], [], h)) rfl ?_
  exact ok78_61 c d Post _ _ w _ hR
def w78_42 (c : gx) (d : Nat) (Post : Option Value → gs → Prop) (x3 : Int32) (s : gs) : Prop :=
  ((x3 = (-1) → w78_60 c d Post (gsV s 1 1) s) ∧ (¬ (x3 = (-1)) → w78_60 c d Post ((-1) - x3) s))
theorem ok78_42 (c : gx) (d : Nat) (Post : Option Value → gs → Prop)  (x3 : Int32) (s : gs) (w : w78_42 c d Post x3 s) : tV c d 78 42 [some (.ref 0), none, none, some (.int x3)] [] s Post := by
  intro h hR
  have hk : ∀ pc i, gm_find gk_78 pc = some i → gm_code (gt_T c.1 c.2.1 c.2.2.1) 78 pc = some i := fun _ _ z => z
  unfold w78_42 at w
  unfold gV
  refine gw_pst hk 2 (st' := (44, [some (.ref 0), none, none, some (.int x3)], [.int (-1), .int x3], h)) rfl ?_
  refine gw_br (c := x3 = (-1)) (a := (47, [some (.ref 0), none, none, some (.int x3)], [], h)) (b := (57, [some (.ref 0), none, none, some (.int x3)], [], h)) (hk _ _ rfl) rfl ⟨fun z1 => ?_, fun z1 => ?_⟩
  · replace w := w.1 z1
    refine gw_pst hk 1 (st' := (48, [some (.ref 0), none, none, some (.int x3)], [.ref 0], h)) rfl ?_
    refine gw_gf (hk _ _ rfl) (RL_fR (n := 1) hR rfl) ?_
    refine gw_gf (hk _ _ rfl) (RL_fI hR rfl) ?_
    refine gw_pst hk 1 (st' := (60, [some (.ref 0), none, none, some (.int x3)], [.int (gsV s 1 1)], h)) rfl ?_
    refine gw_le (L' := [some (.ref 0), none, none, none]) (gm_le_k _ (gm_le_k _ (gm_le_k _ (gm_le_n _ gm_le_nil)))) ?_
    exact ok78_60 c d Post _ _ w _ hR
  · replace w := w.2 z1
    refine gw_pst hk 3 (st' := (60, [some (.ref 0), none, none, some (.int x3)], [.int ((-1) - x3)], h)) rfl ?_
    refine gw_le (L' := [some (.ref 0), none, none, none]) (gm_le_k _ (gm_le_k _ (gm_le_k _ (gm_le_n _ gm_le_nil)))) ?_
    exact ok78_60 c d Post _ _ w _ hR
/-- CommandByTurns.wishes(I)I -/
def wm78 (c : gx) (d : Nat) (Post : Option Value → gs → Prop) (x1 : Int32) (s : gs) : Prop :=
  tE c d 147 [.int x1] s (fun v1 s_1 => ∃ x_1 : Int32, v1 = some (.int x_1) ∧ ((x_1 = 0 → w78_61 c d Post (-100) s_1) ∧ (¬ (x_1 = 0) → tE c d 28 [.ref 1] s_1 (fun v4 s_4 => ∃ x_4 : Int32, v4 = some (.int x_4) ∧ ((x_4 = (-1) → tE c d 148 [.ref 0, .int x1] s_4 (fun v6 s_6 => ∃ q_6 : Nat, v6 = some (.ref q_6) ∧ gs_isC q_6 2 = true ∧ tE c d 29 [.ref q_6, .ref 1, .int (gsV s_6 14 0)] s_6 (fun v10 s_10 => v10 = none ∧ w78_42 c d Post x_4 s_10))) ∧ (¬ (x_4 = (-1)) → w78_42 c d Post x_4 s_4))))))
theorem okm78 (c : gx) (d : Nat) (Post : Option Value → gs → Prop) (x1 : Int32) (s : gs) (w : wm78 c d Post x1 s) : tE c (d + 1) 78 [.ref 0, .int x1] s Post := by
  intro h hR
  have hk : ∀ pc i, gm_find gk_78 pc = some i → gm_code (gt_T c.1 c.2.1 c.2.2.1) 78 pc = some i := fun _ _ z => z
  unfold wm78 at w
  refine ge_of (by decide) (Nat.le_of_ble_eq_true rfl) ?_
  show gw (gt_T c.1 c.2.1 c.2.2.1) c.2.2.2 d 78 (0, [some (.ref 0), some (.int x1), none, none], [], h) _
  refine gw_pst hk 3 (st' := (4, [some (.ref 0), some (.int x1), some (.int (-100)), none], [.int x1], h)) rfl ?_
  refine gw_call (jj := 147) (As := [.int x1]) (rest := []) (hk _ _ rfl) (fun _ => rfl) rfl rfl (Nat.le_of_ble_eq_true rfl) rfl ?_
  refine ge_imp (w h hR) (fun v1 h w => ?_)
  obtain ⟨s_1, hR, x_1, rfl, w⟩ := w
  show gw (gt_T c.1 c.2.1 c.2.2.1) c.2.2.2 d 78 (7, [some (.ref 0), some (.int x1), some (.int (-100)), none], [.int x_1], h) _
  refine gw_br (c := x_1 = 0) (a := (61, [some (.ref 0), some (.int x1), some (.int (-100)), none], [], h)) (b := (10, [some (.ref 0), some (.int x1), some (.int (-100)), none], [], h)) (hk _ _ rfl) rfl ⟨fun z2 => ?_, fun z2 => ?_⟩
  · replace w := w.1 z2
    refine gw_le (L' := [some (.ref 0), none, some (.int (-100)), none]) (gm_le_k _ (gm_le_n _ (gm_le_k _ (gm_le_k _ gm_le_nil)))) ?_
    exact ok78_61 c d Post _ _ w _ hR
  · replace w := w.2 z2
    refine gw_pst hk 1 (st' := (11, [some (.ref 0), some (.int x1), some (.int (-100)), none], [.ref 0], h)) rfl ?_
    refine gw_gf (hk _ _ rfl) (RL_fR (n := 1) hR rfl) ?_
    refine gw_call (jj := 28) (As := [.ref 1]) (rest := []) (hk _ _ rfl) (fun _ => rfl) rfl rfl (Nat.le_of_ble_eq_true rfl) rfl ?_
    refine ge_imp (w h hR) (fun v4 h w => ?_)
    obtain ⟨s_4, hR, x_4, rfl, w⟩ := w
    show gw (gt_T c.1 c.2.1 c.2.2.1) c.2.2.2 d 78 (17, [some (.ref 0), some (.int x1), some (.int (-100)), none], [.int x_4], h) _
    refine gw_pst hk 3 (st' := (20, [some (.ref 0), some (.int x1), some (.int (-100)), some (.int x_4)], [.int (-1), .int x_4], h)) rfl ?_
    refine gw_br (c := x_4 = (-1)) (a := (23, [some (.ref 0), some (.int x1), some (.int (-100)), some (.int x_4)], [], h)) (b := (42, [some (.ref 0), some (.int x1), some (.int (-100)), some (.int x_4)], [], h)) (hk _ _ rfl) rfl ⟨fun z5 => ?_, fun z5 => ?_⟩
    · replace w := w.1 z5
      refine gw_pst hk 2 (st' := (25, [some (.ref 0), some (.int x1), some (.int (-100)), some (.int x_4)], [.int x1, .ref 0], h)) rfl ?_
      obtain ⟨fs6, e6⟩ := RL_o hR (r := 0) (ci := 9) rfl
      refine gw_call (jj := 148) (As := [.ref 0, .int x1]) (rest := []) (hk _ _ rfl) (fun _ => rfl) rfl rfl (Nat.le_of_ble_eq_true rfl) (gm_rcv_v rfl e6 rfl) ?_
      refine ge_imp (w h hR) (fun v6 h w => ?_)
      obtain ⟨s_6, hR, q_6, rfl, w⟩ := w
      show gw (gt_T c.1 c.2.1 c.2.2.1) c.2.2.2 d 78 (28, [some (.ref 0), some (.int x1), some (.int (-100)), some (.int x_4)], [.ref q_6], h) _
      refine gw_pst hk 1 (st' := (29, [some (.ref 0), some (.int x1), some (.int (-100)), some (.int x_4)], [.ref 0, .ref q_6], h)) rfl ?_
      refine gw_gf (hk _ _ rfl) (RL_fR (n := 1) hR rfl) ?_
      refine gw_pst hk 1 (st' := (33, [some (.ref 0), some (.int x1), some (.int (-100)), some (.int x_4)], [.ref 0, .ref 1, .ref q_6], h)) rfl ?_
      refine gw_gf (hk _ _ rfl) (RL_fR (n := 14) hR rfl) ?_
      refine gw_gf (hk _ _ rfl) (RL_fI hR rfl) ?_
      obtain ⟨z10, w⟩ := w
      obtain ⟨fs10, e10⟩ := RL_o hR (r := q_6) (ci := 2) z10
      refine gw_call (jj := 29) (As := [.ref q_6, .ref 1, .int (gsV s_6 14 0)]) (rest := []) (hk _ _ rfl) (fun _ => rfl) rfl rfl (Nat.le_of_ble_eq_true rfl) (gm_rcv_v rfl e10 rfl) ?_
      refine ge_imp (w h hR) (fun v10 h w => ?_)
      obtain ⟨s_10, hR, rfl, w⟩ := w
      show gw (gt_T c.1 c.2.1 c.2.2.1) c.2.2.2 d 78 (42, [some (.ref 0), some (.int x1), some (.int (-100)), some (.int x_4)], [], h) _
      refine gw_le (L' := [some (.ref 0), none, none, some (.int x_4)]) (gm_le_k _ (gm_le_n _ (gm_le_n _ (gm_le_k _ gm_le_nil)))) ?_
      exact ok78_42 c d Post _ _ w _ hR
    · replace w := w.2 z5
      refine gw_le (L' := [some (.ref 0), none, none, some (.int x_4)]) (gm_le_k _ (gm_le_n _ (gm_le_n _ (gm_le_k _ gm_le_nil)))) ?_
      exact ok78_42 c d Post _ _ w _ hR
def w79_58 (c : gx) (d : Nat) (Post : Option Value → gs → Prop) (xs0 : Int32) (s : gs) : Prop :=
  Post (some (.int xs0)) s
theorem ok79_58 (c : gx) (d : Nat) (Post : Option Value → gs → Prop)  (xs0 : Int32) (s : gs) (w : w79_58 c d Post xs0 s) : tV c d 79 58 [none, none] [.int xs0] s Post := by
  intro h hR
  have hk : ∀ pc i, gm_find gk_79 pc = some i → gm_code (gt_T c.1 c.2.1 c.2.2.1) 79 pc = some i := fun _ _ z => z
  unfold w79_58 at w
  unfold gV
  exact gw_ret (hk _ _ rfl) rfl ⟨_, hR, w⟩
def w79_38 (c : gx) (d : Nat) (Post : Option Value → gs → Prop) (x1 : Int32) (s : gs) : Prop :=
  ∀ s_2 : gs, s_2 = gs_V s 1 1 0 → ((x1 = (-1) → w79_58 c d Post 0 s_2) ∧ (¬ (x1 = (-1)) → w79_58 c d Post ((-1) - x1) s_2))
theorem ok79_38 (c : gx) (d : Nat) (Post : Option Value → gs → Prop)  (x1 : Int32) (s : gs) (w : w79_38 c d Post x1 s) : tV c d 79 38 [some (.ref 0), some (.int x1)] [] s Post := by
  intro h hR
  have hk : ∀ pc i, gm_find gk_79 pc = some i → gm_code (gt_T c.1 c.2.1 c.2.2.1) 79 pc = some i := fun _ _ z => z
  unfold w79_38 at w
  unfold gV
  refine gw_pst hk 1 (st' := (39, [some (.ref 0), some (.int x1)], [.ref 0], h)) rfl ?_
  refine gw_gf (hk _ _ rfl) (RL_fR (n := 1) hR rfl) ?_
  refine gw_pst hk 1 (st' := (43, [some (.ref 0), some (.int x1)], [.int 0, .ref 1], h)) rfl ?_
  obtain ⟨fs2, e2⟩ := RL_o hR (r := 1) (ci := 7) rfl
  obtain ⟨l2, hR2⟩ := RL_pI (k := 1) (x := 0) hR rfl e2
  refine gw_pf (hk _ _ rfl) e2 l2 rfl ?_
  generalize gm_put h _ _ = h at hR2 ⊢
  obtain ⟨s_2, es2⟩ : ∃ z, z = gs_V s 1 1 0 := ⟨_, rfl⟩
  rw [← es2] at hR2
  replace w := w s_2 es2
  replace hR := hR2
  refine gw_pst hk 2 (st' := (48, [some (.ref 0), some (.int x1)], [.int (-1), .int x1], h)) rfl ?_
  refine gw_br (c := x1 = (-1)) (a := (51, [some (.ref 0), some (.int x1)], [], h)) (b := (55, [some (.ref 0), some (.int x1)], [], h)) (hk _ _ rfl) rfl ⟨fun z3 => ?_, fun z3 => ?_⟩
  · replace w := w.1 z3
    refine gw_pst hk 2 (st' := (58, [some (.ref 0), some (.int x1)], [.int 0], h)) rfl ?_
    refine gw_le (L' := [none, none]) (gm_le_n _ (gm_le_n _ gm_le_nil)) ?_
    exact ok79_58 c d Post _ _ w _ hR
  · replace w := w.2 z3
    refine gw_pst hk 3 (st' := (58, [some (.ref 0), some (.int x1)], [.int ((-1) - x1)], h)) rfl ?_
    refine gw_le (L' := [none, none]) (gm_le_n _ (gm_le_n _ gm_le_nil)) ?_
    exact ok79_58 c d Post _ _ w _ hR
def w79_21 (c : gx) (d : Nat) (Post : Option Value → gs → Prop) (xs0 : Int32) (s : gs) : Prop :=
  ((xs0 = (-1) → tE c d 4 [.ref 5, .ref 1] s (fun v4 s_4 => v4 = none ∧ w79_38 c d Post xs0 s_4)) ∧ (¬ (xs0 = (-1)) → w79_38 c d Post xs0 s))
theorem ok79_21 (c : gx) (d : Nat) (Post : Option Value → gs → Prop)  (xs0 : Int32) (s : gs) (w : w79_21 c d Post xs0 s) : tV c d 79 21 [some (.ref 0), none] [.int xs0] s Post := by
  intro h hR
  have hk : ∀ pc i, gm_find gk_79 pc = some i → gm_code (gt_T c.1 c.2.1 c.2.2.1) 79 pc = some i := fun _ _ z => z
  unfold w79_21 at w
  unfold gV
  refine gw_pst hk 3 (st' := (24, [some (.ref 0), some (.int xs0)], [.int (-1), .int xs0], h)) rfl ?_
  refine gw_br (c := xs0 = (-1)) (a := (27, [some (.ref 0), some (.int xs0)], [], h)) (b := (38, [some (.ref 0), some (.int xs0)], [], h)) (hk _ _ rfl) rfl ⟨fun z1 => ?_, fun z1 => ?_⟩
  · replace w := w.1 z1
    refine gw_pst hk 1 (st' := (28, [some (.ref 0), some (.int xs0)], [.ref 0], h)) rfl ?_
    refine gw_gf (hk _ _ rfl) (RL_fR (n := 5) hR rfl) ?_
    refine gw_pst hk 1 (st' := (32, [some (.ref 0), some (.int xs0)], [.ref 0, .ref 5], h)) rfl ?_
    refine gw_gf (hk _ _ rfl) (RL_fR (n := 1) hR rfl) ?_
    obtain ⟨fs4, e4⟩ := RL_o hR (r := 5) (ci := 0) rfl
    refine gw_call (jj := 4) (As := [.ref 5, .ref 1]) (rest := []) (hk _ _ rfl) (fun _ => rfl) rfl rfl (Nat.le_of_ble_eq_true rfl) (gm_rcv_v rfl e4 rfl) ?_
    refine ge_imp (w h hR) (fun v4 h w => ?_)
    obtain ⟨s_4, hR, rfl, w⟩ := w
    show gw (gt_T c.1 c.2.1 c.2.2.1) c.2.2.2 d 79 (38, [some (.ref 0), some (.int xs0)], [], h) _
    exact ok79_38 c d Post _ _ w _ hR
  · replace w := w.2 z1
    exact ok79_38 c d Post _ _ w _ hR
/-- CommandByTurns.rule()I -/
def wm79 (c : gx) (d : Nat) (Post : Option Value → gs → Prop)  (s : gs) : Prop :=
  (((gsV s 1 1) = 0 → w79_21 c d Post (-1) s) ∧ (¬ ((gsV s 1 1) = 0) → tE c d 1 [.ref 1] s (fun v5 s_5 => ∃ x_5 : Int32, v5 = some (.int x_5) ∧ w79_21 c d Post x_5 s_5)))
theorem okm79 (c : gx) (d : Nat) (Post : Option Value → gs → Prop)  (s : gs) (w : wm79 c d Post  s) : tE c (d + 1) 79 [.ref 0] s Post := by
  intro h hR
  have hk : ∀ pc i, gm_find gk_79 pc = some i → gm_code (gt_T c.1 c.2.1 c.2.2.1) 79 pc = some i := fun _ _ z => z
  unfold wm79 at w
  refine ge_of (by decide) (Nat.le_of_ble_eq_true rfl) ?_
  show gw (gt_T c.1 c.2.1 c.2.2.1) c.2.2.2 d 79 (0, [some (.ref 0), none], [], h) _
  refine gw_pst hk 1 (st' := (1, [some (.ref 0), none], [.ref 0], h)) rfl ?_
  refine gw_gf (hk _ _ rfl) (RL_fR (n := 1) hR rfl) ?_
  refine gw_gf (hk _ _ rfl) (RL_fI hR rfl) ?_
  refine gw_br (c := (gsV s 1 1) = 0) (a := (10, [some (.ref 0), none], [], h)) (b := (14, [some (.ref 0), none], [], h)) (hk _ _ rfl) rfl ⟨fun z3 => ?_, fun z3 => ?_⟩
  · replace w := w.1 z3
    refine gw_pst hk 2 (st' := (21, [some (.ref 0), none], [.int (-1)], h)) rfl ?_
    exact ok79_21 c d Post _ _ w _ hR
  · replace w := w.2 z3
    refine gw_pst hk 1 (st' := (15, [some (.ref 0), none], [.ref 0], h)) rfl ?_
    refine gw_gf (hk _ _ rfl) (RL_fR (n := 1) hR rfl) ?_
    refine gw_call (jj := 1) (As := [.ref 1]) (rest := []) (hk _ _ rfl) (fun _ => rfl) rfl rfl (Nat.le_of_ble_eq_true rfl) rfl ?_
    refine ge_imp (w h hR) (fun v5 h w => ?_)
    obtain ⟨s_5, hR, x_5, rfl, w⟩ := w
    show gw (gt_T c.1 c.2.1 c.2.2.1) c.2.2.2 d 79 (21, [some (.ref 0), none], [.int x_5], h) _
    exact ok79_21 c d Post _ _ w _ hR
def w80_89 (c : gx) (d : Nat) (Post : Option Value → gs → Prop) (xs0 : Int32) (s : gs) : Prop :=
  Post (some (.int xs0)) s
theorem ok80_89 (c : gx) (d : Nat) (Post : Option Value → gs → Prop)  (xs0 : Int32) (s : gs) (w : w80_89 c d Post xs0 s) : tV c d 80 89 [none, none, none] [.int xs0] s Post := by
  intro h hR
  have hk : ∀ pc i, gm_find gk_80 pc = some i → gm_code (gt_T c.1 c.2.1 c.2.2.1) 80 pc = some i := fun _ _ z => z
  unfold w80_89 at w
  unfold gV
  exact gw_ret (hk _ _ rfl) rfl ⟨_, hR, w⟩
def w80_106 (c : gx) (d : Nat) (Post : Option Value → gs → Prop) (xs0 : Int32) (s : gs) : Prop :=
  Post (some (.int xs0)) s
theorem ok80_106 (c : gx) (d : Nat) (Post : Option Value → gs → Prop)  (xs0 : Int32) (s : gs) (w : w80_106 c d Post xs0 s) : tV c d 80 106 [none, none, none] [.int xs0] s Post := by
  intro h hR
  have hk : ∀ pc i, gm_find gk_80 pc = some i → gm_code (gt_T c.1 c.2.1 c.2.2.1) 80 pc = some i := fun _ _ z => z
  unfold w80_106 at w
  unfold gV
  exact gw_ret (hk _ _ rfl) rfl ⟨_, hR, w⟩
/-- CommandByTurns.field(II)I -/
def wm80 (c : gx) (d : Nat) (Post : Option Value → gs → Prop) (x1 : Int32) (x2 : Int32) (s : gs) : Prop :=
  tE c d 14 [.ref 3, .int x1] s (fun v2 s_2 => ∃ x_2 : Int32, v2 = some (.int x_2) ∧ ((x_2 = 0 → False) ∧ (¬ (x_2 = 0) → ((x2 = 0 → tE c d 15 [.ref 3, .int x1] s_2 (fun v6 s_6 => ∃ x_6 : Int32, v6 = some (.int x_6) ∧ Post (some (.int x_6)) s_6)) ∧ (x2 = 1 → tE c d 18 [.ref 3, .int x1, .int (x1 + 1)] s_2 (fun v8 s_8 => ∃ x_8 : Int32, v8 = some (.int x_8) ∧ Post (some (.int x_8)) s_8)) ∧ (x2 = 2 → (((gsV s_2 14 1) = x1 → w80_89 c d Post 1 s_2) ∧ (¬ ((gsV s_2 14 1) = x1) → w80_89 c d Post 0 s_2))) ∧ (x2 = 3 → (((gsV s_2 14 2) = x1 → w80_106 c d Post 1 s_2) ∧ (¬ ((gsV s_2 14 2) = x1) → w80_106 c d Post 0 s_2))) ∧ ((x2 : Int32).toInt < 0 ∨ 3 < (x2 : Int32).toInt → False)))))
theorem okm80 (c : gx) (d : Nat) (Post : Option Value → gs → Prop) (x1 : Int32) (x2 : Int32) (s : gs) (w : wm80 c d Post x1 x2 s) : tE c (d + 1) 80 [.ref 0, .int x1, .int x2] s Post := by
  intro h hR
  have hk : ∀ pc i, gm_find gk_80 pc = some i → gm_code (gt_T c.1 c.2.1 c.2.2.1) 80 pc = some i := fun _ _ z => z
  unfold wm80 at w
  refine ge_of (by decide) (Nat.le_of_ble_eq_true rfl) ?_
  show gw (gt_T c.1 c.2.1 c.2.2.1) c.2.2.2 d 80 (0, [some (.ref 0), some (.int x1), some (.int x2)], [], h) _
  refine gw_pst hk 1 (st' := (1, [some (.ref 0), some (.int x1), some (.int x2)], [.ref 0], h)) rfl ?_
  refine gw_gf (hk _ _ rfl) (RL_fR (n := 3) hR rfl) ?_
  refine gw_pst hk 1 (st' := (5, [some (.ref 0), some (.int x1), some (.int x2)], [.int x1, .ref 3], h)) rfl ?_
  obtain ⟨fs2, e2⟩ := RL_o hR (r := 3) (ci := 1) rfl
  refine gw_call (jj := 14) (As := [.ref 3, .int x1]) (rest := []) (hk _ _ rfl) (fun _ => rfl) rfl rfl (Nat.le_of_ble_eq_true rfl) (gm_rcv_v rfl e2 rfl) ?_
  refine ge_imp (w h hR) (fun v2 h w => ?_)
  obtain ⟨s_2, hR, x_2, rfl, w⟩ := w
  show gw (gt_T c.1 c.2.1 c.2.2.1) c.2.2.2 d 80 (8, [some (.ref 0), some (.int x1), some (.int x2)], [.int x_2], h) _
  refine gw_br (c := x_2 = 0) (a := (11, [some (.ref 0), some (.int x1), some (.int x2)], [], h)) (b := (21, [some (.ref 0), some (.int x1), some (.int x2)], [], h)) (hk _ _ rfl) rfl ⟨fun z3 => ?_, fun z3 => ?_⟩
  · replace w := w.1 z3
    exact w.elim
  · replace w := w.2 z3
    refine gw_pst hk 1 (st' := (22, [some (.ref 0), some (.int x1), some (.int x2)], [.int x2], h)) rfl ?_
    by_cases z4_0 : x2 = 0
    · replace w := w.1 z4_0
      refine gw_swk (st' := (52, [some (.ref 0), some (.int x1), some (.int x2)], [], h)) (hk _ _ rfl) z4_0 rfl ?_
      refine gw_pst hk 1 (st' := (53, [some (.ref 0), some (.int x1), some (.int x2)], [.ref 0], h)) rfl ?_
      refine gw_gf (hk _ _ rfl) (RL_fR (n := 3) hR rfl) ?_
      refine gw_pst hk 1 (st' := (57, [some (.ref 0), some (.int x1), some (.int x2)], [.int x1, .ref 3], h)) rfl ?_
      obtain ⟨fs6, e6⟩ := RL_o hR (r := 3) (ci := 1) rfl
      refine gw_call (jj := 15) (As := [.ref 3, .int x1]) (rest := []) (hk _ _ rfl) (fun _ => rfl) rfl rfl (Nat.le_of_ble_eq_true rfl) (gm_rcv_v rfl e6 rfl) ?_
      refine ge_imp (w h hR) (fun v6 h w => ?_)
      obtain ⟨s_6, hR, x_6, rfl, w⟩ := w
      show gw (gt_T c.1 c.2.1 c.2.2.1) c.2.2.2 d 80 (60, [some (.ref 0), some (.int x1), some (.int x2)], [.int x_6], h) _
      exact gw_ret (hk _ _ rfl) rfl ⟨_, hR, w⟩
    by_cases z4_1 : x2 = 1
    · replace w := w.2.1 z4_1
      refine gw_swk (st' := (61, [some (.ref 0), some (.int x1), some (.int x2)], [], h)) (hk _ _ rfl) z4_1 rfl ?_
      refine gw_pst hk 1 (st' := (62, [some (.ref 0), some (.int x1), some (.int x2)], [.ref 0], h)) rfl ?_
      refine gw_gf (hk _ _ rfl) (RL_fR (n := 3) hR rfl) ?_
      refine gw_pst hk 4 (st' := (69, [some (.ref 0), some (.int x1), some (.int x2)], [.int (x1 + 1), .int x1, .ref 3], h)) rfl ?_
      obtain ⟨fs8, e8⟩ := RL_o hR (r := 3) (ci := 1) rfl
      refine gw_call (jj := 18) (As := [.ref 3, .int x1, .int (x1 + 1)]) (rest := []) (hk _ _ rfl) (fun _ => rfl) rfl rfl (Nat.le_of_ble_eq_true rfl) (gm_rcv_v rfl e8 rfl) ?_
      refine ge_imp (w h hR) (fun v8 h w => ?_)
      obtain ⟨s_8, hR, x_8, rfl, w⟩ := w
      show gw (gt_T c.1 c.2.1 c.2.2.1) c.2.2.2 d 80 (72, [some (.ref 0), some (.int x1), some (.int x2)], [.int x_8], h) _
      exact gw_ret (hk _ _ rfl) rfl ⟨_, hR, w⟩
    by_cases z4_2 : x2 = 2
    · replace w := w.2.2.1 z4_2
      refine gw_swk (st' := (73, [some (.ref 0), some (.int x1), some (.int x2)], [], h)) (hk _ _ rfl) z4_2 rfl ?_
      refine gw_pst hk 1 (st' := (74, [some (.ref 0), some (.int x1), some (.int x2)], [.ref 0], h)) rfl ?_
      refine gw_gf (hk _ _ rfl) (RL_fR (n := 14) hR rfl) ?_
      refine gw_gf (hk _ _ rfl) (RL_fI hR rfl) ?_
      refine gw_pst hk 1 (st' := (81, [some (.ref 0), some (.int x1), some (.int x2)], [.int x1, .int (gsV s_2 14 1)], h)) rfl ?_
      refine gw_br (c := (gsV s_2 14 1) = x1) (a := (84, [some (.ref 0), some (.int x1), some (.int x2)], [], h)) (b := (88, [some (.ref 0), some (.int x1), some (.int x2)], [], h)) (hk _ _ rfl) rfl ⟨fun z11 => ?_, fun z11 => ?_⟩
      · replace w := w.1 z11
        refine gw_pst hk 2 (st' := (89, [some (.ref 0), some (.int x1), some (.int x2)], [.int 1], h)) rfl ?_
        refine gw_le (L' := [none, none, none]) (gm_le_n _ (gm_le_n _ (gm_le_n _ gm_le_nil))) ?_
        exact ok80_89 c d Post _ _ w _ hR
      · replace w := w.2 z11
        refine gw_pst hk 1 (st' := (89, [some (.ref 0), some (.int x1), some (.int x2)], [.int 0], h)) rfl ?_
        refine gw_le (L' := [none, none, none]) (gm_le_n _ (gm_le_n _ (gm_le_n _ gm_le_nil))) ?_
        exact ok80_89 c d Post _ _ w _ hR
    by_cases z4_3 : x2 = 3
    · replace w := w.2.2.2.1 z4_3
      refine gw_swk (st' := (90, [some (.ref 0), some (.int x1), some (.int x2)], [], h)) (hk _ _ rfl) z4_3 rfl ?_
      refine gw_pst hk 1 (st' := (91, [some (.ref 0), some (.int x1), some (.int x2)], [.ref 0], h)) rfl ?_
      refine gw_gf (hk _ _ rfl) (RL_fR (n := 14) hR rfl) ?_
      refine gw_gf (hk _ _ rfl) (RL_fI hR rfl) ?_
      refine gw_pst hk 1 (st' := (98, [some (.ref 0), some (.int x1), some (.int x2)], [.int x1, .int (gsV s_2 14 2)], h)) rfl ?_
      refine gw_br (c := (gsV s_2 14 2) = x1) (a := (101, [some (.ref 0), some (.int x1), some (.int x2)], [], h)) (b := (105, [some (.ref 0), some (.int x1), some (.int x2)], [], h)) (hk _ _ rfl) rfl ⟨fun z14 => ?_, fun z14 => ?_⟩
      · replace w := w.1 z14
        refine gw_pst hk 2 (st' := (106, [some (.ref 0), some (.int x1), some (.int x2)], [.int 1], h)) rfl ?_
        refine gw_le (L' := [none, none, none]) (gm_le_n _ (gm_le_n _ (gm_le_n _ gm_le_nil))) ?_
        exact ok80_106 c d Post _ _ w _ hR
      · replace w := w.2 z14
        refine gw_pst hk 1 (st' := (106, [some (.ref 0), some (.int x1), some (.int x2)], [.int 0], h)) rfl ?_
        refine gw_le (L' := [none, none, none]) (gm_le_n _ (gm_le_n _ (gm_le_n _ gm_le_nil))) ?_
        exact ok80_106 c d Post _ _ w _ hR
    have zd4 : (x2 : Int32).toInt < 0 ∨ 3 < (x2 : Int32).toInt := by
      have y0 : (x2 : Int32).toInt ≠ 0 := fun z => z4_0 (Int32.toInt_inj.mp z)
      have y1 : (x2 : Int32).toInt ≠ 1 := fun z => z4_1 (Int32.toInt_inj.mp z)
      have y2 : (x2 : Int32).toInt ≠ 2 := fun z => z4_2 (Int32.toInt_inj.mp z)
      have y3 : (x2 : Int32).toInt ≠ 3 := fun z => z4_3 (Int32.toInt_inj.mp z)
      omega
    replace w := w.2.2.2.2 zd4
    refine gw_tsd (st' := (107, [some (.ref 0), some (.int x1), some (.int x2)], [], h)) (hk _ _ rfl) zd4 rfl ?_
    exact w.elim
/-- CommandByTurns.consul(II)I -/
def wm81 (c : gx) (d : Nat) (Post : Option Value → gs → Prop) (x1 : Int32) (x2 : Int32) (s : gs) : Prop :=
  tE c d 147 [.int x1] s (fun v1 s_1 => ∃ x_1 : Int32, v1 = some (.int x_1) ∧ ((x_1 = 0 → False) ∧ (¬ (x_1 = 0) → ((x2 = 0 → tE c d 148 [.ref 0, .int x1] s_1 (fun v4 s_4 => ∃ q_4 : Nat, v4 = some (.ref q_4) ∧ gs_isC q_4 2 = true ∧ Post (some (.int (gsV s_4 q_4 0))) s_4)) ∧ (x2 = 1 → tE c d 148 [.ref 0, .int x1] s_1 (fun v6 s_6 => ∃ q_6 : Nat, v6 = some (.ref q_6) ∧ gs_isC q_6 2 = true ∧ Post (some (.int (gsV s_6 q_6 1))) s_6)) ∧ (x2 = 2 → tE c d 148 [.ref 0, .int x1] s_1 (fun v8 s_8 => ∃ q_8 : Nat, v8 = some (.ref q_8) ∧ gs_isC q_8 2 = true ∧ tE c d 31 [.ref q_8] s_8 (fun v9 s_9 => ∃ x_9 : Int32, v9 = some (.int x_9) ∧ Post (some (.int x_9)) s_9))) ∧ (x2 = 3 → tE c d 49 [.ref 14, .int x1] s_1 (fun v11 s_11 => ∃ x_11 : Int32, v11 = some (.int x_11) ∧ Post (some (.int x_11)) s_11)) ∧ (x2 = 4 → tE c d 148 [.ref 0, .int x1] s_1 (fun v12 s_12 => ∃ q_12 : Nat, v12 = some (.ref q_12) ∧ gs_isC q_12 2 = true ∧ tE c d 30 [.ref q_12, .int (gsV s_12 14 0)] s_12 (fun v15 s_15 => ∃ x_15 : Int32, v15 = some (.int x_15) ∧ Post (some (.int x_15)) s_15))) ∧ ((x2 : Int32).toInt < 0 ∨ 4 < (x2 : Int32).toInt → False)))))
theorem okm81 (c : gx) (d : Nat) (Post : Option Value → gs → Prop) (x1 : Int32) (x2 : Int32) (s : gs) (w : wm81 c d Post x1 x2 s) : tE c (d + 1) 81 [.ref 0, .int x1, .int x2] s Post := by
  intro h hR
  have hk : ∀ pc i, gm_find gk_81 pc = some i → gm_code (gt_T c.1 c.2.1 c.2.2.1) 81 pc = some i := fun _ _ z => z
  unfold wm81 at w
  refine ge_of (by decide) (Nat.le_of_ble_eq_true rfl) ?_
  show gw (gt_T c.1 c.2.1 c.2.2.1) c.2.2.2 d 81 (0, [some (.ref 0), some (.int x1), some (.int x2)], [], h) _
  refine gw_pst hk 1 (st' := (1, [some (.ref 0), some (.int x1), some (.int x2)], [.int x1], h)) rfl ?_
  refine gw_call (jj := 147) (As := [.int x1]) (rest := []) (hk _ _ rfl) (fun _ => rfl) rfl rfl (Nat.le_of_ble_eq_true rfl) rfl ?_
  refine ge_imp (w h hR) (fun v1 h w => ?_)
  obtain ⟨s_1, hR, x_1, rfl, w⟩ := w
  show gw (gt_T c.1 c.2.1 c.2.2.1) c.2.2.2 d 81 (4, [some (.ref 0), some (.int x1), some (.int x2)], [.int x_1], h) _
  refine gw_br (c := x_1 = 0) (a := (7, [some (.ref 0), some (.int x1), some (.int x2)], [], h)) (b := (17, [some (.ref 0), some (.int x1), some (.int x2)], [], h)) (hk _ _ rfl) rfl ⟨fun z2 => ?_, fun z2 => ?_⟩
  · replace w := w.1 z2
    exact w.elim
  · replace w := w.2 z2
    refine gw_pst hk 1 (st' := (18, [some (.ref 0), some (.int x1), some (.int x2)], [.int x2], h)) rfl ?_
    by_cases z3_0 : x2 = 0
    · replace w := w.1 z3_0
      refine gw_swk (st' := (52, [some (.ref 0), some (.int x1), some (.int x2)], [], h)) (hk _ _ rfl) z3_0 rfl ?_
      refine gw_pst hk 2 (st' := (54, [some (.ref 0), some (.int x1), some (.int x2)], [.int x1, .ref 0], h)) rfl ?_
      obtain ⟨fs4, e4⟩ := RL_o hR (r := 0) (ci := 9) rfl
      refine gw_call (jj := 148) (As := [.ref 0, .int x1]) (rest := []) (hk _ _ rfl) (fun _ => rfl) rfl rfl (Nat.le_of_ble_eq_true rfl) (gm_rcv_v rfl e4 rfl) ?_
      refine ge_imp (w h hR) (fun v4 h w => ?_)
      obtain ⟨s_4, hR, q_4, rfl, w⟩ := w
      show gw (gt_T c.1 c.2.1 c.2.2.1) c.2.2.2 d 81 (57, [some (.ref 0), some (.int x1), some (.int x2)], [.ref q_4], h) _
      obtain ⟨z5, w⟩ := w
      refine gw_gf (hk _ _ rfl) (RL_fI hR (gs_ck_of z5 gs_ck_2_0)) ?_
      exact gw_ret (hk _ _ rfl) rfl ⟨_, hR, w⟩
    by_cases z3_1 : x2 = 1
    · replace w := w.2.1 z3_1
      refine gw_swk (st' := (61, [some (.ref 0), some (.int x1), some (.int x2)], [], h)) (hk _ _ rfl) z3_1 rfl ?_
      refine gw_pst hk 2 (st' := (63, [some (.ref 0), some (.int x1), some (.int x2)], [.int x1, .ref 0], h)) rfl ?_
      obtain ⟨fs6, e6⟩ := RL_o hR (r := 0) (ci := 9) rfl
      refine gw_call (jj := 148) (As := [.ref 0, .int x1]) (rest := []) (hk _ _ rfl) (fun _ => rfl) rfl rfl (Nat.le_of_ble_eq_true rfl) (gm_rcv_v rfl e6 rfl) ?_
      refine ge_imp (w h hR) (fun v6 h w => ?_)
      obtain ⟨s_6, hR, q_6, rfl, w⟩ := w
      show gw (gt_T c.1 c.2.1 c.2.2.1) c.2.2.2 d 81 (66, [some (.ref 0), some (.int x1), some (.int x2)], [.ref q_6], h) _
      obtain ⟨z7, w⟩ := w
      refine gw_gf (hk _ _ rfl) (RL_fI hR (gs_ck_of z7 gs_ck_2_1)) ?_
      exact gw_ret (hk _ _ rfl) rfl ⟨_, hR, w⟩
    by_cases z3_2 : x2 = 2
    · replace w := w.2.2.1 z3_2
      refine gw_swk (st' := (70, [some (.ref 0), some (.int x1), some (.int x2)], [], h)) (hk _ _ rfl) z3_2 rfl ?_
      refine gw_pst hk 2 (st' := (72, [some (.ref 0), some (.int x1), some (.int x2)], [.int x1, .ref 0], h)) rfl ?_
      obtain ⟨fs8, e8⟩ := RL_o hR (r := 0) (ci := 9) rfl
      refine gw_call (jj := 148) (As := [.ref 0, .int x1]) (rest := []) (hk _ _ rfl) (fun _ => rfl) rfl rfl (Nat.le_of_ble_eq_true rfl) (gm_rcv_v rfl e8 rfl) ?_
      refine ge_imp (w h hR) (fun v8 h w => ?_)
      obtain ⟨s_8, hR, q_8, rfl, w⟩ := w
      show gw (gt_T c.1 c.2.1 c.2.2.1) c.2.2.2 d 81 (75, [some (.ref 0), some (.int x1), some (.int x2)], [.ref q_8], h) _
      obtain ⟨z9, w⟩ := w
      obtain ⟨fs9, e9⟩ := RL_o hR (r := q_8) (ci := 2) z9
      refine gw_call (jj := 31) (As := [.ref q_8]) (rest := []) (hk _ _ rfl) (fun _ => rfl) rfl rfl (Nat.le_of_ble_eq_true rfl) (gm_rcv_v rfl e9 rfl) ?_
      refine ge_imp (w h hR) (fun v9 h w => ?_)
      obtain ⟨s_9, hR, x_9, rfl, w⟩ := w
      show gw (gt_T c.1 c.2.1 c.2.2.1) c.2.2.2 d 81 (78, [some (.ref 0), some (.int x1), some (.int x2)], [.int x_9], h) _
      exact gw_ret (hk _ _ rfl) rfl ⟨_, hR, w⟩
    by_cases z3_3 : x2 = 3
    · replace w := w.2.2.2.1 z3_3
      refine gw_swk (st' := (79, [some (.ref 0), some (.int x1), some (.int x2)], [], h)) (hk _ _ rfl) z3_3 rfl ?_
      refine gw_pst hk 1 (st' := (80, [some (.ref 0), some (.int x1), some (.int x2)], [.ref 0], h)) rfl ?_
      refine gw_gf (hk _ _ rfl) (RL_fR (n := 14) hR rfl) ?_
      refine gw_pst hk 1 (st' := (84, [some (.ref 0), some (.int x1), some (.int x2)], [.int x1, .ref 14], h)) rfl ?_
      obtain ⟨fs11, e11⟩ := RL_o hR (r := 14) (ci := 6) rfl
      refine gw_call (jj := 49) (As := [.ref 14, .int x1]) (rest := []) (hk _ _ rfl) (fun _ => rfl) rfl rfl (Nat.le_of_ble_eq_true rfl) (gm_rcv_v rfl e11 rfl) ?_
      refine ge_imp (w h hR) (fun v11 h w => ?_)
      obtain ⟨s_11, hR, x_11, rfl, w⟩ := w
      show gw (gt_T c.1 c.2.1 c.2.2.1) c.2.2.2 d 81 (87, [some (.ref 0), some (.int x1), some (.int x2)], [.int x_11], h) _
      exact gw_ret (hk _ _ rfl) rfl ⟨_, hR, w⟩
    by_cases z3_4 : x2 = 4
    · replace w := w.2.2.2.2.1 z3_4
      refine gw_swk (st' := (88, [some (.ref 0), some (.int x1), some (.int x2)], [], h)) (hk _ _ rfl) z3_4 rfl ?_
      refine gw_pst hk 2 (st' := (90, [some (.ref 0), some (.int x1), some (.int x2)], [.int x1, .ref 0], h)) rfl ?_
      obtain ⟨fs12, e12⟩ := RL_o hR (r := 0) (ci := 9) rfl
      refine gw_call (jj := 148) (As := [.ref 0, .int x1]) (rest := []) (hk _ _ rfl) (fun _ => rfl) rfl rfl (Nat.le_of_ble_eq_true rfl) (gm_rcv_v rfl e12 rfl) ?_
      refine ge_imp (w h hR) (fun v12 h w => ?_)
      obtain ⟨s_12, hR, q_12, rfl, w⟩ := w
      show gw (gt_T c.1 c.2.1 c.2.2.1) c.2.2.2 d 81 (93, [some (.ref 0), some (.int x1), some (.int x2)], [.ref q_12], h) _
      refine gw_pst hk 1 (st' := (94, [some (.ref 0), some (.int x1), some (.int x2)], [.ref 0, .ref q_12], h)) rfl ?_
      refine gw_gf (hk _ _ rfl) (RL_fR (n := 14) hR rfl) ?_
      refine gw_gf (hk _ _ rfl) (RL_fI hR rfl) ?_
      obtain ⟨z15, w⟩ := w
      obtain ⟨fs15, e15⟩ := RL_o hR (r := q_12) (ci := 2) z15
      refine gw_call (jj := 30) (As := [.ref q_12, .int (gsV s_12 14 0)]) (rest := []) (hk _ _ rfl) (fun _ => rfl) rfl rfl (Nat.le_of_ble_eq_true rfl) (gm_rcv_v rfl e15 rfl) ?_
      refine ge_imp (w h hR) (fun v15 h w => ?_)
      obtain ⟨s_15, hR, x_15, rfl, w⟩ := w
      show gw (gt_T c.1 c.2.1 c.2.2.1) c.2.2.2 d 81 (103, [some (.ref 0), some (.int x1), some (.int x2)], [.int x_15], h) _
      exact gw_ret (hk _ _ rfl) rfl ⟨_, hR, w⟩
    have zd3 : (x2 : Int32).toInt < 0 ∨ 4 < (x2 : Int32).toInt := by
      have y0 : (x2 : Int32).toInt ≠ 0 := fun z => z3_0 (Int32.toInt_inj.mp z)
      have y1 : (x2 : Int32).toInt ≠ 1 := fun z => z3_1 (Int32.toInt_inj.mp z)
      have y2 : (x2 : Int32).toInt ≠ 2 := fun z => z3_2 (Int32.toInt_inj.mp z)
      have y3 : (x2 : Int32).toInt ≠ 3 := fun z => z3_3 (Int32.toInt_inj.mp z)
      have y4 : (x2 : Int32).toInt ≠ 4 := fun z => z3_4 (Int32.toInt_inj.mp z)
      omega
    replace w := w.2.2.2.2.2 zd3
    refine gw_tsd (st' := (104, [some (.ref 0), some (.int x1), some (.int x2)], [], h)) (hk _ _ rfl) zd3 rfl ?_
    exact w.elim
def w82_26 (c : gx) (d : Nat) (Post : Option Value → gs → Prop)  (s : gs) : Prop :=
  Post (some (.int (-1))) s
theorem ok82_26 (c : gx) (d : Nat) (Post : Option Value → gs → Prop)   (s : gs) (w : w82_26 c d Post  s) : tV c d 82 26 [none, none, none, none, none, none] [] s Post := by
  intro h hR
  have hk : ∀ pc i, gm_find gk_82 pc = some i → gm_code (gt_T c.1 c.2.1 c.2.2.1) 82 pc = some i := fun _ _ z => z
  unfold w82_26 at w
  unfold gV
  refine gw_pst hk 1 (st' := (27, [none, none, none, none, none, none], [.int (-1)], h)) rfl ?_
  exact gw_ret (hk _ _ rfl) rfl ⟨_, hR, w⟩
def w82_73 (c : gx) (d : Nat) (Post : Option Value → gs → Prop) (x5 : Int32) (s : gs) : Prop :=
  Post (some (.int x5)) s
theorem ok82_73 (c : gx) (d : Nat) (Post : Option Value → gs → Prop)  (x5 : Int32) (s : gs) (w : w82_73 c d Post x5 s) : tV c d 82 73 [none, none, none, none, none, some (.int x5)] [] s Post := by
  intro h hR
  have hk : ∀ pc i, gm_find gk_82 pc = some i → gm_code (gt_T c.1 c.2.1 c.2.2.1) 82 pc = some i := fun _ _ z => z
  unfold w82_73 at w
  unfold gV
  refine gw_pst hk 1 (st' := (75, [none, none, none, none, none, some (.int x5)], [.int x5], h)) rfl ?_
  exact gw_ret (hk _ _ rfl) rfl ⟨_, hR, w⟩
def w82_52 (c : gx) (d : Nat) (Post : Option Value → gs → Prop) (x2 : Int32) (x3 : Int32) (r4 : Nat) (xs0 : Int32) (s : gs) : Prop :=
  ((x2 = 0 → gs_isC r4 2 = true ∧ ∀ s_2 : gs, s_2 = gs_V s r4 0 x3 → w82_73 c d Post xs0 s_2) ∧ (¬ (x2 = 0) → gs_isC r4 2 = true ∧ ∀ s_3 : gs, s_3 = gs_V s r4 1 x3 → w82_73 c d Post xs0 s_3))
theorem ok82_52 (c : gx) (d : Nat) (Post : Option Value → gs → Prop)  (x2 : Int32) (x3 : Int32) (r4 : Nat) (xs0 : Int32) (s : gs) (w : w82_52 c d Post x2 x3 r4 xs0 s) : tV c d 82 52 [none, none, some (.int x2), some (.int x3), some (.ref r4), none] [.int xs0] s Post := by
  intro h hR
  have hk : ∀ pc i, gm_find gk_82 pc = some i → gm_code (gt_T c.1 c.2.1 c.2.2.1) 82 pc = some i := fun _ _ z => z
  unfold w82_52 at w
  unfold gV
  refine gw_pst hk 2 (st' := (55, [none, none, some (.int x2), some (.int x3), some (.ref r4), some (.int xs0)], [.int x2], h)) rfl ?_
  refine gw_br (c := x2 = 0) (a := (58, [none, none, some (.int x2), some (.int x3), some (.ref r4), some (.int xs0)], [], h)) (b := (67, [none, none, some (.int x2), some (.int x3), some (.ref r4), some (.int xs0)], [], h)) (hk _ _ rfl) rfl ⟨fun z1 => ?_, fun z1 => ?_⟩
  · replace w := w.1 z1
    refine gw_pst hk 2 (st' := (61, [none, none, some (.int x2), some (.int x3), some (.ref r4), some (.int xs0)], [.int x3, .ref r4], h)) rfl ?_
    obtain ⟨z2, w⟩ := w
    obtain ⟨fs2, e2⟩ := RL_o hR (r := r4) (ci := 2) z2
    obtain ⟨l2, hR2⟩ := RL_pI (k := 0) (x := x3) hR (gs_ck_of z2 gs_ck_2_0) e2
    refine gw_pf (hk _ _ rfl) e2 l2 rfl ?_
    generalize gm_put h _ _ = h at hR2 ⊢
    obtain ⟨s_2, es2⟩ : ∃ z, z = gs_V s r4 0 x3 := ⟨_, rfl⟩
    rw [← es2] at hR2
    replace w := w s_2 es2
    replace hR := hR2
    refine gw_pst hk 1 (st' := (73, [none, none, some (.int x2), some (.int x3), some (.ref r4), some (.int xs0)], [], h)) rfl ?_
    refine gw_le (L' := [none, none, none, none, none, some (.int xs0)]) (gm_le_k _ (gm_le_k _ (gm_le_n _ (gm_le_n _ (gm_le_n _ (gm_le_k _ gm_le_nil)))))) ?_
    exact ok82_73 c d Post _ _ w _ hR
  · replace w := w.2 z1
    refine gw_pst hk 2 (st' := (70, [none, none, some (.int x2), some (.int x3), some (.ref r4), some (.int xs0)], [.int x3, .ref r4], h)) rfl ?_
    obtain ⟨z3, w⟩ := w
    obtain ⟨fs3, e3⟩ := RL_o hR (r := r4) (ci := 2) z3
    obtain ⟨l3, hR3⟩ := RL_pI (k := 1) (x := x3) hR (gs_ck_of z3 gs_ck_2_1) e3
    refine gw_pf (hk _ _ rfl) e3 l3 rfl ?_
    generalize gm_put h _ _ = h at hR3 ⊢
    obtain ⟨s_3, es3⟩ : ∃ z, z = gs_V s r4 1 x3 := ⟨_, rfl⟩
    rw [← es3] at hR3
    replace w := w s_3 es3
    replace hR := hR3
    refine gw_le (L' := [none, none, none, none, none, some (.int xs0)]) (gm_le_k _ (gm_le_k _ (gm_le_n _ (gm_le_n _ (gm_le_n _ (gm_le_k _ gm_le_nil)))))) ?_
    exact ok82_73 c d Post _ _ w _ hR
/-- CommandByTurns.set(III)I -/
def wm82 (c : gx) (d : Nat) (Post : Option Value → gs → Prop) (x1 : Int32) (x2 : Int32) (x3 : Int32) (s : gs) : Prop :=
  tE c d 147 [.int x1] s (fun v1 s_1 => ∃ x_1 : Int32, v1 = some (.int x_1) ∧ ((x_1 = 0 → w82_26 c d Post s_1) ∧ (¬ (x_1 = 0) → ((x2 < 0 → w82_26 c d Post s_1) ∧ (¬ (x2 < 0) → ((1 < x2 → w82_26 c d Post s_1) ∧ (¬ (1 < x2) → ((x3 < 0 → w82_26 c d Post s_1) ∧ (¬ (x3 < 0) → ((x3 ≤ 9 → tE c d 148 [.ref 0, .int x1] s_1 (fun v7 s_7 => ∃ q_7 : Nat, v7 = some (.ref q_7) ∧ ((x2 = 0 → gs_isC q_7 2 = true ∧ w82_52 c d Post x2 x3 q_7 (gsV s_7 q_7 0) s_7) ∧ (¬ (x2 = 0) → gs_isC q_7 2 = true ∧ w82_52 c d Post x2 x3 q_7 (gsV s_7 q_7 1) s_7)))) ∧ (¬ (x3 ≤ 9) → w82_26 c d Post s_1)))))))))))
theorem okm82 (c : gx) (d : Nat) (Post : Option Value → gs → Prop) (x1 : Int32) (x2 : Int32) (x3 : Int32) (s : gs) (w : wm82 c d Post x1 x2 x3 s) : tE c (d + 1) 82 [.ref 0, .int x1, .int x2, .int x3] s Post := by
  intro h hR
  have hk : ∀ pc i, gm_find gk_82 pc = some i → gm_code (gt_T c.1 c.2.1 c.2.2.1) 82 pc = some i := fun _ _ z => z
  unfold wm82 at w
  refine ge_of (by decide) (Nat.le_of_ble_eq_true rfl) ?_
  show gw (gt_T c.1 c.2.1 c.2.2.1) c.2.2.2 d 82 (0, [some (.ref 0), some (.int x1), some (.int x2), some (.int x3), none, none], [], h) _
  refine gw_pst hk 1 (st' := (1, [some (.ref 0), some (.int x1), some (.int x2), some (.int x3), none, none], [.int x1], h)) rfl ?_
  refine gw_call (jj := 147) (As := [.int x1]) (rest := []) (hk _ _ rfl) (fun _ => rfl) rfl rfl (Nat.le_of_ble_eq_true rfl) rfl ?_
  refine ge_imp (w h hR) (fun v1 h w => ?_)
  obtain ⟨s_1, hR, x_1, rfl, w⟩ := w
  show gw (gt_T c.1 c.2.1 c.2.2.1) c.2.2.2 d 82 (4, [some (.ref 0), some (.int x1), some (.int x2), some (.int x3), none, none], [.int x_1], h) _
  refine gw_br (c := x_1 = 0) (a := (26, [some (.ref 0), some (.int x1), some (.int x2), some (.int x3), none, none], [], h)) (b := (7, [some (.ref 0), some (.int x1), some (.int x2), some (.int x3), none, none], [], h)) (hk _ _ rfl) rfl ⟨fun z2 => ?_, fun z2 => ?_⟩
  · replace w := w.1 z2
    refine gw_le (L' := [none, none, none, none, none, none]) (gm_le_n _ (gm_le_n _ (gm_le_n _ (gm_le_n _ (gm_le_k _ (gm_le_k _ gm_le_nil)))))) ?_
    exact ok82_26 c d Post _ w _ hR
  · replace w := w.2 z2
    refine gw_pst hk 1 (st' := (8, [some (.ref 0), some (.int x1), some (.int x2), some (.int x3), none, none], [.int x2], h)) rfl ?_
    refine gw_br (c := x2 < 0) (a := (26, [some (.ref 0), some (.int x1), some (.int x2), some (.int x3), none, none], [], h)) (b := (11, [some (.ref 0), some (.int x1), some (.int x2), some (.int x3), none, none], [], h)) (hk _ _ rfl) rfl ⟨fun z3 => ?_, fun z3 => ?_⟩
    · replace w := w.1 z3
      refine gw_le (L' := [none, none, none, none, none, none]) (gm_le_n _ (gm_le_n _ (gm_le_n _ (gm_le_n _ (gm_le_k _ (gm_le_k _ gm_le_nil)))))) ?_
      exact ok82_26 c d Post _ w _ hR
    · replace w := w.2 z3
      refine gw_pst hk 2 (st' := (13, [some (.ref 0), some (.int x1), some (.int x2), some (.int x3), none, none], [.int 1, .int x2], h)) rfl ?_
      refine gw_br (c := 1 < x2) (a := (26, [some (.ref 0), some (.int x1), some (.int x2), some (.int x3), none, none], [], h)) (b := (16, [some (.ref 0), some (.int x1), some (.int x2), some (.int x3), none, none], [], h)) (hk _ _ rfl) rfl ⟨fun z4 => ?_, fun z4 => ?_⟩
      · replace w := w.1 z4
        refine gw_le (L' := [none, none, none, none, none, none]) (gm_le_n _ (gm_le_n _ (gm_le_n _ (gm_le_n _ (gm_le_k _ (gm_le_k _ gm_le_nil)))))) ?_
        exact ok82_26 c d Post _ w _ hR
      · replace w := w.2 z4
        refine gw_pst hk 1 (st' := (17, [some (.ref 0), some (.int x1), some (.int x2), some (.int x3), none, none], [.int x3], h)) rfl ?_
        refine gw_br (c := x3 < 0) (a := (26, [some (.ref 0), some (.int x1), some (.int x2), some (.int x3), none, none], [], h)) (b := (20, [some (.ref 0), some (.int x1), some (.int x2), some (.int x3), none, none], [], h)) (hk _ _ rfl) rfl ⟨fun z5 => ?_, fun z5 => ?_⟩
        · replace w := w.1 z5
          refine gw_le (L' := [none, none, none, none, none, none]) (gm_le_n _ (gm_le_n _ (gm_le_n _ (gm_le_n _ (gm_le_k _ (gm_le_k _ gm_le_nil)))))) ?_
          exact ok82_26 c d Post _ w _ hR
        · replace w := w.2 z5
          refine gw_pst hk 2 (st' := (23, [some (.ref 0), some (.int x1), some (.int x2), some (.int x3), none, none], [.int 9, .int x3], h)) rfl ?_
          refine gw_br (c := x3 ≤ 9) (a := (28, [some (.ref 0), some (.int x1), some (.int x2), some (.int x3), none, none], [], h)) (b := (26, [some (.ref 0), some (.int x1), some (.int x2), some (.int x3), none, none], [], h)) (hk _ _ rfl) rfl ⟨fun z6 => ?_, fun z6 => ?_⟩
          · replace w := w.1 z6
            refine gw_pst hk 2 (st' := (30, [some (.ref 0), some (.int x1), some (.int x2), some (.int x3), none, none], [.int x1, .ref 0], h)) rfl ?_
            obtain ⟨fs7, e7⟩ := RL_o hR (r := 0) (ci := 9) rfl
            refine gw_call (jj := 148) (As := [.ref 0, .int x1]) (rest := []) (hk _ _ rfl) (fun _ => rfl) rfl rfl (Nat.le_of_ble_eq_true rfl) (gm_rcv_v rfl e7 rfl) ?_
            refine ge_imp (w h hR) (fun v7 h w => ?_)
            obtain ⟨s_7, hR, q_7, rfl, w⟩ := w
            show gw (gt_T c.1 c.2.1 c.2.2.1) c.2.2.2 d 82 (33, [some (.ref 0), some (.int x1), some (.int x2), some (.int x3), none, none], [.ref q_7], h) _
            refine gw_pst hk 2 (st' := (36, [some (.ref 0), some (.int x1), some (.int x2), some (.int x3), some (.ref q_7), none], [.int x2], h)) rfl ?_
            refine gw_br (c := x2 = 0) (a := (39, [some (.ref 0), some (.int x1), some (.int x2), some (.int x3), some (.ref q_7), none], [], h)) (b := (47, [some (.ref 0), some (.int x1), some (.int x2), some (.int x3), some (.ref q_7), none], [], h)) (hk _ _ rfl) rfl ⟨fun z8 => ?_, fun z8 => ?_⟩
            · replace w := w.1 z8
              refine gw_pst hk 1 (st' := (41, [some (.ref 0), some (.int x1), some (.int x2), some (.int x3), some (.ref q_7), none], [.ref q_7], h)) rfl ?_
              obtain ⟨z9, w⟩ := w
              refine gw_gf (hk _ _ rfl) (RL_fI hR (gs_ck_of z9 gs_ck_2_0)) ?_
              refine gw_pst hk 1 (st' := (52, [some (.ref 0), some (.int x1), some (.int x2), some (.int x3), some (.ref q_7), none], [.int (gsV s_7 q_7 0)], h)) rfl ?_
              refine gw_le (L' := [none, none, some (.int x2), some (.int x3), some (.ref q_7), none]) (gm_le_n _ (gm_le_n _ (gm_le_k _ (gm_le_k _ (gm_le_k _ (gm_le_k _ gm_le_nil)))))) ?_
              exact ok82_52 c d Post _ _ _ _ _ w _ hR
            · replace w := w.2 z8
              refine gw_pst hk 1 (st' := (49, [some (.ref 0), some (.int x1), some (.int x2), some (.int x3), some (.ref q_7), none], [.ref q_7], h)) rfl ?_
              obtain ⟨z10, w⟩ := w
              refine gw_gf (hk _ _ rfl) (RL_fI hR (gs_ck_of z10 gs_ck_2_1)) ?_
              refine gw_le (L' := [none, none, some (.int x2), some (.int x3), some (.ref q_7), none]) (gm_le_n _ (gm_le_n _ (gm_le_k _ (gm_le_k _ (gm_le_k _ (gm_le_k _ gm_le_nil)))))) ?_
              exact ok82_52 c d Post _ _ _ _ _ w _ hR
          · replace w := w.2 z6
            refine gw_le (L' := [none, none, none, none, none, none]) (gm_le_n _ (gm_le_n _ (gm_le_n _ (gm_le_n _ (gm_le_k _ (gm_le_k _ gm_le_nil)))))) ?_
            exact ok82_26 c d Post _ w _ hR
def w83_15 (c : gx) (d : Nat) (Post : Option Value → gs → Prop)  (s : gs) : Prop :=
  Post (some (.int (-1))) s
theorem ok83_15 (c : gx) (d : Nat) (Post : Option Value → gs → Prop)   (s : gs) (w : w83_15 c d Post  s) : tV c d 83 15 [none, none, none, none, none] [] s Post := by
  intro h hR
  have hk : ∀ pc i, gm_find gk_83 pc = some i → gm_code (gt_T c.1 c.2.1 c.2.2.1) 83 pc = some i := fun _ _ z => z
  unfold w83_15 at w
  unfold gV
  refine gw_pst hk 1 (st' := (16, [none, none, none, none, none], [.int (-1)], h)) rfl ?_
  exact gw_ret (hk _ _ rfl) rfl ⟨_, hR, w⟩
def w83_59 (c : gx) (d : Nat) (Post : Option Value → gs → Prop) (xs0 : Int32) (s : gs) : Prop :=
  Post (some (.int xs0)) s
theorem ok83_59 (c : gx) (d : Nat) (Post : Option Value → gs → Prop)  (xs0 : Int32) (s : gs) (w : w83_59 c d Post xs0 s) : tV c d 83 59 [none, none, none, none, none] [.int xs0] s Post := by
  intro h hR
  have hk : ∀ pc i, gm_find gk_83 pc = some i → gm_code (gt_T c.1 c.2.1 c.2.2.1) 83 pc = some i := fun _ _ z => z
  unfold w83_59 at w
  unfold gV
  exact gw_ret (hk _ _ rfl) rfl ⟨_, hR, w⟩
/-- CommandByTurns.sheet(IIII)I -/
def wm83 (c : gx) (d : Nat) (Post : Option Value → gs → Prop) (x1 : Int32) (x2 : Int32) (x3 : Int32) (x4 : Int32) (s : gs) : Prop :=
  ((x1 < 0 → w83_15 c d Post s) ∧ (¬ (x1 < 0) → ((3 < x1 → w83_15 c d Post s) ∧ (¬ (3 < x1) → ((x2 ≤ 12 → ((x1 = 3 → tE c d 25 [.ref 3, .int x1, .int 0, .int x3, .int x4] s (fun v6 s_6 => ∃ x_6 : Int32, v6 = some (.int x_6) ∧ Post (some (.int (-3))) s_6)) ∧ (¬ (x1 = 3) → ((0 ≤ x2 → tE c d 25 [.ref 3, .int x1, .int x2, .int x3, .int x4] s (fun v9 s_9 => ∃ x_9 : Int32, v9 = some (.int x_9) ∧ w83_59 c d Post x_9 s_9)) ∧ (¬ (0 ≤ x2) → w83_59 c d Post (-2) s))))) ∧ (¬ (x2 ≤ 12) → w83_15 c d Post s))))))
theorem okm83 (c : gx) (d : Nat) (Post : Option Value → gs → Prop) (x1 : Int32) (x2 : Int32) (x3 : Int32) (x4 : Int32) (s : gs) (w : wm83 c d Post x1 x2 x3 x4 s) : tE c (d + 1) 83 [.ref 0, .int x1, .int x2, .int x3, .int x4] s Post := by
  intro h hR
  have hk : ∀ pc i, gm_find gk_83 pc = some i → gm_code (gt_T c.1 c.2.1 c.2.2.1) 83 pc = some i := fun _ _ z => z
  unfold wm83 at w
  refine ge_of (by decide) (Nat.le_of_ble_eq_true rfl) ?_
  show gw (gt_T c.1 c.2.1 c.2.2.1) c.2.2.2 d 83 (0, [some (.ref 0), some (.int x1), some (.int x2), some (.int x3), some (.int x4)], [], h) _
  refine gw_pst hk 1 (st' := (1, [some (.ref 0), some (.int x1), some (.int x2), some (.int x3), some (.int x4)], [.int x1], h)) rfl ?_
  refine gw_br (c := x1 < 0) (a := (15, [some (.ref 0), some (.int x1), some (.int x2), some (.int x3), some (.int x4)], [], h)) (b := (4, [some (.ref 0), some (.int x1), some (.int x2), some (.int x3), some (.int x4)], [], h)) (hk _ _ rfl) rfl ⟨fun z1 => ?_, fun z1 => ?_⟩
  · replace w := w.1 z1
    refine gw_le (L' := [none, none, none, none, none]) (gm_le_n _ (gm_le_n _ (gm_le_n _ (gm_le_n _ (gm_le_n _ gm_le_nil))))) ?_
    exact ok83_15 c d Post _ w _ hR
  · replace w := w.2 z1
    refine gw_pst hk 2 (st' := (6, [some (.ref 0), some (.int x1), some (.int x2), some (.int x3), some (.int x4)], [.int 3, .int x1], h)) rfl ?_
    refine gw_br (c := 3 < x1) (a := (15, [some (.ref 0), some (.int x1), some (.int x2), some (.int x3), some (.int x4)], [], h)) (b := (9, [some (.ref 0), some (.int x1), some (.int x2), some (.int x3), some (.int x4)], [], h)) (hk _ _ rfl) rfl ⟨fun z2 => ?_, fun z2 => ?_⟩
    · replace w := w.1 z2
      refine gw_le (L' := [none, none, none, none, none]) (gm_le_n _ (gm_le_n _ (gm_le_n _ (gm_le_n _ (gm_le_n _ gm_le_nil))))) ?_
      exact ok83_15 c d Post _ w _ hR
    · replace w := w.2 z2
      refine gw_pst hk 2 (st' := (12, [some (.ref 0), some (.int x1), some (.int x2), some (.int x3), some (.int x4)], [.int 12, .int x2], h)) rfl ?_
      refine gw_br (c := x2 ≤ 12) (a := (17, [some (.ref 0), some (.int x1), some (.int x2), some (.int x3), some (.int x4)], [], h)) (b := (15, [some (.ref 0), some (.int x1), some (.int x2), some (.int x3), some (.int x4)], [], h)) (hk _ _ rfl) rfl ⟨fun z3 => ?_, fun z3 => ?_⟩
      · replace w := w.1 z3
        refine gw_pst hk 2 (st' := (19, [some (.ref 0), some (.int x1), some (.int x2), some (.int x3), some (.int x4)], [.int 3, .int x1], h)) rfl ?_
        refine gw_br (c := x1 = 3) (a := (22, [some (.ref 0), some (.int x1), some (.int x2), some (.int x3), some (.int x4)], [], h)) (b := (38, [some (.ref 0), some (.int x1), some (.int x2), some (.int x3), some (.int x4)], [], h)) (hk _ _ rfl) rfl ⟨fun z4 => ?_, fun z4 => ?_⟩
        · replace w := w.1 z4
          refine gw_pst hk 1 (st' := (23, [some (.ref 0), some (.int x1), some (.int x2), some (.int x3), some (.int x4)], [.ref 0], h)) rfl ?_
          refine gw_gf (hk _ _ rfl) (RL_fR (n := 3) hR rfl) ?_
          refine gw_pst hk 4 (st' := (31, [some (.ref 0), some (.int x1), some (.int x2), some (.int x3), some (.int x4)], [.int x4, .int x3, .int 0, .int x1, .ref 3], h)) rfl ?_
          obtain ⟨fs6, e6⟩ := RL_o hR (r := 3) (ci := 1) rfl
          refine gw_call (jj := 25) (As := [.ref 3, .int x1, .int 0, .int x3, .int x4]) (rest := []) (hk _ _ rfl) (fun _ => rfl) rfl rfl (Nat.le_of_ble_eq_true rfl) (gm_rcv_v rfl e6 rfl) ?_
          refine ge_imp (w h hR) (fun v6 h w => ?_)
          obtain ⟨s_6, hR, x_6, rfl, w⟩ := w
          show gw (gt_T c.1 c.2.1 c.2.2.1) c.2.2.2 d 83 (34, [some (.ref 0), some (.int x1), some (.int x2), some (.int x3), some (.int x4)], [.int x_6], h) _
          refine gw_pst hk 2 (st' := (37, [some (.ref 0), some (.int x1), some (.int x2), some (.int x3), some (.int x4)], [.int (-3)], h)) rfl ?_
          exact gw_ret (hk _ _ rfl) rfl ⟨_, hR, w⟩
        · replace w := w.2 z4
          refine gw_pst hk 1 (st' := (39, [some (.ref 0), some (.int x1), some (.int x2), some (.int x3), some (.int x4)], [.int x2], h)) rfl ?_
          refine gw_br (c := 0 ≤ x2) (a := (47, [some (.ref 0), some (.int x1), some (.int x2), some (.int x3), some (.int x4)], [], h)) (b := (42, [some (.ref 0), some (.int x1), some (.int x2), some (.int x3), some (.int x4)], [], h)) (hk _ _ rfl) rfl ⟨fun z7 => ?_, fun z7 => ?_⟩
          · replace w := w.1 z7
            refine gw_pst hk 1 (st' := (48, [some (.ref 0), some (.int x1), some (.int x2), some (.int x3), some (.int x4)], [.ref 0], h)) rfl ?_
            refine gw_gf (hk _ _ rfl) (RL_fR (n := 3) hR rfl) ?_
            refine gw_pst hk 4 (st' := (56, [some (.ref 0), some (.int x1), some (.int x2), some (.int x3), some (.int x4)], [.int x4, .int x3, .int x2, .int x1, .ref 3], h)) rfl ?_
            obtain ⟨fs9, e9⟩ := RL_o hR (r := 3) (ci := 1) rfl
            refine gw_call (jj := 25) (As := [.ref 3, .int x1, .int x2, .int x3, .int x4]) (rest := []) (hk _ _ rfl) (fun _ => rfl) rfl rfl (Nat.le_of_ble_eq_true rfl) (gm_rcv_v rfl e9 rfl) ?_
            refine ge_imp (w h hR) (fun v9 h w => ?_)
            obtain ⟨s_9, hR, x_9, rfl, w⟩ := w
            show gw (gt_T c.1 c.2.1 c.2.2.1) c.2.2.2 d 83 (59, [some (.ref 0), some (.int x1), some (.int x2), some (.int x3), some (.int x4)], [.int x_9], h) _
            refine gw_le (L' := [none, none, none, none, none]) (gm_le_n _ (gm_le_n _ (gm_le_n _ (gm_le_n _ (gm_le_n _ gm_le_nil))))) ?_
            exact ok83_59 c d Post _ _ w _ hR
          · replace w := w.2 z7
            refine gw_pst hk 2 (st' := (59, [some (.ref 0), some (.int x1), some (.int x2), some (.int x3), some (.int x4)], [.int (-2)], h)) rfl ?_
            refine gw_le (L' := [none, none, none, none, none]) (gm_le_n _ (gm_le_n _ (gm_le_n _ (gm_le_n _ (gm_le_n _ gm_le_nil))))) ?_
            exact ok83_59 c d Post _ _ w _ hR
      · replace w := w.2 z3
        refine gw_le (L' := [none, none, none, none, none]) (gm_le_n _ (gm_le_n _ (gm_le_n _ (gm_le_n _ (gm_le_n _ gm_le_nil))))) ?_
        exact ok83_15 c d Post _ w _ hR
/-- CommandByTurns.whose()I -/
def wm84 (c : gx) (d : Nat) (Post : Option Value → gs → Prop)  (s : gs) : Prop :=
  tE c d 51 [.ref 14, .int (gsV s 14 0)] s (fun v4 s_4 => ∃ x_4 : Int32, v4 = some (.int x_4) ∧ Post (some (.int x_4)) s_4)
theorem okm84 (c : gx) (d : Nat) (Post : Option Value → gs → Prop)  (s : gs) (w : wm84 c d Post  s) : tE c (d + 1) 84 [.ref 0] s Post := by
  intro h hR
  have hk : ∀ pc i, gm_find gk_84 pc = some i → gm_code (gt_T c.1 c.2.1 c.2.2.1) 84 pc = some i := fun _ _ z => z
  unfold wm84 at w
  refine ge_of (by decide) (Nat.le_of_ble_eq_true rfl) ?_
  show gw (gt_T c.1 c.2.1 c.2.2.1) c.2.2.2 d 84 (0, [some (.ref 0)], [], h) _
  refine gw_pst hk 1 (st' := (1, [some (.ref 0)], [.ref 0], h)) rfl ?_
  refine gw_gf (hk _ _ rfl) (RL_fR (n := 14) hR rfl) ?_
  refine gw_pst hk 1 (st' := (5, [some (.ref 0)], [.ref 0, .ref 14], h)) rfl ?_
  refine gw_gf (hk _ _ rfl) (RL_fR (n := 14) hR rfl) ?_
  refine gw_gf (hk _ _ rfl) (RL_fI hR rfl) ?_
  obtain ⟨fs4, e4⟩ := RL_o hR (r := 14) (ci := 6) rfl
  refine gw_call (jj := 51) (As := [.ref 14, .int (gsV s 14 0)]) (rest := []) (hk _ _ rfl) (fun _ => rfl) rfl rfl (Nat.le_of_ble_eq_true rfl) (gm_rcv_v rfl e4 rfl) ?_
  refine ge_imp (w h hR) (fun v4 h w => ?_)
  obtain ⟨s_4, hR, x_4, rfl, w⟩ := w
  show gw (gt_T c.1 c.2.1 c.2.2.1) c.2.2.2 d 84 (14, [some (.ref 0)], [.int x_4], h) _
  exact gw_ret (hk _ _ rfl) rfl ⟨_, hR, w⟩
/-- CommandByTurns.march(I)I -/
def wm85 (c : gx) (d : Nat) (Post : Option Value → gs → Prop) (x1 : Int32) (s : gs) : Prop :=
  tE c d 48 [.ref 15, .ref 14] s (fun v3 s_3 => v3 = none ∧ tE c d 95 [.ref 0, .int x1] s_3 (fun v4 s_4 => ∃ x_4 : Int32, v4 = some (.int x_4) ∧ tE c d 94 [.ref 0, .int x_4] s_4 (fun v5 s_5 => ∃ x_5 : Int32, v5 = some (.int x_5) ∧ Post (some (.int x_5)) s_5)))
theorem okm85 (c : gx) (d : Nat) (Post : Option Value → gs → Prop) (x1 : Int32) (s : gs) (w : wm85 c d Post x1 s) : tE c (d + 1) 85 [.ref 0, .int x1] s Post := by
  intro h hR
  have hk : ∀ pc i, gm_find gk_85 pc = some i → gm_code (gt_T c.1 c.2.1 c.2.2.1) 85 pc = some i := fun _ _ z => z
  unfold wm85 at w
  refine ge_of (by decide) (Nat.le_of_ble_eq_true rfl) ?_
  show gw (gt_T c.1 c.2.1 c.2.2.1) c.2.2.2 d 85 (0, [some (.ref 0), some (.int x1)], [], h) _
  refine gw_pst hk 1 (st' := (1, [some (.ref 0), some (.int x1)], [.ref 0], h)) rfl ?_
  refine gw_gf (hk _ _ rfl) (RL_fR (n := 15) hR rfl) ?_
  refine gw_pst hk 1 (st' := (5, [some (.ref 0), some (.int x1)], [.ref 0, .ref 15], h)) rfl ?_
  refine gw_gf (hk _ _ rfl) (RL_fR (n := 14) hR rfl) ?_
  obtain ⟨fs3, e3⟩ := RL_o hR (r := 15) (ci := 6) rfl
  refine gw_call (jj := 48) (As := [.ref 15, .ref 14]) (rest := []) (hk _ _ rfl) (fun _ => rfl) rfl rfl (Nat.le_of_ble_eq_true rfl) (gm_rcv_v rfl e3 rfl) ?_
  refine ge_imp (w h hR) (fun v3 h w => ?_)
  obtain ⟨s_3, hR, rfl, w⟩ := w
  show gw (gt_T c.1 c.2.1 c.2.2.1) c.2.2.2 d 85 (11, [some (.ref 0), some (.int x1)], [], h) _
  refine gw_pst hk 3 (st' := (14, [some (.ref 0), some (.int x1)], [.int x1, .ref 0, .ref 0], h)) rfl ?_
  obtain ⟨fs4, e4⟩ := RL_o hR (r := 0) (ci := 9) rfl
  refine gw_call (jj := 95) (As := [.ref 0, .int x1]) (rest := [.ref 0]) (hk _ _ rfl) (fun _ => rfl) rfl rfl (Nat.le_of_ble_eq_true rfl) (gm_rcv_v rfl e4 rfl) ?_
  refine ge_imp (w h hR) (fun v4 h w => ?_)
  obtain ⟨s_4, hR, x_4, rfl, w⟩ := w
  show gw (gt_T c.1 c.2.1 c.2.2.1) c.2.2.2 d 85 (17, [some (.ref 0), some (.int x1)], [.int x_4, .ref 0], h) _
  obtain ⟨fs5, e5⟩ := RL_o hR (r := 0) (ci := 9) rfl
  refine gw_call (jj := 94) (As := [.ref 0, .int x_4]) (rest := []) (hk _ _ rfl) (fun _ => rfl) rfl rfl (Nat.le_of_ble_eq_true rfl) (gm_rcv_v rfl e5 rfl) ?_
  refine ge_imp (w h hR) (fun v5 h w => ?_)
  obtain ⟨s_5, hR, x_5, rfl, w⟩ := w
  show gw (gt_T c.1 c.2.1 c.2.2.1) c.2.2.2 d 85 (20, [some (.ref 0), some (.int x1)], [.int x_5], h) _
  exact gw_ret (hk _ _ rfl) rfl ⟨_, hR, w⟩
/-- CommandByTurns.halt()I -/
def wm86 (c : gx) (d : Nat) (Post : Option Value → gs → Prop)  (s : gs) : Prop :=
  tE c d 48 [.ref 15, .ref 14] s (fun v3 s_3 => v3 = none ∧ tE c d 96 [.ref 0] s_3 (fun v4 s_4 => ∃ x_4 : Int32, v4 = some (.int x_4) ∧ tE c d 94 [.ref 0, .int x_4] s_4 (fun v5 s_5 => ∃ x_5 : Int32, v5 = some (.int x_5) ∧ Post (some (.int x_5)) s_5)))
theorem okm86 (c : gx) (d : Nat) (Post : Option Value → gs → Prop)  (s : gs) (w : wm86 c d Post  s) : tE c (d + 1) 86 [.ref 0] s Post := by
  intro h hR
  have hk : ∀ pc i, gm_find gk_86 pc = some i → gm_code (gt_T c.1 c.2.1 c.2.2.1) 86 pc = some i := fun _ _ z => z
  unfold wm86 at w
  refine ge_of (by decide) (Nat.le_of_ble_eq_true rfl) ?_
  show gw (gt_T c.1 c.2.1 c.2.2.1) c.2.2.2 d 86 (0, [some (.ref 0)], [], h) _
  refine gw_pst hk 1 (st' := (1, [some (.ref 0)], [.ref 0], h)) rfl ?_
  refine gw_gf (hk _ _ rfl) (RL_fR (n := 15) hR rfl) ?_
  refine gw_pst hk 1 (st' := (5, [some (.ref 0)], [.ref 0, .ref 15], h)) rfl ?_
  refine gw_gf (hk _ _ rfl) (RL_fR (n := 14) hR rfl) ?_
  obtain ⟨fs3, e3⟩ := RL_o hR (r := 15) (ci := 6) rfl
  refine gw_call (jj := 48) (As := [.ref 15, .ref 14]) (rest := []) (hk _ _ rfl) (fun _ => rfl) rfl rfl (Nat.le_of_ble_eq_true rfl) (gm_rcv_v rfl e3 rfl) ?_
  refine ge_imp (w h hR) (fun v3 h w => ?_)
  obtain ⟨s_3, hR, rfl, w⟩ := w
  show gw (gt_T c.1 c.2.1 c.2.2.1) c.2.2.2 d 86 (11, [some (.ref 0)], [], h) _
  refine gw_pst hk 2 (st' := (13, [some (.ref 0)], [.ref 0, .ref 0], h)) rfl ?_
  obtain ⟨fs4, e4⟩ := RL_o hR (r := 0) (ci := 9) rfl
  refine gw_call (jj := 96) (As := [.ref 0]) (rest := [.ref 0]) (hk _ _ rfl) (fun _ => rfl) rfl rfl (Nat.le_of_ble_eq_true rfl) (gm_rcv_v rfl e4 rfl) ?_
  refine ge_imp (w h hR) (fun v4 h w => ?_)
  obtain ⟨s_4, hR, x_4, rfl, w⟩ := w
  show gw (gt_T c.1 c.2.1 c.2.2.1) c.2.2.2 d 86 (16, [some (.ref 0)], [.int x_4, .ref 0], h) _
  obtain ⟨fs5, e5⟩ := RL_o hR (r := 0) (ci := 9) rfl
  refine gw_call (jj := 94) (As := [.ref 0, .int x_4]) (rest := []) (hk _ _ rfl) (fun _ => rfl) rfl rfl (Nat.le_of_ble_eq_true rfl) (gm_rcv_v rfl e5 rfl) ?_
  refine ge_imp (w h hR) (fun v5 h w => ?_)
  obtain ⟨s_5, hR, x_5, rfl, w⟩ := w
  show gw (gt_T c.1 c.2.1 c.2.2.1) c.2.2.2 d 86 (19, [some (.ref 0)], [.int x_5], h) _
  exact gw_ret (hk _ _ rfl) rfl ⟨_, hR, w⟩
/-- CommandByTurns.fight()I -/
def wm87 (c : gx) (d : Nat) (Post : Option Value → gs → Prop)  (s : gs) : Prop :=
  tE c d 48 [.ref 15, .ref 14] s (fun v3 s_3 => v3 = none ∧ tE c d 97 [.ref 0] s_3 (fun v4 s_4 => ∃ x_4 : Int32, v4 = some (.int x_4) ∧ tE c d 94 [.ref 0, .int x_4] s_4 (fun v5 s_5 => ∃ x_5 : Int32, v5 = some (.int x_5) ∧ Post (some (.int x_5)) s_5)))
theorem okm87 (c : gx) (d : Nat) (Post : Option Value → gs → Prop)  (s : gs) (w : wm87 c d Post  s) : tE c (d + 1) 87 [.ref 0] s Post := by
  intro h hR
  have hk : ∀ pc i, gm_find gk_87 pc = some i → gm_code (gt_T c.1 c.2.1 c.2.2.1) 87 pc = some i := fun _ _ z => z
  unfold wm87 at w
  refine ge_of (by decide) (Nat.le_of_ble_eq_true rfl) ?_
  show gw (gt_T c.1 c.2.1 c.2.2.1) c.2.2.2 d 87 (0, [some (.ref 0)], [], h) _
  refine gw_pst hk 1 (st' := (1, [some (.ref 0)], [.ref 0], h)) rfl ?_
  refine gw_gf (hk _ _ rfl) (RL_fR (n := 15) hR rfl) ?_
  refine gw_pst hk 1 (st' := (5, [some (.ref 0)], [.ref 0, .ref 15], h)) rfl ?_
  refine gw_gf (hk _ _ rfl) (RL_fR (n := 14) hR rfl) ?_
  obtain ⟨fs3, e3⟩ := RL_o hR (r := 15) (ci := 6) rfl
  refine gw_call (jj := 48) (As := [.ref 15, .ref 14]) (rest := []) (hk _ _ rfl) (fun _ => rfl) rfl rfl (Nat.le_of_ble_eq_true rfl) (gm_rcv_v rfl e3 rfl) ?_
  refine ge_imp (w h hR) (fun v3 h w => ?_)
  obtain ⟨s_3, hR, rfl, w⟩ := w
  show gw (gt_T c.1 c.2.1 c.2.2.1) c.2.2.2 d 87 (11, [some (.ref 0)], [], h) _
  refine gw_pst hk 2 (st' := (13, [some (.ref 0)], [.ref 0, .ref 0], h)) rfl ?_
  obtain ⟨fs4, e4⟩ := RL_o hR (r := 0) (ci := 9) rfl
  refine gw_call (jj := 97) (As := [.ref 0]) (rest := [.ref 0]) (hk _ _ rfl) (fun _ => rfl) rfl rfl (Nat.le_of_ble_eq_true rfl) (gm_rcv_v rfl e4 rfl) ?_
  refine ge_imp (w h hR) (fun v4 h w => ?_)
  obtain ⟨s_4, hR, x_4, rfl, w⟩ := w
  show gw (gt_T c.1 c.2.1 c.2.2.1) c.2.2.2 d 87 (16, [some (.ref 0)], [.int x_4, .ref 0], h) _
  obtain ⟨fs5, e5⟩ := RL_o hR (r := 0) (ci := 9) rfl
  refine gw_call (jj := 94) (As := [.ref 0, .int x_4]) (rest := []) (hk _ _ rfl) (fun _ => rfl) rfl rfl (Nat.le_of_ble_eq_true rfl) (gm_rcv_v rfl e5 rfl) ?_
  refine ge_imp (w h hR) (fun v5 h w => ?_)
  obtain ⟨s_5, hR, x_5, rfl, w⟩ := w
  show gw (gt_T c.1 c.2.1 c.2.2.1) c.2.2.2 d 87 (19, [some (.ref 0)], [.int x_5], h) _
  exact gw_ret (hk _ _ rfl) rfl ⟨_, hR, w⟩
/-- CommandByTurns.foe(I)I -/
def wm88 (c : gx) (d : Nat) (Post : Option Value → gs → Prop) (x1 : Int32) (s : gs) : Prop :=
  tE c d 48 [.ref 15, .ref 14] s (fun v3 s_3 => v3 = none ∧ tE c d 98 [.ref 0, .int x1] s_3 (fun v4 s_4 => ∃ x_4 : Int32, v4 = some (.int x_4) ∧ tE c d 94 [.ref 0, .int x_4] s_4 (fun v5 s_5 => ∃ x_5 : Int32, v5 = some (.int x_5) ∧ Post (some (.int x_5)) s_5)))
theorem okm88 (c : gx) (d : Nat) (Post : Option Value → gs → Prop) (x1 : Int32) (s : gs) (w : wm88 c d Post x1 s) : tE c (d + 1) 88 [.ref 0, .int x1] s Post := by
  intro h hR
  have hk : ∀ pc i, gm_find gk_88 pc = some i → gm_code (gt_T c.1 c.2.1 c.2.2.1) 88 pc = some i := fun _ _ z => z
  unfold wm88 at w
  refine ge_of (by decide) (Nat.le_of_ble_eq_true rfl) ?_
  show gw (gt_T c.1 c.2.1 c.2.2.1) c.2.2.2 d 88 (0, [some (.ref 0), some (.int x1)], [], h) _
  refine gw_pst hk 1 (st' := (1, [some (.ref 0), some (.int x1)], [.ref 0], h)) rfl ?_
  refine gw_gf (hk _ _ rfl) (RL_fR (n := 15) hR rfl) ?_
  refine gw_pst hk 1 (st' := (5, [some (.ref 0), some (.int x1)], [.ref 0, .ref 15], h)) rfl ?_
  refine gw_gf (hk _ _ rfl) (RL_fR (n := 14) hR rfl) ?_
  obtain ⟨fs3, e3⟩ := RL_o hR (r := 15) (ci := 6) rfl
  refine gw_call (jj := 48) (As := [.ref 15, .ref 14]) (rest := []) (hk _ _ rfl) (fun _ => rfl) rfl rfl (Nat.le_of_ble_eq_true rfl) (gm_rcv_v rfl e3 rfl) ?_
  refine ge_imp (w h hR) (fun v3 h w => ?_)
  obtain ⟨s_3, hR, rfl, w⟩ := w
  show gw (gt_T c.1 c.2.1 c.2.2.1) c.2.2.2 d 88 (11, [some (.ref 0), some (.int x1)], [], h) _
  refine gw_pst hk 3 (st' := (14, [some (.ref 0), some (.int x1)], [.int x1, .ref 0, .ref 0], h)) rfl ?_
  obtain ⟨fs4, e4⟩ := RL_o hR (r := 0) (ci := 9) rfl
  refine gw_call (jj := 98) (As := [.ref 0, .int x1]) (rest := [.ref 0]) (hk _ _ rfl) (fun _ => rfl) rfl rfl (Nat.le_of_ble_eq_true rfl) (gm_rcv_v rfl e4 rfl) ?_
  refine ge_imp (w h hR) (fun v4 h w => ?_)
  obtain ⟨s_4, hR, x_4, rfl, w⟩ := w
  show gw (gt_T c.1 c.2.1 c.2.2.1) c.2.2.2 d 88 (17, [some (.ref 0), some (.int x1)], [.int x_4, .ref 0], h) _
  obtain ⟨fs5, e5⟩ := RL_o hR (r := 0) (ci := 9) rfl
  refine gw_call (jj := 94) (As := [.ref 0, .int x_4]) (rest := []) (hk _ _ rfl) (fun _ => rfl) rfl rfl (Nat.le_of_ble_eq_true rfl) (gm_rcv_v rfl e5 rfl) ?_
  refine ge_imp (w h hR) (fun v5 h w => ?_)
  obtain ⟨s_5, hR, x_5, rfl, w⟩ := w
  show gw (gt_T c.1 c.2.1 c.2.2.1) c.2.2.2 d 88 (20, [some (.ref 0), some (.int x1)], [.int x_5], h) _
  exact gw_ret (hk _ _ rfl) rfl ⟨_, hR, w⟩
def w89_21 (c : gx) (d : Nat) (Post : Option Value → gs → Prop)  (s : gs) : Prop :=
  Post (some (.int (-1))) s
theorem ok89_21 (c : gx) (d : Nat) (Post : Option Value → gs → Prop)   (s : gs) (w : w89_21 c d Post  s) : tV c d 89 21 [none, none, none] [] s Post := by
  intro h hR
  have hk : ∀ pc i, gm_find gk_89 pc = some i → gm_code (gt_T c.1 c.2.1 c.2.2.1) 89 pc = some i := fun _ _ z => z
  unfold w89_21 at w
  unfold gV
  refine gw_pst hk 1 (st' := (22, [none, none, none], [.int (-1)], h)) rfl ?_
  exact gw_ret (hk _ _ rfl) rfl ⟨_, hR, w⟩
/-- CommandByTurns.send(II)I -/
def wm89 (c : gx) (d : Nat) (Post : Option Value → gs → Prop) (x1 : Int32) (x2 : Int32) (s : gs) : Prop :=
  ((x1 < 0 → w89_21 c d Post s) ∧ (¬ (x1 < 0) → ((2 < x1 → w89_21 c d Post s) ∧ (¬ (2 < x1) → ((x2 < 1 → w89_21 c d Post s) ∧ (¬ (x2 < 1) → ((x2 ≤ 999 → tE c d 48 [.ref 15, .ref 14] s (fun v7 s_7 => v7 = none ∧ tE c d 55 [.ref 14, .int x1, .int x2] s_7 (fun v9 s_9 => ∃ x_9 : Int32, v9 = some (.int x_9) ∧ tE c d 94 [.ref 0, .int x_9] s_9 (fun v10 s_10 => ∃ x_10 : Int32, v10 = some (.int x_10) ∧ Post (some (.int x_10)) s_10)))) ∧ (¬ (x2 ≤ 999) → w89_21 c d Post s))))))))
theorem okm89 (c : gx) (d : Nat) (Post : Option Value → gs → Prop) (x1 : Int32) (x2 : Int32) (s : gs) (w : wm89 c d Post x1 x2 s) : tE c (d + 1) 89 [.ref 0, .int x1, .int x2] s Post := by
  intro h hR
  have hk : ∀ pc i, gm_find gk_89 pc = some i → gm_code (gt_T c.1 c.2.1 c.2.2.1) 89 pc = some i := fun _ _ z => z
  unfold wm89 at w
  refine ge_of (by decide) (Nat.le_of_ble_eq_true rfl) ?_
  show gw (gt_T c.1 c.2.1 c.2.2.1) c.2.2.2 d 89 (0, [some (.ref 0), some (.int x1), some (.int x2)], [], h) _
  refine gw_pst hk 1 (st' := (1, [some (.ref 0), some (.int x1), some (.int x2)], [.int x1], h)) rfl ?_
  refine gw_br (c := x1 < 0) (a := (21, [some (.ref 0), some (.int x1), some (.int x2)], [], h)) (b := (4, [some (.ref 0), some (.int x1), some (.int x2)], [], h)) (hk _ _ rfl) rfl ⟨fun z1 => ?_, fun z1 => ?_⟩
  · replace w := w.1 z1
    refine gw_le (L' := [none, none, none]) (gm_le_n _ (gm_le_n _ (gm_le_n _ gm_le_nil))) ?_
    exact ok89_21 c d Post _ w _ hR
  · replace w := w.2 z1
    refine gw_pst hk 2 (st' := (6, [some (.ref 0), some (.int x1), some (.int x2)], [.int 2, .int x1], h)) rfl ?_
    refine gw_br (c := 2 < x1) (a := (21, [some (.ref 0), some (.int x1), some (.int x2)], [], h)) (b := (9, [some (.ref 0), some (.int x1), some (.int x2)], [], h)) (hk _ _ rfl) rfl ⟨fun z2 => ?_, fun z2 => ?_⟩
    · replace w := w.1 z2
      refine gw_le (L' := [none, none, none]) (gm_le_n _ (gm_le_n _ (gm_le_n _ gm_le_nil))) ?_
      exact ok89_21 c d Post _ w _ hR
    · replace w := w.2 z2
      refine gw_pst hk 2 (st' := (11, [some (.ref 0), some (.int x1), some (.int x2)], [.int 1, .int x2], h)) rfl ?_
      refine gw_br (c := x2 < 1) (a := (21, [some (.ref 0), some (.int x1), some (.int x2)], [], h)) (b := (14, [some (.ref 0), some (.int x1), some (.int x2)], [], h)) (hk _ _ rfl) rfl ⟨fun z3 => ?_, fun z3 => ?_⟩
      · replace w := w.1 z3
        refine gw_le (L' := [none, none, none]) (gm_le_n _ (gm_le_n _ (gm_le_n _ gm_le_nil))) ?_
        exact ok89_21 c d Post _ w _ hR
      · replace w := w.2 z3
        refine gw_pst hk 2 (st' := (18, [some (.ref 0), some (.int x1), some (.int x2)], [.int 999, .int x2], h)) rfl ?_
        refine gw_br (c := x2 ≤ 999) (a := (23, [some (.ref 0), some (.int x1), some (.int x2)], [], h)) (b := (21, [some (.ref 0), some (.int x1), some (.int x2)], [], h)) (hk _ _ rfl) rfl ⟨fun z4 => ?_, fun z4 => ?_⟩
        · replace w := w.1 z4
          refine gw_pst hk 1 (st' := (24, [some (.ref 0), some (.int x1), some (.int x2)], [.ref 0], h)) rfl ?_
          refine gw_gf (hk _ _ rfl) (RL_fR (n := 15) hR rfl) ?_
          refine gw_pst hk 1 (st' := (28, [some (.ref 0), some (.int x1), some (.int x2)], [.ref 0, .ref 15], h)) rfl ?_
          refine gw_gf (hk _ _ rfl) (RL_fR (n := 14) hR rfl) ?_
          obtain ⟨fs7, e7⟩ := RL_o hR (r := 15) (ci := 6) rfl
          refine gw_call (jj := 48) (As := [.ref 15, .ref 14]) (rest := []) (hk _ _ rfl) (fun _ => rfl) rfl rfl (Nat.le_of_ble_eq_true rfl) (gm_rcv_v rfl e7 rfl) ?_
          refine ge_imp (w h hR) (fun v7 h w => ?_)
          obtain ⟨s_7, hR, rfl, w⟩ := w
          show gw (gt_T c.1 c.2.1 c.2.2.1) c.2.2.2 d 89 (34, [some (.ref 0), some (.int x1), some (.int x2)], [], h) _
          refine gw_pst hk 2 (st' := (36, [some (.ref 0), some (.int x1), some (.int x2)], [.ref 0, .ref 0], h)) rfl ?_
          refine gw_gf (hk _ _ rfl) (RL_fR (n := 14) hR rfl) ?_
          refine gw_pst hk 2 (st' := (41, [some (.ref 0), some (.int x1), some (.int x2)], [.int x2, .int x1, .ref 14, .ref 0], h)) rfl ?_
          obtain ⟨fs9, e9⟩ := RL_o hR (r := 14) (ci := 6) rfl
          refine gw_call (jj := 55) (As := [.ref 14, .int x1, .int x2]) (rest := [.ref 0]) (hk _ _ rfl) (fun _ => rfl) rfl rfl (Nat.le_of_ble_eq_true rfl) (gm_rcv_v rfl e9 rfl) ?_
          refine ge_imp (w h hR) (fun v9 h w => ?_)
          obtain ⟨s_9, hR, x_9, rfl, w⟩ := w
          show gw (gt_T c.1 c.2.1 c.2.2.1) c.2.2.2 d 89 (44, [some (.ref 0), some (.int x1), some (.int x2)], [.int x_9, .ref 0], h) _
          obtain ⟨fs10, e10⟩ := RL_o hR (r := 0) (ci := 9) rfl
          refine gw_call (jj := 94) (As := [.ref 0, .int x_9]) (rest := []) (hk _ _ rfl) (fun _ => rfl) rfl rfl (Nat.le_of_ble_eq_true rfl) (gm_rcv_v rfl e10 rfl) ?_
          refine ge_imp (w h hR) (fun v10 h w => ?_)
          obtain ⟨s_10, hR, x_10, rfl, w⟩ := w
          show gw (gt_T c.1 c.2.1 c.2.2.1) c.2.2.2 d 89 (47, [some (.ref 0), some (.int x1), some (.int x2)], [.int x_10], h) _
          exact gw_ret (hk _ _ rfl) rfl ⟨_, hR, w⟩
        · replace w := w.2 z4
          refine gw_le (L' := [none, none, none]) (gm_le_n _ (gm_le_n _ (gm_le_n _ gm_le_nil))) ?_
          exact ok89_21 c d Post _ w _ hR
/-- CommandByTurns.lend(I)I -/
def wm90 (c : gx) (d : Nat) (Post : Option Value → gs → Prop) (x1 : Int32) (s : gs) : Prop :=
  tE c d 48 [.ref 15, .ref 14] s (fun v3 s_3 => v3 = none ∧ tE c d 99 [.ref 0, .int x1] s_3 (fun v4 s_4 => ∃ x_4 : Int32, v4 = some (.int x_4) ∧ tE c d 94 [.ref 0, .int x_4] s_4 (fun v5 s_5 => ∃ x_5 : Int32, v5 = some (.int x_5) ∧ Post (some (.int x_5)) s_5)))
theorem okm90 (c : gx) (d : Nat) (Post : Option Value → gs → Prop) (x1 : Int32) (s : gs) (w : wm90 c d Post x1 s) : tE c (d + 1) 90 [.ref 0, .int x1] s Post := by
  intro h hR
  have hk : ∀ pc i, gm_find gk_90 pc = some i → gm_code (gt_T c.1 c.2.1 c.2.2.1) 90 pc = some i := fun _ _ z => z
  unfold wm90 at w
  refine ge_of (by decide) (Nat.le_of_ble_eq_true rfl) ?_
  show gw (gt_T c.1 c.2.1 c.2.2.1) c.2.2.2 d 90 (0, [some (.ref 0), some (.int x1)], [], h) _
  refine gw_pst hk 1 (st' := (1, [some (.ref 0), some (.int x1)], [.ref 0], h)) rfl ?_
  refine gw_gf (hk _ _ rfl) (RL_fR (n := 15) hR rfl) ?_
  refine gw_pst hk 1 (st' := (5, [some (.ref 0), some (.int x1)], [.ref 0, .ref 15], h)) rfl ?_
  refine gw_gf (hk _ _ rfl) (RL_fR (n := 14) hR rfl) ?_
  obtain ⟨fs3, e3⟩ := RL_o hR (r := 15) (ci := 6) rfl
  refine gw_call (jj := 48) (As := [.ref 15, .ref 14]) (rest := []) (hk _ _ rfl) (fun _ => rfl) rfl rfl (Nat.le_of_ble_eq_true rfl) (gm_rcv_v rfl e3 rfl) ?_
  refine ge_imp (w h hR) (fun v3 h w => ?_)
  obtain ⟨s_3, hR, rfl, w⟩ := w
  show gw (gt_T c.1 c.2.1 c.2.2.1) c.2.2.2 d 90 (11, [some (.ref 0), some (.int x1)], [], h) _
  refine gw_pst hk 3 (st' := (14, [some (.ref 0), some (.int x1)], [.int x1, .ref 0, .ref 0], h)) rfl ?_
  obtain ⟨fs4, e4⟩ := RL_o hR (r := 0) (ci := 9) rfl
  refine gw_call (jj := 99) (As := [.ref 0, .int x1]) (rest := [.ref 0]) (hk _ _ rfl) (fun _ => rfl) rfl rfl (Nat.le_of_ble_eq_true rfl) (gm_rcv_v rfl e4 rfl) ?_
  refine ge_imp (w h hR) (fun v4 h w => ?_)
  obtain ⟨s_4, hR, x_4, rfl, w⟩ := w
  show gw (gt_T c.1 c.2.1 c.2.2.1) c.2.2.2 d 90 (17, [some (.ref 0), some (.int x1)], [.int x_4, .ref 0], h) _
  obtain ⟨fs5, e5⟩ := RL_o hR (r := 0) (ci := 9) rfl
  refine gw_call (jj := 94) (As := [.ref 0, .int x_4]) (rest := []) (hk _ _ rfl) (fun _ => rfl) rfl rfl (Nat.le_of_ble_eq_true rfl) (gm_rcv_v rfl e5 rfl) ?_
  refine ge_imp (w h hR) (fun v5 h w => ?_)
  obtain ⟨s_5, hR, x_5, rfl, w⟩ := w
  show gw (gt_T c.1 c.2.1 c.2.2.1) c.2.2.2 d 90 (20, [some (.ref 0), some (.int x1)], [.int x_5], h) _
  exact gw_ret (hk _ _ rfl) rfl ⟨_, hR, w⟩
def w91_18 (c : gx) (d : Nat) (Post : Option Value → gs → Prop)  (s : gs) : Prop :=
  Post (some (.int (-1))) s
theorem ok91_18 (c : gx) (d : Nat) (Post : Option Value → gs → Prop)   (s : gs) (w : w91_18 c d Post  s) : tV c d 91 18 [none, none, none] [] s Post := by
  intro h hR
  have hk : ∀ pc i, gm_find gk_91 pc = some i → gm_code (gt_T c.1 c.2.1 c.2.2.1) 91 pc = some i := fun _ _ z => z
  unfold w91_18 at w
  unfold gV
  refine gw_pst hk 1 (st' := (19, [none, none, none], [.int (-1)], h)) rfl ?_
  exact gw_ret (hk _ _ rfl) rfl ⟨_, hR, w⟩
/-- CommandByTurns.sick(II)I -/
def wm91 (c : gx) (d : Nat) (Post : Option Value → gs → Prop) (x1 : Int32) (x2 : Int32) (s : gs) : Prop :=
  tE c d 147 [.int x1] s (fun v1 s_1 => ∃ x_1 : Int32, v1 = some (.int x_1) ∧ ((x_1 = 0 → w91_18 c d Post s_1) ∧ (¬ (x_1 = 0) → ((x2 < 1 → w91_18 c d Post s_1) ∧ (¬ (x2 < 1) → ((x2 ≤ 30 → tE c d 48 [.ref 15, .ref 14] s_1 (fun v7 s_7 => v7 = none ∧ tE c d 50 [.ref 14, .int x1, .int x2] s_7 (fun v9 s_9 => ∃ x_9 : Int32, v9 = some (.int x_9) ∧ tE c d 94 [.ref 0, .int x_9] s_9 (fun v10 s_10 => ∃ x_10 : Int32, v10 = some (.int x_10) ∧ Post (some (.int x_10)) s_10)))) ∧ (¬ (x2 ≤ 30) → w91_18 c d Post s_1)))))))
theorem okm91 (c : gx) (d : Nat) (Post : Option Value → gs → Prop) (x1 : Int32) (x2 : Int32) (s : gs) (w : wm91 c d Post x1 x2 s) : tE c (d + 1) 91 [.ref 0, .int x1, .int x2] s Post := by
  intro h hR
  have hk : ∀ pc i, gm_find gk_91 pc = some i → gm_code (gt_T c.1 c.2.1 c.2.2.1) 91 pc = some i := fun _ _ z => z
  unfold wm91 at w
  refine ge_of (by decide) (Nat.le_of_ble_eq_true rfl) ?_
  show gw (gt_T c.1 c.2.1 c.2.2.1) c.2.2.2 d 91 (0, [some (.ref 0), some (.int x1), some (.int x2)], [], h) _
  refine gw_pst hk 1 (st' := (1, [some (.ref 0), some (.int x1), some (.int x2)], [.int x1], h)) rfl ?_
  refine gw_call (jj := 147) (As := [.int x1]) (rest := []) (hk _ _ rfl) (fun _ => rfl) rfl rfl (Nat.le_of_ble_eq_true rfl) rfl ?_
  refine ge_imp (w h hR) (fun v1 h w => ?_)
  obtain ⟨s_1, hR, x_1, rfl, w⟩ := w
  show gw (gt_T c.1 c.2.1 c.2.2.1) c.2.2.2 d 91 (4, [some (.ref 0), some (.int x1), some (.int x2)], [.int x_1], h) _
  refine gw_br (c := x_1 = 0) (a := (18, [some (.ref 0), some (.int x1), some (.int x2)], [], h)) (b := (7, [some (.ref 0), some (.int x1), some (.int x2)], [], h)) (hk _ _ rfl) rfl ⟨fun z2 => ?_, fun z2 => ?_⟩
  · replace w := w.1 z2
    refine gw_le (L' := [none, none, none]) (gm_le_n _ (gm_le_n _ (gm_le_n _ gm_le_nil))) ?_
    exact ok91_18 c d Post _ w _ hR
  · replace w := w.2 z2
    refine gw_pst hk 2 (st' := (9, [some (.ref 0), some (.int x1), some (.int x2)], [.int 1, .int x2], h)) rfl ?_
    refine gw_br (c := x2 < 1) (a := (18, [some (.ref 0), some (.int x1), some (.int x2)], [], h)) (b := (12, [some (.ref 0), some (.int x1), some (.int x2)], [], h)) (hk _ _ rfl) rfl ⟨fun z3 => ?_, fun z3 => ?_⟩
    · replace w := w.1 z3
      refine gw_le (L' := [none, none, none]) (gm_le_n _ (gm_le_n _ (gm_le_n _ gm_le_nil))) ?_
      exact ok91_18 c d Post _ w _ hR
    · replace w := w.2 z3
      refine gw_pst hk 2 (st' := (15, [some (.ref 0), some (.int x1), some (.int x2)], [.int 30, .int x2], h)) rfl ?_
      refine gw_br (c := x2 ≤ 30) (a := (20, [some (.ref 0), some (.int x1), some (.int x2)], [], h)) (b := (18, [some (.ref 0), some (.int x1), some (.int x2)], [], h)) (hk _ _ rfl) rfl ⟨fun z4 => ?_, fun z4 => ?_⟩
      · replace w := w.1 z4
        refine gw_pst hk 1 (st' := (21, [some (.ref 0), some (.int x1), some (.int x2)], [.ref 0], h)) rfl ?_
        refine gw_gf (hk _ _ rfl) (RL_fR (n := 15) hR rfl) ?_
        refine gw_pst hk 1 (st' := (25, [some (.ref 0), some (.int x1), some (.int x2)], [.ref 0, .ref 15], h)) rfl ?_
        refine gw_gf (hk _ _ rfl) (RL_fR (n := 14) hR rfl) ?_
        obtain ⟨fs7, e7⟩ := RL_o hR (r := 15) (ci := 6) rfl
        refine gw_call (jj := 48) (As := [.ref 15, .ref 14]) (rest := []) (hk _ _ rfl) (fun _ => rfl) rfl rfl (Nat.le_of_ble_eq_true rfl) (gm_rcv_v rfl e7 rfl) ?_
        refine ge_imp (w h hR) (fun v7 h w => ?_)
        obtain ⟨s_7, hR, rfl, w⟩ := w
        show gw (gt_T c.1 c.2.1 c.2.2.1) c.2.2.2 d 91 (31, [some (.ref 0), some (.int x1), some (.int x2)], [], h) _
        refine gw_pst hk 2 (st' := (33, [some (.ref 0), some (.int x1), some (.int x2)], [.ref 0, .ref 0], h)) rfl ?_
        refine gw_gf (hk _ _ rfl) (RL_fR (n := 14) hR rfl) ?_
        refine gw_pst hk 2 (st' := (38, [some (.ref 0), some (.int x1), some (.int x2)], [.int x2, .int x1, .ref 14, .ref 0], h)) rfl ?_
        obtain ⟨fs9, e9⟩ := RL_o hR (r := 14) (ci := 6) rfl
        refine gw_call (jj := 50) (As := [.ref 14, .int x1, .int x2]) (rest := [.ref 0]) (hk _ _ rfl) (fun _ => rfl) rfl rfl (Nat.le_of_ble_eq_true rfl) (gm_rcv_v rfl e9 rfl) ?_
        refine ge_imp (w h hR) (fun v9 h w => ?_)
        obtain ⟨s_9, hR, x_9, rfl, w⟩ := w
        show gw (gt_T c.1 c.2.1 c.2.2.1) c.2.2.2 d 91 (41, [some (.ref 0), some (.int x1), some (.int x2)], [.int x_9, .ref 0], h) _
        obtain ⟨fs10, e10⟩ := RL_o hR (r := 0) (ci := 9) rfl
        refine gw_call (jj := 94) (As := [.ref 0, .int x_9]) (rest := []) (hk _ _ rfl) (fun _ => rfl) rfl rfl (Nat.le_of_ble_eq_true rfl) (gm_rcv_v rfl e10 rfl) ?_
        refine ge_imp (w h hR) (fun v10 h w => ?_)
        obtain ⟨s_10, hR, x_10, rfl, w⟩ := w
        show gw (gt_T c.1 c.2.1 c.2.2.1) c.2.2.2 d 91 (44, [some (.ref 0), some (.int x1), some (.int x2)], [.int x_10], h) _
        exact gw_ret (hk _ _ rfl) rfl ⟨_, hR, w⟩
      · replace w := w.2 z4
        refine gw_le (L' := [none, none, none]) (gm_le_n _ (gm_le_n _ (gm_le_n _ gm_le_nil))) ?_
        exact ok91_18 c d Post _ w _ hR
def w92_110 (c : gx) (d : Nat) (Post : Option Value → gs → Prop) (K40 : Int32 → Int32 → Int32 → gs → Prop) (x2 : Int32) (x3 : Int32) (xs0 : Int32) (xs1 : Int32) (s : gs) : Prop :=
  K40 x2 x3 ((xs0 + xs1) + 1) s
theorem ok92_110 (c : gx) (d : Nat) (Post : Option Value → gs → Prop) (K40 : Int32 → Int32 → Int32 → gs → Prop)  (hK40 : ∀ (x2 : Int32) (x3 : Int32) (x4 : Int32) (s : gs), K40 x2 x3 x4 s → tV c d 92 40 [some (.ref 0), none, some (.int x2), some (.int x3), some (.int x4), none] [] s Post) (x2 : Int32) (x3 : Int32) (xs0 : Int32) (xs1 : Int32) (s : gs) (w : w92_110 c d Post K40 x2 x3 xs0 xs1 s) : tV c d 92 110 [some (.ref 0), none, some (.int x2), some (.int x3), none, none] [.int xs1, .int xs0] s Post := by
  intro h hR
  have hk : ∀ pc i, gm_find gk_92 pc = some i → gm_code (gt_T c.1 c.2.1 c.2.2.1) 92 pc = some i := fun _ _ z => z
  unfold w92_110 at w
  unfold gV
  refine gw_pst hk 4 (st' := (40, [some (.ref 0), none, some (.int x2), some (.int x3), some (.int ((xs0 + xs1) + 1)), none], [], h)) rfl ?_
  exact hK40 _ _ _ _ w _ hR
def w92_95 (c : gx) (d : Nat) (Post : Option Value → gs → Prop) (K40 : Int32 → Int32 → Int32 → gs → Prop) (x2 : Int32) (x3 : Int32) (x4 : Int32) (x5 : Int32) (s : gs) : Prop :=
  tE c d 100 [.int x5] s (fun v1 s_1 => ∃ x_1 : Int32, v1 = some (.int x_1) ∧ ((x_1 = 0 → w92_110 c d Post K40 x2 x3 x4 0 s_1) ∧ (¬ (x_1 = 0) → w92_110 c d Post K40 x2 x3 x4 1 s_1)))
theorem ok92_95 (c : gx) (d : Nat) (Post : Option Value → gs → Prop) (K40 : Int32 → Int32 → Int32 → gs → Prop)  (hK40 : ∀ (x2 : Int32) (x3 : Int32) (x4 : Int32) (s : gs), K40 x2 x3 x4 s → tV c d 92 40 [some (.ref 0), none, some (.int x2), some (.int x3), some (.int x4), none] [] s Post) (x2 : Int32) (x3 : Int32) (x4 : Int32) (x5 : Int32) (s : gs) (w : w92_95 c d Post K40 x2 x3 x4 x5 s) : tV c d 92 95 [some (.ref 0), none, some (.int x2), some (.int x3), some (.int x4), some (.int x5)] [] s Post := by
  intro h hR
  have hk : ∀ pc i, gm_find gk_92 pc = some i → gm_code (gt_T c.1 c.2.1 c.2.2.1) 92 pc = some i := fun _ _ z => z
  unfold w92_95 at w
  unfold gV
  refine gw_pst hk 2 (st' := (99, [some (.ref 0), none, some (.int x2), some (.int x3), some (.int x4), some (.int x5)], [.int x5, .int x4], h)) rfl ?_
  refine gw_call (jj := 100) (As := [.int x5]) (rest := [.int x4]) (hk _ _ rfl) (fun _ => rfl) rfl rfl (Nat.le_of_ble_eq_true rfl) rfl ?_
  refine ge_imp (w h hR) (fun v1 h w => ?_)
  obtain ⟨s_1, hR, x_1, rfl, w⟩ := w
  show gw (gt_T c.1 c.2.1 c.2.2.1) c.2.2.2 d 92 (102, [some (.ref 0), none, some (.int x2), some (.int x3), some (.int x4), some (.int x5)], [.int x_1, .int x4], h) _
  refine gw_br (c := x_1 = 0) (a := (109, [some (.ref 0), none, some (.int x2), some (.int x3), some (.int x4), some (.int x5)], [.int x4], h)) (b := (105, [some (.ref 0), none, some (.int x2), some (.int x3), some (.int x4), some (.int x5)], [.int x4], h)) (hk _ _ rfl) rfl ⟨fun z2 => ?_, fun z2 => ?_⟩
  · replace w := w.1 z2
    refine gw_pst hk 1 (st' := (110, [some (.ref 0), none, some (.int x2), some (.int x3), some (.int x4), some (.int x5)], [.int 0, .int x4], h)) rfl ?_
    refine gw_le (L' := [some (.ref 0), none, some (.int x2), some (.int x3), none, none]) (gm_le_k _ (gm_le_k _ (gm_le_k _ (gm_le_k _ (gm_le_n _ (gm_le_n _ gm_le_nil)))))) ?_
    exact ok92_110 c d Post K40 hK40 _ _ _ _ _ w _ hR
  · replace w := w.2 z2
    refine gw_pst hk 2 (st' := (110, [some (.ref 0), none, some (.int x2), some (.int x3), some (.int x4), some (.int x5)], [.int 1, .int x4], h)) rfl ?_
    refine gw_le (L' := [some (.ref 0), none, some (.int x2), some (.int x3), none, none]) (gm_le_k _ (gm_le_k _ (gm_le_k _ (gm_le_k _ (gm_le_n _ (gm_le_n _ gm_le_nil)))))) ?_
    exact ok92_110 c d Post K40 hK40 _ _ _ _ _ w _ hR
def w92_134 (c : gx) (d : Nat) (Post : Option Value → gs → Prop) (x2 : Int32) (x3 : Int32) (s : gs) : Prop :=
  ∀ s_2 : gs, s_2 = gs_V s 1 1 0 → tE c d 46 [.ref 34, .long ((x3 : Int32).toInt64), .long ((gsV s_2 14 0 : Int32).toInt64)] s_2 (fun v6 s_6 => v6 = none ∧ Post (some (.int x2)) s_6)
theorem ok92_134 (c : gx) (d : Nat) (Post : Option Value → gs → Prop)  (x2 : Int32) (x3 : Int32) (s : gs) (w : w92_134 c d Post x2 x3 s) : tV c d 92 134 [some (.ref 0), none, some (.int x2), some (.int x3), none, none] [] s Post := by
  intro h hR
  have hk : ∀ pc i, gm_find gk_92 pc = some i → gm_code (gt_T c.1 c.2.1 c.2.2.1) 92 pc = some i := fun _ _ z => z
  unfold w92_134 at w
  unfold gV
  refine gw_pst hk 1 (st' := (135, [some (.ref 0), none, some (.int x2), some (.int x3), none, none], [.ref 0], h)) rfl ?_
  refine gw_gf (hk _ _ rfl) (RL_fR (n := 1) hR rfl) ?_
  refine gw_pst hk 1 (st' := (139, [some (.ref 0), none, some (.int x2), some (.int x3), none, none], [.int 0, .ref 1], h)) rfl ?_
  obtain ⟨fs2, e2⟩ := RL_o hR (r := 1) (ci := 7) rfl
  obtain ⟨l2, hR2⟩ := RL_pI (k := 1) (x := 0) hR rfl e2
  refine gw_pf (hk _ _ rfl) e2 l2 rfl ?_
  generalize gm_put h _ _ = h at hR2 ⊢
  obtain ⟨s_2, es2⟩ : ∃ z, z = gs_V s 1 1 0 := ⟨_, rfl⟩
  rw [← es2] at hR2
  replace w := w s_2 es2
  replace hR := hR2
  refine gw_pst hk 1 (st' := (143, [some (.ref 0), none, some (.int x2), some (.int x3), none, none], [.ref 0], h)) rfl ?_
  refine gw_gf (hk _ _ rfl) (RL_fR (n := 34) hR rfl) ?_
  refine gw_pst hk 3 (st' := (149, [some (.ref 0), none, some (.int x2), some (.int x3), none, none], [.ref 0, .long ((x3 : Int32).toInt64), .ref 34], h)) rfl ?_
  refine gw_gf (hk _ _ rfl) (RL_fR (n := 14) hR rfl) ?_
  refine gw_gf (hk _ _ rfl) (RL_fI hR rfl) ?_
  refine gw_pst hk 1 (st' := (156, [some (.ref 0), none, some (.int x2), some (.int x3), none, none], [.long ((gsV s_2 14 0 : Int32).toInt64), .long ((x3 : Int32).toInt64), .ref 34], h)) rfl ?_
  obtain ⟨fs6, e6⟩ := RL_o hR (r := 34) (ci := 5) rfl
  refine gw_call (jj := 46) (As := [.ref 34, .long ((x3 : Int32).toInt64), .long ((gsV s_2 14 0 : Int32).toInt64)]) (rest := []) (hk _ _ rfl) (fun _ => rfl) rfl rfl (Nat.le_of_ble_eq_true rfl) (gm_rcv_v rfl e6 rfl) ?_
  refine ge_imp (w h hR) (fun v6 h w => ?_)
  obtain ⟨s_6, hR, rfl, w⟩ := w
  show gw (gt_T c.1 c.2.1 c.2.2.1) c.2.2.2 d 92 (159, [some (.ref 0), none, some (.int x2), some (.int x3), none, none], [], h) _
  refine gw_pst hk 1 (st' := (160, [some (.ref 0), none, some (.int x2), some (.int x3), none, none], [.int x2], h)) rfl ?_
  exact gw_ret (hk _ _ rfl) rfl ⟨_, hR, w⟩
def w92_119 (c : gx) (d : Nat) (Post : Option Value → gs → Prop) (x2 : Int32) (x3 : Int32) (s : gs) : Prop :=
  ((x2 ≤ 0 → w92_134 c d Post x2 x3 s) ∧ (¬ (x2 ≤ 0) → tE c d 41 [.ref 17, .ref 15] s (fun v4 s_4 => v4 = none ∧ w92_134 c d Post x2 x3 s_4)))
theorem ok92_119 (c : gx) (d : Nat) (Post : Option Value → gs → Prop)  (x2 : Int32) (x3 : Int32) (s : gs) (w : w92_119 c d Post x2 x3 s) : tV c d 92 119 [some (.ref 0), none, some (.int x2), some (.int x3), none, none] [] s Post := by
  intro h hR
  have hk : ∀ pc i, gm_find gk_92 pc = some i → gm_code (gt_T c.1 c.2.1 c.2.2.1) 92 pc = some i := fun _ _ z => z
  unfold w92_119 at w
  unfold gV
  refine gw_pst hk 1 (st' := (120, [some (.ref 0), none, some (.int x2), some (.int x3), none, none], [.int x2], h)) rfl ?_
  refine gw_br (c := x2 ≤ 0) (a := (134, [some (.ref 0), none, some (.int x2), some (.int x3), none, none], [], h)) (b := (123, [some (.ref 0), none, some (.int x2), some (.int x3), none, none], [], h)) (hk _ _ rfl) rfl ⟨fun z1 => ?_, fun z1 => ?_⟩
  · replace w := w.1 z1
    exact ok92_134 c d Post _ _ _ w _ hR
  · replace w := w.2 z1
    refine gw_pst hk 1 (st' := (124, [some (.ref 0), none, some (.int x2), some (.int x3), none, none], [.ref 0], h)) rfl ?_
    refine gw_gf (hk _ _ rfl) (RL_fR (n := 17) hR rfl) ?_
    refine gw_pst hk 1 (st' := (128, [some (.ref 0), none, some (.int x2), some (.int x3), none, none], [.ref 0, .ref 17], h)) rfl ?_
    refine gw_gf (hk _ _ rfl) (RL_fR (n := 15) hR rfl) ?_
    obtain ⟨fs4, e4⟩ := RL_o hR (r := 17) (ci := 4) rfl
    refine gw_call (jj := 41) (As := [.ref 17, .ref 15]) (rest := []) (hk _ _ rfl) (fun _ => rfl) rfl rfl (Nat.le_of_ble_eq_true rfl) (gm_rcv_v rfl e4 rfl) ?_
    refine ge_imp (w h hR) (fun v4 h w => ?_)
    obtain ⟨s_4, hR, rfl, w⟩ := w
    show gw (gt_T c.1 c.2.1 c.2.2.1) c.2.2.2 d 92 (134, [some (.ref 0), none, some (.int x2), some (.int x3), none, none], [], h) _
    exact ok92_134 c d Post _ _ _ w _ hR
def wb92_40 (c : gx) (d : Nat) (Post : Option Value → gs → Prop) (K40 : Int32 → Int32 → Int32 → gs → Prop) (x2 : Int32) (x3 : Int32) (x4 : Int32) (s : gs) : Prop :=
  (((gsV s 1 1) ≤ x4 → w92_119 c d Post x2 x3 s) ∧ (¬ ((gsV s 1 1) ≤ x4) → ((x3 = 0 → tE c d 61 [.ref 1, .int x4] s (fun v6 s_6 => ∃ x_6 : Int32, v6 = some (.int x_6) ∧ tE c d 61 [.ref 1, .int (x4 + 1)] s_6 (fun v8 s_8 => ∃ x_8 : Int32, v8 = some (.int x_8) ∧ tE c d 101 [.ref 0, .int x_6, .int x_8] s_8 (fun v9 s_9 => ∃ x_9 : Int32, v9 = some (.int x_9) ∧ ((0 ≤ x_9 → w92_95 c d Post K40 (x2 + 1) x3 x4 x_6 s_9) ∧ (¬ (0 ≤ x_9) → w92_95 c d Post K40 x2 1 x4 x_6 s_9)))))) ∧ (¬ (x3 = 0) → w92_119 c d Post x2 x3 s))))
theorem okb92_40 (c : gx) (d : Nat) (Post : Option Value → gs → Prop) (K40 : Int32 → Int32 → Int32 → gs → Prop)  (hK40 : ∀ (x2 : Int32) (x3 : Int32) (x4 : Int32) (s : gs), K40 x2 x3 x4 s → tV c d 92 40 [some (.ref 0), none, some (.int x2), some (.int x3), some (.int x4), none] [] s Post) (x2 : Int32) (x3 : Int32) (x4 : Int32) (s : gs) (w : wb92_40 c d Post K40 x2 x3 x4 s) : tV c d 92 40 [some (.ref 0), none, some (.int x2), some (.int x3), some (.int x4), none] [] s Post := by
  intro h hR
  have hk : ∀ pc i, gm_find gk_92 pc = some i → gm_code (gt_T c.1 c.2.1 c.2.2.1) 92 pc = some i := fun _ _ z => z
  unfold wb92_40 at w
  unfold gV
  refine gw_pst hk 2 (st' := (43, [some (.ref 0), none, some (.int x2), some (.int x3), some (.int x4), none], [.ref 0, .int x4], h)) rfl ?_
  refine gw_gf (hk _ _ rfl) (RL_fR (n := 1) hR rfl) ?_
  refine gw_gf (hk _ _ rfl) (RL_fI hR rfl) ?_
  refine gw_br (c := (gsV s 1 1) ≤ x4) (a := (119, [some (.ref 0), none, some (.int x2), some (.int x3), some (.int x4), none], [], h)) (b := (52, [some (.ref 0), none, some (.int x2), some (.int x3), some (.int x4), none], [], h)) (hk _ _ rfl) rfl ⟨fun z3 => ?_, fun z3 => ?_⟩
  · replace w := w.1 z3
    refine gw_le (L' := [some (.ref 0), none, some (.int x2), some (.int x3), none, none]) (gm_le_k _ (gm_le_k _ (gm_le_k _ (gm_le_k _ (gm_le_n _ (gm_le_k _ gm_le_nil)))))) ?_
    exact ok92_119 c d Post _ _ _ w _ hR
  · replace w := w.2 z3
    refine gw_pst hk 1 (st' := (53, [some (.ref 0), none, some (.int x2), some (.int x3), some (.int x4), none], [.int x3], h)) rfl ?_
    refine gw_br (c := x3 = 0) (a := (56, [some (.ref 0), none, some (.int x2), some (.int x3), some (.int x4), none], [], h)) (b := (119, [some (.ref 0), none, some (.int x2), some (.int x3), some (.int x4), none], [], h)) (hk _ _ rfl) rfl ⟨fun z4 => ?_, fun z4 => ?_⟩
    · replace w := w.1 z4
      refine gw_pst hk 1 (st' := (57, [some (.ref 0), none, some (.int x2), some (.int x3), some (.int x4), none], [.ref 0], h)) rfl ?_
      refine gw_gf (hk _ _ rfl) (RL_fR (n := 1) hR rfl) ?_
      refine gw_pst hk 1 (st' := (62, [some (.ref 0), none, some (.int x2), some (.int x3), some (.int x4), none], [.int x4, .ref 1], h)) rfl ?_
      obtain ⟨fs6, e6⟩ := RL_o hR (r := 1) (ci := 7) rfl
      refine gw_call (jj := 61) (As := [.ref 1, .int x4]) (rest := []) (hk _ _ rfl) (fun _ => rfl) rfl rfl (Nat.le_of_ble_eq_true rfl) (gm_rcv_v rfl e6 rfl) ?_
      refine ge_imp (w h hR) (fun v6 h w => ?_)
      obtain ⟨s_6, hR, x_6, rfl, w⟩ := w
      show gw (gt_T c.1 c.2.1 c.2.2.1) c.2.2.2 d 92 (65, [some (.ref 0), none, some (.int x2), some (.int x3), some (.int x4), none], [.int x_6], h) _
      refine gw_pst hk 4 (st' := (71, [some (.ref 0), none, some (.int x2), some (.int x3), some (.int x4), some (.int x_6)], [.ref 0, .int x_6, .ref 0], h)) rfl ?_
      refine gw_gf (hk _ _ rfl) (RL_fR (n := 1) hR rfl) ?_
      refine gw_pst hk 3 (st' := (78, [some (.ref 0), none, some (.int x2), some (.int x3), some (.int x4), some (.int x_6)], [.int (x4 + 1), .ref 1, .int x_6, .ref 0], h)) rfl ?_
      obtain ⟨fs8, e8⟩ := RL_o hR (r := 1) (ci := 7) rfl
      refine gw_call (jj := 61) (As := [.ref 1, .int (x4 + 1)]) (rest := [.int x_6, .ref 0]) (hk _ _ rfl) (fun _ => rfl) rfl rfl (Nat.le_of_ble_eq_true rfl) (gm_rcv_v rfl e8 rfl) ?_
      refine ge_imp (w h hR) (fun v8 h w => ?_)
      obtain ⟨s_8, hR, x_8, rfl, w⟩ := w
      show gw (gt_T c.1 c.2.1 c.2.2.1) c.2.2.2 d 92 (81, [some (.ref 0), none, some (.int x2), some (.int x3), some (.int x4), some (.int x_6)], [.int x_8, .int x_6, .ref 0], h) _
      obtain ⟨fs9, e9⟩ := RL_o hR (r := 0) (ci := 9) rfl
      refine gw_call (jj := 101) (As := [.ref 0, .int x_6, .int x_8]) (rest := []) (hk _ _ rfl) (fun _ => rfl) rfl rfl (Nat.le_of_ble_eq_true rfl) (gm_rcv_v rfl e9 rfl) ?_
      refine ge_imp (w h hR) (fun v9 h w => ?_)
      obtain ⟨s_9, hR, x_9, rfl, w⟩ := w
      show gw (gt_T c.1 c.2.1 c.2.2.1) c.2.2.2 d 92 (84, [some (.ref 0), none, some (.int x2), some (.int x3), some (.int x4), some (.int x_6)], [.int x_9], h) _
      refine gw_br (c := 0 ≤ x_9) (a := (92, [some (.ref 0), none, some (.int x2), some (.int x3), some (.int x4), some (.int x_6)], [], h)) (b := (87, [some (.ref 0), none, some (.int x2), some (.int x3), some (.int x4), some (.int x_6)], [], h)) (hk _ _ rfl) rfl ⟨fun z10 => ?_, fun z10 => ?_⟩
      · replace w := w.1 z10
        refine gw_pst hk 1 (st' := (95, [some (.ref 0), none, some (.int (x2 + 1)), some (.int x3), some (.int x4), some (.int x_6)], [], h)) rfl ?_
        exact ok92_95 c d Post K40 hK40 _ _ _ _ _ w _ hR
      · replace w := w.2 z10
        refine gw_pst hk 3 (st' := (95, [some (.ref 0), none, some (.int x2), some (.int 1), some (.int x4), some (.int x_6)], [], h)) rfl ?_
        exact ok92_95 c d Post K40 hK40 _ _ _ _ _ w _ hR
    · replace w := w.2 z4
      refine gw_le (L' := [some (.ref 0), none, some (.int x2), some (.int x3), none, none]) (gm_le_k _ (gm_le_k _ (gm_le_k _ (gm_le_k _ (gm_le_n _ (gm_le_k _ gm_le_nil)))))) ?_
      exact ok92_119 c d Post _ _ _ w _ hR
def wl92_40 (c : gx) (d : Nat) (Post : Option Value → gs → Prop) : Nat → Int32 → Int32 → Int32 → gs → Prop
  | 0 => fun _ _ _ _ => False
  | n + 1 => wb92_40 c d Post (wl92_40 c d Post n)
theorem okl92_40 (c : gx) (d : Nat) (Post : Option Value → gs → Prop) : ∀ (n : Nat) (x2 : Int32) (x3 : Int32) (x4 : Int32) (s : gs), wl92_40 c d Post n x2 x3 x4 s → tV c d 92 40 [some (.ref 0), none, some (.int x2), some (.int x3), some (.int x4), none] [] s Post
  | 0, _, _, _, _, w => w.elim
  | n + 1, x2, x3, x4, s, w => okb92_40 c d Post (wl92_40 c d Post n) (okl92_40 c d Post n) x2 x3 x4 s w
/-- CommandByTurns.war()I -/
def wm92 (c : gx) (d : Nat) (Post : Option Value → gs → Prop)  (s : gs) : Prop :=
  tE c d 102 [.ref 0] s (fun v1 s_1 => ∃ x_1 : Int32, v1 = some (.int x_1) ∧ ((x_1 = (-1) → tE c d 48 [.ref 15, .ref 14] s_1 (fun v5 s_5 => v5 = none ∧ ∃ n, wl92_40 c d Post n 0 0 0 s_5)) ∧ (¬ (x_1 = (-1)) → ∀ s_7 : gs, s_7 = gs_V s_1 1 1 0 → Post (some (.int ((-1) - x_1))) s_7)))
theorem okm92 (c : gx) (d : Nat) (Post : Option Value → gs → Prop)  (s : gs) (w : wm92 c d Post  s) : tE c (d + 1) 92 [.ref 0] s Post := by
  intro h hR
  have hk : ∀ pc i, gm_find gk_92 pc = some i → gm_code (gt_T c.1 c.2.1 c.2.2.1) 92 pc = some i := fun _ _ z => z
  unfold wm92 at w
  refine ge_of (by decide) (Nat.le_of_ble_eq_true rfl) ?_
  show gw (gt_T c.1 c.2.1 c.2.2.1) c.2.2.2 d 92 (0, [some (.ref 0), none, none, none, none, none], [], h) _
  refine gw_pst hk 1 (st' := (1, [some (.ref 0), none, none, none, none, none], [.ref 0], h)) rfl ?_
  obtain ⟨fs1, e1⟩ := RL_o hR (r := 0) (ci := 9) rfl
  refine gw_call (jj := 102) (As := [.ref 0]) (rest := []) (hk _ _ rfl) (fun _ => rfl) rfl rfl (Nat.le_of_ble_eq_true rfl) (gm_rcv_v rfl e1 rfl) ?_
  refine ge_imp (w h hR) (fun v1 h w => ?_)
  obtain ⟨s_1, hR, x_1, rfl, w⟩ := w
  show gw (gt_T c.1 c.2.1 c.2.2.1) c.2.2.2 d 92 (4, [some (.ref 0), none, none, none, none, none], [.int x_1], h) _
  refine gw_pst hk 3 (st' := (7, [some (.ref 0), some (.int x_1), none, none, none, none], [.int (-1), .int x_1], h)) rfl ?_
  refine gw_br (c := x_1 = (-1)) (a := (22, [some (.ref 0), some (.int x_1), none, none, none, none], [], h)) (b := (10, [some (.ref 0), some (.int x_1), none, none, none, none], [], h)) (hk _ _ rfl) rfl ⟨fun z2 => ?_, fun z2 => ?_⟩
  · replace w := w.1 z2
    refine gw_pst hk 1 (st' := (23, [some (.ref 0), some (.int x_1), none, none, none, none], [.ref 0], h)) rfl ?_
    refine gw_gf (hk _ _ rfl) (RL_fR (n := 15) hR rfl) ?_
    refine gw_pst hk 1 (st' := (27, [some (.ref 0), some (.int x_1), none, none, none, none], [.ref 0, .ref 15], h)) rfl ?_
    refine gw_gf (hk _ _ rfl) (RL_fR (n := 14) hR rfl) ?_
    obtain ⟨fs5, e5⟩ := RL_o hR (r := 15) (ci := 6) rfl
    refine gw_call (jj := 48) (As := [.ref 15, .ref 14]) (rest := []) (hk _ _ rfl) (fun _ => rfl) rfl rfl (Nat.le_of_ble_eq_true rfl) (gm_rcv_v rfl e5 rfl) ?_
    refine ge_imp (w h hR) (fun v5 h w => ?_)
    obtain ⟨s_5, hR, rfl, w⟩ := w
    show gw (gt_T c.1 c.2.1 c.2.2.1) c.2.2.2 d 92 (33, [some (.ref 0), some (.int x_1), none, none, none, none], [], h) _
    refine gw_pst hk 6 (st' := (40, [some (.ref 0), some (.int x_1), some (.int 0), some (.int 0), some (.int 0), none], [], h)) rfl ?_
    refine gw_le (L' := [some (.ref 0), none, some (.int 0), some (.int 0), some (.int 0), none]) (gm_le_k _ (gm_le_n _ (gm_le_k _ (gm_le_k _ (gm_le_k _ (gm_le_k _ gm_le_nil)))))) ?_
    obtain ⟨n, w⟩ := w
    exact okl92_40 c d Post n _ _ _ _ w _ hR
  · replace w := w.2 z2
    refine gw_pst hk 1 (st' := (11, [some (.ref 0), some (.int x_1), none, none, none, none], [.ref 0], h)) rfl ?_
    refine gw_gf (hk _ _ rfl) (RL_fR (n := 1) hR rfl) ?_
    refine gw_pst hk 1 (st' := (15, [some (.ref 0), some (.int x_1), none, none, none, none], [.int 0, .ref 1], h)) rfl ?_
    obtain ⟨fs7, e7⟩ := RL_o hR (r := 1) (ci := 7) rfl
    obtain ⟨l7, hR7⟩ := RL_pI (k := 1) (x := 0) hR rfl e7
    refine gw_pf (hk _ _ rfl) e7 l7 rfl ?_
    generalize gm_put h _ _ = h at hR7 ⊢
    obtain ⟨s_7, es7⟩ : ∃ z, z = gs_V s_1 1 1 0 := ⟨_, rfl⟩
    rw [← es7] at hR7
    replace w := w s_7 es7
    replace hR := hR7
    refine gw_pst hk 3 (st' := (21, [some (.ref 0), some (.int x_1), none, none, none, none], [.int ((-1) - x_1)], h)) rfl ?_
    exact gw_ret (hk _ _ rfl) rfl ⟨_, hR, w⟩
def w93_25 (c : gx) (d : Nat) (Post : Option Value → gs → Prop) (xs0 : Int32) (s : gs) : Prop :=
  Post (some (.int xs0)) s
theorem ok93_25 (c : gx) (d : Nat) (Post : Option Value → gs → Prop)  (xs0 : Int32) (s : gs) (w : w93_25 c d Post xs0 s) : tV c d 93 25 [none] [.int xs0] s Post := by
  intro h hR
  have hk : ∀ pc i, gm_find gk_93 pc = some i → gm_code (gt_T c.1 c.2.1 c.2.2.1) 93 pc = some i := fun _ _ z => z
  unfold w93_25 at w
  unfold gV
  exact gw_ret (hk _ _ rfl) rfl ⟨_, hR, w⟩
/-- CommandByTurns.undo()I -/
def wm93 (c : gx) (d : Nat) (Post : Option Value → gs → Prop)  (s : gs) : Prop :=
  tE c d 42 [.ref 17, .ref 14] s (fun v3 s_3 => ∃ x_3 : Int32, v3 = some (.int x_3) ∧ ((x_3 = 0 → w93_25 c d Post (-1) s_3) ∧ (¬ (x_3 = 0) → w93_25 c d Post (gsV s_3 17 2) s_3)))
theorem okm93 (c : gx) (d : Nat) (Post : Option Value → gs → Prop)  (s : gs) (w : wm93 c d Post  s) : tE c (d + 1) 93 [.ref 0] s Post := by
  intro h hR
  have hk : ∀ pc i, gm_find gk_93 pc = some i → gm_code (gt_T c.1 c.2.1 c.2.2.1) 93 pc = some i := fun _ _ z => z
  unfold wm93 at w
  refine ge_of (by decide) (Nat.le_of_ble_eq_true rfl) ?_
  show gw (gt_T c.1 c.2.1 c.2.2.1) c.2.2.2 d 93 (0, [some (.ref 0)], [], h) _
  refine gw_pst hk 1 (st' := (1, [some (.ref 0)], [.ref 0], h)) rfl ?_
  refine gw_gf (hk _ _ rfl) (RL_fR (n := 17) hR rfl) ?_
  refine gw_pst hk 1 (st' := (5, [some (.ref 0)], [.ref 0, .ref 17], h)) rfl ?_
  refine gw_gf (hk _ _ rfl) (RL_fR (n := 14) hR rfl) ?_
  obtain ⟨fs3, e3⟩ := RL_o hR (r := 17) (ci := 4) rfl
  refine gw_call (jj := 42) (As := [.ref 17, .ref 14]) (rest := []) (hk _ _ rfl) (fun _ => rfl) rfl rfl (Nat.le_of_ble_eq_true rfl) (gm_rcv_v rfl e3 rfl) ?_
  refine ge_imp (w h hR) (fun v3 h w => ?_)
  obtain ⟨s_3, hR, x_3, rfl, w⟩ := w
  show gw (gt_T c.1 c.2.1 c.2.2.1) c.2.2.2 d 93 (11, [some (.ref 0)], [.int x_3], h) _
  refine gw_br (c := x_3 = 0) (a := (24, [some (.ref 0)], [], h)) (b := (14, [some (.ref 0)], [], h)) (hk _ _ rfl) rfl ⟨fun z4 => ?_, fun z4 => ?_⟩
  · replace w := w.1 z4
    refine gw_pst hk 1 (st' := (25, [some (.ref 0)], [.int (-1)], h)) rfl ?_
    refine gw_le (L' := [none]) (gm_le_n _ gm_le_nil) ?_
    exact ok93_25 c d Post _ _ w _ hR
  · replace w := w.2 z4
    refine gw_pst hk 1 (st' := (15, [some (.ref 0)], [.ref 0], h)) rfl ?_
    refine gw_gf (hk _ _ rfl) (RL_fR (n := 17) hR rfl) ?_
    refine gw_gf (hk _ _ rfl) (RL_fI hR rfl) ?_
    refine gw_pst hk 1 (st' := (25, [some (.ref 0)], [.int (gsV s_3 17 2)], h)) rfl ?_
    refine gw_le (L' := [none]) (gm_le_n _ gm_le_nil) ?_
    exact ok93_25 c d Post _ _ w _ hR
def w94_15 (c : gx) (d : Nat) (Post : Option Value → gs → Prop) (x1 : Int32) (s : gs) : Prop :=
  Post (some (.int x1)) s
theorem ok94_15 (c : gx) (d : Nat) (Post : Option Value → gs → Prop)  (x1 : Int32) (s : gs) (w : w94_15 c d Post x1 s) : tV c d 94 15 [none, some (.int x1)] [] s Post := by
  intro h hR
  have hk : ∀ pc i, gm_find gk_94 pc = some i → gm_code (gt_T c.1 c.2.1 c.2.2.1) 94 pc = some i := fun _ _ z => z
  unfold w94_15 at w
  unfold gV
  refine gw_pst hk 1 (st' := (16, [none, some (.int x1)], [.int x1], h)) rfl ?_
  exact gw_ret (hk _ _ rfl) rfl ⟨_, hR, w⟩
/-- CommandByTurns.remembered(I)I -/
def wm94 (c : gx) (d : Nat) (Post : Option Value → gs → Prop) (x1 : Int32) (s : gs) : Prop :=
  ((x1 < 0 → w94_15 c d Post x1 s) ∧ (¬ (x1 < 0) → tE c d 41 [.ref 17, .ref 15] s (fun v4 s_4 => v4 = none ∧ w94_15 c d Post x1 s_4)))
theorem okm94 (c : gx) (d : Nat) (Post : Option Value → gs → Prop) (x1 : Int32) (s : gs) (w : wm94 c d Post x1 s) : tE c (d + 1) 94 [.ref 0, .int x1] s Post := by
  intro h hR
  have hk : ∀ pc i, gm_find gk_94 pc = some i → gm_code (gt_T c.1 c.2.1 c.2.2.1) 94 pc = some i := fun _ _ z => z
  unfold wm94 at w
  refine ge_of (by decide) (Nat.le_of_ble_eq_true rfl) ?_
  show gw (gt_T c.1 c.2.1 c.2.2.1) c.2.2.2 d 94 (0, [some (.ref 0), some (.int x1)], [], h) _
  refine gw_pst hk 1 (st' := (1, [some (.ref 0), some (.int x1)], [.int x1], h)) rfl ?_
  refine gw_br (c := x1 < 0) (a := (15, [some (.ref 0), some (.int x1)], [], h)) (b := (4, [some (.ref 0), some (.int x1)], [], h)) (hk _ _ rfl) rfl ⟨fun z1 => ?_, fun z1 => ?_⟩
  · replace w := w.1 z1
    refine gw_le (L' := [none, some (.int x1)]) (gm_le_n _ (gm_le_k _ gm_le_nil)) ?_
    exact ok94_15 c d Post _ _ w _ hR
  · replace w := w.2 z1
    refine gw_pst hk 1 (st' := (5, [some (.ref 0), some (.int x1)], [.ref 0], h)) rfl ?_
    refine gw_gf (hk _ _ rfl) (RL_fR (n := 17) hR rfl) ?_
    refine gw_pst hk 1 (st' := (9, [some (.ref 0), some (.int x1)], [.ref 0, .ref 17], h)) rfl ?_
    refine gw_gf (hk _ _ rfl) (RL_fR (n := 15) hR rfl) ?_
    obtain ⟨fs4, e4⟩ := RL_o hR (r := 17) (ci := 4) rfl
    refine gw_call (jj := 41) (As := [.ref 17, .ref 15]) (rest := []) (hk _ _ rfl) (fun _ => rfl) rfl rfl (Nat.le_of_ble_eq_true rfl) (gm_rcv_v rfl e4 rfl) ?_
    refine ge_imp (w h hR) (fun v4 h w => ?_)
    obtain ⟨s_4, hR, rfl, w⟩ := w
    show gw (gt_T c.1 c.2.1 c.2.2.1) c.2.2.2 d 94 (15, [some (.ref 0), some (.int x1)], [], h) _
    refine gw_le (L' := [none, some (.int x1)]) (gm_le_n _ (gm_le_k _ gm_le_nil)) ?_
    exact ok94_15 c d Post _ _ w _ hR
def w95_16 (c : gx) (d : Nat) (Post : Option Value → gs → Prop)  (s : gs) : Prop :=
  Post (some (.int (-1))) s
theorem ok95_16 (c : gx) (d : Nat) (Post : Option Value → gs → Prop)   (s : gs) (w : w95_16 c d Post  s) : tV c d 95 16 [none, none, none, none] [] s Post := by
  intro h hR
  have hk : ∀ pc i, gm_find gk_95 pc = some i → gm_code (gt_T c.1 c.2.1 c.2.2.1) 95 pc = some i := fun _ _ z => z
  unfold w95_16 at w
  unfold gV
  refine gw_pst hk 1 (st' := (17, [none, none, none, none], [.int (-1)], h)) rfl ?_
  exact gw_ret (hk _ _ rfl) rfl ⟨_, hR, w⟩
/-- CommandByTurns.marchBy(I)I -/
def wm95 (c : gx) (d : Nat) (Post : Option Value → gs → Prop) (x1 : Int32) (s : gs) : Prop :=
  ((x1 < (-12) → w95_16 c d Post s) ∧ (¬ (x1 < (-12)) → ((12 < x1 → w95_16 c d Post s) ∧ (¬ (12 < x1) → ((x1 = 0 → w95_16 c d Post s) ∧ (¬ (x1 = 0) → tE c d 84 [.ref 0] s (fun v4 s_4 => ∃ x_4 : Int32, v4 = some (.int x_4) ∧ ((x_4 = (-1) → Post (some (.int (-2))) s_4) ∧ (¬ (x_4 = (-1)) → tE c d 14 [.ref 3, .int ((gsV s_4 14 1) + x1)] s_4 (fun v9 s_9 => ∃ x_9 : Int32, v9 = some (.int x_9) ∧ ((x_9 = 0 → Post (some (.int (-3))) s_9) ∧ (¬ (x_9 = 0) → tE c d 19 [.ref 3, .int (gsV s_9 14 1), .int ((gsV s_4 14 1) + x1)] s_9 (fun v14 s_14 => ∃ x_14 : Int32, v14 = some (.int x_14) ∧ tE c d 148 [.ref 0, .int x_4] s_14 (fun v15 s_15 => ∃ q_15 : Nat, v15 = some (.ref q_15) ∧ gs_isC q_15 2 = true ∧ tE c d 31 [.ref q_15] s_15 (fun v16 s_16 => ∃ x_16 : Int32, v16 = some (.int x_16) ∧ ((x_14 ≤ x_16 → tE c d 17 [.int (gsV s_16 14 1), .int (gsV s_16 14 2), .int ((gsV s_4 14 1) + x1)] s_16 (fun v22 s_22 => ∃ x_22 : Int32, v22 = some (.int x_22) ∧ ((x_22 = 0 → ∀ s_25 : gs, s_25 = gs_V s_22 14 1 ((gsV s_4 14 1) + x1) → tE c d 58 [.ref 14] s_25 (fun v27 s_27 => v27 = none ∧ tE c d 46 [.ref 34, .long ((x_4 : Int32).toInt64), .long ((gsV s_27 14 5 : Int32).toInt64)] s_27 (fun v31 s_31 => v31 = none ∧ Post (some (.int ((gsV s_4 14 1) + x1))) s_31))) ∧ (¬ (x_22 = 0) → Post (some (.int (-5))) s_22)))) ∧ (¬ (x_14 ≤ x_16) → Post (some (.int (-4))) s_16)))))))))))))))))
theorem okm95 (c : gx) (d : Nat) (Post : Option Value → gs → Prop) (x1 : Int32) (s : gs) (w : wm95 c d Post x1 s) : tE c (d + 1) 95 [.ref 0, .int x1] s Post := by
  intro h hR
  have hk : ∀ pc i, gm_find gk_95 pc = some i → gm_code (gt_T c.1 c.2.1 c.2.2.1) 95 pc = some i := fun _ _ z => z
  unfold wm95 at w
  refine ge_of (by decide) (Nat.le_of_ble_eq_true rfl) ?_
  show gw (gt_T c.1 c.2.1 c.2.2.1) c.2.2.2 d 95 (0, [some (.ref 0), some (.int x1), none, none], [], h) _
  refine gw_pst hk 2 (st' := (3, [some (.ref 0), some (.int x1), none, none], [.int (-12), .int x1], h)) rfl ?_
  refine gw_br (c := x1 < (-12)) (a := (16, [some (.ref 0), some (.int x1), none, none], [], h)) (b := (6, [some (.ref 0), some (.int x1), none, none], [], h)) (hk _ _ rfl) rfl ⟨fun z1 => ?_, fun z1 => ?_⟩
  · replace w := w.1 z1
    refine gw_le (L' := [none, none, none, none]) (gm_le_n _ (gm_le_n _ (gm_le_k _ (gm_le_k _ gm_le_nil)))) ?_
    exact ok95_16 c d Post _ w _ hR
  · replace w := w.2 z1
    refine gw_pst hk 2 (st' := (9, [some (.ref 0), some (.int x1), none, none], [.int 12, .int x1], h)) rfl ?_
    refine gw_br (c := 12 < x1) (a := (16, [some (.ref 0), some (.int x1), none, none], [], h)) (b := (12, [some (.ref 0), some (.int x1), none, none], [], h)) (hk _ _ rfl) rfl ⟨fun z2 => ?_, fun z2 => ?_⟩
    · replace w := w.1 z2
      refine gw_le (L' := [none, none, none, none]) (gm_le_n _ (gm_le_n _ (gm_le_k _ (gm_le_k _ gm_le_nil)))) ?_
      exact ok95_16 c d Post _ w _ hR
    · replace w := w.2 z2
      refine gw_pst hk 1 (st' := (13, [some (.ref 0), some (.int x1), none, none], [.int x1], h)) rfl ?_
      refine gw_br (c := x1 = 0) (a := (16, [some (.ref 0), some (.int x1), none, none], [], h)) (b := (18, [some (.ref 0), some (.int x1), none, none], [], h)) (hk _ _ rfl) rfl ⟨fun z3 => ?_, fun z3 => ?_⟩
      · replace w := w.1 z3
        refine gw_le (L' := [none, none, none, none]) (gm_le_n _ (gm_le_n _ (gm_le_k _ (gm_le_k _ gm_le_nil)))) ?_
        exact ok95_16 c d Post _ w _ hR
      · replace w := w.2 z3
        refine gw_pst hk 1 (st' := (19, [some (.ref 0), some (.int x1), none, none], [.ref 0], h)) rfl ?_
        obtain ⟨fs4, e4⟩ := RL_o hR (r := 0) (ci := 9) rfl
        refine gw_call (jj := 84) (As := [.ref 0]) (rest := []) (hk _ _ rfl) (fun _ => rfl) rfl rfl (Nat.le_of_ble_eq_true rfl) (gm_rcv_v rfl e4 rfl) ?_
        refine ge_imp (w h hR) (fun v4 h w => ?_)
        obtain ⟨s_4, hR, x_4, rfl, w⟩ := w
        show gw (gt_T c.1 c.2.1 c.2.2.1) c.2.2.2 d 95 (22, [some (.ref 0), some (.int x1), none, none], [.int x_4], h) _
        refine gw_pst hk 3 (st' := (25, [some (.ref 0), some (.int x1), some (.int x_4), none], [.int (-1), .int x_4], h)) rfl ?_
        refine gw_br (c := x_4 = (-1)) (a := (28, [some (.ref 0), some (.int x1), some (.int x_4), none], [], h)) (b := (31, [some (.ref 0), some (.int x1), some (.int x_4), none], [], h)) (hk _ _ rfl) rfl ⟨fun z5 => ?_, fun z5 => ?_⟩
        · replace w := w.1 z5
          refine gw_pst hk 1 (st' := (30, [some (.ref 0), some (.int x1), some (.int x_4), none], [.int (-2)], h)) rfl ?_
          exact gw_ret (hk _ _ rfl) rfl ⟨_, hR, w⟩
        · replace w := w.2 z5
          refine gw_pst hk 1 (st' := (32, [some (.ref 0), some (.int x1), some (.int x_4), none], [.ref 0], h)) rfl ?_
          refine gw_gf (hk _ _ rfl) (RL_fR (n := 14) hR rfl) ?_
          refine gw_gf (hk _ _ rfl) (RL_fI hR rfl) ?_
          refine gw_pst hk 4 (st' := (42, [some (.ref 0), some (.int x1), some (.int x_4), some (.int ((gsV s_4 14 1) + x1))], [.ref 0], h)) rfl ?_
          refine gw_gf (hk _ _ rfl) (RL_fR (n := 3) hR rfl) ?_
          refine gw_pst hk 1 (st' := (46, [some (.ref 0), some (.int x1), some (.int x_4), some (.int ((gsV s_4 14 1) + x1))], [.int ((gsV s_4 14 1) + x1), .ref 3], h)) rfl ?_
          obtain ⟨fs9, e9⟩ := RL_o hR (r := 3) (ci := 1) rfl
          refine gw_call (jj := 14) (As := [.ref 3, .int ((gsV s_4 14 1) + x1)]) (rest := []) (hk _ _ rfl) (fun _ => rfl) rfl rfl (Nat.le_of_ble_eq_true rfl) (gm_rcv_v rfl e9 rfl) ?_
          refine ge_imp (w h hR) (fun v9 h w => ?_)
          obtain ⟨s_9, hR, x_9, rfl, w⟩ := w
          show gw (gt_T c.1 c.2.1 c.2.2.1) c.2.2.2 d 95 (49, [some (.ref 0), some (.int x1), some (.int x_4), some (.int ((gsV s_4 14 1) + x1))], [.int x_9], h) _
          refine gw_br (c := x_9 = 0) (a := (52, [some (.ref 0), some (.int x1), some (.int x_4), some (.int ((gsV s_4 14 1) + x1))], [], h)) (b := (55, [some (.ref 0), some (.int x1), some (.int x_4), some (.int ((gsV s_4 14 1) + x1))], [], h)) (hk _ _ rfl) rfl ⟨fun z10 => ?_, fun z10 => ?_⟩
          · replace w := w.1 z10
            refine gw_pst hk 1 (st' := (54, [some (.ref 0), some (.int x1), some (.int x_4), some (.int ((gsV s_4 14 1) + x1))], [.int (-3)], h)) rfl ?_
            exact gw_ret (hk _ _ rfl) rfl ⟨_, hR, w⟩
          · replace w := w.2 z10
            refine gw_pst hk 1 (st' := (56, [some (.ref 0), some (.int x1), some (.int x_4), some (.int ((gsV s_4 14 1) + x1))], [.ref 0], h)) rfl ?_
            refine gw_gf (hk _ _ rfl) (RL_fR (n := 3) hR rfl) ?_
            refine gw_pst hk 1 (st' := (60, [some (.ref 0), some (.int x1), some (.int x_4), some (.int ((gsV s_4 14 1) + x1))], [.ref 0, .ref 3], h)) rfl ?_
            refine gw_gf (hk _ _ rfl) (RL_fR (n := 14) hR rfl) ?_
            refine gw_gf (hk _ _ rfl) (RL_fI hR rfl) ?_
            refine gw_pst hk 1 (st' := (67, [some (.ref 0), some (.int x1), some (.int x_4), some (.int ((gsV s_4 14 1) + x1))], [.int ((gsV s_4 14 1) + x1), .int (gsV s_9 14 1), .ref 3], h)) rfl ?_
            obtain ⟨fs14, e14⟩ := RL_o hR (r := 3) (ci := 1) rfl
            refine gw_call (jj := 19) (As := [.ref 3, .int (gsV s_9 14 1), .int ((gsV s_4 14 1) + x1)]) (rest := []) (hk _ _ rfl) (fun _ => rfl) rfl rfl (Nat.le_of_ble_eq_true rfl) (gm_rcv_v rfl e14 rfl) ?_
            refine ge_imp (w h hR) (fun v14 h w => ?_)
            obtain ⟨s_14, hR, x_14, rfl, w⟩ := w
            show gw (gt_T c.1 c.2.1 c.2.2.1) c.2.2.2 d 95 (70, [some (.ref 0), some (.int x1), some (.int x_4), some (.int ((gsV s_4 14 1) + x1))], [.int x_14], h) _
            refine gw_pst hk 2 (st' := (72, [some (.ref 0), some (.int x1), some (.int x_4), some (.int ((gsV s_4 14 1) + x1))], [.int x_4, .ref 0, .int x_14], h)) rfl ?_
            obtain ⟨fs15, e15⟩ := RL_o hR (r := 0) (ci := 9) rfl
            refine gw_call (jj := 148) (As := [.ref 0, .int x_4]) (rest := [.int x_14]) (hk _ _ rfl) (fun _ => rfl) rfl rfl (Nat.le_of_ble_eq_true rfl) (gm_rcv_v rfl e15 rfl) ?_
            refine ge_imp (w h hR) (fun v15 h w => ?_)
            obtain ⟨s_15, hR, q_15, rfl, w⟩ := w
            show gw (gt_T c.1 c.2.1 c.2.2.1) c.2.2.2 d 95 (75, [some (.ref 0), some (.int x1), some (.int x_4), some (.int ((gsV s_4 14 1) + x1))], [.ref q_15, .int x_14], h) _
            obtain ⟨z16, w⟩ := w
            obtain ⟨fs16, e16⟩ := RL_o hR (r := q_15) (ci := 2) z16
            refine gw_call (jj := 31) (As := [.ref q_15]) (rest := [.int x_14]) (hk _ _ rfl) (fun _ => rfl) rfl rfl (Nat.le_of_ble_eq_true rfl) (gm_rcv_v rfl e16 rfl) ?_
            refine ge_imp (w h hR) (fun v16 h w => ?_)
            obtain ⟨s_16, hR, x_16, rfl, w⟩ := w
            show gw (gt_T c.1 c.2.1 c.2.2.1) c.2.2.2 d 95 (78, [some (.ref 0), some (.int x1), some (.int x_4), some (.int ((gsV s_4 14 1) + x1))], [.int x_16, .int x_14], h) _
            refine gw_br (c := x_14 ≤ x_16) (a := (84, [some (.ref 0), some (.int x1), some (.int x_4), some (.int ((gsV s_4 14 1) + x1))], [], h)) (b := (81, [some (.ref 0), some (.int x1), some (.int x_4), some (.int ((gsV s_4 14 1) + x1))], [], h)) (hk _ _ rfl) rfl ⟨fun z17 => ?_, fun z17 => ?_⟩
            · replace w := w.1 z17
              refine gw_pst hk 1 (st' := (85, [some (.ref 0), some (.int x1), some (.int x_4), some (.int ((gsV s_4 14 1) + x1))], [.ref 0], h)) rfl ?_
              refine gw_gf (hk _ _ rfl) (RL_fR (n := 14) hR rfl) ?_
              refine gw_gf (hk _ _ rfl) (RL_fI hR rfl) ?_
              refine gw_pst hk 1 (st' := (92, [some (.ref 0), some (.int x1), some (.int x_4), some (.int ((gsV s_4 14 1) + x1))], [.ref 0, .int (gsV s_16 14 1)], h)) rfl ?_
              refine gw_gf (hk _ _ rfl) (RL_fR (n := 14) hR rfl) ?_
              refine gw_gf (hk _ _ rfl) (RL_fI hR rfl) ?_
              refine gw_pst hk 1 (st' := (99, [some (.ref 0), some (.int x1), some (.int x_4), some (.int ((gsV s_4 14 1) + x1))], [.int ((gsV s_4 14 1) + x1), .int (gsV s_16 14 2), .int (gsV s_16 14 1)], h)) rfl ?_
              refine gw_call (jj := 17) (As := [.int (gsV s_16 14 1), .int (gsV s_16 14 2), .int ((gsV s_4 14 1) + x1)]) (rest := []) (hk _ _ rfl) (fun _ => rfl) rfl rfl (Nat.le_of_ble_eq_true rfl) rfl ?_
              refine ge_imp (w h hR) (fun v22 h w => ?_)
              obtain ⟨s_22, hR, x_22, rfl, w⟩ := w
              show gw (gt_T c.1 c.2.1 c.2.2.1) c.2.2.2 d 95 (102, [some (.ref 0), some (.int x1), some (.int x_4), some (.int ((gsV s_4 14 1) + x1))], [.int x_22], h) _
              refine gw_br (c := x_22 = 0) (a := (108, [some (.ref 0), some (.int x1), some (.int x_4), some (.int ((gsV s_4 14 1) + x1))], [], h)) (b := (105, [some (.ref 0), some (.int x1), some (.int x_4), some (.int ((gsV s_4 14 1) + x1))], [], h)) (hk _ _ rfl) rfl ⟨fun z23 => ?_, fun z23 => ?_⟩
              · replace w := w.1 z23
                refine gw_pst hk 1 (st' := (109, [some (.ref 0), some (.int x1), some (.int x_4), some (.int ((gsV s_4 14 1) + x1))], [.ref 0], h)) rfl ?_
                refine gw_gf (hk _ _ rfl) (RL_fR (n := 14) hR rfl) ?_
                refine gw_pst hk 1 (st' := (113, [some (.ref 0), some (.int x1), some (.int x_4), some (.int ((gsV s_4 14 1) + x1))], [.int ((gsV s_4 14 1) + x1), .ref 14], h)) rfl ?_
                obtain ⟨fs25, e25⟩ := RL_o hR (r := 14) (ci := 6) rfl
                obtain ⟨l25, hR25⟩ := RL_pI (k := 1) (x := (gsV s_4 14 1) + x1) hR rfl e25
                refine gw_pf (hk _ _ rfl) e25 l25 rfl ?_
                generalize gm_put h _ _ = h at hR25 ⊢
                obtain ⟨s_25, es25⟩ : ∃ z, z = gs_V s_22 14 1 ((gsV s_4 14 1) + x1) := ⟨_, rfl⟩
                rw [← es25] at hR25
                replace w := w s_25 es25
                replace hR := hR25
                refine gw_pst hk 1 (st' := (117, [some (.ref 0), some (.int x1), some (.int x_4), some (.int ((gsV s_4 14 1) + x1))], [.ref 0], h)) rfl ?_
                refine gw_gf (hk _ _ rfl) (RL_fR (n := 14) hR rfl) ?_
                obtain ⟨fs27, e27⟩ := RL_o hR (r := 14) (ci := 6) rfl
                refine gw_call (jj := 58) (As := [.ref 14]) (rest := []) (hk _ _ rfl) (fun _ => rfl) rfl rfl (Nat.le_of_ble_eq_true rfl) (gm_rcv_v rfl e27 rfl) ?_
                refine ge_imp (w h hR) (fun v27 h w => ?_)
                obtain ⟨s_27, hR, rfl, w⟩ := w
                show gw (gt_T c.1 c.2.1 c.2.2.1) c.2.2.2 d 95 (123, [some (.ref 0), some (.int x1), some (.int x_4), some (.int ((gsV s_4 14 1) + x1))], [], h) _
                refine gw_pst hk 1 (st' := (124, [some (.ref 0), some (.int x1), some (.int x_4), some (.int ((gsV s_4 14 1) + x1))], [.ref 0], h)) rfl ?_
                refine gw_gf (hk _ _ rfl) (RL_fR (n := 34) hR rfl) ?_
                refine gw_pst hk 3 (st' := (130, [some (.ref 0), some (.int x1), some (.int x_4), some (.int ((gsV s_4 14 1) + x1))], [.ref 0, .long ((x_4 : Int32).toInt64), .ref 34], h)) rfl ?_
                refine gw_gf (hk _ _ rfl) (RL_fR (n := 14) hR rfl) ?_
                refine gw_gf (hk _ _ rfl) (RL_fI hR rfl) ?_
                refine gw_pst hk 1 (st' := (137, [some (.ref 0), some (.int x1), some (.int x_4), some (.int ((gsV s_4 14 1) + x1))], [.long ((gsV s_27 14 5 : Int32).toInt64), .long ((x_4 : Int32).toInt64), .ref 34], h)) rfl ?_
                obtain ⟨fs31, e31⟩ := RL_o hR (r := 34) (ci := 5) rfl
                refine gw_call (jj := 46) (As := [.ref 34, .long ((x_4 : Int32).toInt64), .long ((gsV s_27 14 5 : Int32).toInt64)]) (rest := []) (hk _ _ rfl) (fun _ => rfl) rfl rfl (Nat.le_of_ble_eq_true rfl) (gm_rcv_v rfl e31 rfl) ?_
                refine ge_imp (w h hR) (fun v31 h w => ?_)
                obtain ⟨s_31, hR, rfl, w⟩ := w
                show gw (gt_T c.1 c.2.1 c.2.2.1) c.2.2.2 d 95 (140, [some (.ref 0), some (.int x1), some (.int x_4), some (.int ((gsV s_4 14 1) + x1))], [], h) _
                refine gw_pst hk 1 (st' := (141, [some (.ref 0), some (.int x1), some (.int x_4), some (.int ((gsV s_4 14 1) + x1))], [.int ((gsV s_4 14 1) + x1)], h)) rfl ?_
                exact gw_ret (hk _ _ rfl) rfl ⟨_, hR, w⟩
              · replace w := w.2 z23
                refine gw_pst hk 1 (st' := (107, [some (.ref 0), some (.int x1), some (.int x_4), some (.int ((gsV s_4 14 1) + x1))], [.int (-5)], h)) rfl ?_
                exact gw_ret (hk _ _ rfl) rfl ⟨_, hR, w⟩
            · replace w := w.2 z17
              refine gw_pst hk 1 (st' := (83, [some (.ref 0), some (.int x1), some (.int x_4), some (.int ((gsV s_4 14 1) + x1))], [.int (-4)], h)) rfl ?_
              exact gw_ret (hk _ _ rfl) rfl ⟨_, hR, w⟩
/-- CommandByTurns.stay()I -/
def wm96 (c : gx) (d : Nat) (Post : Option Value → gs → Prop)  (s : gs) : Prop :=
  tE c d 84 [.ref 0] s (fun v1 s_1 => ∃ x_1 : Int32, v1 = some (.int x_1) ∧ tE c d 58 [.ref 14] s_1 (fun v3 s_3 => v3 = none ∧ tE c d 45 [.ref 34, .long ((x_1 : Int32).toInt64)] s_3 (fun v5 s_5 => v5 = none ∧ Post (some (.int (gsV s_5 14 5))) s_5)))
theorem okm96 (c : gx) (d : Nat) (Post : Option Value → gs → Prop)  (s : gs) (w : wm96 c d Post  s) : tE c (d + 1) 96 [.ref 0] s Post := by
  intro h hR
  have hk : ∀ pc i, gm_find gk_96 pc = some i → gm_code (gt_T c.1 c.2.1 c.2.2.1) 96 pc = some i := fun _ _ z => z
  unfold wm96 at w
  refine ge_of (by decide) (Nat.le_of_ble_eq_true rfl) ?_
  show gw (gt_T c.1 c.2.1 c.2.2.1) c.2.2.2 d 96 (0, [some (.ref 0), none], [], h) _
  refine gw_pst hk 1 (st' := (1, [some (.ref 0), none], [.ref 0], h)) rfl ?_
  obtain ⟨fs1, e1⟩ := RL_o hR (r := 0) (ci := 9) rfl
  refine gw_call (jj := 84) (As := [.ref 0]) (rest := []) (hk _ _ rfl) (fun _ => rfl) rfl rfl (Nat.le_of_ble_eq_true rfl) (gm_rcv_v rfl e1 rfl) ?_
  refine ge_imp (w h hR) (fun v1 h w => ?_)
  obtain ⟨s_1, hR, x_1, rfl, w⟩ := w
  show gw (gt_T c.1 c.2.1 c.2.2.1) c.2.2.2 d 96 (4, [some (.ref 0), none], [.int x_1], h) _
  refine gw_pst hk 2 (st' := (6, [some (.ref 0), some (.int x_1)], [.ref 0], h)) rfl ?_
  refine gw_gf (hk _ _ rfl) (RL_fR (n := 14) hR rfl) ?_
  obtain ⟨fs3, e3⟩ := RL_o hR (r := 14) (ci := 6) rfl
  refine gw_call (jj := 58) (As := [.ref 14]) (rest := []) (hk _ _ rfl) (fun _ => rfl) rfl rfl (Nat.le_of_ble_eq_true rfl) (gm_rcv_v rfl e3 rfl) ?_
  refine ge_imp (w h hR) (fun v3 h w => ?_)
  obtain ⟨s_3, hR, rfl, w⟩ := w
  show gw (gt_T c.1 c.2.1 c.2.2.1) c.2.2.2 d 96 (12, [some (.ref 0), some (.int x_1)], [], h) _
  refine gw_pst hk 1 (st' := (13, [some (.ref 0), some (.int x_1)], [.ref 0], h)) rfl ?_
  refine gw_gf (hk _ _ rfl) (RL_fR (n := 34) hR rfl) ?_
  refine gw_pst hk 2 (st' := (18, [some (.ref 0), some (.int x_1)], [.long ((x_1 : Int32).toInt64), .ref 34], h)) rfl ?_
  obtain ⟨fs5, e5⟩ := RL_o hR (r := 34) (ci := 5) rfl
  refine gw_call (jj := 45) (As := [.ref 34, .long ((x_1 : Int32).toInt64)]) (rest := []) (hk _ _ rfl) (fun _ => rfl) rfl rfl (Nat.le_of_ble_eq_true rfl) (gm_rcv_v rfl e5 rfl) ?_
  refine ge_imp (w h hR) (fun v5 h w => ?_)
  obtain ⟨s_5, hR, rfl, w⟩ := w
  show gw (gt_T c.1 c.2.1 c.2.2.1) c.2.2.2 d 96 (21, [some (.ref 0), some (.int x_1)], [], h) _
  refine gw_pst hk 1 (st' := (22, [some (.ref 0), some (.int x_1)], [.ref 0], h)) rfl ?_
  refine gw_gf (hk _ _ rfl) (RL_fR (n := 14) hR rfl) ?_
  refine gw_gf (hk _ _ rfl) (RL_fI hR rfl) ?_
  exact gw_ret (hk _ _ rfl) rfl ⟨_, hR, w⟩
def w97_56 (c : gx) (d : Nat) (Post : Option Value → gs → Prop)  (s : gs) : Prop :=
  Post (some (.int (-4))) s
theorem ok97_56 (c : gx) (d : Nat) (Post : Option Value → gs → Prop)   (s : gs) (w : w97_56 c d Post  s) : tV c d 97 56 [none, none, none] [] s Post := by
  intro h hR
  have hk : ∀ pc i, gm_find gk_97 pc = some i → gm_code (gt_T c.1 c.2.1 c.2.2.1) 97 pc = some i := fun _ _ z => z
  unfold w97_56 at w
  unfold gV
  refine gw_pst hk 1 (st' := (58, [none, none, none], [.int (-4)], h)) rfl ?_
  exact gw_ret (hk _ _ rfl) rfl ⟨_, hR, w⟩
/-- CommandByTurns.doBattle()I -/
def wm97 (c : gx) (d : Nat) (Post : Option Value → gs → Prop)  (s : gs) : Prop :=
  tE c d 84 [.ref 0] s (fun v1 s_1 => ∃ x_1 : Int32, v1 = some (.int x_1) ∧ ((x_1 = (-1) → Post (some (.int (-2))) s_1) ∧ (¬ (x_1 = (-1)) → tE c d 16 [.int (gsV s_1 14 1), .int (gsV s_1 14 2)] s_1 (fun v7 s_7 => ∃ x_7 : Int32, v7 = some (.int x_7) ∧ ((x_7 = 0 → Post (some (.int (-3))) s_7) ∧ (¬ (x_7 = 0) → (((gsV s_7 14 3) = 0 → w97_56 c d Post s_7) ∧ (¬ ((gsV s_7 14 3) = 0) → (((gsV s_7 14 4) = 0 → w97_56 c d Post s_7) ∧ (¬ ((gsV s_7 14 4) = 0) → tE c d 150 [.ref 0, .ref 14, .int (gsV s_7 14 1), .int x_1, .int (gsV s_7 14 0)] s_7 (fun v20 s_20 => ∃ x_20 : Int32, v20 = some (.int x_20) ∧ tE c d 56 [.ref 14, .int x_20] s_20 (fun v22 s_22 => v22 = none ∧ tE c d 46 [.ref 34, .long ((gsV s_22 14 3 : Int32).toInt64), .long ((gsV s_22 14 4 : Int32).toInt64)] s_22 (fun v28 s_28 => v28 = none ∧ tE c d 58 [.ref 14] s_28 (fun v30 s_30 => v30 = none ∧ Post (some (.int (501 + x_20))) s_30))))))))))))))
theorem okm97 (c : gx) (d : Nat) (Post : Option Value → gs → Prop)  (s : gs) (w : wm97 c d Post  s) : tE c (d + 1) 97 [.ref 0] s Post := by
  intro h hR
  have hk : ∀ pc i, gm_find gk_97 pc = some i → gm_code (gt_T c.1 c.2.1 c.2.2.1) 97 pc = some i := fun _ _ z => z
  unfold wm97 at w
  refine ge_of (by decide) (Nat.le_of_ble_eq_true rfl) ?_
  show gw (gt_T c.1 c.2.1 c.2.2.1) c.2.2.2 d 97 (0, [some (.ref 0), none, none], [], h) _
  refine gw_pst hk 1 (st' := (1, [some (.ref 0), none, none], [.ref 0], h)) rfl ?_
  obtain ⟨fs1, e1⟩ := RL_o hR (r := 0) (ci := 9) rfl
  refine gw_call (jj := 84) (As := [.ref 0]) (rest := []) (hk _ _ rfl) (fun _ => rfl) rfl rfl (Nat.le_of_ble_eq_true rfl) (gm_rcv_v rfl e1 rfl) ?_
  refine ge_imp (w h hR) (fun v1 h w => ?_)
  obtain ⟨s_1, hR, x_1, rfl, w⟩ := w
  show gw (gt_T c.1 c.2.1 c.2.2.1) c.2.2.2 d 97 (4, [some (.ref 0), none, none], [.int x_1], h) _
  refine gw_pst hk 3 (st' := (7, [some (.ref 0), some (.int x_1), none], [.int (-1), .int x_1], h)) rfl ?_
  refine gw_br (c := x_1 = (-1)) (a := (10, [some (.ref 0), some (.int x_1), none], [], h)) (b := (13, [some (.ref 0), some (.int x_1), none], [], h)) (hk _ _ rfl) rfl ⟨fun z2 => ?_, fun z2 => ?_⟩
  · replace w := w.1 z2
    refine gw_pst hk 1 (st' := (12, [some (.ref 0), some (.int x_1), none], [.int (-2)], h)) rfl ?_
    exact gw_ret (hk _ _ rfl) rfl ⟨_, hR, w⟩
  · replace w := w.2 z2
    refine gw_pst hk 1 (st' := (14, [some (.ref 0), some (.int x_1), none], [.ref 0], h)) rfl ?_
    refine gw_gf (hk _ _ rfl) (RL_fR (n := 14) hR rfl) ?_
    refine gw_gf (hk _ _ rfl) (RL_fI hR rfl) ?_
    refine gw_pst hk 1 (st' := (21, [some (.ref 0), some (.int x_1), none], [.ref 0, .int (gsV s_1 14 1)], h)) rfl ?_
    refine gw_gf (hk _ _ rfl) (RL_fR (n := 14) hR rfl) ?_
    refine gw_gf (hk _ _ rfl) (RL_fI hR rfl) ?_
    refine gw_call (jj := 16) (As := [.int (gsV s_1 14 1), .int (gsV s_1 14 2)]) (rest := []) (hk _ _ rfl) (fun _ => rfl) rfl rfl (Nat.le_of_ble_eq_true rfl) rfl ?_
    refine ge_imp (w h hR) (fun v7 h w => ?_)
    obtain ⟨s_7, hR, x_7, rfl, w⟩ := w
    show gw (gt_T c.1 c.2.1 c.2.2.1) c.2.2.2 d 97 (30, [some (.ref 0), some (.int x_1), none], [.int x_7], h) _
    refine gw_br (c := x_7 = 0) (a := (33, [some (.ref 0), some (.int x_1), none], [], h)) (b := (36, [some (.ref 0), some (.int x_1), none], [], h)) (hk _ _ rfl) rfl ⟨fun z8 => ?_, fun z8 => ?_⟩
    · replace w := w.1 z8
      refine gw_pst hk 1 (st' := (35, [some (.ref 0), some (.int x_1), none], [.int (-3)], h)) rfl ?_
      exact gw_ret (hk _ _ rfl) rfl ⟨_, hR, w⟩
    · replace w := w.2 z8
      refine gw_pst hk 1 (st' := (37, [some (.ref 0), some (.int x_1), none], [.ref 0], h)) rfl ?_
      refine gw_gf (hk _ _ rfl) (RL_fR (n := 14) hR rfl) ?_
      refine gw_gf (hk _ _ rfl) (RL_fI hR rfl) ?_
      refine gw_br (c := (gsV s_7 14 3) = 0) (a := (56, [some (.ref 0), some (.int x_1), none], [], h)) (b := (46, [some (.ref 0), some (.int x_1), none], [], h)) (hk _ _ rfl) rfl ⟨fun z11 => ?_, fun z11 => ?_⟩
      · replace w := w.1 z11
        refine gw_le (L' := [none, none, none]) (gm_le_n _ (gm_le_n _ (gm_le_k _ gm_le_nil))) ?_
        exact ok97_56 c d Post _ w _ hR
      · replace w := w.2 z11
        refine gw_pst hk 1 (st' := (47, [some (.ref 0), some (.int x_1), none], [.ref 0], h)) rfl ?_
        refine gw_gf (hk _ _ rfl) (RL_fR (n := 14) hR rfl) ?_
        refine gw_gf (hk _ _ rfl) (RL_fI hR rfl) ?_
        refine gw_br (c := (gsV s_7 14 4) = 0) (a := (56, [some (.ref 0), some (.int x_1), none], [], h)) (b := (59, [some (.ref 0), some (.int x_1), none], [], h)) (hk _ _ rfl) rfl ⟨fun z14 => ?_, fun z14 => ?_⟩
        · replace w := w.1 z14
          refine gw_le (L' := [none, none, none]) (gm_le_n _ (gm_le_n _ (gm_le_k _ gm_le_nil))) ?_
          exact ok97_56 c d Post _ w _ hR
        · replace w := w.2 z14
          refine gw_pst hk 2 (st' := (61, [some (.ref 0), some (.int x_1), none], [.ref 0, .ref 0], h)) rfl ?_
          refine gw_gf (hk _ _ rfl) (RL_fR (n := 14) hR rfl) ?_
          refine gw_pst hk 1 (st' := (65, [some (.ref 0), some (.int x_1), none], [.ref 0, .ref 14, .ref 0], h)) rfl ?_
          refine gw_gf (hk _ _ rfl) (RL_fR (n := 14) hR rfl) ?_
          refine gw_gf (hk _ _ rfl) (RL_fI hR rfl) ?_
          refine gw_pst hk 2 (st' := (73, [some (.ref 0), some (.int x_1), none], [.ref 0, .int x_1, .int (gsV s_7 14 1), .ref 14, .ref 0], h)) rfl ?_
          refine gw_gf (hk _ _ rfl) (RL_fR (n := 14) hR rfl) ?_
          refine gw_gf (hk _ _ rfl) (RL_fI hR rfl) ?_
          obtain ⟨fs20, e20⟩ := RL_o hR (r := 0) (ci := 9) rfl
          refine gw_call (jj := 150) (As := [.ref 0, .ref 14, .int (gsV s_7 14 1), .int x_1, .int (gsV s_7 14 0)]) (rest := []) (hk _ _ rfl) (fun _ => rfl) rfl rfl (Nat.le_of_ble_eq_true rfl) (gm_rcv_v rfl e20 rfl) ?_
          refine ge_imp (w h hR) (fun v20 h w => ?_)
          obtain ⟨s_20, hR, x_20, rfl, w⟩ := w
          show gw (gt_T c.1 c.2.1 c.2.2.1) c.2.2.2 d 97 (82, [some (.ref 0), some (.int x_1), none], [.int x_20], h) _
          refine gw_pst hk 2 (st' := (84, [some (.ref 0), some (.int x_1), some (.int x_20)], [.ref 0], h)) rfl ?_
          refine gw_gf (hk _ _ rfl) (RL_fR (n := 14) hR rfl) ?_
          refine gw_pst hk 1 (st' := (88, [some (.ref 0), some (.int x_1), some (.int x_20)], [.int x_20, .ref 14], h)) rfl ?_
          obtain ⟨fs22, e22⟩ := RL_o hR (r := 14) (ci := 6) rfl
          refine gw_call (jj := 56) (As := [.ref 14, .int x_20]) (rest := []) (hk _ _ rfl) (fun _ => rfl) rfl rfl (Nat.le_of_ble_eq_true rfl) (gm_rcv_v rfl e22 rfl) ?_
          refine ge_imp (w h hR) (fun v22 h w => ?_)
          obtain ⟨s_22, hR, rfl, w⟩ := w
          show gw (gt_T c.1 c.2.1 c.2.2.1) c.2.2.2 d 97 (91, [some (.ref 0), some (.int x_1), some (.int x_20)], [], h) _
          refine gw_pst hk 1 (st' := (92, [some (.ref 0), some (.int x_1), some (.int x_20)], [.ref 0], h)) rfl ?_
          refine gw_gf (hk _ _ rfl) (RL_fR (n := 34) hR rfl) ?_
          refine gw_pst hk 1 (st' := (96, [some (.ref 0), some (.int x_1), some (.int x_20)], [.ref 0, .ref 34], h)) rfl ?_
          refine gw_gf (hk _ _ rfl) (RL_fR (n := 14) hR rfl) ?_
          refine gw_gf (hk _ _ rfl) (RL_fI hR rfl) ?_
          refine gw_pst hk 2 (st' := (104, [some (.ref 0), some (.int x_1), some (.int x_20)], [.ref 0, .long ((gsV s_22 14 3 : Int32).toInt64), .ref 34], h)) rfl ?_
          refine gw_gf (hk _ _ rfl) (RL_fR (n := 14) hR rfl) ?_
          refine gw_gf (hk _ _ rfl) (RL_fI hR rfl) ?_
          refine gw_pst hk 1 (st' := (111, [some (.ref 0), some (.int x_1), some (.int x_20)], [.long ((gsV s_22 14 4 : Int32).toInt64), .long ((gsV s_22 14 3 : Int32).toInt64), .ref 34], h)) rfl ?_
          obtain ⟨fs28, e28⟩ := RL_o hR (r := 34) (ci := 5) rfl
          refine gw_call (jj := 46) (As := [.ref 34, .long ((gsV s_22 14 3 : Int32).toInt64), .long ((gsV s_22 14 4 : Int32).toInt64)]) (rest := []) (hk _ _ rfl) (fun _ => rfl) rfl rfl (Nat.le_of_ble_eq_true rfl) (gm_rcv_v rfl e28 rfl) ?_
          refine ge_imp (w h hR) (fun v28 h w => ?_)
          obtain ⟨s_28, hR, rfl, w⟩ := w
          show gw (gt_T c.1 c.2.1 c.2.2.1) c.2.2.2 d 97 (114, [some (.ref 0), some (.int x_1), some (.int x_20)], [], h) _
          refine gw_pst hk 1 (st' := (115, [some (.ref 0), some (.int x_1), some (.int x_20)], [.ref 0], h)) rfl ?_
          refine gw_gf (hk _ _ rfl) (RL_fR (n := 14) hR rfl) ?_
          obtain ⟨fs30, e30⟩ := RL_o hR (r := 14) (ci := 6) rfl
          refine gw_call (jj := 58) (As := [.ref 14]) (rest := []) (hk _ _ rfl) (fun _ => rfl) rfl rfl (Nat.le_of_ble_eq_true rfl) (gm_rcv_v rfl e30 rfl) ?_
          refine ge_imp (w h hR) (fun v30 h w => ?_)
          obtain ⟨s_30, hR, rfl, w⟩ := w
          show gw (gt_T c.1 c.2.1 c.2.2.1) c.2.2.2 d 97 (121, [some (.ref 0), some (.int x_1), some (.int x_20)], [], h) _
          refine gw_pst hk 3 (st' := (126, [some (.ref 0), some (.int x_1), some (.int x_20)], [.int (501 + x_20)], h)) rfl ?_
          exact gw_ret (hk _ _ rfl) rfl ⟨_, hR, w⟩
/-- CommandByTurns.moveFoe(I)I -/
def wm98 (c : gx) (d : Nat) (Post : Option Value → gs → Prop) (x1 : Int32) (s : gs) : Prop :=
  tE c d 14 [.ref 3, .int x1] s (fun v2 s_2 => ∃ x_2 : Int32, v2 = some (.int x_2) ∧ ((x_2 = 0 → Post (some (.int (-1))) s_2) ∧ (¬ (x_2 = 0) → ∀ s_7 : gs, s_7 = gs_V s_2 14 2 x1 → Post (some (.int (gsV s_2 14 2))) s_7)))
theorem okm98 (c : gx) (d : Nat) (Post : Option Value → gs → Prop) (x1 : Int32) (s : gs) (w : wm98 c d Post x1 s) : tE c (d + 1) 98 [.ref 0, .int x1] s Post := by
  intro h hR
  have hk : ∀ pc i, gm_find gk_98 pc = some i → gm_code (gt_T c.1 c.2.1 c.2.2.1) 98 pc = some i := fun _ _ z => z
  unfold wm98 at w
  refine ge_of (by decide) (Nat.le_of_ble_eq_true rfl) ?_
  show gw (gt_T c.1 c.2.1 c.2.2.1) c.2.2.2 d 98 (0, [some (.ref 0), some (.int x1), none], [], h) _
  refine gw_pst hk 1 (st' := (1, [some (.ref 0), some (.int x1), none], [.ref 0], h)) rfl ?_
  refine gw_gf (hk _ _ rfl) (RL_fR (n := 3) hR rfl) ?_
  refine gw_pst hk 1 (st' := (5, [some (.ref 0), some (.int x1), none], [.int x1, .ref 3], h)) rfl ?_
  obtain ⟨fs2, e2⟩ := RL_o hR (r := 3) (ci := 1) rfl
  refine gw_call (jj := 14) (As := [.ref 3, .int x1]) (rest := []) (hk _ _ rfl) (fun _ => rfl) rfl rfl (Nat.le_of_ble_eq_true rfl) (gm_rcv_v rfl e2 rfl) ?_
  refine ge_imp (w h hR) (fun v2 h w => ?_)
  obtain ⟨s_2, hR, x_2, rfl, w⟩ := w
  show gw (gt_T c.1 c.2.1 c.2.2.1) c.2.2.2 d 98 (8, [some (.ref 0), some (.int x1), none], [.int x_2], h) _
  refine gw_br (c := x_2 = 0) (a := (11, [some (.ref 0), some (.int x1), none], [], h)) (b := (13, [some (.ref 0), some (.int x1), none], [], h)) (hk _ _ rfl) rfl ⟨fun z3 => ?_, fun z3 => ?_⟩
  · replace w := w.1 z3
    refine gw_pst hk 1 (st' := (12, [some (.ref 0), some (.int x1), none], [.int (-1)], h)) rfl ?_
    exact gw_ret (hk _ _ rfl) rfl ⟨_, hR, w⟩
  · replace w := w.2 z3
    refine gw_pst hk 1 (st' := (14, [some (.ref 0), some (.int x1), none], [.ref 0], h)) rfl ?_
    refine gw_gf (hk _ _ rfl) (RL_fR (n := 14) hR rfl) ?_
    refine gw_gf (hk _ _ rfl) (RL_fI hR rfl) ?_
    refine gw_pst hk 2 (st' := (22, [some (.ref 0), some (.int x1), some (.int (gsV s_2 14 2))], [.ref 0], h)) rfl ?_
    refine gw_gf (hk _ _ rfl) (RL_fR (n := 14) hR rfl) ?_
    refine gw_pst hk 1 (st' := (26, [some (.ref 0), some (.int x1), some (.int (gsV s_2 14 2))], [.int x1, .ref 14], h)) rfl ?_
    obtain ⟨fs7, e7⟩ := RL_o hR (r := 14) (ci := 6) rfl
    obtain ⟨l7, hR7⟩ := RL_pI (k := 2) (x := x1) hR rfl e7
    refine gw_pf (hk _ _ rfl) e7 l7 rfl ?_
    generalize gm_put h _ _ = h at hR7 ⊢
    obtain ⟨s_7, es7⟩ : ∃ z, z = gs_V s_2 14 2 x1 := ⟨_, rfl⟩
    rw [← es7] at hR7
    replace w := w s_7 es7
    replace hR := hR7
    refine gw_pst hk 1 (st' := (30, [some (.ref 0), some (.int x1), some (.int (gsV s_2 14 2))], [.int (gsV s_2 14 2)], h)) rfl ?_
    exact gw_ret (hk _ _ rfl) rfl ⟨_, hR, w⟩
def w99_17 (c : gx) (d : Nat) (Post : Option Value → gs → Prop)  (s : gs) : Prop :=
  Post (some (.int (-1))) s
theorem ok99_17 (c : gx) (d : Nat) (Post : Option Value → gs → Prop)   (s : gs) (w : w99_17 c d Post  s) : tV c d 99 17 [none, none] [] s Post := by
  intro h hR
  have hk : ∀ pc i, gm_find gk_99 pc = some i → gm_code (gt_T c.1 c.2.1 c.2.2.1) 99 pc = some i := fun _ _ z => z
  unfold w99_17 at w
  unfold gV
  refine gw_pst hk 1 (st' := (18, [none, none], [.int (-1)], h)) rfl ?_
  exact gw_ret (hk _ _ rfl) rfl ⟨_, hR, w⟩
/-- CommandByTurns.turnDay(I)I -/
def wm99 (c : gx) (d : Nat) (Post : Option Value → gs → Prop) (x1 : Int32) (s : gs) : Prop :=
  ((x1 < (gsV s 14 0) → w99_17 c d Post s) ∧ (¬ (x1 < (gsV s 14 0)) → ((x1 ≤ 99 → tE c d 53 [.ref 14, .int x1] s (fun v6 s_6 => v6 = none ∧ tE c d 54 [.ref 14, .int (gsV s_6 14 0)] s_6 (fun v10 s_10 => ∃ x_10 : Int32, v10 = some (.int x_10) ∧ Post (some (.int x_10)) s_10))) ∧ (¬ (x1 ≤ 99) → w99_17 c d Post s))))
theorem okm99 (c : gx) (d : Nat) (Post : Option Value → gs → Prop) (x1 : Int32) (s : gs) (w : wm99 c d Post x1 s) : tE c (d + 1) 99 [.ref 0, .int x1] s Post := by
  intro h hR
  have hk : ∀ pc i, gm_find gk_99 pc = some i → gm_code (gt_T c.1 c.2.1 c.2.2.1) 99 pc = some i := fun _ _ z => z
  unfold wm99 at w
  refine ge_of (by decide) (Nat.le_of_ble_eq_true rfl) ?_
  show gw (gt_T c.1 c.2.1 c.2.2.1) c.2.2.2 d 99 (0, [some (.ref 0), some (.int x1)], [], h) _
  refine gw_pst hk 2 (st' := (2, [some (.ref 0), some (.int x1)], [.ref 0, .int x1], h)) rfl ?_
  refine gw_gf (hk _ _ rfl) (RL_fR (n := 14) hR rfl) ?_
  refine gw_gf (hk _ _ rfl) (RL_fI hR rfl) ?_
  refine gw_br (c := x1 < (gsV s 14 0)) (a := (17, [some (.ref 0), some (.int x1)], [], h)) (b := (11, [some (.ref 0), some (.int x1)], [], h)) (hk _ _ rfl) rfl ⟨fun z3 => ?_, fun z3 => ?_⟩
  · replace w := w.1 z3
    refine gw_le (L' := [none, none]) (gm_le_n _ (gm_le_n _ gm_le_nil)) ?_
    exact ok99_17 c d Post _ w _ hR
  · replace w := w.2 z3
    refine gw_pst hk 2 (st' := (14, [some (.ref 0), some (.int x1)], [.int 99, .int x1], h)) rfl ?_
    refine gw_br (c := x1 ≤ 99) (a := (19, [some (.ref 0), some (.int x1)], [], h)) (b := (17, [some (.ref 0), some (.int x1)], [], h)) (hk _ _ rfl) rfl ⟨fun z4 => ?_, fun z4 => ?_⟩
    · replace w := w.1 z4
      refine gw_pst hk 1 (st' := (20, [some (.ref 0), some (.int x1)], [.ref 0], h)) rfl ?_
      refine gw_gf (hk _ _ rfl) (RL_fR (n := 14) hR rfl) ?_
      refine gw_pst hk 1 (st' := (24, [some (.ref 0), some (.int x1)], [.int x1, .ref 14], h)) rfl ?_
      obtain ⟨fs6, e6⟩ := RL_o hR (r := 14) (ci := 6) rfl
      refine gw_call (jj := 53) (As := [.ref 14, .int x1]) (rest := []) (hk _ _ rfl) (fun _ => rfl) rfl rfl (Nat.le_of_ble_eq_true rfl) (gm_rcv_v rfl e6 rfl) ?_
      refine ge_imp (w h hR) (fun v6 h w => ?_)
      obtain ⟨s_6, hR, rfl, w⟩ := w
      show gw (gt_T c.1 c.2.1 c.2.2.1) c.2.2.2 d 99 (27, [some (.ref 0), some (.int x1)], [], h) _
      refine gw_pst hk 1 (st' := (28, [some (.ref 0), some (.int x1)], [.ref 0], h)) rfl ?_
      refine gw_gf (hk _ _ rfl) (RL_fR (n := 14) hR rfl) ?_
      refine gw_pst hk 1 (st' := (32, [some (.ref 0), some (.int x1)], [.ref 0, .ref 14], h)) rfl ?_
      refine gw_gf (hk _ _ rfl) (RL_fR (n := 14) hR rfl) ?_
      refine gw_gf (hk _ _ rfl) (RL_fI hR rfl) ?_
      obtain ⟨fs10, e10⟩ := RL_o hR (r := 14) (ci := 6) rfl
      refine gw_call (jj := 54) (As := [.ref 14, .int (gsV s_6 14 0)]) (rest := []) (hk _ _ rfl) (fun _ => rfl) rfl rfl (Nat.le_of_ble_eq_true rfl) (gm_rcv_v rfl e10 rfl) ?_
      refine ge_imp (w h hR) (fun v10 h w => ?_)
      obtain ⟨s_10, hR, x_10, rfl, w⟩ := w
      show gw (gt_T c.1 c.2.1 c.2.2.1) c.2.2.2 d 99 (41, [some (.ref 0), some (.int x1)], [.int x_10], h) _
      exact gw_ret (hk _ _ rfl) rfl ⟨_, hR, w⟩
    · replace w := w.2 z4
      refine gw_le (L' := [none, none]) (gm_le_n _ (gm_le_n _ gm_le_nil)) ?_
      exact ok99_17 c d Post _ w _ hR
