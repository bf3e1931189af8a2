/-! What must hold for a run to end with Post: by program (wip/whole/gen_wp.py). -/
def w118_101 (c : gx) (d : Nat) (Post : Option Value → gs → Prop) (K41 : Int32 → gs → Prop) (x1 : Int32) (rs0 : Nat) (xs1 : Int32) (xs2 : Int32) (s : gs) : Prop :=
  ∃ n1, gs_isA rs0 0 n1 = true ∧ vp_in xs1 n1 ∧ ∀ s_1 : gs, s_1 = gs_A s rs0 (xs1 : Int32).toNatClampNeg (vp_nar .int xs2) → K41 (x1 + 1) s_1
theorem ok118_101 (c : gx) (d : Nat) (Post : Option Value → gs → Prop) (K41 : Int32 → gs → Prop)  (hK41 : ∀ (x1 : Int32) (s : gs), K41 x1 s → tV c d 118 41 [some (.ref 0), some (.int x1), none] [] s Post) (x1 : Int32) (rs0 : Nat) (xs1 : Int32) (xs2 : Int32) (s : gs) (w : w118_101 c d Post K41 x1 rs0 xs1 xs2 s) : tV c d 118 101 [some (.ref 0), some (.int x1), none] [.int xs2, .int xs1, .ref rs0] s Post := by
  intro h hR
  have hk : ∀ pc i, gm_find gk_118 pc = some i → gm_code (gt_T c.1 c.2.1 c.2.2.1) 118 pc = some i := fun _ _ z => z
  unfold w118_101 at w
  unfold gV
  obtain ⟨n1, a1, b1, w⟩ := w
  have hR1 := RL_pA (a := rs0) (t := 0) (n := n1) (k := (xs1 : Int32).toNatClampNeg) (x := (vp_nar .int xs2)) hR a1 (by decide)
  refine gw_ast (hk _ _ rfl) (Or.inl ⟨rfl, rfl, rfl⟩) (RL_a (t := 0) (n := n1) hR a1 (by decide)) b1 ?_
  generalize gm_put h _ _ = h at hR1 ⊢
  obtain ⟨s_1, es1⟩ : ∃ z, z = gs_A s rs0 (xs1 : Int32).toNatClampNeg (vp_nar .int xs2) := ⟨_, rfl⟩
  rw [← es1] at hR1
  replace w := w s_1 es1
  replace hR := hR1
  refine gw_pst hk 2 (st' := (41, [some (.ref 0), some (.int (x1 + 1)), none], [], h)) rfl ?_
  exact hK41 _ _ w _ hR
def w118_78 (c : gx) (d : Nat) (Post : Option Value → gs → Prop) (K41 : Int32 → gs → Prop) (x1 : Int32) (x2 : Int32) (rs0 : Nat) (xs1 : Int32) (xs2 : Int32) (s : gs) : Prop :=
  ∃ n1, gs_isA rs0 0 n1 = true ∧ vp_in xs1 n1 ∧ ∀ s_1 : gs, s_1 = gs_A s rs0 (xs1 : Int32).toNatClampNeg (vp_nar .int xs2) → ((x2 = 0 → w118_101 c d Post K41 x1 38 x1 0 s_1) ∧ (¬ (x2 = 0) → tE c d 112 [.ref 0, .int 1, .int x1] s_1 (fun v5 s_5 => ∃ x_5 : Int32, v5 = some (.int x_5) ∧ w118_101 c d Post K41 x1 38 x1 x_5 s_5)))
theorem ok118_78 (c : gx) (d : Nat) (Post : Option Value → gs → Prop) (K41 : Int32 → gs → Prop)  (hK41 : ∀ (x1 : Int32) (s : gs), K41 x1 s → tV c d 118 41 [some (.ref 0), some (.int x1), none] [] s Post) (x1 : Int32) (x2 : Int32) (rs0 : Nat) (xs1 : Int32) (xs2 : Int32) (s : gs) (w : w118_78 c d Post K41 x1 x2 rs0 xs1 xs2 s) : tV c d 118 78 [some (.ref 0), some (.int x1), some (.int x2)] [.int xs2, .int xs1, .ref rs0] s Post := by
  intro h hR
  have hk : ∀ pc i, gm_find gk_118 pc = some i → gm_code (gt_T c.1 c.2.1 c.2.2.1) 118 pc = some i := fun _ _ z => z
  unfold w118_78 at w
  unfold gV
  obtain ⟨n1, a1, b1, w⟩ := w
  have hR1 := RL_pA (a := rs0) (t := 0) (n := n1) (k := (xs1 : Int32).toNatClampNeg) (x := (vp_nar .int xs2)) hR a1 (by decide)
  refine gw_ast (hk _ _ rfl) (Or.inl ⟨rfl, rfl, rfl⟩) (RL_a (t := 0) (n := n1) hR a1 (by decide)) b1 ?_
  generalize gm_put h _ _ = h at hR1 ⊢
  obtain ⟨s_1, es1⟩ : ∃ z, z = gs_A s rs0 (xs1 : Int32).toNatClampNeg (vp_nar .int xs2) := ⟨_, rfl⟩
  rw [← es1] at hR1
  replace w := w s_1 es1
  replace hR := hR1
  refine gw_pst hk 1 (st' := (80, [some (.ref 0), some (.int x1), some (.int x2)], [.ref 0], h)) rfl ?_
  refine gw_gf (hk _ _ rfl) (RL_fR (n := 36) hR rfl) ?_
  refine gw_gf (hk _ _ rfl) (RL_fR (n := 38) hR rfl) ?_
  refine gw_pst hk 2 (st' := (88, [some (.ref 0), some (.int x1), some (.int x2)], [.int x2, .int x1, .ref 38], h)) rfl ?_
  refine gw_br (c := x2 = 0) (a := (100, [some (.ref 0), some (.int x1), some (.int x2)], [.int x1, .ref 38], h)) (b := (91, [some (.ref 0), some (.int x1), some (.int x2)], [.int x1, .ref 38], h)) (hk _ _ rfl) rfl ⟨fun z4 => ?_, fun z4 => ?_⟩
  · replace w := w.1 z4
    refine gw_pst hk 1 (st' := (101, [some (.ref 0), some (.int x1), some (.int x2)], [.int 0, .int x1, .ref 38], h)) rfl ?_
    refine gw_le (L' := [some (.ref 0), some (.int x1), none]) (gm_le_k _ (gm_le_k _ (gm_le_n _ gm_le_nil))) ?_
    exact ok118_101 c d Post K41 hK41 _ _ _ _ _ w _ hR
  · replace w := w.2 z4
    refine gw_pst hk 3 (st' := (94, [some (.ref 0), some (.int x1), some (.int x2)], [.int x1, .int 1, .ref 0, .int x1, .ref 38], h)) rfl ?_
    obtain ⟨fs5, e5⟩ := RL_o hR (r := 0) (ci := 9) rfl
    refine gw_call (jj := 112) (As := [.ref 0, .int 1, .int x1]) (rest := [.int x1, .ref 38]) (hk _ _ rfl) (fun _ => rfl) rfl rfl (Nat.le_of_ble_eq_true rfl) (gm_rcv_v rfl e5 rfl) ?_
    refine ge_imp (w h hR) (fun v5 h w => ?_)
    obtain ⟨s_5, hR, x_5, rfl, w⟩ := w
    show gw (gt_T c.1 c.2.1 c.2.2.1) c.2.2.2 d 118 (97, [some (.ref 0), some (.int x1), some (.int x2)], [.int x_5, .int x1, .ref 38], h) _
    refine gw_pst hk 1 (st' := (101, [some (.ref 0), some (.int x1), some (.int x2)], [.int x_5, .int x1, .ref 38], h)) rfl ?_
    refine gw_le (L' := [some (.ref 0), some (.int x1), none]) (gm_le_k _ (gm_le_k _ (gm_le_n _ gm_le_nil))) ?_
    exact ok118_101 c d Post K41 hK41 _ _ _ _ _ w _ hR
def wb118_41 (c : gx) (d : Nat) (Post : Option Value → gs → Prop) (K41 : Int32 → gs → Prop) (x1 : Int32) (s : gs) : Prop :=
  ((12 ≤ x1 → Post none s) ∧ (¬ (12 ≤ x1) → tE c d 14 [.ref 3, .int x1] s (fun v3 s_3 => ∃ x_3 : Int32, v3 = some (.int x_3) ∧ ((x_3 = 0 → w118_78 c d Post K41 x1 x_3 37 x1 0 s_3) ∧ (¬ (x_3 = 0) → tE c d 112 [.ref 0, .int 0, .int x1] s_3 (fun v7 s_7 => ∃ x_7 : Int32, v7 = some (.int x_7) ∧ w118_78 c d Post K41 x1 x_3 37 x1 x_7 s_7))))))
theorem okb118_41 (c : gx) (d : Nat) (Post : Option Value → gs → Prop) (K41 : Int32 → gs → Prop)  (hK41 : ∀ (x1 : Int32) (s : gs), K41 x1 s → tV c d 118 41 [some (.ref 0), some (.int x1), none] [] s Post) (x1 : Int32) (s : gs) (w : wb118_41 c d Post K41 x1 s) : tV c d 118 41 [some (.ref 0), some (.int x1), none] [] s Post := by
  intro h hR
  have hk : ∀ pc i, gm_find gk_118 pc = some i → gm_code (gt_T c.1 c.2.1 c.2.2.1) 118 pc = some i := fun _ _ z => z
  unfold wb118_41 at w
  unfold gV
  refine gw_pst hk 2 (st' := (44, [some (.ref 0), some (.int x1), none], [.int 12, .int x1], h)) rfl ?_
  refine gw_br (c := 12 ≤ x1) (a := (108, [some (.ref 0), some (.int x1), none], [], h)) (b := (47, [some (.ref 0), some (.int x1), none], [], h)) (hk _ _ rfl) rfl ⟨fun z1 => ?_, fun z1 => ?_⟩
  · replace w := w.1 z1
    exact gw_ret (hk _ _ rfl) rfl ⟨_, hR, w⟩
  · replace w := w.2 z1
    refine gw_pst hk 1 (st' := (48, [some (.ref 0), some (.int x1), none], [.ref 0], h)) rfl ?_
    refine gw_gf (hk _ _ rfl) (RL_fR (n := 3) hR rfl) ?_
    refine gw_pst hk 1 (st' := (52, [some (.ref 0), some (.int x1), none], [.int x1, .ref 3], h)) rfl ?_
    obtain ⟨fs3, e3⟩ := RL_o hR (r := 3) (ci := 1) rfl
    refine gw_call (jj := 14) (As := [.ref 3, .int x1]) (rest := []) (hk _ _ rfl) (fun _ => rfl) rfl rfl (Nat.le_of_ble_eq_true rfl) (gm_rcv_v rfl e3 rfl) ?_
    refine ge_imp (w h hR) (fun v3 h w => ?_)
    obtain ⟨s_3, hR, x_3, rfl, w⟩ := w
    show gw (gt_T c.1 c.2.1 c.2.2.1) c.2.2.2 d 118 (55, [some (.ref 0), some (.int x1), none], [.int x_3], h) _
    refine gw_pst hk 2 (st' := (57, [some (.ref 0), some (.int x1), some (.int x_3)], [.ref 0], h)) rfl ?_
    refine gw_gf (hk _ _ rfl) (RL_fR (n := 36) hR rfl) ?_
    refine gw_gf (hk _ _ rfl) (RL_fR (n := 37) hR rfl) ?_
    refine gw_pst hk 2 (st' := (65, [some (.ref 0), some (.int x1), some (.int x_3)], [.int x_3, .int x1, .ref 37], h)) rfl ?_
    refine gw_br (c := x_3 = 0) (a := (77, [some (.ref 0), some (.int x1), some (.int x_3)], [.int x1, .ref 37], h)) (b := (68, [some (.ref 0), some (.int x1), some (.int x_3)], [.int x1, .ref 37], h)) (hk _ _ rfl) rfl ⟨fun z6 => ?_, fun z6 => ?_⟩
    · replace w := w.1 z6
      refine gw_pst hk 1 (st' := (78, [some (.ref 0), some (.int x1), some (.int x_3)], [.int 0, .int x1, .ref 37], h)) rfl ?_
      exact ok118_78 c d Post K41 hK41 _ _ _ _ _ _ w _ hR
    · replace w := w.2 z6
      refine gw_pst hk 3 (st' := (71, [some (.ref 0), some (.int x1), some (.int x_3)], [.int x1, .int 0, .ref 0, .int x1, .ref 37], h)) rfl ?_
      obtain ⟨fs7, e7⟩ := RL_o hR (r := 0) (ci := 9) rfl
      refine gw_call (jj := 112) (As := [.ref 0, .int 0, .int x1]) (rest := [.int x1, .ref 37]) (hk _ _ rfl) (fun _ => rfl) rfl rfl (Nat.le_of_ble_eq_true rfl) (gm_rcv_v rfl e7 rfl) ?_
      refine ge_imp (w h hR) (fun v7 h w => ?_)
      obtain ⟨s_7, hR, x_7, rfl, w⟩ := w
      show gw (gt_T c.1 c.2.1 c.2.2.1) c.2.2.2 d 118 (74, [some (.ref 0), some (.int x1), some (.int x_3)], [.int x_7, .int x1, .ref 37], h) _
      refine gw_pst hk 1 (st' := (78, [some (.ref 0), some (.int x1), some (.int x_3)], [.int x_7, .int x1, .ref 37], h)) rfl ?_
      exact ok118_78 c d Post K41 hK41 _ _ _ _ _ _ w _ hR
def wl118_41 (c : gx) (d : Nat) (Post : Option Value → gs → Prop) : Nat → Int32 → gs → Prop
  | 0 => fun _ _ => False
  | n + 1 => wb118_41 c d Post (wl118_41 c d Post n)
theorem okl118_41 (c : gx) (d : Nat) (Post : Option Value → gs → Prop) : ∀ (n : Nat) (x1 : Int32) (s : gs), wl118_41 c d Post n x1 s → tV c d 118 41 [some (.ref 0), some (.int x1), none] [] s Post
  | 0, _, _, w => w.elim
  | n + 1, x1, s, w => okb118_41 c d Post (wl118_41 c d Post n) (okl118_41 c d Post n) x1 s w
def wb118_2 (c : gx) (d : Nat) (Post : Option Value → gs → Prop) (K2 : Int32 → gs → Prop) (x1 : Int32) (s : gs) : Prop :=
  ((20 ≤ x1 → ∃ n, wl118_41 c d Post n 0 s) ∧ (¬ (20 ≤ x1) → tE c d 51 [.ref 14, .int ((gsV s 14 0) + x1)] s (fun v7 s_7 => ∃ x_7 : Int32, v7 = some (.int x_7) ∧ vp_in x1 20 ∧ ∀ s_8 : gs, s_8 = gs_A s_7 39 (x1 : Int32).toNatClampNeg (vp_nar .int x_7) → K2 (x1 + 1) s_8)))
theorem okb118_2 (c : gx) (d : Nat) (Post : Option Value → gs → Prop) (K2 : Int32 → gs → Prop)  (hK2 : ∀ (x1 : Int32) (s : gs), K2 x1 s → tV c d 118 2 [some (.ref 0), some (.int x1), none] [] s Post) (x1 : Int32) (s : gs) (w : wb118_2 c d Post K2 x1 s) : tV c d 118 2 [some (.ref 0), some (.int x1), none] [] s Post := by
  intro h hR
  have hk : ∀ pc i, gm_find gk_118 pc = some i → gm_code (gt_T c.1 c.2.1 c.2.2.1) 118 pc = some i := fun _ _ z => z
  unfold wb118_2 at w
  unfold gV
  refine gw_pst hk 2 (st' := (5, [some (.ref 0), some (.int x1), none], [.int 20, .int x1], h)) rfl ?_
  refine gw_br (c := 20 ≤ x1) (a := (39, [some (.ref 0), some (.int x1), none], [], h)) (b := (8, [some (.ref 0), some (.int x1), none], [], h)) (hk _ _ rfl) rfl ⟨fun z1 => ?_, fun z1 => ?_⟩
  · replace w := w.1 z1
    refine gw_pst hk 2 (st' := (41, [some (.ref 0), some (.int 0), none], [], h)) rfl ?_
    obtain ⟨n, w⟩ := w
    exact okl118_41 c d Post n _ _ w _ hR
  · replace w := w.2 z1
    refine gw_pst hk 1 (st' := (9, [some (.ref 0), some (.int x1), none], [.ref 0], h)) rfl ?_
    refine gw_gf (hk _ _ rfl) (RL_fR (n := 36) hR rfl) ?_
    refine gw_gf (hk _ _ rfl) (RL_fR (n := 39) hR rfl) ?_
    refine gw_pst hk 2 (st' := (17, [some (.ref 0), some (.int x1), none], [.ref 0, .int x1, .ref 39], h)) rfl ?_
    refine gw_gf (hk _ _ rfl) (RL_fR (n := 14) hR rfl) ?_
    refine gw_pst hk 1 (st' := (21, [some (.ref 0), some (.int x1), none], [.ref 0, .ref 14, .int x1, .ref 39], h)) rfl ?_
    refine gw_gf (hk _ _ rfl) (RL_fR (n := 14) hR rfl) ?_
    refine gw_gf (hk _ _ rfl) (RL_fI hR rfl) ?_
    refine gw_pst hk 2 (st' := (29, [some (.ref 0), some (.int x1), none], [.int ((gsV s 14 0) + x1), .ref 14, .int x1, .ref 39], h)) rfl ?_
    obtain ⟨fs7, e7⟩ := RL_o hR (r := 14) (ci := 6) rfl
    refine gw_call (jj := 51) (As := [.ref 14, .int ((gsV s 14 0) + x1)]) (rest := [.int x1, .ref 39]) (hk _ _ rfl) (fun _ => rfl) rfl rfl (Nat.le_of_ble_eq_true rfl) (gm_rcv_v rfl e7 rfl) ?_
    refine ge_imp (w h hR) (fun v7 h w => ?_)
    obtain ⟨s_7, hR, x_7, rfl, w⟩ := w
    show gw (gt_T c.1 c.2.1 c.2.2.1) c.2.2.2 d 118 (32, [some (.ref 0), some (.int x1), none], [.int x_7, .int x1, .ref 39], h) _
    obtain ⟨b8, w⟩ := w
    have hR8 := RL_pA (a := 39) (t := 0) (n := 20) (k := (x1 : Int32).toNatClampNeg) (x := (vp_nar .int x_7)) hR rfl (by decide)
    refine gw_ast (hk _ _ rfl) (Or.inl ⟨rfl, rfl, rfl⟩) (RL_a (t := 0) (n := 20) hR rfl (by decide)) b8 ?_
    generalize gm_put h _ _ = h at hR8 ⊢
    obtain ⟨s_8, es8⟩ : ∃ z, z = gs_A s_7 39 (x1 : Int32).toNatClampNeg (vp_nar .int x_7) := ⟨_, rfl⟩
    rw [← es8] at hR8
    replace w := w s_8 es8
    replace hR := hR8
    refine gw_pst hk 2 (st' := (2, [some (.ref 0), some (.int (x1 + 1)), none], [], h)) rfl ?_
    exact hK2 _ _ w _ hR
def wl118_2 (c : gx) (d : Nat) (Post : Option Value → gs → Prop) : Nat → Int32 → gs → Prop
  | 0 => fun _ _ => False
  | n + 1 => wb118_2 c d Post (wl118_2 c d Post n)
theorem okl118_2 (c : gx) (d : Nat) (Post : Option Value → gs → Prop) : ∀ (n : Nat) (x1 : Int32) (s : gs), wl118_2 c d Post n x1 s → tV c d 118 2 [some (.ref 0), some (.int x1), none] [] s Post
  | 0, _, _, w => w.elim
  | n + 1, x1, s, w => okb118_2 c d Post (wl118_2 c d Post n) (okl118_2 c d Post n) x1 s w
/-- CommandByTurns.prepareWalk()V -/
def wm118 (c : gx) (d : Nat) (Post : Option Value → gs → Prop)  (s : gs) : Prop :=
  ∃ n, wl118_2 c d Post n 0 s
theorem okm118 (c : gx) (d : Nat) (Post : Option Value → gs → Prop)  (s : gs) (w : wm118 c d Post  s) : tE c (d + 1) 118 [.ref 0] s Post := by
  intro h hR
  have hk : ∀ pc i, gm_find gk_118 pc = some i → gm_code (gt_T c.1 c.2.1 c.2.2.1) 118 pc = some i := fun _ _ z => z
  unfold wm118 at w
  refine ge_of (by decide) (Nat.le_of_ble_eq_true rfl) ?_
  show gw (gt_T c.1 c.2.1 c.2.2.1) c.2.2.2 d 118 (0, [some (.ref 0), none, none], [], h) _
  refine gw_pst hk 2 (st' := (2, [some (.ref 0), some (.int 0), none], [], h)) rfl ?_
  obtain ⟨n, w⟩ := w
  exact okl118_2 c d Post n _ _ w _ hR
def w119_70 (c : gx) (d : Nat) (Post : Option Value → gs → Prop) (K6 : Int32 → gs → Prop) (x1 : Int32) (rs0 : Nat) (xs1 : Int32) (xs2 : Int32) (s : gs) : Prop :=
  ∃ n1, gs_isA rs0 0 n1 = true ∧ vp_in xs1 n1 ∧ ∀ s_1 : gs, s_1 = gs_A s rs0 (xs1 : Int32).toNatClampNeg (vp_nar .int xs2) → K6 (x1 + 1) s_1
theorem ok119_70 (c : gx) (d : Nat) (Post : Option Value → gs → Prop) (K6 : Int32 → gs → Prop)  (hK6 : ∀ (x1 : Int32) (s : gs), K6 x1 s → tV c d 119 6 [some (.ref 0), some (.int x1), none] [] s Post) (x1 : Int32) (rs0 : Nat) (xs1 : Int32) (xs2 : Int32) (s : gs) (w : w119_70 c d Post K6 x1 rs0 xs1 xs2 s) : tV c d 119 70 [some (.ref 0), some (.int x1), none] [.int xs2, .int xs1, .ref rs0] s Post := by
  intro h hR
  have hk : ∀ pc i, gm_find gk_119 pc = some i → gm_code (gt_T c.1 c.2.1 c.2.2.1) 119 pc = some i := fun _ _ z => z
  unfold w119_70 at w
  unfold gV
  obtain ⟨n1, a1, b1, w⟩ := w
  have hR1 := RL_pA (a := rs0) (t := 0) (n := n1) (k := (xs1 : Int32).toNatClampNeg) (x := (vp_nar .int xs2)) hR a1 (by decide)
  refine gw_ast (hk _ _ rfl) (Or.inl ⟨rfl, rfl, rfl⟩) (RL_a (t := 0) (n := n1) hR a1 (by decide)) b1 ?_
  generalize gm_put h _ _ = h at hR1 ⊢
  obtain ⟨s_1, es1⟩ : ∃ z, z = gs_A s rs0 (xs1 : Int32).toNatClampNeg (vp_nar .int xs2) := ⟨_, rfl⟩
  rw [← es1] at hR1
  replace w := w s_1 es1
  replace hR := hR1
  refine gw_pst hk 2 (st' := (6, [some (.ref 0), some (.int (x1 + 1)), none], [], h)) rfl ?_
  exact hK6 _ _ w _ hR
def wb119_6 (c : gx) (d : Nat) (Post : Option Value → gs → Prop) (K6 : Int32 → gs → Prop) (x1 : Int32) (s : gs) : Prop :=
  (((gsV s 3 2) ≤ x1 → Post none s) ∧ (¬ ((gsV s 3 2) ≤ x1) → vp_in x1 12 ∧ tE c d 22 [.ref 3, .int (gsA s 37 (x1 : Int32).toNatClampNeg), .int (gsV s 14 2)] s (fun v10 s_10 => ∃ x_10 : Int32, v10 = some (.int x_10) ∧ tE c d 16 [.int x_10, .int (gsV s_10 14 2)] s_10 (fun v15 s_15 => ∃ x_15 : Int32, v15 = some (.int x_15) ∧ ((x_15 = 0 → w119_70 c d Post K6 x1 37 x1 (1 <<< (x_10 &&& 31)) s_15) ∧ (¬ (x_15 = 0) → w119_70 c d Post K6 x1 37 x1 0 s_15))))))
theorem okb119_6 (c : gx) (d : Nat) (Post : Option Value → gs → Prop) (K6 : Int32 → gs → Prop)  (hK6 : ∀ (x1 : Int32) (s : gs), K6 x1 s → tV c d 119 6 [some (.ref 0), some (.int x1), none] [] s Post) (x1 : Int32) (s : gs) (w : wb119_6 c d Post K6 x1 s) : tV c d 119 6 [some (.ref 0), some (.int x1), none] [] s Post := by
  intro h hR
  have hk : ∀ pc i, gm_find gk_119 pc = some i → gm_code (gt_T c.1 c.2.1 c.2.2.1) 119 pc = some i := fun _ _ z => z
  unfold wb119_6 at w
  unfold gV
  refine gw_pst hk 2 (st' := (8, [some (.ref 0), some (.int x1), none], [.ref 0, .int x1], h)) rfl ?_
  refine gw_gf (hk _ _ rfl) (RL_fR (n := 3) hR rfl) ?_
  refine gw_gf (hk _ _ rfl) (RL_fI hR rfl) ?_
  refine gw_br (c := (gsV s 3 2) ≤ x1) (a := (77, [some (.ref 0), some (.int x1), none], [], h)) (b := (17, [some (.ref 0), some (.int x1), none], [], h)) (hk _ _ rfl) rfl ⟨fun z3 => ?_, fun z3 => ?_⟩
  · replace w := w.1 z3
    exact gw_ret (hk _ _ rfl) rfl ⟨_, hR, w⟩
  · replace w := w.2 z3
    refine gw_pst hk 1 (st' := (18, [some (.ref 0), some (.int x1), none], [.ref 0], h)) rfl ?_
    refine gw_gf (hk _ _ rfl) (RL_fR (n := 3) hR rfl) ?_
    refine gw_pst hk 1 (st' := (22, [some (.ref 0), some (.int x1), none], [.ref 0, .ref 3], h)) rfl ?_
    refine gw_gf (hk _ _ rfl) (RL_fR (n := 36) hR rfl) ?_
    refine gw_gf (hk _ _ rfl) (RL_fR (n := 37) hR rfl) ?_
    refine gw_pst hk 1 (st' := (29, [some (.ref 0), some (.int x1), none], [.int x1, .ref 37, .ref 3], h)) rfl ?_
    obtain ⟨b7, w⟩ := w
    refine gw_ald (hk _ _ rfl) (Or.inl ⟨rfl, rfl⟩) (RL_a (t := 0) (n := 12) hR rfl (by decide)) b7 ?_
    refine gw_pst hk 1 (st' := (31, [some (.ref 0), some (.int x1), none], [.ref 0, .int (gsA s 37 (x1 : Int32).toNatClampNeg), .ref 3], h)) rfl ?_
    refine gw_gf (hk _ _ rfl) (RL_fR (n := 14) hR rfl) ?_
    refine gw_gf (hk _ _ rfl) (RL_fI hR rfl) ?_
    obtain ⟨fs10, e10⟩ := RL_o hR (r := 3) (ci := 1) rfl
    refine gw_call (jj := 22) (As := [.ref 3, .int (gsA s 37 (x1 : Int32).toNatClampNeg), .int (gsV s 14 2)]) (rest := []) (hk _ _ rfl) (fun _ => rfl) rfl rfl (Nat.le_of_ble_eq_true rfl) (gm_rcv_v rfl e10 rfl) ?_
    refine ge_imp (w h hR) (fun v10 h w => ?_)
    obtain ⟨s_10, hR, x_10, rfl, w⟩ := w
    show gw (gt_T c.1 c.2.1 c.2.2.1) c.2.2.2 d 119 (40, [some (.ref 0), some (.int x1), none], [.int x_10], h) _
    refine gw_pst hk 2 (st' := (42, [some (.ref 0), some (.int x1), some (.int x_10)], [.ref 0], h)) rfl ?_
    refine gw_gf (hk _ _ rfl) (RL_fR (n := 36) hR rfl) ?_
    refine gw_gf (hk _ _ rfl) (RL_fR (n := 37) hR rfl) ?_
    refine gw_pst hk 3 (st' := (51, [some (.ref 0), some (.int x1), some (.int x_10)], [.ref 0, .int x_10, .int x1, .ref 37], h)) rfl ?_
    refine gw_gf (hk _ _ rfl) (RL_fR (n := 14) hR rfl) ?_
    refine gw_gf (hk _ _ rfl) (RL_fI hR rfl) ?_
    refine gw_call (jj := 16) (As := [.int x_10, .int (gsV s_10 14 2)]) (rest := [.int x1, .ref 37]) (hk _ _ rfl) (fun _ => rfl) rfl rfl (Nat.le_of_ble_eq_true rfl) rfl ?_
    refine ge_imp (w h hR) (fun v15 h w => ?_)
    obtain ⟨s_15, hR, x_15, rfl, w⟩ := w
    show gw (gt_T c.1 c.2.1 c.2.2.1) c.2.2.2 d 119 (60, [some (.ref 0), some (.int x1), some (.int x_10)], [.int x_15, .int x1, .ref 37], h) _
    refine gw_br (c := x_15 = 0) (a := (67, [some (.ref 0), some (.int x1), some (.int x_10)], [.int x1, .ref 37], h)) (b := (63, [some (.ref 0), some (.int x1), some (.int x_10)], [.int x1, .ref 37], h)) (hk _ _ rfl) rfl ⟨fun z16 => ?_, fun z16 => ?_⟩
    · replace w := w.1 z16
      refine gw_pst hk 3 (st' := (70, [some (.ref 0), some (.int x1), some (.int x_10)], [.int (1 <<< (x_10 &&& 31)), .int x1, .ref 37], h)) rfl ?_
      refine gw_le (L' := [some (.ref 0), some (.int x1), none]) (gm_le_k _ (gm_le_k _ (gm_le_n _ gm_le_nil))) ?_
      exact ok119_70 c d Post K6 hK6 _ _ _ _ _ w _ hR
    · replace w := w.2 z16
      refine gw_pst hk 2 (st' := (70, [some (.ref 0), some (.int x1), some (.int x_10)], [.int 0, .int x1, .ref 37], h)) rfl ?_
      refine gw_le (L' := [some (.ref 0), some (.int x1), none]) (gm_le_k _ (gm_le_k _ (gm_le_n _ gm_le_nil))) ?_
      exact ok119_70 c d Post K6 hK6 _ _ _ _ _ w _ hR
def wl119_6 (c : gx) (d : Nat) (Post : Option Value → gs → Prop) : Nat → Int32 → gs → Prop
  | 0 => fun _ _ => False
  | n + 1 => wb119_6 c d Post (wl119_6 c d Post n)
theorem okl119_6 (c : gx) (d : Nat) (Post : Option Value → gs → Prop) : ∀ (n : Nat) (x1 : Int32) (s : gs), wl119_6 c d Post n x1 s → tV c d 119 6 [some (.ref 0), some (.int x1), none] [] s Post
  | 0, _, _, w => w.elim
  | n + 1, x1, s, w => okb119_6 c d Post (wl119_6 c d Post n) (okl119_6 c d Post n) x1 s w
/-- CommandByTurns.prepareGame()V -/
def wm119 (c : gx) (d : Nat) (Post : Option Value → gs → Prop)  (s : gs) : Prop :=
  tE c d 118 [.ref 0] s (fun v1 s_1 => v1 = none ∧ ∃ n, wl119_6 c d Post n 0 s_1)
theorem okm119 (c : gx) (d : Nat) (Post : Option Value → gs → Prop)  (s : gs) (w : wm119 c d Post  s) : tE c (d + 1) 119 [.ref 0] s Post := by
  intro h hR
  have hk : ∀ pc i, gm_find gk_119 pc = some i → gm_code (gt_T c.1 c.2.1 c.2.2.1) 119 pc = some i := fun _ _ z => z
  unfold wm119 at w
  refine ge_of (by decide) (Nat.le_of_ble_eq_true rfl) ?_
  show gw (gt_T c.1 c.2.1 c.2.2.1) c.2.2.2 d 119 (0, [some (.ref 0), none, none], [], h) _
  refine gw_pst hk 1 (st' := (1, [some (.ref 0), none, none], [.ref 0], h)) rfl ?_
  obtain ⟨fs1, e1⟩ := RL_o hR (r := 0) (ci := 9) rfl
  refine gw_call (jj := 118) (As := [.ref 0]) (rest := []) (hk _ _ rfl) (fun _ => rfl) rfl rfl (Nat.le_of_ble_eq_true rfl) (gm_rcv_v rfl e1 rfl) ?_
  refine ge_imp (w h hR) (fun v1 h w => ?_)
  obtain ⟨s_1, hR, rfl, w⟩ := w
  show gw (gt_T c.1 c.2.1 c.2.2.1) c.2.2.2 d 119 (4, [some (.ref 0), none, none], [], h) _
  refine gw_pst hk 2 (st' := (6, [some (.ref 0), some (.int 0), none], [], h)) rfl ?_
  obtain ⟨n, w⟩ := w
  exact okl119_6 c d Post n _ _ w _ hR
def w120_180 (c : gx) (d : Nat) (Post : Option Value → gs → Prop) (K12 : Int32 → Int32 → Int32 → Int32 → Int32 → gs → Prop) (K22 : Int32 → Int32 → Int32 → Int32 → Int32 → Int32 → gs → Prop) (x1 : Int32) (x2 : Int32) (x3 : Int32) (x4 : Int32) (x5 : Int32) (x6 : Int32) (s : gs) : Prop :=
  K22 x1 x2 x3 x4 x5 (x6 + 1) s
theorem ok120_180 (c : gx) (d : Nat) (Post : Option Value → gs → Prop) (K12 : Int32 → Int32 → Int32 → Int32 → Int32 → gs → Prop) (K22 : Int32 → Int32 → Int32 → Int32 → Int32 → Int32 → gs → Prop)  (hK12 : ∀ (x1 : Int32) (x2 : Int32) (x3 : Int32) (x4 : Int32) (x5 : Int32) (s : gs), K12 x1 x2 x3 x4 x5 s → tV c d 120 12 [some (.ref 0), some (.int x1), some (.int x2), some (.int x3), some (.int x4), some (.int x5), none, none, none] [] s Post) (hK22 : ∀ (x1 : Int32) (x2 : Int32) (x3 : Int32) (x4 : Int32) (x5 : Int32) (x6 : Int32) (s : gs), K22 x1 x2 x3 x4 x5 x6 s → tV c d 120 22 [some (.ref 0), some (.int x1), some (.int x2), some (.int x3), some (.int x4), some (.int x5), some (.int x6), none, none] [] s Post) (x1 : Int32) (x2 : Int32) (x3 : Int32) (x4 : Int32) (x5 : Int32) (x6 : Int32) (s : gs) (w : w120_180 c d Post K12 K22 x1 x2 x3 x4 x5 x6 s) : tV c d 120 180 [some (.ref 0), some (.int x1), some (.int x2), some (.int x3), some (.int x4), some (.int x5), some (.int x6), none, none] [] s Post := by
  intro h hR
  have hk : ∀ pc i, gm_find gk_120 pc = some i → gm_code (gt_T c.1 c.2.1 c.2.2.1) 120 pc = some i := fun _ _ z => z
  unfold w120_180 at w
  unfold gV
  refine gw_pst hk 2 (st' := (22, [some (.ref 0), some (.int x1), some (.int x2), some (.int x3), some (.int x4), some (.int x5), some (.int (x6 + 1)), none, none], [], h)) rfl ?_
  exact hK22 _ _ _ _ _ _ _ w _ hR
def wb120_22 (c : gx) (d : Nat) (Post : Option Value → gs → Prop) (K12 : Int32 → Int32 → Int32 → Int32 → Int32 → gs → Prop) (K22 : Int32 → Int32 → Int32 → Int32 → Int32 → Int32 → gs → Prop) (x1 : Int32) (x2 : Int32) (x3 : Int32) (x4 : Int32) (x5 : Int32) (x6 : Int32) (s : gs) : Prop :=
  ((20 ≤ x6 → K12 x1 x2 x3 x4 (x5 + 1) s) ∧ (¬ (20 ≤ x6) → tE c d 51 [.ref 14, .int ((gsV s 14 0) + x5)] s (fun v5 s_5 => ∃ x_5 : Int32, v5 = some (.int x_5) ∧ ((x_5 = 0 → tE c d 51 [.ref 14, .int ((gsV s_5 14 0) + x6)] s_5 (fun v10 s_10 => ∃ x_10 : Int32, v10 = some (.int x_10) ∧ ((x_10 = 1 → tE c d 30 [.ref 10, .int ((gsV s_10 14 0) + x6)] s_10 (fun v15 s_15 => ∃ x_15 : Int32, v15 = some (.int x_15) ∧ tE c d 30 [.ref 10, .int ((gsV s_15 14 0) + x5)] s_15 (fun v19 s_19 => ∃ x_19 : Int32, v19 = some (.int x_19) ∧ tE c d 30 [.ref 12, .int ((gsV s_19 14 0) + x5)] s_19 (fun v23 s_23 => ∃ x_23 : Int32, v23 = some (.int x_23) ∧ tE c d 30 [.ref 12, .int ((gsV s_23 14 0) + x6)] s_23 (fun v27 s_27 => ∃ x_27 : Int32, v27 = some (.int x_27) ∧ (((x_15 - x_19) ≤ 0 → w120_180 c d Post K12 K22 x1 x2 x3 x4 x5 x6 s_27) ∧ (¬ ((x_15 - x_19) ≤ 0) → (((x_23 - x_27) ≤ 0 → w120_180 c d Post K12 K22 x1 x2 x3 x4 x5 x6 s_27) ∧ (¬ ((x_23 - x_27) ≤ 0) → ((((x_15 - x_19) + (x_23 - x_27)) ≤ x4 → w120_180 c d Post K12 K22 (x1 + 1) x2 x3 x4 x5 x6 s_27) ∧ (¬ (((x_15 - x_19) + (x_23 - x_27)) ≤ x4) → w120_180 c d Post K12 K22 (x1 + 1) x5 x6 ((x_15 - x_19) + (x_23 - x_27)) x5 x6 s_27))))))))))) ∧ (¬ (x_10 = 1) → w120_180 c d Post K12 K22 x1 x2 x3 x4 x5 x6 s_10)))) ∧ (¬ (x_5 = 0) → w120_180 c d Post K12 K22 x1 x2 x3 x4 x5 x6 s_5)))))
theorem okb120_22 (c : gx) (d : Nat) (Post : Option Value → gs → Prop) (K12 : Int32 → Int32 → Int32 → Int32 → Int32 → gs → Prop) (K22 : Int32 → Int32 → Int32 → Int32 → Int32 → Int32 → gs → Prop)  (hK12 : ∀ (x1 : Int32) (x2 : Int32) (x3 : Int32) (x4 : Int32) (x5 : Int32) (s : gs), K12 x1 x2 x3 x4 x5 s → tV c d 120 12 [some (.ref 0), some (.int x1), some (.int x2), some (.int x3), some (.int x4), some (.int x5), none, none, none] [] s Post) (hK22 : ∀ (x1 : Int32) (x2 : Int32) (x3 : Int32) (x4 : Int32) (x5 : Int32) (x6 : Int32) (s : gs), K22 x1 x2 x3 x4 x5 x6 s → tV c d 120 22 [some (.ref 0), some (.int x1), some (.int x2), some (.int x3), some (.int x4), some (.int x5), some (.int x6), none, none] [] s Post) (x1 : Int32) (x2 : Int32) (x3 : Int32) (x4 : Int32) (x5 : Int32) (x6 : Int32) (s : gs) (w : wb120_22 c d Post K12 K22 x1 x2 x3 x4 x5 x6 s) : tV c d 120 22 [some (.ref 0), some (.int x1), some (.int x2), some (.int x3), some (.int x4), some (.int x5), some (.int x6), none, none] [] s Post := by
  intro h hR
  have hk : ∀ pc i, gm_find gk_120 pc = some i → gm_code (gt_T c.1 c.2.1 c.2.2.1) 120 pc = some i := fun _ _ z => z
  unfold wb120_22 at w
  unfold gV
  refine gw_pst hk 2 (st' := (26, [some (.ref 0), some (.int x1), some (.int x2), some (.int x3), some (.int x4), some (.int x5), some (.int x6), none, none], [.int 20, .int x6], h)) rfl ?_
  refine gw_br (c := 20 ≤ x6) (a := (186, [some (.ref 0), some (.int x1), some (.int x2), some (.int x3), some (.int x4), some (.int x5), some (.int x6), none, none], [], h)) (b := (29, [some (.ref 0), some (.int x1), some (.int x2), some (.int x3), some (.int x4), some (.int x5), some (.int x6), none, none], [], h)) (hk _ _ rfl) rfl ⟨fun z1 => ?_, fun z1 => ?_⟩
  · replace w := w.1 z1
    refine gw_pst hk 2 (st' := (12, [some (.ref 0), some (.int x1), some (.int x2), some (.int x3), some (.int x4), some (.int (x5 + 1)), some (.int x6), none, none], [], h)) rfl ?_
    refine gw_le (L' := [some (.ref 0), some (.int x1), some (.int x2), some (.int x3), some (.int x4), some (.int (x5 + 1)), none, none, none]) (gm_le_k _ (gm_le_k _ (gm_le_k _ (gm_le_k _ (gm_le_k _ (gm_le_k _ (gm_le_n _ (gm_le_k _ (gm_le_k _ gm_le_nil))))))))) ?_
    exact hK12 _ _ _ _ _ _ w _ hR
  · replace w := w.2 z1
    refine gw_pst hk 1 (st' := (30, [some (.ref 0), some (.int x1), some (.int x2), some (.int x3), some (.int x4), some (.int x5), some (.int x6), none, none], [.ref 0], h)) rfl ?_
    refine gw_gf (hk _ _ rfl) (RL_fR (n := 14) hR rfl) ?_
    refine gw_pst hk 1 (st' := (34, [some (.ref 0), some (.int x1), some (.int x2), some (.int x3), some (.int x4), some (.int x5), some (.int x6), none, none], [.ref 0, .ref 14], h)) rfl ?_
    refine gw_gf (hk _ _ rfl) (RL_fR (n := 14) hR rfl) ?_
    refine gw_gf (hk _ _ rfl) (RL_fI hR rfl) ?_
    refine gw_pst hk 2 (st' := (43, [some (.ref 0), some (.int x1), some (.int x2), some (.int x3), some (.int x4), some (.int x5), some (.int x6), none, none], [.int ((gsV s 14 0) + x5), .ref 14], h)) rfl ?_
    obtain ⟨fs5, e5⟩ := RL_o hR (r := 14) (ci := 6) rfl
    refine gw_call (jj := 51) (As := [.ref 14, .int ((gsV s 14 0) + x5)]) (rest := []) (hk _ _ rfl) (fun _ => rfl) rfl rfl (Nat.le_of_ble_eq_true rfl) (gm_rcv_v rfl e5 rfl) ?_
    refine ge_imp (w h hR) (fun v5 h w => ?_)
    obtain ⟨s_5, hR, x_5, rfl, w⟩ := w
    show gw (gt_T c.1 c.2.1 c.2.2.1) c.2.2.2 d 120 (46, [some (.ref 0), some (.int x1), some (.int x2), some (.int x3), some (.int x4), some (.int x5), some (.int x6), none, none], [.int x_5], h) _
    refine gw_br (c := x_5 = 0) (a := (49, [some (.ref 0), some (.int x1), some (.int x2), some (.int x3), some (.int x4), some (.int x5), some (.int x6), none, none], [], h)) (b := (180, [some (.ref 0), some (.int x1), some (.int x2), some (.int x3), some (.int x4), some (.int x5), some (.int x6), none, none], [], h)) (hk _ _ rfl) rfl ⟨fun z6 => ?_, fun z6 => ?_⟩
    · replace w := w.1 z6
      refine gw_pst hk 1 (st' := (50, [some (.ref 0), some (.int x1), some (.int x2), some (.int x3), some (.int x4), some (.int x5), some (.int x6), none, none], [.ref 0], h)) rfl ?_
      refine gw_gf (hk _ _ rfl) (RL_fR (n := 14) hR rfl) ?_
      refine gw_pst hk 1 (st' := (54, [some (.ref 0), some (.int x1), some (.int x2), some (.int x3), some (.int x4), some (.int x5), some (.int x6), none, none], [.ref 0, .ref 14], h)) rfl ?_
      refine gw_gf (hk _ _ rfl) (RL_fR (n := 14) hR rfl) ?_
      refine gw_gf (hk _ _ rfl) (RL_fI hR rfl) ?_
      refine gw_pst hk 2 (st' := (63, [some (.ref 0), some (.int x1), some (.int x2), some (.int x3), some (.int x4), some (.int x5), some (.int x6), none, none], [.int ((gsV s_5 14 0) + x6), .ref 14], h)) rfl ?_
      obtain ⟨fs10, e10⟩ := RL_o hR (r := 14) (ci := 6) rfl
      refine gw_call (jj := 51) (As := [.ref 14, .int ((gsV s_5 14 0) + x6)]) (rest := []) (hk _ _ rfl) (fun _ => rfl) rfl rfl (Nat.le_of_ble_eq_true rfl) (gm_rcv_v rfl e10 rfl) ?_
      refine ge_imp (w h hR) (fun v10 h w => ?_)
      obtain ⟨s_10, hR, x_10, rfl, w⟩ := w
      show gw (gt_T c.1 c.2.1 c.2.2.1) c.2.2.2 d 120 (66, [some (.ref 0), some (.int x1), some (.int x2), some (.int x3), some (.int x4), some (.int x5), some (.int x6), none, none], [.int x_10], h) _
      refine gw_pst hk 1 (st' := (67, [some (.ref 0), some (.int x1), some (.int x2), some (.int x3), some (.int x4), some (.int x5), some (.int x6), none, none], [.int 1, .int x_10], h)) rfl ?_
      refine gw_br (c := x_10 = 1) (a := (70, [some (.ref 0), some (.int x1), some (.int x2), some (.int x3), some (.int x4), some (.int x5), some (.int x6), none, none], [], h)) (b := (180, [some (.ref 0), some (.int x1), some (.int x2), some (.int x3), some (.int x4), some (.int x5), some (.int x6), none, none], [], h)) (hk _ _ rfl) rfl ⟨fun z11 => ?_, fun z11 => ?_⟩
      · replace w := w.1 z11
        refine gw_pst hk 1 (st' := (71, [some (.ref 0), some (.int x1), some (.int x2), some (.int x3), some (.int x4), some (.int x5), some (.int x6), none, none], [.ref 0], h)) rfl ?_
        refine gw_gf (hk _ _ rfl) (RL_fR (n := 10) hR rfl) ?_
        refine gw_pst hk 1 (st' := (75, [some (.ref 0), some (.int x1), some (.int x2), some (.int x3), some (.int x4), some (.int x5), some (.int x6), none, none], [.ref 0, .ref 10], h)) rfl ?_
        refine gw_gf (hk _ _ rfl) (RL_fR (n := 14) hR rfl) ?_
        refine gw_gf (hk _ _ rfl) (RL_fI hR rfl) ?_
        refine gw_pst hk 2 (st' := (84, [some (.ref 0), some (.int x1), some (.int x2), some (.int x3), some (.int x4), some (.int x5), some (.int x6), none, none], [.int ((gsV s_10 14 0) + x6), .ref 10], h)) rfl ?_
        obtain ⟨fs15, e15⟩ := RL_o hR (r := 10) (ci := 2) rfl
        refine gw_call (jj := 30) (As := [.ref 10, .int ((gsV s_10 14 0) + x6)]) (rest := []) (hk _ _ rfl) (fun _ => rfl) rfl rfl (Nat.le_of_ble_eq_true rfl) (gm_rcv_v rfl e15 rfl) ?_
        refine ge_imp (w h hR) (fun v15 h w => ?_)
        obtain ⟨s_15, hR, x_15, rfl, w⟩ := w
        show gw (gt_T c.1 c.2.1 c.2.2.1) c.2.2.2 d 120 (87, [some (.ref 0), some (.int x1), some (.int x2), some (.int x3), some (.int x4), some (.int x5), some (.int x6), none, none], [.int x_15], h) _
        refine gw_pst hk 1 (st' := (88, [some (.ref 0), some (.int x1), some (.int x2), some (.int x3), some (.int x4), some (.int x5), some (.int x6), none, none], [.ref 0, .int x_15], h)) rfl ?_
        refine gw_gf (hk _ _ rfl) (RL_fR (n := 10) hR rfl) ?_
        refine gw_pst hk 1 (st' := (92, [some (.ref 0), some (.int x1), some (.int x2), some (.int x3), some (.int x4), some (.int x5), some (.int x6), none, none], [.ref 0, .ref 10, .int x_15], h)) rfl ?_
        refine gw_gf (hk _ _ rfl) (RL_fR (n := 14) hR rfl) ?_
        refine gw_gf (hk _ _ rfl) (RL_fI hR rfl) ?_
        refine gw_pst hk 2 (st' := (101, [some (.ref 0), some (.int x1), some (.int x2), some (.int x3), some (.int x4), some (.int x5), some (.int x6), none, none], [.int ((gsV s_15 14 0) + x5), .ref 10, .int x_15], h)) rfl ?_
        obtain ⟨fs19, e19⟩ := RL_o hR (r := 10) (ci := 2) rfl
        refine gw_call (jj := 30) (As := [.ref 10, .int ((gsV s_15 14 0) + x5)]) (rest := [.int x_15]) (hk _ _ rfl) (fun _ => rfl) rfl rfl (Nat.le_of_ble_eq_true rfl) (gm_rcv_v rfl e19 rfl) ?_
        refine ge_imp (w h hR) (fun v19 h w => ?_)
        obtain ⟨s_19, hR, x_19, rfl, w⟩ := w
        show gw (gt_T c.1 c.2.1 c.2.2.1) c.2.2.2 d 120 (104, [some (.ref 0), some (.int x1), some (.int x2), some (.int x3), some (.int x4), some (.int x5), some (.int x6), none, none], [.int x_19, .int x_15], h) _
        refine gw_pst hk 3 (st' := (108, [some (.ref 0), some (.int x1), some (.int x2), some (.int x3), some (.int x4), some (.int x5), some (.int x6), some (.int (x_15 - x_19)), none], [.ref 0], h)) rfl ?_
        refine gw_gf (hk _ _ rfl) (RL_fR (n := 12) hR rfl) ?_
        refine gw_pst hk 1 (st' := (112, [some (.ref 0), some (.int x1), some (.int x2), some (.int x3), some (.int x4), some (.int x5), some (.int x6), some (.int (x_15 - x_19)), none], [.ref 0, .ref 12], h)) rfl ?_
        refine gw_gf (hk _ _ rfl) (RL_fR (n := 14) hR rfl) ?_
        refine gw_gf (hk _ _ rfl) (RL_fI hR rfl) ?_
        refine gw_pst hk 2 (st' := (121, [some (.ref 0), some (.int x1), some (.int x2), some (.int x3), some (.int x4), some (.int x5), some (.int x6), some (.int (x_15 - x_19)), none], [.int ((gsV s_19 14 0) + x5), .ref 12], h)) rfl ?_
        obtain ⟨fs23, e23⟩ := RL_o hR (r := 12) (ci := 2) rfl
        refine gw_call (jj := 30) (As := [.ref 12, .int ((gsV s_19 14 0) + x5)]) (rest := []) (hk _ _ rfl) (fun _ => rfl) rfl rfl (Nat.le_of_ble_eq_true rfl) (gm_rcv_v rfl e23 rfl) ?_
        refine ge_imp (w h hR) (fun v23 h w => ?_)
        obtain ⟨s_23, hR, x_23, rfl, w⟩ := w
        show gw (gt_T c.1 c.2.1 c.2.2.1) c.2.2.2 d 120 (124, [some (.ref 0), some (.int x1), some (.int x2), some (.int x3), some (.int x4), some (.int x5), some (.int x6), some (.int (x_15 - x_19)), none], [.int x_23], h) _
        refine gw_pst hk 1 (st' := (125, [some (.ref 0), some (.int x1), some (.int x2), some (.int x3), some (.int x4), some (.int x5), some (.int x6), some (.int (x_15 - x_19)), none], [.ref 0, .int x_23], h)) rfl ?_
        refine gw_gf (hk _ _ rfl) (RL_fR (n := 12) hR rfl) ?_
        refine gw_pst hk 1 (st' := (129, [some (.ref 0), some (.int x1), some (.int x2), some (.int x3), some (.int x4), some (.int x5), some (.int x6), some (.int (x_15 - x_19)), none], [.ref 0, .ref 12, .int x_23], h)) rfl ?_
        refine gw_gf (hk _ _ rfl) (RL_fR (n := 14) hR rfl) ?_
        refine gw_gf (hk _ _ rfl) (RL_fI hR rfl) ?_
        refine gw_pst hk 2 (st' := (138, [some (.ref 0), some (.int x1), some (.int x2), some (.int x3), some (.int x4), some (.int x5), some (.int x6), some (.int (x_15 - x_19)), none], [.int ((gsV s_23 14 0) + x6), .ref 12, .int x_23], h)) rfl ?_
        obtain ⟨fs27, e27⟩ := RL_o hR (r := 12) (ci := 2) rfl
        refine gw_call (jj := 30) (As := [.ref 12, .int ((gsV s_23 14 0) + x6)]) (rest := [.int x_23]) (hk _ _ rfl) (fun _ => rfl) rfl rfl (Nat.le_of_ble_eq_true rfl) (gm_rcv_v rfl e27 rfl) ?_
        refine ge_imp (w h hR) (fun v27 h w => ?_)
        obtain ⟨s_27, hR, x_27, rfl, w⟩ := w
        show gw (gt_T c.1 c.2.1 c.2.2.1) c.2.2.2 d 120 (141, [some (.ref 0), some (.int x1), some (.int x2), some (.int x3), some (.int x4), some (.int x5), some (.int x6), some (.int (x_15 - x_19)), none], [.int x_27, .int x_23], h) _
        refine gw_pst hk 3 (st' := (146, [some (.ref 0), some (.int x1), some (.int x2), some (.int x3), some (.int x4), some (.int x5), some (.int x6), some (.int (x_15 - x_19)), some (.int (x_23 - x_27))], [.int (x_15 - x_19)], h)) rfl ?_
        refine gw_br (c := (x_15 - x_19) ≤ 0) (a := (180, [some (.ref 0), some (.int x1), some (.int x2), some (.int x3), some (.int x4), some (.int x5), some (.int x6), some (.int (x_15 - x_19)), some (.int (x_23 - x_27))], [], h)) (b := (149, [some (.ref 0), some (.int x1), some (.int x2), some (.int x3), some (.int x4), some (.int x5), some (.int x6), some (.int (x_15 - x_19)), some (.int (x_23 - x_27))], [], h)) (hk _ _ rfl) rfl ⟨fun z28 => ?_, fun z28 => ?_⟩
        · replace w := w.1 z28
          refine gw_le (L' := [some (.ref 0), some (.int x1), some (.int x2), some (.int x3), some (.int x4), some (.int x5), some (.int x6), none, none]) (gm_le_k _ (gm_le_k _ (gm_le_k _ (gm_le_k _ (gm_le_k _ (gm_le_k _ (gm_le_k _ (gm_le_n _ (gm_le_n _ gm_le_nil))))))))) ?_
          exact ok120_180 c d Post K12 K22 hK12 hK22 _ _ _ _ _ _ _ w _ hR
        · replace w := w.2 z28
          refine gw_pst hk 1 (st' := (151, [some (.ref 0), some (.int x1), some (.int x2), some (.int x3), some (.int x4), some (.int x5), some (.int x6), some (.int (x_15 - x_19)), some (.int (x_23 - x_27))], [.int (x_23 - x_27)], h)) rfl ?_
          refine gw_br (c := (x_23 - x_27) ≤ 0) (a := (180, [some (.ref 0), some (.int x1), some (.int x2), some (.int x3), some (.int x4), some (.int x5), some (.int x6), some (.int (x_15 - x_19)), some (.int (x_23 - x_27))], [], h)) (b := (154, [some (.ref 0), some (.int x1), some (.int x2), some (.int x3), some (.int x4), some (.int x5), some (.int x6), some (.int (x_15 - x_19)), some (.int (x_23 - x_27))], [], h)) (hk _ _ rfl) rfl ⟨fun z29 => ?_, fun z29 => ?_⟩
          · replace w := w.1 z29
            refine gw_le (L' := [some (.ref 0), some (.int x1), some (.int x2), some (.int x3), some (.int x4), some (.int x5), some (.int x6), none, none]) (gm_le_k _ (gm_le_k _ (gm_le_k _ (gm_le_k _ (gm_le_k _ (gm_le_k _ (gm_le_k _ (gm_le_n _ (gm_le_n _ gm_le_nil))))))))) ?_
            exact ok120_180 c d Post K12 K22 hK12 hK22 _ _ _ _ _ _ _ w _ hR
          · replace w := w.2 z29
            refine gw_pst hk 5 (st' := (164, [some (.ref 0), some (.int (x1 + 1)), some (.int x2), some (.int x3), some (.int x4), some (.int x5), some (.int x6), some (.int (x_15 - x_19)), some (.int (x_23 - x_27))], [.int x4, .int ((x_15 - x_19) + (x_23 - x_27))], h)) rfl ?_
            refine gw_br (c := ((x_15 - x_19) + (x_23 - x_27)) ≤ x4) (a := (180, [some (.ref 0), some (.int (x1 + 1)), some (.int x2), some (.int x3), some (.int x4), some (.int x5), some (.int x6), some (.int (x_15 - x_19)), some (.int (x_23 - x_27))], [], h)) (b := (167, [some (.ref 0), some (.int (x1 + 1)), some (.int x2), some (.int x3), some (.int x4), some (.int x5), some (.int x6), some (.int (x_15 - x_19)), some (.int (x_23 - x_27))], [], h)) (hk _ _ rfl) rfl ⟨fun z30 => ?_, fun z30 => ?_⟩
            · replace w := w.1 z30
              refine gw_le (L' := [some (.ref 0), some (.int (x1 + 1)), some (.int x2), some (.int x3), some (.int x4), some (.int x5), some (.int x6), none, none]) (gm_le_k _ (gm_le_k _ (gm_le_k _ (gm_le_k _ (gm_le_k _ (gm_le_k _ (gm_le_k _ (gm_le_n _ (gm_le_n _ gm_le_nil))))))))) ?_
              exact ok120_180 c d Post K12 K22 hK12 hK22 _ _ _ _ _ _ _ w _ hR
            · replace w := w.2 z30
              refine gw_pst hk 8 (st' := (180, [some (.ref 0), some (.int (x1 + 1)), some (.int x5), some (.int x6), some (.int ((x_15 - x_19) + (x_23 - x_27))), some (.int x5), some (.int x6), some (.int (x_15 - x_19)), some (.int (x_23 - x_27))], [], h)) rfl ?_
              refine gw_le (L' := [some (.ref 0), some (.int (x1 + 1)), some (.int x5), some (.int x6), some (.int ((x_15 - x_19) + (x_23 - x_27))), some (.int x5), some (.int x6), none, none]) (gm_le_k _ (gm_le_k _ (gm_le_k _ (gm_le_k _ (gm_le_k _ (gm_le_k _ (gm_le_k _ (gm_le_n _ (gm_le_n _ gm_le_nil))))))))) ?_
              exact ok120_180 c d Post K12 K22 hK12 hK22 _ _ _ _ _ _ _ w _ hR
      · replace w := w.2 z11
        exact ok120_180 c d Post K12 K22 hK12 hK22 _ _ _ _ _ _ _ w _ hR
    · replace w := w.2 z6
      exact ok120_180 c d Post K12 K22 hK12 hK22 _ _ _ _ _ _ _ w _ hR
def wl120_22 (c : gx) (d : Nat) (Post : Option Value → gs → Prop) (K12 : Int32 → Int32 → Int32 → Int32 → Int32 → gs → Prop) : Nat → Int32 → Int32 → Int32 → Int32 → Int32 → Int32 → gs → Prop
  | 0 => fun _ _ _ _ _ _ _ => False
  | n + 1 => wb120_22 c d Post K12 (wl120_22 c d Post K12 n)
theorem okl120_22 (c : gx) (d : Nat) (Post : Option Value → gs → Prop) (K12 : Int32 → Int32 → Int32 → Int32 → Int32 → gs → Prop) (hK12 : ∀ (x1 : Int32) (x2 : Int32) (x3 : Int32) (x4 : Int32) (x5 : Int32) (s : gs), K12 x1 x2 x3 x4 x5 s → tV c d 120 12 [some (.ref 0), some (.int x1), some (.int x2), some (.int x3), some (.int x4), some (.int x5), none, none, none] [] s Post) : ∀ (n : Nat) (x1 : Int32) (x2 : Int32) (x3 : Int32) (x4 : Int32) (x5 : Int32) (x6 : Int32) (s : gs), wl120_22 c d Post K12 n x1 x2 x3 x4 x5 x6 s → tV c d 120 22 [some (.ref 0), some (.int x1), some (.int x2), some (.int x3), some (.int x4), some (.int x5), some (.int x6), none, none] [] s Post
  | 0, _, _, _, _, _, _, _, w => w.elim
  | n + 1, x1, x2, x3, x4, x5, x6, s, w => okb120_22 c d Post K12 (wl120_22 c d Post K12 n) hK12 (okl120_22 c d Post K12 hK12 n) x1 x2 x3 x4 x5 x6 s w
def w120_232 (c : gx) (d : Nat) (Post : Option Value → gs → Prop) (x1 : Int32) (s : gs) : Prop :=
  Post (some (.int x1)) s
theorem ok120_232 (c : gx) (d : Nat) (Post : Option Value → gs → Prop)  (x1 : Int32) (s : gs) (w : w120_232 c d Post x1 s) : tV c d 120 232 [none, some (.int x1), none, none, none, none, none, none, none] [] s Post := by
  intro h hR
  have hk : ∀ pc i, gm_find gk_120 pc = some i → gm_code (gt_T c.1 c.2.1 c.2.2.1) 120 pc = some i := fun _ _ z => z
  unfold w120_232 at w
  unfold gV
  refine gw_pst hk 1 (st' := (233, [none, some (.int x1), none, none, none, none, none, none, none], [.int x1], h)) rfl ?_
  exact gw_ret (hk _ _ rfl) rfl ⟨_, hR, w⟩
def wb120_12 (c : gx) (d : Nat) (Post : Option Value → gs → Prop) (K12 : Int32 → Int32 → Int32 → Int32 → Int32 → gs → Prop) (x1 : Int32) (x2 : Int32) (x3 : Int32) (x4 : Int32) (x5 : Int32) (s : gs) : Prop :=
  ((20 ≤ x5 → ∀ s_3 : gs, s_3 = gs_V s 34 1 0 → ((x1 ≤ 0 → w120_232 c d Post x1 s_3) ∧ (¬ (x1 ≤ 0) → tE c d 44 [.ref 34, .long ((x2 : Int32).toInt64)] s_3 (fun v6 s_6 => v6 = none ∧ tE c d 44 [.ref 34, .long ((x3 : Int32).toInt64)] s_6 (fun v8 s_8 => v8 = none ∧ tE c d 44 [.ref 34, .long ((x4 : Int32).toInt64)] s_8 (fun v10 s_10 => v10 = none ∧ w120_232 c d Post x1 s_10)))))) ∧ (¬ (20 ≤ x5) → ∃ n, wl120_22 c d Post K12 n x1 x2 x3 x4 x5 0 s))
theorem okb120_12 (c : gx) (d : Nat) (Post : Option Value → gs → Prop) (K12 : Int32 → Int32 → Int32 → Int32 → Int32 → gs → Prop)  (hK12 : ∀ (x1 : Int32) (x2 : Int32) (x3 : Int32) (x4 : Int32) (x5 : Int32) (s : gs), K12 x1 x2 x3 x4 x5 s → tV c d 120 12 [some (.ref 0), some (.int x1), some (.int x2), some (.int x3), some (.int x4), some (.int x5), none, none, none] [] s Post) (x1 : Int32) (x2 : Int32) (x3 : Int32) (x4 : Int32) (x5 : Int32) (s : gs) (w : wb120_12 c d Post K12 x1 x2 x3 x4 x5 s) : tV c d 120 12 [some (.ref 0), some (.int x1), some (.int x2), some (.int x3), some (.int x4), some (.int x5), none, none, none] [] s Post := by
  intro h hR
  have hk : ∀ pc i, gm_find gk_120 pc = some i → gm_code (gt_T c.1 c.2.1 c.2.2.1) 120 pc = some i := fun _ _ z => z
  unfold wb120_12 at w
  unfold gV
  refine gw_pst hk 2 (st' := (16, [some (.ref 0), some (.int x1), some (.int x2), some (.int x3), some (.int x4), some (.int x5), none, none, none], [.int 20, .int x5], h)) rfl ?_
  refine gw_br (c := 20 ≤ x5) (a := (192, [some (.ref 0), some (.int x1), some (.int x2), some (.int x3), some (.int x4), some (.int x5), none, none, none], [], h)) (b := (19, [some (.ref 0), some (.int x1), some (.int x2), some (.int x3), some (.int x4), some (.int x5), none, none, none], [], h)) (hk _ _ rfl) rfl ⟨fun z1 => ?_, fun z1 => ?_⟩
  · replace w := w.1 z1
    refine gw_pst hk 1 (st' := (193, [some (.ref 0), some (.int x1), some (.int x2), some (.int x3), some (.int x4), some (.int x5), none, none, none], [.ref 0], h)) rfl ?_
    refine gw_gf (hk _ _ rfl) (RL_fR (n := 34) hR rfl) ?_
    refine gw_pst hk 1 (st' := (197, [some (.ref 0), some (.int x1), some (.int x2), some (.int x3), some (.int x4), some (.int x5), none, none, none], [.int 0, .ref 34], h)) rfl ?_
    obtain ⟨fs3, e3⟩ := RL_o hR (r := 34) (ci := 5) rfl
    obtain ⟨l3, hR3⟩ := RL_pI (k := 1) (x := 0) hR rfl e3
    refine gw_pf (hk _ _ rfl) e3 l3 rfl ?_
    generalize gm_put h _ _ = h at hR3 ⊢
    obtain ⟨s_3, es3⟩ : ∃ z, z = gs_V s 34 1 0 := ⟨_, rfl⟩
    rw [← es3] at hR3
    replace w := w s_3 es3
    replace hR := hR3
    refine gw_pst hk 1 (st' := (201, [some (.ref 0), some (.int x1), some (.int x2), some (.int x3), some (.int x4), some (.int x5), none, none, none], [.int x1], h)) rfl ?_
    refine gw_br (c := x1 ≤ 0) (a := (232, [some (.ref 0), some (.int x1), some (.int x2), some (.int x3), some (.int x4), some (.int x5), none, none, none], [], h)) (b := (204, [some (.ref 0), some (.int x1), some (.int x2), some (.int x3), some (.int x4), some (.int x5), none, none, none], [], h)) (hk _ _ rfl) rfl ⟨fun z4 => ?_, fun z4 => ?_⟩
    · replace w := w.1 z4
      refine gw_le (L' := [none, some (.int x1), none, none, none, none, none, none, none]) (gm_le_n _ (gm_le_k _ (gm_le_n _ (gm_le_n _ (gm_le_n _ (gm_le_n _ (gm_le_k _ (gm_le_k _ (gm_le_k _ gm_le_nil))))))))) ?_
      exact ok120_232 c d Post _ _ w _ hR
    · replace w := w.2 z4
      refine gw_pst hk 1 (st' := (205, [some (.ref 0), some (.int x1), some (.int x2), some (.int x3), some (.int x4), some (.int x5), none, none, none], [.ref 0], h)) rfl ?_
      refine gw_gf (hk _ _ rfl) (RL_fR (n := 34) hR rfl) ?_
      refine gw_pst hk 2 (st' := (210, [some (.ref 0), some (.int x1), some (.int x2), some (.int x3), some (.int x4), some (.int x5), none, none, none], [.long ((x2 : Int32).toInt64), .ref 34], h)) rfl ?_
      obtain ⟨fs6, e6⟩ := RL_o hR (r := 34) (ci := 5) rfl
      refine gw_call (jj := 44) (As := [.ref 34, .long ((x2 : Int32).toInt64)]) (rest := []) (hk _ _ rfl) (fun _ => rfl) rfl rfl (Nat.le_of_ble_eq_true rfl) (gm_rcv_v rfl e6 rfl) ?_
      refine ge_imp (w h hR) (fun v6 h w => ?_)
      obtain ⟨s_6, hR, rfl, w⟩ := w
      show gw (gt_T c.1 c.2.1 c.2.2.1) c.2.2.2 d 120 (213, [some (.ref 0), some (.int x1), some (.int x2), some (.int x3), some (.int x4), some (.int x5), none, none, none], [], h) _
      refine gw_pst hk 1 (st' := (214, [some (.ref 0), some (.int x1), some (.int x2), some (.int x3), some (.int x4), some (.int x5), none, none, none], [.ref 0], h)) rfl ?_
      refine gw_gf (hk _ _ rfl) (RL_fR (n := 34) hR rfl) ?_
      refine gw_pst hk 2 (st' := (219, [some (.ref 0), some (.int x1), some (.int x2), some (.int x3), some (.int x4), some (.int x5), none, none, none], [.long ((x3 : Int32).toInt64), .ref 34], h)) rfl ?_
      obtain ⟨fs8, e8⟩ := RL_o hR (r := 34) (ci := 5) rfl
      refine gw_call (jj := 44) (As := [.ref 34, .long ((x3 : Int32).toInt64)]) (rest := []) (hk _ _ rfl) (fun _ => rfl) rfl rfl (Nat.le_of_ble_eq_true rfl) (gm_rcv_v rfl e8 rfl) ?_
      refine ge_imp (w h hR) (fun v8 h w => ?_)
      obtain ⟨s_8, hR, rfl, w⟩ := w
      show gw (gt_T c.1 c.2.1 c.2.2.1) c.2.2.2 d 120 (222, [some (.ref 0), some (.int x1), some (.int x2), some (.int x3), some (.int x4), some (.int x5), none, none, none], [], h) _
      refine gw_pst hk 1 (st' := (223, [some (.ref 0), some (.int x1), some (.int x2), some (.int x3), some (.int x4), some (.int x5), none, none, none], [.ref 0], h)) rfl ?_
      refine gw_gf (hk _ _ rfl) (RL_fR (n := 34) hR rfl) ?_
      refine gw_pst hk 2 (st' := (229, [some (.ref 0), some (.int x1), some (.int x2), some (.int x3), some (.int x4), some (.int x5), none, none, none], [.long ((x4 : Int32).toInt64), .ref 34], h)) rfl ?_
      obtain ⟨fs10, e10⟩ := RL_o hR (r := 34) (ci := 5) rfl
      refine gw_call (jj := 44) (As := [.ref 34, .long ((x4 : Int32).toInt64)]) (rest := []) (hk _ _ rfl) (fun _ => rfl) rfl rfl (Nat.le_of_ble_eq_true rfl) (gm_rcv_v rfl e10 rfl) ?_
      refine ge_imp (w h hR) (fun v10 h w => ?_)
      obtain ⟨s_10, hR, rfl, w⟩ := w
      show gw (gt_T c.1 c.2.1 c.2.2.1) c.2.2.2 d 120 (232, [some (.ref 0), some (.int x1), some (.int x2), some (.int x3), some (.int x4), some (.int x5), none, none, none], [], h) _
      refine gw_le (L' := [none, some (.int x1), none, none, none, none, none, none, none]) (gm_le_n _ (gm_le_k _ (gm_le_n _ (gm_le_n _ (gm_le_n _ (gm_le_n _ (gm_le_k _ (gm_le_k _ (gm_le_k _ gm_le_nil))))))))) ?_
      exact ok120_232 c d Post _ _ w _ hR
  · replace w := w.2 z1
    refine gw_pst hk 2 (st' := (22, [some (.ref 0), some (.int x1), some (.int x2), some (.int x3), some (.int x4), some (.int x5), some (.int 0), none, none], [], h)) rfl ?_
    obtain ⟨n, w⟩ := w
    exact okl120_22 c d Post K12 hK12 n _ _ _ _ _ _ _ w _ hR
def wl120_12 (c : gx) (d : Nat) (Post : Option Value → gs → Prop) : Nat → Int32 → Int32 → Int32 → Int32 → Int32 → gs → Prop
  | 0 => fun _ _ _ _ _ _ => False
  | n + 1 => wb120_12 c d Post (wl120_12 c d Post n)
theorem okl120_12 (c : gx) (d : Nat) (Post : Option Value → gs → Prop) : ∀ (n : Nat) (x1 : Int32) (x2 : Int32) (x3 : Int32) (x4 : Int32) (x5 : Int32) (s : gs), wl120_12 c d Post n x1 x2 x3 x4 x5 s → tV c d 120 12 [some (.ref 0), some (.int x1), some (.int x2), some (.int x3), some (.int x4), some (.int x5), none, none, none] [] s Post
  | 0, _, _, _, _, _, _, w => w.elim
  | n + 1, x1, x2, x3, x4, x5, s, w => okb120_12 c d Post (wl120_12 c d Post n) (okl120_12 c d Post n) x1 x2 x3 x4 x5 s w
/-- CommandByTurns.bargain()I -/
def wm120 (c : gx) (d : Nat) (Post : Option Value → gs → Prop)  (s : gs) : Prop :=
  ∃ n, wl120_12 c d Post n 0 (-1) (-1) 0 0 s
theorem okm120 (c : gx) (d : Nat) (Post : Option Value → gs → Prop)  (s : gs) (w : wm120 c d Post  s) : tE c (d + 1) 120 [.ref 0] s Post := by
  intro h hR
  have hk : ∀ pc i, gm_find gk_120 pc = some i → gm_code (gt_T c.1 c.2.1 c.2.2.1) 120 pc = some i := fun _ _ z => z
  unfold wm120 at w
  refine ge_of (by decide) (Nat.le_of_ble_eq_true rfl) ?_
  show gw (gt_T c.1 c.2.1 c.2.2.1) c.2.2.2 d 120 (0, [some (.ref 0), none, none, none, none, none, none, none, none], [], h) _
  refine gw_pst hk 10 (st' := (12, [some (.ref 0), some (.int 0), some (.int (-1)), some (.int (-1)), some (.int 0), some (.int 0), none, none, none], [], h)) rfl ?_
  obtain ⟨n, w⟩ := w
  exact okl120_12 c d Post n _ _ _ _ _ _ w _ hR
def w121_11 (c : gx) (d : Nat) (Post : Option Value → gs → Prop)  (s : gs) : Prop :=
  Post (some (.int (-1))) s
theorem ok121_11 (c : gx) (d : Nat) (Post : Option Value → gs → Prop)   (s : gs) (w : w121_11 c d Post  s) : tV c d 121 11 [none, none, none, none, none, none, none, none, none] [] s Post := by
  intro h hR
  have hk : ∀ pc i, gm_find gk_121 pc = some i → gm_code (gt_T c.1 c.2.1 c.2.2.1) 121 pc = some i := fun _ _ z => z
  unfold w121_11 at w
  unfold gV
  refine gw_pst hk 1 (st' := (12, [none, none, none, none, none, none, none, none, none], [.int (-1)], h)) rfl ?_
  exact gw_ret (hk _ _ rfl) rfl ⟨_, hR, w⟩
def w121_111 (c : gx) (d : Nat) (Post : Option Value → gs → Prop) (K23 : Int32 → Int32 → Int32 → Int32 → Int32 → gs → Prop) (x1 : Int32) (x2 : Int32) (x3 : Int32) (x4 : Int32) (x5 : Int32) (s : gs) : Prop :=
  K23 x1 x2 x3 x4 (x5 + 1) s
theorem ok121_111 (c : gx) (d : Nat) (Post : Option Value → gs → Prop) (K23 : Int32 → Int32 → Int32 → Int32 → Int32 → gs → Prop)  (hK23 : ∀ (x1 : Int32) (x2 : Int32) (x3 : Int32) (x4 : Int32) (x5 : Int32) (s : gs), K23 x1 x2 x3 x4 x5 s → tV c d 121 23 [some (.ref 0), some (.int x1), some (.int x2), some (.int x3), some (.int x4), some (.int x5), none, none, none] [] s Post) (x1 : Int32) (x2 : Int32) (x3 : Int32) (x4 : Int32) (x5 : Int32) (s : gs) (w : w121_111 c d Post K23 x1 x2 x3 x4 x5 s) : tV c d 121 111 [some (.ref 0), some (.int x1), some (.int x2), some (.int x3), some (.int x4), some (.int x5), none, none, none] [] s Post := by
  intro h hR
  have hk : ∀ pc i, gm_find gk_121 pc = some i → gm_code (gt_T c.1 c.2.1 c.2.2.1) 121 pc = some i := fun _ _ z => z
  unfold w121_111 at w
  unfold gV
  refine gw_pst hk 2 (st' := (23, [some (.ref 0), some (.int x1), some (.int x2), some (.int x3), some (.int x4), some (.int (x5 + 1)), none, none, none], [], h)) rfl ?_
  exact hK23 _ _ _ _ _ _ w _ hR
def w121_65 (c : gx) (d : Nat) (Post : Option Value → gs → Prop) (K23 : Int32 → Int32 → Int32 → Int32 → Int32 → gs → Prop) (x1 : Int32) (x3 : Int32) (x4 : Int32) (x5 : Int32) (x6 : Int32) (xs0 : Int32) (xs1 : Int32) (s : gs) : Prop :=
  tE c d 148 [.ref 0, .int x6] s (fun v1 s_1 => ∃ q_1 : Nat, v1 = some (.ref q_1) ∧ gs_isC q_1 2 = true ∧ tE c d 30 [.ref q_1, .int ((gsV s_1 14 0) + x5)] s_1 (fun v4 s_4 => ∃ x_4 : Int32, v4 = some (.int x_4) ∧ tE c d 30 [.ref 12, .int ((gsV s_4 14 0) + x5)] s_4 (fun v8 s_8 => ∃ x_8 : Int32, v8 = some (.int x_8) ∧ w121_111 c d Post K23 x1 (xs0 + xs1) (x3 + x_4) (x4 + x_8) x5 s_8)))
theorem ok121_65 (c : gx) (d : Nat) (Post : Option Value → gs → Prop) (K23 : Int32 → Int32 → Int32 → Int32 → Int32 → gs → Prop)  (hK23 : ∀ (x1 : Int32) (x2 : Int32) (x3 : Int32) (x4 : Int32) (x5 : Int32) (s : gs), K23 x1 x2 x3 x4 x5 s → tV c d 121 23 [some (.ref 0), some (.int x1), some (.int x2), some (.int x3), some (.int x4), some (.int x5), none, none, none] [] s Post) (x1 : Int32) (x3 : Int32) (x4 : Int32) (x5 : Int32) (x6 : Int32) (xs0 : Int32) (xs1 : Int32) (s : gs) (w : w121_65 c d Post K23 x1 x3 x4 x5 x6 xs0 xs1 s) : tV c d 121 65 [some (.ref 0), some (.int x1), none, some (.int x3), some (.int x4), some (.int x5), some (.int x6), none, none] [.int xs1, .int xs0] s Post := by
  intro h hR
  have hk : ∀ pc i, gm_find gk_121 pc = some i → gm_code (gt_T c.1 c.2.1 c.2.2.1) 121 pc = some i := fun _ _ z => z
  unfold w121_65 at w
  unfold gV
  refine gw_pst hk 5 (st' := (71, [some (.ref 0), some (.int x1), some (.int (xs0 + xs1)), some (.int x3), some (.int x4), some (.int x5), some (.int x6), none, none], [.int x6, .ref 0, .int x3], h)) rfl ?_
  obtain ⟨fs1, e1⟩ := RL_o hR (r := 0) (ci := 9) rfl
  refine gw_call (jj := 148) (As := [.ref 0, .int x6]) (rest := [.int x3]) (hk _ _ rfl) (fun _ => rfl) rfl rfl (Nat.le_of_ble_eq_true rfl) (gm_rcv_v rfl e1 rfl) ?_
  refine ge_imp (w h hR) (fun v1 h w => ?_)
  obtain ⟨s_1, hR, q_1, rfl, w⟩ := w
  show gw (gt_T c.1 c.2.1 c.2.2.1) c.2.2.2 d 121 (74, [some (.ref 0), some (.int x1), some (.int (xs0 + xs1)), some (.int x3), some (.int x4), some (.int x5), some (.int x6), none, none], [.ref q_1, .int x3], h) _
  refine gw_pst hk 1 (st' := (75, [some (.ref 0), some (.int x1), some (.int (xs0 + xs1)), some (.int x3), some (.int x4), some (.int x5), some (.int x6), none, none], [.ref 0, .ref q_1, .int x3], h)) rfl ?_
  refine gw_gf (hk _ _ rfl) (RL_fR (n := 14) hR rfl) ?_
  refine gw_gf (hk _ _ rfl) (RL_fI hR rfl) ?_
  refine gw_pst hk 2 (st' := (84, [some (.ref 0), some (.int x1), some (.int (xs0 + xs1)), some (.int x3), some (.int x4), some (.int x5), some (.int x6), none, none], [.int ((gsV s_1 14 0) + x5), .ref q_1, .int x3], h)) rfl ?_
  obtain ⟨z4, w⟩ := w
  obtain ⟨fs4, e4⟩ := RL_o hR (r := q_1) (ci := 2) z4
  refine gw_call (jj := 30) (As := [.ref q_1, .int ((gsV s_1 14 0) + x5)]) (rest := [.int x3]) (hk _ _ rfl) (fun _ => rfl) rfl rfl (Nat.le_of_ble_eq_true rfl) (gm_rcv_v rfl e4 rfl) ?_
  refine ge_imp (w h hR) (fun v4 h w => ?_)
  obtain ⟨s_4, hR, x_4, rfl, w⟩ := w
  show gw (gt_T c.1 c.2.1 c.2.2.1) c.2.2.2 d 121 (87, [some (.ref 0), some (.int x1), some (.int (xs0 + xs1)), some (.int x3), some (.int x4), some (.int x5), some (.int x6), none, none], [.int x_4, .int x3], h) _
  refine gw_pst hk 4 (st' := (92, [some (.ref 0), some (.int x1), some (.int (xs0 + xs1)), some (.int (x3 + x_4)), some (.int x4), some (.int x5), some (.int x6), none, none], [.ref 0, .int x4], h)) rfl ?_
  refine gw_gf (hk _ _ rfl) (RL_fR (n := 12) hR rfl) ?_
  refine gw_pst hk 1 (st' := (96, [some (.ref 0), some (.int x1), some (.int (xs0 + xs1)), some (.int (x3 + x_4)), some (.int x4), some (.int x5), some (.int x6), none, none], [.ref 0, .ref 12, .int x4], h)) rfl ?_
  refine gw_gf (hk _ _ rfl) (RL_fR (n := 14) hR rfl) ?_
  refine gw_gf (hk _ _ rfl) (RL_fI hR rfl) ?_
  refine gw_pst hk 2 (st' := (105, [some (.ref 0), some (.int x1), some (.int (xs0 + xs1)), some (.int (x3 + x_4)), some (.int x4), some (.int x5), some (.int x6), none, none], [.int ((gsV s_4 14 0) + x5), .ref 12, .int x4], h)) rfl ?_
  obtain ⟨fs8, e8⟩ := RL_o hR (r := 12) (ci := 2) rfl
  refine gw_call (jj := 30) (As := [.ref 12, .int ((gsV s_4 14 0) + x5)]) (rest := [.int x4]) (hk _ _ rfl) (fun _ => rfl) rfl rfl (Nat.le_of_ble_eq_true rfl) (gm_rcv_v rfl e8 rfl) ?_
  refine ge_imp (w h hR) (fun v8 h w => ?_)
  obtain ⟨s_8, hR, x_8, rfl, w⟩ := w
  show gw (gt_T c.1 c.2.1 c.2.2.1) c.2.2.2 d 121 (108, [some (.ref 0), some (.int x1), some (.int (xs0 + xs1)), some (.int (x3 + x_4)), some (.int x4), some (.int x5), some (.int x6), none, none], [.int x_8, .int x4], h) _
  refine gw_pst hk 2 (st' := (111, [some (.ref 0), some (.int x1), some (.int (xs0 + xs1)), some (.int (x3 + x_4)), some (.int (x4 + x_8)), some (.int x5), some (.int x6), none, none], [], h)) rfl ?_
  refine gw_le (L' := [some (.ref 0), some (.int x1), some (.int (xs0 + xs1)), some (.int (x3 + x_4)), some (.int (x4 + x_8)), some (.int x5), none, none, none]) (gm_le_k _ (gm_le_k _ (gm_le_k _ (gm_le_k _ (gm_le_k _ (gm_le_k _ (gm_le_n _ (gm_le_k _ (gm_le_k _ gm_le_nil))))))))) ?_
  exact ok121_111 c d Post K23 hK23 _ _ _ _ _ _ w _ hR
def wb121_127 (c : gx) (d : Nat) (Post : Option Value → gs → Prop) (K127 : Int32 → Int32 → Int32 → Int32 → Int32 → Int32 → gs → Prop) (x1 : Int32) (x2 : Int32) (x3 : Int32) (x5 : Int32) (x6 : Int32) (x7 : Int32) (s : gs) : Prop :=
  ((x2 ≤ x7 → tE c d 46 [.ref 34, .long ((x5 : Int32).toInt64), .long ((x3 : Int32).toInt64)] s (fun v3 s_3 => v3 = none ∧ Post (some (.int x6)) s_3)) ∧ (¬ (x2 ≤ x7) → tE c d 122 [.ref 0, .int x1, .int x5] s (fun v4 s_4 => ∃ x_4 : Int32, v4 = some (.int x_4) ∧ tE c d 123 [.ref 0, .int x_4] s_4 (fun v5 s_5 => ∃ x_5 : Int32, v5 = some (.int x_5) ∧ K127 x1 x2 x3 (x5 ||| (1 <<< (x_4 &&& 31))) (x6 + x_5) (x7 + 1) s_5))))
theorem okb121_127 (c : gx) (d : Nat) (Post : Option Value → gs → Prop) (K127 : Int32 → Int32 → Int32 → Int32 → Int32 → Int32 → gs → Prop)  (hK127 : ∀ (x1 : Int32) (x2 : Int32) (x3 : Int32) (x5 : Int32) (x6 : Int32) (x7 : Int32) (s : gs), K127 x1 x2 x3 x5 x6 x7 s → tV c d 121 127 [some (.ref 0), some (.int x1), some (.int x2), some (.int x3), none, some (.int x5), some (.int x6), some (.int x7), none] [] s Post) (x1 : Int32) (x2 : Int32) (x3 : Int32) (x5 : Int32) (x6 : Int32) (x7 : Int32) (s : gs) (w : wb121_127 c d Post K127 x1 x2 x3 x5 x6 x7 s) : tV c d 121 127 [some (.ref 0), some (.int x1), some (.int x2), some (.int x3), none, some (.int x5), some (.int x6), some (.int x7), none] [] s Post := by
  intro h hR
  have hk : ∀ pc i, gm_find gk_121 pc = some i → gm_code (gt_T c.1 c.2.1 c.2.2.1) 121 pc = some i := fun _ _ z => z
  unfold wb121_127 at w
  unfold gV
  refine gw_pst hk 2 (st' := (130, [some (.ref 0), some (.int x1), some (.int x2), some (.int x3), none, some (.int x5), some (.int x6), some (.int x7), none], [.int x2, .int x7], h)) rfl ?_
  refine gw_br (c := x2 ≤ x7) (a := (168, [some (.ref 0), some (.int x1), some (.int x2), some (.int x3), none, some (.int x5), some (.int x6), some (.int x7), none], [], h)) (b := (133, [some (.ref 0), some (.int x1), some (.int x2), some (.int x3), none, some (.int x5), some (.int x6), some (.int x7), none], [], h)) (hk _ _ rfl) rfl ⟨fun z1 => ?_, fun z1 => ?_⟩
  · replace w := w.1 z1
    refine gw_pst hk 1 (st' := (169, [some (.ref 0), some (.int x1), some (.int x2), some (.int x3), none, some (.int x5), some (.int x6), some (.int x7), none], [.ref 0], h)) rfl ?_
    refine gw_gf (hk _ _ rfl) (RL_fR (n := 34) hR rfl) ?_
    refine gw_pst hk 4 (st' := (177, [some (.ref 0), some (.int x1), some (.int x2), some (.int x3), none, some (.int x5), some (.int x6), some (.int x7), none], [.long ((x3 : Int32).toInt64), .long ((x5 : Int32).toInt64), .ref 34], h)) rfl ?_
    obtain ⟨fs3, e3⟩ := RL_o hR (r := 34) (ci := 5) rfl
    refine gw_call (jj := 46) (As := [.ref 34, .long ((x5 : Int32).toInt64), .long ((x3 : Int32).toInt64)]) (rest := []) (hk _ _ rfl) (fun _ => rfl) rfl rfl (Nat.le_of_ble_eq_true rfl) (gm_rcv_v rfl e3 rfl) ?_
    refine ge_imp (w h hR) (fun v3 h w => ?_)
    obtain ⟨s_3, hR, rfl, w⟩ := w
    show gw (gt_T c.1 c.2.1 c.2.2.1) c.2.2.2 d 121 (180, [some (.ref 0), some (.int x1), some (.int x2), some (.int x3), none, some (.int x5), some (.int x6), some (.int x7), none], [], h) _
    refine gw_pst hk 1 (st' := (182, [some (.ref 0), some (.int x1), some (.int x2), some (.int x3), none, some (.int x5), some (.int x6), some (.int x7), none], [.int x6], h)) rfl ?_
    exact gw_ret (hk _ _ rfl) rfl ⟨_, hR, w⟩
  · replace w := w.2 z1
    refine gw_pst hk 3 (st' := (137, [some (.ref 0), some (.int x1), some (.int x2), some (.int x3), none, some (.int x5), some (.int x6), some (.int x7), none], [.int x5, .int x1, .ref 0], h)) rfl ?_
    obtain ⟨fs4, e4⟩ := RL_o hR (r := 0) (ci := 9) rfl
    refine gw_call (jj := 122) (As := [.ref 0, .int x1, .int x5]) (rest := []) (hk _ _ rfl) (fun _ => rfl) rfl rfl (Nat.le_of_ble_eq_true rfl) (gm_rcv_v rfl e4 rfl) ?_
    refine ge_imp (w h hR) (fun v4 h w => ?_)
    obtain ⟨s_4, hR, x_4, rfl, w⟩ := w
    show gw (gt_T c.1 c.2.1 c.2.2.1) c.2.2.2 d 121 (140, [some (.ref 0), some (.int x1), some (.int x2), some (.int x3), none, some (.int x5), some (.int x6), some (.int x7), none], [.int x_4], h) _
    refine gw_pst hk 10 (st' := (156, [some (.ref 0), some (.int x1), some (.int x2), some (.int x3), none, some (.int (x5 ||| (1 <<< (x_4 &&& 31)))), some (.int x6), some (.int x7), some (.int x_4)], [.int x_4, .ref 0, .int x6], h)) rfl ?_
    obtain ⟨fs5, e5⟩ := RL_o hR (r := 0) (ci := 9) rfl
    refine gw_call (jj := 123) (As := [.ref 0, .int x_4]) (rest := [.int x6]) (hk _ _ rfl) (fun _ => rfl) rfl rfl (Nat.le_of_ble_eq_true rfl) (gm_rcv_v rfl e5 rfl) ?_
    refine ge_imp (w h hR) (fun v5 h w => ?_)
    obtain ⟨s_5, hR, x_5, rfl, w⟩ := w
    show gw (gt_T c.1 c.2.1 c.2.2.1) c.2.2.2 d 121 (159, [some (.ref 0), some (.int x1), some (.int x2), some (.int x3), none, some (.int (x5 ||| (1 <<< (x_4 &&& 31)))), some (.int x6), some (.int x7), some (.int x_4)], [.int x_5, .int x6], h) _
    refine gw_pst hk 4 (st' := (127, [some (.ref 0), some (.int x1), some (.int x2), some (.int x3), none, some (.int (x5 ||| (1 <<< (x_4 &&& 31)))), some (.int (x6 + x_5)), some (.int (x7 + 1)), some (.int x_4)], [], h)) rfl ?_
    refine gw_le (L' := [some (.ref 0), some (.int x1), some (.int x2), some (.int x3), none, some (.int (x5 ||| (1 <<< (x_4 &&& 31)))), some (.int (x6 + x_5)), some (.int (x7 + 1)), none]) (gm_le_k _ (gm_le_k _ (gm_le_k _ (gm_le_k _ (gm_le_k _ (gm_le_k _ (gm_le_k _ (gm_le_k _ (gm_le_n _ gm_le_nil))))))))) ?_
    exact hK127 _ _ _ _ _ _ _ w _ hR
def wl121_127 (c : gx) (d : Nat) (Post : Option Value → gs → Prop) : Nat → Int32 → Int32 → Int32 → Int32 → Int32 → Int32 → gs → Prop
  | 0 => fun _ _ _ _ _ _ _ => False
  | n + 1 => wb121_127 c d Post (wl121_127 c d Post n)
theorem okl121_127 (c : gx) (d : Nat) (Post : Option Value → gs → Prop) : ∀ (n : Nat) (x1 : Int32) (x2 : Int32) (x3 : Int32) (x5 : Int32) (x6 : Int32) (x7 : Int32) (s : gs), wl121_127 c d Post n x1 x2 x3 x5 x6 x7 s → tV c d 121 127 [some (.ref 0), some (.int x1), some (.int x2), some (.int x3), none, some (.int x5), some (.int x6), some (.int x7), none] [] s Post
  | 0, _, _, _, _, _, _, _, w => w.elim
  | n + 1, x1, x2, x3, x5, x6, x7, s, w => okb121_127 c d Post (wl121_127 c d Post n) (okl121_127 c d Post n) x1 x2 x3 x5 x6 x7 s w
def wb121_23 (c : gx) (d : Nat) (Post : Option Value → gs → Prop) (K23 : Int32 → Int32 → Int32 → Int32 → Int32 → gs → Prop) (x1 : Int32) (x2 : Int32) (x3 : Int32) (x4 : Int32) (x5 : Int32) (s : gs) : Prop :=
  ((x1 ≤ x5 → ∃ n, wl121_127 c d Post n x1 x2 x3 0 x4 0 s) ∧ (¬ (x1 ≤ x5) → tE c d 51 [.ref 14, .int ((gsV s 14 0) + x5)] s (fun v5 s_5 => ∃ x_5 : Int32, v5 = some (.int x_5) ∧ ((x_5 = (-1) → w121_111 c d Post K23 x1 x2 x3 x4 x5 s_5) ∧ (¬ (x_5 = (-1)) → ((x_5 = 0 → w121_65 c d Post K23 x1 x3 x4 x5 x_5 x2 1 s_5) ∧ (¬ (x_5 = 0) → w121_65 c d Post K23 x1 x3 x4 x5 x_5 x2 0 s_5)))))))
theorem okb121_23 (c : gx) (d : Nat) (Post : Option Value → gs → Prop) (K23 : Int32 → Int32 → Int32 → Int32 → Int32 → gs → Prop)  (hK23 : ∀ (x1 : Int32) (x2 : Int32) (x3 : Int32) (x4 : Int32) (x5 : Int32) (s : gs), K23 x1 x2 x3 x4 x5 s → tV c d 121 23 [some (.ref 0), some (.int x1), some (.int x2), some (.int x3), some (.int x4), some (.int x5), none, none, none] [] s Post) (x1 : Int32) (x2 : Int32) (x3 : Int32) (x4 : Int32) (x5 : Int32) (s : gs) (w : wb121_23 c d Post K23 x1 x2 x3 x4 x5 s) : tV c d 121 23 [some (.ref 0), some (.int x1), some (.int x2), some (.int x3), some (.int x4), some (.int x5), none, none, none] [] s Post := by
  intro h hR
  have hk : ∀ pc i, gm_find gk_121 pc = some i → gm_code (gt_T c.1 c.2.1 c.2.2.1) 121 pc = some i := fun _ _ z => z
  unfold wb121_23 at w
  unfold gV
  refine gw_pst hk 2 (st' := (26, [some (.ref 0), some (.int x1), some (.int x2), some (.int x3), some (.int x4), some (.int x5), none, none, none], [.int x1, .int x5], h)) rfl ?_
  refine gw_br (c := x1 ≤ x5) (a := (117, [some (.ref 0), some (.int x1), some (.int x2), some (.int x3), some (.int x4), some (.int x5), none, none, none], [], h)) (b := (29, [some (.ref 0), some (.int x1), some (.int x2), some (.int x3), some (.int x4), some (.int x5), none, none, none], [], h)) (hk _ _ rfl) rfl ⟨fun z1 => ?_, fun z1 => ?_⟩
  · replace w := w.1 z1
    refine gw_pst hk 6 (st' := (127, [some (.ref 0), some (.int x1), some (.int x2), some (.int x3), some (.int x4), some (.int 0), some (.int x4), some (.int 0), none], [], h)) rfl ?_
    refine gw_le (L' := [some (.ref 0), some (.int x1), some (.int x2), some (.int x3), none, some (.int 0), some (.int x4), some (.int 0), none]) (gm_le_k _ (gm_le_k _ (gm_le_k _ (gm_le_k _ (gm_le_n _ (gm_le_k _ (gm_le_k _ (gm_le_k _ (gm_le_k _ gm_le_nil))))))))) ?_
    obtain ⟨n, w⟩ := w
    exact okl121_127 c d Post n _ _ _ _ _ _ _ w _ hR
  · replace w := w.2 z1
    refine gw_pst hk 1 (st' := (30, [some (.ref 0), some (.int x1), some (.int x2), some (.int x3), some (.int x4), some (.int x5), none, none, none], [.ref 0], h)) rfl ?_
    refine gw_gf (hk _ _ rfl) (RL_fR (n := 14) hR rfl) ?_
    refine gw_pst hk 1 (st' := (34, [some (.ref 0), some (.int x1), some (.int x2), some (.int x3), some (.int x4), some (.int x5), none, none, none], [.ref 0, .ref 14], h)) rfl ?_
    refine gw_gf (hk _ _ rfl) (RL_fR (n := 14) hR rfl) ?_
    refine gw_gf (hk _ _ rfl) (RL_fI hR rfl) ?_
    refine gw_pst hk 2 (st' := (43, [some (.ref 0), some (.int x1), some (.int x2), some (.int x3), some (.int x4), some (.int x5), none, none, none], [.int ((gsV s 14 0) + x5), .ref 14], h)) rfl ?_
    obtain ⟨fs5, e5⟩ := RL_o hR (r := 14) (ci := 6) rfl
    refine gw_call (jj := 51) (As := [.ref 14, .int ((gsV s 14 0) + x5)]) (rest := []) (hk _ _ rfl) (fun _ => rfl) rfl rfl (Nat.le_of_ble_eq_true rfl) (gm_rcv_v rfl e5 rfl) ?_
    refine ge_imp (w h hR) (fun v5 h w => ?_)
    obtain ⟨s_5, hR, x_5, rfl, w⟩ := w
    show gw (gt_T c.1 c.2.1 c.2.2.1) c.2.2.2 d 121 (46, [some (.ref 0), some (.int x1), some (.int x2), some (.int x3), some (.int x4), some (.int x5), none, none, none], [.int x_5], h) _
    refine gw_pst hk 3 (st' := (51, [some (.ref 0), some (.int x1), some (.int x2), some (.int x3), some (.int x4), some (.int x5), some (.int x_5), none, none], [.int (-1), .int x_5], h)) rfl ?_
    refine gw_br (c := x_5 = (-1)) (a := (111, [some (.ref 0), some (.int x1), some (.int x2), some (.int x3), some (.int x4), some (.int x5), some (.int x_5), none, none], [], h)) (b := (54, [some (.ref 0), some (.int x1), some (.int x2), some (.int x3), some (.int x4), some (.int x5), some (.int x_5), none, none], [], h)) (hk _ _ rfl) rfl ⟨fun z6 => ?_, fun z6 => ?_⟩
    · replace w := w.1 z6
      refine gw_le (L' := [some (.ref 0), some (.int x1), some (.int x2), some (.int x3), some (.int x4), some (.int x5), none, none, none]) (gm_le_k _ (gm_le_k _ (gm_le_k _ (gm_le_k _ (gm_le_k _ (gm_le_k _ (gm_le_n _ (gm_le_k _ (gm_le_k _ gm_le_nil))))))))) ?_
      exact ok121_111 c d Post K23 hK23 _ _ _ _ _ _ w _ hR
    · replace w := w.2 z6
      refine gw_pst hk 2 (st' := (57, [some (.ref 0), some (.int x1), some (.int x2), some (.int x3), some (.int x4), some (.int x5), some (.int x_5), none, none], [.int x_5, .int x2], h)) rfl ?_
      refine gw_br (c := x_5 = 0) (a := (60, [some (.ref 0), some (.int x1), some (.int x2), some (.int x3), some (.int x4), some (.int x5), some (.int x_5), none, none], [.int x2], h)) (b := (64, [some (.ref 0), some (.int x1), some (.int x2), some (.int x3), some (.int x4), some (.int x5), some (.int x_5), none, none], [.int x2], h)) (hk _ _ rfl) rfl ⟨fun z7 => ?_, fun z7 => ?_⟩
      · replace w := w.1 z7
        refine gw_pst hk 2 (st' := (65, [some (.ref 0), some (.int x1), some (.int x2), some (.int x3), some (.int x4), some (.int x5), some (.int x_5), none, none], [.int 1, .int x2], h)) rfl ?_
        refine gw_le (L' := [some (.ref 0), some (.int x1), none, some (.int x3), some (.int x4), some (.int x5), some (.int x_5), none, none]) (gm_le_k _ (gm_le_k _ (gm_le_n _ (gm_le_k _ (gm_le_k _ (gm_le_k _ (gm_le_k _ (gm_le_k _ (gm_le_k _ gm_le_nil))))))))) ?_
        exact ok121_65 c d Post K23 hK23 _ _ _ _ _ _ _ _ w _ hR
      · replace w := w.2 z7
        refine gw_pst hk 1 (st' := (65, [some (.ref 0), some (.int x1), some (.int x2), some (.int x3), some (.int x4), some (.int x5), some (.int x_5), none, none], [.int 0, .int x2], h)) rfl ?_
        refine gw_le (L' := [some (.ref 0), some (.int x1), none, some (.int x3), some (.int x4), some (.int x5), some (.int x_5), none, none]) (gm_le_k _ (gm_le_k _ (gm_le_n _ (gm_le_k _ (gm_le_k _ (gm_le_k _ (gm_le_k _ (gm_le_k _ (gm_le_k _ gm_le_nil))))))))) ?_
        exact ok121_65 c d Post K23 hK23 _ _ _ _ _ _ _ _ w _ hR
def wl121_23 (c : gx) (d : Nat) (Post : Option Value → gs → Prop) : Nat → Int32 → Int32 → Int32 → Int32 → Int32 → gs → Prop
  | 0 => fun _ _ _ _ _ _ => False
  | n + 1 => wb121_23 c d Post (wl121_23 c d Post n)
theorem okl121_23 (c : gx) (d : Nat) (Post : Option Value → gs → Prop) : ∀ (n : Nat) (x1 : Int32) (x2 : Int32) (x3 : Int32) (x4 : Int32) (x5 : Int32) (s : gs), wl121_23 c d Post n x1 x2 x3 x4 x5 s → tV c d 121 23 [some (.ref 0), some (.int x1), some (.int x2), some (.int x3), some (.int x4), some (.int x5), none, none, none] [] s Post
  | 0, _, _, _, _, _, _, w => w.elim
  | n + 1, x1, x2, x3, x4, x5, s, w => okb121_23 c d Post (wl121_23 c d Post n) (okl121_23 c d Post n) x1 x2 x3 x4 x5 s w
/-- CommandByTurns.share(I)I -/
def wm121 (c : gx) (d : Nat) (Post : Option Value → gs → Prop) (x1 : Int32) (s : gs) : Prop :=
  ((x1 < 1 → w121_11 c d Post s) ∧ (¬ (x1 < 1) → ((x1 ≤ 20 → ∃ n, wl121_23 c d Post n x1 0 0 0 0 s) ∧ (¬ (x1 ≤ 20) → w121_11 c d Post s))))
theorem okm121 (c : gx) (d : Nat) (Post : Option Value → gs → Prop) (x1 : Int32) (s : gs) (w : wm121 c d Post x1 s) : tE c (d + 1) 121 [.ref 0, .int x1] s Post := by
  intro h hR
  have hk : ∀ pc i, gm_find gk_121 pc = some i → gm_code (gt_T c.1 c.2.1 c.2.2.1) 121 pc = some i := fun _ _ z => z
  unfold wm121 at w
  refine ge_of (by decide) (Nat.le_of_ble_eq_true rfl) ?_
  show gw (gt_T c.1 c.2.1 c.2.2.1) c.2.2.2 d 121 (0, [some (.ref 0), some (.int x1), none, none, none, none, none, none, none], [], h) _
  refine gw_pst hk 2 (st' := (2, [some (.ref 0), some (.int x1), none, none, none, none, none, none, none], [.int 1, .int x1], h)) rfl ?_
  refine gw_br (c := x1 < 1) (a := (11, [some (.ref 0), some (.int x1), none, none, none, none, none, none, none], [], h)) (b := (5, [some (.ref 0), some (.int x1), none, none, none, none, none, none, none], [], h)) (hk _ _ rfl) rfl ⟨fun z1 => ?_, fun z1 => ?_⟩
  · replace w := w.1 z1
    refine gw_le (L' := [none, none, none, none, none, none, none, none, none]) (gm_le_n _ (gm_le_n _ (gm_le_k _ (gm_le_k _ (gm_le_k _ (gm_le_k _ (gm_le_k _ (gm_le_k _ (gm_le_k _ gm_le_nil))))))))) ?_
    exact ok121_11 c d Post _ w _ hR
  · replace w := w.2 z1
    refine gw_pst hk 2 (st' := (8, [some (.ref 0), some (.int x1), none, none, none, none, none, none, none], [.int 20, .int x1], h)) rfl ?_
    refine gw_br (c := x1 ≤ 20) (a := (13, [some (.ref 0), some (.int x1), none, none, none, none, none, none, none], [], h)) (b := (11, [some (.ref 0), some (.int x1), none, none, none, none, none, none, none], [], h)) (hk _ _ rfl) rfl ⟨fun z2 => ?_, fun z2 => ?_⟩
    · replace w := w.1 z2
      refine gw_pst hk 8 (st' := (23, [some (.ref 0), some (.int x1), some (.int 0), some (.int 0), some (.int 0), some (.int 0), none, none, none], [], h)) rfl ?_
      obtain ⟨n, w⟩ := w
      exact okl121_23 c d Post n _ _ _ _ _ _ w _ hR
    · replace w := w.2 z2
      refine gw_le (L' := [none, none, none, none, none, none, none, none, none]) (gm_le_n _ (gm_le_n _ (gm_le_k _ (gm_le_k _ (gm_le_k _ (gm_le_k _ (gm_le_k _ (gm_le_k _ (gm_le_k _ gm_le_nil))))))))) ?_
      exact ok121_11 c d Post _ w _ hR
def w122_75 (c : gx) (d : Nat) (Post : Option Value → gs → Prop) (K5 : Int32 → Int32 → Int32 → Int32 → gs → Prop) (x1 : Int32) (x2 : Int32) (x3 : Int32) (x4 : Int32) (s : gs) : Prop :=
  K5 x1 x2 x3 (x4 + 1) s
theorem ok122_75 (c : gx) (d : Nat) (Post : Option Value → gs → Prop) (K5 : Int32 → Int32 → Int32 → Int32 → gs → Prop)  (hK5 : ∀ (x1 : Int32) (x2 : Int32) (x3 : Int32) (x4 : Int32) (s : gs), K5 x1 x2 x3 x4 s → tV c d 122 5 [some (.ref 0), some (.int x1), some (.int x2), some (.int x3), some (.int x4), none] [] s Post) (x1 : Int32) (x2 : Int32) (x3 : Int32) (x4 : Int32) (s : gs) (w : w122_75 c d Post K5 x1 x2 x3 x4 s) : tV c d 122 75 [some (.ref 0), some (.int x1), some (.int x2), some (.int x3), some (.int x4), none] [] s Post := by
  intro h hR
  have hk : ∀ pc i, gm_find gk_122 pc = some i → gm_code (gt_T c.1 c.2.1 c.2.2.1) 122 pc = some i := fun _ _ z => z
  unfold w122_75 at w
  unfold gV
  refine gw_pst hk 2 (st' := (5, [some (.ref 0), some (.int x1), some (.int x2), some (.int x3), some (.int (x4 + 1)), none], [], h)) rfl ?_
  exact hK5 _ _ _ _ _ w _ hR
def w122_72 (c : gx) (d : Nat) (Post : Option Value → gs → Prop) (K5 : Int32 → Int32 → Int32 → Int32 → gs → Prop) (x1 : Int32) (x2 : Int32) (x4 : Int32) (s : gs) : Prop :=
  w122_75 c d Post K5 x1 x2 x4 x4 s
theorem ok122_72 (c : gx) (d : Nat) (Post : Option Value → gs → Prop) (K5 : Int32 → Int32 → Int32 → Int32 → gs → Prop)  (hK5 : ∀ (x1 : Int32) (x2 : Int32) (x3 : Int32) (x4 : Int32) (s : gs), K5 x1 x2 x3 x4 s → tV c d 122 5 [some (.ref 0), some (.int x1), some (.int x2), some (.int x3), some (.int x4), none] [] s Post) (x1 : Int32) (x2 : Int32) (x4 : Int32) (s : gs) (w : w122_72 c d Post K5 x1 x2 x4 s) : tV c d 122 72 [some (.ref 0), some (.int x1), some (.int x2), none, some (.int x4), none] [] s Post := by
  intro h hR
  have hk : ∀ pc i, gm_find gk_122 pc = some i → gm_code (gt_T c.1 c.2.1 c.2.2.1) 122 pc = some i := fun _ _ z => z
  unfold w122_72 at w
  unfold gV
  refine gw_pst hk 2 (st' := (75, [some (.ref 0), some (.int x1), some (.int x2), some (.int x4), some (.int x4), none], [], h)) rfl ?_
  exact ok122_75 c d Post K5 hK5 _ _ _ _ _ w _ hR
def w122_46 (c : gx) (d : Nat) (Post : Option Value → gs → Prop) (K5 : Int32 → Int32 → Int32 → Int32 → gs → Prop) (x1 : Int32) (x2 : Int32) (x3 : Int32) (x4 : Int32) (xs0 : Int32) (s : gs) : Prop :=
  ((xs0 = 0 → w122_75 c d Post K5 x1 x2 x3 x4 s) ∧ (¬ (xs0 = 0) → ((x3 = (-1) → w122_72 c d Post K5 x1 x2 x4 s) ∧ (¬ (x3 = (-1)) → tE c d 123 [.ref 0, .int x4] s (fun v3 s_3 => ∃ x_3 : Int32, v3 = some (.int x_3) ∧ tE c d 123 [.ref 0, .int x3] s_3 (fun v4 s_4 => ∃ x_4 : Int32, v4 = some (.int x_4) ∧ ((x_3 ≤ x_4 → w122_75 c d Post K5 x1 x2 x3 x4 s_4) ∧ (¬ (x_3 ≤ x_4) → w122_72 c d Post K5 x1 x2 x4 s_4))))))))
theorem ok122_46 (c : gx) (d : Nat) (Post : Option Value → gs → Prop) (K5 : Int32 → Int32 → Int32 → Int32 → gs → Prop)  (hK5 : ∀ (x1 : Int32) (x2 : Int32) (x3 : Int32) (x4 : Int32) (s : gs), K5 x1 x2 x3 x4 s → tV c d 122 5 [some (.ref 0), some (.int x1), some (.int x2), some (.int x3), some (.int x4), none] [] s Post) (x1 : Int32) (x2 : Int32) (x3 : Int32) (x4 : Int32) (xs0 : Int32) (s : gs) (w : w122_46 c d Post K5 x1 x2 x3 x4 xs0 s) : tV c d 122 46 [some (.ref 0), some (.int x1), some (.int x2), some (.int x3), some (.int x4), none] [.int xs0] s Post := by
  intro h hR
  have hk : ∀ pc i, gm_find gk_122 pc = some i → gm_code (gt_T c.1 c.2.1 c.2.2.1) 122 pc = some i := fun _ _ z => z
  unfold w122_46 at w
  unfold gV
  refine gw_pst hk 2 (st' := (50, [some (.ref 0), some (.int x1), some (.int x2), some (.int x3), some (.int x4), some (.int xs0)], [.int xs0], h)) rfl ?_
  refine gw_br (c := xs0 = 0) (a := (75, [some (.ref 0), some (.int x1), some (.int x2), some (.int x3), some (.int x4), some (.int xs0)], [], h)) (b := (53, [some (.ref 0), some (.int x1), some (.int x2), some (.int x3), some (.int x4), some (.int xs0)], [], h)) (hk _ _ rfl) rfl ⟨fun z1 => ?_, fun z1 => ?_⟩
  · replace w := w.1 z1
    refine gw_le (L' := [some (.ref 0), some (.int x1), some (.int x2), some (.int x3), some (.int x4), none]) (gm_le_k _ (gm_le_k _ (gm_le_k _ (gm_le_k _ (gm_le_k _ (gm_le_n _ gm_le_nil)))))) ?_
    exact ok122_75 c d Post K5 hK5 _ _ _ _ _ w _ hR
  · replace w := w.2 z1
    refine gw_pst hk 2 (st' := (55, [some (.ref 0), some (.int x1), some (.int x2), some (.int x3), some (.int x4), some (.int xs0)], [.int (-1), .int x3], h)) rfl ?_
    refine gw_br (c := x3 = (-1)) (a := (72, [some (.ref 0), some (.int x1), some (.int x2), some (.int x3), some (.int x4), some (.int xs0)], [], h)) (b := (58, [some (.ref 0), some (.int x1), some (.int x2), some (.int x3), some (.int x4), some (.int xs0)], [], h)) (hk _ _ rfl) rfl ⟨fun z2 => ?_, fun z2 => ?_⟩
    · replace w := w.1 z2
      refine gw_le (L' := [some (.ref 0), some (.int x1), some (.int x2), none, some (.int x4), none]) (gm_le_k _ (gm_le_k _ (gm_le_k _ (gm_le_n _ (gm_le_k _ (gm_le_n _ gm_le_nil)))))) ?_
      exact ok122_72 c d Post K5 hK5 _ _ _ _ w _ hR
    · replace w := w.2 z2
      refine gw_pst hk 2 (st' := (61, [some (.ref 0), some (.int x1), some (.int x2), some (.int x3), some (.int x4), some (.int xs0)], [.int x4, .ref 0], h)) rfl ?_
      obtain ⟨fs3, e3⟩ := RL_o hR (r := 0) (ci := 9) rfl
      refine gw_call (jj := 123) (As := [.ref 0, .int x4]) (rest := []) (hk _ _ rfl) (fun _ => rfl) rfl rfl (Nat.le_of_ble_eq_true rfl) (gm_rcv_v rfl e3 rfl) ?_
      refine ge_imp (w h hR) (fun v3 h w => ?_)
      obtain ⟨s_3, hR, x_3, rfl, w⟩ := w
      show gw (gt_T c.1 c.2.1 c.2.2.1) c.2.2.2 d 122 (64, [some (.ref 0), some (.int x1), some (.int x2), some (.int x3), some (.int x4), some (.int xs0)], [.int x_3], h) _
      refine gw_pst hk 2 (st' := (66, [some (.ref 0), some (.int x1), some (.int x2), some (.int x3), some (.int x4), some (.int xs0)], [.int x3, .ref 0, .int x_3], h)) rfl ?_
      obtain ⟨fs4, e4⟩ := RL_o hR (r := 0) (ci := 9) rfl
      refine gw_call (jj := 123) (As := [.ref 0, .int x3]) (rest := [.int x_3]) (hk _ _ rfl) (fun _ => rfl) rfl rfl (Nat.le_of_ble_eq_true rfl) (gm_rcv_v rfl e4 rfl) ?_
      refine ge_imp (w h hR) (fun v4 h w => ?_)
      obtain ⟨s_4, hR, x_4, rfl, w⟩ := w
      show gw (gt_T c.1 c.2.1 c.2.2.1) c.2.2.2 d 122 (69, [some (.ref 0), some (.int x1), some (.int x2), some (.int x3), some (.int x4), some (.int xs0)], [.int x_4, .int x_3], h) _
      refine gw_br (c := x_3 ≤ x_4) (a := (75, [some (.ref 0), some (.int x1), some (.int x2), some (.int x3), some (.int x4), some (.int xs0)], [], h)) (b := (72, [some (.ref 0), some (.int x1), some (.int x2), some (.int x3), some (.int x4), some (.int xs0)], [], h)) (hk _ _ rfl) rfl ⟨fun z5 => ?_, fun z5 => ?_⟩
      · replace w := w.1 z5
        refine gw_le (L' := [some (.ref 0), some (.int x1), some (.int x2), some (.int x3), some (.int x4), none]) (gm_le_k _ (gm_le_k _ (gm_le_k _ (gm_le_k _ (gm_le_k _ (gm_le_n _ gm_le_nil)))))) ?_
        exact ok122_75 c d Post K5 hK5 _ _ _ _ _ w _ hR
      · replace w := w.2 z5
        refine gw_le (L' := [some (.ref 0), some (.int x1), some (.int x2), none, some (.int x4), none]) (gm_le_k _ (gm_le_k _ (gm_le_k _ (gm_le_n _ (gm_le_k _ (gm_le_n _ gm_le_nil)))))) ?_
        exact ok122_72 c d Post K5 hK5 _ _ _ _ w _ hR
def w122_45 (c : gx) (d : Nat) (Post : Option Value → gs → Prop) (K5 : Int32 → Int32 → Int32 → Int32 → gs → Prop) (x1 : Int32) (x2 : Int32) (x3 : Int32) (x4 : Int32) (s : gs) : Prop :=
  w122_46 c d Post K5 x1 x2 x3 x4 0 s
theorem ok122_45 (c : gx) (d : Nat) (Post : Option Value → gs → Prop) (K5 : Int32 → Int32 → Int32 → Int32 → gs → Prop)  (hK5 : ∀ (x1 : Int32) (x2 : Int32) (x3 : Int32) (x4 : Int32) (s : gs), K5 x1 x2 x3 x4 s → tV c d 122 5 [some (.ref 0), some (.int x1), some (.int x2), some (.int x3), some (.int x4), none] [] s Post) (x1 : Int32) (x2 : Int32) (x3 : Int32) (x4 : Int32) (s : gs) (w : w122_45 c d Post K5 x1 x2 x3 x4 s) : tV c d 122 45 [some (.ref 0), some (.int x1), some (.int x2), some (.int x3), some (.int x4), none] [] s Post := by
  intro h hR
  have hk : ∀ pc i, gm_find gk_122 pc = some i → gm_code (gt_T c.1 c.2.1 c.2.2.1) 122 pc = some i := fun _ _ z => z
  unfold w122_45 at w
  unfold gV
  refine gw_pst hk 1 (st' := (46, [some (.ref 0), some (.int x1), some (.int x2), some (.int x3), some (.int x4), none], [.int 0], h)) rfl ?_
  exact ok122_46 c d Post K5 hK5 _ _ _ _ _ _ w _ hR
def wb122_5 (c : gx) (d : Nat) (Post : Option Value → gs → Prop) (K5 : Int32 → Int32 → Int32 → Int32 → gs → Prop) (x1 : Int32) (x2 : Int32) (x3 : Int32) (x4 : Int32) (s : gs) : Prop :=
  ((x1 ≤ x4 → Post (some (.int x3)) s) ∧ (¬ (x1 ≤ x4) → (((x2 &&& (1 <<< (x4 &&& 31))) = 0 → tE c d 51 [.ref 14, .int ((gsV s 14 0) + x4)] s (fun v6 s_6 => ∃ x_6 : Int32, v6 = some (.int x_6) ∧ ((x_6 = (-1) → w122_45 c d Post K5 x1 x2 x3 x4 s_6) ∧ (¬ (x_6 = (-1)) → w122_46 c d Post K5 x1 x2 x3 x4 1 s_6)))) ∧ (¬ ((x2 &&& (1 <<< (x4 &&& 31))) = 0) → w122_45 c d Post K5 x1 x2 x3 x4 s))))
theorem okb122_5 (c : gx) (d : Nat) (Post : Option Value → gs → Prop) (K5 : Int32 → Int32 → Int32 → Int32 → gs → Prop)  (hK5 : ∀ (x1 : Int32) (x2 : Int32) (x3 : Int32) (x4 : Int32) (s : gs), K5 x1 x2 x3 x4 s → tV c d 122 5 [some (.ref 0), some (.int x1), some (.int x2), some (.int x3), some (.int x4), none] [] s Post) (x1 : Int32) (x2 : Int32) (x3 : Int32) (x4 : Int32) (s : gs) (w : wb122_5 c d Post K5 x1 x2 x3 x4 s) : tV c d 122 5 [some (.ref 0), some (.int x1), some (.int x2), some (.int x3), some (.int x4), none] [] s Post := by
  intro h hR
  have hk : ∀ pc i, gm_find gk_122 pc = some i → gm_code (gt_T c.1 c.2.1 c.2.2.1) 122 pc = some i := fun _ _ z => z
  unfold wb122_5 at w
  unfold gV
  refine gw_pst hk 2 (st' := (8, [some (.ref 0), some (.int x1), some (.int x2), some (.int x3), some (.int x4), none], [.int x1, .int x4], h)) rfl ?_
  refine gw_br (c := x1 ≤ x4) (a := (81, [some (.ref 0), some (.int x1), some (.int x2), some (.int x3), some (.int x4), none], [], h)) (b := (11, [some (.ref 0), some (.int x1), some (.int x2), some (.int x3), some (.int x4), none], [], h)) (hk _ _ rfl) rfl ⟨fun z1 => ?_, fun z1 => ?_⟩
  · replace w := w.1 z1
    refine gw_pst hk 1 (st' := (82, [some (.ref 0), some (.int x1), some (.int x2), some (.int x3), some (.int x4), none], [.int x3], h)) rfl ?_
    exact gw_ret (hk _ _ rfl) rfl ⟨_, hR, w⟩
  · replace w := w.2 z1
    refine gw_pst hk 5 (st' := (17, [some (.ref 0), some (.int x1), some (.int x2), some (.int x3), some (.int x4), none], [.int (x2 &&& (1 <<< (x4 &&& 31)))], h)) rfl ?_
    refine gw_br (c := (x2 &&& (1 <<< (x4 &&& 31))) = 0) (a := (20, [some (.ref 0), some (.int x1), some (.int x2), some (.int x3), some (.int x4), none], [], h)) (b := (45, [some (.ref 0), some (.int x1), some (.int x2), some (.int x3), some (.int x4), none], [], h)) (hk _ _ rfl) rfl ⟨fun z2 => ?_, fun z2 => ?_⟩
    · replace w := w.1 z2
      refine gw_pst hk 1 (st' := (21, [some (.ref 0), some (.int x1), some (.int x2), some (.int x3), some (.int x4), none], [.ref 0], h)) rfl ?_
      refine gw_gf (hk _ _ rfl) (RL_fR (n := 14) hR rfl) ?_
      refine gw_pst hk 1 (st' := (25, [some (.ref 0), some (.int x1), some (.int x2), some (.int x3), some (.int x4), none], [.ref 0, .ref 14], h)) rfl ?_
      refine gw_gf (hk _ _ rfl) (RL_fR (n := 14) hR rfl) ?_
      refine gw_gf (hk _ _ rfl) (RL_fI hR rfl) ?_
      refine gw_pst hk 2 (st' := (34, [some (.ref 0), some (.int x1), some (.int x2), some (.int x3), some (.int x4), none], [.int ((gsV s 14 0) + x4), .ref 14], h)) rfl ?_
      obtain ⟨fs6, e6⟩ := RL_o hR (r := 14) (ci := 6) rfl
      refine gw_call (jj := 51) (As := [.ref 14, .int ((gsV s 14 0) + x4)]) (rest := []) (hk _ _ rfl) (fun _ => rfl) rfl rfl (Nat.le_of_ble_eq_true rfl) (gm_rcv_v rfl e6 rfl) ?_
      refine ge_imp (w h hR) (fun v6 h w => ?_)
      obtain ⟨s_6, hR, x_6, rfl, w⟩ := w
      show gw (gt_T c.1 c.2.1 c.2.2.1) c.2.2.2 d 122 (37, [some (.ref 0), some (.int x1), some (.int x2), some (.int x3), some (.int x4), none], [.int x_6], h) _
      refine gw_pst hk 1 (st' := (38, [some (.ref 0), some (.int x1), some (.int x2), some (.int x3), some (.int x4), none], [.int (-1), .int x_6], h)) rfl ?_
      refine gw_br (c := x_6 = (-1)) (a := (45, [some (.ref 0), some (.int x1), some (.int x2), some (.int x3), some (.int x4), none], [], h)) (b := (41, [some (.ref 0), some (.int x1), some (.int x2), some (.int x3), some (.int x4), none], [], h)) (hk _ _ rfl) rfl ⟨fun z7 => ?_, fun z7 => ?_⟩
      · replace w := w.1 z7
        exact ok122_45 c d Post K5 hK5 _ _ _ _ _ w _ hR
      · replace w := w.2 z7
        refine gw_pst hk 2 (st' := (46, [some (.ref 0), some (.int x1), some (.int x2), some (.int x3), some (.int x4), none], [.int 1], h)) rfl ?_
        exact ok122_46 c d Post K5 hK5 _ _ _ _ _ _ w _ hR
    · replace w := w.2 z2
      exact ok122_45 c d Post K5 hK5 _ _ _ _ _ w _ hR
def wl122_5 (c : gx) (d : Nat) (Post : Option Value → gs → Prop) : Nat → Int32 → Int32 → Int32 → Int32 → gs → Prop
  | 0 => fun _ _ _ _ _ => False
  | n + 1 => wb122_5 c d Post (wl122_5 c d Post n)
theorem okl122_5 (c : gx) (d : Nat) (Post : Option Value → gs → Prop) : ∀ (n : Nat) (x1 : Int32) (x2 : Int32) (x3 : Int32) (x4 : Int32) (s : gs), wl122_5 c d Post n x1 x2 x3 x4 s → tV c d 122 5 [some (.ref 0), some (.int x1), some (.int x2), some (.int x3), some (.int x4), none] [] s Post
  | 0, _, _, _, _, _, w => w.elim
  | n + 1, x1, x2, x3, x4, s, w => okb122_5 c d Post (wl122_5 c d Post n) (okl122_5 c d Post n) x1 x2 x3 x4 s w
/-- CommandByTurns.bestToGive(II)I -/
def wm122 (c : gx) (d : Nat) (Post : Option Value → gs → Prop) (x1 : Int32) (x2 : Int32) (s : gs) : Prop :=
  ∃ n, wl122_5 c d Post n x1 x2 (-1) 0 s
theorem okm122 (c : gx) (d : Nat) (Post : Option Value → gs → Prop) (x1 : Int32) (x2 : Int32) (s : gs) (w : wm122 c d Post x1 x2 s) : tE c (d + 1) 122 [.ref 0, .int x1, .int x2] s Post := by
  intro h hR
  have hk : ∀ pc i, gm_find gk_122 pc = some i → gm_code (gt_T c.1 c.2.1 c.2.2.1) 122 pc = some i := fun _ _ z => z
  unfold wm122 at w
  refine ge_of (by decide) (Nat.le_of_ble_eq_true rfl) ?_
  show gw (gt_T c.1 c.2.1 c.2.2.1) c.2.2.2 d 122 (0, [some (.ref 0), some (.int x1), some (.int x2), none, none, none], [], h) _
  refine gw_pst hk 4 (st' := (5, [some (.ref 0), some (.int x1), some (.int x2), some (.int (-1)), some (.int 0), none], [], h)) rfl ?_
  obtain ⟨n, w⟩ := w
  exact okl122_5 c d Post n _ _ _ _ _ w _ hR
/-- CommandByTurns.gainByGiving(I)I -/
def wm123 (c : gx) (d : Nat) (Post : Option Value → gs → Prop) (x1 : Int32) (s : gs) : Prop :=
  tE c d 30 [.ref 10, .int ((gsV s 14 0) + x1)] s (fun v4 s_4 => ∃ x_4 : Int32, v4 = some (.int x_4) ∧ tE c d 30 [.ref 12, .int ((gsV s_4 14 0) + x1)] s_4 (fun v8 s_8 => ∃ x_8 : Int32, v8 = some (.int x_8) ∧ Post (some (.int (x_4 - x_8))) s_8))
theorem okm123 (c : gx) (d : Nat) (Post : Option Value → gs → Prop) (x1 : Int32) (s : gs) (w : wm123 c d Post x1 s) : tE c (d + 1) 123 [.ref 0, .int x1] s Post := by
  intro h hR
  have hk : ∀ pc i, gm_find gk_123 pc = some i → gm_code (gt_T c.1 c.2.1 c.2.2.1) 123 pc = some i := fun _ _ z => z
  unfold wm123 at w
  refine ge_of (by decide) (Nat.le_of_ble_eq_true rfl) ?_
  show gw (gt_T c.1 c.2.1 c.2.2.1) c.2.2.2 d 123 (0, [some (.ref 0), some (.int x1)], [], h) _
  refine gw_pst hk 1 (st' := (1, [some (.ref 0), some (.int x1)], [.ref 0], h)) rfl ?_
  refine gw_gf (hk _ _ rfl) (RL_fR (n := 10) hR rfl) ?_
  refine gw_pst hk 1 (st' := (5, [some (.ref 0), some (.int x1)], [.ref 0, .ref 10], h)) rfl ?_
  refine gw_gf (hk _ _ rfl) (RL_fR (n := 14) hR rfl) ?_
  refine gw_gf (hk _ _ rfl) (RL_fI hR rfl) ?_
  refine gw_pst hk 2 (st' := (13, [some (.ref 0), some (.int x1)], [.int ((gsV s 14 0) + x1), .ref 10], h)) rfl ?_
  obtain ⟨fs4, e4⟩ := RL_o hR (r := 10) (ci := 2) rfl
  refine gw_call (jj := 30) (As := [.ref 10, .int ((gsV s 14 0) + x1)]) (rest := []) (hk _ _ rfl) (fun _ => rfl) rfl rfl (Nat.le_of_ble_eq_true rfl) (gm_rcv_v rfl e4 rfl) ?_
  refine ge_imp (w h hR) (fun v4 h w => ?_)
  obtain ⟨s_4, hR, x_4, rfl, w⟩ := w
  show gw (gt_T c.1 c.2.1 c.2.2.1) c.2.2.2 d 123 (16, [some (.ref 0), some (.int x1)], [.int x_4], h) _
  refine gw_pst hk 1 (st' := (17, [some (.ref 0), some (.int x1)], [.ref 0, .int x_4], h)) rfl ?_
  refine gw_gf (hk _ _ rfl) (RL_fR (n := 12) hR rfl) ?_
  refine gw_pst hk 1 (st' := (21, [some (.ref 0), some (.int x1)], [.ref 0, .ref 12, .int x_4], h)) rfl ?_
  refine gw_gf (hk _ _ rfl) (RL_fR (n := 14) hR rfl) ?_
  refine gw_gf (hk _ _ rfl) (RL_fI hR rfl) ?_
  refine gw_pst hk 2 (st' := (29, [some (.ref 0), some (.int x1)], [.int ((gsV s_4 14 0) + x1), .ref 12, .int x_4], h)) rfl ?_
  obtain ⟨fs8, e8⟩ := RL_o hR (r := 12) (ci := 2) rfl
  refine gw_call (jj := 30) (As := [.ref 12, .int ((gsV s_4 14 0) + x1)]) (rest := [.int x_4]) (hk _ _ rfl) (fun _ => rfl) rfl rfl (Nat.le_of_ble_eq_true rfl) (gm_rcv_v rfl e8 rfl) ?_
  refine ge_imp (w h hR) (fun v8 h w => ?_)
  obtain ⟨s_8, hR, x_8, rfl, w⟩ := w
  show gw (gt_T c.1 c.2.1 c.2.2.1) c.2.2.2 d 123 (32, [some (.ref 0), some (.int x1)], [.int x_8, .int x_4], h) _
  refine gw_pst hk 1 (st' := (33, [some (.ref 0), some (.int x1)], [.int (x_4 - x_8)], h)) rfl ?_
  exact gw_ret (hk _ _ rfl) rfl ⟨_, hR, w⟩
def w124_11 (c : gx) (d : Nat) (Post : Option Value → gs → Prop)  (s : gs) : Prop :=
  Post (some (.int (-1))) s
theorem ok124_11 (c : gx) (d : Nat) (Post : Option Value → gs → Prop)   (s : gs) (w : w124_11 c d Post  s) : tV c d 124 11 [none, none, none, none, none, none, none, none] [] s Post := by
  intro h hR
  have hk : ∀ pc i, gm_find gk_124 pc = some i → gm_code (gt_T c.1 c.2.1 c.2.2.1) 124 pc = some i := fun _ _ z => z
  unfold w124_11 at w
  unfold gV
  refine gw_pst hk 1 (st' := (12, [none, none, none, none, none, none, none, none], [.int (-1)], h)) rfl ?_
  exact gw_ret (hk _ _ rfl) rfl ⟨_, hR, w⟩
def w124_172 (c : gx) (d : Nat) (Post : Option Value → gs → Prop) (K121 : Int32 → Int32 → Int32 → Int32 → Int32 → gs → Prop) (K130 : Int32 → Int32 → Int32 → Int32 → Int32 → Int32 → gs → Prop) (x1 : Int32) (x2 : Int32) (x3 : Int32) (x4 : Int32) (x5 : Int32) (x6 : Int32) (s : gs) : Prop :=
  K130 x1 x2 x3 x4 x5 (x6 + 1) s
theorem ok124_172 (c : gx) (d : Nat) (Post : Option Value → gs → Prop) (K121 : Int32 → Int32 → Int32 → Int32 → Int32 → gs → Prop) (K130 : Int32 → Int32 → Int32 → Int32 → Int32 → Int32 → gs → Prop)  (hK121 : ∀ (x1 : Int32) (x2 : Int32) (x3 : Int32) (x4 : Int32) (x5 : Int32) (s : gs), K121 x1 x2 x3 x4 x5 s → tV c d 124 121 [some (.ref 0), some (.int x1), some (.int x2), some (.int x3), some (.int x4), some (.int x5), none, none] [] s Post) (hK130 : ∀ (x1 : Int32) (x2 : Int32) (x3 : Int32) (x4 : Int32) (x5 : Int32) (x6 : Int32) (s : gs), K130 x1 x2 x3 x4 x5 x6 s → tV c d 124 130 [some (.ref 0), some (.int x1), some (.int x2), some (.int x3), some (.int x4), some (.int x5), some (.int x6), none] [] s Post) (x1 : Int32) (x2 : Int32) (x3 : Int32) (x4 : Int32) (x5 : Int32) (x6 : Int32) (s : gs) (w : w124_172 c d Post K121 K130 x1 x2 x3 x4 x5 x6 s) : tV c d 124 172 [some (.ref 0), some (.int x1), some (.int x2), some (.int x3), some (.int x4), some (.int x5), some (.int x6), none] [] s Post := by
  intro h hR
  have hk : ∀ pc i, gm_find gk_124 pc = some i → gm_code (gt_T c.1 c.2.1 c.2.2.1) 124 pc = some i := fun _ _ z => z
  unfold w124_172 at w
  unfold gV
  refine gw_pst hk 2 (st' := (130, [some (.ref 0), some (.int x1), some (.int x2), some (.int x3), some (.int x4), some (.int x5), some (.int (x6 + 1)), none], [], h)) rfl ?_
  exact hK130 _ _ _ _ _ _ _ w _ hR
def w124_162 (c : gx) (d : Nat) (Post : Option Value → gs → Prop) (K121 : Int32 → Int32 → Int32 → Int32 → Int32 → gs → Prop) (K130 : Int32 → Int32 → Int32 → Int32 → Int32 → Int32 → gs → Prop) (x1 : Int32) (x5 : Int32) (x6 : Int32) (x7 : Int32) (s : gs) : Prop :=
  w124_172 c d Post K121 K130 x1 x5 x6 x7 x5 x6 s
theorem ok124_162 (c : gx) (d : Nat) (Post : Option Value → gs → Prop) (K121 : Int32 → Int32 → Int32 → Int32 → Int32 → gs → Prop) (K130 : Int32 → Int32 → Int32 → Int32 → Int32 → Int32 → gs → Prop)  (hK121 : ∀ (x1 : Int32) (x2 : Int32) (x3 : Int32) (x4 : Int32) (x5 : Int32) (s : gs), K121 x1 x2 x3 x4 x5 s → tV c d 124 121 [some (.ref 0), some (.int x1), some (.int x2), some (.int x3), some (.int x4), some (.int x5), none, none] [] s Post) (hK130 : ∀ (x1 : Int32) (x2 : Int32) (x3 : Int32) (x4 : Int32) (x5 : Int32) (x6 : Int32) (s : gs), K130 x1 x2 x3 x4 x5 x6 s → tV c d 124 130 [some (.ref 0), some (.int x1), some (.int x2), some (.int x3), some (.int x4), some (.int x5), some (.int x6), none] [] s Post) (x1 : Int32) (x5 : Int32) (x6 : Int32) (x7 : Int32) (s : gs) (w : w124_162 c d Post K121 K130 x1 x5 x6 x7 s) : tV c d 124 162 [some (.ref 0), some (.int x1), none, none, none, some (.int x5), some (.int x6), some (.int x7)] [] s Post := by
  intro h hR
  have hk : ∀ pc i, gm_find gk_124 pc = some i → gm_code (gt_T c.1 c.2.1 c.2.2.1) 124 pc = some i := fun _ _ z => z
  unfold w124_162 at w
  unfold gV
  refine gw_pst hk 6 (st' := (172, [some (.ref 0), some (.int x1), some (.int x5), some (.int x6), some (.int x7), some (.int x5), some (.int x6), some (.int x7)], [], h)) rfl ?_
  refine gw_le (L' := [some (.ref 0), some (.int x1), some (.int x5), some (.int x6), some (.int x7), some (.int x5), some (.int x6), none]) (gm_le_k _ (gm_le_k _ (gm_le_k _ (gm_le_k _ (gm_le_k _ (gm_le_k _ (gm_le_k _ (gm_le_n _ gm_le_nil)))))))) ?_
  exact ok124_172 c d Post K121 K130 hK121 hK130 _ _ _ _ _ _ _ w _ hR
def wb124_130 (c : gx) (d : Nat) (Post : Option Value → gs → Prop) (K121 : Int32 → Int32 → Int32 → Int32 → Int32 → gs → Prop) (K130 : Int32 → Int32 → Int32 → Int32 → Int32 → Int32 → gs → Prop) (x1 : Int32) (x2 : Int32) (x3 : Int32) (x4 : Int32) (x5 : Int32) (x6 : Int32) (s : gs) : Prop :=
  (((1 <<< (x5 &&& 31)) ≤ x6 → K121 x1 x2 x3 x4 (x5 + 1) s) ∧ (¬ ((1 <<< (x5 &&& 31)) ≤ x6) → tE c d 125 [.ref 0, .int x1, .int x5, .int x6] s (fun v2 s_2 => ∃ x_2 : Int32, v2 = some (.int x_2) ∧ ((x2 = (-1) → w124_162 c d Post K121 K130 x1 x5 x6 x_2 s_2) ∧ (¬ (x2 = (-1)) → ((x_2 ≤ x4 → w124_172 c d Post K121 K130 x1 x2 x3 x4 x5 x6 s_2) ∧ (¬ (x_2 ≤ x4) → w124_162 c d Post K121 K130 x1 x5 x6 x_2 s_2)))))))
theorem okb124_130 (c : gx) (d : Nat) (Post : Option Value → gs → Prop) (K121 : Int32 → Int32 → Int32 → Int32 → Int32 → gs → Prop) (K130 : Int32 → Int32 → Int32 → Int32 → Int32 → Int32 → gs → Prop)  (hK121 : ∀ (x1 : Int32) (x2 : Int32) (x3 : Int32) (x4 : Int32) (x5 : Int32) (s : gs), K121 x1 x2 x3 x4 x5 s → tV c d 124 121 [some (.ref 0), some (.int x1), some (.int x2), some (.int x3), some (.int x4), some (.int x5), none, none] [] s Post) (hK130 : ∀ (x1 : Int32) (x2 : Int32) (x3 : Int32) (x4 : Int32) (x5 : Int32) (x6 : Int32) (s : gs), K130 x1 x2 x3 x4 x5 x6 s → tV c d 124 130 [some (.ref 0), some (.int x1), some (.int x2), some (.int x3), some (.int x4), some (.int x5), some (.int x6), none] [] s Post) (x1 : Int32) (x2 : Int32) (x3 : Int32) (x4 : Int32) (x5 : Int32) (x6 : Int32) (s : gs) (w : wb124_130 c d Post K121 K130 x1 x2 x3 x4 x5 x6 s) : tV c d 124 130 [some (.ref 0), some (.int x1), some (.int x2), some (.int x3), some (.int x4), some (.int x5), some (.int x6), none] [] s Post := by
  intro h hR
  have hk : ∀ pc i, gm_find gk_124 pc = some i → gm_code (gt_T c.1 c.2.1 c.2.2.1) 124 pc = some i := fun _ _ z => z
  unfold wb124_130 at w
  unfold gV
  refine gw_pst hk 4 (st' := (136, [some (.ref 0), some (.int x1), some (.int x2), some (.int x3), some (.int x4), some (.int x5), some (.int x6), none], [.int (1 <<< (x5 &&& 31)), .int x6], h)) rfl ?_
  refine gw_br (c := (1 <<< (x5 &&& 31)) ≤ x6) (a := (178, [some (.ref 0), some (.int x1), some (.int x2), some (.int x3), some (.int x4), some (.int x5), some (.int x6), none], [], h)) (b := (139, [some (.ref 0), some (.int x1), some (.int x2), some (.int x3), some (.int x4), some (.int x5), some (.int x6), none], [], h)) (hk _ _ rfl) rfl ⟨fun z1 => ?_, fun z1 => ?_⟩
  · replace w := w.1 z1
    refine gw_pst hk 2 (st' := (121, [some (.ref 0), some (.int x1), some (.int x2), some (.int x3), some (.int x4), some (.int (x5 + 1)), some (.int x6), none], [], h)) rfl ?_
    refine gw_le (L' := [some (.ref 0), some (.int x1), some (.int x2), some (.int x3), some (.int x4), some (.int (x5 + 1)), none, none]) (gm_le_k _ (gm_le_k _ (gm_le_k _ (gm_le_k _ (gm_le_k _ (gm_le_k _ (gm_le_n _ (gm_le_k _ gm_le_nil)))))))) ?_
    exact hK121 _ _ _ _ _ _ w _ hR
  · replace w := w.2 z1
    refine gw_pst hk 4 (st' := (145, [some (.ref 0), some (.int x1), some (.int x2), some (.int x3), some (.int x4), some (.int x5), some (.int x6), none], [.int x6, .int x5, .int x1, .ref 0], h)) rfl ?_
    obtain ⟨fs2, e2⟩ := RL_o hR (r := 0) (ci := 9) rfl
    refine gw_call (jj := 125) (As := [.ref 0, .int x1, .int x5, .int x6]) (rest := []) (hk _ _ rfl) (fun _ => rfl) rfl rfl (Nat.le_of_ble_eq_true rfl) (gm_rcv_v rfl e2 rfl) ?_
    refine ge_imp (w h hR) (fun v2 h w => ?_)
    obtain ⟨s_2, hR, x_2, rfl, w⟩ := w
    show gw (gt_T c.1 c.2.1 c.2.2.1) c.2.2.2 d 124 (148, [some (.ref 0), some (.int x1), some (.int x2), some (.int x3), some (.int x4), some (.int x5), some (.int x6), none], [.int x_2], h) _
    refine gw_pst hk 3 (st' := (152, [some (.ref 0), some (.int x1), some (.int x2), some (.int x3), some (.int x4), some (.int x5), some (.int x6), some (.int x_2)], [.int (-1), .int x2], h)) rfl ?_
    refine gw_br (c := x2 = (-1)) (a := (162, [some (.ref 0), some (.int x1), some (.int x2), some (.int x3), some (.int x4), some (.int x5), some (.int x6), some (.int x_2)], [], h)) (b := (155, [some (.ref 0), some (.int x1), some (.int x2), some (.int x3), some (.int x4), some (.int x5), some (.int x6), some (.int x_2)], [], h)) (hk _ _ rfl) rfl ⟨fun z3 => ?_, fun z3 => ?_⟩
    · replace w := w.1 z3
      refine gw_le (L' := [some (.ref 0), some (.int x1), none, none, none, some (.int x5), some (.int x6), some (.int x_2)]) (gm_le_k _ (gm_le_k _ (gm_le_n _ (gm_le_n _ (gm_le_n _ (gm_le_k _ (gm_le_k _ (gm_le_k _ gm_le_nil)))))))) ?_
      exact ok124_162 c d Post K121 K130 hK121 hK130 _ _ _ _ _ w _ hR
    · replace w := w.2 z3
      refine gw_pst hk 2 (st' := (159, [some (.ref 0), some (.int x1), some (.int x2), some (.int x3), some (.int x4), some (.int x5), some (.int x6), some (.int x_2)], [.int x4, .int x_2], h)) rfl ?_
      refine gw_br (c := x_2 ≤ x4) (a := (172, [some (.ref 0), some (.int x1), some (.int x2), some (.int x3), some (.int x4), some (.int x5), some (.int x6), some (.int x_2)], [], h)) (b := (162, [some (.ref 0), some (.int x1), some (.int x2), some (.int x3), some (.int x4), some (.int x5), some (.int x6), some (.int x_2)], [], h)) (hk _ _ rfl) rfl ⟨fun z4 => ?_, fun z4 => ?_⟩
      · replace w := w.1 z4
        refine gw_le (L' := [some (.ref 0), some (.int x1), some (.int x2), some (.int x3), some (.int x4), some (.int x5), some (.int x6), none]) (gm_le_k _ (gm_le_k _ (gm_le_k _ (gm_le_k _ (gm_le_k _ (gm_le_k _ (gm_le_k _ (gm_le_n _ gm_le_nil)))))))) ?_
        exact ok124_172 c d Post K121 K130 hK121 hK130 _ _ _ _ _ _ _ w _ hR
      · replace w := w.2 z4
        refine gw_le (L' := [some (.ref 0), some (.int x1), none, none, none, some (.int x5), some (.int x6), some (.int x_2)]) (gm_le_k _ (gm_le_k _ (gm_le_n _ (gm_le_n _ (gm_le_n _ (gm_le_k _ (gm_le_k _ (gm_le_k _ gm_le_nil)))))))) ?_
        exact ok124_162 c d Post K121 K130 hK121 hK130 _ _ _ _ _ w _ hR
def wl124_130 (c : gx) (d : Nat) (Post : Option Value → gs → Prop) (K121 : Int32 → Int32 → Int32 → Int32 → Int32 → gs → Prop) : Nat → Int32 → Int32 → Int32 → Int32 → Int32 → Int32 → gs → Prop
  | 0 => fun _ _ _ _ _ _ _ => False
  | n + 1 => wb124_130 c d Post K121 (wl124_130 c d Post K121 n)
theorem okl124_130 (c : gx) (d : Nat) (Post : Option Value → gs → Prop) (K121 : Int32 → Int32 → Int32 → Int32 → Int32 → gs → Prop) (hK121 : ∀ (x1 : Int32) (x2 : Int32) (x3 : Int32) (x4 : Int32) (x5 : Int32) (s : gs), K121 x1 x2 x3 x4 x5 s → tV c d 124 121 [some (.ref 0), some (.int x1), some (.int x2), some (.int x3), some (.int x4), some (.int x5), none, none] [] s Post) : ∀ (n : Nat) (x1 : Int32) (x2 : Int32) (x3 : Int32) (x4 : Int32) (x5 : Int32) (x6 : Int32) (s : gs), wl124_130 c d Post K121 n x1 x2 x3 x4 x5 x6 s → tV c d 124 130 [some (.ref 0), some (.int x1), some (.int x2), some (.int x3), some (.int x4), some (.int x5), some (.int x6), none] [] s Post
  | 0, _, _, _, _, _, _, _, w => w.elim
  | n + 1, x1, x2, x3, x4, x5, x6, s, w => okb124_130 c d Post K121 (wl124_130 c d Post K121 n) hK121 (okl124_130 c d Post K121 hK121 n) x1 x2 x3 x4 x5 x6 s w
def wb124_121 (c : gx) (d : Nat) (Post : Option Value → gs → Prop) (K121 : Int32 → Int32 → Int32 → Int32 → Int32 → gs → Prop) (x1 : Int32) (x2 : Int32) (x3 : Int32) (x4 : Int32) (x5 : Int32) (s : gs) : Prop :=
  ((4 < x5 → tE c d 46 [.ref 34, .long ((x3 : Int32).toInt64), .long ((x4 : Int32).toInt64)] s (fun v3 s_3 => v3 = none ∧ Post (some (.int x2)) s_3)) ∧ (¬ (4 < x5) → ∃ n, wl124_130 c d Post K121 n x1 x2 x3 x4 x5 0 s))
theorem okb124_121 (c : gx) (d : Nat) (Post : Option Value → gs → Prop) (K121 : Int32 → Int32 → Int32 → Int32 → Int32 → gs → Prop)  (hK121 : ∀ (x1 : Int32) (x2 : Int32) (x3 : Int32) (x4 : Int32) (x5 : Int32) (s : gs), K121 x1 x2 x3 x4 x5 s → tV c d 124 121 [some (.ref 0), some (.int x1), some (.int x2), some (.int x3), some (.int x4), some (.int x5), none, none] [] s Post) (x1 : Int32) (x2 : Int32) (x3 : Int32) (x4 : Int32) (x5 : Int32) (s : gs) (w : wb124_121 c d Post K121 x1 x2 x3 x4 x5 s) : tV c d 124 121 [some (.ref 0), some (.int x1), some (.int x2), some (.int x3), some (.int x4), some (.int x5), none, none] [] s Post := by
  intro h hR
  have hk : ∀ pc i, gm_find gk_124 pc = some i → gm_code (gt_T c.1 c.2.1 c.2.2.1) 124 pc = some i := fun _ _ z => z
  unfold wb124_121 at w
  unfold gV
  refine gw_pst hk 2 (st' := (124, [some (.ref 0), some (.int x1), some (.int x2), some (.int x3), some (.int x4), some (.int x5), none, none], [.int 4, .int x5], h)) rfl ?_
  refine gw_br (c := 4 < x5) (a := (184, [some (.ref 0), some (.int x1), some (.int x2), some (.int x3), some (.int x4), some (.int x5), none, none], [], h)) (b := (127, [some (.ref 0), some (.int x1), some (.int x2), some (.int x3), some (.int x4), some (.int x5), none, none], [], h)) (hk _ _ rfl) rfl ⟨fun z1 => ?_, fun z1 => ?_⟩
  · replace w := w.1 z1
    refine gw_pst hk 1 (st' := (185, [some (.ref 0), some (.int x1), some (.int x2), some (.int x3), some (.int x4), some (.int x5), none, none], [.ref 0], h)) rfl ?_
    refine gw_gf (hk _ _ rfl) (RL_fR (n := 34) hR rfl) ?_
    refine gw_pst hk 4 (st' := (193, [some (.ref 0), some (.int x1), some (.int x2), some (.int x3), some (.int x4), some (.int x5), none, none], [.long ((x4 : Int32).toInt64), .long ((x3 : Int32).toInt64), .ref 34], h)) rfl ?_
    obtain ⟨fs3, e3⟩ := RL_o hR (r := 34) (ci := 5) rfl
    refine gw_call (jj := 46) (As := [.ref 34, .long ((x3 : Int32).toInt64), .long ((x4 : Int32).toInt64)]) (rest := []) (hk _ _ rfl) (fun _ => rfl) rfl rfl (Nat.le_of_ble_eq_true rfl) (gm_rcv_v rfl e3 rfl) ?_
    refine ge_imp (w h hR) (fun v3 h w => ?_)
    obtain ⟨s_3, hR, rfl, w⟩ := w
    show gw (gt_T c.1 c.2.1 c.2.2.1) c.2.2.2 d 124 (196, [some (.ref 0), some (.int x1), some (.int x2), some (.int x3), some (.int x4), some (.int x5), none, none], [], h) _
    refine gw_pst hk 1 (st' := (197, [some (.ref 0), some (.int x1), some (.int x2), some (.int x3), some (.int x4), some (.int x5), none, none], [.int x2], h)) rfl ?_
    exact gw_ret (hk _ _ rfl) rfl ⟨_, hR, w⟩
  · replace w := w.2 z1
    refine gw_pst hk 2 (st' := (130, [some (.ref 0), some (.int x1), some (.int x2), some (.int x3), some (.int x4), some (.int x5), some (.int 0), none], [], h)) rfl ?_
    obtain ⟨n, w⟩ := w
    exact okl124_130 c d Post K121 hK121 n _ _ _ _ _ _ _ w _ hR
def wl124_121 (c : gx) (d : Nat) (Post : Option Value → gs → Prop) : Nat → Int32 → Int32 → Int32 → Int32 → Int32 → gs → Prop
  | 0 => fun _ _ _ _ _ _ => False
  | n + 1 => wb124_121 c d Post (wl124_121 c d Post n)
theorem okl124_121 (c : gx) (d : Nat) (Post : Option Value → gs → Prop) : ∀ (n : Nat) (x1 : Int32) (x2 : Int32) (x3 : Int32) (x4 : Int32) (x5 : Int32) (s : gs), wl124_121 c d Post n x1 x2 x3 x4 x5 s → tV c d 124 121 [some (.ref 0), some (.int x1), some (.int x2), some (.int x3), some (.int x4), some (.int x5), none, none] [] s Post
  | 0, _, _, _, _, _, _, w => w.elim
  | n + 1, x1, x2, x3, x4, x5, s, w => okb124_121 c d Post (wl124_121 c d Post n) (okl124_121 c d Post n) x1 x2 x3 x4 x5 s w
def wb124_38 (c : gx) (d : Nat) (Post : Option Value → gs → Prop) (K38 : Int32 → Int32 → gs → Prop) (x1 : Int32) (x2 : Int32) (s : gs) : Prop :=
  ((x1 ≤ x2 → ∃ n, wl124_121 c d Post n x1 (-1) 0 0 2 s) ∧ (¬ (x1 ≤ x2) → tE c d 150 [.ref 0, .ref 14, .int (gsV s 14 1), .int 0, .int ((gsV s 14 0) + x2)] s (fun v8 s_8 => ∃ x_8 : Int32, v8 = some (.int x_8) ∧ vp_in x2 30 ∧ ∀ s_9 : gs, s_9 = gs_A s_8 46 (x2 : Int32).toNatClampNeg (vp_nar .int x_8) → tE c d 150 [.ref 0, .ref 14, .int (gsV s_9 14 1), .int 1, .int ((gsV s_9 14 0) + x2)] s_9 (fun v16 s_16 => ∃ x_16 : Int32, v16 = some (.int x_16) ∧ vp_in x2 30 ∧ ∀ s_17 : gs, s_17 = gs_A s_16 47 (x2 : Int32).toNatClampNeg (vp_nar .int x_16) → K38 x1 (x2 + 1) s_17))))
theorem okb124_38 (c : gx) (d : Nat) (Post : Option Value → gs → Prop) (K38 : Int32 → Int32 → gs → Prop)  (hK38 : ∀ (x1 : Int32) (x2 : Int32) (s : gs), K38 x1 x2 s → tV c d 124 38 [some (.ref 0), some (.int x1), some (.int x2), none, none, none, none, none] [] s Post) (x1 : Int32) (x2 : Int32) (s : gs) (w : wb124_38 c d Post K38 x1 x2 s) : tV c d 124 38 [some (.ref 0), some (.int x1), some (.int x2), none, none, none, none, none] [] s Post := by
  intro h hR
  have hk : ∀ pc i, gm_find gk_124 pc = some i → gm_code (gt_T c.1 c.2.1 c.2.2.1) 124 pc = some i := fun _ _ z => z
  unfold wb124_38 at w
  unfold gV
  refine gw_pst hk 2 (st' := (40, [some (.ref 0), some (.int x1), some (.int x2), none, none, none, none, none], [.int x1, .int x2], h)) rfl ?_
  refine gw_br (c := x1 ≤ x2) (a := (111, [some (.ref 0), some (.int x1), some (.int x2), none, none, none, none, none], [], h)) (b := (43, [some (.ref 0), some (.int x1), some (.int x2), none, none, none, none, none], [], h)) (hk _ _ rfl) rfl ⟨fun z1 => ?_, fun z1 => ?_⟩
  · replace w := w.1 z1
    refine gw_pst hk 8 (st' := (121, [some (.ref 0), some (.int x1), some (.int (-1)), some (.int 0), some (.int 0), some (.int 2), none, none], [], h)) rfl ?_
    obtain ⟨n, w⟩ := w
    exact okl124_121 c d Post n _ _ _ _ _ _ w _ hR
  · replace w := w.2 z1
    refine gw_pst hk 1 (st' := (44, [some (.ref 0), some (.int x1), some (.int x2), none, none, none, none, none], [.ref 0], h)) rfl ?_
    refine gw_gf (hk _ _ rfl) (RL_fR (n := 46) hR rfl) ?_
    refine gw_pst hk 3 (st' := (50, [some (.ref 0), some (.int x1), some (.int x2), none, none, none, none, none], [.ref 0, .ref 0, .int x2, .ref 46], h)) rfl ?_
    refine gw_gf (hk _ _ rfl) (RL_fR (n := 14) hR rfl) ?_
    refine gw_pst hk 1 (st' := (54, [some (.ref 0), some (.int x1), some (.int x2), none, none, none, none, none], [.ref 0, .ref 14, .ref 0, .int x2, .ref 46], h)) rfl ?_
    refine gw_gf (hk _ _ rfl) (RL_fR (n := 14) hR rfl) ?_
    refine gw_gf (hk _ _ rfl) (RL_fI hR rfl) ?_
    refine gw_pst hk 2 (st' := (62, [some (.ref 0), some (.int x1), some (.int x2), none, none, none, none, none], [.ref 0, .int 0, .int (gsV s 14 1), .ref 14, .ref 0, .int x2, .ref 46], h)) rfl ?_
    refine gw_gf (hk _ _ rfl) (RL_fR (n := 14) hR rfl) ?_
    refine gw_gf (hk _ _ rfl) (RL_fI hR rfl) ?_
    refine gw_pst hk 2 (st' := (70, [some (.ref 0), some (.int x1), some (.int x2), none, none, none, none, none], [.int ((gsV s 14 0) + x2), .int 0, .int (gsV s 14 1), .ref 14, .ref 0, .int x2, .ref 46], h)) rfl ?_
    obtain ⟨fs8, e8⟩ := RL_o hR (r := 0) (ci := 9) rfl
    refine gw_call (jj := 150) (As := [.ref 0, .ref 14, .int (gsV s 14 1), .int 0, .int ((gsV s 14 0) + x2)]) (rest := [.int x2, .ref 46]) (hk _ _ rfl) (fun _ => rfl) rfl rfl (Nat.le_of_ble_eq_true rfl) (gm_rcv_v rfl e8 rfl) ?_
    refine ge_imp (w h hR) (fun v8 h w => ?_)
    obtain ⟨s_8, hR, x_8, rfl, w⟩ := w
    show gw (gt_T c.1 c.2.1 c.2.2.1) c.2.2.2 d 124 (73, [some (.ref 0), some (.int x1), some (.int x2), none, none, none, none, none], [.int x_8, .int x2, .ref 46], h) _
    obtain ⟨b9, w⟩ := w
    have hR9 := RL_pA (a := 46) (t := 0) (n := 30) (k := (x2 : Int32).toNatClampNeg) (x := (vp_nar .int x_8)) hR rfl (by decide)
    refine gw_ast (hk _ _ rfl) (Or.inl ⟨rfl, rfl, rfl⟩) (RL_a (t := 0) (n := 30) hR rfl (by decide)) b9 ?_
    generalize gm_put h _ _ = h at hR9 ⊢
    obtain ⟨s_9, es9⟩ : ∃ z, z = gs_A s_8 46 (x2 : Int32).toNatClampNeg (vp_nar .int x_8) := ⟨_, rfl⟩
    rw [← es9] at hR9
    replace w := w s_9 es9
    replace hR := hR9
    refine gw_pst hk 1 (st' := (75, [some (.ref 0), some (.int x1), some (.int x2), none, none, none, none, none], [.ref 0], h)) rfl ?_
    refine gw_gf (hk _ _ rfl) (RL_fR (n := 47) hR rfl) ?_
    refine gw_pst hk 3 (st' := (81, [some (.ref 0), some (.int x1), some (.int x2), none, none, none, none, none], [.ref 0, .ref 0, .int x2, .ref 47], h)) rfl ?_
    refine gw_gf (hk _ _ rfl) (RL_fR (n := 14) hR rfl) ?_
    refine gw_pst hk 1 (st' := (85, [some (.ref 0), some (.int x1), some (.int x2), none, none, none, none, none], [.ref 0, .ref 14, .ref 0, .int x2, .ref 47], h)) rfl ?_
    refine gw_gf (hk _ _ rfl) (RL_fR (n := 14) hR rfl) ?_
    refine gw_gf (hk _ _ rfl) (RL_fI hR rfl) ?_
    refine gw_pst hk 2 (st' := (93, [some (.ref 0), some (.int x1), some (.int x2), none, none, none, none, none], [.ref 0, .int 1, .int (gsV s_9 14 1), .ref 14, .ref 0, .int x2, .ref 47], h)) rfl ?_
    refine gw_gf (hk _ _ rfl) (RL_fR (n := 14) hR rfl) ?_
    refine gw_gf (hk _ _ rfl) (RL_fI hR rfl) ?_
    refine gw_pst hk 2 (st' := (101, [some (.ref 0), some (.int x1), some (.int x2), none, none, none, none, none], [.int ((gsV s_9 14 0) + x2), .int 1, .int (gsV s_9 14 1), .ref 14, .ref 0, .int x2, .ref 47], h)) rfl ?_
    obtain ⟨fs16, e16⟩ := RL_o hR (r := 0) (ci := 9) rfl
    refine gw_call (jj := 150) (As := [.ref 0, .ref 14, .int (gsV s_9 14 1), .int 1, .int ((gsV s_9 14 0) + x2)]) (rest := [.int x2, .ref 47]) (hk _ _ rfl) (fun _ => rfl) rfl rfl (Nat.le_of_ble_eq_true rfl) (gm_rcv_v rfl e16 rfl) ?_
    refine ge_imp (w h hR) (fun v16 h w => ?_)
    obtain ⟨s_16, hR, x_16, rfl, w⟩ := w
    show gw (gt_T c.1 c.2.1 c.2.2.1) c.2.2.2 d 124 (104, [some (.ref 0), some (.int x1), some (.int x2), none, none, none, none, none], [.int x_16, .int x2, .ref 47], h) _
    obtain ⟨b17, w⟩ := w
    have hR17 := RL_pA (a := 47) (t := 0) (n := 30) (k := (x2 : Int32).toNatClampNeg) (x := (vp_nar .int x_16)) hR rfl (by decide)
    refine gw_ast (hk _ _ rfl) (Or.inl ⟨rfl, rfl, rfl⟩) (RL_a (t := 0) (n := 30) hR rfl (by decide)) b17 ?_
    generalize gm_put h _ _ = h at hR17 ⊢
    obtain ⟨s_17, es17⟩ : ∃ z, z = gs_A s_16 47 (x2 : Int32).toNatClampNeg (vp_nar .int x_16) := ⟨_, rfl⟩
    rw [← es17] at hR17
    replace w := w s_17 es17
    replace hR := hR17
    refine gw_pst hk 2 (st' := (38, [some (.ref 0), some (.int x1), some (.int (x2 + 1)), none, none, none, none, none], [], h)) rfl ?_
    exact hK38 _ _ _ w _ hR
def wl124_38 (c : gx) (d : Nat) (Post : Option Value → gs → Prop) : Nat → Int32 → Int32 → gs → Prop
  | 0 => fun _ _ _ => False
  | n + 1 => wb124_38 c d Post (wl124_38 c d Post n)
theorem okl124_38 (c : gx) (d : Nat) (Post : Option Value → gs → Prop) : ∀ (n : Nat) (x1 : Int32) (x2 : Int32) (s : gs), wl124_38 c d Post n x1 x2 s → tV c d 124 38 [some (.ref 0), some (.int x1), some (.int x2), none, none, none, none, none] [] s Post
  | 0, _, _, _, w => w.elim
  | n + 1, x1, x2, s, w => okb124_38 c d Post (wl124_38 c d Post n) (okl124_38 c d Post n) x1 x2 s w
/-- CommandByTurns.command(I)I -/
def wm124 (c : gx) (d : Nat) (Post : Option Value → gs → Prop) (x1 : Int32) (s : gs) : Prop :=
  ((x1 < 1 → w124_11 c d Post s) ∧ (¬ (x1 < 1) → ((x1 ≤ 30 → tE c d 16 [.int (gsV s 14 1), .int (gsV s 14 2)] s (fun v7 s_7 => ∃ x_7 : Int32, v7 = some (.int x_7) ∧ ((x_7 = 0 → Post (some (.int (-2))) s_7) ∧ (¬ (x_7 = 0) → ∃ n, wl124_38 c d Post n x1 0 s_7)))) ∧ (¬ (x1 ≤ 30) → w124_11 c d Post s))))
theorem okm124 (c : gx) (d : Nat) (Post : Option Value → gs → Prop) (x1 : Int32) (s : gs) (w : wm124 c d Post x1 s) : tE c (d + 1) 124 [.ref 0, .int x1] s Post := by
  intro h hR
  have hk : ∀ pc i, gm_find gk_124 pc = some i → gm_code (gt_T c.1 c.2.1 c.2.2.1) 124 pc = some i := fun _ _ z => z
  unfold wm124 at w
  refine ge_of (by decide) (Nat.le_of_ble_eq_true rfl) ?_
  show gw (gt_T c.1 c.2.1 c.2.2.1) c.2.2.2 d 124 (0, [some (.ref 0), some (.int x1), none, none, none, none, none, none], [], h) _
  refine gw_pst hk 2 (st' := (2, [some (.ref 0), some (.int x1), none, none, none, none, none, none], [.int 1, .int x1], h)) rfl ?_
  refine gw_br (c := x1 < 1) (a := (11, [some (.ref 0), some (.int x1), none, none, none, none, none, none], [], h)) (b := (5, [some (.ref 0), some (.int x1), none, none, none, none, none, none], [], h)) (hk _ _ rfl) rfl ⟨fun z1 => ?_, fun z1 => ?_⟩
  · replace w := w.1 z1
    refine gw_le (L' := [none, none, none, none, none, none, none, none]) (gm_le_n _ (gm_le_n _ (gm_le_k _ (gm_le_k _ (gm_le_k _ (gm_le_k _ (gm_le_k _ (gm_le_k _ gm_le_nil)))))))) ?_
    exact ok124_11 c d Post _ w _ hR
  · replace w := w.2 z1
    refine gw_pst hk 2 (st' := (8, [some (.ref 0), some (.int x1), none, none, none, none, none, none], [.int 30, .int x1], h)) rfl ?_
    refine gw_br (c := x1 ≤ 30) (a := (13, [some (.ref 0), some (.int x1), none, none, none, none, none, none], [], h)) (b := (11, [some (.ref 0), some (.int x1), none, none, none, none, none, none], [], h)) (hk _ _ rfl) rfl ⟨fun z2 => ?_, fun z2 => ?_⟩
    · replace w := w.1 z2
      refine gw_pst hk 1 (st' := (14, [some (.ref 0), some (.int x1), none, none, none, none, none, none], [.ref 0], h)) rfl ?_
      refine gw_gf (hk _ _ rfl) (RL_fR (n := 14) hR rfl) ?_
      refine gw_gf (hk _ _ rfl) (RL_fI hR rfl) ?_
      refine gw_pst hk 1 (st' := (21, [some (.ref 0), some (.int x1), none, none, none, none, none, none], [.ref 0, .int (gsV s 14 1)], h)) rfl ?_
      refine gw_gf (hk _ _ rfl) (RL_fR (n := 14) hR rfl) ?_
      refine gw_gf (hk _ _ rfl) (RL_fI hR rfl) ?_
      refine gw_call (jj := 16) (As := [.int (gsV s 14 1), .int (gsV s 14 2)]) (rest := []) (hk _ _ rfl) (fun _ => rfl) rfl rfl (Nat.le_of_ble_eq_true rfl) rfl ?_
      refine ge_imp (w h hR) (fun v7 h w => ?_)
      obtain ⟨s_7, hR, x_7, rfl, w⟩ := w
      show gw (gt_T c.1 c.2.1 c.2.2.1) c.2.2.2 d 124 (30, [some (.ref 0), some (.int x1), none, none, none, none, none, none], [.int x_7], h) _
      refine gw_br (c := x_7 = 0) (a := (33, [some (.ref 0), some (.int x1), none, none, none, none, none, none], [], h)) (b := (36, [some (.ref 0), some (.int x1), none, none, none, none, none, none], [], h)) (hk _ _ rfl) rfl ⟨fun z8 => ?_, fun z8 => ?_⟩
      · replace w := w.1 z8
        refine gw_pst hk 1 (st' := (35, [some (.ref 0), some (.int x1), none, none, none, none, none, none], [.int (-2)], h)) rfl ?_
        exact gw_ret (hk _ _ rfl) rfl ⟨_, hR, w⟩
      · replace w := w.2 z8
        refine gw_pst hk 2 (st' := (38, [some (.ref 0), some (.int x1), some (.int 0), none, none, none, none, none], [], h)) rfl ?_
        obtain ⟨n, w⟩ := w
        exact okl124_38 c d Post n _ _ _ w _ hR
    · replace w := w.2 z2
      refine gw_le (L' := [none, none, none, none, none, none, none, none]) (gm_le_n _ (gm_le_n _ (gm_le_k _ (gm_le_k _ (gm_le_k _ (gm_le_k _ (gm_le_k _ (gm_le_k _ gm_le_nil)))))))) ?_
      exact ok124_11 c d Post _ w _ hR
def w125_63 (c : gx) (d : Nat) (Post : Option Value → gs → Prop) (K9 : Int32 → Int32 → Int32 → Int32 → Int32 → Int32 → gs → Prop) (x1 : Int32) (x2 : Int32) (x3 : Int32) (x4 : Int32) (x6 : Int32) (xs0 : Int32) (s : gs) : Prop :=
  K9 x1 x2 x3 x4 xs0 (x6 + 1) s
theorem ok125_63 (c : gx) (d : Nat) (Post : Option Value → gs → Prop) (K9 : Int32 → Int32 → Int32 → Int32 → Int32 → Int32 → gs → Prop)  (hK9 : ∀ (x1 : Int32) (x2 : Int32) (x3 : Int32) (x4 : Int32) (x5 : Int32) (x6 : Int32) (s : gs), K9 x1 x2 x3 x4 x5 x6 s → tV c d 125 9 [some (.ref 0), some (.int x1), some (.int x2), some (.int x3), some (.int x4), some (.int x5), some (.int x6)] [] s Post) (x1 : Int32) (x2 : Int32) (x3 : Int32) (x4 : Int32) (x6 : Int32) (xs0 : Int32) (s : gs) (w : w125_63 c d Post K9 x1 x2 x3 x4 x6 xs0 s) : tV c d 125 63 [some (.ref 0), some (.int x1), some (.int x2), some (.int x3), some (.int x4), none, some (.int x6)] [.int xs0] s Post := by
  intro h hR
  have hk : ∀ pc i, gm_find gk_125 pc = some i → gm_code (gt_T c.1 c.2.1 c.2.2.1) 125 pc = some i := fun _ _ z => z
  unfold w125_63 at w
  unfold gV
  refine gw_pst hk 3 (st' := (9, [some (.ref 0), some (.int x1), some (.int x2), some (.int x3), some (.int x4), some (.int xs0), some (.int (x6 + 1))], [], h)) rfl ?_
  exact hK9 _ _ _ _ _ _ _ w _ hR
def w125_44 (c : gx) (d : Nat) (Post : Option Value → gs → Prop) (K9 : Int32 → Int32 → Int32 → Int32 → Int32 → Int32 → gs → Prop) (x1 : Int32) (x2 : Int32) (x3 : Int32) (x5 : Int32) (x6 : Int32) (xs0 : Int32) (xs1 : Int32) (s : gs) : Prop :=
  (((x5 + 1) = x2 → w125_63 c d Post K9 x1 x2 x3 (xs0 + xs1) x6 0 s) ∧ (¬ ((x5 + 1) = x2) → w125_63 c d Post K9 x1 x2 x3 (xs0 + xs1) x6 (x5 + 1) s))
theorem ok125_44 (c : gx) (d : Nat) (Post : Option Value → gs → Prop) (K9 : Int32 → Int32 → Int32 → Int32 → Int32 → Int32 → gs → Prop)  (hK9 : ∀ (x1 : Int32) (x2 : Int32) (x3 : Int32) (x4 : Int32) (x5 : Int32) (x6 : Int32) (s : gs), K9 x1 x2 x3 x4 x5 x6 s → tV c d 125 9 [some (.ref 0), some (.int x1), some (.int x2), some (.int x3), some (.int x4), some (.int x5), some (.int x6)] [] s Post) (x1 : Int32) (x2 : Int32) (x3 : Int32) (x5 : Int32) (x6 : Int32) (xs0 : Int32) (xs1 : Int32) (s : gs) (w : w125_44 c d Post K9 x1 x2 x3 x5 x6 xs0 xs1 s) : tV c d 125 44 [some (.ref 0), some (.int x1), some (.int x2), some (.int x3), none, some (.int x5), some (.int x6)] [.int xs1, .int xs0] s Post := by
  intro h hR
  have hk : ∀ pc i, gm_find gk_125 pc = some i → gm_code (gt_T c.1 c.2.1 c.2.2.1) 125 pc = some i := fun _ _ z => z
  unfold w125_44 at w
  unfold gV
  refine gw_pst hk 6 (st' := (52, [some (.ref 0), some (.int x1), some (.int x2), some (.int x3), some (.int (xs0 + xs1)), some (.int x5), some (.int x6)], [.int x2, .int (x5 + 1)], h)) rfl ?_
  refine gw_br (c := (x5 + 1) = x2) (a := (55, [some (.ref 0), some (.int x1), some (.int x2), some (.int x3), some (.int (xs0 + xs1)), some (.int x5), some (.int x6)], [], h)) (b := (59, [some (.ref 0), some (.int x1), some (.int x2), some (.int x3), some (.int (xs0 + xs1)), some (.int x5), some (.int x6)], [], h)) (hk _ _ rfl) rfl ⟨fun z1 => ?_, fun z1 => ?_⟩
  · replace w := w.1 z1
    refine gw_pst hk 2 (st' := (63, [some (.ref 0), some (.int x1), some (.int x2), some (.int x3), some (.int (xs0 + xs1)), some (.int x5), some (.int x6)], [.int 0], h)) rfl ?_
    refine gw_le (L' := [some (.ref 0), some (.int x1), some (.int x2), some (.int x3), some (.int (xs0 + xs1)), none, some (.int x6)]) (gm_le_k _ (gm_le_k _ (gm_le_k _ (gm_le_k _ (gm_le_k _ (gm_le_n _ (gm_le_k _ gm_le_nil))))))) ?_
    exact ok125_63 c d Post K9 hK9 _ _ _ _ _ _ _ w _ hR
  · replace w := w.2 z1
    refine gw_pst hk 3 (st' := (63, [some (.ref 0), some (.int x1), some (.int x2), some (.int x3), some (.int (xs0 + xs1)), some (.int x5), some (.int x6)], [.int (x5 + 1)], h)) rfl ?_
    refine gw_le (L' := [some (.ref 0), some (.int x1), some (.int x2), some (.int x3), some (.int (xs0 + xs1)), none, some (.int x6)]) (gm_le_k _ (gm_le_k _ (gm_le_k _ (gm_le_k _ (gm_le_k _ (gm_le_n _ (gm_le_k _ gm_le_nil))))))) ?_
    exact ok125_63 c d Post K9 hK9 _ _ _ _ _ _ _ w _ hR
def wb125_9 (c : gx) (d : Nat) (Post : Option Value → gs → Prop) (K9 : Int32 → Int32 → Int32 → Int32 → Int32 → Int32 → gs → Prop) (x1 : Int32) (x2 : Int32) (x3 : Int32) (x4 : Int32) (x5 : Int32) (x6 : Int32) (s : gs) : Prop :=
  ((x1 ≤ x6 → Post (some (.int x4)) s) ∧ (¬ (x1 ≤ x6) → ((((x3 >>> (x5 &&& 31)) &&& 1) = 1 → vp_in x6 30 ∧ w125_44 c d Post K9 x1 x2 x3 x5 x6 x4 (gsA s 47 (x6 : Int32).toNatClampNeg) s) ∧ (¬ (((x3 >>> (x5 &&& 31)) &&& 1) = 1) → vp_in x6 30 ∧ w125_44 c d Post K9 x1 x2 x3 x5 x6 x4 (gsA s 46 (x6 : Int32).toNatClampNeg) s))))
theorem okb125_9 (c : gx) (d : Nat) (Post : Option Value → gs → Prop) (K9 : Int32 → Int32 → Int32 → Int32 → Int32 → Int32 → gs → Prop)  (hK9 : ∀ (x1 : Int32) (x2 : Int32) (x3 : Int32) (x4 : Int32) (x5 : Int32) (x6 : Int32) (s : gs), K9 x1 x2 x3 x4 x5 x6 s → tV c d 125 9 [some (.ref 0), some (.int x1), some (.int x2), some (.int x3), some (.int x4), some (.int x5), some (.int x6)] [] s Post) (x1 : Int32) (x2 : Int32) (x3 : Int32) (x4 : Int32) (x5 : Int32) (x6 : Int32) (s : gs) (w : wb125_9 c d Post K9 x1 x2 x3 x4 x5 x6 s) : tV c d 125 9 [some (.ref 0), some (.int x1), some (.int x2), some (.int x3), some (.int x4), some (.int x5), some (.int x6)] [] s Post := by
  intro h hR
  have hk : ∀ pc i, gm_find gk_125 pc = some i → gm_code (gt_T c.1 c.2.1 c.2.2.1) 125 pc = some i := fun _ _ z => z
  unfold wb125_9 at w
  unfold gV
  refine gw_pst hk 2 (st' := (12, [some (.ref 0), some (.int x1), some (.int x2), some (.int x3), some (.int x4), some (.int x5), some (.int x6)], [.int x1, .int x6], h)) rfl ?_
  refine gw_br (c := x1 ≤ x6) (a := (71, [some (.ref 0), some (.int x1), some (.int x2), some (.int x3), some (.int x4), some (.int x5), some (.int x6)], [], h)) (b := (15, [some (.ref 0), some (.int x1), some (.int x2), some (.int x3), some (.int x4), some (.int x5), some (.int x6)], [], h)) (hk _ _ rfl) rfl ⟨fun z1 => ?_, fun z1 => ?_⟩
  · replace w := w.1 z1
    refine gw_pst hk 1 (st' := (73, [some (.ref 0), some (.int x1), some (.int x2), some (.int x3), some (.int x4), some (.int x5), some (.int x6)], [.int x4], h)) rfl ?_
    exact gw_ret (hk _ _ rfl) rfl ⟨_, hR, w⟩
  · replace w := w.2 z1
    refine gw_pst hk 7 (st' := (24, [some (.ref 0), some (.int x1), some (.int x2), some (.int x3), some (.int x4), some (.int x5), some (.int x6)], [.int 1, .int ((x3 >>> (x5 &&& 31)) &&& 1), .int x4], h)) rfl ?_
    refine gw_br (c := ((x3 >>> (x5 &&& 31)) &&& 1) = 1) (a := (27, [some (.ref 0), some (.int x1), some (.int x2), some (.int x3), some (.int x4), some (.int x5), some (.int x6)], [.int x4], h)) (b := (37, [some (.ref 0), some (.int x1), some (.int x2), some (.int x3), some (.int x4), some (.int x5), some (.int x6)], [.int x4], h)) (hk _ _ rfl) rfl ⟨fun z2 => ?_, fun z2 => ?_⟩
    · replace w := w.1 z2
      refine gw_pst hk 1 (st' := (28, [some (.ref 0), some (.int x1), some (.int x2), some (.int x3), some (.int x4), some (.int x5), some (.int x6)], [.ref 0, .int x4], h)) rfl ?_
      refine gw_gf (hk _ _ rfl) (RL_fR (n := 47) hR rfl) ?_
      refine gw_pst hk 1 (st' := (33, [some (.ref 0), some (.int x1), some (.int x2), some (.int x3), some (.int x4), some (.int x5), some (.int x6)], [.int x6, .ref 47, .int x4], h)) rfl ?_
      obtain ⟨b4, w⟩ := w
      refine gw_ald (hk _ _ rfl) (Or.inl ⟨rfl, rfl⟩) (RL_a (t := 0) (n := 30) hR rfl (by decide)) b4 ?_
      refine gw_pst hk 1 (st' := (44, [some (.ref 0), some (.int x1), some (.int x2), some (.int x3), some (.int x4), some (.int x5), some (.int x6)], [.int (gsA s 47 (x6 : Int32).toNatClampNeg), .int x4], h)) rfl ?_
      refine gw_le (L' := [some (.ref 0), some (.int x1), some (.int x2), some (.int x3), none, some (.int x5), some (.int x6)]) (gm_le_k _ (gm_le_k _ (gm_le_k _ (gm_le_k _ (gm_le_n _ (gm_le_k _ (gm_le_k _ gm_le_nil))))))) ?_
      exact ok125_44 c d Post K9 hK9 _ _ _ _ _ _ _ _ w _ hR
    · replace w := w.2 z2
      refine gw_pst hk 1 (st' := (38, [some (.ref 0), some (.int x1), some (.int x2), some (.int x3), some (.int x4), some (.int x5), some (.int x6)], [.ref 0, .int x4], h)) rfl ?_
      refine gw_gf (hk _ _ rfl) (RL_fR (n := 46) hR rfl) ?_
      refine gw_pst hk 1 (st' := (43, [some (.ref 0), some (.int x1), some (.int x2), some (.int x3), some (.int x4), some (.int x5), some (.int x6)], [.int x6, .ref 46, .int x4], h)) rfl ?_
      obtain ⟨b6, w⟩ := w
      refine gw_ald (hk _ _ rfl) (Or.inl ⟨rfl, rfl⟩) (RL_a (t := 0) (n := 30) hR rfl (by decide)) b6 ?_
      refine gw_le (L' := [some (.ref 0), some (.int x1), some (.int x2), some (.int x3), none, some (.int x5), some (.int x6)]) (gm_le_k _ (gm_le_k _ (gm_le_k _ (gm_le_k _ (gm_le_n _ (gm_le_k _ (gm_le_k _ gm_le_nil))))))) ?_
      exact ok125_44 c d Post K9 hK9 _ _ _ _ _ _ _ _ w _ hR
def wl125_9 (c : gx) (d : Nat) (Post : Option Value → gs → Prop) : Nat → Int32 → Int32 → Int32 → Int32 → Int32 → Int32 → gs → Prop
  | 0 => fun _ _ _ _ _ _ _ => False
  | n + 1 => wb125_9 c d Post (wl125_9 c d Post n)
theorem okl125_9 (c : gx) (d : Nat) (Post : Option Value → gs → Prop) : ∀ (n : Nat) (x1 : Int32) (x2 : Int32) (x3 : Int32) (x4 : Int32) (x5 : Int32) (x6 : Int32) (s : gs), wl125_9 c d Post n x1 x2 x3 x4 x5 x6 s → tV c d 125 9 [some (.ref 0), some (.int x1), some (.int x2), some (.int x3), some (.int x4), some (.int x5), some (.int x6)] [] s Post
  | 0, _, _, _, _, _, _, _, w => w.elim
  | n + 1, x1, x2, x3, x4, x5, x6, s, w => okb125_9 c d Post (wl125_9 c d Post n) (okl125_9 c d Post n) x1 x2 x3 x4 x5 x6 s w
/-- CommandByTurns.sumByTurns(III)I -/
def wm125 (c : gx) (d : Nat) (Post : Option Value → gs → Prop) (x1 : Int32) (x2 : Int32) (x3 : Int32) (s : gs) : Prop :=
  ∃ n, wl125_9 c d Post n x1 x2 x3 0 0 0 s
theorem okm125 (c : gx) (d : Nat) (Post : Option Value → gs → Prop) (x1 : Int32) (x2 : Int32) (x3 : Int32) (s : gs) (w : wm125 c d Post x1 x2 x3 s) : tE c (d + 1) 125 [.ref 0, .int x1, .int x2, .int x3] s Post := by
  intro h hR
  have hk : ∀ pc i, gm_find gk_125 pc = some i → gm_code (gt_T c.1 c.2.1 c.2.2.1) 125 pc = some i := fun _ _ z => z
  unfold wm125 at w
  refine ge_of (by decide) (Nat.le_of_ble_eq_true rfl) ?_
  show gw (gt_T c.1 c.2.1 c.2.2.1) c.2.2.2 d 125 (0, [some (.ref 0), some (.int x1), some (.int x2), some (.int x3), none, none, none], [], h) _
  refine gw_pst hk 6 (st' := (9, [some (.ref 0), some (.int x1), some (.int x2), some (.int x3), some (.int 0), some (.int 0), some (.int 0)], [], h)) rfl ?_
  obtain ⟨n, w⟩ := w
  exact okl125_9 c d Post n _ _ _ _ _ _ _ w _ hR
def w126_157 (c : gx) (d : Nat) (Post : Option Value → gs → Prop) (K40 : Int32 → Int32 → Int32 → Int32 → Int32 → Int32 → gs → Prop) (x1 : Int32) (x2 : Int32) (x3 : Int32) (x4 : Int32) (x5 : Int32) (x6 : Int32) (s : gs) : Prop :=
  K40 x1 x2 x3 x4 x5 (x6 + 1) s
theorem ok126_157 (c : gx) (d : Nat) (Post : Option Value → gs → Prop) (K40 : Int32 → Int32 → Int32 → Int32 → Int32 → Int32 → gs → Prop)  (hK40 : ∀ (x1 : Int32) (x2 : Int32) (x3 : Int32) (x4 : Int32) (x5 : Int32) (x6 : Int32) (s : gs), K40 x1 x2 x3 x4 x5 x6 s → tV c d 126 40 [some (.ref 0), some (.int x1), some (.int x2), some (.int x3), some (.int x4), some (.int x5), some (.int x6), none, none] [] s Post) (x1 : Int32) (x2 : Int32) (x3 : Int32) (x4 : Int32) (x5 : Int32) (x6 : Int32) (s : gs) (w : w126_157 c d Post K40 x1 x2 x3 x4 x5 x6 s) : tV c d 126 157 [some (.ref 0), some (.int x1), some (.int x2), some (.int x3), some (.int x4), some (.int x5), some (.int x6), none, none] [] s Post := by
  intro h hR
  have hk : ∀ pc i, gm_find gk_126 pc = some i → gm_code (gt_T c.1 c.2.1 c.2.2.1) 126 pc = some i := fun _ _ z => z
  unfold w126_157 at w
  unfold gV
  refine gw_pst hk 2 (st' := (40, [some (.ref 0), some (.int x1), some (.int x2), some (.int x3), some (.int x4), some (.int x5), some (.int (x6 + 1)), none, none], [], h)) rfl ?_
  exact hK40 _ _ _ _ _ _ _ w _ hR
def w126_145 (c : gx) (d : Nat) (Post : Option Value → gs → Prop) (K40 : Int32 → Int32 → Int32 → Int32 → Int32 → Int32 → gs → Prop) (x4 : Int32) (x5 : Int32) (x6 : Int32) (x7 : Int32) (x8 : Int32) (s : gs) : Prop :=
  w126_157 c d Post K40 x6 (x7 + x8) x7 x4 x5 x6 s
theorem ok126_145 (c : gx) (d : Nat) (Post : Option Value → gs → Prop) (K40 : Int32 → Int32 → Int32 → Int32 → Int32 → Int32 → gs → Prop)  (hK40 : ∀ (x1 : Int32) (x2 : Int32) (x3 : Int32) (x4 : Int32) (x5 : Int32) (x6 : Int32) (s : gs), K40 x1 x2 x3 x4 x5 x6 s → tV c d 126 40 [some (.ref 0), some (.int x1), some (.int x2), some (.int x3), some (.int x4), some (.int x5), some (.int x6), none, none] [] s Post) (x4 : Int32) (x5 : Int32) (x6 : Int32) (x7 : Int32) (x8 : Int32) (s : gs) (w : w126_145 c d Post K40 x4 x5 x6 x7 x8 s) : tV c d 126 145 [some (.ref 0), none, none, none, some (.int x4), some (.int x5), some (.int x6), some (.int x7), some (.int x8)] [] s Post := by
  intro h hR
  have hk : ∀ pc i, gm_find gk_126 pc = some i → gm_code (gt_T c.1 c.2.1 c.2.2.1) 126 pc = some i := fun _ _ z => z
  unfold w126_145 at w
  unfold gV
  refine gw_pst hk 8 (st' := (157, [some (.ref 0), some (.int x6), some (.int (x7 + x8)), some (.int x7), some (.int x4), some (.int x5), some (.int x6), some (.int x7), some (.int x8)], [], h)) rfl ?_
  refine gw_le (L' := [some (.ref 0), some (.int x6), some (.int (x7 + x8)), some (.int x7), some (.int x4), some (.int x5), some (.int x6), none, none]) (gm_le_k _ (gm_le_k _ (gm_le_k _ (gm_le_k _ (gm_le_k _ (gm_le_k _ (gm_le_k _ (gm_le_n _ (gm_le_n _ gm_le_nil))))))))) ?_
  exact ok126_157 c d Post K40 hK40 _ _ _ _ _ _ _ w _ hR
def wb126_40 (c : gx) (d : Nat) (Post : Option Value → gs → Prop) (K40 : Int32 → Int32 → Int32 → Int32 → Int32 → Int32 → gs → Prop) (x1 : Int32) (x2 : Int32) (x3 : Int32) (x4 : Int32) (x5 : Int32) (x6 : Int32) (s : gs) : Prop :=
  ((((gsV s 14 3) / 100) < x6 → tE c d 46 [.ref 34, .long ((x2 : Int32).toInt64), .long ((x3 : Int32).toInt64)] s (fun v5 s_5 => v5 = none ∧ Post (some (.int x1)) s_5)) ∧ (¬ (((gsV s 14 3) / 100) < x6) → tE c d 151 [.ref 0, .ref 10, .int x4, .int (100 * x6), .int x5, .int (gsV s 14 5), .int (gsV s 14 0), .int 0] s (fun v11 s_11 => ∃ x_11 : Int32, v11 = some (.int x_11) ∧ tE c d 151 [.ref 0, .ref 12, .int x4, .int ((gsV s_11 14 3) - (100 * x6)), .int x5, .int (gsV s_11 14 5), .int (gsV s_11 14 0), .int 0] s_11 (fun v19 s_19 => ∃ x_19 : Int32, v19 = some (.int x_19) ∧ ((x1 = (-1) → w126_145 c d Post K40 x4 x5 x6 x_11 x_19 s_19) ∧ (¬ (x1 = (-1)) → (((x_11 + x_19) ≤ x2 → w126_157 c d Post K40 x1 x2 x3 x4 x5 x6 s_19) ∧ (¬ ((x_11 + x_19) ≤ x2) → w126_145 c d Post K40 x4 x5 x6 x_11 x_19 s_19))))))))
theorem okb126_40 (c : gx) (d : Nat) (Post : Option Value → gs → Prop) (K40 : Int32 → Int32 → Int32 → Int32 → Int32 → Int32 → gs → Prop)  (hK40 : ∀ (x1 : Int32) (x2 : Int32) (x3 : Int32) (x4 : Int32) (x5 : Int32) (x6 : Int32) (s : gs), K40 x1 x2 x3 x4 x5 x6 s → tV c d 126 40 [some (.ref 0), some (.int x1), some (.int x2), some (.int x3), some (.int x4), some (.int x5), some (.int x6), none, none] [] s Post) (x1 : Int32) (x2 : Int32) (x3 : Int32) (x4 : Int32) (x5 : Int32) (x6 : Int32) (s : gs) (w : wb126_40 c d Post K40 x1 x2 x3 x4 x5 x6 s) : tV c d 126 40 [some (.ref 0), some (.int x1), some (.int x2), some (.int x3), some (.int x4), some (.int x5), some (.int x6), none, none] [] s Post := by
  intro h hR
  have hk : ∀ pc i, gm_find gk_126 pc = some i → gm_code (gt_T c.1 c.2.1 c.2.2.1) 126 pc = some i := fun _ _ z => z
  unfold wb126_40 at w
  unfold gV
  refine gw_pst hk 2 (st' := (43, [some (.ref 0), some (.int x1), some (.int x2), some (.int x3), some (.int x4), some (.int x5), some (.int x6), none, none], [.ref 0, .int x6], h)) rfl ?_
  refine gw_gf (hk _ _ rfl) (RL_fR (n := 14) hR rfl) ?_
  refine gw_gf (hk _ _ rfl) (RL_fI hR rfl) ?_
  refine gw_pst hk 1 (st' := (51, [some (.ref 0), some (.int x1), some (.int x2), some (.int x3), some (.int x4), some (.int x5), some (.int x6), none, none], [.int 100, .int (gsV s 14 3), .int x6], h)) rfl ?_
  refine gw_idiv (hk _ _ rfl) (by decide) ?_ rfl
  refine gw_br (c := ((gsV s 14 3) / 100) < x6) (a := (163, [some (.ref 0), some (.int x1), some (.int x2), some (.int x3), some (.int x4), some (.int x5), some (.int x6), none, none], [], h)) (b := (55, [some (.ref 0), some (.int x1), some (.int x2), some (.int x3), some (.int x4), some (.int x5), some (.int x6), none, none], [], h)) (hk _ _ rfl) rfl ⟨fun z3 => ?_, fun z3 => ?_⟩
  · replace w := w.1 z3
    refine gw_pst hk 1 (st' := (164, [some (.ref 0), some (.int x1), some (.int x2), some (.int x3), some (.int x4), some (.int x5), some (.int x6), none, none], [.ref 0], h)) rfl ?_
    refine gw_gf (hk _ _ rfl) (RL_fR (n := 34) hR rfl) ?_
    refine gw_pst hk 4 (st' := (171, [some (.ref 0), some (.int x1), some (.int x2), some (.int x3), some (.int x4), some (.int x5), some (.int x6), none, none], [.long ((x3 : Int32).toInt64), .long ((x2 : Int32).toInt64), .ref 34], h)) rfl ?_
    obtain ⟨fs5, e5⟩ := RL_o hR (r := 34) (ci := 5) rfl
    refine gw_call (jj := 46) (As := [.ref 34, .long ((x2 : Int32).toInt64), .long ((x3 : Int32).toInt64)]) (rest := []) (hk _ _ rfl) (fun _ => rfl) rfl rfl (Nat.le_of_ble_eq_true rfl) (gm_rcv_v rfl e5 rfl) ?_
    refine ge_imp (w h hR) (fun v5 h w => ?_)
    obtain ⟨s_5, hR, rfl, w⟩ := w
    show gw (gt_T c.1 c.2.1 c.2.2.1) c.2.2.2 d 126 (174, [some (.ref 0), some (.int x1), some (.int x2), some (.int x3), some (.int x4), some (.int x5), some (.int x6), none, none], [], h) _
    refine gw_pst hk 1 (st' := (175, [some (.ref 0), some (.int x1), some (.int x2), some (.int x3), some (.int x4), some (.int x5), some (.int x6), none, none], [.int x1], h)) rfl ?_
    exact gw_ret (hk _ _ rfl) rfl ⟨_, hR, w⟩
  · replace w := w.2 z3
    refine gw_pst hk 2 (st' := (57, [some (.ref 0), some (.int x1), some (.int x2), some (.int x3), some (.int x4), some (.int x5), some (.int x6), none, none], [.ref 0, .ref 0], h)) rfl ?_
    refine gw_gf (hk _ _ rfl) (RL_fR (n := 10) hR rfl) ?_
    refine gw_pst hk 6 (st' := (70, [some (.ref 0), some (.int x1), some (.int x2), some (.int x3), some (.int x4), some (.int x5), some (.int x6), none, none], [.ref 0, .int x5, .int (100 * x6), .int x4, .ref 10, .ref 0], h)) rfl ?_
    refine gw_gf (hk _ _ rfl) (RL_fR (n := 14) hR rfl) ?_
    refine gw_gf (hk _ _ rfl) (RL_fI hR rfl) ?_
    refine gw_pst hk 1 (st' := (77, [some (.ref 0), some (.int x1), some (.int x2), some (.int x3), some (.int x4), some (.int x5), some (.int x6), none, none], [.ref 0, .int (gsV s 14 5), .int x5, .int (100 * x6), .int x4, .ref 10, .ref 0], h)) rfl ?_
    refine gw_gf (hk _ _ rfl) (RL_fR (n := 14) hR rfl) ?_
    refine gw_gf (hk _ _ rfl) (RL_fI hR rfl) ?_
    refine gw_pst hk 1 (st' := (84, [some (.ref 0), some (.int x1), some (.int x2), some (.int x3), some (.int x4), some (.int x5), some (.int x6), none, none], [.int 0, .int (gsV s 14 0), .int (gsV s 14 5), .int x5, .int (100 * x6), .int x4, .ref 10, .ref 0], h)) rfl ?_
    obtain ⟨fs11, e11⟩ := RL_o hR (r := 0) (ci := 9) rfl
    refine gw_call (jj := 151) (As := [.ref 0, .ref 10, .int x4, .int (100 * x6), .int x5, .int (gsV s 14 5), .int (gsV s 14 0), .int 0]) (rest := []) (hk _ _ rfl) (fun _ => rfl) rfl rfl (Nat.le_of_ble_eq_true rfl) (gm_rcv_v rfl e11 rfl) ?_
    refine ge_imp (w h hR) (fun v11 h w => ?_)
    obtain ⟨s_11, hR, x_11, rfl, w⟩ := w
    show gw (gt_T c.1 c.2.1 c.2.2.1) c.2.2.2 d 126 (87, [some (.ref 0), some (.int x1), some (.int x2), some (.int x3), some (.int x4), some (.int x5), some (.int x6), none, none], [.int x_11], h) _
    refine gw_pst hk 3 (st' := (91, [some (.ref 0), some (.int x1), some (.int x2), some (.int x3), some (.int x4), some (.int x5), some (.int x6), some (.int x_11), none], [.ref 0, .ref 0], h)) rfl ?_
    refine gw_gf (hk _ _ rfl) (RL_fR (n := 12) hR rfl) ?_
    refine gw_pst hk 2 (st' := (97, [some (.ref 0), some (.int x1), some (.int x2), some (.int x3), some (.int x4), some (.int x5), some (.int x6), some (.int x_11), none], [.ref 0, .int x4, .ref 12, .ref 0], h)) rfl ?_
    refine gw_gf (hk _ _ rfl) (RL_fR (n := 14) hR rfl) ?_
    refine gw_gf (hk _ _ rfl) (RL_fI hR rfl) ?_
    refine gw_pst hk 6 (st' := (112, [some (.ref 0), some (.int x1), some (.int x2), some (.int x3), some (.int x4), some (.int x5), some (.int x6), some (.int x_11), none], [.ref 0, .int x5, .int ((gsV s_11 14 3) - (100 * x6)), .int x4, .ref 12, .ref 0], h)) rfl ?_
    refine gw_gf (hk _ _ rfl) (RL_fR (n := 14) hR rfl) ?_
    refine gw_gf (hk _ _ rfl) (RL_fI hR rfl) ?_
    refine gw_pst hk 1 (st' := (119, [some (.ref 0), some (.int x1), some (.int x2), some (.int x3), some (.int x4), some (.int x5), some (.int x6), some (.int x_11), none], [.ref 0, .int (gsV s_11 14 5), .int x5, .int ((gsV s_11 14 3) - (100 * x6)), .int x4, .ref 12, .ref 0], h)) rfl ?_
    refine gw_gf (hk _ _ rfl) (RL_fR (n := 14) hR rfl) ?_
    refine gw_gf (hk _ _ rfl) (RL_fI hR rfl) ?_
    refine gw_pst hk 1 (st' := (126, [some (.ref 0), some (.int x1), some (.int x2), some (.int x3), some (.int x4), some (.int x5), some (.int x6), some (.int x_11), none], [.int 0, .int (gsV s_11 14 0), .int (gsV s_11 14 5), .int x5, .int ((gsV s_11 14 3) - (100 * x6)), .int x4, .ref 12, .ref 0], h)) rfl ?_
    obtain ⟨fs19, e19⟩ := RL_o hR (r := 0) (ci := 9) rfl
    refine gw_call (jj := 151) (As := [.ref 0, .ref 12, .int x4, .int ((gsV s_11 14 3) - (100 * x6)), .int x5, .int (gsV s_11 14 5), .int (gsV s_11 14 0), .int 0]) (rest := []) (hk _ _ rfl) (fun _ => rfl) rfl rfl (Nat.le_of_ble_eq_true rfl) (gm_rcv_v rfl e19 rfl) ?_
    refine ge_imp (w h hR) (fun v19 h w => ?_)
    obtain ⟨s_19, hR, x_19, rfl, w⟩ := w
    show gw (gt_T c.1 c.2.1 c.2.2.1) c.2.2.2 d 126 (129, [some (.ref 0), some (.int x1), some (.int x2), some (.int x3), some (.int x4), some (.int x5), some (.int x6), some (.int x_11), none], [.int x_19], h) _
    refine gw_pst hk 3 (st' := (133, [some (.ref 0), some (.int x1), some (.int x2), some (.int x3), some (.int x4), some (.int x5), some (.int x6), some (.int x_11), some (.int x_19)], [.int (-1), .int x1], h)) rfl ?_
    refine gw_br (c := x1 = (-1)) (a := (145, [some (.ref 0), some (.int x1), some (.int x2), some (.int x3), some (.int x4), some (.int x5), some (.int x6), some (.int x_11), some (.int x_19)], [], h)) (b := (136, [some (.ref 0), some (.int x1), some (.int x2), some (.int x3), some (.int x4), some (.int x5), some (.int x6), some (.int x_11), some (.int x_19)], [], h)) (hk _ _ rfl) rfl ⟨fun z20 => ?_, fun z20 => ?_⟩
    · replace w := w.1 z20
      refine gw_le (L' := [some (.ref 0), none, none, none, some (.int x4), some (.int x5), some (.int x6), some (.int x_11), some (.int x_19)]) (gm_le_k _ (gm_le_n _ (gm_le_n _ (gm_le_n _ (gm_le_k _ (gm_le_k _ (gm_le_k _ (gm_le_k _ (gm_le_k _ gm_le_nil))))))))) ?_
      exact ok126_145 c d Post K40 hK40 _ _ _ _ _ _ w _ hR
    · replace w := w.2 z20
      refine gw_pst hk 4 (st' := (142, [some (.ref 0), some (.int x1), some (.int x2), some (.int x3), some (.int x4), some (.int x5), some (.int x6), some (.int x_11), some (.int x_19)], [.int x2, .int (x_11 + x_19)], h)) rfl ?_
      refine gw_br (c := (x_11 + x_19) ≤ x2) (a := (157, [some (.ref 0), some (.int x1), some (.int x2), some (.int x3), some (.int x4), some (.int x5), some (.int x6), some (.int x_11), some (.int x_19)], [], h)) (b := (145, [some (.ref 0), some (.int x1), some (.int x2), some (.int x3), some (.int x4), some (.int x5), some (.int x6), some (.int x_11), some (.int x_19)], [], h)) (hk _ _ rfl) rfl ⟨fun z21 => ?_, fun z21 => ?_⟩
      · replace w := w.1 z21
        refine gw_le (L' := [some (.ref 0), some (.int x1), some (.int x2), some (.int x3), some (.int x4), some (.int x5), some (.int x6), none, none]) (gm_le_k _ (gm_le_k _ (gm_le_k _ (gm_le_k _ (gm_le_k _ (gm_le_k _ (gm_le_k _ (gm_le_n _ (gm_le_n _ gm_le_nil))))))))) ?_
        exact ok126_157 c d Post K40 hK40 _ _ _ _ _ _ _ w _ hR
      · replace w := w.2 z21
        refine gw_le (L' := [some (.ref 0), none, none, none, some (.int x4), some (.int x5), some (.int x6), some (.int x_11), some (.int x_19)]) (gm_le_k _ (gm_le_n _ (gm_le_n _ (gm_le_n _ (gm_le_k _ (gm_le_k _ (gm_le_k _ (gm_le_k _ (gm_le_k _ gm_le_nil))))))))) ?_
        exact ok126_145 c d Post K40 hK40 _ _ _ _ _ _ w _ hR
def wl126_40 (c : gx) (d : Nat) (Post : Option Value → gs → Prop) : Nat → Int32 → Int32 → Int32 → Int32 → Int32 → Int32 → gs → Prop
  | 0 => fun _ _ _ _ _ _ _ => False
  | n + 1 => wb126_40 c d Post (wl126_40 c d Post n)
theorem okl126_40 (c : gx) (d : Nat) (Post : Option Value → gs → Prop) : ∀ (n : Nat) (x1 : Int32) (x2 : Int32) (x3 : Int32) (x4 : Int32) (x5 : Int32) (x6 : Int32) (s : gs), wl126_40 c d Post n x1 x2 x3 x4 x5 x6 s → tV c d 126 40 [some (.ref 0), some (.int x1), some (.int x2), some (.int x3), some (.int x4), some (.int x5), some (.int x6), none, none] [] s Post
  | 0, _, _, _, _, _, _, _, w => w.elim
  | n + 1, x1, x2, x3, x4, x5, x6, s, w => okb126_40 c d Post (wl126_40 c d Post n) (okl126_40 c d Post n) x1 x2 x3 x4 x5 x6 s w
/-- CommandByTurns.halves()I -/
def wm126 (c : gx) (d : Nat) (Post : Option Value → gs → Prop)  (s : gs) : Prop :=
  tE c d 149 [.ref 0, .int (gsV s 14 1), .int (gsV s 14 2)] s (fun v5 s_5 => ∃ x_5 : Int32, v5 = some (.int x_5) ∧ ∃ n, wl126_40 c d Post n (-1) 0 0 x_5 ((gsV s_5 14 4) / 2) 0 s_5)
theorem okm126 (c : gx) (d : Nat) (Post : Option Value → gs → Prop)  (s : gs) (w : wm126 c d Post  s) : tE c (d + 1) 126 [.ref 0] s Post := by
  intro h hR
  have hk : ∀ pc i, gm_find gk_126 pc = some i → gm_code (gt_T c.1 c.2.1 c.2.2.1) 126 pc = some i := fun _ _ z => z
  unfold wm126 at w
  refine ge_of (by decide) (Nat.le_of_ble_eq_true rfl) ?_
  show gw (gt_T c.1 c.2.1 c.2.2.1) c.2.2.2 d 126 (0, [some (.ref 0), none, none, none, none, none, none, none, none], [], h) _
  refine gw_pst hk 8 (st' := (8, [some (.ref 0), some (.int (-1)), some (.int 0), some (.int 0), none, none, none, none, none], [.ref 0, .ref 0], h)) rfl ?_
  refine gw_gf (hk _ _ rfl) (RL_fR (n := 14) hR rfl) ?_
  refine gw_gf (hk _ _ rfl) (RL_fI hR rfl) ?_
  refine gw_pst hk 1 (st' := (15, [some (.ref 0), some (.int (-1)), some (.int 0), some (.int 0), none, none, none, none, none], [.ref 0, .int (gsV s 14 1), .ref 0], h)) rfl ?_
  refine gw_gf (hk _ _ rfl) (RL_fR (n := 14) hR rfl) ?_
  refine gw_gf (hk _ _ rfl) (RL_fI hR rfl) ?_
  obtain ⟨fs5, e5⟩ := RL_o hR (r := 0) (ci := 9) rfl
  refine gw_call (jj := 149) (As := [.ref 0, .int (gsV s 14 1), .int (gsV s 14 2)]) (rest := []) (hk _ _ rfl) (fun _ => rfl) rfl rfl (Nat.le_of_ble_eq_true rfl) (gm_rcv_v rfl e5 rfl) ?_
  refine ge_imp (w h hR) (fun v5 h w => ?_)
  obtain ⟨s_5, hR, x_5, rfl, w⟩ := w
  show gw (gt_T c.1 c.2.1 c.2.2.1) c.2.2.2 d 126 (24, [some (.ref 0), some (.int (-1)), some (.int 0), some (.int 0), none, none, none, none, none], [.int x_5], h) _
  refine gw_pst hk 2 (st' := (27, [some (.ref 0), some (.int (-1)), some (.int 0), some (.int 0), some (.int x_5), none, none, none, none], [.ref 0], h)) rfl ?_
  refine gw_gf (hk _ _ rfl) (RL_fR (n := 14) hR rfl) ?_
  refine gw_gf (hk _ _ rfl) (RL_fI hR rfl) ?_
  refine gw_pst hk 1 (st' := (34, [some (.ref 0), some (.int (-1)), some (.int 0), some (.int 0), some (.int x_5), none, none, none, none], [.int 2, .int (gsV s_5 14 4)], h)) rfl ?_
  refine gw_idiv (hk _ _ rfl) (by decide) ?_ rfl
  refine gw_pst hk 3 (st' := (40, [some (.ref 0), some (.int (-1)), some (.int 0), some (.int 0), some (.int x_5), some (.int ((gsV s_5 14 4) / 2)), some (.int 0), none, none], [], h)) rfl ?_
  obtain ⟨n, w⟩ := w
  exact okl126_40 c d Post n _ _ _ _ _ _ _ w _ hR
def w127_20 (c : gx) (d : Nat) (Post : Option Value → gs → Prop)  (s : gs) : Prop :=
  Post (some (.int (-1))) s
theorem ok127_20 (c : gx) (d : Nat) (Post : Option Value → gs → Prop)   (s : gs) (w : w127_20 c d Post  s) : tV c d 127 20 [none, none, none] [] s Post := by
  intro h hR
  have hk : ∀ pc i, gm_find gk_127 pc = some i → gm_code (gt_T c.1 c.2.1 c.2.2.1) 127 pc = some i := fun _ _ z => z
  unfold w127_20 at w
  unfold gV
  refine gw_pst hk 1 (st' := (21, [none, none, none], [.int (-1)], h)) rfl ?_
  exact gw_ret (hk _ _ rfl) rfl ⟨_, hR, w⟩
/-- CommandByTurns.seen(II)I -/
def wm127 (c : gx) (d : Nat) (Post : Option Value → gs → Prop) (x1 : Int32) (x2 : Int32) (s : gs) : Prop :=
  ((x1 < 0 → w127_20 c d Post s) ∧ (¬ (x1 < 0) → ((20 ≤ x1 → w127_20 c d Post s) ∧ (¬ (20 ≤ x1) → ((x2 < 0 → w127_20 c d Post s) ∧ (¬ (x2 < 0) → ((x2 ≤ 9 → tE c d 33 [.ref 41, .int x1, .int x2] s (fun v6 s_6 => ∃ x_6 : Int32, v6 = some (.int x_6) ∧ Post (some (.int x_6)) s_6)) ∧ (¬ (x2 ≤ 9) → w127_20 c d Post s))))))))
theorem okm127 (c : gx) (d : Nat) (Post : Option Value → gs → Prop) (x1 : Int32) (x2 : Int32) (s : gs) (w : wm127 c d Post x1 x2 s) : tE c (d + 1) 127 [.ref 0, .int x1, .int x2] s Post := by
  intro h hR
  have hk : ∀ pc i, gm_find gk_127 pc = some i → gm_code (gt_T c.1 c.2.1 c.2.2.1) 127 pc = some i := fun _ _ z => z
  unfold wm127 at w
  refine ge_of (by decide) (Nat.le_of_ble_eq_true rfl) ?_
  show gw (gt_T c.1 c.2.1 c.2.2.1) c.2.2.2 d 127 (0, [some (.ref 0), some (.int x1), some (.int x2)], [], h) _
  refine gw_pst hk 1 (st' := (1, [some (.ref 0), some (.int x1), some (.int x2)], [.int x1], h)) rfl ?_
  refine gw_br (c := x1 < 0) (a := (20, [some (.ref 0), some (.int x1), some (.int x2)], [], h)) (b := (4, [some (.ref 0), some (.int x1), some (.int x2)], [], h)) (hk _ _ rfl) rfl ⟨fun z1 => ?_, fun z1 => ?_⟩
  · replace w := w.1 z1
    refine gw_le (L' := [none, none, none]) (gm_le_n _ (gm_le_n _ (gm_le_n _ gm_le_nil))) ?_
    exact ok127_20 c d Post _ w _ hR
  · replace w := w.2 z1
    refine gw_pst hk 2 (st' := (7, [some (.ref 0), some (.int x1), some (.int x2)], [.int 20, .int x1], h)) rfl ?_
    refine gw_br (c := 20 ≤ x1) (a := (20, [some (.ref 0), some (.int x1), some (.int x2)], [], h)) (b := (10, [some (.ref 0), some (.int x1), some (.int x2)], [], h)) (hk _ _ rfl) rfl ⟨fun z2 => ?_, fun z2 => ?_⟩
    · replace w := w.1 z2
      refine gw_le (L' := [none, none, none]) (gm_le_n _ (gm_le_n _ (gm_le_n _ gm_le_nil))) ?_
      exact ok127_20 c d Post _ w _ hR
    · replace w := w.2 z2
      refine gw_pst hk 1 (st' := (11, [some (.ref 0), some (.int x1), some (.int x2)], [.int x2], h)) rfl ?_
      refine gw_br (c := x2 < 0) (a := (20, [some (.ref 0), some (.int x1), some (.int x2)], [], h)) (b := (14, [some (.ref 0), some (.int x1), some (.int x2)], [], h)) (hk _ _ rfl) rfl ⟨fun z3 => ?_, fun z3 => ?_⟩
      · replace w := w.1 z3
        refine gw_le (L' := [none, none, none]) (gm_le_n _ (gm_le_n _ (gm_le_n _ gm_le_nil))) ?_
        exact ok127_20 c d Post _ w _ hR
      · replace w := w.2 z3
        refine gw_pst hk 2 (st' := (17, [some (.ref 0), some (.int x1), some (.int x2)], [.int 9, .int x2], h)) rfl ?_
        refine gw_br (c := x2 ≤ 9) (a := (22, [some (.ref 0), some (.int x1), some (.int x2)], [], h)) (b := (20, [some (.ref 0), some (.int x1), some (.int x2)], [], h)) (hk _ _ rfl) rfl ⟨fun z4 => ?_, fun z4 => ?_⟩
        · replace w := w.1 z4
          refine gw_pst hk 1 (st' := (23, [some (.ref 0), some (.int x1), some (.int x2)], [.ref 0], h)) rfl ?_
          refine gw_gf (hk _ _ rfl) (RL_fR (n := 41) hR rfl) ?_
          refine gw_pst hk 2 (st' := (28, [some (.ref 0), some (.int x1), some (.int x2)], [.int x2, .int x1, .ref 41], h)) rfl ?_
          obtain ⟨fs6, e6⟩ := RL_o hR (r := 41) (ci := 3) rfl
          refine gw_call (jj := 33) (As := [.ref 41, .int x1, .int x2]) (rest := []) (hk _ _ rfl) (fun _ => rfl) rfl rfl (Nat.le_of_ble_eq_true rfl) (gm_rcv_v rfl e6 rfl) ?_
          refine ge_imp (w h hR) (fun v6 h w => ?_)
          obtain ⟨s_6, hR, x_6, rfl, w⟩ := w
          show gw (gt_T c.1 c.2.1 c.2.2.1) c.2.2.2 d 127 (31, [some (.ref 0), some (.int x1), some (.int x2)], [.int x_6], h) _
          exact gw_ret (hk _ _ rfl) rfl ⟨_, hR, w⟩
        · replace w := w.2 z4
          refine gw_le (L' := [none, none, none]) (gm_le_n _ (gm_le_n _ (gm_le_n _ gm_le_nil))) ?_
          exact ok127_20 c d Post _ w _ hR
/-- CommandByTurns.forget()I -/
def wm128 (c : gx) (d : Nat) (Post : Option Value → gs → Prop)  (s : gs) : Prop :=
  tE c d 266 [.int (gsV s 41 1)] s (fun v3 s_3 => ∃ x_3 : Int32, v3 = some (.int x_3) ∧ ∀ s_5 : gs, s_5 = gs_V s_3 41 1 0 → Post (some (.int x_3)) s_5)
theorem okm128 (c : gx) (d : Nat) (Post : Option Value → gs → Prop)  (s : gs) (w : wm128 c d Post  s) : tE c (d + 1) 128 [.ref 0] s Post := by
  intro h hR
  have hk : ∀ pc i, gm_find gk_128 pc = some i → gm_code (gt_T c.1 c.2.1 c.2.2.1) 128 pc = some i := fun _ _ z => z
  unfold wm128 at w
  refine ge_of (by decide) (Nat.le_of_ble_eq_true rfl) ?_
  show gw (gt_T c.1 c.2.1 c.2.2.1) c.2.2.2 d 128 (0, [some (.ref 0), none], [], h) _
  refine gw_pst hk 1 (st' := (1, [some (.ref 0), none], [.ref 0], h)) rfl ?_
  refine gw_gf (hk _ _ rfl) (RL_fR (n := 41) hR rfl) ?_
  refine gw_gf (hk _ _ rfl) (RL_fI hR rfl) ?_
  refine gw_call (jj := 266) (As := [.int (gsV s 41 1)]) (rest := []) (hk _ _ rfl) (fun _ => rfl) rfl rfl (Nat.le_of_ble_eq_true rfl) rfl ?_
  refine ge_imp (w h hR) (fun v3 h w => ?_)
  obtain ⟨s_3, hR, x_3, rfl, w⟩ := w
  show gw (gt_T c.1 c.2.1 c.2.2.1) c.2.2.2 d 128 (10, [some (.ref 0), none], [.int x_3], h) _
  refine gw_pst hk 2 (st' := (12, [some (.ref 0), some (.int x_3)], [.ref 0], h)) rfl ?_
  refine gw_gf (hk _ _ rfl) (RL_fR (n := 41) hR rfl) ?_
  refine gw_pst hk 1 (st' := (16, [some (.ref 0), some (.int x_3)], [.int 0, .ref 41], h)) rfl ?_
  obtain ⟨fs5, e5⟩ := RL_o hR (r := 41) (ci := 3) rfl
  obtain ⟨l5, hR5⟩ := RL_pI (k := 1) (x := 0) hR rfl e5
  refine gw_pf (hk _ _ rfl) e5 l5 rfl ?_
  generalize gm_put h _ _ = h at hR5 ⊢
  obtain ⟨s_5, es5⟩ : ∃ z, z = gs_V s_3 41 1 0 := ⟨_, rfl⟩
  rw [← es5] at hR5
  replace w := w s_5 es5
  replace hR := hR5
  refine gw_pst hk 1 (st' := (20, [some (.ref 0), some (.int x_3)], [.int x_3], h)) rfl ?_
  exact gw_ret (hk _ _ rfl) rfl ⟨_, hR, w⟩
/-- CommandByTurns.was(II)I -/
def wm129 (c : gx) (d : Nat) (Post : Option Value → gs → Prop) (x1 : Int32) (x2 : Int32) (s : gs) : Prop :=
  tE c d 132 [.int x1, .int x2] s (fun v1 s_1 => ∃ x_1 : Int32, v1 = some (.int x_1) ∧ ((x_1 = 0 → Post (some (.int (-1))) s_1) ∧ (¬ (x_1 = 0) → tE c d 133 [.ref 0, .int x1, .int x2] s_1 (fun v3 s_3 => ∃ x_3 : Int32, v3 = some (.int x_3) ∧ tE c d 39 [.ref 41, .int x1, .int x2] s_3 (fun v6 s_6 => ∃ x_6 : Int32, v6 = some (.int x_6) ∧ tE c d 45 [.ref 34, .long ((x_6 : Int32).toInt64)] s_6 (fun v7 s_7 => v7 = none ∧ Post (some (.int x_3)) s_7))))))
theorem okm129 (c : gx) (d : Nat) (Post : Option Value → gs → Prop) (x1 : Int32) (x2 : Int32) (s : gs) (w : wm129 c d Post x1 x2 s) : tE c (d + 1) 129 [.ref 0, .int x1, .int x2] s Post := by
  intro h hR
  have hk : ∀ pc i, gm_find gk_129 pc = some i → gm_code (gt_T c.1 c.2.1 c.2.2.1) 129 pc = some i := fun _ _ z => z
  unfold wm129 at w
  refine ge_of (by decide) (Nat.le_of_ble_eq_true rfl) ?_
  show gw (gt_T c.1 c.2.1 c.2.2.1) c.2.2.2 d 129 (0, [some (.ref 0), some (.int x1), some (.int x2), none], [], h) _
  refine gw_pst hk 2 (st' := (2, [some (.ref 0), some (.int x1), some (.int x2), none], [.int x2, .int x1], h)) rfl ?_
  refine gw_call (jj := 132) (As := [.int x1, .int x2]) (rest := []) (hk _ _ rfl) (fun _ => rfl) rfl rfl (Nat.le_of_ble_eq_true rfl) rfl ?_
  refine ge_imp (w h hR) (fun v1 h w => ?_)
  obtain ⟨s_1, hR, x_1, rfl, w⟩ := w
  show gw (gt_T c.1 c.2.1 c.2.2.1) c.2.2.2 d 129 (5, [some (.ref 0), some (.int x1), some (.int x2), none], [.int x_1], h) _
  refine gw_br (c := x_1 = 0) (a := (8, [some (.ref 0), some (.int x1), some (.int x2), none], [], h)) (b := (10, [some (.ref 0), some (.int x1), some (.int x2), none], [], h)) (hk _ _ rfl) rfl ⟨fun z2 => ?_, fun z2 => ?_⟩
  · replace w := w.1 z2
    refine gw_pst hk 1 (st' := (9, [some (.ref 0), some (.int x1), some (.int x2), none], [.int (-1)], h)) rfl ?_
    exact gw_ret (hk _ _ rfl) rfl ⟨_, hR, w⟩
  · replace w := w.2 z2
    refine gw_pst hk 3 (st' := (13, [some (.ref 0), some (.int x1), some (.int x2), none], [.int x2, .int x1, .ref 0], h)) rfl ?_
    obtain ⟨fs3, e3⟩ := RL_o hR (r := 0) (ci := 9) rfl
    refine gw_call (jj := 133) (As := [.ref 0, .int x1, .int x2]) (rest := []) (hk _ _ rfl) (fun _ => rfl) rfl rfl (Nat.le_of_ble_eq_true rfl) (gm_rcv_v rfl e3 rfl) ?_
    refine ge_imp (w h hR) (fun v3 h w => ?_)
    obtain ⟨s_3, hR, x_3, rfl, w⟩ := w
    show gw (gt_T c.1 c.2.1 c.2.2.1) c.2.2.2 d 129 (16, [some (.ref 0), some (.int x1), some (.int x2), none], [.int x_3], h) _
    refine gw_pst hk 2 (st' := (18, [some (.ref 0), some (.int x1), some (.int x2), some (.int x_3)], [.ref 0], h)) rfl ?_
    refine gw_gf (hk _ _ rfl) (RL_fR (n := 34) hR rfl) ?_
    refine gw_pst hk 1 (st' := (22, [some (.ref 0), some (.int x1), some (.int x2), some (.int x_3)], [.ref 0, .ref 34], h)) rfl ?_
    refine gw_gf (hk _ _ rfl) (RL_fR (n := 41) hR rfl) ?_
    refine gw_pst hk 2 (st' := (27, [some (.ref 0), some (.int x1), some (.int x2), some (.int x_3)], [.int x2, .int x1, .ref 41, .ref 34], h)) rfl ?_
    obtain ⟨fs6, e6⟩ := RL_o hR (r := 41) (ci := 3) rfl
    refine gw_call (jj := 39) (As := [.ref 41, .int x1, .int x2]) (rest := [.ref 34]) (hk _ _ rfl) (fun _ => rfl) rfl rfl (Nat.le_of_ble_eq_true rfl) (gm_rcv_v rfl e6 rfl) ?_
    refine ge_imp (w h hR) (fun v6 h w => ?_)
    obtain ⟨s_6, hR, x_6, rfl, w⟩ := w
    show gw (gt_T c.1 c.2.1 c.2.2.1) c.2.2.2 d 129 (30, [some (.ref 0), some (.int x1), some (.int x2), some (.int x_3)], [.int x_6, .ref 34], h) _
    refine gw_pst hk 1 (st' := (31, [some (.ref 0), some (.int x1), some (.int x2), some (.int x_3)], [.long ((x_6 : Int32).toInt64), .ref 34], h)) rfl ?_
    obtain ⟨fs7, e7⟩ := RL_o hR (r := 34) (ci := 5) rfl
    refine gw_call (jj := 45) (As := [.ref 34, .long ((x_6 : Int32).toInt64)]) (rest := []) (hk _ _ rfl) (fun _ => rfl) rfl rfl (Nat.le_of_ble_eq_true rfl) (gm_rcv_v rfl e7 rfl) ?_
    refine ge_imp (w h hR) (fun v7 h w => ?_)
    obtain ⟨s_7, hR, rfl, w⟩ := w
    show gw (gt_T c.1 c.2.1 c.2.2.1) c.2.2.2 d 129 (34, [some (.ref 0), some (.int x1), some (.int x2), some (.int x_3)], [], h) _
    refine gw_pst hk 1 (st' := (35, [some (.ref 0), some (.int x1), some (.int x2), some (.int x_3)], [.int x_3], h)) rfl ?_
    exact gw_ret (hk _ _ rfl) rfl ⟨_, hR, w⟩
def w130_84 (c : gx) (d : Nat) (Post : Option Value → gs → Prop) (K26 : Int32 → Int32 → Int32 → Int32 → Int32 → Int32 → gs → Prop) (x1 : Int32) (x2 : Int32) (x3 : Int32) (x4 : Int32) (x5 : Int32) (x6 : Int32) (s : gs) : Prop :=
  K26 x1 x2 x3 x4 x5 (x6 + 1) s
theorem ok130_84 (c : gx) (d : Nat) (Post : Option Value → gs → Prop) (K26 : Int32 → Int32 → Int32 → Int32 → Int32 → Int32 → gs → Prop)  (hK26 : ∀ (x1 : Int32) (x2 : Int32) (x3 : Int32) (x4 : Int32) (x5 : Int32) (x6 : Int32) (s : gs), K26 x1 x2 x3 x4 x5 x6 s → tV c d 130 26 [some (.ref 0), some (.int x1), some (.int x2), some (.int x3), some (.int x4), some (.int x5), some (.int x6), none] [] s Post) (x1 : Int32) (x2 : Int32) (x3 : Int32) (x4 : Int32) (x5 : Int32) (x6 : Int32) (s : gs) (w : w130_84 c d Post K26 x1 x2 x3 x4 x5 x6 s) : tV c d 130 84 [some (.ref 0), some (.int x1), some (.int x2), some (.int x3), some (.int x4), some (.int x5), some (.int x6), none] [] s Post := by
  intro h hR
  have hk : ∀ pc i, gm_find gk_130 pc = some i → gm_code (gt_T c.1 c.2.1 c.2.2.1) 130 pc = some i := fun _ _ z => z
  unfold w130_84 at w
  unfold gV
  refine gw_pst hk 2 (st' := (26, [some (.ref 0), some (.int x1), some (.int x2), some (.int x3), some (.int x4), some (.int x5), some (.int (x6 + 1)), none], [], h)) rfl ?_
  exact hK26 _ _ _ _ _ _ _ w _ hR
def w130_69 (c : gx) (d : Nat) (Post : Option Value → gs → Prop) (K26 : Int32 → Int32 → Int32 → Int32 → Int32 → Int32 → gs → Prop) (x1 : Int32) (x2 : Int32) (x3 : Int32) (x4 : Int32) (x5 : Int32) (x6 : Int32) (x7 : Int32) (s : gs) : Prop :=
  ((x7 = x3 → w130_84 c d Post K26 x1 x2 x3 x4 (x5 ||| (1 <<< (x6 &&& 31))) x6 s) ∧ (¬ (x7 = x3) → w130_84 c d Post K26 x1 x2 x3 x4 x5 x6 s))
theorem ok130_69 (c : gx) (d : Nat) (Post : Option Value → gs → Prop) (K26 : Int32 → Int32 → Int32 → Int32 → Int32 → Int32 → gs → Prop)  (hK26 : ∀ (x1 : Int32) (x2 : Int32) (x3 : Int32) (x4 : Int32) (x5 : Int32) (x6 : Int32) (s : gs), K26 x1 x2 x3 x4 x5 x6 s → tV c d 130 26 [some (.ref 0), some (.int x1), some (.int x2), some (.int x3), some (.int x4), some (.int x5), some (.int x6), none] [] s Post) (x1 : Int32) (x2 : Int32) (x3 : Int32) (x4 : Int32) (x5 : Int32) (x6 : Int32) (x7 : Int32) (s : gs) (w : w130_69 c d Post K26 x1 x2 x3 x4 x5 x6 x7 s) : tV c d 130 69 [some (.ref 0), some (.int x1), some (.int x2), some (.int x3), some (.int x4), some (.int x5), some (.int x6), some (.int x7)] [] s Post := by
  intro h hR
  have hk : ∀ pc i, gm_find gk_130 pc = some i → gm_code (gt_T c.1 c.2.1 c.2.2.1) 130 pc = some i := fun _ _ z => z
  unfold w130_69 at w
  unfold gV
  refine gw_pst hk 2 (st' := (72, [some (.ref 0), some (.int x1), some (.int x2), some (.int x3), some (.int x4), some (.int x5), some (.int x6), some (.int x7)], [.int x3, .int x7], h)) rfl ?_
  refine gw_br (c := x7 = x3) (a := (75, [some (.ref 0), some (.int x1), some (.int x2), some (.int x3), some (.int x4), some (.int x5), some (.int x6), some (.int x7)], [], h)) (b := (84, [some (.ref 0), some (.int x1), some (.int x2), some (.int x3), some (.int x4), some (.int x5), some (.int x6), some (.int x7)], [], h)) (hk _ _ rfl) rfl ⟨fun z1 => ?_, fun z1 => ?_⟩
  · replace w := w.1 z1
    refine gw_pst hk 6 (st' := (84, [some (.ref 0), some (.int x1), some (.int x2), some (.int x3), some (.int x4), some (.int (x5 ||| (1 <<< (x6 &&& 31)))), some (.int x6), some (.int x7)], [], h)) rfl ?_
    refine gw_le (L' := [some (.ref 0), some (.int x1), some (.int x2), some (.int x3), some (.int x4), some (.int (x5 ||| (1 <<< (x6 &&& 31)))), some (.int x6), none]) (gm_le_k _ (gm_le_k _ (gm_le_k _ (gm_le_k _ (gm_le_k _ (gm_le_k _ (gm_le_k _ (gm_le_n _ gm_le_nil)))))))) ?_
    exact ok130_84 c d Post K26 hK26 _ _ _ _ _ _ _ w _ hR
  · replace w := w.2 z1
    refine gw_le (L' := [some (.ref 0), some (.int x1), some (.int x2), some (.int x3), some (.int x4), some (.int x5), some (.int x6), none]) (gm_le_k _ (gm_le_k _ (gm_le_k _ (gm_le_k _ (gm_le_k _ (gm_le_k _ (gm_le_k _ (gm_le_n _ gm_le_nil)))))))) ?_
    exact ok130_84 c d Post K26 hK26 _ _ _ _ _ _ _ w _ hR
def w130_60 (c : gx) (d : Nat) (Post : Option Value → gs → Prop) (K26 : Int32 → Int32 → Int32 → Int32 → Int32 → Int32 → gs → Prop) (x1 : Int32) (x2 : Int32) (x3 : Int32) (x4 : Int32) (x5 : Int32) (x6 : Int32) (x7 : Int32) (s : gs) : Prop :=
  w130_69 c d Post K26 x1 x2 x3 (x4 ||| (1 <<< (x6 &&& 31))) x5 x6 x7 s
theorem ok130_60 (c : gx) (d : Nat) (Post : Option Value → gs → Prop) (K26 : Int32 → Int32 → Int32 → Int32 → Int32 → Int32 → gs → Prop)  (hK26 : ∀ (x1 : Int32) (x2 : Int32) (x3 : Int32) (x4 : Int32) (x5 : Int32) (x6 : Int32) (s : gs), K26 x1 x2 x3 x4 x5 x6 s → tV c d 130 26 [some (.ref 0), some (.int x1), some (.int x2), some (.int x3), some (.int x4), some (.int x5), some (.int x6), none] [] s Post) (x1 : Int32) (x2 : Int32) (x3 : Int32) (x4 : Int32) (x5 : Int32) (x6 : Int32) (x7 : Int32) (s : gs) (w : w130_60 c d Post K26 x1 x2 x3 x4 x5 x6 x7 s) : tV c d 130 60 [some (.ref 0), some (.int x1), some (.int x2), some (.int x3), some (.int x4), some (.int x5), some (.int x6), some (.int x7)] [] s Post := by
  intro h hR
  have hk : ∀ pc i, gm_find gk_130 pc = some i → gm_code (gt_T c.1 c.2.1 c.2.2.1) 130 pc = some i := fun _ _ z => z
  unfold w130_60 at w
  unfold gV
  refine gw_pst hk 6 (st' := (69, [some (.ref 0), some (.int x1), some (.int x2), some (.int x3), some (.int (x4 ||| (1 <<< (x6 &&& 31)))), some (.int x5), some (.int x6), some (.int x7)], [], h)) rfl ?_
  exact ok130_69 c d Post K26 hK26 _ _ _ _ _ _ _ _ w _ hR
def w130_90 (c : gx) (d : Nat) (Post : Option Value → gs → Prop) (x4 : Int32) (x5 : Int32) (s : gs) : Prop :=
  tE c d 45 [.ref 34, .long ((x5 : Int32).toInt64)] s (fun v2 s_2 => v2 = none ∧ Post (some (.int x4)) s_2)
theorem ok130_90 (c : gx) (d : Nat) (Post : Option Value → gs → Prop)  (x4 : Int32) (x5 : Int32) (s : gs) (w : w130_90 c d Post x4 x5 s) : tV c d 130 90 [some (.ref 0), none, none, none, some (.int x4), some (.int x5), none, none] [] s Post := by
  intro h hR
  have hk : ∀ pc i, gm_find gk_130 pc = some i → gm_code (gt_T c.1 c.2.1 c.2.2.1) 130 pc = some i := fun _ _ z => z
  unfold w130_90 at w
  unfold gV
  refine gw_pst hk 1 (st' := (91, [some (.ref 0), none, none, none, some (.int x4), some (.int x5), none, none], [.ref 0], h)) rfl ?_
  refine gw_gf (hk _ _ rfl) (RL_fR (n := 34) hR rfl) ?_
  refine gw_pst hk 2 (st' := (97, [some (.ref 0), none, none, none, some (.int x4), some (.int x5), none, none], [.long ((x5 : Int32).toInt64), .ref 34], h)) rfl ?_
  obtain ⟨fs2, e2⟩ := RL_o hR (r := 34) (ci := 5) rfl
  refine gw_call (jj := 45) (As := [.ref 34, .long ((x5 : Int32).toInt64)]) (rest := []) (hk _ _ rfl) (fun _ => rfl) rfl rfl (Nat.le_of_ble_eq_true rfl) (gm_rcv_v rfl e2 rfl) ?_
  refine ge_imp (w h hR) (fun v2 h w => ?_)
  obtain ⟨s_2, hR, rfl, w⟩ := w
  show gw (gt_T c.1 c.2.1 c.2.2.1) c.2.2.2 d 130 (100, [some (.ref 0), none, none, none, some (.int x4), some (.int x5), none, none], [], h) _
  refine gw_pst hk 1 (st' := (102, [some (.ref 0), none, none, none, some (.int x4), some (.int x5), none, none], [.int x4], h)) rfl ?_
  exact gw_ret (hk _ _ rfl) rfl ⟨_, hR, w⟩
def wb130_26 (c : gx) (d : Nat) (Post : Option Value → gs → Prop) (K26 : Int32 → Int32 → Int32 → Int32 → Int32 → Int32 → gs → Prop) (x1 : Int32) (x2 : Int32) (x3 : Int32) (x4 : Int32) (x5 : Int32) (x6 : Int32) (s : gs) : Prop :=
  ((x1 ≤ x6 → w130_90 c d Post x4 x5 s) ∧ (¬ (x1 ≤ x6) → ((x3 ≤ 0 → w130_90 c d Post x4 x5 s) ∧ (¬ (x3 ≤ 0) → tE c d 35 [.ref 41, .int x1, .int x2, .int x6] s (fun v4 s_4 => ∃ x_4 : Int32, v4 = some (.int x_4) ∧ ((x_4 = 0 → w130_60 c d Post K26 x1 x2 x3 x4 x5 x6 x_4 s_4) ∧ (¬ (x_4 = 0) → ((x_4 = x3 → w130_60 c d Post K26 x1 x2 x3 x4 x5 x6 x_4 s_4) ∧ (¬ (x_4 = x3) → w130_69 c d Post K26 x1 x2 x3 x4 x5 x6 x_4 s_4)))))))))
theorem okb130_26 (c : gx) (d : Nat) (Post : Option Value → gs → Prop) (K26 : Int32 → Int32 → Int32 → Int32 → Int32 → Int32 → gs → Prop)  (hK26 : ∀ (x1 : Int32) (x2 : Int32) (x3 : Int32) (x4 : Int32) (x5 : Int32) (x6 : Int32) (s : gs), K26 x1 x2 x3 x4 x5 x6 s → tV c d 130 26 [some (.ref 0), some (.int x1), some (.int x2), some (.int x3), some (.int x4), some (.int x5), some (.int x6), none] [] s Post) (x1 : Int32) (x2 : Int32) (x3 : Int32) (x4 : Int32) (x5 : Int32) (x6 : Int32) (s : gs) (w : wb130_26 c d Post K26 x1 x2 x3 x4 x5 x6 s) : tV c d 130 26 [some (.ref 0), some (.int x1), some (.int x2), some (.int x3), some (.int x4), some (.int x5), some (.int x6), none] [] s Post := by
  intro h hR
  have hk : ∀ pc i, gm_find gk_130 pc = some i → gm_code (gt_T c.1 c.2.1 c.2.2.1) 130 pc = some i := fun _ _ z => z
  unfold wb130_26 at w
  unfold gV
  refine gw_pst hk 2 (st' := (29, [some (.ref 0), some (.int x1), some (.int x2), some (.int x3), some (.int x4), some (.int x5), some (.int x6), none], [.int x1, .int x6], h)) rfl ?_
  refine gw_br (c := x1 ≤ x6) (a := (90, [some (.ref 0), some (.int x1), some (.int x2), some (.int x3), some (.int x4), some (.int x5), some (.int x6), none], [], h)) (b := (32, [some (.ref 0), some (.int x1), some (.int x2), some (.int x3), some (.int x4), some (.int x5), some (.int x6), none], [], h)) (hk _ _ rfl) rfl ⟨fun z1 => ?_, fun z1 => ?_⟩
  · replace w := w.1 z1
    refine gw_le (L' := [some (.ref 0), none, none, none, some (.int x4), some (.int x5), none, none]) (gm_le_k _ (gm_le_n _ (gm_le_n _ (gm_le_n _ (gm_le_k _ (gm_le_k _ (gm_le_n _ (gm_le_k _ gm_le_nil)))))))) ?_
    exact ok130_90 c d Post _ _ _ w _ hR
  · replace w := w.2 z1
    refine gw_pst hk 1 (st' := (33, [some (.ref 0), some (.int x1), some (.int x2), some (.int x3), some (.int x4), some (.int x5), some (.int x6), none], [.int x3], h)) rfl ?_
    refine gw_br (c := x3 ≤ 0) (a := (90, [some (.ref 0), some (.int x1), some (.int x2), some (.int x3), some (.int x4), some (.int x5), some (.int x6), none], [], h)) (b := (36, [some (.ref 0), some (.int x1), some (.int x2), some (.int x3), some (.int x4), some (.int x5), some (.int x6), none], [], h)) (hk _ _ rfl) rfl ⟨fun z2 => ?_, fun z2 => ?_⟩
    · replace w := w.1 z2
      refine gw_le (L' := [some (.ref 0), none, none, none, some (.int x4), some (.int x5), none, none]) (gm_le_k _ (gm_le_n _ (gm_le_n _ (gm_le_n _ (gm_le_k _ (gm_le_k _ (gm_le_n _ (gm_le_k _ gm_le_nil)))))))) ?_
      exact ok130_90 c d Post _ _ _ w _ hR
    · replace w := w.2 z2
      refine gw_pst hk 1 (st' := (37, [some (.ref 0), some (.int x1), some (.int x2), some (.int x3), some (.int x4), some (.int x5), some (.int x6), none], [.ref 0], h)) rfl ?_
      refine gw_gf (hk _ _ rfl) (RL_fR (n := 41) hR rfl) ?_
      refine gw_pst hk 3 (st' := (44, [some (.ref 0), some (.int x1), some (.int x2), some (.int x3), some (.int x4), some (.int x5), some (.int x6), none], [.int x6, .int x2, .int x1, .ref 41], h)) rfl ?_
      obtain ⟨fs4, e4⟩ := RL_o hR (r := 41) (ci := 3) rfl
      refine gw_call (jj := 35) (As := [.ref 41, .int x1, .int x2, .int x6]) (rest := []) (hk _ _ rfl) (fun _ => rfl) rfl rfl (Nat.le_of_ble_eq_true rfl) (gm_rcv_v rfl e4 rfl) ?_
      refine ge_imp (w h hR) (fun v4 h w => ?_)
      obtain ⟨s_4, hR, x_4, rfl, w⟩ := w
      show gw (gt_T c.1 c.2.1 c.2.2.1) c.2.2.2 d 130 (47, [some (.ref 0), some (.int x1), some (.int x2), some (.int x3), some (.int x4), some (.int x5), some (.int x6), none], [.int x_4], h) _
      refine gw_pst hk 2 (st' := (51, [some (.ref 0), some (.int x1), some (.int x2), some (.int x3), some (.int x4), some (.int x5), some (.int x6), some (.int x_4)], [.int x_4], h)) rfl ?_
      refine gw_br (c := x_4 = 0) (a := (60, [some (.ref 0), some (.int x1), some (.int x2), some (.int x3), some (.int x4), some (.int x5), some (.int x6), some (.int x_4)], [], h)) (b := (54, [some (.ref 0), some (.int x1), some (.int x2), some (.int x3), some (.int x4), some (.int x5), some (.int x6), some (.int x_4)], [], h)) (hk _ _ rfl) rfl ⟨fun z5 => ?_, fun z5 => ?_⟩
      · replace w := w.1 z5
        exact ok130_60 c d Post K26 hK26 _ _ _ _ _ _ _ _ w _ hR
      · replace w := w.2 z5
        refine gw_pst hk 2 (st' := (57, [some (.ref 0), some (.int x1), some (.int x2), some (.int x3), some (.int x4), some (.int x5), some (.int x6), some (.int x_4)], [.int x3, .int x_4], h)) rfl ?_
        refine gw_br (c := x_4 = x3) (a := (60, [some (.ref 0), some (.int x1), some (.int x2), some (.int x3), some (.int x4), some (.int x5), some (.int x6), some (.int x_4)], [], h)) (b := (69, [some (.ref 0), some (.int x1), some (.int x2), some (.int x3), some (.int x4), some (.int x5), some (.int x6), some (.int x_4)], [], h)) (hk _ _ rfl) rfl ⟨fun z6 => ?_, fun z6 => ?_⟩
        · replace w := w.1 z6
          exact ok130_60 c d Post K26 hK26 _ _ _ _ _ _ _ _ w _ hR
        · replace w := w.2 z6
          exact ok130_69 c d Post K26 hK26 _ _ _ _ _ _ _ _ w _ hR
def wl130_26 (c : gx) (d : Nat) (Post : Option Value → gs → Prop) : Nat → Int32 → Int32 → Int32 → Int32 → Int32 → Int32 → gs → Prop
  | 0 => fun _ _ _ _ _ _ _ => False
  | n + 1 => wb130_26 c d Post (wl130_26 c d Post n)
theorem okl130_26 (c : gx) (d : Nat) (Post : Option Value → gs → Prop) : ∀ (n : Nat) (x1 : Int32) (x2 : Int32) (x3 : Int32) (x4 : Int32) (x5 : Int32) (x6 : Int32) (s : gs), wl130_26 c d Post n x1 x2 x3 x4 x5 x6 s → tV c d 130 26 [some (.ref 0), some (.int x1), some (.int x2), some (.int x3), some (.int x4), some (.int x5), some (.int x6), none] [] s Post
  | 0, _, _, _, _, _, _, _, w => w.elim
  | n + 1, x1, x2, x3, x4, x5, x6, s, w => okb130_26 c d Post (wl130_26 c d Post n) (okl130_26 c d Post n) x1 x2 x3 x4 x5 x6 s w
/-- CommandByTurns.sure(II)I -/
def wm130 (c : gx) (d : Nat) (Post : Option Value → gs → Prop) (x1 : Int32) (x2 : Int32) (s : gs) : Prop :=
  tE c d 132 [.int x1, .int x2] s (fun v1 s_1 => ∃ x_1 : Int32, v1 = some (.int x_1) ∧ ((x_1 = 0 → Post (some (.int (-1))) s_1) ∧ (¬ (x_1 = 0) → tE c d 133 [.ref 0, .int x1, .int x2] s_1 (fun v3 s_3 => ∃ x_3 : Int32, v3 = some (.int x_3) ∧ ∃ n, wl130_26 c d Post n x1 x2 x_3 0 0 0 s_3))))
theorem okm130 (c : gx) (d : Nat) (Post : Option Value → gs → Prop) (x1 : Int32) (x2 : Int32) (s : gs) (w : wm130 c d Post x1 x2 s) : tE c (d + 1) 130 [.ref 0, .int x1, .int x2] s Post := by
  intro h hR
  have hk : ∀ pc i, gm_find gk_130 pc = some i → gm_code (gt_T c.1 c.2.1 c.2.2.1) 130 pc = some i := fun _ _ z => z
  unfold wm130 at w
  refine ge_of (by decide) (Nat.le_of_ble_eq_true rfl) ?_
  show gw (gt_T c.1 c.2.1 c.2.2.1) c.2.2.2 d 130 (0, [some (.ref 0), some (.int x1), some (.int x2), none, none, none, none, none], [], h) _
  refine gw_pst hk 2 (st' := (2, [some (.ref 0), some (.int x1), some (.int x2), none, none, none, none, none], [.int x2, .int x1], h)) rfl ?_
  refine gw_call (jj := 132) (As := [.int x1, .int x2]) (rest := []) (hk _ _ rfl) (fun _ => rfl) rfl rfl (Nat.le_of_ble_eq_true rfl) rfl ?_
  refine ge_imp (w h hR) (fun v1 h w => ?_)
  obtain ⟨s_1, hR, x_1, rfl, w⟩ := w
  show gw (gt_T c.1 c.2.1 c.2.2.1) c.2.2.2 d 130 (5, [some (.ref 0), some (.int x1), some (.int x2), none, none, none, none, none], [.int x_1], h) _
  refine gw_br (c := x_1 = 0) (a := (8, [some (.ref 0), some (.int x1), some (.int x2), none, none, none, none, none], [], h)) (b := (10, [some (.ref 0), some (.int x1), some (.int x2), none, none, none, none, none], [], h)) (hk _ _ rfl) rfl ⟨fun z2 => ?_, fun z2 => ?_⟩
  · replace w := w.1 z2
    refine gw_pst hk 1 (st' := (9, [some (.ref 0), some (.int x1), some (.int x2), none, none, none, none, none], [.int (-1)], h)) rfl ?_
    exact gw_ret (hk _ _ rfl) rfl ⟨_, hR, w⟩
  · replace w := w.2 z2
    refine gw_pst hk 3 (st' := (13, [some (.ref 0), some (.int x1), some (.int x2), none, none, none, none, none], [.int x2, .int x1, .ref 0], h)) rfl ?_
    obtain ⟨fs3, e3⟩ := RL_o hR (r := 0) (ci := 9) rfl
    refine gw_call (jj := 133) (As := [.ref 0, .int x1, .int x2]) (rest := []) (hk _ _ rfl) (fun _ => rfl) rfl rfl (Nat.le_of_ble_eq_true rfl) (gm_rcv_v rfl e3 rfl) ?_
    refine ge_imp (w h hR) (fun v3 h w => ?_)
    obtain ⟨s_3, hR, x_3, rfl, w⟩ := w
    show gw (gt_T c.1 c.2.1 c.2.2.1) c.2.2.2 d 130 (16, [some (.ref 0), some (.int x1), some (.int x2), none, none, none, none, none], [.int x_3], h) _
    refine gw_pst hk 7 (st' := (26, [some (.ref 0), some (.int x1), some (.int x2), some (.int x_3), some (.int 0), some (.int 0), some (.int 0), none], [], h)) rfl ?_
    obtain ⟨n, w⟩ := w
    exact okl130_26 c d Post n _ _ _ _ _ _ _ w _ hR
