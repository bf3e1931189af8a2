/-! What must hold for a run to end with Post: by program (wip/whole/gen_wp.py). -/
def wb180_47 (c : gx) (d : Nat) (Post : Option Value → gs → Prop) (K47 : Int32 → Int32 → gs → Prop) (x1 : Int32) (x2 : Int32) (s : gs) : Prop :=
  ((x1 ≤ x2 → ∀ s_2 : gs, s_2 = gs_V s 48 22 x1 → Post (some (.int 0)) s_2) ∧ (¬ (x1 ≤ x2) → vp_in x2 80 ∧ vp_in x2 40 ∧ ∀ s_6 : gs, s_6 = gs_A s 61 (x2 : Int32).toNatClampNeg (vp_nar .byte (gsA s 57 (x2 : Int32).toNatClampNeg)) → K47 x1 (x2 + 1) s_6))
theorem okb180_47 (c : gx) (d : Nat) (Post : Option Value → gs → Prop) (K47 : Int32 → Int32 → gs → Prop)  (hK47 : ∀ (x1 : Int32) (x2 : Int32) (s : gs), K47 x1 x2 s → tV c d 180 47 [some (.ref 48), some (.int x1), some (.int x2)] [] s Post) (x1 : Int32) (x2 : Int32) (s : gs) (w : wb180_47 c d Post K47 x1 x2 s) : tV c d 180 47 [some (.ref 48), some (.int x1), some (.int x2)] [] s Post := by
  intro h hR
  have hk : ∀ pc i, gm_find gk_180 pc = some i → gm_code (gt_T c.1 c.2.1 c.2.2.1) 180 pc = some i := fun _ _ z => z
  unfold wb180_47 at w
  unfold gV
  refine gw_pst hk 2 (st' := (49, [some (.ref 48), some (.int x1), some (.int x2)], [.int x1, .int x2], h)) rfl ?_
  refine gw_br (c := x1 ≤ x2) (a := (70, [some (.ref 48), some (.int x1), some (.int x2)], [], h)) (b := (52, [some (.ref 48), some (.int x1), some (.int x2)], [], h)) (hk _ _ rfl) rfl ⟨fun z1 => ?_, fun z1 => ?_⟩
  · replace w := w.1 z1
    refine gw_pst hk 2 (st' := (72, [some (.ref 48), some (.int x1), some (.int x2)], [.int x1, .ref 48], h)) rfl ?_
    obtain ⟨fs2, e2⟩ := RL_o hR (r := 48) (ci := 10) rfl
    obtain ⟨l2, hR2⟩ := RL_pI (k := 22) (x := x1) hR rfl e2
    refine gw_pf (hk _ _ rfl) e2 l2 rfl ?_
    generalize gm_put h _ _ = h at hR2 ⊢
    obtain ⟨s_2, es2⟩ : ∃ z, z = gs_V s 48 22 x1 := ⟨_, rfl⟩
    rw [← es2] at hR2
    replace w := w s_2 es2
    replace hR := hR2
    refine gw_pst hk 1 (st' := (76, [some (.ref 48), some (.int x1), some (.int x2)], [.int 0], h)) rfl ?_
    exact gw_ret (hk _ _ rfl) rfl ⟨_, hR, w⟩
  · replace w := w.2 z1
    refine gw_pst hk 1 (st' := (53, [some (.ref 48), some (.int x1), some (.int x2)], [.ref 48], h)) rfl ?_
    refine gw_gf (hk _ _ rfl) (RL_fR (n := 61) hR rfl) ?_
    refine gw_pst hk 2 (st' := (58, [some (.ref 48), some (.int x1), some (.int x2)], [.ref 48, .int x2, .ref 61], h)) rfl ?_
    refine gw_gf (hk _ _ rfl) (RL_fR (n := 57) hR rfl) ?_
    refine gw_pst hk 1 (st' := (62, [some (.ref 48), some (.int x1), some (.int x2)], [.int x2, .ref 57, .int x2, .ref 61], h)) rfl ?_
    obtain ⟨b5, w⟩ := w
    refine gw_ald (hk _ _ rfl) (Or.inr (Or.inr ⟨rfl, rfl, Or.inl rfl⟩)) (RL_a (t := 3) (n := 80) hR rfl (by decide)) b5 ?_
    obtain ⟨b6, w⟩ := w
    have hR6 := RL_pA (a := 61) (t := 3) (n := 40) (k := (x2 : Int32).toNatClampNeg) (x := (vp_nar .byte (gsA s 57 (x2 : Int32).toNatClampNeg))) hR rfl (by decide)
    refine gw_ast (hk _ _ rfl) (Or.inr (Or.inr (Or.inl ⟨rfl, rfl, rfl, rfl⟩))) (RL_a (t := 3) (n := 40) hR rfl (by decide)) b6 ?_
    generalize gm_put h _ _ = h at hR6 ⊢
    obtain ⟨s_6, es6⟩ : ∃ z, z = gs_A s 61 (x2 : Int32).toNatClampNeg (vp_nar .byte (gsA s 57 (x2 : Int32).toNatClampNeg)) := ⟨_, rfl⟩
    rw [← es6] at hR6
    replace w := w s_6 es6
    replace hR := hR6
    refine gw_pst hk 2 (st' := (47, [some (.ref 48), some (.int x1), some (.int (x2 + 1))], [], h)) rfl ?_
    exact hK47 _ _ _ w _ hR
def wl180_47 (c : gx) (d : Nat) (Post : Option Value → gs → Prop) : Nat → Int32 → Int32 → gs → Prop
  | 0 => fun _ _ _ => False
  | n + 1 => wb180_47 c d Post (wl180_47 c d Post n)
theorem okl180_47 (c : gx) (d : Nat) (Post : Option Value → gs → Prop) : ∀ (n : Nat) (x1 : Int32) (x2 : Int32) (s : gs), wl180_47 c d Post n x1 x2 s → tV c d 180 47 [some (.ref 48), some (.int x1), some (.int x2)] [] s Post
  | 0, _, _, _, w => w.elim
  | n + 1, x1, x2, s, w => okb180_47 c d Post (wl180_47 c d Post n) (okl180_47 c d Post n) x1 x2 s w
def w180_31 (c : gx) (d : Nat) (Post : Option Value → gs → Prop) (x1 : Int32) (s : gs) : Prop :=
  tE c d 171 [.ref 48] s (fun v1 s_1 => ∃ x_1 : Int32, v1 = some (.int x_1) ∧ ((x_1 = 0 → Post (some (.int ((-1) - (gsV s_1 48 18)))) s_1) ∧ (¬ (x_1 = 0) → ∃ n, wl180_47 c d Post n x1 0 s_1)))
theorem ok180_31 (c : gx) (d : Nat) (Post : Option Value → gs → Prop)  (x1 : Int32) (s : gs) (w : w180_31 c d Post x1 s) : tV c d 180 31 [some (.ref 48), some (.int x1), none] [] s Post := by
  intro h hR
  have hk : ∀ pc i, gm_find gk_180 pc = some i → gm_code (gt_T c.1 c.2.1 c.2.2.1) 180 pc = some i := fun _ _ z => z
  unfold w180_31 at w
  unfold gV
  refine gw_pst hk 1 (st' := (32, [some (.ref 48), some (.int x1), none], [.ref 48], h)) rfl ?_
  obtain ⟨fs1, e1⟩ := RL_o hR (r := 48) (ci := 10) rfl
  refine gw_call (jj := 171) (As := [.ref 48]) (rest := []) (hk _ _ rfl) (fun _ => rfl) rfl rfl (Nat.le_of_ble_eq_true rfl) (gm_rcv_v rfl e1 rfl) ?_
  refine ge_imp (w h hR) (fun v1 h w => ?_)
  obtain ⟨s_1, hR, x_1, rfl, w⟩ := w
  show gw (gt_T c.1 c.2.1 c.2.2.1) c.2.2.2 d 180 (35, [some (.ref 48), some (.int x1), none], [.int x_1], h) _
  refine gw_br (c := x_1 = 0) (a := (38, [some (.ref 48), some (.int x1), none], [], h)) (b := (45, [some (.ref 48), some (.int x1), none], [], h)) (hk _ _ rfl) rfl ⟨fun z2 => ?_, fun z2 => ?_⟩
  · replace w := w.1 z2
    refine gw_pst hk 2 (st' := (40, [some (.ref 48), some (.int x1), none], [.ref 48, .int (-1)], h)) rfl ?_
    refine gw_gf (hk _ _ rfl) (RL_fI hR rfl) ?_
    refine gw_pst hk 1 (st' := (44, [some (.ref 48), some (.int x1), none], [.int ((-1) - (gsV s_1 48 18))], h)) rfl ?_
    exact gw_ret (hk _ _ rfl) rfl ⟨_, hR, w⟩
  · replace w := w.2 z2
    refine gw_pst hk 2 (st' := (47, [some (.ref 48), some (.int x1), some (.int 0)], [], h)) rfl ?_
    obtain ⟨n, w⟩ := w
    exact okl180_47 c d Post n _ _ _ w _ hR
/-- CommandByTurnsModel.rule()I -/
def wm180 (c : gx) (d : Nat) (Post : Option Value → gs → Prop)  (s : gs) : Prop :=
  ∀ s_1 : gs, s_1 = gs_V s 48 13 0 → tE c d 163 [.ref 48, .int 40] s_1 (fun v3 s_3 => v3 = none ∧ ∀ s_4 : gs, s_4 = gs_V s_3 48 23 0 → (((gsV s_1 48 10) ≤ 0 → w180_31 c d Post (gsV s_1 48 10) s_4) ∧ (¬ ((gsV s_1 48 10) ≤ 0) → tE c d 175 [.ref 48, .int 0] s_4 (fun v6 s_6 => ∃ x_6 : Int32, v6 = some (.int x_6) ∧ w180_31 c d Post (gsV s_1 48 10) s_6))))
theorem okm180 (c : gx) (d : Nat) (Post : Option Value → gs → Prop)  (s : gs) (w : wm180 c d Post  s) : tE c (d + 1) 180 [.ref 48] s Post := by
  intro h hR
  have hk : ∀ pc i, gm_find gk_180 pc = some i → gm_code (gt_T c.1 c.2.1 c.2.2.1) 180 pc = some i := fun _ _ z => z
  unfold wm180 at w
  refine ge_of (by decide) (Nat.le_of_ble_eq_true rfl) ?_
  show gw (gt_T c.1 c.2.1 c.2.2.1) c.2.2.2 d 180 (0, [some (.ref 48), none, none], [], h) _
  refine gw_pst hk 2 (st' := (2, [some (.ref 48), none, none], [.int 0, .ref 48], h)) rfl ?_
  obtain ⟨fs1, e1⟩ := RL_o hR (r := 48) (ci := 10) rfl
  obtain ⟨l1, hR1⟩ := RL_pI (k := 13) (x := 0) hR rfl e1
  refine gw_pf (hk _ _ rfl) e1 l1 rfl ?_
  generalize gm_put h _ _ = h at hR1 ⊢
  obtain ⟨s_1, es1⟩ : ∃ z, z = gs_V s 48 13 0 := ⟨_, rfl⟩
  rw [← es1] at hR1
  replace w := w s_1 es1
  replace hR := hR1
  refine gw_pst hk 1 (st' := (6, [some (.ref 48), none, none], [.ref 48], h)) rfl ?_
  refine gw_gf (hk _ _ rfl) (RL_fI hR rfl) ?_
  refine gw_pst hk 3 (st' := (13, [some (.ref 48), some (.int (gsV s_1 48 10)), none], [.int 40, .ref 48], h)) rfl ?_
  obtain ⟨fs3, e3⟩ := RL_o hR (r := 48) (ci := 10) rfl
  refine gw_call (jj := 163) (As := [.ref 48, .int 40]) (rest := []) (hk _ _ rfl) (fun _ => rfl) rfl rfl (Nat.le_of_ble_eq_true rfl) (gm_rcv_v rfl e3 rfl) ?_
  refine ge_imp (w h hR) (fun v3 h w => ?_)
  obtain ⟨s_3, hR, rfl, w⟩ := w
  show gw (gt_T c.1 c.2.1 c.2.2.1) c.2.2.2 d 180 (16, [some (.ref 48), some (.int (gsV s_1 48 10)), none], [], h) _
  refine gw_pst hk 2 (st' := (18, [some (.ref 48), some (.int (gsV s_1 48 10)), none], [.int 0, .ref 48], h)) rfl ?_
  obtain ⟨fs4, e4⟩ := RL_o hR (r := 48) (ci := 10) rfl
  obtain ⟨l4, hR4⟩ := RL_pI (k := 23) (x := 0) hR rfl e4
  refine gw_pf (hk _ _ rfl) e4 l4 rfl ?_
  generalize gm_put h _ _ = h at hR4 ⊢
  obtain ⟨s_4, es4⟩ : ∃ z, z = gs_V s_3 48 23 0 := ⟨_, rfl⟩
  rw [← es4] at hR4
  replace w := w s_4 es4
  replace hR := hR4
  refine gw_pst hk 1 (st' := (22, [some (.ref 48), some (.int (gsV s_1 48 10)), none], [.int (gsV s_1 48 10)], h)) rfl ?_
  refine gw_br (c := (gsV s_1 48 10) ≤ 0) (a := (31, [some (.ref 48), some (.int (gsV s_1 48 10)), none], [], h)) (b := (25, [some (.ref 48), some (.int (gsV s_1 48 10)), none], [], h)) (hk _ _ rfl) rfl ⟨fun z5 => ?_, fun z5 => ?_⟩
  · replace w := w.1 z5
    exact ok180_31 c d Post _ _ w _ hR
  · replace w := w.2 z5
    refine gw_pst hk 2 (st' := (27, [some (.ref 48), some (.int (gsV s_1 48 10)), none], [.int 0, .ref 48], h)) rfl ?_
    obtain ⟨fs6, e6⟩ := RL_o hR (r := 48) (ci := 10) rfl
    refine gw_call (jj := 175) (As := [.ref 48, .int 0]) (rest := []) (hk _ _ rfl) (fun _ => rfl) rfl rfl (Nat.le_of_ble_eq_true rfl) (gm_rcv_v rfl e6 rfl) ?_
    refine ge_imp (w h hR) (fun v6 h w => ?_)
    obtain ⟨s_6, hR, x_6, rfl, w⟩ := w
    show gw (gt_T c.1 c.2.1 c.2.2.1) c.2.2.2 d 180 (30, [some (.ref 48), some (.int (gsV s_1 48 10)), none], [.int x_6], h) _
    refine gw_pst hk 1 (st' := (31, [some (.ref 48), some (.int (gsV s_1 48 10)), none], [], h)) rfl ?_
    exact ok180_31 c d Post _ _ w _ hR
def w181_151 (c : gx) (d : Nat) (Post : Option Value → gs → Prop) (x8 : Int32) (s : gs) : Prop :=
  Post (some (.int (if (-500) < (if x8 < 500 then x8 else 500) then (if x8 < 500 then x8 else 500) else (-500)))) s
theorem ok181_151 (c : gx) (d : Nat) (Post : Option Value → gs → Prop)  (x8 : Int32) (s : gs) (w : w181_151 c d Post x8 s) : tV c d 181 151 [none, none, none, none, none, none, none, none, some (.int x8)] [] s Post := by
  intro h hR
  have hk : ∀ pc i, gm_find gk_181 pc = some i → gm_code (gt_T c.1 c.2.1 c.2.2.1) 181 pc = some i := fun _ _ z => z
  unfold w181_151 at w
  unfold gV
  refine gw_pst hk 5 (st' := (165, [none, none, none, none, none, none, none, none, some (.int x8)], [.int (if (-500) < (if x8 < 500 then x8 else 500) then (if x8 < 500 then x8 else 500) else (-500))], h)) rfl ?_
  exact gw_ret (hk _ _ rfl) rfl ⟨_, hR, w⟩
/-- CommandByTurnsModel.issueBy(IIIIIII)I -/
def wm181 (c : gx) (d : Nat) (Post : Option Value → gs → Prop) (x1 : Int32) (x2 : Int32) (x3 : Int32) (x4 : Int32) (x5 : Int32) (x6 : Int32) (x7 : Int32) (s : gs) : Prop :=
  vp_in x1 2 ∧ (((gsV s 48 22) ≤ 0 → w181_151 c d Post (((((gsA s 52 (x1 : Int32).toNatClampNeg) + 1) * 3) + (x2 * 4)) + (((x3 / 10) - (x4 / 10)) / 2)) s) ∧ (¬ ((gsV s 48 22) ≤ 0) → vp_in x1 2 ∧ vp_in 0 8 ∧ ∀ s_8 : gs, s_8 = gs_A s 62 (0 : Int32).toNatClampNeg (vp_nar .int (gsA s 52 (x1 : Int32).toNatClampNeg)) → vp_in x1 2 ∧ vp_in 1 8 ∧ ∀ s_12 : gs, s_12 = gs_A s_8 62 (1 : Int32).toNatClampNeg (vp_nar .int (gsA s_8 53 (x1 : Int32).toNatClampNeg)) → vp_in 2 8 ∧ ∀ s_14 : gs, s_14 = gs_A s_12 62 (2 : Int32).toNatClampNeg (vp_nar .int x2) → vp_in 3 8 ∧ ∀ s_16 : gs, s_16 = gs_A s_14 62 (3 : Int32).toNatClampNeg (vp_nar .int (x3 / 10)) → vp_in 4 8 ∧ ∀ s_18 : gs, s_18 = gs_A s_16 62 (4 : Int32).toNatClampNeg (vp_nar .int (x4 / 10)) → vp_in 5 8 ∧ ∀ s_20 : gs, s_20 = gs_A s_18 62 (5 : Int32).toNatClampNeg (vp_nar .int (x5 / 10)) → vp_in 6 8 ∧ ∀ s_22 : gs, s_22 = gs_A s_20 62 (6 : Int32).toNatClampNeg (vp_nar .int (x6 - x6 / 10 * 10)) → vp_in 7 8 ∧ ∀ s_24 : gs, s_24 = gs_A s_22 62 (7 : Int32).toNatClampNeg (vp_nar .int x7) → tE c d 162 [.ref 48, .ref 61, .int (gsV s_24 48 22), .int 40] s_24 (fun v27 s_27 => v27 = none ∧ ∀ s_28 : gs, s_28 = gs_V s_27 48 23 1 → tE c d 175 [.ref 48, .int 0] s_28 (fun v29 s_29 => ∃ x_29 : Int32, v29 = some (.int x_29) ∧ ∀ s_30 : gs, s_30 = gs_V s_29 48 23 0 → w181_151 c d Post x_29 s_30))))
theorem okm181 (c : gx) (d : Nat) (Post : Option Value → gs → Prop) (x1 : Int32) (x2 : Int32) (x3 : Int32) (x4 : Int32) (x5 : Int32) (x6 : Int32) (x7 : Int32) (s : gs) (w : wm181 c d Post x1 x2 x3 x4 x5 x6 x7 s) : tE c (d + 1) 181 [.ref 48, .int x1, .int x2, .int x3, .int x4, .int x5, .int x6, .int x7] s Post := by
  intro h hR
  have hk : ∀ pc i, gm_find gk_181 pc = some i → gm_code (gt_T c.1 c.2.1 c.2.2.1) 181 pc = some i := fun _ _ z => z
  unfold wm181 at w
  refine ge_of (by decide) (Nat.le_of_ble_eq_true rfl) ?_
  show gw (gt_T c.1 c.2.1 c.2.2.1) c.2.2.2 d 181 (0, [some (.ref 48), some (.int x1), some (.int x2), some (.int x3), some (.int x4), some (.int x5), some (.int x6), some (.int x7), none], [], h) _
  refine gw_pst hk 1 (st' := (1, [some (.ref 48), some (.int x1), some (.int x2), some (.int x3), some (.int x4), some (.int x5), some (.int x6), some (.int x7), none], [.ref 48], h)) rfl ?_
  refine gw_gf (hk _ _ rfl) (RL_fR (n := 52) hR rfl) ?_
  refine gw_pst hk 1 (st' := (5, [some (.ref 48), some (.int x1), some (.int x2), some (.int x3), some (.int x4), some (.int x5), some (.int x6), some (.int x7), none], [.int x1, .ref 52], h)) rfl ?_
  obtain ⟨b2, w⟩ := w
  refine gw_ald (hk _ _ rfl) (Or.inl ⟨rfl, rfl⟩) (RL_a (t := 0) (n := 2) hR rfl (by decide)) b2 ?_
  refine gw_pst hk 10 (st' := (17, [some (.ref 48), some (.int x1), some (.int x2), some (.int x3), some (.int x4), some (.int x5), some (.int x6), some (.int x7), none], [.int 10, .int x3, .int ((((gsA s 52 (x1 : Int32).toNatClampNeg) + 1) * 3) + (x2 * 4))], h)) rfl ?_
  refine gw_idiv (hk _ _ rfl) (by decide) ?_ rfl
  refine gw_pst hk 2 (st' := (22, [some (.ref 48), some (.int x1), some (.int x2), some (.int x3), some (.int x4), some (.int x5), some (.int x6), some (.int x7), none], [.int 10, .int x4, .int (x3 / 10), .int ((((gsA s 52 (x1 : Int32).toNatClampNeg) + 1) * 3) + (x2 * 4))], h)) rfl ?_
  refine gw_idiv (hk _ _ rfl) (by decide) ?_ rfl
  refine gw_pst hk 2 (st' := (25, [some (.ref 48), some (.int x1), some (.int x2), some (.int x3), some (.int x4), some (.int x5), some (.int x6), some (.int x7), none], [.int 2, .int ((x3 / 10) - (x4 / 10)), .int ((((gsA s 52 (x1 : Int32).toNatClampNeg) + 1) * 3) + (x2 * 4))], h)) rfl ?_
  refine gw_idiv (hk _ _ rfl) (by decide) ?_ rfl
  refine gw_pst hk 3 (st' := (30, [some (.ref 48), some (.int x1), some (.int x2), some (.int x3), some (.int x4), some (.int x5), some (.int x6), some (.int x7), some (.int (((((gsA s 52 (x1 : Int32).toNatClampNeg) + 1) * 3) + (x2 * 4)) + (((x3 / 10) - (x4 / 10)) / 2)))], [.ref 48], h)) rfl ?_
  refine gw_gf (hk _ _ rfl) (RL_fI hR rfl) ?_
  refine gw_br (c := (gsV s 48 22) ≤ 0) (a := (151, [some (.ref 48), some (.int x1), some (.int x2), some (.int x3), some (.int x4), some (.int x5), some (.int x6), some (.int x7), some (.int (((((gsA s 52 (x1 : Int32).toNatClampNeg) + 1) * 3) + (x2 * 4)) + (((x3 / 10) - (x4 / 10)) / 2)))], [], h)) (b := (36, [some (.ref 48), some (.int x1), some (.int x2), some (.int x3), some (.int x4), some (.int x5), some (.int x6), some (.int x7), some (.int (((((gsA s 52 (x1 : Int32).toNatClampNeg) + 1) * 3) + (x2 * 4)) + (((x3 / 10) - (x4 / 10)) / 2)))], [], h)) (hk _ _ rfl) rfl ⟨fun z4 => ?_, fun z4 => ?_⟩
  · replace w := w.1 z4
    refine gw_le (L' := [none, none, none, none, none, none, none, none, some (.int (((((gsA s 52 (x1 : Int32).toNatClampNeg) + 1) * 3) + (x2 * 4)) + (((x3 / 10) - (x4 / 10)) / 2)))]) (gm_le_n _ (gm_le_n _ (gm_le_n _ (gm_le_n _ (gm_le_n _ (gm_le_n _ (gm_le_n _ (gm_le_n _ (gm_le_k _ gm_le_nil))))))))) ?_
    exact ok181_151 c d Post _ _ w _ hR
  · replace w := w.2 z4
    refine gw_pst hk 1 (st' := (37, [some (.ref 48), some (.int x1), some (.int x2), some (.int x3), some (.int x4), some (.int x5), some (.int x6), some (.int x7), some (.int (((((gsA s 52 (x1 : Int32).toNatClampNeg) + 1) * 3) + (x2 * 4)) + (((x3 / 10) - (x4 / 10)) / 2)))], [.ref 48], h)) rfl ?_
    refine gw_gf (hk _ _ rfl) (RL_fR (n := 62) hR rfl) ?_
    refine gw_pst hk 2 (st' := (42, [some (.ref 48), some (.int x1), some (.int x2), some (.int x3), some (.int x4), some (.int x5), some (.int x6), some (.int x7), some (.int (((((gsA s 52 (x1 : Int32).toNatClampNeg) + 1) * 3) + (x2 * 4)) + (((x3 / 10) - (x4 / 10)) / 2)))], [.ref 48, .int 0, .ref 62], h)) rfl ?_
    refine gw_gf (hk _ _ rfl) (RL_fR (n := 52) hR rfl) ?_
    refine gw_pst hk 1 (st' := (46, [some (.ref 48), some (.int x1), some (.int x2), some (.int x3), some (.int x4), some (.int x5), some (.int x6), some (.int x7), some (.int (((((gsA s 52 (x1 : Int32).toNatClampNeg) + 1) * 3) + (x2 * 4)) + (((x3 / 10) - (x4 / 10)) / 2)))], [.int x1, .ref 52, .int 0, .ref 62], h)) rfl ?_
    obtain ⟨b7, w⟩ := w
    refine gw_ald (hk _ _ rfl) (Or.inl ⟨rfl, rfl⟩) (RL_a (t := 0) (n := 2) hR rfl (by decide)) b7 ?_
    obtain ⟨b8, w⟩ := w
    have hR8 := RL_pA (a := 62) (t := 0) (n := 8) (k := (0 : Int32).toNatClampNeg) (x := (vp_nar .int (gsA s 52 (x1 : Int32).toNatClampNeg))) hR rfl (by decide)
    refine gw_ast (hk _ _ rfl) (Or.inl ⟨rfl, rfl, rfl⟩) (RL_a (t := 0) (n := 8) hR rfl (by decide)) b8 ?_
    generalize gm_put h _ _ = h at hR8 ⊢
    obtain ⟨s_8, es8⟩ : ∃ z, z = gs_A s 62 (0 : Int32).toNatClampNeg (vp_nar .int (gsA s 52 (x1 : Int32).toNatClampNeg)) := ⟨_, rfl⟩
    rw [← es8] at hR8
    replace w := w s_8 es8
    replace hR := hR8
    refine gw_pst hk 1 (st' := (49, [some (.ref 48), some (.int x1), some (.int x2), some (.int x3), some (.int x4), some (.int x5), some (.int x6), some (.int x7), some (.int (((((gsA s 52 (x1 : Int32).toNatClampNeg) + 1) * 3) + (x2 * 4)) + (((x3 / 10) - (x4 / 10)) / 2)))], [.ref 48], h)) rfl ?_
    refine gw_gf (hk _ _ rfl) (RL_fR (n := 62) hR rfl) ?_
    refine gw_pst hk 2 (st' := (54, [some (.ref 48), some (.int x1), some (.int x2), some (.int x3), some (.int x4), some (.int x5), some (.int x6), some (.int x7), some (.int (((((gsA s 52 (x1 : Int32).toNatClampNeg) + 1) * 3) + (x2 * 4)) + (((x3 / 10) - (x4 / 10)) / 2)))], [.ref 48, .int 1, .ref 62], h)) rfl ?_
    refine gw_gf (hk _ _ rfl) (RL_fR (n := 53) hR rfl) ?_
    refine gw_pst hk 1 (st' := (58, [some (.ref 48), some (.int x1), some (.int x2), some (.int x3), some (.int x4), some (.int x5), some (.int x6), some (.int x7), some (.int (((((gsA s 52 (x1 : Int32).toNatClampNeg) + 1) * 3) + (x2 * 4)) + (((x3 / 10) - (x4 / 10)) / 2)))], [.int x1, .ref 53, .int 1, .ref 62], h)) rfl ?_
    obtain ⟨b11, w⟩ := w
    refine gw_ald (hk _ _ rfl) (Or.inl ⟨rfl, rfl⟩) (RL_a (t := 0) (n := 2) hR rfl (by decide)) b11 ?_
    obtain ⟨b12, w⟩ := w
    have hR12 := RL_pA (a := 62) (t := 0) (n := 8) (k := (1 : Int32).toNatClampNeg) (x := (vp_nar .int (gsA s_8 53 (x1 : Int32).toNatClampNeg))) hR rfl (by decide)
    refine gw_ast (hk _ _ rfl) (Or.inl ⟨rfl, rfl, rfl⟩) (RL_a (t := 0) (n := 8) hR rfl (by decide)) b12 ?_
    generalize gm_put h _ _ = h at hR12 ⊢
    obtain ⟨s_12, es12⟩ : ∃ z, z = gs_A s_8 62 (1 : Int32).toNatClampNeg (vp_nar .int (gsA s_8 53 (x1 : Int32).toNatClampNeg)) := ⟨_, rfl⟩
    rw [← es12] at hR12
    replace w := w s_12 es12
    replace hR := hR12
    refine gw_pst hk 1 (st' := (61, [some (.ref 48), some (.int x1), some (.int x2), some (.int x3), some (.int x4), some (.int x5), some (.int x6), some (.int x7), some (.int (((((gsA s 52 (x1 : Int32).toNatClampNeg) + 1) * 3) + (x2 * 4)) + (((x3 / 10) - (x4 / 10)) / 2)))], [.ref 48], h)) rfl ?_
    refine gw_gf (hk _ _ rfl) (RL_fR (n := 62) hR rfl) ?_
    refine gw_pst hk 2 (st' := (66, [some (.ref 48), some (.int x1), some (.int x2), some (.int x3), some (.int x4), some (.int x5), some (.int x6), some (.int x7), some (.int (((((gsA s 52 (x1 : Int32).toNatClampNeg) + 1) * 3) + (x2 * 4)) + (((x3 / 10) - (x4 / 10)) / 2)))], [.int x2, .int 2, .ref 62], h)) rfl ?_
    obtain ⟨b14, w⟩ := w
    have hR14 := RL_pA (a := 62) (t := 0) (n := 8) (k := (2 : Int32).toNatClampNeg) (x := (vp_nar .int x2)) hR rfl (by decide)
    refine gw_ast (hk _ _ rfl) (Or.inl ⟨rfl, rfl, rfl⟩) (RL_a (t := 0) (n := 8) hR rfl (by decide)) b14 ?_
    generalize gm_put h _ _ = h at hR14 ⊢
    obtain ⟨s_14, es14⟩ : ∃ z, z = gs_A s_12 62 (2 : Int32).toNatClampNeg (vp_nar .int x2) := ⟨_, rfl⟩
    rw [← es14] at hR14
    replace w := w s_14 es14
    replace hR := hR14
    refine gw_pst hk 1 (st' := (68, [some (.ref 48), some (.int x1), some (.int x2), some (.int x3), some (.int x4), some (.int x5), some (.int x6), some (.int x7), some (.int (((((gsA s 52 (x1 : Int32).toNatClampNeg) + 1) * 3) + (x2 * 4)) + (((x3 / 10) - (x4 / 10)) / 2)))], [.ref 48], h)) rfl ?_
    refine gw_gf (hk _ _ rfl) (RL_fR (n := 62) hR rfl) ?_
    refine gw_pst hk 3 (st' := (75, [some (.ref 48), some (.int x1), some (.int x2), some (.int x3), some (.int x4), some (.int x5), some (.int x6), some (.int x7), some (.int (((((gsA s 52 (x1 : Int32).toNatClampNeg) + 1) * 3) + (x2 * 4)) + (((x3 / 10) - (x4 / 10)) / 2)))], [.int 10, .int x3, .int 3, .ref 62], h)) rfl ?_
    refine gw_idiv (hk _ _ rfl) (by decide) ?_ rfl
    obtain ⟨b16, w⟩ := w
    have hR16 := RL_pA (a := 62) (t := 0) (n := 8) (k := (3 : Int32).toNatClampNeg) (x := (vp_nar .int (x3 / 10))) hR rfl (by decide)
    refine gw_ast (hk _ _ rfl) (Or.inl ⟨rfl, rfl, rfl⟩) (RL_a (t := 0) (n := 8) hR rfl (by decide)) b16 ?_
    generalize gm_put h _ _ = h at hR16 ⊢
    obtain ⟨s_16, es16⟩ : ∃ z, z = gs_A s_14 62 (3 : Int32).toNatClampNeg (vp_nar .int (x3 / 10)) := ⟨_, rfl⟩
    rw [← es16] at hR16
    replace w := w s_16 es16
    replace hR := hR16
    refine gw_pst hk 1 (st' := (78, [some (.ref 48), some (.int x1), some (.int x2), some (.int x3), some (.int x4), some (.int x5), some (.int x6), some (.int x7), some (.int (((((gsA s 52 (x1 : Int32).toNatClampNeg) + 1) * 3) + (x2 * 4)) + (((x3 / 10) - (x4 / 10)) / 2)))], [.ref 48], h)) rfl ?_
    refine gw_gf (hk _ _ rfl) (RL_fR (n := 62) hR rfl) ?_
    refine gw_pst hk 3 (st' := (86, [some (.ref 48), some (.int x1), some (.int x2), some (.int x3), some (.int x4), some (.int x5), some (.int x6), some (.int x7), some (.int (((((gsA s 52 (x1 : Int32).toNatClampNeg) + 1) * 3) + (x2 * 4)) + (((x3 / 10) - (x4 / 10)) / 2)))], [.int 10, .int x4, .int 4, .ref 62], h)) rfl ?_
    refine gw_idiv (hk _ _ rfl) (by decide) ?_ rfl
    obtain ⟨b18, w⟩ := w
    have hR18 := RL_pA (a := 62) (t := 0) (n := 8) (k := (4 : Int32).toNatClampNeg) (x := (vp_nar .int (x4 / 10))) hR rfl (by decide)
    refine gw_ast (hk _ _ rfl) (Or.inl ⟨rfl, rfl, rfl⟩) (RL_a (t := 0) (n := 8) hR rfl (by decide)) b18 ?_
    generalize gm_put h _ _ = h at hR18 ⊢
    obtain ⟨s_18, es18⟩ : ∃ z, z = gs_A s_16 62 (4 : Int32).toNatClampNeg (vp_nar .int (x4 / 10)) := ⟨_, rfl⟩
    rw [← es18] at hR18
    replace w := w s_18 es18
    replace hR := hR18
    refine gw_pst hk 1 (st' := (89, [some (.ref 48), some (.int x1), some (.int x2), some (.int x3), some (.int x4), some (.int x5), some (.int x6), some (.int x7), some (.int (((((gsA s 52 (x1 : Int32).toNatClampNeg) + 1) * 3) + (x2 * 4)) + (((x3 / 10) - (x4 / 10)) / 2)))], [.ref 48], h)) rfl ?_
    refine gw_gf (hk _ _ rfl) (RL_fR (n := 62) hR rfl) ?_
    refine gw_pst hk 3 (st' := (97, [some (.ref 48), some (.int x1), some (.int x2), some (.int x3), some (.int x4), some (.int x5), some (.int x6), some (.int x7), some (.int (((((gsA s 52 (x1 : Int32).toNatClampNeg) + 1) * 3) + (x2 * 4)) + (((x3 / 10) - (x4 / 10)) / 2)))], [.int 10, .int x5, .int 5, .ref 62], h)) rfl ?_
    refine gw_idiv (hk _ _ rfl) (by decide) ?_ rfl
    obtain ⟨b20, w⟩ := w
    have hR20 := RL_pA (a := 62) (t := 0) (n := 8) (k := (5 : Int32).toNatClampNeg) (x := (vp_nar .int (x5 / 10))) hR rfl (by decide)
    refine gw_ast (hk _ _ rfl) (Or.inl ⟨rfl, rfl, rfl⟩) (RL_a (t := 0) (n := 8) hR rfl (by decide)) b20 ?_
    generalize gm_put h _ _ = h at hR20 ⊢
    obtain ⟨s_20, es20⟩ : ∃ z, z = gs_A s_18 62 (5 : Int32).toNatClampNeg (vp_nar .int (x5 / 10)) := ⟨_, rfl⟩
    rw [← es20] at hR20
    replace w := w s_20 es20
    replace hR := hR20
    refine gw_pst hk 1 (st' := (100, [some (.ref 48), some (.int x1), some (.int x2), some (.int x3), some (.int x4), some (.int x5), some (.int x6), some (.int x7), some (.int (((((gsA s 52 (x1 : Int32).toNatClampNeg) + 1) * 3) + (x2 * 4)) + (((x3 / 10) - (x4 / 10)) / 2)))], [.ref 48], h)) rfl ?_
    refine gw_gf (hk _ _ rfl) (RL_fR (n := 62) hR rfl) ?_
    refine gw_pst hk 3 (st' := (109, [some (.ref 48), some (.int x1), some (.int x2), some (.int x3), some (.int x4), some (.int x5), some (.int x6), some (.int x7), some (.int (((((gsA s 52 (x1 : Int32).toNatClampNeg) + 1) * 3) + (x2 * 4)) + (((x3 / 10) - (x4 / 10)) / 2)))], [.int 10, .int x6, .int 6, .ref 62], h)) rfl ?_
    refine gw_irem (hk _ _ rfl) (by decide) ?_ rfl
    obtain ⟨b22, w⟩ := w
    have hR22 := RL_pA (a := 62) (t := 0) (n := 8) (k := (6 : Int32).toNatClampNeg) (x := (vp_nar .int (x6 - x6 / 10 * 10))) hR rfl (by decide)
    refine gw_ast (hk _ _ rfl) (Or.inl ⟨rfl, rfl, rfl⟩) (RL_a (t := 0) (n := 8) hR rfl (by decide)) b22 ?_
    generalize gm_put h _ _ = h at hR22 ⊢
    obtain ⟨s_22, es22⟩ : ∃ z, z = gs_A s_20 62 (6 : Int32).toNatClampNeg (vp_nar .int (x6 - x6 / 10 * 10)) := ⟨_, rfl⟩
    rw [← es22] at hR22
    replace w := w s_22 es22
    replace hR := hR22
    refine gw_pst hk 1 (st' := (112, [some (.ref 48), some (.int x1), some (.int x2), some (.int x3), some (.int x4), some (.int x5), some (.int x6), some (.int x7), some (.int (((((gsA s 52 (x1 : Int32).toNatClampNeg) + 1) * 3) + (x2 * 4)) + (((x3 / 10) - (x4 / 10)) / 2)))], [.ref 48], h)) rfl ?_
    refine gw_gf (hk _ _ rfl) (RL_fR (n := 62) hR rfl) ?_
    refine gw_pst hk 2 (st' := (119, [some (.ref 48), some (.int x1), some (.int x2), some (.int x3), some (.int x4), some (.int x5), some (.int x6), some (.int x7), some (.int (((((gsA s 52 (x1 : Int32).toNatClampNeg) + 1) * 3) + (x2 * 4)) + (((x3 / 10) - (x4 / 10)) / 2)))], [.int x7, .int 7, .ref 62], h)) rfl ?_
    obtain ⟨b24, w⟩ := w
    have hR24 := RL_pA (a := 62) (t := 0) (n := 8) (k := (7 : Int32).toNatClampNeg) (x := (vp_nar .int x7)) hR rfl (by decide)
    refine gw_ast (hk _ _ rfl) (Or.inl ⟨rfl, rfl, rfl⟩) (RL_a (t := 0) (n := 8) hR rfl (by decide)) b24 ?_
    generalize gm_put h _ _ = h at hR24 ⊢
    obtain ⟨s_24, es24⟩ : ∃ z, z = gs_A s_22 62 (7 : Int32).toNatClampNeg (vp_nar .int x7) := ⟨_, rfl⟩
    rw [← es24] at hR24
    replace w := w s_24 es24
    replace hR := hR24
    refine gw_pst hk 2 (st' := (122, [some (.ref 48), some (.int x1), some (.int x2), some (.int x3), some (.int x4), some (.int x5), some (.int x6), some (.int x7), some (.int (((((gsA s 52 (x1 : Int32).toNatClampNeg) + 1) * 3) + (x2 * 4)) + (((x3 / 10) - (x4 / 10)) / 2)))], [.ref 48, .ref 48], h)) rfl ?_
    refine gw_gf (hk _ _ rfl) (RL_fR (n := 61) hR rfl) ?_
    refine gw_pst hk 1 (st' := (126, [some (.ref 48), some (.int x1), some (.int x2), some (.int x3), some (.int x4), some (.int x5), some (.int x6), some (.int x7), some (.int (((((gsA s 52 (x1 : Int32).toNatClampNeg) + 1) * 3) + (x2 * 4)) + (((x3 / 10) - (x4 / 10)) / 2)))], [.ref 48, .ref 61, .ref 48], h)) rfl ?_
    refine gw_gf (hk _ _ rfl) (RL_fI hR rfl) ?_
    refine gw_pst hk 1 (st' := (131, [some (.ref 48), some (.int x1), some (.int x2), some (.int x3), some (.int x4), some (.int x5), some (.int x6), some (.int x7), some (.int (((((gsA s 52 (x1 : Int32).toNatClampNeg) + 1) * 3) + (x2 * 4)) + (((x3 / 10) - (x4 / 10)) / 2)))], [.int 40, .int (gsV s_24 48 22), .ref 61, .ref 48], h)) rfl ?_
    obtain ⟨fs27, e27⟩ := RL_o hR (r := 48) (ci := 10) rfl
    refine gw_call (jj := 162) (As := [.ref 48, .ref 61, .int (gsV s_24 48 22), .int 40]) (rest := []) (hk _ _ rfl) (fun _ => rfl) rfl rfl (Nat.le_of_ble_eq_true rfl) (gm_rcv_v rfl e27 rfl) ?_
    refine ge_imp (w h hR) (fun v27 h w => ?_)
    obtain ⟨s_27, hR, rfl, w⟩ := w
    show gw (gt_T c.1 c.2.1 c.2.2.1) c.2.2.2 d 181 (134, [some (.ref 48), some (.int x1), some (.int x2), some (.int x3), some (.int x4), some (.int x5), some (.int x6), some (.int x7), some (.int (((((gsA s 52 (x1 : Int32).toNatClampNeg) + 1) * 3) + (x2 * 4)) + (((x3 / 10) - (x4 / 10)) / 2)))], [], h) _
    refine gw_pst hk 2 (st' := (136, [some (.ref 48), some (.int x1), some (.int x2), some (.int x3), some (.int x4), some (.int x5), some (.int x6), some (.int x7), some (.int (((((gsA s 52 (x1 : Int32).toNatClampNeg) + 1) * 3) + (x2 * 4)) + (((x3 / 10) - (x4 / 10)) / 2)))], [.int 1, .ref 48], h)) rfl ?_
    obtain ⟨fs28, e28⟩ := RL_o hR (r := 48) (ci := 10) rfl
    obtain ⟨l28, hR28⟩ := RL_pI (k := 23) (x := 1) hR rfl e28
    refine gw_pf (hk _ _ rfl) e28 l28 rfl ?_
    generalize gm_put h _ _ = h at hR28 ⊢
    obtain ⟨s_28, es28⟩ : ∃ z, z = gs_V s_27 48 23 1 := ⟨_, rfl⟩
    rw [← es28] at hR28
    replace w := w s_28 es28
    replace hR := hR28
    refine gw_pst hk 2 (st' := (141, [some (.ref 48), some (.int x1), some (.int x2), some (.int x3), some (.int x4), some (.int x5), some (.int x6), some (.int x7), some (.int (((((gsA s 52 (x1 : Int32).toNatClampNeg) + 1) * 3) + (x2 * 4)) + (((x3 / 10) - (x4 / 10)) / 2)))], [.int 0, .ref 48], h)) rfl ?_
    obtain ⟨fs29, e29⟩ := RL_o hR (r := 48) (ci := 10) rfl
    refine gw_call (jj := 175) (As := [.ref 48, .int 0]) (rest := []) (hk _ _ rfl) (fun _ => rfl) rfl rfl (Nat.le_of_ble_eq_true rfl) (gm_rcv_v rfl e29 rfl) ?_
    refine ge_imp (w h hR) (fun v29 h w => ?_)
    obtain ⟨s_29, hR, x_29, rfl, w⟩ := w
    show gw (gt_T c.1 c.2.1 c.2.2.1) c.2.2.2 d 181 (144, [some (.ref 48), some (.int x1), some (.int x2), some (.int x3), some (.int x4), some (.int x5), some (.int x6), some (.int x7), some (.int (((((gsA s 52 (x1 : Int32).toNatClampNeg) + 1) * 3) + (x2 * 4)) + (((x3 / 10) - (x4 / 10)) / 2)))], [.int x_29], h) _
    refine gw_pst hk 3 (st' := (148, [some (.ref 48), some (.int x1), some (.int x2), some (.int x3), some (.int x4), some (.int x5), some (.int x6), some (.int x7), some (.int x_29)], [.int 0, .ref 48], h)) rfl ?_
    obtain ⟨fs30, e30⟩ := RL_o hR (r := 48) (ci := 10) rfl
    obtain ⟨l30, hR30⟩ := RL_pI (k := 23) (x := 0) hR rfl e30
    refine gw_pf (hk _ _ rfl) e30 l30 rfl ?_
    generalize gm_put h _ _ = h at hR30 ⊢
    obtain ⟨s_30, es30⟩ : ∃ z, z = gs_V s_29 48 23 0 := ⟨_, rfl⟩
    rw [← es30] at hR30
    replace w := w s_30 es30
    replace hR := hR30
    refine gw_le (L' := [none, none, none, none, none, none, none, none, some (.int x_29)]) (gm_le_n _ (gm_le_n _ (gm_le_n _ (gm_le_n _ (gm_le_n _ (gm_le_n _ (gm_le_n _ (gm_le_n _ (gm_le_k _ gm_le_nil))))))))) ?_
    exact ok181_151 c d Post _ _ w _ hR
def w182_72 (c : gx) (d : Nat) (Post : Option Value → gs → Prop) (xs1 : Int32) (xs2 : Int32) (xs3 : Int32) (xs4 : Int32) (xs5 : Int32) (xs6 : Int32) (xs7 : Int32) (s : gs) : Prop :=
  tE c d 181 [.ref 48, .int xs1, .int xs2, .int xs3, .int xs4, .int xs5, .int xs6, .int xs7] s (fun v1 s_1 => ∃ x_1 : Int32, v1 = some (.int x_1) ∧ Post (some (.int x_1)) s_1)
theorem ok182_72 (c : gx) (d : Nat) (Post : Option Value → gs → Prop)  (xs1 : Int32) (xs2 : Int32) (xs3 : Int32) (xs4 : Int32) (xs5 : Int32) (xs6 : Int32) (xs7 : Int32) (s : gs) (w : w182_72 c d Post xs1 xs2 xs3 xs4 xs5 xs6 xs7 s) : tV c d 182 72 [none, none, none, none, none, none] [.int xs7, .int xs6, .int xs5, .int xs4, .int xs3, .int xs2, .int xs1, .ref 48] s Post := by
  intro h hR
  have hk : ∀ pc i, gm_find gk_182 pc = some i → gm_code (gt_T c.1 c.2.1 c.2.2.1) 182 pc = some i := fun _ _ z => z
  unfold w182_72 at w
  unfold gV
  obtain ⟨fs1, e1⟩ := RL_o hR (r := 48) (ci := 10) rfl
  refine gw_call (jj := 181) (As := [.ref 48, .int xs1, .int xs2, .int xs3, .int xs4, .int xs5, .int xs6, .int xs7]) (rest := []) (hk _ _ rfl) (fun _ => rfl) rfl rfl (Nat.le_of_ble_eq_true rfl) (gm_rcv_v rfl e1 rfl) ?_
  refine ge_imp (w h hR) (fun v1 h w => ?_)
  obtain ⟨s_1, hR, x_1, rfl, w⟩ := w
  show gw (gt_T c.1 c.2.1 c.2.2.1) c.2.2.2 d 182 (75, [none, none, none, none, none, none], [.int x_1], h) _
  exact gw_ret (hk _ _ rfl) rfl ⟨_, hR, w⟩
def w182_32 (c : gx) (d : Nat) (Post : Option Value → gs → Prop) (r1 : Nat) (x2 : Int32) (x3 : Int32) (x4 : Int32) (xs0 : Int32) (s : gs) : Prop :=
  vp_in x3 12 ∧ ∃ n4, gs_isA r1 0 n4 = true ∧ vp_in 2 n4 ∧ vp_in (gsA s r1 (2 : Int32).toNatClampNeg) 12 ∧ ∃ n6, gs_isA r1 0 n6 = true ∧ vp_in 3 n6 ∧ ∃ n7, gs_isA r1 0 n7 = true ∧ vp_in 4 n7 ∧ ∃ n8, gs_isA r1 0 n8 = true ∧ vp_in 5 n8 ∧ ((xs0 = 0 → w182_72 c d Post x2 ((gsA s 50 (x3 : Int32).toNatClampNeg) - (gsA s 50 (gsA s r1 (2 : Int32).toNatClampNeg : Int32).toNatClampNeg)) (gsA s r1 (3 : Int32).toNatClampNeg) (gsA s r1 (4 : Int32).toNatClampNeg) (gsA s r1 (5 : Int32).toNatClampNeg) x4 0 s) ∧ (¬ (xs0 = 0) → w182_72 c d Post x2 ((gsA s 50 (x3 : Int32).toNatClampNeg) - (gsA s 50 (gsA s r1 (2 : Int32).toNatClampNeg : Int32).toNatClampNeg)) (gsA s r1 (3 : Int32).toNatClampNeg) (gsA s r1 (4 : Int32).toNatClampNeg) (gsA s r1 (5 : Int32).toNatClampNeg) x4 1 s))
theorem ok182_32 (c : gx) (d : Nat) (Post : Option Value → gs → Prop)  (r1 : Nat) (x2 : Int32) (x3 : Int32) (x4 : Int32) (xs0 : Int32) (s : gs) (w : w182_32 c d Post r1 x2 x3 x4 xs0 s) : tV c d 182 32 [some (.ref 48), some (.ref r1), some (.int x2), some (.int x3), some (.int x4), none] [.int xs0] s Post := by
  intro h hR
  have hk : ∀ pc i, gm_find gk_182 pc = some i → gm_code (gt_T c.1 c.2.1 c.2.2.1) 182 pc = some i := fun _ _ z => z
  unfold w182_32 at w
  unfold gV
  refine gw_pst hk 4 (st' := (37, [some (.ref 48), some (.ref r1), some (.int x2), some (.int x3), some (.int x4), some (.int xs0)], [.ref 48, .int x2, .ref 48], h)) rfl ?_
  refine gw_gf (hk _ _ rfl) (RL_fR (n := 50) hR rfl) ?_
  refine gw_pst hk 1 (st' := (41, [some (.ref 48), some (.ref r1), some (.int x2), some (.int x3), some (.int x4), some (.int xs0)], [.int x3, .ref 50, .int x2, .ref 48], h)) rfl ?_
  obtain ⟨b2, w⟩ := w
  refine gw_ald (hk _ _ rfl) (Or.inl ⟨rfl, rfl⟩) (RL_a (t := 0) (n := 12) hR rfl (by decide)) b2 ?_
  refine gw_pst hk 1 (st' := (43, [some (.ref 48), some (.ref r1), some (.int x2), some (.int x3), some (.int x4), some (.int xs0)], [.ref 48, .int (gsA s 50 (x3 : Int32).toNatClampNeg), .int x2, .ref 48], h)) rfl ?_
  refine gw_gf (hk _ _ rfl) (RL_fR (n := 50) hR rfl) ?_
  refine gw_pst hk 2 (st' := (48, [some (.ref 48), some (.ref r1), some (.int x2), some (.int x3), some (.int x4), some (.int xs0)], [.int 2, .ref r1, .ref 50, .int (gsA s 50 (x3 : Int32).toNatClampNeg), .int x2, .ref 48], h)) rfl ?_
  obtain ⟨n4, a4, b4, w⟩ := w
  refine gw_ald (hk _ _ rfl) (Or.inl ⟨rfl, rfl⟩) (RL_a (t := 0) (n := n4) hR a4 (by decide)) b4 ?_
  obtain ⟨b5, w⟩ := w
  refine gw_ald (hk _ _ rfl) (Or.inl ⟨rfl, rfl⟩) (RL_a (t := 0) (n := 12) hR rfl (by decide)) b5 ?_
  refine gw_pst hk 3 (st' := (53, [some (.ref 48), some (.ref r1), some (.int x2), some (.int x3), some (.int x4), some (.int xs0)], [.int 3, .ref r1, .int ((gsA s 50 (x3 : Int32).toNatClampNeg) - (gsA s 50 (gsA s r1 (2 : Int32).toNatClampNeg : Int32).toNatClampNeg)), .int x2, .ref 48], h)) rfl ?_
  obtain ⟨n6, a6, b6, w⟩ := w
  refine gw_ald (hk _ _ rfl) (Or.inl ⟨rfl, rfl⟩) (RL_a (t := 0) (n := n6) hR a6 (by decide)) b6 ?_
  refine gw_pst hk 2 (st' := (56, [some (.ref 48), some (.ref r1), some (.int x2), some (.int x3), some (.int x4), some (.int xs0)], [.int 4, .ref r1, .int (gsA s r1 (3 : Int32).toNatClampNeg), .int ((gsA s 50 (x3 : Int32).toNatClampNeg) - (gsA s 50 (gsA s r1 (2 : Int32).toNatClampNeg : Int32).toNatClampNeg)), .int x2, .ref 48], h)) rfl ?_
  obtain ⟨n7, a7, b7, w⟩ := w
  refine gw_ald (hk _ _ rfl) (Or.inl ⟨rfl, rfl⟩) (RL_a (t := 0) (n := n7) hR a7 (by decide)) b7 ?_
  refine gw_pst hk 2 (st' := (59, [some (.ref 48), some (.ref r1), some (.int x2), some (.int x3), some (.int x4), some (.int xs0)], [.int 5, .ref r1, .int (gsA s r1 (4 : Int32).toNatClampNeg), .int (gsA s r1 (3 : Int32).toNatClampNeg), .int ((gsA s 50 (x3 : Int32).toNatClampNeg) - (gsA s 50 (gsA s r1 (2 : Int32).toNatClampNeg : Int32).toNatClampNeg)), .int x2, .ref 48], h)) rfl ?_
  obtain ⟨n8, a8, b8, w⟩ := w
  refine gw_ald (hk _ _ rfl) (Or.inl ⟨rfl, rfl⟩) (RL_a (t := 0) (n := n8) hR a8 (by decide)) b8 ?_
  refine gw_pst hk 2 (st' := (64, [some (.ref 48), some (.ref r1), some (.int x2), some (.int x3), some (.int x4), some (.int xs0)], [.int xs0, .int x4, .int (gsA s r1 (5 : Int32).toNatClampNeg), .int (gsA s r1 (4 : Int32).toNatClampNeg), .int (gsA s r1 (3 : Int32).toNatClampNeg), .int ((gsA s 50 (x3 : Int32).toNatClampNeg) - (gsA s 50 (gsA s r1 (2 : Int32).toNatClampNeg : Int32).toNatClampNeg)), .int x2, .ref 48], h)) rfl ?_
  refine gw_br (c := xs0 = 0) (a := (71, [some (.ref 48), some (.ref r1), some (.int x2), some (.int x3), some (.int x4), some (.int xs0)], [.int x4, .int (gsA s r1 (5 : Int32).toNatClampNeg), .int (gsA s r1 (4 : Int32).toNatClampNeg), .int (gsA s r1 (3 : Int32).toNatClampNeg), .int ((gsA s 50 (x3 : Int32).toNatClampNeg) - (gsA s 50 (gsA s r1 (2 : Int32).toNatClampNeg : Int32).toNatClampNeg)), .int x2, .ref 48], h)) (b := (67, [some (.ref 48), some (.ref r1), some (.int x2), some (.int x3), some (.int x4), some (.int xs0)], [.int x4, .int (gsA s r1 (5 : Int32).toNatClampNeg), .int (gsA s r1 (4 : Int32).toNatClampNeg), .int (gsA s r1 (3 : Int32).toNatClampNeg), .int ((gsA s 50 (x3 : Int32).toNatClampNeg) - (gsA s 50 (gsA s r1 (2 : Int32).toNatClampNeg : Int32).toNatClampNeg)), .int x2, .ref 48], h)) (hk _ _ rfl) rfl ⟨fun z9 => ?_, fun z9 => ?_⟩
  · replace w := w.1 z9
    refine gw_pst hk 1 (st' := (72, [some (.ref 48), some (.ref r1), some (.int x2), some (.int x3), some (.int x4), some (.int xs0)], [.int 0, .int x4, .int (gsA s r1 (5 : Int32).toNatClampNeg), .int (gsA s r1 (4 : Int32).toNatClampNeg), .int (gsA s r1 (3 : Int32).toNatClampNeg), .int ((gsA s 50 (x3 : Int32).toNatClampNeg) - (gsA s 50 (gsA s r1 (2 : Int32).toNatClampNeg : Int32).toNatClampNeg)), .int x2, .ref 48], h)) rfl ?_
    refine gw_le (L' := [none, none, none, none, none, none]) (gm_le_n _ (gm_le_n _ (gm_le_n _ (gm_le_n _ (gm_le_n _ (gm_le_n _ gm_le_nil)))))) ?_
    exact ok182_72 c d Post _ _ _ _ _ _ _ _ w _ hR
  · replace w := w.2 z9
    refine gw_pst hk 2 (st' := (72, [some (.ref 48), some (.ref r1), some (.int x2), some (.int x3), some (.int x4), some (.int xs0)], [.int 1, .int x4, .int (gsA s r1 (5 : Int32).toNatClampNeg), .int (gsA s r1 (4 : Int32).toNatClampNeg), .int (gsA s r1 (3 : Int32).toNatClampNeg), .int ((gsA s 50 (x3 : Int32).toNatClampNeg) - (gsA s 50 (gsA s r1 (2 : Int32).toNatClampNeg : Int32).toNatClampNeg)), .int x2, .ref 48], h)) rfl ?_
    refine gw_le (L' := [none, none, none, none, none, none]) (gm_le_n _ (gm_le_n _ (gm_le_n _ (gm_le_n _ (gm_le_n _ (gm_le_n _ gm_le_nil)))))) ?_
    exact ok182_72 c d Post _ _ _ _ _ _ _ _ w _ hR
def w182_31 (c : gx) (d : Nat) (Post : Option Value → gs → Prop) (r1 : Nat) (x2 : Int32) (x3 : Int32) (x4 : Int32) (s : gs) : Prop :=
  w182_32 c d Post r1 x2 x3 x4 0 s
theorem ok182_31 (c : gx) (d : Nat) (Post : Option Value → gs → Prop)  (r1 : Nat) (x2 : Int32) (x3 : Int32) (x4 : Int32) (s : gs) (w : w182_31 c d Post r1 x2 x3 x4 s) : tV c d 182 31 [some (.ref 48), some (.ref r1), some (.int x2), some (.int x3), some (.int x4), none] [] s Post := by
  intro h hR
  have hk : ∀ pc i, gm_find gk_182 pc = some i → gm_code (gt_T c.1 c.2.1 c.2.2.1) 182 pc = some i := fun _ _ z => z
  unfold w182_31 at w
  unfold gV
  refine gw_pst hk 1 (st' := (32, [some (.ref 48), some (.ref r1), some (.int x2), some (.int x3), some (.int x4), none], [.int 0], h)) rfl ?_
  exact ok182_32 c d Post _ _ _ _ _ _ w _ hR
/-- CommandByTurnsModel.issueAt([IIII)I -/
def wm182 (c : gx) (d : Nat) (Post : Option Value → gs → Prop) (r1 : Nat) (x2 : Int32) (x3 : Int32) (x4 : Int32) (s : gs) : Prop :=
  ∃ n1, gs_isA r1 0 n1 = true ∧ vp_in 2 n1 ∧ (((if 0 ≤ (x3 - (gsA s r1 (2 : Int32).toNatClampNeg)) then (x3 - (gsA s r1 (2 : Int32).toNatClampNeg)) else 0 - (x3 - (gsA s r1 (2 : Int32).toNatClampNeg))) = 1 → ∃ n4, gs_isA r1 0 n4 = true ∧ vp_in 2 n4 ∧ vp_in (if (gsA s r1 (2 : Int32).toNatClampNeg) < x3 then (gsA s r1 (2 : Int32).toNatClampNeg) else x3) 12 ∧ (((gsA s 51 (if (gsA s r1 (2 : Int32).toNatClampNeg) < x3 then (gsA s r1 (2 : Int32).toNatClampNeg) else x3 : Int32).toNatClampNeg) = 0 → w182_31 c d Post r1 x2 x3 x4 s) ∧ (¬ ((gsA s 51 (if (gsA s r1 (2 : Int32).toNatClampNeg) < x3 then (gsA s r1 (2 : Int32).toNatClampNeg) else x3 : Int32).toNatClampNeg) = 0) → w182_32 c d Post r1 x2 x3 x4 1 s))) ∧ (¬ ((if 0 ≤ (x3 - (gsA s r1 (2 : Int32).toNatClampNeg)) then (x3 - (gsA s r1 (2 : Int32).toNatClampNeg)) else 0 - (x3 - (gsA s r1 (2 : Int32).toNatClampNeg))) = 1) → w182_31 c d Post r1 x2 x3 x4 s))
theorem okm182 (c : gx) (d : Nat) (Post : Option Value → gs → Prop) (r1 : Nat) (x2 : Int32) (x3 : Int32) (x4 : Int32) (s : gs) (w : wm182 c d Post r1 x2 x3 x4 s) : tE c (d + 1) 182 [.ref 48, .ref r1, .int x2, .int x3, .int x4] s Post := by
  intro h hR
  have hk : ∀ pc i, gm_find gk_182 pc = some i → gm_code (gt_T c.1 c.2.1 c.2.2.1) 182 pc = some i := fun _ _ z => z
  unfold wm182 at w
  refine ge_of (by decide) (Nat.le_of_ble_eq_true rfl) ?_
  show gw (gt_T c.1 c.2.1 c.2.2.1) c.2.2.2 d 182 (0, [some (.ref 48), some (.ref r1), some (.int x2), some (.int x3), some (.int x4), none], [], h) _
  refine gw_pst hk 3 (st' := (3, [some (.ref 48), some (.ref r1), some (.int x2), some (.int x3), some (.int x4), none], [.int 2, .ref r1, .int x3], h)) rfl ?_
  obtain ⟨n1, a1, b1, w⟩ := w
  refine gw_ald (hk _ _ rfl) (Or.inl ⟨rfl, rfl⟩) (RL_a (t := 0) (n := n1) hR a1 (by decide)) b1 ?_
  refine gw_pst hk 3 (st' := (9, [some (.ref 48), some (.ref r1), some (.int x2), some (.int x3), some (.int x4), none], [.int 1, .int (if 0 ≤ (x3 - (gsA s r1 (2 : Int32).toNatClampNeg)) then (x3 - (gsA s r1 (2 : Int32).toNatClampNeg)) else 0 - (x3 - (gsA s r1 (2 : Int32).toNatClampNeg)))], h)) rfl ?_
  refine gw_br (c := (if 0 ≤ (x3 - (gsA s r1 (2 : Int32).toNatClampNeg)) then (x3 - (gsA s r1 (2 : Int32).toNatClampNeg)) else 0 - (x3 - (gsA s r1 (2 : Int32).toNatClampNeg))) = 1) (a := (12, [some (.ref 48), some (.ref r1), some (.int x2), some (.int x3), some (.int x4), none], [], h)) (b := (31, [some (.ref 48), some (.ref r1), some (.int x2), some (.int x3), some (.int x4), none], [], h)) (hk _ _ rfl) rfl ⟨fun z2 => ?_, fun z2 => ?_⟩
  · replace w := w.1 z2
    refine gw_pst hk 1 (st' := (13, [some (.ref 48), some (.ref r1), some (.int x2), some (.int x3), some (.int x4), none], [.ref 48], h)) rfl ?_
    refine gw_gf (hk _ _ rfl) (RL_fR (n := 51) hR rfl) ?_
    refine gw_pst hk 3 (st' := (19, [some (.ref 48), some (.ref r1), some (.int x2), some (.int x3), some (.int x4), none], [.int 2, .ref r1, .int x3, .ref 51], h)) rfl ?_
    obtain ⟨n4, a4, b4, w⟩ := w
    refine gw_ald (hk _ _ rfl) (Or.inl ⟨rfl, rfl⟩) (RL_a (t := 0) (n := n4) hR a4 (by decide)) b4 ?_
    refine gw_pst hk 1 (st' := (23, [some (.ref 48), some (.ref r1), some (.int x2), some (.int x3), some (.int x4), none], [.int (if (gsA s r1 (2 : Int32).toNatClampNeg) < x3 then (gsA s r1 (2 : Int32).toNatClampNeg) else x3), .ref 51], h)) rfl ?_
    obtain ⟨b5, w⟩ := w
    refine gw_ald (hk _ _ rfl) (Or.inr (Or.inr ⟨rfl, rfl, Or.inr rfl⟩)) (RL_a (t := 4) (n := 12) hR rfl (by decide)) b5 ?_
    refine gw_br (c := (gsA s 51 (if (gsA s r1 (2 : Int32).toNatClampNeg) < x3 then (gsA s r1 (2 : Int32).toNatClampNeg) else x3 : Int32).toNatClampNeg) = 0) (a := (31, [some (.ref 48), some (.ref r1), some (.int x2), some (.int x3), some (.int x4), none], [], h)) (b := (27, [some (.ref 48), some (.ref r1), some (.int x2), some (.int x3), some (.int x4), none], [], h)) (hk _ _ rfl) rfl ⟨fun z6 => ?_, fun z6 => ?_⟩
    · replace w := w.1 z6
      exact ok182_31 c d Post _ _ _ _ _ w _ hR
    · replace w := w.2 z6
      refine gw_pst hk 2 (st' := (32, [some (.ref 48), some (.ref r1), some (.int x2), some (.int x3), some (.int x4), none], [.int 1], h)) rfl ?_
      exact ok182_32 c d Post _ _ _ _ _ _ w _ hR
  · replace w := w.2 z2
    exact ok182_31 c d Post _ _ _ _ _ w _ hR
def w183_15 (c : gx) (d : Nat) (Post : Option Value → gs → Prop) (xs0 : Int32) (s : gs) : Prop :=
  ((xs0 = 0 ∨ xs0 = 1) ∧ Post (some (.int xs0)) s)
theorem ok183_15 (c : gx) (d : Nat) (Post : Option Value → gs → Prop)  (xs0 : Int32) (s : gs) (w : w183_15 c d Post xs0 s) : tV c d 183 15 [none, none, none] [.int xs0] s Post := by
  intro h hR
  have hk : ∀ pc i, gm_find gk_183 pc = some i → gm_code (gt_T c.1 c.2.1 c.2.2.1) 183 pc = some i := fun _ _ z => z
  unfold w183_15 at w
  unfold gV
  exact gw_retZ (hk _ _ rfl) rfl w.1 ⟨_, hR, w.2⟩
/-- CommandByTurnsModel.isSick([III)Z -/
def wm183 (c : gx) (d : Nat) (Post : Option Value → gs → Prop) (r0 : Nat) (x1 : Int32) (x2 : Int32) (s : gs) : Prop :=
  ∃ n1, gs_isA r0 0 n1 = true ∧ vp_in (6 + x1) n1 ∧ (((gsA s r0 (6 + x1 : Int32).toNatClampNeg) < x2 → w183_15 c d Post 0 s) ∧ (¬ ((gsA s r0 (6 + x1 : Int32).toNatClampNeg) < x2) → w183_15 c d Post 1 s))
theorem okm183 (c : gx) (d : Nat) (Post : Option Value → gs → Prop) (r0 : Nat) (x1 : Int32) (x2 : Int32) (s : gs) (w : wm183 c d Post r0 x1 x2 s) : tE c (d + 1) 183 [.ref r0, .int x1, .int x2] s Post := by
  intro h hR
  have hk : ∀ pc i, gm_find gk_183 pc = some i → gm_code (gt_T c.1 c.2.1 c.2.2.1) 183 pc = some i := fun _ _ z => z
  unfold wm183 at w
  refine ge_of (by decide) (Nat.le_of_ble_eq_true rfl) ?_
  show gw (gt_T c.1 c.2.1 c.2.2.1) c.2.2.2 d 183 (0, [some (.ref r0), some (.int x1), some (.int x2)], [], h) _
  refine gw_pst hk 4 (st' := (5, [some (.ref r0), some (.int x1), some (.int x2)], [.int (6 + x1), .ref r0], h)) rfl ?_
  obtain ⟨n1, a1, b1, w⟩ := w
  refine gw_ald (hk _ _ rfl) (Or.inl ⟨rfl, rfl⟩) (RL_a (t := 0) (n := n1) hR a1 (by decide)) b1 ?_
  refine gw_pst hk 1 (st' := (7, [some (.ref r0), some (.int x1), some (.int x2)], [.int x2, .int (gsA s r0 (6 + x1 : Int32).toNatClampNeg)], h)) rfl ?_
  refine gw_br (c := (gsA s r0 (6 + x1 : Int32).toNatClampNeg) < x2) (a := (14, [some (.ref r0), some (.int x1), some (.int x2)], [], h)) (b := (10, [some (.ref r0), some (.int x1), some (.int x2)], [], h)) (hk _ _ rfl) rfl ⟨fun z2 => ?_, fun z2 => ?_⟩
  · replace w := w.1 z2
    refine gw_pst hk 1 (st' := (15, [some (.ref r0), some (.int x1), some (.int x2)], [.int 0], h)) rfl ?_
    refine gw_le (L' := [none, none, none]) (gm_le_n _ (gm_le_n _ (gm_le_n _ gm_le_nil))) ?_
    exact ok183_15 c d Post _ _ w _ hR
  · replace w := w.2 z2
    refine gw_pst hk 2 (st' := (15, [some (.ref r0), some (.int x1), some (.int x2)], [.int 1], h)) rfl ?_
    refine gw_le (L' := [none, none, none]) (gm_le_n _ (gm_le_n _ (gm_le_n _ gm_le_nil))) ?_
    exact ok183_15 c d Post _ _ w _ hR
def w184_55 (c : gx) (d : Nat) (Post : Option Value → gs → Prop) (xs0 : Int32) (s : gs) : Prop :=
  Post (some (.int xs0)) s
theorem ok184_55 (c : gx) (d : Nat) (Post : Option Value → gs → Prop)  (xs0 : Int32) (s : gs) (w : w184_55 c d Post xs0 s) : tV c d 184 55 [none, none, none] [.int xs0] s Post := by
  intro h hR
  have hk : ∀ pc i, gm_find gk_184 pc = some i → gm_code (gt_T c.1 c.2.1 c.2.2.1) 184 pc = some i := fun _ _ z => z
  unfold w184_55 at w
  unfold gV
  exact gw_ret (hk _ _ rfl) rfl ⟨_, hR, w⟩
def w184_24 (c : gx) (d : Nat) (Post : Option Value → gs → Prop) (r0 : Nat) (x1 : Int32) (x2 : Int32) (s : gs) : Prop :=
  tE c d 183 [.ref r0, .int x2, .int x1] s (fun v1 s_1 => ∃ x_1 : Int32, v1 = some (.int x_1) ∧ ((x_1 = 0 → w184_55 c d Post x2 s_1) ∧ (¬ (x_1 = 0) → tE c d 183 [.ref r0, .int (1 - x2), .int x1] s_1 (fun v3 s_3 => ∃ x_3 : Int32, v3 = some (.int x_3) ∧ ((x_3 = 0 → w184_55 c d Post (1 - x2) s_3) ∧ (¬ (x_3 = 0) → w184_55 c d Post (-1) s_3))))))
theorem ok184_24 (c : gx) (d : Nat) (Post : Option Value → gs → Prop)  (r0 : Nat) (x1 : Int32) (x2 : Int32) (s : gs) (w : w184_24 c d Post r0 x1 x2 s) : tV c d 184 24 [some (.ref r0), some (.int x1), some (.int x2)] [] s Post := by
  intro h hR
  have hk : ∀ pc i, gm_find gk_184 pc = some i → gm_code (gt_T c.1 c.2.1 c.2.2.1) 184 pc = some i := fun _ _ z => z
  unfold w184_24 at w
  unfold gV
  refine gw_pst hk 3 (st' := (27, [some (.ref r0), some (.int x1), some (.int x2)], [.int x1, .int x2, .ref r0], h)) rfl ?_
  refine gw_call (jj := 183) (As := [.ref r0, .int x2, .int x1]) (rest := []) (hk _ _ rfl) (fun _ => rfl) rfl rfl (Nat.le_of_ble_eq_true rfl) rfl ?_
  refine ge_imp (w h hR) (fun v1 h w => ?_)
  obtain ⟨s_1, hR, x_1, rfl, w⟩ := w
  show gw (gt_T c.1 c.2.1 c.2.2.1) c.2.2.2 d 184 (30, [some (.ref r0), some (.int x1), some (.int x2)], [.int x_1], h) _
  refine gw_br (c := x_1 = 0) (a := (33, [some (.ref r0), some (.int x1), some (.int x2)], [], h)) (b := (37, [some (.ref r0), some (.int x1), some (.int x2)], [], h)) (hk _ _ rfl) rfl ⟨fun z2 => ?_, fun z2 => ?_⟩
  · replace w := w.1 z2
    refine gw_pst hk 2 (st' := (55, [some (.ref r0), some (.int x1), some (.int x2)], [.int x2], h)) rfl ?_
    refine gw_le (L' := [none, none, none]) (gm_le_n _ (gm_le_n _ (gm_le_n _ gm_le_nil))) ?_
    exact ok184_55 c d Post _ _ w _ hR
  · replace w := w.2 z2
    refine gw_pst hk 5 (st' := (42, [some (.ref r0), some (.int x1), some (.int x2)], [.int x1, .int (1 - x2), .ref r0], h)) rfl ?_
    refine gw_call (jj := 183) (As := [.ref r0, .int (1 - x2), .int x1]) (rest := []) (hk _ _ rfl) (fun _ => rfl) rfl rfl (Nat.le_of_ble_eq_true rfl) rfl ?_
    refine ge_imp (w h hR) (fun v3 h w => ?_)
    obtain ⟨s_3, hR, x_3, rfl, w⟩ := w
    show gw (gt_T c.1 c.2.1 c.2.2.1) c.2.2.2 d 184 (45, [some (.ref r0), some (.int x1), some (.int x2)], [.int x_3], h) _
    refine gw_br (c := x_3 = 0) (a := (48, [some (.ref r0), some (.int x1), some (.int x2)], [], h)) (b := (54, [some (.ref r0), some (.int x1), some (.int x2)], [], h)) (hk _ _ rfl) rfl ⟨fun z4 => ?_, fun z4 => ?_⟩
    · replace w := w.1 z4
      refine gw_pst hk 4 (st' := (55, [some (.ref r0), some (.int x1), some (.int x2)], [.int (1 - x2)], h)) rfl ?_
      refine gw_le (L' := [none, none, none]) (gm_le_n _ (gm_le_n _ (gm_le_n _ gm_le_nil))) ?_
      exact ok184_55 c d Post _ _ w _ hR
    · replace w := w.2 z4
      refine gw_pst hk 1 (st' := (55, [some (.ref r0), some (.int x1), some (.int x2)], [.int (-1)], h)) rfl ?_
      refine gw_le (L' := [none, none, none]) (gm_le_n _ (gm_le_n _ (gm_le_n _ gm_le_nil))) ?_
      exact ok184_55 c d Post _ _ w _ hR
/-- CommandByTurnsModel.whoseDay([II)I -/
def wm184 (c : gx) (d : Nat) (Post : Option Value → gs → Prop) (r0 : Nat) (x1 : Int32) (s : gs) : Prop :=
  ((100 ≤ x1 → w184_24 c d Post r0 x1 (x1 - x1 / 2 * 2) s) ∧ (¬ (100 ≤ x1) → ∃ n2, gs_isA r0 0 n2 = true ∧ vp_in (8 + x1) n2 ∧ (((gsA s r0 (8 + x1 : Int32).toNatClampNeg) = 1 → w184_24 c d Post r0 x1 (1 - (x1 - x1 / 2 * 2)) s) ∧ (¬ ((gsA s r0 (8 + x1 : Int32).toNatClampNeg) = 1) → w184_24 c d Post r0 x1 (x1 - x1 / 2 * 2) s))))
theorem okm184 (c : gx) (d : Nat) (Post : Option Value → gs → Prop) (r0 : Nat) (x1 : Int32) (s : gs) (w : wm184 c d Post r0 x1 s) : tE c (d + 1) 184 [.ref r0, .int x1] s Post := by
  intro h hR
  have hk : ∀ pc i, gm_find gk_184 pc = some i → gm_code (gt_T c.1 c.2.1 c.2.2.1) 184 pc = some i := fun _ _ z => z
  unfold wm184 at w
  refine ge_of (by decide) (Nat.le_of_ble_eq_true rfl) ?_
  show gw (gt_T c.1 c.2.1 c.2.2.1) c.2.2.2 d 184 (0, [some (.ref r0), some (.int x1), none], [], h) _
  refine gw_pst hk 2 (st' := (2, [some (.ref r0), some (.int x1), none], [.int 2, .int x1], h)) rfl ?_
  refine gw_irem (hk _ _ rfl) (by decide) ?_ rfl
  refine gw_pst hk 3 (st' := (7, [some (.ref r0), some (.int x1), some (.int (x1 - x1 / 2 * 2))], [.int 100, .int x1], h)) rfl ?_
  refine gw_br (c := 100 ≤ x1) (a := (24, [some (.ref r0), some (.int x1), some (.int (x1 - x1 / 2 * 2))], [], h)) (b := (10, [some (.ref r0), some (.int x1), some (.int (x1 - x1 / 2 * 2))], [], h)) (hk _ _ rfl) rfl ⟨fun z1 => ?_, fun z1 => ?_⟩
  · replace w := w.1 z1
    exact ok184_24 c d Post _ _ _ _ w _ hR
  · replace w := w.2 z1
    refine gw_pst hk 4 (st' := (15, [some (.ref r0), some (.int x1), some (.int (x1 - x1 / 2 * 2))], [.int (8 + x1), .ref r0], h)) rfl ?_
    obtain ⟨n2, a2, b2, w⟩ := w
    refine gw_ald (hk _ _ rfl) (Or.inl ⟨rfl, rfl⟩) (RL_a (t := 0) (n := n2) hR a2 (by decide)) b2 ?_
    refine gw_pst hk 1 (st' := (17, [some (.ref r0), some (.int x1), some (.int (x1 - x1 / 2 * 2))], [.int 1, .int (gsA s r0 (8 + x1 : Int32).toNatClampNeg)], h)) rfl ?_
    refine gw_br (c := (gsA s r0 (8 + x1 : Int32).toNatClampNeg) = 1) (a := (20, [some (.ref r0), some (.int x1), some (.int (x1 - x1 / 2 * 2))], [], h)) (b := (24, [some (.ref r0), some (.int x1), some (.int (x1 - x1 / 2 * 2))], [], h)) (hk _ _ rfl) rfl ⟨fun z3 => ?_, fun z3 => ?_⟩
    · replace w := w.1 z3
      refine gw_pst hk 4 (st' := (24, [some (.ref r0), some (.int x1), some (.int (1 - (x1 - x1 / 2 * 2)))], [], h)) rfl ?_
      exact ok184_24 c d Post _ _ _ _ w _ hR
    · replace w := w.2 z3
      exact ok184_24 c d Post _ _ _ _ w _ hR
def w185_15 (c : gx) (d : Nat) (Post : Option Value → gs → Prop) (xs0 : Int32) (s : gs) : Prop :=
  ((xs0 = 0 ∨ xs0 = 1) ∧ Post (some (.int xs0)) s)
theorem ok185_15 (c : gx) (d : Nat) (Post : Option Value → gs → Prop)  (xs0 : Int32) (s : gs) (w : w185_15 c d Post xs0 s) : tV c d 185 15 [none, none] [.int xs0] s Post := by
  intro h hR
  have hk : ∀ pc i, gm_find gk_185 pc = some i → gm_code (gt_T c.1 c.2.1 c.2.2.1) 185 pc = some i := fun _ _ z => z
  unfold w185_15 at w
  unfold gV
  exact gw_retZ (hk _ _ rfl) rfl w.1 ⟨_, hR, w.2⟩
/-- CommandByTurnsModel.isNear(II)Z -/
def wm185 (c : gx) (d : Nat) (Post : Option Value → gs → Prop) (x0 : Int32) (x1 : Int32) (s : gs) : Prop :=
  ((1 < (if 0 ≤ (x0 - x1) then (x0 - x1) else 0 - (x0 - x1)) → w185_15 c d Post 0 s) ∧ (¬ (1 < (if 0 ≤ (x0 - x1) then (x0 - x1) else 0 - (x0 - x1))) → w185_15 c d Post 1 s))
theorem okm185 (c : gx) (d : Nat) (Post : Option Value → gs → Prop) (x0 : Int32) (x1 : Int32) (s : gs) (w : wm185 c d Post x0 x1 s) : tE c (d + 1) 185 [.int x0, .int x1] s Post := by
  intro h hR
  have hk : ∀ pc i, gm_find gk_185 pc = some i → gm_code (gt_T c.1 c.2.1 c.2.2.1) 185 pc = some i := fun _ _ z => z
  unfold wm185 at w
  refine ge_of (by decide) (Nat.le_of_ble_eq_true rfl) ?_
  show gw (gt_T c.1 c.2.1 c.2.2.1) c.2.2.2 d 185 (0, [some (.int x0), some (.int x1)], [], h) _
  refine gw_pst hk 5 (st' := (7, [some (.int x0), some (.int x1)], [.int 1, .int (if 0 ≤ (x0 - x1) then (x0 - x1) else 0 - (x0 - x1))], h)) rfl ?_
  refine gw_br (c := 1 < (if 0 ≤ (x0 - x1) then (x0 - x1) else 0 - (x0 - x1))) (a := (14, [some (.int x0), some (.int x1)], [], h)) (b := (10, [some (.int x0), some (.int x1)], [], h)) (hk _ _ rfl) rfl ⟨fun z1 => ?_, fun z1 => ?_⟩
  · replace w := w.1 z1
    refine gw_pst hk 1 (st' := (15, [some (.int x0), some (.int x1)], [.int 0], h)) rfl ?_
    refine gw_le (L' := [none, none]) (gm_le_n _ (gm_le_n _ gm_le_nil)) ?_
    exact ok185_15 c d Post _ _ w _ hR
  · replace w := w.2 z1
    refine gw_pst hk 2 (st' := (15, [some (.int x0), some (.int x1)], [.int 1], h)) rfl ?_
    refine gw_le (L' := [none, none]) (gm_le_n _ (gm_le_n _ gm_le_nil)) ?_
    exact ok185_15 c d Post _ _ w _ hR
/-- CommandByTurnsModel.reachOf(I)I -/
def wm186 (c : gx) (d : Nat) (Post : Option Value → gs → Prop) (x1 : Int32) (s : gs) : Prop :=
  vp_in x1 2 ∧ Post (some (.int (((gsA s 52 (x1 : Int32).toNatClampNeg) / 3) + 1))) s
theorem okm186 (c : gx) (d : Nat) (Post : Option Value → gs → Prop) (x1 : Int32) (s : gs) (w : wm186 c d Post x1 s) : tE c (d + 1) 186 [.ref 48, .int x1] s Post := by
  intro h hR
  have hk : ∀ pc i, gm_find gk_186 pc = some i → gm_code (gt_T c.1 c.2.1 c.2.2.1) 186 pc = some i := fun _ _ z => z
  unfold wm186 at w
  refine ge_of (by decide) (Nat.le_of_ble_eq_true rfl) ?_
  show gw (gt_T c.1 c.2.1 c.2.2.1) c.2.2.2 d 186 (0, [some (.ref 48), some (.int x1)], [], h) _
  refine gw_pst hk 1 (st' := (1, [some (.ref 48), some (.int x1)], [.ref 48], h)) rfl ?_
  refine gw_gf (hk _ _ rfl) (RL_fR (n := 52) hR rfl) ?_
  refine gw_pst hk 1 (st' := (5, [some (.ref 48), some (.int x1)], [.int x1, .ref 52], h)) rfl ?_
  obtain ⟨b2, w⟩ := w
  refine gw_ald (hk _ _ rfl) (Or.inl ⟨rfl, rfl⟩) (RL_a (t := 0) (n := 2) hR rfl (by decide)) b2 ?_
  refine gw_pst hk 1 (st' := (7, [some (.ref 48), some (.int x1)], [.int 3, .int (gsA s 52 (x1 : Int32).toNatClampNeg)], h)) rfl ?_
  refine gw_idiv (hk _ _ rfl) (by decide) ?_ rfl
  refine gw_pst hk 2 (st' := (10, [some (.ref 48), some (.int x1)], [.int (((gsA s 52 (x1 : Int32).toNatClampNeg) / 3) + 1)], h)) rfl ?_
  exact gw_ret (hk _ _ rfl) rfl ⟨_, hR, w⟩
def w187_40 (c : gx) (d : Nat) (Post : Option Value → gs → Prop) (K14 : Int32 → Int32 → Int32 → Int32 → gs → Prop) (x1 : Int32) (x2 : Int32) (x4 : Int32) (xs0 : Int32) (xs1 : Int32) (s : gs) : Prop :=
  K14 x1 x2 (xs0 + xs1) (x4 + 1) s
theorem ok187_40 (c : gx) (d : Nat) (Post : Option Value → gs → Prop) (K14 : Int32 → Int32 → Int32 → Int32 → gs → Prop)  (hK14 : ∀ (x1 : Int32) (x2 : Int32) (x3 : Int32) (x4 : Int32) (s : gs), K14 x1 x2 x3 x4 s → tV c d 187 14 [some (.ref 48), some (.int x1), some (.int x2), some (.int x3), some (.int x4)] [] s Post) (x1 : Int32) (x2 : Int32) (x4 : Int32) (xs0 : Int32) (xs1 : Int32) (s : gs) (w : w187_40 c d Post K14 x1 x2 x4 xs0 xs1 s) : tV c d 187 40 [some (.ref 48), some (.int x1), some (.int x2), none, some (.int x4)] [.int xs1, .int xs0] s Post := by
  intro h hR
  have hk : ∀ pc i, gm_find gk_187 pc = some i → gm_code (gt_T c.1 c.2.1 c.2.2.1) 187 pc = some i := fun _ _ z => z
  unfold w187_40 at w
  unfold gV
  refine gw_pst hk 4 (st' := (14, [some (.ref 48), some (.int x1), some (.int x2), some (.int (xs0 + xs1)), some (.int (x4 + 1))], [], h)) rfl ?_
  exact hK14 _ _ _ _ _ w _ hR
def wb187_14 (c : gx) (d : Nat) (Post : Option Value → gs → Prop) (K14 : Int32 → Int32 → Int32 → Int32 → gs → Prop) (x1 : Int32) (x2 : Int32) (x3 : Int32) (x4 : Int32) (s : gs) : Prop :=
  (((if x1 < x2 then x2 else x1) ≤ x4 → Post (some (.int x3)) s) ∧ (¬ ((if x1 < x2 then x2 else x1) ≤ x4) → vp_in x4 12 ∧ (((gsA s 51 (x4 : Int32).toNatClampNeg) = 0 → w187_40 c d Post K14 x1 x2 x4 x3 0 s) ∧ (¬ ((gsA s 51 (x4 : Int32).toNatClampNeg) = 0) → w187_40 c d Post K14 x1 x2 x4 x3 1 s))))
theorem okb187_14 (c : gx) (d : Nat) (Post : Option Value → gs → Prop) (K14 : Int32 → Int32 → Int32 → Int32 → gs → Prop)  (hK14 : ∀ (x1 : Int32) (x2 : Int32) (x3 : Int32) (x4 : Int32) (s : gs), K14 x1 x2 x3 x4 s → tV c d 187 14 [some (.ref 48), some (.int x1), some (.int x2), some (.int x3), some (.int x4)] [] s Post) (x1 : Int32) (x2 : Int32) (x3 : Int32) (x4 : Int32) (s : gs) (w : wb187_14 c d Post K14 x1 x2 x3 x4 s) : tV c d 187 14 [some (.ref 48), some (.int x1), some (.int x2), some (.int x3), some (.int x4)] [] s Post := by
  intro h hR
  have hk : ∀ pc i, gm_find gk_187 pc = some i → gm_code (gt_T c.1 c.2.1 c.2.2.1) 187 pc = some i := fun _ _ z => z
  unfold wb187_14 at w
  unfold gV
  refine gw_pst hk 4 (st' := (21, [some (.ref 48), some (.int x1), some (.int x2), some (.int x3), some (.int x4)], [.int (if x1 < x2 then x2 else x1), .int x4], h)) rfl ?_
  refine gw_br (c := (if x1 < x2 then x2 else x1) ≤ x4) (a := (48, [some (.ref 48), some (.int x1), some (.int x2), some (.int x3), some (.int x4)], [], h)) (b := (24, [some (.ref 48), some (.int x1), some (.int x2), some (.int x3), some (.int x4)], [], h)) (hk _ _ rfl) rfl ⟨fun z1 => ?_, fun z1 => ?_⟩
  · replace w := w.1 z1
    refine gw_pst hk 1 (st' := (49, [some (.ref 48), some (.int x1), some (.int x2), some (.int x3), some (.int x4)], [.int x3], h)) rfl ?_
    exact gw_ret (hk _ _ rfl) rfl ⟨_, hR, w⟩
  · replace w := w.2 z1
    refine gw_pst hk 2 (st' := (26, [some (.ref 48), some (.int x1), some (.int x2), some (.int x3), some (.int x4)], [.ref 48, .int x3], h)) rfl ?_
    refine gw_gf (hk _ _ rfl) (RL_fR (n := 51) hR rfl) ?_
    refine gw_pst hk 1 (st' := (31, [some (.ref 48), some (.int x1), some (.int x2), some (.int x3), some (.int x4)], [.int x4, .ref 51, .int x3], h)) rfl ?_
    obtain ⟨b3, w⟩ := w
    refine gw_ald (hk _ _ rfl) (Or.inr (Or.inr ⟨rfl, rfl, Or.inr rfl⟩)) (RL_a (t := 4) (n := 12) hR rfl (by decide)) b3 ?_
    refine gw_br (c := (gsA s 51 (x4 : Int32).toNatClampNeg) = 0) (a := (39, [some (.ref 48), some (.int x1), some (.int x2), some (.int x3), some (.int x4)], [.int x3], h)) (b := (35, [some (.ref 48), some (.int x1), some (.int x2), some (.int x3), some (.int x4)], [.int x3], h)) (hk _ _ rfl) rfl ⟨fun z4 => ?_, fun z4 => ?_⟩
    · replace w := w.1 z4
      refine gw_pst hk 1 (st' := (40, [some (.ref 48), some (.int x1), some (.int x2), some (.int x3), some (.int x4)], [.int 0, .int x3], h)) rfl ?_
      refine gw_le (L' := [some (.ref 48), some (.int x1), some (.int x2), none, some (.int x4)]) (gm_le_k _ (gm_le_k _ (gm_le_k _ (gm_le_n _ (gm_le_k _ gm_le_nil))))) ?_
      exact ok187_40 c d Post K14 hK14 _ _ _ _ _ _ w _ hR
    · replace w := w.2 z4
      refine gw_pst hk 2 (st' := (40, [some (.ref 48), some (.int x1), some (.int x2), some (.int x3), some (.int x4)], [.int 1, .int x3], h)) rfl ?_
      refine gw_le (L' := [some (.ref 48), some (.int x1), some (.int x2), none, some (.int x4)]) (gm_le_k _ (gm_le_k _ (gm_le_k _ (gm_le_n _ (gm_le_k _ gm_le_nil))))) ?_
      exact ok187_40 c d Post K14 hK14 _ _ _ _ _ _ w _ hR
def wl187_14 (c : gx) (d : Nat) (Post : Option Value → gs → Prop) : Nat → Int32 → Int32 → Int32 → Int32 → gs → Prop
  | 0 => fun _ _ _ _ _ => False
  | n + 1 => wb187_14 c d Post (wl187_14 c d Post n)
theorem okl187_14 (c : gx) (d : Nat) (Post : Option Value → gs → Prop) : ∀ (n : Nat) (x1 : Int32) (x2 : Int32) (x3 : Int32) (x4 : Int32) (s : gs), wl187_14 c d Post n x1 x2 x3 x4 s → tV c d 187 14 [some (.ref 48), some (.int x1), some (.int x2), some (.int x3), some (.int x4)] [] s Post
  | 0, _, _, _, _, _, w => w.elim
  | n + 1, x1, x2, x3, x4, s, w => okb187_14 c d Post (wl187_14 c d Post n) (okl187_14 c d Post n) x1 x2 x3 x4 s w
/-- CommandByTurnsModel.costOf(II)I -/
def wm187 (c : gx) (d : Nat) (Post : Option Value → gs → Prop) (x1 : Int32) (x2 : Int32) (s : gs) : Prop :=
  ∃ n, wl187_14 c d Post n x1 x2 (if 0 ≤ (x2 - x1) then (x2 - x1) else 0 - (x2 - x1)) (if x2 < x1 then x2 else x1) s
theorem okm187 (c : gx) (d : Nat) (Post : Option Value → gs → Prop) (x1 : Int32) (x2 : Int32) (s : gs) (w : wm187 c d Post x1 x2 s) : tE c (d + 1) 187 [.ref 48, .int x1, .int x2] s Post := by
  intro h hR
  have hk : ∀ pc i, gm_find gk_187 pc = some i → gm_code (gt_T c.1 c.2.1 c.2.2.1) 187 pc = some i := fun _ _ z => z
  unfold wm187 at w
  refine ge_of (by decide) (Nat.le_of_ble_eq_true rfl) ?_
  show gw (gt_T c.1 c.2.1 c.2.2.1) c.2.2.2 d 187 (0, [some (.ref 48), some (.int x1), some (.int x2), none, none], [], h) _
  refine gw_pst hk 9 (st' := (14, [some (.ref 48), some (.int x1), some (.int x2), some (.int (if 0 ≤ (x2 - x1) then (x2 - x1) else 0 - (x2 - x1))), some (.int (if x2 < x1 then x2 else x1))], [], h)) rfl ?_
  obtain ⟨n, w⟩ := w
  exact okl187_14 c d Post n _ _ _ _ _ w _ hR
def w188_25 (c : gx) (d : Nat) (Post : Option Value → gs → Prop) (xs0 : Int32) (s : gs) : Prop :=
  ((xs0 = 0 ∨ xs0 = 1) ∧ Post (some (.int xs0)) s)
theorem ok188_25 (c : gx) (d : Nat) (Post : Option Value → gs → Prop)  (xs0 : Int32) (s : gs) (w : w188_25 c d Post xs0 s) : tV c d 188 25 [none, none, none] [.int xs0] s Post := by
  intro h hR
  have hk : ∀ pc i, gm_find gk_188 pc = some i → gm_code (gt_T c.1 c.2.1 c.2.2.1) 188 pc = some i := fun _ _ z => z
  unfold w188_25 at w
  unfold gV
  exact gw_retZ (hk _ _ rfl) rfl w.1 ⟨_, hR, w.2⟩
def w188_20 (c : gx) (d : Nat) (Post : Option Value → gs → Prop)  (s : gs) : Prop :=
  w188_25 c d Post 1 s
theorem ok188_20 (c : gx) (d : Nat) (Post : Option Value → gs → Prop)   (s : gs) (w : w188_20 c d Post  s) : tV c d 188 20 [none, none, none] [] s Post := by
  intro h hR
  have hk : ∀ pc i, gm_find gk_188 pc = some i → gm_code (gt_T c.1 c.2.1 c.2.2.1) 188 pc = some i := fun _ _ z => z
  unfold w188_20 at w
  unfold gV
  refine gw_pst hk 2 (st' := (25, [none, none, none], [.int 1], h)) rfl ?_
  exact ok188_25 c d Post _ _ w _ hR
def w188_24 (c : gx) (d : Nat) (Post : Option Value → gs → Prop)  (s : gs) : Prop :=
  w188_25 c d Post 0 s
theorem ok188_24 (c : gx) (d : Nat) (Post : Option Value → gs → Prop)   (s : gs) (w : w188_24 c d Post  s) : tV c d 188 24 [none, none, none] [] s Post := by
  intro h hR
  have hk : ∀ pc i, gm_find gk_188 pc = some i → gm_code (gt_T c.1 c.2.1 c.2.2.1) 188 pc = some i := fun _ _ z => z
  unfold w188_24 at w
  unfold gV
  refine gw_pst hk 1 (st' := (25, [none, none, none], [.int 0], h)) rfl ?_
  exact ok188_25 c d Post _ _ w _ hR
def w188_10 (c : gx) (d : Nat) (Post : Option Value → gs → Prop) (x0 : Int32) (x1 : Int32) (x2 : Int32) (s : gs) : Prop :=
  ((x0 ≤ x2 → w188_24 c d Post s) ∧ (¬ (x0 ≤ x2) → ((x2 ≤ x1 → w188_24 c d Post s) ∧ (¬ (x2 ≤ x1) → w188_20 c d Post s))))
theorem ok188_10 (c : gx) (d : Nat) (Post : Option Value → gs → Prop)  (x0 : Int32) (x1 : Int32) (x2 : Int32) (s : gs) (w : w188_10 c d Post x0 x1 x2 s) : tV c d 188 10 [some (.int x0), some (.int x1), some (.int x2)] [] s Post := by
  intro h hR
  have hk : ∀ pc i, gm_find gk_188 pc = some i → gm_code (gt_T c.1 c.2.1 c.2.2.1) 188 pc = some i := fun _ _ z => z
  unfold w188_10 at w
  unfold gV
  refine gw_pst hk 2 (st' := (12, [some (.int x0), some (.int x1), some (.int x2)], [.int x2, .int x0], h)) rfl ?_
  refine gw_br (c := x0 ≤ x2) (a := (24, [some (.int x0), some (.int x1), some (.int x2)], [], h)) (b := (15, [some (.int x0), some (.int x1), some (.int x2)], [], h)) (hk _ _ rfl) rfl ⟨fun z1 => ?_, fun z1 => ?_⟩
  · replace w := w.1 z1
    refine gw_le (L' := [none, none, none]) (gm_le_n _ (gm_le_n _ (gm_le_n _ gm_le_nil))) ?_
    exact ok188_24 c d Post _ w _ hR
  · replace w := w.2 z1
    refine gw_pst hk 2 (st' := (17, [some (.int x0), some (.int x1), some (.int x2)], [.int x2, .int x1], h)) rfl ?_
    refine gw_br (c := x2 ≤ x1) (a := (24, [some (.int x0), some (.int x1), some (.int x2)], [], h)) (b := (20, [some (.int x0), some (.int x1), some (.int x2)], [], h)) (hk _ _ rfl) rfl ⟨fun z2 => ?_, fun z2 => ?_⟩
    · replace w := w.1 z2
      refine gw_le (L' := [none, none, none]) (gm_le_n _ (gm_le_n _ (gm_le_n _ gm_le_nil))) ?_
      exact ok188_24 c d Post _ w _ hR
    · replace w := w.2 z2
      refine gw_le (L' := [none, none, none]) (gm_le_n _ (gm_le_n _ (gm_le_n _ gm_le_nil))) ?_
      exact ok188_20 c d Post _ w _ hR
/-- CommandByTurnsModel.isPast(III)Z -/
def wm188 (c : gx) (d : Nat) (Post : Option Value → gs → Prop) (x0 : Int32) (x1 : Int32) (x2 : Int32) (s : gs) : Prop :=
  ((x2 ≤ x0 → w188_10 c d Post x0 x1 x2 s) ∧ (¬ (x2 ≤ x0) → ((x2 < x1 → w188_20 c d Post s) ∧ (¬ (x2 < x1) → w188_10 c d Post x0 x1 x2 s))))
theorem okm188 (c : gx) (d : Nat) (Post : Option Value → gs → Prop) (x0 : Int32) (x1 : Int32) (x2 : Int32) (s : gs) (w : wm188 c d Post x0 x1 x2 s) : tE c (d + 1) 188 [.int x0, .int x1, .int x2] s Post := by
  intro h hR
  have hk : ∀ pc i, gm_find gk_188 pc = some i → gm_code (gt_T c.1 c.2.1 c.2.2.1) 188 pc = some i := fun _ _ z => z
  unfold wm188 at w
  refine ge_of (by decide) (Nat.le_of_ble_eq_true rfl) ?_
  show gw (gt_T c.1 c.2.1 c.2.2.1) c.2.2.2 d 188 (0, [some (.int x0), some (.int x1), some (.int x2)], [], h) _
  refine gw_pst hk 2 (st' := (2, [some (.int x0), some (.int x1), some (.int x2)], [.int x2, .int x0], h)) rfl ?_
  refine gw_br (c := x2 ≤ x0) (a := (10, [some (.int x0), some (.int x1), some (.int x2)], [], h)) (b := (5, [some (.int x0), some (.int x1), some (.int x2)], [], h)) (hk _ _ rfl) rfl ⟨fun z1 => ?_, fun z1 => ?_⟩
  · replace w := w.1 z1
    exact ok188_10 c d Post _ _ _ _ w _ hR
  · replace w := w.2 z1
    refine gw_pst hk 2 (st' := (7, [some (.int x0), some (.int x1), some (.int x2)], [.int x2, .int x1], h)) rfl ?_
    refine gw_br (c := x2 < x1) (a := (20, [some (.int x0), some (.int x1), some (.int x2)], [], h)) (b := (10, [some (.int x0), some (.int x1), some (.int x2)], [], h)) (hk _ _ rfl) rfl ⟨fun z2 => ?_, fun z2 => ?_⟩
    · replace w := w.1 z2
      refine gw_le (L' := [none, none, none]) (gm_le_n _ (gm_le_n _ (gm_le_n _ gm_le_nil))) ?_
      exact ok188_20 c d Post _ w _ hR
    · replace w := w.2 z2
      exact ok188_10 c d Post _ _ _ _ w _ hR
def w189_50 (c : gx) (d : Nat) (Post : Option Value → gs → Prop) (K6 : Int32 → Int32 → Int32 → Int32 → Int32 → gs → Prop) (x1 : Int32) (x2 : Int32) (x3 : Int32) (x5 : Int32) (xs0 : Int32) (xs1 : Int32) (s : gs) : Prop :=
  K6 x1 x2 x3 (xs0 ||| xs1) (x5 + 1) s
theorem ok189_50 (c : gx) (d : Nat) (Post : Option Value → gs → Prop) (K6 : Int32 → Int32 → Int32 → Int32 → Int32 → gs → Prop)  (hK6 : ∀ (x1 : Int32) (x2 : Int32) (x3 : Int32) (x4 : Int32) (x5 : Int32) (s : gs), K6 x1 x2 x3 x4 x5 s → tV c d 189 6 [some (.ref 48), some (.int x1), some (.int x2), some (.int x3), some (.int x4), some (.int x5)] [] s Post) (x1 : Int32) (x2 : Int32) (x3 : Int32) (x5 : Int32) (xs0 : Int32) (xs1 : Int32) (s : gs) (w : w189_50 c d Post K6 x1 x2 x3 x5 xs0 xs1 s) : tV c d 189 50 [some (.ref 48), some (.int x1), some (.int x2), some (.int x3), none, some (.int x5)] [.int xs1, .int xs0] s Post := by
  intro h hR
  have hk : ∀ pc i, gm_find gk_189 pc = some i → gm_code (gt_T c.1 c.2.1 c.2.2.1) 189 pc = some i := fun _ _ z => z
  unfold w189_50 at w
  unfold gV
  refine gw_pst hk 4 (st' := (6, [some (.ref 48), some (.int x1), some (.int x2), some (.int x3), some (.int (xs0 ||| xs1)), some (.int (x5 + 1))], [], h)) rfl ?_
  exact hK6 _ _ _ _ _ _ w _ hR
def w189_49 (c : gx) (d : Nat) (Post : Option Value → gs → Prop) (K6 : Int32 → Int32 → Int32 → Int32 → Int32 → gs → Prop) (x1 : Int32) (x2 : Int32) (x3 : Int32) (x5 : Int32) (xs0 : Int32) (s : gs) : Prop :=
  w189_50 c d Post K6 x1 x2 x3 x5 xs0 0 s
theorem ok189_49 (c : gx) (d : Nat) (Post : Option Value → gs → Prop) (K6 : Int32 → Int32 → Int32 → Int32 → Int32 → gs → Prop)  (hK6 : ∀ (x1 : Int32) (x2 : Int32) (x3 : Int32) (x4 : Int32) (x5 : Int32) (s : gs), K6 x1 x2 x3 x4 x5 s → tV c d 189 6 [some (.ref 48), some (.int x1), some (.int x2), some (.int x3), some (.int x4), some (.int x5)] [] s Post) (x1 : Int32) (x2 : Int32) (x3 : Int32) (x5 : Int32) (xs0 : Int32) (s : gs) (w : w189_49 c d Post K6 x1 x2 x3 x5 xs0 s) : tV c d 189 49 [some (.ref 48), some (.int x1), some (.int x2), some (.int x3), none, some (.int x5)] [.int xs0] s Post := by
  intro h hR
  have hk : ∀ pc i, gm_find gk_189 pc = some i → gm_code (gt_T c.1 c.2.1 c.2.2.1) 189 pc = some i := fun _ _ z => z
  unfold w189_49 at w
  unfold gV
  refine gw_pst hk 1 (st' := (50, [some (.ref 48), some (.int x1), some (.int x2), some (.int x3), none, some (.int x5)], [.int 0, .int xs0], h)) rfl ?_
  exact ok189_50 c d Post K6 hK6 _ _ _ _ _ _ _ w _ hR
def wb189_6 (c : gx) (d : Nat) (Post : Option Value → gs → Prop) (K6 : Int32 → Int32 → Int32 → Int32 → Int32 → gs → Prop) (x1 : Int32) (x2 : Int32) (x3 : Int32) (x4 : Int32) (x5 : Int32) (s : gs) : Prop :=
  (((gsV s 48 1) ≤ x5 → Post (some (.int x4)) s) ∧ (¬ ((gsV s 48 1) ≤ x5) → tE c d 187 [.ref 48, .int x2, .int x5] s (fun v3 s_3 => ∃ x_3 : Int32, v3 = some (.int x_3) ∧ tE c d 186 [.ref 48, .int x1] s_3 (fun v4 s_4 => ∃ x_4 : Int32, v4 = some (.int x_4) ∧ ((x_4 < x_3 → w189_49 c d Post K6 x1 x2 x3 x5 x4 s_4) ∧ (¬ (x_4 < x_3) → tE c d 188 [.int x2, .int x5, .int x3] s_4 (fun v6 s_6 => ∃ x_6 : Int32, v6 = some (.int x_6) ∧ ((x_6 = 0 → w189_50 c d Post K6 x1 x2 x3 x5 x4 (1 <<< (x5 &&& 31)) s_6) ∧ (¬ (x_6 = 0) → w189_49 c d Post K6 x1 x2 x3 x5 x4 s_6)))))))))
theorem okb189_6 (c : gx) (d : Nat) (Post : Option Value → gs → Prop) (K6 : Int32 → Int32 → Int32 → Int32 → Int32 → gs → Prop)  (hK6 : ∀ (x1 : Int32) (x2 : Int32) (x3 : Int32) (x4 : Int32) (x5 : Int32) (s : gs), K6 x1 x2 x3 x4 x5 s → tV c d 189 6 [some (.ref 48), some (.int x1), some (.int x2), some (.int x3), some (.int x4), some (.int x5)] [] s Post) (x1 : Int32) (x2 : Int32) (x3 : Int32) (x4 : Int32) (x5 : Int32) (s : gs) (w : wb189_6 c d Post K6 x1 x2 x3 x4 x5 s) : tV c d 189 6 [some (.ref 48), some (.int x1), some (.int x2), some (.int x3), some (.int x4), some (.int x5)] [] s Post := by
  intro h hR
  have hk : ∀ pc i, gm_find gk_189 pc = some i → gm_code (gt_T c.1 c.2.1 c.2.2.1) 189 pc = some i := fun _ _ z => z
  unfold wb189_6 at w
  unfold gV
  refine gw_pst hk 2 (st' := (9, [some (.ref 48), some (.int x1), some (.int x2), some (.int x3), some (.int x4), some (.int x5)], [.ref 48, .int x5], h)) rfl ?_
  refine gw_gf (hk _ _ rfl) (RL_fI hR rfl) ?_
  refine gw_br (c := (gsV s 48 1) ≤ x5) (a := (59, [some (.ref 48), some (.int x1), some (.int x2), some (.int x3), some (.int x4), some (.int x5)], [], h)) (b := (15, [some (.ref 48), some (.int x1), some (.int x2), some (.int x3), some (.int x4), some (.int x5)], [], h)) (hk _ _ rfl) rfl ⟨fun z2 => ?_, fun z2 => ?_⟩
  · replace w := w.1 z2
    refine gw_pst hk 1 (st' := (61, [some (.ref 48), some (.int x1), some (.int x2), some (.int x3), some (.int x4), some (.int x5)], [.int x4], h)) rfl ?_
    exact gw_ret (hk _ _ rfl) rfl ⟨_, hR, w⟩
  · replace w := w.2 z2
    refine gw_pst hk 4 (st' := (21, [some (.ref 48), some (.int x1), some (.int x2), some (.int x3), some (.int x4), some (.int x5)], [.int x5, .int x2, .ref 48, .int x4], h)) rfl ?_
    obtain ⟨fs3, e3⟩ := RL_o hR (r := 48) (ci := 10) rfl
    refine gw_call (jj := 187) (As := [.ref 48, .int x2, .int x5]) (rest := [.int x4]) (hk _ _ rfl) (fun _ => rfl) rfl rfl (Nat.le_of_ble_eq_true rfl) (gm_rcv_v rfl e3 rfl) ?_
    refine ge_imp (w h hR) (fun v3 h w => ?_)
    obtain ⟨s_3, hR, x_3, rfl, w⟩ := w
    show gw (gt_T c.1 c.2.1 c.2.2.1) c.2.2.2 d 189 (24, [some (.ref 48), some (.int x1), some (.int x2), some (.int x3), some (.int x4), some (.int x5)], [.int x_3, .int x4], h) _
    refine gw_pst hk 2 (st' := (26, [some (.ref 48), some (.int x1), some (.int x2), some (.int x3), some (.int x4), some (.int x5)], [.int x1, .ref 48, .int x_3, .int x4], h)) rfl ?_
    obtain ⟨fs4, e4⟩ := RL_o hR (r := 48) (ci := 10) rfl
    refine gw_call (jj := 186) (As := [.ref 48, .int x1]) (rest := [.int x_3, .int x4]) (hk _ _ rfl) (fun _ => rfl) rfl rfl (Nat.le_of_ble_eq_true rfl) (gm_rcv_v rfl e4 rfl) ?_
    refine ge_imp (w h hR) (fun v4 h w => ?_)
    obtain ⟨s_4, hR, x_4, rfl, w⟩ := w
    show gw (gt_T c.1 c.2.1 c.2.2.1) c.2.2.2 d 189 (29, [some (.ref 48), some (.int x1), some (.int x2), some (.int x3), some (.int x4), some (.int x5)], [.int x_4, .int x_3, .int x4], h) _
    refine gw_br (c := x_4 < x_3) (a := (49, [some (.ref 48), some (.int x1), some (.int x2), some (.int x3), some (.int x4), some (.int x5)], [.int x4], h)) (b := (32, [some (.ref 48), some (.int x1), some (.int x2), some (.int x3), some (.int x4), some (.int x5)], [.int x4], h)) (hk _ _ rfl) rfl ⟨fun z5 => ?_, fun z5 => ?_⟩
    · replace w := w.1 z5
      refine gw_le (L' := [some (.ref 48), some (.int x1), some (.int x2), some (.int x3), none, some (.int x5)]) (gm_le_k _ (gm_le_k _ (gm_le_k _ (gm_le_k _ (gm_le_n _ (gm_le_k _ gm_le_nil)))))) ?_
      exact ok189_49 c d Post K6 hK6 _ _ _ _ _ _ w _ hR
    · replace w := w.2 z5
      refine gw_pst hk 3 (st' := (36, [some (.ref 48), some (.int x1), some (.int x2), some (.int x3), some (.int x4), some (.int x5)], [.int x3, .int x5, .int x2, .int x4], h)) rfl ?_
      refine gw_call (jj := 188) (As := [.int x2, .int x5, .int x3]) (rest := [.int x4]) (hk _ _ rfl) (fun _ => rfl) rfl rfl (Nat.le_of_ble_eq_true rfl) rfl ?_
      refine ge_imp (w h hR) (fun v6 h w => ?_)
      obtain ⟨s_6, hR, x_6, rfl, w⟩ := w
      show gw (gt_T c.1 c.2.1 c.2.2.1) c.2.2.2 d 189 (39, [some (.ref 48), some (.int x1), some (.int x2), some (.int x3), some (.int x4), some (.int x5)], [.int x_6, .int x4], h) _
      refine gw_br (c := x_6 = 0) (a := (42, [some (.ref 48), some (.int x1), some (.int x2), some (.int x3), some (.int x4), some (.int x5)], [.int x4], h)) (b := (49, [some (.ref 48), some (.int x1), some (.int x2), some (.int x3), some (.int x4), some (.int x5)], [.int x4], h)) (hk _ _ rfl) rfl ⟨fun z7 => ?_, fun z7 => ?_⟩
      · replace w := w.1 z7
        refine gw_pst hk 4 (st' := (50, [some (.ref 48), some (.int x1), some (.int x2), some (.int x3), some (.int x4), some (.int x5)], [.int (1 <<< (x5 &&& 31)), .int x4], h)) rfl ?_
        refine gw_le (L' := [some (.ref 48), some (.int x1), some (.int x2), some (.int x3), none, some (.int x5)]) (gm_le_k _ (gm_le_k _ (gm_le_k _ (gm_le_k _ (gm_le_n _ (gm_le_k _ gm_le_nil)))))) ?_
        exact ok189_50 c d Post K6 hK6 _ _ _ _ _ _ _ w _ hR
      · replace w := w.2 z7
        refine gw_le (L' := [some (.ref 48), some (.int x1), some (.int x2), some (.int x3), none, some (.int x5)]) (gm_le_k _ (gm_le_k _ (gm_le_k _ (gm_le_k _ (gm_le_n _ (gm_le_k _ gm_le_nil)))))) ?_
        exact ok189_49 c d Post K6 hK6 _ _ _ _ _ _ w _ hR
def wl189_6 (c : gx) (d : Nat) (Post : Option Value → gs → Prop) : Nat → Int32 → Int32 → Int32 → Int32 → Int32 → gs → Prop
  | 0 => fun _ _ _ _ _ _ => False
  | n + 1 => wb189_6 c d Post (wl189_6 c d Post n)
theorem okl189_6 (c : gx) (d : Nat) (Post : Option Value → gs → Prop) : ∀ (n : Nat) (x1 : Int32) (x2 : Int32) (x3 : Int32) (x4 : Int32) (x5 : Int32) (s : gs), wl189_6 c d Post n x1 x2 x3 x4 x5 s → tV c d 189 6 [some (.ref 48), some (.int x1), some (.int x2), some (.int x3), some (.int x4), some (.int x5)] [] s Post
  | 0, _, _, _, _, _, _, w => w.elim
  | n + 1, x1, x2, x3, x4, x5, s, w => okb189_6 c d Post (wl189_6 c d Post n) (okl189_6 c d Post n) x1 x2 x3 x4 x5 s w
/-- CommandByTurnsModel.reachable(III)I -/
def wm189 (c : gx) (d : Nat) (Post : Option Value → gs → Prop) (x1 : Int32) (x2 : Int32) (x3 : Int32) (s : gs) : Prop :=
  ∃ n, wl189_6 c d Post n x1 x2 x3 0 0 s
theorem okm189 (c : gx) (d : Nat) (Post : Option Value → gs → Prop) (x1 : Int32) (x2 : Int32) (x3 : Int32) (s : gs) (w : wm189 c d Post x1 x2 x3 s) : tE c (d + 1) 189 [.ref 48, .int x1, .int x2, .int x3] s Post := by
  intro h hR
  have hk : ∀ pc i, gm_find gk_189 pc = some i → gm_code (gt_T c.1 c.2.1 c.2.2.1) 189 pc = some i := fun _ _ z => z
  unfold wm189 at w
  refine ge_of (by decide) (Nat.le_of_ble_eq_true rfl) ?_
  show gw (gt_T c.1 c.2.1 c.2.2.1) c.2.2.2 d 189 (0, [some (.ref 48), some (.int x1), some (.int x2), some (.int x3), none, none], [], h) _
  refine gw_pst hk 4 (st' := (6, [some (.ref 48), some (.int x1), some (.int x2), some (.int x3), some (.int 0), some (.int 0)], [], h)) rfl ?_
  obtain ⟨n, w⟩ := w
  exact okl189_6 c d Post n _ _ _ _ _ _ w _ hR
def w190_22 (c : gx) (d : Nat) (Post : Option Value → gs → Prop)  (s : gs) : Prop :=
  tE c d 156 [.ref 48] s (fun v1 s_1 => ∃ x_1 : Int32, v1 = some (.int x_1) ∧ Post (some (.int x_1)) s_1)
theorem ok190_22 (c : gx) (d : Nat) (Post : Option Value → gs → Prop)   (s : gs) (w : w190_22 c d Post  s) : tV c d 190 22 [some (.ref 48), none, none] [] s Post := by
  intro h hR
  have hk : ∀ pc i, gm_find gk_190 pc = some i → gm_code (gt_T c.1 c.2.1 c.2.2.1) 190 pc = some i := fun _ _ z => z
  unfold w190_22 at w
  unfold gV
  refine gw_pst hk 1 (st' := (23, [some (.ref 48), none, none], [.ref 48], h)) rfl ?_
  obtain ⟨fs1, e1⟩ := RL_o hR (r := 48) (ci := 10) rfl
  refine gw_call (jj := 156) (As := [.ref 48]) (rest := []) (hk _ _ rfl) (fun _ => rfl) rfl rfl (Nat.le_of_ble_eq_true rfl) (gm_rcv_v rfl e1 rfl) ?_
  refine ge_imp (w h hR) (fun v1 h w => ?_)
  obtain ⟨s_1, hR, x_1, rfl, w⟩ := w
  show gw (gt_T c.1 c.2.1 c.2.2.1) c.2.2.2 d 190 (26, [some (.ref 48), none, none], [.int x_1], h) _
  exact gw_ret (hk _ _ rfl) rfl ⟨_, hR, w⟩
def w190_96 (c : gx) (d : Nat) (Post : Option Value → gs → Prop) (xs0 : Int32) (s : gs) : Prop :=
  Post (some (.int xs0)) s
theorem ok190_96 (c : gx) (d : Nat) (Post : Option Value → gs → Prop)  (xs0 : Int32) (s : gs) (w : w190_96 c d Post xs0 s) : tV c d 190 96 [none, none, none] [.int xs0] s Post := by
  intro h hR
  have hk : ∀ pc i, gm_find gk_190 pc = some i → gm_code (gt_T c.1 c.2.1 c.2.2.1) 190 pc = some i := fun _ _ z => z
  unfold w190_96 at w
  unfold gV
  exact gw_ret (hk _ _ rfl) rfl ⟨_, hR, w⟩
def w190_68 (c : gx) (d : Nat) (Post : Option Value → gs → Prop)  (s : gs) : Prop :=
  w190_96 c d Post 0 s
theorem ok190_68 (c : gx) (d : Nat) (Post : Option Value → gs → Prop)   (s : gs) (w : w190_68 c d Post  s) : tV c d 190 68 [none, none, none] [] s Post := by
  intro h hR
  have hk : ∀ pc i, gm_find gk_190 pc = some i → gm_code (gt_T c.1 c.2.1 c.2.2.1) 190 pc = some i := fun _ _ z => z
  unfold w190_68 at w
  unfold gV
  refine gw_pst hk 2 (st' := (96, [none, none, none], [.int 0], h)) rfl ?_
  exact ok190_96 c d Post _ _ w _ hR
def w190_86 (c : gx) (d : Nat) (Post : Option Value → gs → Prop) (x1 : Int32) (rs0 : Nat) (xs1 : Int32) (s : gs) : Prop :=
  ∃ n1, gs_isA rs0 0 n1 = true ∧ vp_in xs1 n1 ∧ (((gsA s rs0 (xs1 : Int32).toNatClampNeg) = x1 → w190_96 c d Post 1 s) ∧ (¬ ((gsA s rs0 (xs1 : Int32).toNatClampNeg) = x1) → w190_96 c d Post 0 s))
theorem ok190_86 (c : gx) (d : Nat) (Post : Option Value → gs → Prop)  (x1 : Int32) (rs0 : Nat) (xs1 : Int32) (s : gs) (w : w190_86 c d Post x1 rs0 xs1 s) : tV c d 190 86 [none, some (.int x1), none] [.int xs1, .ref rs0] s Post := by
  intro h hR
  have hk : ∀ pc i, gm_find gk_190 pc = some i → gm_code (gt_T c.1 c.2.1 c.2.2.1) 190 pc = some i := fun _ _ z => z
  unfold w190_86 at w
  unfold gV
  obtain ⟨n1, a1, b1, w⟩ := w
  refine gw_ald (hk _ _ rfl) (Or.inl ⟨rfl, rfl⟩) (RL_a (t := 0) (n := n1) hR a1 (by decide)) b1 ?_
  refine gw_pst hk 1 (st' := (88, [none, some (.int x1), none], [.int x1, .int (gsA s rs0 (xs1 : Int32).toNatClampNeg)], h)) rfl ?_
  refine gw_br (c := (gsA s rs0 (xs1 : Int32).toNatClampNeg) = x1) (a := (91, [none, some (.int x1), none], [], h)) (b := (95, [none, some (.int x1), none], [], h)) (hk _ _ rfl) rfl ⟨fun z2 => ?_, fun z2 => ?_⟩
  · replace w := w.1 z2
    refine gw_pst hk 2 (st' := (96, [none, some (.int x1), none], [.int 1], h)) rfl ?_
    refine gw_le (L' := [none, none, none]) (gm_le_k _ (gm_le_n _ (gm_le_k _ gm_le_nil))) ?_
    exact ok190_96 c d Post _ _ w _ hR
  · replace w := w.2 z2
    refine gw_pst hk 1 (st' := (96, [none, some (.int x1), none], [.int 0], h)) rfl ?_
    refine gw_le (L' := [none, none, none]) (gm_le_k _ (gm_le_n _ (gm_le_k _ gm_le_nil))) ?_
    exact ok190_96 c d Post _ _ w _ hR
/-- CommandByTurnsModel.field(II)I -/
def wm190 (c : gx) (d : Nat) (Post : Option Value → gs → Prop) (x1 : Int32) (x2 : Int32) (s : gs) : Prop :=
  ∀ s_1 : gs, s_1 = gs_V s 48 13 0 → tE c d 158 [.ref 48, .int x1] s_1 (fun v2 s_2 => ∃ x_2 : Int32, v2 = some (.int x_2) ∧ ((x_2 = 0 → w190_22 c d Post s_2) ∧ (¬ (x_2 = 0) → tE c d 154 [.int x2, .int 0, .int 3] s_2 (fun v4 s_4 => ∃ x_4 : Int32, v4 = some (.int x_4) ∧ ((x_4 = 0 → w190_22 c d Post s_4) ∧ (¬ (x_4 = 0) → ((x2 = 0 → vp_in x1 12 ∧ w190_96 c d Post (gsA s_4 50 (x1 : Int32).toNatClampNeg) s_4) ∧ (¬ (x2 = 0) → ((x2 = 1 → (((gsV s_4 48 1) ≤ (x1 + 1) → w190_68 c d Post s_4) ∧ (¬ ((gsV s_4 48 1) ≤ (x1 + 1)) → vp_in x1 12 ∧ (((gsA s_4 51 (x1 : Int32).toNatClampNeg) = 0 → w190_68 c d Post s_4) ∧ (¬ ((gsA s_4 51 (x1 : Int32).toNatClampNeg) = 0) → w190_96 c d Post 1 s_4))))) ∧ (¬ (x2 = 1) → ((x2 = 2 → w190_86 c d Post x1 49 1 s_4) ∧ (¬ (x2 = 2) → w190_86 c d Post x1 49 2 s_4))))))))))))
theorem okm190 (c : gx) (d : Nat) (Post : Option Value → gs → Prop) (x1 : Int32) (x2 : Int32) (s : gs) (w : wm190 c d Post x1 x2 s) : tE c (d + 1) 190 [.ref 48, .int x1, .int x2] s Post := by
  intro h hR
  have hk : ∀ pc i, gm_find gk_190 pc = some i → gm_code (gt_T c.1 c.2.1 c.2.2.1) 190 pc = some i := fun _ _ z => z
  unfold wm190 at w
  refine ge_of (by decide) (Nat.le_of_ble_eq_true rfl) ?_
  show gw (gt_T c.1 c.2.1 c.2.2.1) c.2.2.2 d 190 (0, [some (.ref 48), some (.int x1), some (.int x2)], [], h) _
  refine gw_pst hk 2 (st' := (2, [some (.ref 48), some (.int x1), some (.int x2)], [.int 0, .ref 48], h)) rfl ?_
  obtain ⟨fs1, e1⟩ := RL_o hR (r := 48) (ci := 10) rfl
  obtain ⟨l1, hR1⟩ := RL_pI (k := 13) (x := 0) hR rfl e1
  refine gw_pf (hk _ _ rfl) e1 l1 rfl ?_
  generalize gm_put h _ _ = h at hR1 ⊢
  obtain ⟨s_1, es1⟩ : ∃ z, z = gs_V s 48 13 0 := ⟨_, rfl⟩
  rw [← es1] at hR1
  replace w := w s_1 es1
  replace hR := hR1
  refine gw_pst hk 2 (st' := (7, [some (.ref 48), some (.int x1), some (.int x2)], [.int x1, .ref 48], h)) rfl ?_
  obtain ⟨fs2, e2⟩ := RL_o hR (r := 48) (ci := 10) rfl
  refine gw_call (jj := 158) (As := [.ref 48, .int x1]) (rest := []) (hk _ _ rfl) (fun _ => rfl) rfl rfl (Nat.le_of_ble_eq_true rfl) (gm_rcv_v rfl e2 rfl) ?_
  refine ge_imp (w h hR) (fun v2 h w => ?_)
  obtain ⟨s_2, hR, x_2, rfl, w⟩ := w
  show gw (gt_T c.1 c.2.1 c.2.2.1) c.2.2.2 d 190 (10, [some (.ref 48), some (.int x1), some (.int x2)], [.int x_2], h) _
  refine gw_br (c := x_2 = 0) (a := (22, [some (.ref 48), some (.int x1), some (.int x2)], [], h)) (b := (13, [some (.ref 48), some (.int x1), some (.int x2)], [], h)) (hk _ _ rfl) rfl ⟨fun z3 => ?_, fun z3 => ?_⟩
  · replace w := w.1 z3
    refine gw_le (L' := [some (.ref 48), none, none]) (gm_le_k _ (gm_le_n _ (gm_le_n _ gm_le_nil))) ?_
    exact ok190_22 c d Post _ w _ hR
  · replace w := w.2 z3
    refine gw_pst hk 3 (st' := (16, [some (.ref 48), some (.int x1), some (.int x2)], [.int 3, .int 0, .int x2], h)) rfl ?_
    refine gw_call (jj := 154) (As := [.int x2, .int 0, .int 3]) (rest := []) (hk _ _ rfl) (fun _ => rfl) rfl rfl (Nat.le_of_ble_eq_true rfl) rfl ?_
    refine ge_imp (w h hR) (fun v4 h w => ?_)
    obtain ⟨s_4, hR, x_4, rfl, w⟩ := w
    show gw (gt_T c.1 c.2.1 c.2.2.1) c.2.2.2 d 190 (19, [some (.ref 48), some (.int x1), some (.int x2)], [.int x_4], h) _
    refine gw_br (c := x_4 = 0) (a := (22, [some (.ref 48), some (.int x1), some (.int x2)], [], h)) (b := (27, [some (.ref 48), some (.int x1), some (.int x2)], [], h)) (hk _ _ rfl) rfl ⟨fun z5 => ?_, fun z5 => ?_⟩
    · replace w := w.1 z5
      refine gw_le (L' := [some (.ref 48), none, none]) (gm_le_k _ (gm_le_n _ (gm_le_n _ gm_le_nil))) ?_
      exact ok190_22 c d Post _ w _ hR
    · replace w := w.2 z5
      refine gw_pst hk 1 (st' := (28, [some (.ref 48), some (.int x1), some (.int x2)], [.int x2], h)) rfl ?_
      refine gw_br (c := x2 = 0) (a := (31, [some (.ref 48), some (.int x1), some (.int x2)], [], h)) (b := (40, [some (.ref 48), some (.int x1), some (.int x2)], [], h)) (hk _ _ rfl) rfl ⟨fun z6 => ?_, fun z6 => ?_⟩
      · replace w := w.1 z6
        refine gw_pst hk 1 (st' := (32, [some (.ref 48), some (.int x1), some (.int x2)], [.ref 48], h)) rfl ?_
        refine gw_gf (hk _ _ rfl) (RL_fR (n := 50) hR rfl) ?_
        refine gw_pst hk 1 (st' := (36, [some (.ref 48), some (.int x1), some (.int x2)], [.int x1, .ref 50], h)) rfl ?_
        obtain ⟨b8, w⟩ := w
        refine gw_ald (hk _ _ rfl) (Or.inl ⟨rfl, rfl⟩) (RL_a (t := 0) (n := 12) hR rfl (by decide)) b8 ?_
        refine gw_pst hk 1 (st' := (96, [some (.ref 48), some (.int x1), some (.int x2)], [.int (gsA s_4 50 (x1 : Int32).toNatClampNeg)], h)) rfl ?_
        refine gw_le (L' := [none, none, none]) (gm_le_n _ (gm_le_n _ (gm_le_n _ gm_le_nil))) ?_
        exact ok190_96 c d Post _ _ w _ hR
      · replace w := w.2 z6
        refine gw_pst hk 2 (st' := (42, [some (.ref 48), some (.int x1), some (.int x2)], [.int 1, .int x2], h)) rfl ?_
        refine gw_br (c := x2 = 1) (a := (45, [some (.ref 48), some (.int x1), some (.int x2)], [], h)) (b := (72, [some (.ref 48), some (.int x1), some (.int x2)], [], h)) (hk _ _ rfl) rfl ⟨fun z9 => ?_, fun z9 => ?_⟩
        · replace w := w.1 z9
          refine gw_pst hk 4 (st' := (49, [some (.ref 48), some (.int x1), some (.int x2)], [.ref 48, .int (x1 + 1)], h)) rfl ?_
          refine gw_gf (hk _ _ rfl) (RL_fI hR rfl) ?_
          refine gw_br (c := (gsV s_4 48 1) ≤ (x1 + 1)) (a := (68, [some (.ref 48), some (.int x1), some (.int x2)], [], h)) (b := (55, [some (.ref 48), some (.int x1), some (.int x2)], [], h)) (hk _ _ rfl) rfl ⟨fun z11 => ?_, fun z11 => ?_⟩
          · replace w := w.1 z11
            refine gw_le (L' := [none, none, none]) (gm_le_n _ (gm_le_n _ (gm_le_n _ gm_le_nil))) ?_
            exact ok190_68 c d Post _ w _ hR
          · replace w := w.2 z11
            refine gw_pst hk 1 (st' := (56, [some (.ref 48), some (.int x1), some (.int x2)], [.ref 48], h)) rfl ?_
            refine gw_gf (hk _ _ rfl) (RL_fR (n := 51) hR rfl) ?_
            refine gw_pst hk 1 (st' := (60, [some (.ref 48), some (.int x1), some (.int x2)], [.int x1, .ref 51], h)) rfl ?_
            obtain ⟨b13, w⟩ := w
            refine gw_ald (hk _ _ rfl) (Or.inr (Or.inr ⟨rfl, rfl, Or.inr rfl⟩)) (RL_a (t := 4) (n := 12) hR rfl (by decide)) b13 ?_
            refine gw_br (c := (gsA s_4 51 (x1 : Int32).toNatClampNeg) = 0) (a := (68, [some (.ref 48), some (.int x1), some (.int x2)], [], h)) (b := (64, [some (.ref 48), some (.int x1), some (.int x2)], [], h)) (hk _ _ rfl) rfl ⟨fun z14 => ?_, fun z14 => ?_⟩
            · replace w := w.1 z14
              refine gw_le (L' := [none, none, none]) (gm_le_n _ (gm_le_n _ (gm_le_n _ gm_le_nil))) ?_
              exact ok190_68 c d Post _ w _ hR
            · replace w := w.2 z14
              refine gw_pst hk 2 (st' := (96, [some (.ref 48), some (.int x1), some (.int x2)], [.int 1], h)) rfl ?_
              refine gw_le (L' := [none, none, none]) (gm_le_n _ (gm_le_n _ (gm_le_n _ gm_le_nil))) ?_
              exact ok190_96 c d Post _ _ w _ hR
        · replace w := w.2 z9
          refine gw_pst hk 1 (st' := (73, [some (.ref 48), some (.int x1), some (.int x2)], [.ref 48], h)) rfl ?_
          refine gw_gf (hk _ _ rfl) (RL_fR (n := 49) hR rfl) ?_
          refine gw_pst hk 2 (st' := (78, [some (.ref 48), some (.int x1), some (.int x2)], [.int 2, .int x2, .ref 49], h)) rfl ?_
          refine gw_br (c := x2 = 2) (a := (81, [some (.ref 48), some (.int x1), some (.int x2)], [.ref 49], h)) (b := (85, [some (.ref 48), some (.int x1), some (.int x2)], [.ref 49], h)) (hk _ _ rfl) rfl ⟨fun z16 => ?_, fun z16 => ?_⟩
          · replace w := w.1 z16
            refine gw_pst hk 2 (st' := (86, [some (.ref 48), some (.int x1), some (.int x2)], [.int 1, .ref 49], h)) rfl ?_
            refine gw_le (L' := [none, some (.int x1), none]) (gm_le_n _ (gm_le_k _ (gm_le_n _ gm_le_nil))) ?_
            exact ok190_86 c d Post _ _ _ _ w _ hR
          · replace w := w.2 z16
            refine gw_pst hk 1 (st' := (86, [some (.ref 48), some (.int x1), some (.int x2)], [.int 2, .ref 49], h)) rfl ?_
            refine gw_le (L' := [none, some (.int x1), none]) (gm_le_n _ (gm_le_k _ (gm_le_n _ gm_le_nil))) ?_
            exact ok190_86 c d Post _ _ _ _ w _ hR
def w191_21 (c : gx) (d : Nat) (Post : Option Value → gs → Prop)  (s : gs) : Prop :=
  tE c d 156 [.ref 48] s (fun v1 s_1 => ∃ x_1 : Int32, v1 = some (.int x_1) ∧ Post (some (.int x_1)) s_1)
theorem ok191_21 (c : gx) (d : Nat) (Post : Option Value → gs → Prop)   (s : gs) (w : w191_21 c d Post  s) : tV c d 191 21 [some (.ref 48), none, none] [] s Post := by
  intro h hR
  have hk : ∀ pc i, gm_find gk_191 pc = some i → gm_code (gt_T c.1 c.2.1 c.2.2.1) 191 pc = some i := fun _ _ z => z
  unfold w191_21 at w
  unfold gV
  refine gw_pst hk 1 (st' := (22, [some (.ref 48), none, none], [.ref 48], h)) rfl ?_
  obtain ⟨fs1, e1⟩ := RL_o hR (r := 48) (ci := 10) rfl
  refine gw_call (jj := 156) (As := [.ref 48]) (rest := []) (hk _ _ rfl) (fun _ => rfl) rfl rfl (Nat.le_of_ble_eq_true rfl) (gm_rcv_v rfl e1 rfl) ?_
  refine ge_imp (w h hR) (fun v1 h w => ?_)
  obtain ⟨s_1, hR, x_1, rfl, w⟩ := w
  show gw (gt_T c.1 c.2.1 c.2.2.1) c.2.2.2 d 191 (25, [some (.ref 48), none, none], [.int x_1], h) _
  exact gw_ret (hk _ _ rfl) rfl ⟨_, hR, w⟩
/-- CommandByTurnsModel.consul(II)I -/
def wm191 (c : gx) (d : Nat) (Post : Option Value → gs → Prop) (x1 : Int32) (x2 : Int32) (s : gs) : Prop :=
  ∀ s_1 : gs, s_1 = gs_V s 48 13 0 → tE c d 159 [.int x1] s_1 (fun v2 s_2 => ∃ x_2 : Int32, v2 = some (.int x_2) ∧ ((x_2 = 0 → w191_21 c d Post s_2) ∧ (¬ (x_2 = 0) → tE c d 154 [.int x2, .int 0, .int 4] s_2 (fun v4 s_4 => ∃ x_4 : Int32, v4 = some (.int x_4) ∧ ((x_4 = 0 → w191_21 c d Post s_4) ∧ (¬ (x_4 = 0) → ((x2 = 0 → vp_in x1 2 ∧ Post (some (.int (gsA s_4 52 (x1 : Int32).toNatClampNeg))) s_4) ∧ (x2 = 1 → vp_in x1 2 ∧ Post (some (.int (gsA s_4 53 (x1 : Int32).toNatClampNeg))) s_4) ∧ (x2 = 2 → tE c d 186 [.ref 48, .int x1] s_4 (fun v11 s_11 => ∃ x_11 : Int32, v11 = some (.int x_11) ∧ Post (some (.int x_11)) s_11)) ∧ (x2 = 3 → vp_in (6 + x1) 108 ∧ Post (some (.int (gsA s_4 49 (6 + x1 : Int32).toNatClampNeg))) s_4) ∧ ((x2 : Int32).toInt < 0 ∨ 3 < (x2 : Int32).toInt → vp_in 0 108 ∧ tE c d 174 [.ref 48, .int x1, .int (gsA s_4 49 (0 : Int32).toNatClampNeg)] s_4 (fun v16 s_16 => ∃ x_16 : Int32, v16 = some (.int x_16) ∧ Post (some (.int x_16)) s_16)))))))))
theorem okm191 (c : gx) (d : Nat) (Post : Option Value → gs → Prop) (x1 : Int32) (x2 : Int32) (s : gs) (w : wm191 c d Post x1 x2 s) : tE c (d + 1) 191 [.ref 48, .int x1, .int x2] s Post := by
  intro h hR
  have hk : ∀ pc i, gm_find gk_191 pc = some i → gm_code (gt_T c.1 c.2.1 c.2.2.1) 191 pc = some i := fun _ _ z => z
  unfold wm191 at w
  refine ge_of (by decide) (Nat.le_of_ble_eq_true rfl) ?_
  show gw (gt_T c.1 c.2.1 c.2.2.1) c.2.2.2 d 191 (0, [some (.ref 48), some (.int x1), some (.int x2)], [], h) _
  refine gw_pst hk 2 (st' := (2, [some (.ref 48), some (.int x1), some (.int x2)], [.int 0, .ref 48], h)) rfl ?_
  obtain ⟨fs1, e1⟩ := RL_o hR (r := 48) (ci := 10) rfl
  obtain ⟨l1, hR1⟩ := RL_pI (k := 13) (x := 0) hR rfl e1
  refine gw_pf (hk _ _ rfl) e1 l1 rfl ?_
  generalize gm_put h _ _ = h at hR1 ⊢
  obtain ⟨s_1, es1⟩ : ∃ z, z = gs_V s 48 13 0 := ⟨_, rfl⟩
  rw [← es1] at hR1
  replace w := w s_1 es1
  replace hR := hR1
  refine gw_pst hk 1 (st' := (6, [some (.ref 48), some (.int x1), some (.int x2)], [.int x1], h)) rfl ?_
  refine gw_call (jj := 159) (As := [.int x1]) (rest := []) (hk _ _ rfl) (fun _ => rfl) rfl rfl (Nat.le_of_ble_eq_true rfl) rfl ?_
  refine ge_imp (w h hR) (fun v2 h w => ?_)
  obtain ⟨s_2, hR, x_2, rfl, w⟩ := w
  show gw (gt_T c.1 c.2.1 c.2.2.1) c.2.2.2 d 191 (9, [some (.ref 48), some (.int x1), some (.int x2)], [.int x_2], h) _
  refine gw_br (c := x_2 = 0) (a := (21, [some (.ref 48), some (.int x1), some (.int x2)], [], h)) (b := (12, [some (.ref 48), some (.int x1), some (.int x2)], [], h)) (hk _ _ rfl) rfl ⟨fun z3 => ?_, fun z3 => ?_⟩
  · replace w := w.1 z3
    refine gw_le (L' := [some (.ref 48), none, none]) (gm_le_k _ (gm_le_n _ (gm_le_n _ gm_le_nil))) ?_
    exact ok191_21 c d Post _ w _ hR
  · replace w := w.2 z3
    refine gw_pst hk 3 (st' := (15, [some (.ref 48), some (.int x1), some (.int x2)], [.int 4, .int 0, .int x2], h)) rfl ?_
    refine gw_call (jj := 154) (As := [.int x2, .int 0, .int 4]) (rest := []) (hk _ _ rfl) (fun _ => rfl) rfl rfl (Nat.le_of_ble_eq_true rfl) rfl ?_
    refine ge_imp (w h hR) (fun v4 h w => ?_)
    obtain ⟨s_4, hR, x_4, rfl, w⟩ := w
    show gw (gt_T c.1 c.2.1 c.2.2.1) c.2.2.2 d 191 (18, [some (.ref 48), some (.int x1), some (.int x2)], [.int x_4], h) _
    refine gw_br (c := x_4 = 0) (a := (21, [some (.ref 48), some (.int x1), some (.int x2)], [], h)) (b := (26, [some (.ref 48), some (.int x1), some (.int x2)], [], h)) (hk _ _ rfl) rfl ⟨fun z5 => ?_, fun z5 => ?_⟩
    · replace w := w.1 z5
      refine gw_le (L' := [some (.ref 48), none, none]) (gm_le_k _ (gm_le_n _ (gm_le_n _ gm_le_nil))) ?_
      exact ok191_21 c d Post _ w _ hR
    · replace w := w.2 z5
      refine gw_pst hk 1 (st' := (27, [some (.ref 48), some (.int x1), some (.int x2)], [.int x2], h)) rfl ?_
      by_cases z6_0 : x2 = 0
      · replace w := w.1 z6_0
        refine gw_swk (st' := (56, [some (.ref 48), some (.int x1), some (.int x2)], [], h)) (hk _ _ rfl) z6_0 rfl ?_
        refine gw_pst hk 1 (st' := (57, [some (.ref 48), some (.int x1), some (.int x2)], [.ref 48], h)) rfl ?_
        refine gw_gf (hk _ _ rfl) (RL_fR (n := 52) hR rfl) ?_
        refine gw_pst hk 1 (st' := (61, [some (.ref 48), some (.int x1), some (.int x2)], [.int x1, .ref 52], h)) rfl ?_
        obtain ⟨b8, w⟩ := w
        refine gw_ald (hk _ _ rfl) (Or.inl ⟨rfl, rfl⟩) (RL_a (t := 0) (n := 2) hR rfl (by decide)) b8 ?_
        exact gw_ret (hk _ _ rfl) rfl ⟨_, hR, w⟩
      by_cases z6_1 : x2 = 1
      · replace w := w.2.1 z6_1
        refine gw_swk (st' := (63, [some (.ref 48), some (.int x1), some (.int x2)], [], h)) (hk _ _ rfl) z6_1 rfl ?_
        refine gw_pst hk 1 (st' := (64, [some (.ref 48), some (.int x1), some (.int x2)], [.ref 48], h)) rfl ?_
        refine gw_gf (hk _ _ rfl) (RL_fR (n := 53) hR rfl) ?_
        refine gw_pst hk 1 (st' := (68, [some (.ref 48), some (.int x1), some (.int x2)], [.int x1, .ref 53], h)) rfl ?_
        obtain ⟨b10, w⟩ := w
        refine gw_ald (hk _ _ rfl) (Or.inl ⟨rfl, rfl⟩) (RL_a (t := 0) (n := 2) hR rfl (by decide)) b10 ?_
        exact gw_ret (hk _ _ rfl) rfl ⟨_, hR, w⟩
      by_cases z6_2 : x2 = 2
      · replace w := w.2.2.1 z6_2
        refine gw_swk (st' := (70, [some (.ref 48), some (.int x1), some (.int x2)], [], h)) (hk _ _ rfl) z6_2 rfl ?_
        refine gw_pst hk 2 (st' := (72, [some (.ref 48), some (.int x1), some (.int x2)], [.int x1, .ref 48], h)) rfl ?_
        obtain ⟨fs11, e11⟩ := RL_o hR (r := 48) (ci := 10) rfl
        refine gw_call (jj := 186) (As := [.ref 48, .int x1]) (rest := []) (hk _ _ rfl) (fun _ => rfl) rfl rfl (Nat.le_of_ble_eq_true rfl) (gm_rcv_v rfl e11 rfl) ?_
        refine ge_imp (w h hR) (fun v11 h w => ?_)
        obtain ⟨s_11, hR, x_11, rfl, w⟩ := w
        show gw (gt_T c.1 c.2.1 c.2.2.1) c.2.2.2 d 191 (75, [some (.ref 48), some (.int x1), some (.int x2)], [.int x_11], h) _
        exact gw_ret (hk _ _ rfl) rfl ⟨_, hR, w⟩
      by_cases z6_3 : x2 = 3
      · replace w := w.2.2.2.1 z6_3
        refine gw_swk (st' := (76, [some (.ref 48), some (.int x1), some (.int x2)], [], h)) (hk _ _ rfl) z6_3 rfl ?_
        refine gw_pst hk 1 (st' := (77, [some (.ref 48), some (.int x1), some (.int x2)], [.ref 48], h)) rfl ?_
        refine gw_gf (hk _ _ rfl) (RL_fR (n := 49) hR rfl) ?_
        refine gw_pst hk 3 (st' := (84, [some (.ref 48), some (.int x1), some (.int x2)], [.int (6 + x1), .ref 49], h)) rfl ?_
        obtain ⟨b13, w⟩ := w
        refine gw_ald (hk _ _ rfl) (Or.inl ⟨rfl, rfl⟩) (RL_a (t := 0) (n := 108) hR rfl (by decide)) b13 ?_
        exact gw_ret (hk _ _ rfl) rfl ⟨_, hR, w⟩
      have zd6 : (x2 : Int32).toInt < 0 ∨ 3 < (x2 : Int32).toInt := by
        have y0 : (x2 : Int32).toInt ≠ 0 := fun z => z6_0 (Int32.toInt_inj.mp z)
        have y1 : (x2 : Int32).toInt ≠ 1 := fun z => z6_1 (Int32.toInt_inj.mp z)
        have y2 : (x2 : Int32).toInt ≠ 2 := fun z => z6_2 (Int32.toInt_inj.mp z)
        have y3 : (x2 : Int32).toInt ≠ 3 := fun z => z6_3 (Int32.toInt_inj.mp z)
        omega
      replace w := w.2.2.2.2 zd6
      refine gw_tsd (st' := (86, [some (.ref 48), some (.int x1), some (.int x2)], [], h)) (hk _ _ rfl) zd6 rfl ?_
      refine gw_pst hk 3 (st' := (89, [some (.ref 48), some (.int x1), some (.int x2)], [.ref 48, .int x1, .ref 48], h)) rfl ?_
      refine gw_gf (hk _ _ rfl) (RL_fR (n := 49) hR rfl) ?_
      refine gw_pst hk 1 (st' := (93, [some (.ref 48), some (.int x1), some (.int x2)], [.int 0, .ref 49, .int x1, .ref 48], h)) rfl ?_
      obtain ⟨b15, w⟩ := w
      refine gw_ald (hk _ _ rfl) (Or.inl ⟨rfl, rfl⟩) (RL_a (t := 0) (n := 108) hR rfl (by decide)) b15 ?_
      obtain ⟨fs16, e16⟩ := RL_o hR (r := 48) (ci := 10) rfl
      refine gw_call (jj := 174) (As := [.ref 48, .int x1, .int (gsA s_4 49 (0 : Int32).toNatClampNeg)]) (rest := []) (hk _ _ rfl) (fun _ => rfl) rfl rfl (Nat.le_of_ble_eq_true rfl) (gm_rcv_v rfl e16 rfl) ?_
      refine ge_imp (w h hR) (fun v16 h w => ?_)
      obtain ⟨s_16, hR, x_16, rfl, w⟩ := w
      show gw (gt_T c.1 c.2.1 c.2.2.1) c.2.2.2 d 191 (97, [some (.ref 48), some (.int x1), some (.int x2)], [.int x_16], h) _
      exact gw_ret (hk _ _ rfl) rfl ⟨_, hR, w⟩
def w192_31 (c : gx) (d : Nat) (Post : Option Value → gs → Prop)  (s : gs) : Prop :=
  Post (some (.int (-1))) s
theorem ok192_31 (c : gx) (d : Nat) (Post : Option Value → gs → Prop)   (s : gs) (w : w192_31 c d Post  s) : tV c d 192 31 [none, none, none, none, none] [] s Post := by
  intro h hR
  have hk : ∀ pc i, gm_find gk_192 pc = some i → gm_code (gt_T c.1 c.2.1 c.2.2.1) 192 pc = some i := fun _ _ z => z
  unfold w192_31 at w
  unfold gV
  refine gw_pst hk 1 (st' := (32, [none, none, none, none, none], [.int (-1)], h)) rfl ?_
  exact gw_ret (hk _ _ rfl) rfl ⟨_, hR, w⟩
def w192_75 (c : gx) (d : Nat) (Post : Option Value → gs → Prop) (x4 : Int32) (s : gs) : Prop :=
  Post (some (.int x4)) s
theorem ok192_75 (c : gx) (d : Nat) (Post : Option Value → gs → Prop)  (x4 : Int32) (s : gs) (w : w192_75 c d Post x4 s) : tV c d 192 75 [none, none, none, none, some (.int x4)] [] s Post := by
  intro h hR
  have hk : ∀ pc i, gm_find gk_192 pc = some i → gm_code (gt_T c.1 c.2.1 c.2.2.1) 192 pc = some i := fun _ _ z => z
  unfold w192_75 at w
  unfold gV
  refine gw_pst hk 1 (st' := (77, [none, none, none, none, some (.int x4)], [.int x4], h)) rfl ?_
  exact gw_ret (hk _ _ rfl) rfl ⟨_, hR, w⟩
def w192_52 (c : gx) (d : Nat) (Post : Option Value → gs → Prop) (x1 : Int32) (x2 : Int32) (x3 : Int32) (xs0 : Int32) (s : gs) : Prop :=
  ((x2 = 0 → vp_in x1 2 ∧ ∀ s_3 : gs, s_3 = gs_A s 52 (x1 : Int32).toNatClampNeg (vp_nar .int x3) → w192_75 c d Post xs0 s_3) ∧ (¬ (x2 = 0) → vp_in x1 2 ∧ ∀ s_5 : gs, s_5 = gs_A s 53 (x1 : Int32).toNatClampNeg (vp_nar .int x3) → w192_75 c d Post xs0 s_5))
theorem ok192_52 (c : gx) (d : Nat) (Post : Option Value → gs → Prop)  (x1 : Int32) (x2 : Int32) (x3 : Int32) (xs0 : Int32) (s : gs) (w : w192_52 c d Post x1 x2 x3 xs0 s) : tV c d 192 52 [some (.ref 48), some (.int x1), some (.int x2), some (.int x3), none] [.int xs0] s Post := by
  intro h hR
  have hk : ∀ pc i, gm_find gk_192 pc = some i → gm_code (gt_T c.1 c.2.1 c.2.2.1) 192 pc = some i := fun _ _ z => z
  unfold w192_52 at w
  unfold gV
  refine gw_pst hk 2 (st' := (55, [some (.ref 48), some (.int x1), some (.int x2), some (.int x3), some (.int xs0)], [.int x2], h)) rfl ?_
  refine gw_br (c := x2 = 0) (a := (58, [some (.ref 48), some (.int x1), some (.int x2), some (.int x3), some (.int xs0)], [], h)) (b := (68, [some (.ref 48), some (.int x1), some (.int x2), some (.int x3), some (.int xs0)], [], h)) (hk _ _ rfl) rfl ⟨fun z1 => ?_, fun z1 => ?_⟩
  · replace w := w.1 z1
    refine gw_pst hk 1 (st' := (59, [some (.ref 48), some (.int x1), some (.int x2), some (.int x3), some (.int xs0)], [.ref 48], h)) rfl ?_
    refine gw_gf (hk _ _ rfl) (RL_fR (n := 52) hR rfl) ?_
    refine gw_pst hk 2 (st' := (64, [some (.ref 48), some (.int x1), some (.int x2), some (.int x3), some (.int xs0)], [.int x3, .int x1, .ref 52], h)) rfl ?_
    obtain ⟨b3, w⟩ := w
    have hR3 := RL_pA (a := 52) (t := 0) (n := 2) (k := (x1 : Int32).toNatClampNeg) (x := (vp_nar .int x3)) hR rfl (by decide)
    refine gw_ast (hk _ _ rfl) (Or.inl ⟨rfl, rfl, rfl⟩) (RL_a (t := 0) (n := 2) hR rfl (by decide)) b3 ?_
    generalize gm_put h _ _ = h at hR3 ⊢
    obtain ⟨s_3, es3⟩ : ∃ z, z = gs_A s 52 (x1 : Int32).toNatClampNeg (vp_nar .int x3) := ⟨_, rfl⟩
    rw [← es3] at hR3
    replace w := w s_3 es3
    replace hR := hR3
    refine gw_pst hk 1 (st' := (75, [some (.ref 48), some (.int x1), some (.int x2), some (.int x3), some (.int xs0)], [], h)) rfl ?_
    refine gw_le (L' := [none, none, none, none, some (.int xs0)]) (gm_le_n _ (gm_le_n _ (gm_le_n _ (gm_le_n _ (gm_le_k _ gm_le_nil))))) ?_
    exact ok192_75 c d Post _ _ w _ hR
  · replace w := w.2 z1
    refine gw_pst hk 1 (st' := (69, [some (.ref 48), some (.int x1), some (.int x2), some (.int x3), some (.int xs0)], [.ref 48], h)) rfl ?_
    refine gw_gf (hk _ _ rfl) (RL_fR (n := 53) hR rfl) ?_
    refine gw_pst hk 2 (st' := (74, [some (.ref 48), some (.int x1), some (.int x2), some (.int x3), some (.int xs0)], [.int x3, .int x1, .ref 53], h)) rfl ?_
    obtain ⟨b5, w⟩ := w
    have hR5 := RL_pA (a := 53) (t := 0) (n := 2) (k := (x1 : Int32).toNatClampNeg) (x := (vp_nar .int x3)) hR rfl (by decide)
    refine gw_ast (hk _ _ rfl) (Or.inl ⟨rfl, rfl, rfl⟩) (RL_a (t := 0) (n := 2) hR rfl (by decide)) b5 ?_
    generalize gm_put h _ _ = h at hR5 ⊢
    obtain ⟨s_5, es5⟩ : ∃ z, z = gs_A s 53 (x1 : Int32).toNatClampNeg (vp_nar .int x3) := ⟨_, rfl⟩
    rw [← es5] at hR5
    replace w := w s_5 es5
    replace hR := hR5
    refine gw_le (L' := [none, none, none, none, some (.int xs0)]) (gm_le_n _ (gm_le_n _ (gm_le_n _ (gm_le_n _ (gm_le_k _ gm_le_nil))))) ?_
    exact ok192_75 c d Post _ _ w _ hR
/-- CommandByTurnsModel.set(III)I -/
def wm192 (c : gx) (d : Nat) (Post : Option Value → gs → Prop) (x1 : Int32) (x2 : Int32) (x3 : Int32) (s : gs) : Prop :=
  ∀ s_1 : gs, s_1 = gs_V s 48 13 0 → tE c d 159 [.int x1] s_1 (fun v2 s_2 => ∃ x_2 : Int32, v2 = some (.int x_2) ∧ ((x_2 = 0 → w192_31 c d Post s_2) ∧ (¬ (x_2 = 0) → tE c d 154 [.int x2, .int 0, .int 1] s_2 (fun v4 s_4 => ∃ x_4 : Int32, v4 = some (.int x_4) ∧ ((x_4 = 0 → w192_31 c d Post s_4) ∧ (¬ (x_4 = 0) → tE c d 154 [.int x3, .int 0, .int 9] s_4 (fun v6 s_6 => ∃ x_6 : Int32, v6 = some (.int x_6) ∧ ((x_6 = 0 → w192_31 c d Post s_6) ∧ (¬ (x_6 = 0) → ((x2 = 0 → vp_in x1 2 ∧ w192_52 c d Post x1 x2 x3 (gsA s_6 52 (x1 : Int32).toNatClampNeg) s_6) ∧ (¬ (x2 = 0) → vp_in x1 2 ∧ w192_52 c d Post x1 x2 x3 (gsA s_6 53 (x1 : Int32).toNatClampNeg) s_6)))))))))))
theorem okm192 (c : gx) (d : Nat) (Post : Option Value → gs → Prop) (x1 : Int32) (x2 : Int32) (x3 : Int32) (s : gs) (w : wm192 c d Post x1 x2 x3 s) : tE c (d + 1) 192 [.ref 48, .int x1, .int x2, .int x3] s Post := by
  intro h hR
  have hk : ∀ pc i, gm_find gk_192 pc = some i → gm_code (gt_T c.1 c.2.1 c.2.2.1) 192 pc = some i := fun _ _ z => z
  unfold wm192 at w
  refine ge_of (by decide) (Nat.le_of_ble_eq_true rfl) ?_
  show gw (gt_T c.1 c.2.1 c.2.2.1) c.2.2.2 d 192 (0, [some (.ref 48), some (.int x1), some (.int x2), some (.int x3), none], [], h) _
  refine gw_pst hk 2 (st' := (2, [some (.ref 48), some (.int x1), some (.int x2), some (.int x3), none], [.int 0, .ref 48], h)) rfl ?_
  obtain ⟨fs1, e1⟩ := RL_o hR (r := 48) (ci := 10) rfl
  obtain ⟨l1, hR1⟩ := RL_pI (k := 13) (x := 0) hR rfl e1
  refine gw_pf (hk _ _ rfl) e1 l1 rfl ?_
  generalize gm_put h _ _ = h at hR1 ⊢
  obtain ⟨s_1, es1⟩ : ∃ z, z = gs_V s 48 13 0 := ⟨_, rfl⟩
  rw [← es1] at hR1
  replace w := w s_1 es1
  replace hR := hR1
  refine gw_pst hk 1 (st' := (6, [some (.ref 48), some (.int x1), some (.int x2), some (.int x3), none], [.int x1], h)) rfl ?_
  refine gw_call (jj := 159) (As := [.int x1]) (rest := []) (hk _ _ rfl) (fun _ => rfl) rfl rfl (Nat.le_of_ble_eq_true rfl) rfl ?_
  refine ge_imp (w h hR) (fun v2 h w => ?_)
  obtain ⟨s_2, hR, x_2, rfl, w⟩ := w
  show gw (gt_T c.1 c.2.1 c.2.2.1) c.2.2.2 d 192 (9, [some (.ref 48), some (.int x1), some (.int x2), some (.int x3), none], [.int x_2], h) _
  refine gw_br (c := x_2 = 0) (a := (31, [some (.ref 48), some (.int x1), some (.int x2), some (.int x3), none], [], h)) (b := (12, [some (.ref 48), some (.int x1), some (.int x2), some (.int x3), none], [], h)) (hk _ _ rfl) rfl ⟨fun z3 => ?_, fun z3 => ?_⟩
  · replace w := w.1 z3
    refine gw_le (L' := [none, none, none, none, none]) (gm_le_n _ (gm_le_n _ (gm_le_n _ (gm_le_n _ (gm_le_k _ gm_le_nil))))) ?_
    exact ok192_31 c d Post _ w _ hR
  · replace w := w.2 z3
    refine gw_pst hk 3 (st' := (15, [some (.ref 48), some (.int x1), some (.int x2), some (.int x3), none], [.int 1, .int 0, .int x2], h)) rfl ?_
    refine gw_call (jj := 154) (As := [.int x2, .int 0, .int 1]) (rest := []) (hk _ _ rfl) (fun _ => rfl) rfl rfl (Nat.le_of_ble_eq_true rfl) rfl ?_
    refine ge_imp (w h hR) (fun v4 h w => ?_)
    obtain ⟨s_4, hR, x_4, rfl, w⟩ := w
    show gw (gt_T c.1 c.2.1 c.2.2.1) c.2.2.2 d 192 (18, [some (.ref 48), some (.int x1), some (.int x2), some (.int x3), none], [.int x_4], h) _
    refine gw_br (c := x_4 = 0) (a := (31, [some (.ref 48), some (.int x1), some (.int x2), some (.int x3), none], [], h)) (b := (21, [some (.ref 48), some (.int x1), some (.int x2), some (.int x3), none], [], h)) (hk _ _ rfl) rfl ⟨fun z5 => ?_, fun z5 => ?_⟩
    · replace w := w.1 z5
      refine gw_le (L' := [none, none, none, none, none]) (gm_le_n _ (gm_le_n _ (gm_le_n _ (gm_le_n _ (gm_le_k _ gm_le_nil))))) ?_
      exact ok192_31 c d Post _ w _ hR
    · replace w := w.2 z5
      refine gw_pst hk 3 (st' := (25, [some (.ref 48), some (.int x1), some (.int x2), some (.int x3), none], [.int 9, .int 0, .int x3], h)) rfl ?_
      refine gw_call (jj := 154) (As := [.int x3, .int 0, .int 9]) (rest := []) (hk _ _ rfl) (fun _ => rfl) rfl rfl (Nat.le_of_ble_eq_true rfl) rfl ?_
      refine ge_imp (w h hR) (fun v6 h w => ?_)
      obtain ⟨s_6, hR, x_6, rfl, w⟩ := w
      show gw (gt_T c.1 c.2.1 c.2.2.1) c.2.2.2 d 192 (28, [some (.ref 48), some (.int x1), some (.int x2), some (.int x3), none], [.int x_6], h) _
      refine gw_br (c := x_6 = 0) (a := (31, [some (.ref 48), some (.int x1), some (.int x2), some (.int x3), none], [], h)) (b := (33, [some (.ref 48), some (.int x1), some (.int x2), some (.int x3), none], [], h)) (hk _ _ rfl) rfl ⟨fun z7 => ?_, fun z7 => ?_⟩
      · replace w := w.1 z7
        refine gw_le (L' := [none, none, none, none, none]) (gm_le_n _ (gm_le_n _ (gm_le_n _ (gm_le_n _ (gm_le_k _ gm_le_nil))))) ?_
        exact ok192_31 c d Post _ w _ hR
      · replace w := w.2 z7
        refine gw_pst hk 1 (st' := (34, [some (.ref 48), some (.int x1), some (.int x2), some (.int x3), none], [.int x2], h)) rfl ?_
        refine gw_br (c := x2 = 0) (a := (37, [some (.ref 48), some (.int x1), some (.int x2), some (.int x3), none], [], h)) (b := (46, [some (.ref 48), some (.int x1), some (.int x2), some (.int x3), none], [], h)) (hk _ _ rfl) rfl ⟨fun z8 => ?_, fun z8 => ?_⟩
        · replace w := w.1 z8
          refine gw_pst hk 1 (st' := (38, [some (.ref 48), some (.int x1), some (.int x2), some (.int x3), none], [.ref 48], h)) rfl ?_
          refine gw_gf (hk _ _ rfl) (RL_fR (n := 52) hR rfl) ?_
          refine gw_pst hk 1 (st' := (42, [some (.ref 48), some (.int x1), some (.int x2), some (.int x3), none], [.int x1, .ref 52], h)) rfl ?_
          obtain ⟨b10, w⟩ := w
          refine gw_ald (hk _ _ rfl) (Or.inl ⟨rfl, rfl⟩) (RL_a (t := 0) (n := 2) hR rfl (by decide)) b10 ?_
          refine gw_pst hk 1 (st' := (52, [some (.ref 48), some (.int x1), some (.int x2), some (.int x3), none], [.int (gsA s_6 52 (x1 : Int32).toNatClampNeg)], h)) rfl ?_
          exact ok192_52 c d Post _ _ _ _ _ w _ hR
        · replace w := w.2 z8
          refine gw_pst hk 1 (st' := (47, [some (.ref 48), some (.int x1), some (.int x2), some (.int x3), none], [.ref 48], h)) rfl ?_
          refine gw_gf (hk _ _ rfl) (RL_fR (n := 53) hR rfl) ?_
          refine gw_pst hk 1 (st' := (51, [some (.ref 48), some (.int x1), some (.int x2), some (.int x3), none], [.int x1, .ref 53], h)) rfl ?_
          obtain ⟨b12, w⟩ := w
          refine gw_ald (hk _ _ rfl) (Or.inl ⟨rfl, rfl⟩) (RL_a (t := 0) (n := 2) hR rfl (by decide)) b12 ?_
          exact ok192_52 c d Post _ _ _ _ _ w _ hR
def w193_20 (c : gx) (d : Nat) (Post : Option Value → gs → Prop)  (s : gs) : Prop :=
  Post (some (.int (-1))) s
theorem ok193_20 (c : gx) (d : Nat) (Post : Option Value → gs → Prop)   (s : gs) (w : w193_20 c d Post  s) : tV c d 193 20 [none, none, none, none, none, none, none, none, none] [] s Post := by
  intro h hR
  have hk : ∀ pc i, gm_find gk_193 pc = some i → gm_code (gt_T c.1 c.2.1 c.2.2.1) 193 pc = some i := fun _ _ z => z
  unfold w193_20 at w
  unfold gV
  refine gw_pst hk 1 (st' := (21, [none, none, none, none, none, none, none, none, none], [.int (-1)], h)) rfl ?_
  exact gw_ret (hk _ _ rfl) rfl ⟨_, hR, w⟩
def w193_109 (c : gx) (d : Nat) (Post : Option Value → gs → Prop) (K43 : Int32 → Int32 → Int32 → Int32 → Int32 → Int32 → gs → Prop) (x1 : Int32) (x2 : Int32) (x4 : Int32) (x5 : Int32) (x6 : Int32) (x7 : Int32) (rs0 : Nat) (xs1 : Int32) (xs2 : Int32) (s : gs) : Prop :=
  ∃ n1, gs_isA rs0 0 n1 = true ∧ vp_in xs1 n1 ∧ ∀ s_1 : gs, s_1 = gs_A s rs0 (xs1 : Int32).toNatClampNeg (vp_nar .int xs2) → vp_in x7 12 ∧ K43 x1 x2 x4 (x5 + (gsA s_1 50 (x7 : Int32).toNatClampNeg)) (x6 + x4) (x7 + 1) s_1
theorem ok193_109 (c : gx) (d : Nat) (Post : Option Value → gs → Prop) (K43 : Int32 → Int32 → Int32 → Int32 → Int32 → Int32 → gs → Prop)  (hK43 : ∀ (x1 : Int32) (x2 : Int32) (x4 : Int32) (x5 : Int32) (x6 : Int32) (x7 : Int32) (s : gs), K43 x1 x2 x4 x5 x6 x7 s → tV c d 193 43 [some (.ref 48), some (.int x1), some (.int x2), none, some (.int x4), some (.int x5), some (.int x6), some (.int x7), none] [] s Post) (x1 : Int32) (x2 : Int32) (x4 : Int32) (x5 : Int32) (x6 : Int32) (x7 : Int32) (rs0 : Nat) (xs1 : Int32) (xs2 : Int32) (s : gs) (w : w193_109 c d Post K43 x1 x2 x4 x5 x6 x7 rs0 xs1 xs2 s) : tV c d 193 109 [some (.ref 48), some (.int x1), some (.int x2), none, some (.int x4), some (.int x5), some (.int x6), some (.int x7), none] [.int xs2, .int xs1, .ref rs0] s Post := by
  intro h hR
  have hk : ∀ pc i, gm_find gk_193 pc = some i → gm_code (gt_T c.1 c.2.1 c.2.2.1) 193 pc = some i := fun _ _ z => z
  unfold w193_109 at w
  unfold gV
  obtain ⟨n1, a1, b1, w⟩ := w
  have hR1 := RL_pA (a := rs0) (t := 0) (n := n1) (k := (xs1 : Int32).toNatClampNeg) (x := (vp_nar .int xs2)) hR a1 (by decide)
  refine gw_ast (hk _ _ rfl) (Or.inl ⟨rfl, rfl, rfl⟩) (RL_a (t := 0) (n := n1) hR a1 (by decide)) b1 ?_
  generalize gm_put h _ _ = h at hR1 ⊢
  obtain ⟨s_1, es1⟩ : ∃ z, z = gs_A s rs0 (xs1 : Int32).toNatClampNeg (vp_nar .int xs2) := ⟨_, rfl⟩
  rw [← es1] at hR1
  replace w := w s_1 es1
  replace hR := hR1
  refine gw_pst hk 2 (st' := (113, [some (.ref 48), some (.int x1), some (.int x2), none, some (.int x4), some (.int x5), some (.int x6), some (.int x7), none], [.ref 48, .int x5], h)) rfl ?_
  refine gw_gf (hk _ _ rfl) (RL_fR (n := 50) hR rfl) ?_
  refine gw_pst hk 1 (st' := (118, [some (.ref 48), some (.int x1), some (.int x2), none, some (.int x4), some (.int x5), some (.int x6), some (.int x7), none], [.int x7, .ref 50, .int x5], h)) rfl ?_
  obtain ⟨b3, w⟩ := w
  refine gw_ald (hk _ _ rfl) (Or.inl ⟨rfl, rfl⟩) (RL_a (t := 0) (n := 12) hR rfl (by decide)) b3 ?_
  refine gw_pst hk 8 (st' := (43, [some (.ref 48), some (.int x1), some (.int x2), none, some (.int x4), some (.int (x5 + (gsA s_1 50 (x7 : Int32).toNatClampNeg))), some (.int (x6 + x4)), some (.int (x7 + 1)), none], [], h)) rfl ?_
  exact hK43 _ _ _ _ _ _ _ w _ hR
def w193_94 (c : gx) (d : Nat) (Post : Option Value → gs → Prop) (K43 : Int32 → Int32 → Int32 → Int32 → Int32 → Int32 → gs → Prop) (x1 : Int32) (x2 : Int32) (x4 : Int32) (x5 : Int32) (x6 : Int32) (x7 : Int32) (rs0 : Nat) (xs1 : Int32) (s : gs) : Prop :=
  w193_109 c d Post K43 x1 x2 x4 x5 x6 x7 rs0 xs1 0 s
theorem ok193_94 (c : gx) (d : Nat) (Post : Option Value → gs → Prop) (K43 : Int32 → Int32 → Int32 → Int32 → Int32 → Int32 → gs → Prop)  (hK43 : ∀ (x1 : Int32) (x2 : Int32) (x4 : Int32) (x5 : Int32) (x6 : Int32) (x7 : Int32) (s : gs), K43 x1 x2 x4 x5 x6 x7 s → tV c d 193 43 [some (.ref 48), some (.int x1), some (.int x2), none, some (.int x4), some (.int x5), some (.int x6), some (.int x7), none] [] s Post) (x1 : Int32) (x2 : Int32) (x4 : Int32) (x5 : Int32) (x6 : Int32) (x7 : Int32) (rs0 : Nat) (xs1 : Int32) (s : gs) (w : w193_94 c d Post K43 x1 x2 x4 x5 x6 x7 rs0 xs1 s) : tV c d 193 94 [some (.ref 48), some (.int x1), some (.int x2), none, some (.int x4), some (.int x5), some (.int x6), some (.int x7), none] [.int xs1, .ref rs0] s Post := by
  intro h hR
  have hk : ∀ pc i, gm_find gk_193 pc = some i → gm_code (gt_T c.1 c.2.1 c.2.2.1) 193 pc = some i := fun _ _ z => z
  unfold w193_94 at w
  unfold gV
  refine gw_pst hk 2 (st' := (109, [some (.ref 48), some (.int x1), some (.int x2), none, some (.int x4), some (.int x5), some (.int x6), some (.int x7), none], [.int 0, .int xs1, .ref rs0], h)) rfl ?_
  exact ok193_109 c d Post K43 hK43 _ _ _ _ _ _ _ _ _ _ w _ hR
def w193_75 (c : gx) (d : Nat) (Post : Option Value → gs → Prop) (K43 : Int32 → Int32 → Int32 → Int32 → Int32 → Int32 → gs → Prop) (x1 : Int32) (x2 : Int32) (x4 : Int32) (x5 : Int32) (x6 : Int32) (x7 : Int32) (xs0 : Int32) (s : gs) : Prop :=
  ((x1 = 3 → w193_94 c d Post K43 x1 x2 x4 x5 x6 x7 50 x7 s) ∧ (¬ (x1 = 3) → ((x7 < x2 → w193_109 c d Post K43 x1 x2 x4 x5 x6 x7 50 x7 (if 0 < (if xs0 < 9 then xs0 else 9) then (if xs0 < 9 then xs0 else 9) else 0) s) ∧ (¬ (x7 < x2) → w193_94 c d Post K43 x1 x2 x4 x5 x6 x7 50 x7 s))))
theorem ok193_75 (c : gx) (d : Nat) (Post : Option Value → gs → Prop) (K43 : Int32 → Int32 → Int32 → Int32 → Int32 → Int32 → gs → Prop)  (hK43 : ∀ (x1 : Int32) (x2 : Int32) (x4 : Int32) (x5 : Int32) (x6 : Int32) (x7 : Int32) (s : gs), K43 x1 x2 x4 x5 x6 x7 s → tV c d 193 43 [some (.ref 48), some (.int x1), some (.int x2), none, some (.int x4), some (.int x5), some (.int x6), some (.int x7), none] [] s Post) (x1 : Int32) (x2 : Int32) (x4 : Int32) (x5 : Int32) (x6 : Int32) (x7 : Int32) (xs0 : Int32) (s : gs) (w : w193_75 c d Post K43 x1 x2 x4 x5 x6 x7 xs0 s) : tV c d 193 75 [some (.ref 48), some (.int x1), some (.int x2), none, some (.int x4), some (.int x5), some (.int x6), some (.int x7), none] [.int xs0] s Post := by
  intro h hR
  have hk : ∀ pc i, gm_find gk_193 pc = some i → gm_code (gt_T c.1 c.2.1 c.2.2.1) 193 pc = some i := fun _ _ z => z
  unfold w193_75 at w
  unfold gV
  refine gw_pst hk 2 (st' := (78, [some (.ref 48), some (.int x1), some (.int x2), none, some (.int x4), some (.int x5), some (.int x6), some (.int x7), some (.int xs0)], [.ref 48], h)) rfl ?_
  refine gw_gf (hk _ _ rfl) (RL_fR (n := 50) hR rfl) ?_
  refine gw_pst hk 3 (st' := (85, [some (.ref 48), some (.int x1), some (.int x2), none, some (.int x4), some (.int x5), some (.int x6), some (.int x7), some (.int xs0)], [.int 3, .int x1, .int x7, .ref 50], h)) rfl ?_
  refine gw_br (c := x1 = 3) (a := (94, [some (.ref 48), some (.int x1), some (.int x2), none, some (.int x4), some (.int x5), some (.int x6), some (.int x7), some (.int xs0)], [.int x7, .ref 50], h)) (b := (88, [some (.ref 48), some (.int x1), some (.int x2), none, some (.int x4), some (.int x5), some (.int x6), some (.int x7), some (.int xs0)], [.int x7, .ref 50], h)) (hk _ _ rfl) rfl ⟨fun z2 => ?_, fun z2 => ?_⟩
  · replace w := w.1 z2
    refine gw_le (L' := [some (.ref 48), some (.int x1), some (.int x2), none, some (.int x4), some (.int x5), some (.int x6), some (.int x7), none]) (gm_le_k _ (gm_le_k _ (gm_le_k _ (gm_le_k _ (gm_le_k _ (gm_le_k _ (gm_le_k _ (gm_le_k _ (gm_le_n _ gm_le_nil))))))))) ?_
    exact ok193_94 c d Post K43 hK43 _ _ _ _ _ _ _ _ _ w _ hR
  · replace w := w.2 z2
    refine gw_pst hk 2 (st' := (91, [some (.ref 48), some (.int x1), some (.int x2), none, some (.int x4), some (.int x5), some (.int x6), some (.int x7), some (.int xs0)], [.int x2, .int x7, .int x7, .ref 50], h)) rfl ?_
    refine gw_br (c := x7 < x2) (a := (98, [some (.ref 48), some (.int x1), some (.int x2), none, some (.int x4), some (.int x5), some (.int x6), some (.int x7), some (.int xs0)], [.int x7, .ref 50], h)) (b := (94, [some (.ref 48), some (.int x1), some (.int x2), none, some (.int x4), some (.int x5), some (.int x6), some (.int x7), some (.int xs0)], [.int x7, .ref 50], h)) (hk _ _ rfl) rfl ⟨fun z3 => ?_, fun z3 => ?_⟩
    · replace w := w.1 z3
      refine gw_pst hk 5 (st' := (109, [some (.ref 48), some (.int x1), some (.int x2), none, some (.int x4), some (.int x5), some (.int x6), some (.int x7), some (.int xs0)], [.int (if 0 < (if xs0 < 9 then xs0 else 9) then (if xs0 < 9 then xs0 else 9) else 0), .int x7, .ref 50], h)) rfl ?_
      refine gw_le (L' := [some (.ref 48), some (.int x1), some (.int x2), none, some (.int x4), some (.int x5), some (.int x6), some (.int x7), none]) (gm_le_k _ (gm_le_k _ (gm_le_k _ (gm_le_k _ (gm_le_k _ (gm_le_k _ (gm_le_k _ (gm_le_k _ (gm_le_n _ gm_le_nil))))))))) ?_
      exact ok193_109 c d Post K43 hK43 _ _ _ _ _ _ _ _ _ _ w _ hR
    · replace w := w.2 z3
      refine gw_le (L' := [some (.ref 48), some (.int x1), some (.int x2), none, some (.int x4), some (.int x5), some (.int x6), some (.int x7), none]) (gm_le_k _ (gm_le_k _ (gm_le_k _ (gm_le_k _ (gm_le_k _ (gm_le_k _ (gm_le_k _ (gm_le_k _ (gm_le_n _ gm_le_nil))))))))) ?_
      exact ok193_94 c d Post K43 hK43 _ _ _ _ _ _ _ _ _ w _ hR
def w193_147 (c : gx) (d : Nat) (Post : Option Value → gs → Prop) (xs0 : Int32) (s : gs) : Prop :=
  Post (some (.int xs0)) s
theorem ok193_147 (c : gx) (d : Nat) (Post : Option Value → gs → Prop)  (xs0 : Int32) (s : gs) (w : w193_147 c d Post xs0 s) : tV c d 193 147 [none, none, none, none, none, none, none, none, none] [.int xs0] s Post := by
  intro h hR
  have hk : ∀ pc i, gm_find gk_193 pc = some i → gm_code (gt_T c.1 c.2.1 c.2.2.1) 193 pc = some i := fun _ _ z => z
  unfold w193_147 at w
  unfold gV
  exact gw_ret (hk _ _ rfl) rfl ⟨_, hR, w⟩
def wb193_43 (c : gx) (d : Nat) (Post : Option Value → gs → Prop) (K43 : Int32 → Int32 → Int32 → Int32 → Int32 → Int32 → gs → Prop) (x1 : Int32) (x2 : Int32) (x4 : Int32) (x5 : Int32) (x6 : Int32) (x7 : Int32) (s : gs) : Prop :=
  (((gsV s 48 1) ≤ x7 → ((x1 = 3 → w193_147 c d Post (-3) s) ∧ (¬ (x1 = 3) → w193_147 c d Post x5 s))) ∧ (¬ ((gsV s 48 1) ≤ x7) → ((x1 = 0 → w193_75 c d Post K43 x1 x2 x4 x5 x6 x7 ((x6).toInt8.toInt32) s) ∧ (¬ (x1 = 0) → ((x1 = 1 → w193_75 c d Post K43 x1 x2 x4 x5 x6 x7 ((x6).toInt16.toInt32) s) ∧ (¬ (x1 = 1) → w193_75 c d Post K43 x1 x2 x4 x5 x6 x7 x6 s))))))
theorem okb193_43 (c : gx) (d : Nat) (Post : Option Value → gs → Prop) (K43 : Int32 → Int32 → Int32 → Int32 → Int32 → Int32 → gs → Prop)  (hK43 : ∀ (x1 : Int32) (x2 : Int32) (x4 : Int32) (x5 : Int32) (x6 : Int32) (x7 : Int32) (s : gs), K43 x1 x2 x4 x5 x6 x7 s → tV c d 193 43 [some (.ref 48), some (.int x1), some (.int x2), none, some (.int x4), some (.int x5), some (.int x6), some (.int x7), none] [] s Post) (x1 : Int32) (x2 : Int32) (x4 : Int32) (x5 : Int32) (x6 : Int32) (x7 : Int32) (s : gs) (w : wb193_43 c d Post K43 x1 x2 x4 x5 x6 x7 s) : tV c d 193 43 [some (.ref 48), some (.int x1), some (.int x2), none, some (.int x4), some (.int x5), some (.int x6), some (.int x7), none] [] s Post := by
  intro h hR
  have hk : ∀ pc i, gm_find gk_193 pc = some i → gm_code (gt_T c.1 c.2.1 c.2.2.1) 193 pc = some i := fun _ _ z => z
  unfold wb193_43 at w
  unfold gV
  refine gw_pst hk 2 (st' := (46, [some (.ref 48), some (.int x1), some (.int x2), none, some (.int x4), some (.int x5), some (.int x6), some (.int x7), none], [.ref 48, .int x7], h)) rfl ?_
  refine gw_gf (hk _ _ rfl) (RL_fI hR rfl) ?_
  refine gw_br (c := (gsV s 48 1) ≤ x7) (a := (135, [some (.ref 48), some (.int x1), some (.int x2), none, some (.int x4), some (.int x5), some (.int x6), some (.int x7), none], [], h)) (b := (52, [some (.ref 48), some (.int x1), some (.int x2), none, some (.int x4), some (.int x5), some (.int x6), some (.int x7), none], [], h)) (hk _ _ rfl) rfl ⟨fun z2 => ?_, fun z2 => ?_⟩
  · replace w := w.1 z2
    refine gw_pst hk 2 (st' := (137, [some (.ref 48), some (.int x1), some (.int x2), none, some (.int x4), some (.int x5), some (.int x6), some (.int x7), none], [.int 3, .int x1], h)) rfl ?_
    refine gw_br (c := x1 = 3) (a := (140, [some (.ref 48), some (.int x1), some (.int x2), none, some (.int x4), some (.int x5), some (.int x6), some (.int x7), none], [], h)) (b := (145, [some (.ref 48), some (.int x1), some (.int x2), none, some (.int x4), some (.int x5), some (.int x6), some (.int x7), none], [], h)) (hk _ _ rfl) rfl ⟨fun z3 => ?_, fun z3 => ?_⟩
    · replace w := w.1 z3
      refine gw_pst hk 2 (st' := (147, [some (.ref 48), some (.int x1), some (.int x2), none, some (.int x4), some (.int x5), some (.int x6), some (.int x7), none], [.int (-3)], h)) rfl ?_
      refine gw_le (L' := [none, none, none, none, none, none, none, none, none]) (gm_le_n _ (gm_le_n _ (gm_le_n _ (gm_le_k _ (gm_le_n _ (gm_le_n _ (gm_le_n _ (gm_le_n _ (gm_le_k _ gm_le_nil))))))))) ?_
      exact ok193_147 c d Post _ _ w _ hR
    · replace w := w.2 z3
      refine gw_pst hk 1 (st' := (147, [some (.ref 48), some (.int x1), some (.int x2), none, some (.int x4), some (.int x5), some (.int x6), some (.int x7), none], [.int x5], h)) rfl ?_
      refine gw_le (L' := [none, none, none, none, none, none, none, none, none]) (gm_le_n _ (gm_le_n _ (gm_le_n _ (gm_le_k _ (gm_le_n _ (gm_le_n _ (gm_le_n _ (gm_le_n _ (gm_le_k _ gm_le_nil))))))))) ?_
      exact ok193_147 c d Post _ _ w _ hR
  · replace w := w.2 z2
    refine gw_pst hk 1 (st' := (53, [some (.ref 48), some (.int x1), some (.int x2), none, some (.int x4), some (.int x5), some (.int x6), some (.int x7), none], [.int x1], h)) rfl ?_
    refine gw_br (c := x1 = 0) (a := (56, [some (.ref 48), some (.int x1), some (.int x2), none, some (.int x4), some (.int x5), some (.int x6), some (.int x7), none], [], h)) (b := (62, [some (.ref 48), some (.int x1), some (.int x2), none, some (.int x4), some (.int x5), some (.int x6), some (.int x7), none], [], h)) (hk _ _ rfl) rfl ⟨fun z4 => ?_, fun z4 => ?_⟩
    · replace w := w.1 z4
      refine gw_pst hk 3 (st' := (75, [some (.ref 48), some (.int x1), some (.int x2), none, some (.int x4), some (.int x5), some (.int x6), some (.int x7), none], [.int ((x6).toInt8.toInt32)], h)) rfl ?_
      exact ok193_75 c d Post K43 hK43 _ _ _ _ _ _ _ _ w _ hR
    · replace w := w.2 z4
      refine gw_pst hk 2 (st' := (64, [some (.ref 48), some (.int x1), some (.int x2), none, some (.int x4), some (.int x5), some (.int x6), some (.int x7), none], [.int 1, .int x1], h)) rfl ?_
      refine gw_br (c := x1 = 1) (a := (67, [some (.ref 48), some (.int x1), some (.int x2), none, some (.int x4), some (.int x5), some (.int x6), some (.int x7), none], [], h)) (b := (73, [some (.ref 48), some (.int x1), some (.int x2), none, some (.int x4), some (.int x5), some (.int x6), some (.int x7), none], [], h)) (hk _ _ rfl) rfl ⟨fun z5 => ?_, fun z5 => ?_⟩
      · replace w := w.1 z5
        refine gw_pst hk 3 (st' := (75, [some (.ref 48), some (.int x1), some (.int x2), none, some (.int x4), some (.int x5), some (.int x6), some (.int x7), none], [.int ((x6).toInt16.toInt32)], h)) rfl ?_
        exact ok193_75 c d Post K43 hK43 _ _ _ _ _ _ _ _ w _ hR
      · replace w := w.2 z5
        refine gw_pst hk 1 (st' := (75, [some (.ref 48), some (.int x1), some (.int x2), none, some (.int x4), some (.int x5), some (.int x6), some (.int x7), none], [.int x6], h)) rfl ?_
        exact ok193_75 c d Post K43 hK43 _ _ _ _ _ _ _ _ w _ hR
def wl193_43 (c : gx) (d : Nat) (Post : Option Value → gs → Prop) : Nat → Int32 → Int32 → Int32 → Int32 → Int32 → Int32 → gs → Prop
  | 0 => fun _ _ _ _ _ _ _ => False
  | n + 1 => wb193_43 c d Post (wl193_43 c d Post n)
theorem okl193_43 (c : gx) (d : Nat) (Post : Option Value → gs → Prop) : ∀ (n : Nat) (x1 : Int32) (x2 : Int32) (x4 : Int32) (x5 : Int32) (x6 : Int32) (x7 : Int32) (s : gs), wl193_43 c d Post n x1 x2 x4 x5 x6 x7 s → tV c d 193 43 [some (.ref 48), some (.int x1), some (.int x2), none, some (.int x4), some (.int x5), some (.int x6), some (.int x7), none] [] s Post
  | 0, _, _, _, _, _, _, _, w => w.elim
  | n + 1, x1, x2, x4, x5, x6, x7, s, w => okb193_43 c d Post (wl193_43 c d Post n) (okl193_43 c d Post n) x1 x2 x4 x5 x6 x7 s w
def w193_34 (c : gx) (d : Nat) (Post : Option Value → gs → Prop) (x1 : Int32) (x2 : Int32) (x3 : Int32) (x4 : Int32) (s : gs) : Prop :=
  ∃ n, wl193_43 c d Post n x1 x2 x4 0 x3 0 s
theorem ok193_34 (c : gx) (d : Nat) (Post : Option Value → gs → Prop)  (x1 : Int32) (x2 : Int32) (x3 : Int32) (x4 : Int32) (s : gs) (w : w193_34 c d Post x1 x2 x3 x4 s) : tV c d 193 34 [some (.ref 48), some (.int x1), some (.int x2), some (.int x3), some (.int x4), none, none, none, none] [] s Post := by
  intro h hR
  have hk : ∀ pc i, gm_find gk_193 pc = some i → gm_code (gt_T c.1 c.2.1 c.2.2.1) 193 pc = some i := fun _ _ z => z
  unfold w193_34 at w
  unfold gV
  refine gw_pst hk 6 (st' := (43, [some (.ref 48), some (.int x1), some (.int x2), some (.int x3), some (.int x4), some (.int 0), some (.int x3), some (.int 0), none], [], h)) rfl ?_
  refine gw_le (L' := [some (.ref 48), some (.int x1), some (.int x2), none, some (.int x4), some (.int 0), some (.int x3), some (.int 0), none]) (gm_le_k _ (gm_le_k _ (gm_le_k _ (gm_le_n _ (gm_le_k _ (gm_le_k _ (gm_le_k _ (gm_le_k _ (gm_le_k _ gm_le_nil))))))))) ?_
  obtain ⟨n, w⟩ := w
  exact okl193_43 c d Post n _ _ _ _ _ _ _ w _ hR
/-- CommandByTurnsModel.sheet(IIII)I -/
def wm193 (c : gx) (d : Nat) (Post : Option Value → gs → Prop) (x1 : Int32) (x2 : Int32) (x3 : Int32) (x4 : Int32) (s : gs) : Prop :=
  ∀ s_1 : gs, s_1 = gs_V s 48 13 0 → tE c d 154 [.int x1, .int 0, .int 3] s_1 (fun v2 s_2 => ∃ x_2 : Int32, v2 = some (.int x_2) ∧ ((x_2 = 0 → w193_20 c d Post s_2) ∧ (¬ (x_2 = 0) → ((x2 ≤ 12 → ((3 ≤ x1 → w193_34 c d Post x1 x2 x3 x4 s_2) ∧ (¬ (3 ≤ x1) → ((0 ≤ x2 → w193_34 c d Post x1 x2 x3 x4 s_2) ∧ (¬ (0 ≤ x2) → Post (some (.int (-2))) s_2))))) ∧ (¬ (x2 ≤ 12) → w193_20 c d Post s_2)))))
theorem okm193 (c : gx) (d : Nat) (Post : Option Value → gs → Prop) (x1 : Int32) (x2 : Int32) (x3 : Int32) (x4 : Int32) (s : gs) (w : wm193 c d Post x1 x2 x3 x4 s) : tE c (d + 1) 193 [.ref 48, .int x1, .int x2, .int x3, .int x4] s Post := by
  intro h hR
  have hk : ∀ pc i, gm_find gk_193 pc = some i → gm_code (gt_T c.1 c.2.1 c.2.2.1) 193 pc = some i := fun _ _ z => z
  unfold wm193 at w
  refine ge_of (by decide) (Nat.le_of_ble_eq_true rfl) ?_
  show gw (gt_T c.1 c.2.1 c.2.2.1) c.2.2.2 d 193 (0, [some (.ref 48), some (.int x1), some (.int x2), some (.int x3), some (.int x4), none, none, none, none], [], h) _
  refine gw_pst hk 2 (st' := (2, [some (.ref 48), some (.int x1), some (.int x2), some (.int x3), some (.int x4), none, none, none, none], [.int 0, .ref 48], h)) rfl ?_
  obtain ⟨fs1, e1⟩ := RL_o hR (r := 48) (ci := 10) rfl
  obtain ⟨l1, hR1⟩ := RL_pI (k := 13) (x := 0) hR rfl e1
  refine gw_pf (hk _ _ rfl) e1 l1 rfl ?_
  generalize gm_put h _ _ = h at hR1 ⊢
  obtain ⟨s_1, es1⟩ : ∃ z, z = gs_V s 48 13 0 := ⟨_, rfl⟩
  rw [← es1] at hR1
  replace w := w s_1 es1
  replace hR := hR1
  refine gw_pst hk 3 (st' := (8, [some (.ref 48), some (.int x1), some (.int x2), some (.int x3), some (.int x4), none, none, none, none], [.int 3, .int 0, .int x1], h)) rfl ?_
  refine gw_call (jj := 154) (As := [.int x1, .int 0, .int 3]) (rest := []) (hk _ _ rfl) (fun _ => rfl) rfl rfl (Nat.le_of_ble_eq_true rfl) rfl ?_
  refine ge_imp (w h hR) (fun v2 h w => ?_)
  obtain ⟨s_2, hR, x_2, rfl, w⟩ := w
  show gw (gt_T c.1 c.2.1 c.2.2.1) c.2.2.2 d 193 (11, [some (.ref 48), some (.int x1), some (.int x2), some (.int x3), some (.int x4), none, none, none, none], [.int x_2], h) _
  refine gw_br (c := x_2 = 0) (a := (20, [some (.ref 48), some (.int x1), some (.int x2), some (.int x3), some (.int x4), none, none, none, none], [], h)) (b := (14, [some (.ref 48), some (.int x1), some (.int x2), some (.int x3), some (.int x4), none, none, none, none], [], h)) (hk _ _ rfl) rfl ⟨fun z3 => ?_, fun z3 => ?_⟩
  · replace w := w.1 z3
    refine gw_le (L' := [none, none, none, none, none, none, none, none, none]) (gm_le_n _ (gm_le_n _ (gm_le_n _ (gm_le_n _ (gm_le_n _ (gm_le_k _ (gm_le_k _ (gm_le_k _ (gm_le_k _ gm_le_nil))))))))) ?_
    exact ok193_20 c d Post _ w _ hR
  · replace w := w.2 z3
    refine gw_pst hk 2 (st' := (17, [some (.ref 48), some (.int x1), some (.int x2), some (.int x3), some (.int x4), none, none, none, none], [.int 12, .int x2], h)) rfl ?_
    refine gw_br (c := x2 ≤ 12) (a := (22, [some (.ref 48), some (.int x1), some (.int x2), some (.int x3), some (.int x4), none, none, none, none], [], h)) (b := (20, [some (.ref 48), some (.int x1), some (.int x2), some (.int x3), some (.int x4), none, none, none, none], [], h)) (hk _ _ rfl) rfl ⟨fun z4 => ?_, fun z4 => ?_⟩
    · replace w := w.1 z4
      refine gw_pst hk 2 (st' := (24, [some (.ref 48), some (.int x1), some (.int x2), some (.int x3), some (.int x4), none, none, none, none], [.int 3, .int x1], h)) rfl ?_
      refine gw_br (c := 3 ≤ x1) (a := (34, [some (.ref 48), some (.int x1), some (.int x2), some (.int x3), some (.int x4), none, none, none, none], [], h)) (b := (27, [some (.ref 48), some (.int x1), some (.int x2), some (.int x3), some (.int x4), none, none, none, none], [], h)) (hk _ _ rfl) rfl ⟨fun z5 => ?_, fun z5 => ?_⟩
      · replace w := w.1 z5
        exact ok193_34 c d Post _ _ _ _ _ w _ hR
      · replace w := w.2 z5
        refine gw_pst hk 1 (st' := (28, [some (.ref 48), some (.int x1), some (.int x2), some (.int x3), some (.int x4), none, none, none, none], [.int x2], h)) rfl ?_
        refine gw_br (c := 0 ≤ x2) (a := (34, [some (.ref 48), some (.int x1), some (.int x2), some (.int x3), some (.int x4), none, none, none, none], [], h)) (b := (31, [some (.ref 48), some (.int x1), some (.int x2), some (.int x3), some (.int x4), none, none, none, none], [], h)) (hk _ _ rfl) rfl ⟨fun z6 => ?_, fun z6 => ?_⟩
        · replace w := w.1 z6
          exact ok193_34 c d Post _ _ _ _ _ w _ hR
        · replace w := w.2 z6
          refine gw_pst hk 1 (st' := (33, [some (.ref 48), some (.int x1), some (.int x2), some (.int x3), some (.int x4), none, none, none, none], [.int (-2)], h)) rfl ?_
          exact gw_ret (hk _ _ rfl) rfl ⟨_, hR, w⟩
    · replace w := w.2 z4
      refine gw_le (L' := [none, none, none, none, none, none, none, none, none]) (gm_le_n _ (gm_le_n _ (gm_le_n _ (gm_le_n _ (gm_le_n _ (gm_le_k _ (gm_le_k _ (gm_le_k _ (gm_le_k _ gm_le_nil))))))))) ?_
      exact ok193_20 c d Post _ w _ hR
def wb194_2 (c : gx) (d : Nat) (Post : Option Value → gs → Prop) (K2 : Nat → Nat → Int32 → Int32 → gs → Prop) (r0 : Nat) (r1 : Nat) (x2 : Int32) (x3 : Int32) (s : gs) : Prop :=
  ((108 ≤ x3 → Post none s) ∧ (¬ (108 ≤ x3) → ∃ n2, gs_isA r0 0 n2 = true ∧ vp_in x3 n2 ∧ ∃ n3, gs_isA r1 0 n3 = true ∧ vp_in (x2 + x3) n3 ∧ ∀ s_3 : gs, s_3 = gs_A s r1 (x2 + x3 : Int32).toNatClampNeg (vp_nar .int (gsA s r0 (x3 : Int32).toNatClampNeg)) → K2 r0 r1 x2 (x3 + 1) s_3))
theorem okb194_2 (c : gx) (d : Nat) (Post : Option Value → gs → Prop) (K2 : Nat → Nat → Int32 → Int32 → gs → Prop)  (hK2 : ∀ (r0 : Nat) (r1 : Nat) (x2 : Int32) (x3 : Int32) (s : gs), K2 r0 r1 x2 x3 s → tV c d 194 2 [some (.ref r0), some (.ref r1), some (.int x2), some (.int x3)] [] s Post) (r0 : Nat) (r1 : Nat) (x2 : Int32) (x3 : Int32) (s : gs) (w : wb194_2 c d Post K2 r0 r1 x2 x3 s) : tV c d 194 2 [some (.ref r0), some (.ref r1), some (.int x2), some (.int x3)] [] s Post := by
  intro h hR
  have hk : ∀ pc i, gm_find gk_194 pc = some i → gm_code (gt_T c.1 c.2.1 c.2.2.1) 194 pc = some i := fun _ _ z => z
  unfold wb194_2 at w
  unfold gV
  refine gw_pst hk 2 (st' := (5, [some (.ref r0), some (.ref r1), some (.int x2), some (.int x3)], [.int 108, .int x3], h)) rfl ?_
  refine gw_br (c := 108 ≤ x3) (a := (22, [some (.ref r0), some (.ref r1), some (.int x2), some (.int x3)], [], h)) (b := (8, [some (.ref r0), some (.ref r1), some (.int x2), some (.int x3)], [], h)) (hk _ _ rfl) rfl ⟨fun z1 => ?_, fun z1 => ?_⟩
  · replace w := w.1 z1
    exact gw_ret (hk _ _ rfl) rfl ⟨_, hR, w⟩
  · replace w := w.2 z1
    refine gw_pst hk 6 (st' := (14, [some (.ref r0), some (.ref r1), some (.int x2), some (.int x3)], [.int x3, .ref r0, .int (x2 + x3), .ref r1], h)) rfl ?_
    obtain ⟨n2, a2, b2, w⟩ := w
    refine gw_ald (hk _ _ rfl) (Or.inl ⟨rfl, rfl⟩) (RL_a (t := 0) (n := n2) hR a2 (by decide)) b2 ?_
    obtain ⟨n3, a3, b3, w⟩ := w
    have hR3 := RL_pA (a := r1) (t := 0) (n := n3) (k := (x2 + x3 : Int32).toNatClampNeg) (x := (vp_nar .int (gsA s r0 (x3 : Int32).toNatClampNeg))) hR a3 (by decide)
    refine gw_ast (hk _ _ rfl) (Or.inl ⟨rfl, rfl, rfl⟩) (RL_a (t := 0) (n := n3) hR a3 (by decide)) b3 ?_
    generalize gm_put h _ _ = h at hR3 ⊢
    obtain ⟨s_3, es3⟩ : ∃ z, z = gs_A s r1 (x2 + x3 : Int32).toNatClampNeg (vp_nar .int (gsA s r0 (x3 : Int32).toNatClampNeg)) := ⟨_, rfl⟩
    rw [← es3] at hR3
    replace w := w s_3 es3
    replace hR := hR3
    refine gw_pst hk 2 (st' := (2, [some (.ref r0), some (.ref r1), some (.int x2), some (.int (x3 + 1))], [], h)) rfl ?_
    exact hK2 _ _ _ _ _ w _ hR
def wl194_2 (c : gx) (d : Nat) (Post : Option Value → gs → Prop) : Nat → Nat → Nat → Int32 → Int32 → gs → Prop
  | 0 => fun _ _ _ _ _ => False
  | n + 1 => wb194_2 c d Post (wl194_2 c d Post n)
theorem okl194_2 (c : gx) (d : Nat) (Post : Option Value → gs → Prop) : ∀ (n : Nat) (r0 : Nat) (r1 : Nat) (x2 : Int32) (x3 : Int32) (s : gs), wl194_2 c d Post n r0 r1 x2 x3 s → tV c d 194 2 [some (.ref r0), some (.ref r1), some (.int x2), some (.int x3)] [] s Post
  | 0, _, _, _, _, _, w => w.elim
  | n + 1, r0, r1, x2, x3, s, w => okb194_2 c d Post (wl194_2 c d Post n) (okl194_2 c d Post n) r0 r1 x2 x3 s w
/-- CommandByTurnsModel.lay([I[II)V -/
def wm194 (c : gx) (d : Nat) (Post : Option Value → gs → Prop) (r0 : Nat) (r1 : Nat) (x2 : Int32) (s : gs) : Prop :=
  ∃ n, wl194_2 c d Post n r0 r1 x2 0 s
theorem okm194 (c : gx) (d : Nat) (Post : Option Value → gs → Prop) (r0 : Nat) (r1 : Nat) (x2 : Int32) (s : gs) (w : wm194 c d Post r0 r1 x2 s) : tE c (d + 1) 194 [.ref r0, .ref r1, .int x2] s Post := by
  intro h hR
  have hk : ∀ pc i, gm_find gk_194 pc = some i → gm_code (gt_T c.1 c.2.1 c.2.2.1) 194 pc = some i := fun _ _ z => z
  unfold wm194 at w
  refine ge_of (by decide) (Nat.le_of_ble_eq_true rfl) ?_
  show gw (gt_T c.1 c.2.1 c.2.2.1) c.2.2.2 d 194 (0, [some (.ref r0), some (.ref r1), some (.int x2), none], [], h) _
  refine gw_pst hk 2 (st' := (2, [some (.ref r0), some (.ref r1), some (.int x2), some (.int 0)], [], h)) rfl ?_
  obtain ⟨n, w⟩ := w
  exact okl194_2 c d Post n _ _ _ _ _ w _ hR
def w195_49 (c : gx) (d : Nat) (Post : Option Value → gs → Prop) (r1 : Nat) (s : gs) : Prop :=
  tE c d 194 [.ref r1, .ref 63, .int (108 * (gsV s 48 26))] s (fun v3 s_3 => v3 = none ∧ ∀ s_5 : gs, s_5 = gs_V s_3 48 26 ((gsV s_3 48 26) + 1) → Post none s_5)
theorem ok195_49 (c : gx) (d : Nat) (Post : Option Value → gs → Prop)  (r1 : Nat) (s : gs) (w : w195_49 c d Post r1 s) : tV c d 195 49 [some (.ref 48), some (.ref r1), none] [] s Post := by
  intro h hR
  have hk : ∀ pc i, gm_find gk_195 pc = some i → gm_code (gt_T c.1 c.2.1 c.2.2.1) 195 pc = some i := fun _ _ z => z
  unfold w195_49 at w
  unfold gV
  refine gw_pst hk 2 (st' := (51, [some (.ref 48), some (.ref r1), none], [.ref 48, .ref r1], h)) rfl ?_
  refine gw_gf (hk _ _ rfl) (RL_fR (n := 63) hR rfl) ?_
  refine gw_pst hk 2 (st' := (57, [some (.ref 48), some (.ref r1), none], [.ref 48, .int 108, .ref 63, .ref r1], h)) rfl ?_
  refine gw_gf (hk _ _ rfl) (RL_fI hR rfl) ?_
  refine gw_pst hk 1 (st' := (61, [some (.ref 48), some (.ref r1), none], [.int (108 * (gsV s 48 26)), .ref 63, .ref r1], h)) rfl ?_
  refine gw_call (jj := 194) (As := [.ref r1, .ref 63, .int (108 * (gsV s 48 26))]) (rest := []) (hk _ _ rfl) (fun _ => rfl) rfl rfl (Nat.le_of_ble_eq_true rfl) rfl ?_
  refine ge_imp (w h hR) (fun v3 h w => ?_)
  obtain ⟨s_3, hR, rfl, w⟩ := w
  show gw (gt_T c.1 c.2.1 c.2.2.1) c.2.2.2 d 195 (64, [some (.ref 48), some (.ref r1), none], [], h) _
  refine gw_pst hk 2 (st' := (66, [some (.ref 48), some (.ref r1), none], [.ref 48, .ref 48], h)) rfl ?_
  refine gw_gf (hk _ _ rfl) (RL_fI hR rfl) ?_
  refine gw_pst hk 2 (st' := (71, [some (.ref 48), some (.ref r1), none], [.int ((gsV s_3 48 26) + 1), .ref 48], h)) rfl ?_
  obtain ⟨fs5, e5⟩ := RL_o hR (r := 48) (ci := 10) rfl
  obtain ⟨l5, hR5⟩ := RL_pI (k := 26) (x := (gsV s_3 48 26) + 1) hR rfl e5
  refine gw_pf (hk _ _ rfl) e5 l5 rfl ?_
  generalize gm_put h _ _ = h at hR5 ⊢
  obtain ⟨s_5, es5⟩ : ∃ z, z = gs_V s_3 48 26 ((gsV s_3 48 26) + 1) := ⟨_, rfl⟩
  rw [← es5] at hR5
  replace w := w s_5 es5
  replace hR := hR5
  exact gw_ret (hk _ _ rfl) rfl ⟨_, hR, w⟩
def wb195_11 (c : gx) (d : Nat) (Post : Option Value → gs → Prop) (K11 : Nat → Int32 → gs → Prop) (r1 : Nat) (x2 : Int32) (s : gs) : Prop :=
  ((1188 ≤ x2 → ∀ s_3 : gs, s_3 = gs_V s 48 26 ((gsV s 48 26) - 1) → w195_49 c d Post r1 s_3) ∧ (¬ (1188 ≤ x2) → vp_in (x2 + 108) 1296 ∧ vp_in x2 1296 ∧ ∀ s_7 : gs, s_7 = gs_A s 63 (x2 : Int32).toNatClampNeg (vp_nar .int (gsA s 63 (x2 + 108 : Int32).toNatClampNeg)) → K11 r1 (x2 + 1) s_7))
theorem okb195_11 (c : gx) (d : Nat) (Post : Option Value → gs → Prop) (K11 : Nat → Int32 → gs → Prop)  (hK11 : ∀ (r1 : Nat) (x2 : Int32) (s : gs), K11 r1 x2 s → tV c d 195 11 [some (.ref 48), some (.ref r1), some (.int x2)] [] s Post) (r1 : Nat) (x2 : Int32) (s : gs) (w : wb195_11 c d Post K11 r1 x2 s) : tV c d 195 11 [some (.ref 48), some (.ref r1), some (.int x2)] [] s Post := by
  intro h hR
  have hk : ∀ pc i, gm_find gk_195 pc = some i → gm_code (gt_T c.1 c.2.1 c.2.2.1) 195 pc = some i := fun _ _ z => z
  unfold wb195_11 at w
  unfold gV
  refine gw_pst hk 2 (st' := (15, [some (.ref 48), some (.ref r1), some (.int x2)], [.int 1188, .int x2], h)) rfl ?_
  refine gw_br (c := 1188 ≤ x2) (a := (39, [some (.ref 48), some (.ref r1), some (.int x2)], [], h)) (b := (18, [some (.ref 48), some (.ref r1), some (.int x2)], [], h)) (hk _ _ rfl) rfl ⟨fun z1 => ?_, fun z1 => ?_⟩
  · replace w := w.1 z1
    refine gw_pst hk 2 (st' := (41, [some (.ref 48), some (.ref r1), some (.int x2)], [.ref 48, .ref 48], h)) rfl ?_
    refine gw_gf (hk _ _ rfl) (RL_fI hR rfl) ?_
    refine gw_pst hk 2 (st' := (46, [some (.ref 48), some (.ref r1), some (.int x2)], [.int ((gsV s 48 26) - 1), .ref 48], h)) rfl ?_
    obtain ⟨fs3, e3⟩ := RL_o hR (r := 48) (ci := 10) rfl
    obtain ⟨l3, hR3⟩ := RL_pI (k := 26) (x := (gsV s 48 26) - 1) hR rfl e3
    refine gw_pf (hk _ _ rfl) e3 l3 rfl ?_
    generalize gm_put h _ _ = h at hR3 ⊢
    obtain ⟨s_3, es3⟩ : ∃ z, z = gs_V s 48 26 ((gsV s 48 26) - 1) := ⟨_, rfl⟩
    rw [← es3] at hR3
    replace w := w s_3 es3
    replace hR := hR3
    refine gw_le (L' := [some (.ref 48), some (.ref r1), none]) (gm_le_k _ (gm_le_k _ (gm_le_n _ gm_le_nil))) ?_
    exact ok195_49 c d Post _ _ w _ hR
  · replace w := w.2 z1
    refine gw_pst hk 1 (st' := (19, [some (.ref 48), some (.ref r1), some (.int x2)], [.ref 48], h)) rfl ?_
    refine gw_gf (hk _ _ rfl) (RL_fR (n := 63) hR rfl) ?_
    refine gw_pst hk 2 (st' := (24, [some (.ref 48), some (.ref r1), some (.int x2)], [.ref 48, .int x2, .ref 63], h)) rfl ?_
    refine gw_gf (hk _ _ rfl) (RL_fR (n := 63) hR rfl) ?_
    refine gw_pst hk 3 (st' := (31, [some (.ref 48), some (.ref r1), some (.int x2)], [.int (x2 + 108), .ref 63, .int x2, .ref 63], h)) rfl ?_
    obtain ⟨b6, w⟩ := w
    refine gw_ald (hk _ _ rfl) (Or.inl ⟨rfl, rfl⟩) (RL_a (t := 0) (n := 1296) hR rfl (by decide)) b6 ?_
    obtain ⟨b7, w⟩ := w
    have hR7 := RL_pA (a := 63) (t := 0) (n := 1296) (k := (x2 : Int32).toNatClampNeg) (x := (vp_nar .int (gsA s 63 (x2 + 108 : Int32).toNatClampNeg))) hR rfl (by decide)
    refine gw_ast (hk _ _ rfl) (Or.inl ⟨rfl, rfl, rfl⟩) (RL_a (t := 0) (n := 1296) hR rfl (by decide)) b7 ?_
    generalize gm_put h _ _ = h at hR7 ⊢
    obtain ⟨s_7, es7⟩ : ∃ z, z = gs_A s 63 (x2 : Int32).toNatClampNeg (vp_nar .int (gsA s 63 (x2 + 108 : Int32).toNatClampNeg)) := ⟨_, rfl⟩
    rw [← es7] at hR7
    replace w := w s_7 es7
    replace hR := hR7
    refine gw_pst hk 2 (st' := (11, [some (.ref 48), some (.ref r1), some (.int (x2 + 1))], [], h)) rfl ?_
    exact hK11 _ _ _ w _ hR
def wl195_11 (c : gx) (d : Nat) (Post : Option Value → gs → Prop) : Nat → Nat → Int32 → gs → Prop
  | 0 => fun _ _ _ => False
  | n + 1 => wb195_11 c d Post (wl195_11 c d Post n)
theorem okl195_11 (c : gx) (d : Nat) (Post : Option Value → gs → Prop) : ∀ (n : Nat) (r1 : Nat) (x2 : Int32) (s : gs), wl195_11 c d Post n r1 x2 s → tV c d 195 11 [some (.ref 48), some (.ref r1), some (.int x2)] [] s Post
  | 0, _, _, _, w => w.elim
  | n + 1, r1, x2, s, w => okb195_11 c d Post (wl195_11 c d Post n) (okl195_11 c d Post n) r1 x2 s w
/-- CommandByTurnsModel.remember([I)V -/
def wm195 (c : gx) (d : Nat) (Post : Option Value → gs → Prop) (r1 : Nat) (s : gs) : Prop :=
  (((gsV s 48 26) = 12 → ∃ n, wl195_11 c d Post n r1 0 s) ∧ (¬ ((gsV s 48 26) = 12) → w195_49 c d Post r1 s))
theorem okm195 (c : gx) (d : Nat) (Post : Option Value → gs → Prop) (r1 : Nat) (s : gs) (w : wm195 c d Post r1 s) : tE c (d + 1) 195 [.ref 48, .ref r1] s Post := by
  intro h hR
  have hk : ∀ pc i, gm_find gk_195 pc = some i → gm_code (gt_T c.1 c.2.1 c.2.2.1) 195 pc = some i := fun _ _ z => z
  unfold wm195 at w
  refine ge_of (by decide) (Nat.le_of_ble_eq_true rfl) ?_
  show gw (gt_T c.1 c.2.1 c.2.2.1) c.2.2.2 d 195 (0, [some (.ref 48), some (.ref r1), none], [], h) _
  refine gw_pst hk 1 (st' := (1, [some (.ref 48), some (.ref r1), none], [.ref 48], h)) rfl ?_
  refine gw_gf (hk _ _ rfl) (RL_fI hR rfl) ?_
  refine gw_pst hk 1 (st' := (6, [some (.ref 48), some (.ref r1), none], [.int 12, .int (gsV s 48 26)], h)) rfl ?_
  refine gw_br (c := (gsV s 48 26) = 12) (a := (9, [some (.ref 48), some (.ref r1), none], [], h)) (b := (49, [some (.ref 48), some (.ref r1), none], [], h)) (hk _ _ rfl) rfl ⟨fun z2 => ?_, fun z2 => ?_⟩
  · replace w := w.1 z2
    refine gw_pst hk 2 (st' := (11, [some (.ref 48), some (.ref r1), some (.int 0)], [], h)) rfl ?_
    obtain ⟨n, w⟩ := w
    exact okl195_11 c d Post n _ _ _ w _ hR
  · replace w := w.2 z2
    exact ok195_49 c d Post _ _ w _ hR
/-- CommandByTurnsModel.takes([I)I -/
def wm196 (c : gx) (d : Nat) (Post : Option Value → gs → Prop) (r0 : Nat) (s : gs) : Prop :=
  ∃ n1, gs_isA r0 0 n1 = true ∧ vp_in 3 n1 ∧ Post (some (.int (((gsA s r0 (3 : Int32).toNatClampNeg) / 100) + 1))) s
theorem okm196 (c : gx) (d : Nat) (Post : Option Value → gs → Prop) (r0 : Nat) (s : gs) (w : wm196 c d Post r0 s) : tE c (d + 1) 196 [.ref r0] s Post := by
  intro h hR
  have hk : ∀ pc i, gm_find gk_196 pc = some i → gm_code (gt_T c.1 c.2.1 c.2.2.1) 196 pc = some i := fun _ _ z => z
  unfold wm196 at w
  refine ge_of (by decide) (Nat.le_of_ble_eq_true rfl) ?_
  show gw (gt_T c.1 c.2.1 c.2.2.1) c.2.2.2 d 196 (0, [some (.ref r0)], [], h) _
  refine gw_pst hk 2 (st' := (2, [some (.ref r0)], [.int 3, .ref r0], h)) rfl ?_
  obtain ⟨n1, a1, b1, w⟩ := w
  refine gw_ald (hk _ _ rfl) (Or.inl ⟨rfl, rfl⟩) (RL_a (t := 0) (n := n1) hR a1 (by decide)) b1 ?_
  refine gw_pst hk 1 (st' := (5, [some (.ref r0)], [.int 100, .int (gsA s r0 (3 : Int32).toNatClampNeg)], h)) rfl ?_
  refine gw_idiv (hk _ _ rfl) (by decide) ?_ rfl
  refine gw_pst hk 2 (st' := (8, [some (.ref r0)], [.int (((gsA s r0 (3 : Int32).toNatClampNeg) / 100) + 1)], h)) rfl ?_
  exact gw_ret (hk _ _ rfl) rfl ⟨_, hR, w⟩
def w197_38 (c : gx) (d : Nat) (Post : Option Value → gs → Prop) (r0 : Nat) (s : gs) : Prop :=
  ∃ n1, gs_isA r0 0 n1 = true ∧ vp_in 0 n1 ∧ ∃ n2, gs_isA r0 0 n2 = true ∧ vp_in 0 n2 ∧ ∀ s_2 : gs, s_2 = gs_A s r0 (0 : Int32).toNatClampNeg (vp_nar .int ((gsA s r0 (0 : Int32).toNatClampNeg) + 1)) → Post none s_2
theorem ok197_38 (c : gx) (d : Nat) (Post : Option Value → gs → Prop)  (r0 : Nat) (s : gs) (w : w197_38 c d Post r0 s) : tV c d 197 38 [some (.ref r0), none] [] s Post := by
  intro h hR
  have hk : ∀ pc i, gm_find gk_197 pc = some i → gm_code (gt_T c.1 c.2.1 c.2.2.1) 197 pc = some i := fun _ _ z => z
  unfold w197_38 at w
  unfold gV
  refine gw_pst hk 3 (st' := (41, [some (.ref r0), none], [.int 0, .ref r0, .int 0, .ref r0], h)) rfl ?_
  obtain ⟨n1, a1, b1, w⟩ := w
  refine gw_ald (hk _ _ rfl) (Or.inl ⟨rfl, rfl⟩) (RL_a (t := 0) (n := n1) hR a1 (by decide)) b1 ?_
  refine gw_pst hk 2 (st' := (44, [some (.ref r0), none], [.int ((gsA s r0 (0 : Int32).toNatClampNeg) + 1), .int 0, .ref r0], h)) rfl ?_
  obtain ⟨n2, a2, b2, w⟩ := w
  have hR2 := RL_pA (a := r0) (t := 0) (n := n2) (k := (0 : Int32).toNatClampNeg) (x := (vp_nar .int ((gsA s r0 (0 : Int32).toNatClampNeg) + 1))) hR a2 (by decide)
  refine gw_ast (hk _ _ rfl) (Or.inl ⟨rfl, rfl, rfl⟩) (RL_a (t := 0) (n := n2) hR a2 (by decide)) b2 ?_
  generalize gm_put h _ _ = h at hR2 ⊢
  obtain ⟨s_2, es2⟩ : ∃ z, z = gs_A s r0 (0 : Int32).toNatClampNeg (vp_nar .int ((gsA s r0 (0 : Int32).toNatClampNeg) + 1)) := ⟨_, rfl⟩
  rw [← es2] at hR2
  replace w := w s_2 es2
  replace hR := hR2
  exact gw_ret (hk _ _ rfl) rfl ⟨_, hR, w⟩
/-- CommandByTurnsModel.goNight([I)V -/
def wm197 (c : gx) (d : Nat) (Post : Option Value → gs → Prop) (r0 : Nat) (s : gs) : Prop :=
  tE c d 196 [.ref r0] s (fun v1 s_1 => ∃ x_1 : Int32, v1 = some (.int x_1) ∧ ∃ n2, gs_isA r0 0 n2 = true ∧ vp_in 5 n2 ∧ ((x_1 ≤ (gsA s_1 r0 (5 : Int32).toNatClampNeg) → ∃ n4, gs_isA r0 0 n4 = true ∧ vp_in 5 n4 ∧ ∃ n5, gs_isA r0 0 n5 = true ∧ vp_in 5 n5 ∧ ∀ s_5 : gs, s_5 = gs_A s_1 r0 (5 : Int32).toNatClampNeg (vp_nar .int ((gsA s_1 r0 (5 : Int32).toNatClampNeg) - x_1)) → w197_38 c d Post r0 s_5) ∧ (¬ (x_1 ≤ (gsA s_1 r0 (5 : Int32).toNatClampNeg)) → ∃ n6, gs_isA r0 0 n6 = true ∧ vp_in 5 n6 ∧ ∀ s_6 : gs, s_6 = gs_A s_1 r0 (5 : Int32).toNatClampNeg (vp_nar .int 0) → ∃ n7, gs_isA r0 0 n7 = true ∧ vp_in 3 n7 ∧ ∃ n8, gs_isA r0 0 n8 = true ∧ vp_in 3 n8 ∧ ∃ n9, gs_isA r0 0 n9 = true ∧ vp_in 3 n9 ∧ ∀ s_9 : gs, s_9 = gs_A s_6 r0 (3 : Int32).toNatClampNeg (vp_nar .int ((gsA s_6 r0 (3 : Int32).toNatClampNeg) - ((gsA s_6 r0 (3 : Int32).toNatClampNeg) / 10))) → w197_38 c d Post r0 s_9)))
theorem okm197 (c : gx) (d : Nat) (Post : Option Value → gs → Prop) (r0 : Nat) (s : gs) (w : wm197 c d Post r0 s) : tE c (d + 1) 197 [.ref r0] s Post := by
  intro h hR
  have hk : ∀ pc i, gm_find gk_197 pc = some i → gm_code (gt_T c.1 c.2.1 c.2.2.1) 197 pc = some i := fun _ _ z => z
  unfold wm197 at w
  refine ge_of (by decide) (Nat.le_of_ble_eq_true rfl) ?_
  show gw (gt_T c.1 c.2.1 c.2.2.1) c.2.2.2 d 197 (0, [some (.ref r0), none], [], h) _
  refine gw_pst hk 1 (st' := (1, [some (.ref r0), none], [.ref r0], h)) rfl ?_
  refine gw_call (jj := 196) (As := [.ref r0]) (rest := []) (hk _ _ rfl) (fun _ => rfl) rfl rfl (Nat.le_of_ble_eq_true rfl) rfl ?_
  refine ge_imp (w h hR) (fun v1 h w => ?_)
  obtain ⟨s_1, hR, x_1, rfl, w⟩ := w
  show gw (gt_T c.1 c.2.1 c.2.2.1) c.2.2.2 d 197 (4, [some (.ref r0), none], [.int x_1], h) _
  refine gw_pst hk 3 (st' := (7, [some (.ref r0), some (.int x_1)], [.int 5, .ref r0], h)) rfl ?_
  obtain ⟨n2, a2, b2, w⟩ := w
  refine gw_ald (hk _ _ rfl) (Or.inl ⟨rfl, rfl⟩) (RL_a (t := 0) (n := n2) hR a2 (by decide)) b2 ?_
  refine gw_pst hk 1 (st' := (9, [some (.ref r0), some (.int x_1)], [.int x_1, .int (gsA s_1 r0 (5 : Int32).toNatClampNeg)], h)) rfl ?_
  refine gw_br (c := x_1 ≤ (gsA s_1 r0 (5 : Int32).toNatClampNeg)) (a := (31, [some (.ref r0), some (.int x_1)], [], h)) (b := (12, [some (.ref r0), some (.int x_1)], [], h)) (hk _ _ rfl) rfl ⟨fun z3 => ?_, fun z3 => ?_⟩
  · replace w := w.1 z3
    refine gw_pst hk 3 (st' := (34, [some (.ref r0), some (.int x_1)], [.int 5, .ref r0, .int 5, .ref r0], h)) rfl ?_
    obtain ⟨n4, a4, b4, w⟩ := w
    refine gw_ald (hk _ _ rfl) (Or.inl ⟨rfl, rfl⟩) (RL_a (t := 0) (n := n4) hR a4 (by decide)) b4 ?_
    refine gw_pst hk 2 (st' := (37, [some (.ref r0), some (.int x_1)], [.int ((gsA s_1 r0 (5 : Int32).toNatClampNeg) - x_1), .int 5, .ref r0], h)) rfl ?_
    obtain ⟨n5, a5, b5, w⟩ := w
    have hR5 := RL_pA (a := r0) (t := 0) (n := n5) (k := (5 : Int32).toNatClampNeg) (x := (vp_nar .int ((gsA s_1 r0 (5 : Int32).toNatClampNeg) - x_1))) hR a5 (by decide)
    refine gw_ast (hk _ _ rfl) (Or.inl ⟨rfl, rfl, rfl⟩) (RL_a (t := 0) (n := n5) hR a5 (by decide)) b5 ?_
    generalize gm_put h _ _ = h at hR5 ⊢
    obtain ⟨s_5, es5⟩ : ∃ z, z = gs_A s_1 r0 (5 : Int32).toNatClampNeg (vp_nar .int ((gsA s_1 r0 (5 : Int32).toNatClampNeg) - x_1)) := ⟨_, rfl⟩
    rw [← es5] at hR5
    replace w := w s_5 es5
    replace hR := hR5
    refine gw_le (L' := [some (.ref r0), none]) (gm_le_k _ (gm_le_n _ gm_le_nil)) ?_
    exact ok197_38 c d Post _ _ w _ hR
  · replace w := w.2 z3
    refine gw_pst hk 3 (st' := (15, [some (.ref r0), some (.int x_1)], [.int 0, .int 5, .ref r0], h)) rfl ?_
    obtain ⟨n6, a6, b6, w⟩ := w
    have hR6 := RL_pA (a := r0) (t := 0) (n := n6) (k := (5 : Int32).toNatClampNeg) (x := (vp_nar .int 0)) hR a6 (by decide)
    refine gw_ast (hk _ _ rfl) (Or.inl ⟨rfl, rfl, rfl⟩) (RL_a (t := 0) (n := n6) hR a6 (by decide)) b6 ?_
    generalize gm_put h _ _ = h at hR6 ⊢
    obtain ⟨s_6, es6⟩ : ∃ z, z = gs_A s_1 r0 (5 : Int32).toNatClampNeg (vp_nar .int 0) := ⟨_, rfl⟩
    rw [← es6] at hR6
    replace w := w s_6 es6
    replace hR := hR6
    refine gw_pst hk 3 (st' := (19, [some (.ref r0), some (.int x_1)], [.int 3, .ref r0, .int 3, .ref r0], h)) rfl ?_
    obtain ⟨n7, a7, b7, w⟩ := w
    refine gw_ald (hk _ _ rfl) (Or.inl ⟨rfl, rfl⟩) (RL_a (t := 0) (n := n7) hR a7 (by decide)) b7 ?_
    refine gw_pst hk 2 (st' := (22, [some (.ref r0), some (.int x_1)], [.int 3, .ref r0, .int (gsA s_6 r0 (3 : Int32).toNatClampNeg), .int 3, .ref r0], h)) rfl ?_
    obtain ⟨n8, a8, b8, w⟩ := w
    refine gw_ald (hk _ _ rfl) (Or.inl ⟨rfl, rfl⟩) (RL_a (t := 0) (n := n8) hR a8 (by decide)) b8 ?_
    refine gw_pst hk 1 (st' := (25, [some (.ref r0), some (.int x_1)], [.int 10, .int (gsA s_6 r0 (3 : Int32).toNatClampNeg), .int (gsA s_6 r0 (3 : Int32).toNatClampNeg), .int 3, .ref r0], h)) rfl ?_
    refine gw_idiv (hk _ _ rfl) (by decide) ?_ rfl
    refine gw_pst hk 1 (st' := (27, [some (.ref r0), some (.int x_1)], [.int ((gsA s_6 r0 (3 : Int32).toNatClampNeg) - ((gsA s_6 r0 (3 : Int32).toNatClampNeg) / 10)), .int 3, .ref r0], h)) rfl ?_
    obtain ⟨n9, a9, b9, w⟩ := w
    have hR9 := RL_pA (a := r0) (t := 0) (n := n9) (k := (3 : Int32).toNatClampNeg) (x := (vp_nar .int ((gsA s_6 r0 (3 : Int32).toNatClampNeg) - ((gsA s_6 r0 (3 : Int32).toNatClampNeg) / 10)))) hR a9 (by decide)
    refine gw_ast (hk _ _ rfl) (Or.inl ⟨rfl, rfl, rfl⟩) (RL_a (t := 0) (n := n9) hR a9 (by decide)) b9 ?_
    generalize gm_put h _ _ = h at hR9 ⊢
    obtain ⟨s_9, es9⟩ : ∃ z, z = gs_A s_6 r0 (3 : Int32).toNatClampNeg (vp_nar .int ((gsA s_6 r0 (3 : Int32).toNatClampNeg) - ((gsA s_6 r0 (3 : Int32).toNatClampNeg) / 10))) := ⟨_, rfl⟩
    rw [← es9] at hR9
    replace w := w s_9 es9
    replace hR := hR9
    refine gw_pst hk 1 (st' := (38, [some (.ref r0), some (.int x_1)], [], h)) rfl ?_
    refine gw_le (L' := [some (.ref r0), none]) (gm_le_k _ (gm_le_n _ gm_le_nil)) ?_
    exact ok197_38 c d Post _ _ w _ hR
/-- CommandByTurnsModel.whose()I -/
def wm198 (c : gx) (d : Nat) (Post : Option Value → gs → Prop)  (s : gs) : Prop :=
  ∀ s_1 : gs, s_1 = gs_V s 48 13 0 → vp_in 0 108 ∧ tE c d 184 [.ref 49, .int (gsA s_1 49 (0 : Int32).toNatClampNeg)] s_1 (fun v5 s_5 => ∃ x_5 : Int32, v5 = some (.int x_5) ∧ Post (some (.int x_5)) s_5)
theorem okm198 (c : gx) (d : Nat) (Post : Option Value → gs → Prop)  (s : gs) (w : wm198 c d Post  s) : tE c (d + 1) 198 [.ref 48] s Post := by
  intro h hR
  have hk : ∀ pc i, gm_find gk_198 pc = some i → gm_code (gt_T c.1 c.2.1 c.2.2.1) 198 pc = some i := fun _ _ z => z
  unfold wm198 at w
  refine ge_of (by decide) (Nat.le_of_ble_eq_true rfl) ?_
  show gw (gt_T c.1 c.2.1 c.2.2.1) c.2.2.2 d 198 (0, [some (.ref 48)], [], h) _
  refine gw_pst hk 2 (st' := (2, [some (.ref 48)], [.int 0, .ref 48], h)) rfl ?_
  obtain ⟨fs1, e1⟩ := RL_o hR (r := 48) (ci := 10) rfl
  obtain ⟨l1, hR1⟩ := RL_pI (k := 13) (x := 0) hR rfl e1
  refine gw_pf (hk _ _ rfl) e1 l1 rfl ?_
  generalize gm_put h _ _ = h at hR1 ⊢
  obtain ⟨s_1, es1⟩ : ∃ z, z = gs_V s 48 13 0 := ⟨_, rfl⟩
  rw [← es1] at hR1
  replace w := w s_1 es1
  replace hR := hR1
  refine gw_pst hk 1 (st' := (6, [some (.ref 48)], [.ref 48], h)) rfl ?_
  refine gw_gf (hk _ _ rfl) (RL_fR (n := 49) hR rfl) ?_
  refine gw_pst hk 1 (st' := (10, [some (.ref 48)], [.ref 48, .ref 49], h)) rfl ?_
  refine gw_gf (hk _ _ rfl) (RL_fR (n := 49) hR rfl) ?_
  refine gw_pst hk 1 (st' := (14, [some (.ref 48)], [.int 0, .ref 49, .ref 49], h)) rfl ?_
  obtain ⟨b4, w⟩ := w
  refine gw_ald (hk _ _ rfl) (Or.inl ⟨rfl, rfl⟩) (RL_a (t := 0) (n := 108) hR rfl (by decide)) b4 ?_
  refine gw_call (jj := 184) (As := [.ref 49, .int (gsA s_1 49 (0 : Int32).toNatClampNeg)]) (rest := []) (hk _ _ rfl) (fun _ => rfl) rfl rfl (Nat.le_of_ble_eq_true rfl) rfl ?_
  refine ge_imp (w h hR) (fun v5 h w => ?_)
  obtain ⟨s_5, hR, x_5, rfl, w⟩ := w
  show gw (gt_T c.1 c.2.1 c.2.2.1) c.2.2.2 d 198 (18, [some (.ref 48)], [.int x_5], h) _
  exact gw_ret (hk _ _ rfl) rfl ⟨_, hR, w⟩
def w199_15 (c : gx) (d : Nat) (Post : Option Value → gs → Prop)  (s : gs) : Prop :=
  Post (some (.int (-1))) s
theorem ok199_15 (c : gx) (d : Nat) (Post : Option Value → gs → Prop)   (s : gs) (w : w199_15 c d Post  s) : tV c d 199 15 [none, none, none, none] [] s Post := by
  intro h hR
  have hk : ∀ pc i, gm_find gk_199 pc = some i → gm_code (gt_T c.1 c.2.1 c.2.2.1) 199 pc = some i := fun _ _ z => z
  unfold w199_15 at w
  unfold gV
  refine gw_pst hk 1 (st' := (16, [none, none, none, none], [.int (-1)], h)) rfl ?_
  exact gw_ret (hk _ _ rfl) rfl ⟨_, hR, w⟩
def w199_106 (c : gx) (d : Nat) (Post : Option Value → gs → Prop) (xs0 : Int32) (s : gs) : Prop :=
  Post (some (.int xs0)) s
theorem ok199_106 (c : gx) (d : Nat) (Post : Option Value → gs → Prop)  (xs0 : Int32) (s : gs) (w : w199_106 c d Post xs0 s) : tV c d 199 106 [none, none, none, none] [.int xs0] s Post := by
  intro h hR
  have hk : ∀ pc i, gm_find gk_199 pc = some i → gm_code (gt_T c.1 c.2.1 c.2.2.1) 199 pc = some i := fun _ _ z => z
  unfold w199_106 at w
  unfold gV
  exact gw_ret (hk _ _ rfl) rfl ⟨_, hR, w⟩
/-- CommandByTurnsModel.refusesMarch(I)I -/
def wm199 (c : gx) (d : Nat) (Post : Option Value → gs → Prop) (x1 : Int32) (s : gs) : Prop :=
  tE c d 154 [.int x1, .int (-12), .int 12] s (fun v1 s_1 => ∃ x_1 : Int32, v1 = some (.int x_1) ∧ ((x_1 = 0 → w199_15 c d Post s_1) ∧ (¬ (x_1 = 0) → ((x1 = 0 → w199_15 c d Post s_1) ∧ (¬ (x1 = 0) → vp_in 0 108 ∧ tE c d 184 [.ref 49, .int (gsA s_1 49 (0 : Int32).toNatClampNeg)] s_1 (fun v7 s_7 => ∃ x_7 : Int32, v7 = some (.int x_7) ∧ ((x_7 = (-1) → Post (some (.int (-2))) s_7) ∧ (¬ (x_7 = (-1)) → vp_in 1 108 ∧ tE c d 158 [.ref 48, .int ((gsA s_7 49 (1 : Int32).toNatClampNeg) + x1)] s_7 (fun v11 s_11 => ∃ x_11 : Int32, v11 = some (.int x_11) ∧ ((x_11 = 0 → Post (some (.int (-3))) s_11) ∧ (¬ (x_11 = 0) → vp_in 1 108 ∧ tE c d 187 [.ref 48, .int (gsA s_11 49 (1 : Int32).toNatClampNeg), .int ((gsA s_7 49 (1 : Int32).toNatClampNeg) + x1)] s_11 (fun v15 s_15 => ∃ x_15 : Int32, v15 = some (.int x_15) ∧ tE c d 186 [.ref 48, .int x_7] s_15 (fun v16 s_16 => ∃ x_16 : Int32, v16 = some (.int x_16) ∧ ((x_15 ≤ x_16 → vp_in 1 108 ∧ vp_in 2 108 ∧ tE c d 188 [.int (gsA s_16 49 (1 : Int32).toNatClampNeg), .int ((gsA s_7 49 (1 : Int32).toNatClampNeg) + x1), .int (gsA s_16 49 (2 : Int32).toNatClampNeg)] s_16 (fun v22 s_22 => ∃ x_22 : Int32, v22 = some (.int x_22) ∧ ((x_22 = 0 → w199_106 c d Post 0 s_22) ∧ (¬ (x_22 = 0) → w199_106 c d Post (-5) s_22)))) ∧ (¬ (x_15 ≤ x_16) → Post (some (.int (-4))) s_16)))))))))))))))
theorem okm199 (c : gx) (d : Nat) (Post : Option Value → gs → Prop) (x1 : Int32) (s : gs) (w : wm199 c d Post x1 s) : tE c (d + 1) 199 [.ref 48, .int x1] s Post := by
  intro h hR
  have hk : ∀ pc i, gm_find gk_199 pc = some i → gm_code (gt_T c.1 c.2.1 c.2.2.1) 199 pc = some i := fun _ _ z => z
  unfold wm199 at w
  refine ge_of (by decide) (Nat.le_of_ble_eq_true rfl) ?_
  show gw (gt_T c.1 c.2.1 c.2.2.1) c.2.2.2 d 199 (0, [some (.ref 48), some (.int x1), none, none], [], h) _
  refine gw_pst hk 3 (st' := (5, [some (.ref 48), some (.int x1), none, none], [.int 12, .int (-12), .int x1], h)) rfl ?_
  refine gw_call (jj := 154) (As := [.int x1, .int (-12), .int 12]) (rest := []) (hk _ _ rfl) (fun _ => rfl) rfl rfl (Nat.le_of_ble_eq_true rfl) rfl ?_
  refine ge_imp (w h hR) (fun v1 h w => ?_)
  obtain ⟨s_1, hR, x_1, rfl, w⟩ := w
  show gw (gt_T c.1 c.2.1 c.2.2.1) c.2.2.2 d 199 (8, [some (.ref 48), some (.int x1), none, none], [.int x_1], h) _
  refine gw_br (c := x_1 = 0) (a := (15, [some (.ref 48), some (.int x1), none, none], [], h)) (b := (11, [some (.ref 48), some (.int x1), none, none], [], h)) (hk _ _ rfl) rfl ⟨fun z2 => ?_, fun z2 => ?_⟩
  · replace w := w.1 z2
    refine gw_le (L' := [none, none, none, none]) (gm_le_n _ (gm_le_n _ (gm_le_k _ (gm_le_k _ gm_le_nil)))) ?_
    exact ok199_15 c d Post _ w _ hR
  · replace w := w.2 z2
    refine gw_pst hk 1 (st' := (12, [some (.ref 48), some (.int x1), none, none], [.int x1], h)) rfl ?_
    refine gw_br (c := x1 = 0) (a := (15, [some (.ref 48), some (.int x1), none, none], [], h)) (b := (17, [some (.ref 48), some (.int x1), none, none], [], h)) (hk _ _ rfl) rfl ⟨fun z3 => ?_, fun z3 => ?_⟩
    · replace w := w.1 z3
      refine gw_le (L' := [none, none, none, none]) (gm_le_n _ (gm_le_n _ (gm_le_k _ (gm_le_k _ gm_le_nil)))) ?_
      exact ok199_15 c d Post _ w _ hR
    · replace w := w.2 z3
      refine gw_pst hk 1 (st' := (18, [some (.ref 48), some (.int x1), none, none], [.ref 48], h)) rfl ?_
      refine gw_gf (hk _ _ rfl) (RL_fR (n := 49) hR rfl) ?_
      refine gw_pst hk 1 (st' := (22, [some (.ref 48), some (.int x1), none, none], [.ref 48, .ref 49], h)) rfl ?_
      refine gw_gf (hk _ _ rfl) (RL_fR (n := 49) hR rfl) ?_
      refine gw_pst hk 1 (st' := (26, [some (.ref 48), some (.int x1), none, none], [.int 0, .ref 49, .ref 49], h)) rfl ?_
      obtain ⟨b6, w⟩ := w
      refine gw_ald (hk _ _ rfl) (Or.inl ⟨rfl, rfl⟩) (RL_a (t := 0) (n := 108) hR rfl (by decide)) b6 ?_
      refine gw_call (jj := 184) (As := [.ref 49, .int (gsA s_1 49 (0 : Int32).toNatClampNeg)]) (rest := []) (hk _ _ rfl) (fun _ => rfl) rfl rfl (Nat.le_of_ble_eq_true rfl) rfl ?_
      refine ge_imp (w h hR) (fun v7 h w => ?_)
      obtain ⟨s_7, hR, x_7, rfl, w⟩ := w
      show gw (gt_T c.1 c.2.1 c.2.2.1) c.2.2.2 d 199 (30, [some (.ref 48), some (.int x1), none, none], [.int x_7], h) _
      refine gw_pst hk 3 (st' := (33, [some (.ref 48), some (.int x1), some (.int x_7), none], [.int (-1), .int x_7], h)) rfl ?_
      refine gw_br (c := x_7 = (-1)) (a := (36, [some (.ref 48), some (.int x1), some (.int x_7), none], [], h)) (b := (39, [some (.ref 48), some (.int x1), some (.int x_7), none], [], h)) (hk _ _ rfl) rfl ⟨fun z8 => ?_, fun z8 => ?_⟩
      · replace w := w.1 z8
        refine gw_pst hk 1 (st' := (38, [some (.ref 48), some (.int x1), some (.int x_7), none], [.int (-2)], h)) rfl ?_
        exact gw_ret (hk _ _ rfl) rfl ⟨_, hR, w⟩
      · replace w := w.2 z8
        refine gw_pst hk 1 (st' := (40, [some (.ref 48), some (.int x1), some (.int x_7), none], [.ref 48], h)) rfl ?_
        refine gw_gf (hk _ _ rfl) (RL_fR (n := 49) hR rfl) ?_
        refine gw_pst hk 1 (st' := (44, [some (.ref 48), some (.int x1), some (.int x_7), none], [.int 1, .ref 49], h)) rfl ?_
        obtain ⟨b10, w⟩ := w
        refine gw_ald (hk _ _ rfl) (Or.inl ⟨rfl, rfl⟩) (RL_a (t := 0) (n := 108) hR rfl (by decide)) b10 ?_
        refine gw_pst hk 5 (st' := (50, [some (.ref 48), some (.int x1), some (.int x_7), some (.int ((gsA s_7 49 (1 : Int32).toNatClampNeg) + x1))], [.int ((gsA s_7 49 (1 : Int32).toNatClampNeg) + x1), .ref 48], h)) rfl ?_
        obtain ⟨fs11, e11⟩ := RL_o hR (r := 48) (ci := 10) rfl
        refine gw_call (jj := 158) (As := [.ref 48, .int ((gsA s_7 49 (1 : Int32).toNatClampNeg) + x1)]) (rest := []) (hk _ _ rfl) (fun _ => rfl) rfl rfl (Nat.le_of_ble_eq_true rfl) (gm_rcv_v rfl e11 rfl) ?_
        refine ge_imp (w h hR) (fun v11 h w => ?_)
        obtain ⟨s_11, hR, x_11, rfl, w⟩ := w
        show gw (gt_T c.1 c.2.1 c.2.2.1) c.2.2.2 d 199 (53, [some (.ref 48), some (.int x1), some (.int x_7), some (.int ((gsA s_7 49 (1 : Int32).toNatClampNeg) + x1))], [.int x_11], h) _
        refine gw_br (c := x_11 = 0) (a := (56, [some (.ref 48), some (.int x1), some (.int x_7), some (.int ((gsA s_7 49 (1 : Int32).toNatClampNeg) + x1))], [], h)) (b := (59, [some (.ref 48), some (.int x1), some (.int x_7), some (.int ((gsA s_7 49 (1 : Int32).toNatClampNeg) + x1))], [], h)) (hk _ _ rfl) rfl ⟨fun z12 => ?_, fun z12 => ?_⟩
        · replace w := w.1 z12
          refine gw_pst hk 1 (st' := (58, [some (.ref 48), some (.int x1), some (.int x_7), some (.int ((gsA s_7 49 (1 : Int32).toNatClampNeg) + x1))], [.int (-3)], h)) rfl ?_
          exact gw_ret (hk _ _ rfl) rfl ⟨_, hR, w⟩
        · replace w := w.2 z12
          refine gw_pst hk 2 (st' := (61, [some (.ref 48), some (.int x1), some (.int x_7), some (.int ((gsA s_7 49 (1 : Int32).toNatClampNeg) + x1))], [.ref 48, .ref 48], h)) rfl ?_
          refine gw_gf (hk _ _ rfl) (RL_fR (n := 49) hR rfl) ?_
          refine gw_pst hk 1 (st' := (65, [some (.ref 48), some (.int x1), some (.int x_7), some (.int ((gsA s_7 49 (1 : Int32).toNatClampNeg) + x1))], [.int 1, .ref 49, .ref 48], h)) rfl ?_
          obtain ⟨b14, w⟩ := w
          refine gw_ald (hk _ _ rfl) (Or.inl ⟨rfl, rfl⟩) (RL_a (t := 0) (n := 108) hR rfl (by decide)) b14 ?_
          refine gw_pst hk 1 (st' := (67, [some (.ref 48), some (.int x1), some (.int x_7), some (.int ((gsA s_7 49 (1 : Int32).toNatClampNeg) + x1))], [.int ((gsA s_7 49 (1 : Int32).toNatClampNeg) + x1), .int (gsA s_11 49 (1 : Int32).toNatClampNeg), .ref 48], h)) rfl ?_
          obtain ⟨fs15, e15⟩ := RL_o hR (r := 48) (ci := 10) rfl
          refine gw_call (jj := 187) (As := [.ref 48, .int (gsA s_11 49 (1 : Int32).toNatClampNeg), .int ((gsA s_7 49 (1 : Int32).toNatClampNeg) + x1)]) (rest := []) (hk _ _ rfl) (fun _ => rfl) rfl rfl (Nat.le_of_ble_eq_true rfl) (gm_rcv_v rfl e15 rfl) ?_
          refine ge_imp (w h hR) (fun v15 h w => ?_)
          obtain ⟨s_15, hR, x_15, rfl, w⟩ := w
          show gw (gt_T c.1 c.2.1 c.2.2.1) c.2.2.2 d 199 (70, [some (.ref 48), some (.int x1), some (.int x_7), some (.int ((gsA s_7 49 (1 : Int32).toNatClampNeg) + x1))], [.int x_15], h) _
          refine gw_pst hk 2 (st' := (72, [some (.ref 48), some (.int x1), some (.int x_7), some (.int ((gsA s_7 49 (1 : Int32).toNatClampNeg) + x1))], [.int x_7, .ref 48, .int x_15], h)) rfl ?_
          obtain ⟨fs16, e16⟩ := RL_o hR (r := 48) (ci := 10) rfl
          refine gw_call (jj := 186) (As := [.ref 48, .int x_7]) (rest := [.int x_15]) (hk _ _ rfl) (fun _ => rfl) rfl rfl (Nat.le_of_ble_eq_true rfl) (gm_rcv_v rfl e16 rfl) ?_
          refine ge_imp (w h hR) (fun v16 h w => ?_)
          obtain ⟨s_16, hR, x_16, rfl, w⟩ := w
          show gw (gt_T c.1 c.2.1 c.2.2.1) c.2.2.2 d 199 (75, [some (.ref 48), some (.int x1), some (.int x_7), some (.int ((gsA s_7 49 (1 : Int32).toNatClampNeg) + x1))], [.int x_16, .int x_15], h) _
          refine gw_br (c := x_15 ≤ x_16) (a := (81, [some (.ref 48), some (.int x1), some (.int x_7), some (.int ((gsA s_7 49 (1 : Int32).toNatClampNeg) + x1))], [], h)) (b := (78, [some (.ref 48), some (.int x1), some (.int x_7), some (.int ((gsA s_7 49 (1 : Int32).toNatClampNeg) + x1))], [], h)) (hk _ _ rfl) rfl ⟨fun z17 => ?_, fun z17 => ?_⟩
          · replace w := w.1 z17
            refine gw_pst hk 1 (st' := (82, [some (.ref 48), some (.int x1), some (.int x_7), some (.int ((gsA s_7 49 (1 : Int32).toNatClampNeg) + x1))], [.ref 48], h)) rfl ?_
            refine gw_gf (hk _ _ rfl) (RL_fR (n := 49) hR rfl) ?_
            refine gw_pst hk 1 (st' := (86, [some (.ref 48), some (.int x1), some (.int x_7), some (.int ((gsA s_7 49 (1 : Int32).toNatClampNeg) + x1))], [.int 1, .ref 49], h)) rfl ?_
            obtain ⟨b19, w⟩ := w
            refine gw_ald (hk _ _ rfl) (Or.inl ⟨rfl, rfl⟩) (RL_a (t := 0) (n := 108) hR rfl (by decide)) b19 ?_
            refine gw_pst hk 2 (st' := (89, [some (.ref 48), some (.int x1), some (.int x_7), some (.int ((gsA s_7 49 (1 : Int32).toNatClampNeg) + x1))], [.ref 48, .int ((gsA s_7 49 (1 : Int32).toNatClampNeg) + x1), .int (gsA s_16 49 (1 : Int32).toNatClampNeg)], h)) rfl ?_
            refine gw_gf (hk _ _ rfl) (RL_fR (n := 49) hR rfl) ?_
            refine gw_pst hk 1 (st' := (93, [some (.ref 48), some (.int x1), some (.int x_7), some (.int ((gsA s_7 49 (1 : Int32).toNatClampNeg) + x1))], [.int 2, .ref 49, .int ((gsA s_7 49 (1 : Int32).toNatClampNeg) + x1), .int (gsA s_16 49 (1 : Int32).toNatClampNeg)], h)) rfl ?_
            obtain ⟨b21, w⟩ := w
            refine gw_ald (hk _ _ rfl) (Or.inl ⟨rfl, rfl⟩) (RL_a (t := 0) (n := 108) hR rfl (by decide)) b21 ?_
            refine gw_call (jj := 188) (As := [.int (gsA s_16 49 (1 : Int32).toNatClampNeg), .int ((gsA s_7 49 (1 : Int32).toNatClampNeg) + x1), .int (gsA s_16 49 (2 : Int32).toNatClampNeg)]) (rest := []) (hk _ _ rfl) (fun _ => rfl) rfl rfl (Nat.le_of_ble_eq_true rfl) rfl ?_
            refine ge_imp (w h hR) (fun v22 h w => ?_)
            obtain ⟨s_22, hR, x_22, rfl, w⟩ := w
            show gw (gt_T c.1 c.2.1 c.2.2.1) c.2.2.2 d 199 (97, [some (.ref 48), some (.int x1), some (.int x_7), some (.int ((gsA s_7 49 (1 : Int32).toNatClampNeg) + x1))], [.int x_22], h) _
            refine gw_br (c := x_22 = 0) (a := (105, [some (.ref 48), some (.int x1), some (.int x_7), some (.int ((gsA s_7 49 (1 : Int32).toNatClampNeg) + x1))], [], h)) (b := (100, [some (.ref 48), some (.int x1), some (.int x_7), some (.int ((gsA s_7 49 (1 : Int32).toNatClampNeg) + x1))], [], h)) (hk _ _ rfl) rfl ⟨fun z23 => ?_, fun z23 => ?_⟩
            · replace w := w.1 z23
              refine gw_pst hk 1 (st' := (106, [some (.ref 48), some (.int x1), some (.int x_7), some (.int ((gsA s_7 49 (1 : Int32).toNatClampNeg) + x1))], [.int 0], h)) rfl ?_
              refine gw_le (L' := [none, none, none, none]) (gm_le_n _ (gm_le_n _ (gm_le_n _ (gm_le_n _ gm_le_nil)))) ?_
              exact ok199_106 c d Post _ _ w _ hR
            · replace w := w.2 z23
              refine gw_pst hk 2 (st' := (106, [some (.ref 48), some (.int x1), some (.int x_7), some (.int ((gsA s_7 49 (1 : Int32).toNatClampNeg) + x1))], [.int (-5)], h)) rfl ?_
              refine gw_le (L' := [none, none, none, none]) (gm_le_n _ (gm_le_n _ (gm_le_n _ (gm_le_n _ gm_le_nil)))) ?_
              exact ok199_106 c d Post _ _ w _ hR
          · replace w := w.2 z17
            refine gw_pst hk 1 (st' := (80, [some (.ref 48), some (.int x1), some (.int x_7), some (.int ((gsA s_7 49 (1 : Int32).toNatClampNeg) + x1))], [.int (-4)], h)) rfl ?_
            exact gw_ret (hk _ _ rfl) rfl ⟨_, hR, w⟩
