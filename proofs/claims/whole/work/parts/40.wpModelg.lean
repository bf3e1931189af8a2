/-! What must hold for a run to end with Post: by program (wip/whole/gen_wp.py). -/
/-- CommandByTurnsModel.keep(I)Z -/
def wm260 (c : gx) (d : Nat) (Post : Option Value → gs → Prop) (x1 : Int32) (s : gs) : Prop :=
  ∀ s_1 : gs, s_1 = gs_V s 48 13 0 → tE c d 154 [.int x1, .int 0, .int 1] s_1 (fun v2 s_2 => ∃ x_2 : Int32, v2 = some (.int x_2) ∧ ((x_2 = 0 → Post (some (.int 0)) s_2) ∧ (¬ (x_2 = 0) → vp_in x1 2 ∧ ∀ s_5 : gs, s_5 = gs_A s_2 72 (x1 : Int32).toNatClampNeg (vp_nar .boolean 1) → tE c d 194 [.ref 49, .ref 71, .int (108 * x1)] s_5 (fun v8 s_8 => v8 = none ∧ Post (some (.int 1)) s_8))))
theorem okm260 (c : gx) (d : Nat) (Post : Option Value → gs → Prop) (x1 : Int32) (s : gs) (w : wm260 c d Post x1 s) : tE c (d + 1) 260 [.ref 48, .int x1] s Post := by
  intro h hR
  have hk : ∀ pc i, gm_find gk_260 pc = some i → gm_code (gt_T c.1 c.2.1 c.2.2.1) 260 pc = some i := fun _ _ z => z
  unfold wm260 at w
  refine ge_of (by decide) (Nat.le_of_ble_eq_true rfl) ?_
  show gw (gt_T c.1 c.2.1 c.2.2.1) c.2.2.2 d 260 (0, [some (.ref 48), some (.int x1)], [], h) _
  refine gw_pst hk 2 (st' := (2, [some (.ref 48), some (.int x1)], [.int 0, .ref 48], h)) rfl ?_
  obtain ⟨fs1, e1⟩ := RL_o hR (r := 48) (ci := 10) rfl
  obtain ⟨l1, hR1⟩ := RL_pI (k := 13) (x := 0) hR rfl e1
  refine gw_pf (hk _ _ rfl) e1 l1 rfl ?_
  generalize gm_put h _ _ = h at hR1 ⊢
  obtain ⟨s_1, es1⟩ : ∃ z, z = gs_V s 48 13 0 := ⟨_, rfl⟩
  rw [← es1] at hR1
  replace w := w s_1 es1
  replace hR := hR1
  refine gw_pst hk 3 (st' := (8, [some (.ref 48), some (.int x1)], [.int 1, .int 0, .int x1], h)) rfl ?_
  refine gw_call (jj := 154) (As := [.int x1, .int 0, .int 1]) (rest := []) (hk _ _ rfl) (fun _ => rfl) rfl rfl (Nat.le_of_ble_eq_true rfl) rfl ?_
  refine ge_imp (w h hR) (fun v2 h w => ?_)
  obtain ⟨s_2, hR, x_2, rfl, w⟩ := w
  show gw (gt_T c.1 c.2.1 c.2.2.1) c.2.2.2 d 260 (11, [some (.ref 48), some (.int x1)], [.int x_2], h) _
  refine gw_br (c := x_2 = 0) (a := (14, [some (.ref 48), some (.int x1)], [], h)) (b := (16, [some (.ref 48), some (.int x1)], [], h)) (hk _ _ rfl) rfl ⟨fun z3 => ?_, fun z3 => ?_⟩
  · replace w := w.1 z3
    refine gw_pst hk 1 (st' := (15, [some (.ref 48), some (.int x1)], [.int 0], h)) rfl ?_
    exact gw_ret (hk _ _ rfl) rfl ⟨_, hR, w⟩
  · replace w := w.2 z3
    refine gw_pst hk 1 (st' := (17, [some (.ref 48), some (.int x1)], [.ref 48], h)) rfl ?_
    refine gw_gf (hk _ _ rfl) (RL_fR (n := 72) hR rfl) ?_
    refine gw_pst hk 2 (st' := (22, [some (.ref 48), some (.int x1)], [.int 1, .int x1, .ref 72], h)) rfl ?_
    obtain ⟨b5, w⟩ := w
    have hR5 := RL_pA (a := 72) (t := 4) (n := 2) (k := (x1 : Int32).toNatClampNeg) (x := (vp_nar .boolean 1)) hR rfl (by decide)
    refine gw_ast (hk _ _ rfl) (Or.inr (Or.inr (Or.inr ⟨rfl, rfl, rfl, rfl⟩))) (RL_a (t := 4) (n := 2) hR rfl (by decide)) b5 ?_
    generalize gm_put h _ _ = h at hR5 ⊢
    obtain ⟨s_5, es5⟩ : ∃ z, z = gs_A s_2 72 (x1 : Int32).toNatClampNeg (vp_nar .boolean 1) := ⟨_, rfl⟩
    rw [← es5] at hR5
    replace w := w s_5 es5
    replace hR := hR5
    refine gw_pst hk 1 (st' := (24, [some (.ref 48), some (.int x1)], [.ref 48], h)) rfl ?_
    refine gw_gf (hk _ _ rfl) (RL_fR (n := 49) hR rfl) ?_
    refine gw_pst hk 1 (st' := (28, [some (.ref 48), some (.int x1)], [.ref 48, .ref 49], h)) rfl ?_
    refine gw_gf (hk _ _ rfl) (RL_fR (n := 71) hR rfl) ?_
    refine gw_pst hk 3 (st' := (35, [some (.ref 48), some (.int x1)], [.int (108 * x1), .ref 71, .ref 49], h)) rfl ?_
    refine gw_call (jj := 194) (As := [.ref 49, .ref 71, .int (108 * x1)]) (rest := []) (hk _ _ rfl) (fun _ => rfl) rfl rfl (Nat.le_of_ble_eq_true rfl) rfl ?_
    refine ge_imp (w h hR) (fun v8 h w => ?_)
    obtain ⟨s_8, hR, rfl, w⟩ := w
    show gw (gt_T c.1 c.2.1 c.2.2.1) c.2.2.2 d 260 (38, [some (.ref 48), some (.int x1)], [], h) _
    refine gw_pst hk 1 (st' := (39, [some (.ref 48), some (.int x1)], [.int 1], h)) rfl ?_
    exact gw_ret (hk _ _ rfl) rfl ⟨_, hR, w⟩
def w261_23 (c : gx) (d : Nat) (Post : Option Value → gs → Prop)  (s : gs) : Prop :=
  Post (some (.int 0)) s
theorem ok261_23 (c : gx) (d : Nat) (Post : Option Value → gs → Prop)   (s : gs) (w : w261_23 c d Post  s) : tV c d 261 23 [none, none, none] [] s Post := by
  intro h hR
  have hk : ∀ pc i, gm_find gk_261 pc = some i → gm_code (gt_T c.1 c.2.1 c.2.2.1) 261 pc = some i := fun _ _ z => z
  unfold w261_23 at w
  unfold gV
  refine gw_pst hk 1 (st' := (24, [none, none, none], [.int 0], h)) rfl ?_
  exact gw_ret (hk _ _ rfl) rfl ⟨_, hR, w⟩
def wb261_27 (c : gx) (d : Nat) (Post : Option Value → gs → Prop) (K27 : Int32 → Int32 → gs → Prop) (x1 : Int32) (x2 : Int32) (s : gs) : Prop :=
  ((108 ≤ x2 → ∀ s_2 : gs, s_2 = gs_V s 48 26 0 → Post (some (.int 1)) s_2) ∧ (¬ (108 ≤ x2) → vp_in ((108 * x1) + x2) 216 ∧ vp_in x2 108 ∧ ∀ s_6 : gs, s_6 = gs_A s 49 (x2 : Int32).toNatClampNeg (vp_nar .int (gsA s 71 ((108 * x1) + x2 : Int32).toNatClampNeg)) → K27 x1 (x2 + 1) s_6))
theorem okb261_27 (c : gx) (d : Nat) (Post : Option Value → gs → Prop) (K27 : Int32 → Int32 → gs → Prop)  (hK27 : ∀ (x1 : Int32) (x2 : Int32) (s : gs), K27 x1 x2 s → tV c d 261 27 [some (.ref 48), some (.int x1), some (.int x2)] [] s Post) (x1 : Int32) (x2 : Int32) (s : gs) (w : wb261_27 c d Post K27 x1 x2 s) : tV c d 261 27 [some (.ref 48), some (.int x1), some (.int x2)] [] s Post := by
  intro h hR
  have hk : ∀ pc i, gm_find gk_261 pc = some i → gm_code (gt_T c.1 c.2.1 c.2.2.1) 261 pc = some i := fun _ _ z => z
  unfold wb261_27 at w
  unfold gV
  refine gw_pst hk 2 (st' := (30, [some (.ref 48), some (.int x1), some (.int x2)], [.int 108, .int x2], h)) rfl ?_
  refine gw_br (c := 108 ≤ x2) (a := (56, [some (.ref 48), some (.int x1), some (.int x2)], [], h)) (b := (33, [some (.ref 48), some (.int x1), some (.int x2)], [], h)) (hk _ _ rfl) rfl ⟨fun z1 => ?_, fun z1 => ?_⟩
  · replace w := w.1 z1
    refine gw_pst hk 2 (st' := (58, [some (.ref 48), some (.int x1), some (.int x2)], [.int 0, .ref 48], h)) rfl ?_
    obtain ⟨fs2, e2⟩ := RL_o hR (r := 48) (ci := 10) rfl
    obtain ⟨l2, hR2⟩ := RL_pI (k := 26) (x := 0) hR rfl e2
    refine gw_pf (hk _ _ rfl) e2 l2 rfl ?_
    generalize gm_put h _ _ = h at hR2 ⊢
    obtain ⟨s_2, es2⟩ : ∃ z, z = gs_V s 48 26 0 := ⟨_, rfl⟩
    rw [← es2] at hR2
    replace w := w s_2 es2
    replace hR := hR2
    refine gw_pst hk 1 (st' := (62, [some (.ref 48), some (.int x1), some (.int x2)], [.int 1], h)) rfl ?_
    exact gw_ret (hk _ _ rfl) rfl ⟨_, hR, w⟩
  · replace w := w.2 z1
    refine gw_pst hk 1 (st' := (34, [some (.ref 48), some (.int x1), some (.int x2)], [.ref 48], h)) rfl ?_
    refine gw_gf (hk _ _ rfl) (RL_fR (n := 49) hR rfl) ?_
    refine gw_pst hk 2 (st' := (39, [some (.ref 48), some (.int x1), some (.int x2)], [.ref 48, .int x2, .ref 49], h)) rfl ?_
    refine gw_gf (hk _ _ rfl) (RL_fR (n := 71) hR rfl) ?_
    refine gw_pst hk 5 (st' := (48, [some (.ref 48), some (.int x1), some (.int x2)], [.int ((108 * x1) + x2), .ref 71, .int x2, .ref 49], h)) rfl ?_
    obtain ⟨b5, w⟩ := w
    refine gw_ald (hk _ _ rfl) (Or.inl ⟨rfl, rfl⟩) (RL_a (t := 0) (n := 216) hR rfl (by decide)) b5 ?_
    obtain ⟨b6, w⟩ := w
    have hR6 := RL_pA (a := 49) (t := 0) (n := 108) (k := (x2 : Int32).toNatClampNeg) (x := (vp_nar .int (gsA s 71 ((108 * x1) + x2 : Int32).toNatClampNeg))) hR rfl (by decide)
    refine gw_ast (hk _ _ rfl) (Or.inl ⟨rfl, rfl, rfl⟩) (RL_a (t := 0) (n := 108) hR rfl (by decide)) b6 ?_
    generalize gm_put h _ _ = h at hR6 ⊢
    obtain ⟨s_6, es6⟩ : ∃ z, z = gs_A s 49 (x2 : Int32).toNatClampNeg (vp_nar .int (gsA s 71 ((108 * x1) + x2 : Int32).toNatClampNeg)) := ⟨_, rfl⟩
    rw [← es6] at hR6
    replace w := w s_6 es6
    replace hR := hR6
    refine gw_pst hk 2 (st' := (27, [some (.ref 48), some (.int x1), some (.int (x2 + 1))], [], h)) rfl ?_
    exact hK27 _ _ _ w _ hR
def wl261_27 (c : gx) (d : Nat) (Post : Option Value → gs → Prop) : Nat → Int32 → Int32 → gs → Prop
  | 0 => fun _ _ _ => False
  | n + 1 => wb261_27 c d Post (wl261_27 c d Post n)
theorem okl261_27 (c : gx) (d : Nat) (Post : Option Value → gs → Prop) : ∀ (n : Nat) (x1 : Int32) (x2 : Int32) (s : gs), wl261_27 c d Post n x1 x2 s → tV c d 261 27 [some (.ref 48), some (.int x1), some (.int x2)] [] s Post
  | 0, _, _, _, w => w.elim
  | n + 1, x1, x2, s, w => okb261_27 c d Post (wl261_27 c d Post n) (okl261_27 c d Post n) x1 x2 s w
/-- CommandByTurnsModel.again(I)Z -/
def wm261 (c : gx) (d : Nat) (Post : Option Value → gs → Prop) (x1 : Int32) (s : gs) : Prop :=
  ∀ s_1 : gs, s_1 = gs_V s 48 13 0 → tE c d 154 [.int x1, .int 0, .int 1] s_1 (fun v2 s_2 => ∃ x_2 : Int32, v2 = some (.int x_2) ∧ ((x_2 = 0 → w261_23 c d Post s_2) ∧ (¬ (x_2 = 0) → vp_in x1 2 ∧ (((gsA s_2 72 (x1 : Int32).toNatClampNeg) = 0 → w261_23 c d Post s_2) ∧ (¬ ((gsA s_2 72 (x1 : Int32).toNatClampNeg) = 0) → ∃ n, wl261_27 c d Post n x1 0 s_2)))))
theorem okm261 (c : gx) (d : Nat) (Post : Option Value → gs → Prop) (x1 : Int32) (s : gs) (w : wm261 c d Post x1 s) : tE c (d + 1) 261 [.ref 48, .int x1] s Post := by
  intro h hR
  have hk : ∀ pc i, gm_find gk_261 pc = some i → gm_code (gt_T c.1 c.2.1 c.2.2.1) 261 pc = some i := fun _ _ z => z
  unfold wm261 at w
  refine ge_of (by decide) (Nat.le_of_ble_eq_true rfl) ?_
  show gw (gt_T c.1 c.2.1 c.2.2.1) c.2.2.2 d 261 (0, [some (.ref 48), some (.int x1), none], [], h) _
  refine gw_pst hk 2 (st' := (2, [some (.ref 48), some (.int x1), none], [.int 0, .ref 48], h)) rfl ?_
  obtain ⟨fs1, e1⟩ := RL_o hR (r := 48) (ci := 10) rfl
  obtain ⟨l1, hR1⟩ := RL_pI (k := 13) (x := 0) hR rfl e1
  refine gw_pf (hk _ _ rfl) e1 l1 rfl ?_
  generalize gm_put h _ _ = h at hR1 ⊢
  obtain ⟨s_1, es1⟩ : ∃ z, z = gs_V s 48 13 0 := ⟨_, rfl⟩
  rw [← es1] at hR1
  replace w := w s_1 es1
  replace hR := hR1
  refine gw_pst hk 3 (st' := (8, [some (.ref 48), some (.int x1), none], [.int 1, .int 0, .int x1], h)) rfl ?_
  refine gw_call (jj := 154) (As := [.int x1, .int 0, .int 1]) (rest := []) (hk _ _ rfl) (fun _ => rfl) rfl rfl (Nat.le_of_ble_eq_true rfl) rfl ?_
  refine ge_imp (w h hR) (fun v2 h w => ?_)
  obtain ⟨s_2, hR, x_2, rfl, w⟩ := w
  show gw (gt_T c.1 c.2.1 c.2.2.1) c.2.2.2 d 261 (11, [some (.ref 48), some (.int x1), none], [.int x_2], h) _
  refine gw_br (c := x_2 = 0) (a := (23, [some (.ref 48), some (.int x1), none], [], h)) (b := (14, [some (.ref 48), some (.int x1), none], [], h)) (hk _ _ rfl) rfl ⟨fun z3 => ?_, fun z3 => ?_⟩
  · replace w := w.1 z3
    refine gw_le (L' := [none, none, none]) (gm_le_n _ (gm_le_n _ (gm_le_k _ gm_le_nil))) ?_
    exact ok261_23 c d Post _ w _ hR
  · replace w := w.2 z3
    refine gw_pst hk 1 (st' := (15, [some (.ref 48), some (.int x1), none], [.ref 48], h)) rfl ?_
    refine gw_gf (hk _ _ rfl) (RL_fR (n := 72) hR rfl) ?_
    refine gw_pst hk 1 (st' := (19, [some (.ref 48), some (.int x1), none], [.int x1, .ref 72], h)) rfl ?_
    obtain ⟨b5, w⟩ := w
    refine gw_ald (hk _ _ rfl) (Or.inr (Or.inr ⟨rfl, rfl, Or.inr rfl⟩)) (RL_a (t := 4) (n := 2) hR rfl (by decide)) b5 ?_
    refine gw_br (c := (gsA s_2 72 (x1 : Int32).toNatClampNeg) = 0) (a := (23, [some (.ref 48), some (.int x1), none], [], h)) (b := (25, [some (.ref 48), some (.int x1), none], [], h)) (hk _ _ rfl) rfl ⟨fun z6 => ?_, fun z6 => ?_⟩
    · replace w := w.1 z6
      refine gw_le (L' := [none, none, none]) (gm_le_n _ (gm_le_n _ (gm_le_k _ gm_le_nil))) ?_
      exact ok261_23 c d Post _ w _ hR
    · replace w := w.2 z6
      refine gw_pst hk 2 (st' := (27, [some (.ref 48), some (.int x1), some (.int 0)], [], h)) rfl ?_
      obtain ⟨n, w⟩ := w
      exact okl261_27 c d Post n _ _ _ w _ hR
def w262_147 (c : gx) (d : Nat) (Post : Option Value → gs → Prop) (xs0 : Int32) (s : gs) : Prop :=
  Post (some (.int xs0)) s
theorem ok262_147 (c : gx) (d : Nat) (Post : Option Value → gs → Prop)  (xs0 : Int32) (s : gs) (w : w262_147 c d Post xs0 s) : tV c d 262 147 [none, none] [.int xs0] s Post := by
  intro h hR
  have hk : ∀ pc i, gm_find gk_262 pc = some i → gm_code (gt_T c.1 c.2.1 c.2.2.1) 262 pc = some i := fun _ _ z => z
  unfold w262_147 at w
  unfold gV
  exact gw_ret (hk _ _ rfl) rfl ⟨_, hR, w⟩
/-- CommandByTurnsModel.count(I)I -/
def wm262 (c : gx) (d : Nat) (Post : Option Value → gs → Prop) (x1 : Int32) (s : gs) : Prop :=
  ∀ s_1 : gs, s_1 = gs_V s 48 13 0 → ((x1 = 0 → Post (some (.int (gsV s_1 48 1))) s_1) ∧ (x1 = 1 → vp_in 0 108 ∧ Post (some (.int (gsA s_1 49 (0 : Int32).toNatClampNeg))) s_1) ∧ (x1 = 2 → vp_in 1 108 ∧ Post (some (.int (gsA s_1 49 (1 : Int32).toNatClampNeg))) s_1) ∧ (x1 = 3 → vp_in 2 108 ∧ Post (some (.int (gsA s_1 49 (2 : Int32).toNatClampNeg))) s_1) ∧ (x1 = 4 → vp_in 3 108 ∧ Post (some (.int (gsA s_1 49 (3 : Int32).toNatClampNeg))) s_1) ∧ (x1 = 5 → vp_in 4 108 ∧ Post (some (.int (gsA s_1 49 (4 : Int32).toNatClampNeg))) s_1) ∧ (x1 = 6 → vp_in 5 108 ∧ Post (some (.int (gsA s_1 49 (5 : Int32).toNatClampNeg))) s_1) ∧ (x1 = 7 → tE c d 208 [.ref 48] s_1 (fun v16 s_16 => ∃ x_16 : Int32, v16 = some (.int x_16) ∧ Post (some (.int x_16)) s_16)) ∧ (x1 = 8 → vp_in 1 108 ∧ vp_in 2 108 ∧ tE c d 185 [.int (gsA s_1 49 (1 : Int32).toNatClampNeg), .int (gsA s_1 49 (2 : Int32).toNatClampNeg)] s_1 (fun v21 s_21 => ∃ x_21 : Int32, v21 = some (.int x_21) ∧ ((x_21 = 0 → w262_147 c d Post 0 s_21) ∧ (¬ (x_21 = 0) → w262_147 c d Post 1 s_21)))) ∧ (x1 = 9 → Post (some (.int (gsV s_1 48 34))) s_1) ∧ (x1 = 10 → Post (some (.int (gsV s_1 48 26))) s_1) ∧ (x1 = 11 → Post (some (.int (gsV s_1 48 12))) s_1) ∧ (x1 = 12 → Post (some (.int (gsV s_1 48 10))) s_1) ∧ ((x1 : Int32).toInt < 0 ∨ 12 < (x1 : Int32).toInt → Post (some (.int (-1))) s_1))
theorem okm262 (c : gx) (d : Nat) (Post : Option Value → gs → Prop) (x1 : Int32) (s : gs) (w : wm262 c d Post x1 s) : tE c (d + 1) 262 [.ref 48, .int x1] s Post := by
  intro h hR
  have hk : ∀ pc i, gm_find gk_262 pc = some i → gm_code (gt_T c.1 c.2.1 c.2.2.1) 262 pc = some i := fun _ _ z => z
  unfold wm262 at w
  refine ge_of (by decide) (Nat.le_of_ble_eq_true rfl) ?_
  show gw (gt_T c.1 c.2.1 c.2.2.1) c.2.2.2 d 262 (0, [some (.ref 48), some (.int x1)], [], h) _
  refine gw_pst hk 2 (st' := (2, [some (.ref 48), some (.int x1)], [.int 0, .ref 48], h)) rfl ?_
  obtain ⟨fs1, e1⟩ := RL_o hR (r := 48) (ci := 10) rfl
  obtain ⟨l1, hR1⟩ := RL_pI (k := 13) (x := 0) hR rfl e1
  refine gw_pf (hk _ _ rfl) e1 l1 rfl ?_
  generalize gm_put h _ _ = h at hR1 ⊢
  obtain ⟨s_1, es1⟩ : ∃ z, z = gs_V s 48 13 0 := ⟨_, rfl⟩
  rw [← es1] at hR1
  replace w := w s_1 es1
  replace hR := hR1
  refine gw_pst hk 1 (st' := (6, [some (.ref 48), some (.int x1)], [.int x1], h)) rfl ?_
  by_cases z2_0 : x1 = 0
  · replace w := w.1 z2_0
    refine gw_swk (st' := (72, [some (.ref 48), some (.int x1)], [], h)) (hk _ _ rfl) z2_0 rfl ?_
    refine gw_pst hk 1 (st' := (73, [some (.ref 48), some (.int x1)], [.ref 48], h)) rfl ?_
    refine gw_gf (hk _ _ rfl) (RL_fI hR rfl) ?_
    exact gw_ret (hk _ _ rfl) rfl ⟨_, hR, w⟩
  by_cases z2_1 : x1 = 1
  · replace w := w.2.1 z2_1
    refine gw_swk (st' := (77, [some (.ref 48), some (.int x1)], [], h)) (hk _ _ rfl) z2_1 rfl ?_
    refine gw_pst hk 1 (st' := (78, [some (.ref 48), some (.int x1)], [.ref 48], h)) rfl ?_
    refine gw_gf (hk _ _ rfl) (RL_fR (n := 49) hR rfl) ?_
    refine gw_pst hk 1 (st' := (82, [some (.ref 48), some (.int x1)], [.int 0, .ref 49], h)) rfl ?_
    obtain ⟨b5, w⟩ := w
    refine gw_ald (hk _ _ rfl) (Or.inl ⟨rfl, rfl⟩) (RL_a (t := 0) (n := 108) hR rfl (by decide)) b5 ?_
    exact gw_ret (hk _ _ rfl) rfl ⟨_, hR, w⟩
  by_cases z2_2 : x1 = 2
  · replace w := w.2.2.1 z2_2
    refine gw_swk (st' := (84, [some (.ref 48), some (.int x1)], [], h)) (hk _ _ rfl) z2_2 rfl ?_
    refine gw_pst hk 1 (st' := (85, [some (.ref 48), some (.int x1)], [.ref 48], h)) rfl ?_
    refine gw_gf (hk _ _ rfl) (RL_fR (n := 49) hR rfl) ?_
    refine gw_pst hk 1 (st' := (89, [some (.ref 48), some (.int x1)], [.int 1, .ref 49], h)) rfl ?_
    obtain ⟨b7, w⟩ := w
    refine gw_ald (hk _ _ rfl) (Or.inl ⟨rfl, rfl⟩) (RL_a (t := 0) (n := 108) hR rfl (by decide)) b7 ?_
    exact gw_ret (hk _ _ rfl) rfl ⟨_, hR, w⟩
  by_cases z2_3 : x1 = 3
  · replace w := w.2.2.2.1 z2_3
    refine gw_swk (st' := (91, [some (.ref 48), some (.int x1)], [], h)) (hk _ _ rfl) z2_3 rfl ?_
    refine gw_pst hk 1 (st' := (92, [some (.ref 48), some (.int x1)], [.ref 48], h)) rfl ?_
    refine gw_gf (hk _ _ rfl) (RL_fR (n := 49) hR rfl) ?_
    refine gw_pst hk 1 (st' := (96, [some (.ref 48), some (.int x1)], [.int 2, .ref 49], h)) rfl ?_
    obtain ⟨b9, w⟩ := w
    refine gw_ald (hk _ _ rfl) (Or.inl ⟨rfl, rfl⟩) (RL_a (t := 0) (n := 108) hR rfl (by decide)) b9 ?_
    exact gw_ret (hk _ _ rfl) rfl ⟨_, hR, w⟩
  by_cases z2_4 : x1 = 4
  · replace w := w.2.2.2.2.1 z2_4
    refine gw_swk (st' := (98, [some (.ref 48), some (.int x1)], [], h)) (hk _ _ rfl) z2_4 rfl ?_
    refine gw_pst hk 1 (st' := (99, [some (.ref 48), some (.int x1)], [.ref 48], h)) rfl ?_
    refine gw_gf (hk _ _ rfl) (RL_fR (n := 49) hR rfl) ?_
    refine gw_pst hk 1 (st' := (103, [some (.ref 48), some (.int x1)], [.int 3, .ref 49], h)) rfl ?_
    obtain ⟨b11, w⟩ := w
    refine gw_ald (hk _ _ rfl) (Or.inl ⟨rfl, rfl⟩) (RL_a (t := 0) (n := 108) hR rfl (by decide)) b11 ?_
    exact gw_ret (hk _ _ rfl) rfl ⟨_, hR, w⟩
  by_cases z2_5 : x1 = 5
  · replace w := w.2.2.2.2.2.1 z2_5
    refine gw_swk (st' := (105, [some (.ref 48), some (.int x1)], [], h)) (hk _ _ rfl) z2_5 rfl ?_
    refine gw_pst hk 1 (st' := (106, [some (.ref 48), some (.int x1)], [.ref 48], h)) rfl ?_
    refine gw_gf (hk _ _ rfl) (RL_fR (n := 49) hR rfl) ?_
    refine gw_pst hk 1 (st' := (110, [some (.ref 48), some (.int x1)], [.int 4, .ref 49], h)) rfl ?_
    obtain ⟨b13, w⟩ := w
    refine gw_ald (hk _ _ rfl) (Or.inl ⟨rfl, rfl⟩) (RL_a (t := 0) (n := 108) hR rfl (by decide)) b13 ?_
    exact gw_ret (hk _ _ rfl) rfl ⟨_, hR, w⟩
  by_cases z2_6 : x1 = 6
  · replace w := w.2.2.2.2.2.2.1 z2_6
    refine gw_swk (st' := (112, [some (.ref 48), some (.int x1)], [], h)) (hk _ _ rfl) z2_6 rfl ?_
    refine gw_pst hk 1 (st' := (113, [some (.ref 48), some (.int x1)], [.ref 48], h)) rfl ?_
    refine gw_gf (hk _ _ rfl) (RL_fR (n := 49) hR rfl) ?_
    refine gw_pst hk 1 (st' := (117, [some (.ref 48), some (.int x1)], [.int 5, .ref 49], h)) rfl ?_
    obtain ⟨b15, w⟩ := w
    refine gw_ald (hk _ _ rfl) (Or.inl ⟨rfl, rfl⟩) (RL_a (t := 0) (n := 108) hR rfl (by decide)) b15 ?_
    exact gw_ret (hk _ _ rfl) rfl ⟨_, hR, w⟩
  by_cases z2_7 : x1 = 7
  · replace w := w.2.2.2.2.2.2.2.1 z2_7
    refine gw_swk (st' := (119, [some (.ref 48), some (.int x1)], [], h)) (hk _ _ rfl) z2_7 rfl ?_
    refine gw_pst hk 1 (st' := (120, [some (.ref 48), some (.int x1)], [.ref 48], h)) rfl ?_
    obtain ⟨fs16, e16⟩ := RL_o hR (r := 48) (ci := 10) rfl
    refine gw_call (jj := 208) (As := [.ref 48]) (rest := []) (hk _ _ rfl) (fun _ => rfl) rfl rfl (Nat.le_of_ble_eq_true rfl) (gm_rcv_v rfl e16 rfl) ?_
    refine ge_imp (w h hR) (fun v16 h w => ?_)
    obtain ⟨s_16, hR, x_16, rfl, w⟩ := w
    show gw (gt_T c.1 c.2.1 c.2.2.1) c.2.2.2 d 262 (123, [some (.ref 48), some (.int x1)], [.int x_16], h) _
    exact gw_ret (hk _ _ rfl) rfl ⟨_, hR, w⟩
  by_cases z2_8 : x1 = 8
  · replace w := w.2.2.2.2.2.2.2.2.1 z2_8
    refine gw_swk (st' := (124, [some (.ref 48), some (.int x1)], [], h)) (hk _ _ rfl) z2_8 rfl ?_
    refine gw_pst hk 1 (st' := (125, [some (.ref 48), some (.int x1)], [.ref 48], h)) rfl ?_
    refine gw_gf (hk _ _ rfl) (RL_fR (n := 49) hR rfl) ?_
    refine gw_pst hk 1 (st' := (129, [some (.ref 48), some (.int x1)], [.int 1, .ref 49], h)) rfl ?_
    obtain ⟨b18, w⟩ := w
    refine gw_ald (hk _ _ rfl) (Or.inl ⟨rfl, rfl⟩) (RL_a (t := 0) (n := 108) hR rfl (by decide)) b18 ?_
    refine gw_pst hk 1 (st' := (131, [some (.ref 48), some (.int x1)], [.ref 48, .int (gsA s_1 49 (1 : Int32).toNatClampNeg)], h)) rfl ?_
    refine gw_gf (hk _ _ rfl) (RL_fR (n := 49) hR rfl) ?_
    refine gw_pst hk 1 (st' := (135, [some (.ref 48), some (.int x1)], [.int 2, .ref 49, .int (gsA s_1 49 (1 : Int32).toNatClampNeg)], h)) rfl ?_
    obtain ⟨b20, w⟩ := w
    refine gw_ald (hk _ _ rfl) (Or.inl ⟨rfl, rfl⟩) (RL_a (t := 0) (n := 108) hR rfl (by decide)) b20 ?_
    refine gw_call (jj := 185) (As := [.int (gsA s_1 49 (1 : Int32).toNatClampNeg), .int (gsA s_1 49 (2 : Int32).toNatClampNeg)]) (rest := []) (hk _ _ rfl) (fun _ => rfl) rfl rfl (Nat.le_of_ble_eq_true rfl) rfl ?_
    refine ge_imp (w h hR) (fun v21 h w => ?_)
    obtain ⟨s_21, hR, x_21, rfl, w⟩ := w
    show gw (gt_T c.1 c.2.1 c.2.2.1) c.2.2.2 d 262 (139, [some (.ref 48), some (.int x1)], [.int x_21], h) _
    refine gw_br (c := x_21 = 0) (a := (146, [some (.ref 48), some (.int x1)], [], h)) (b := (142, [some (.ref 48), some (.int x1)], [], h)) (hk _ _ rfl) rfl ⟨fun z22 => ?_, fun z22 => ?_⟩
    · replace w := w.1 z22
      refine gw_pst hk 1 (st' := (147, [some (.ref 48), some (.int x1)], [.int 0], h)) rfl ?_
      refine gw_le (L' := [none, none]) (gm_le_n _ (gm_le_n _ gm_le_nil)) ?_
      exact ok262_147 c d Post _ _ w _ hR
    · replace w := w.2 z22
      refine gw_pst hk 2 (st' := (147, [some (.ref 48), some (.int x1)], [.int 1], h)) rfl ?_
      refine gw_le (L' := [none, none]) (gm_le_n _ (gm_le_n _ gm_le_nil)) ?_
      exact ok262_147 c d Post _ _ w _ hR
  by_cases z2_9 : x1 = 9
  · replace w := w.2.2.2.2.2.2.2.2.2.1 z2_9
    refine gw_swk (st' := (148, [some (.ref 48), some (.int x1)], [], h)) (hk _ _ rfl) z2_9 rfl ?_
    refine gw_pst hk 1 (st' := (149, [some (.ref 48), some (.int x1)], [.ref 48], h)) rfl ?_
    refine gw_gf (hk _ _ rfl) (RL_fI hR rfl) ?_
    exact gw_ret (hk _ _ rfl) rfl ⟨_, hR, w⟩
  by_cases z2_10 : x1 = 10
  · replace w := w.2.2.2.2.2.2.2.2.2.2.1 z2_10
    refine gw_swk (st' := (153, [some (.ref 48), some (.int x1)], [], h)) (hk _ _ rfl) z2_10 rfl ?_
    refine gw_pst hk 1 (st' := (154, [some (.ref 48), some (.int x1)], [.ref 48], h)) rfl ?_
    refine gw_gf (hk _ _ rfl) (RL_fI hR rfl) ?_
    exact gw_ret (hk _ _ rfl) rfl ⟨_, hR, w⟩
  by_cases z2_11 : x1 = 11
  · replace w := w.2.2.2.2.2.2.2.2.2.2.2.1 z2_11
    refine gw_swk (st' := (158, [some (.ref 48), some (.int x1)], [], h)) (hk _ _ rfl) z2_11 rfl ?_
    refine gw_pst hk 1 (st' := (159, [some (.ref 48), some (.int x1)], [.ref 48], h)) rfl ?_
    refine gw_gf (hk _ _ rfl) (RL_fI hR rfl) ?_
    exact gw_ret (hk _ _ rfl) rfl ⟨_, hR, w⟩
  by_cases z2_12 : x1 = 12
  · replace w := w.2.2.2.2.2.2.2.2.2.2.2.2.1 z2_12
    refine gw_swk (st' := (163, [some (.ref 48), some (.int x1)], [], h)) (hk _ _ rfl) z2_12 rfl ?_
    refine gw_pst hk 1 (st' := (164, [some (.ref 48), some (.int x1)], [.ref 48], h)) rfl ?_
    refine gw_gf (hk _ _ rfl) (RL_fI hR rfl) ?_
    exact gw_ret (hk _ _ rfl) rfl ⟨_, hR, w⟩
  have zd2 : (x1 : Int32).toInt < 0 ∨ 12 < (x1 : Int32).toInt := by
    have y0 : (x1 : Int32).toInt ≠ 0 := fun z => z2_0 (Int32.toInt_inj.mp z)
    have y1 : (x1 : Int32).toInt ≠ 1 := fun z => z2_1 (Int32.toInt_inj.mp z)
    have y2 : (x1 : Int32).toInt ≠ 2 := fun z => z2_2 (Int32.toInt_inj.mp z)
    have y3 : (x1 : Int32).toInt ≠ 3 := fun z => z2_3 (Int32.toInt_inj.mp z)
    have y4 : (x1 : Int32).toInt ≠ 4 := fun z => z2_4 (Int32.toInt_inj.mp z)
    have y5 : (x1 : Int32).toInt ≠ 5 := fun z => z2_5 (Int32.toInt_inj.mp z)
    have y6 : (x1 : Int32).toInt ≠ 6 := fun z => z2_6 (Int32.toInt_inj.mp z)
    have y7 : (x1 : Int32).toInt ≠ 7 := fun z => z2_7 (Int32.toInt_inj.mp z)
    have y8 : (x1 : Int32).toInt ≠ 8 := fun z => z2_8 (Int32.toInt_inj.mp z)
    have y9 : (x1 : Int32).toInt ≠ 9 := fun z => z2_9 (Int32.toInt_inj.mp z)
    have y10 : (x1 : Int32).toInt ≠ 10 := fun z => z2_10 (Int32.toInt_inj.mp z)
    have y11 : (x1 : Int32).toInt ≠ 11 := fun z => z2_11 (Int32.toInt_inj.mp z)
    have y12 : (x1 : Int32).toInt ≠ 12 := fun z => z2_12 (Int32.toInt_inj.mp z)
    omega
  replace w := w.2.2.2.2.2.2.2.2.2.2.2.2.2 zd2
  refine gw_tsd (st' := (168, [some (.ref 48), some (.int x1)], [], h)) (hk _ _ rfl) zd2 rfl ?_
  refine gw_pst hk 1 (st' := (169, [some (.ref 48), some (.int x1)], [.int (-1)], h)) rfl ?_
  exact gw_ret (hk _ _ rfl) rfl ⟨_, hR, w⟩
def w263_33 (c : gx) (d : Nat) (Post : Option Value → gs → Prop) (xs0 : Int64) (s : gs) : Prop :=
  Post (some (.long xs0)) s
theorem ok263_33 (c : gx) (d : Nat) (Post : Option Value → gs → Prop)  (xs0 : Int64) (s : gs) (w : w263_33 c d Post xs0 s) : tV c d 263 33 [none, none] [.long xs0] s Post := by
  intro h hR
  have hk : ∀ pc i, gm_find gk_263 pc = some i → gm_code (gt_T c.1 c.2.1 c.2.2.1) 263 pc = some i := fun _ _ z => z
  unfold w263_33 at w
  unfold gV
  exact gw_ret (hk _ _ rfl) rfl ⟨_, hR, w⟩
/-- CommandByTurnsModel.row(I)J -/
def wm263 (c : gx) (d : Nat) (Post : Option Value → gs → Prop) (x1 : Int32) (s : gs) : Prop :=
  ∀ s_1 : gs, s_1 = gs_V s 48 13 0 → tE c d 154 [.int x1, .int 0, .int ((gsV s_1 48 12) - 1)] s_1 (fun v3 s_3 => ∃ x_3 : Int32, v3 = some (.int x_3) ∧ ((x_3 = 0 → tE c d 156 [.ref 48] s_3 (fun v5 s_5 => ∃ x_5 : Int32, v5 = some (.int x_5) ∧ w263_33 c d Post ((x_5 : Int32).toInt64) s_5)) ∧ (¬ (x_3 = 0) → vp_in x1 32 ∧ w263_33 c d Post (gsR s_3 58 (x1 : Int32).toNatClampNeg) s_3)))
theorem okm263 (c : gx) (d : Nat) (Post : Option Value → gs → Prop) (x1 : Int32) (s : gs) (w : wm263 c d Post x1 s) : tE c (d + 1) 263 [.ref 48, .int x1] s Post := by
  intro h hR
  have hk : ∀ pc i, gm_find gk_263 pc = some i → gm_code (gt_T c.1 c.2.1 c.2.2.1) 263 pc = some i := fun _ _ z => z
  unfold wm263 at w
  refine ge_of (by decide) (Nat.le_of_ble_eq_true rfl) ?_
  show gw (gt_T c.1 c.2.1 c.2.2.1) c.2.2.2 d 263 (0, [some (.ref 48), some (.int x1)], [], h) _
  refine gw_pst hk 2 (st' := (2, [some (.ref 48), some (.int x1)], [.int 0, .ref 48], h)) rfl ?_
  obtain ⟨fs1, e1⟩ := RL_o hR (r := 48) (ci := 10) rfl
  obtain ⟨l1, hR1⟩ := RL_pI (k := 13) (x := 0) hR rfl e1
  refine gw_pf (hk _ _ rfl) e1 l1 rfl ?_
  generalize gm_put h _ _ = h at hR1 ⊢
  obtain ⟨s_1, es1⟩ : ∃ z, z = gs_V s 48 13 0 := ⟨_, rfl⟩
  rw [← es1] at hR1
  replace w := w s_1 es1
  replace hR := hR1
  refine gw_pst hk 3 (st' := (8, [some (.ref 48), some (.int x1)], [.ref 48, .int 0, .int x1], h)) rfl ?_
  refine gw_gf (hk _ _ rfl) (RL_fI hR rfl) ?_
  refine gw_pst hk 2 (st' := (13, [some (.ref 48), some (.int x1)], [.int ((gsV s_1 48 12) - 1), .int 0, .int x1], h)) rfl ?_
  refine gw_call (jj := 154) (As := [.int x1, .int 0, .int ((gsV s_1 48 12) - 1)]) (rest := []) (hk _ _ rfl) (fun _ => rfl) rfl rfl (Nat.le_of_ble_eq_true rfl) rfl ?_
  refine ge_imp (w h hR) (fun v3 h w => ?_)
  obtain ⟨s_3, hR, x_3, rfl, w⟩ := w
  show gw (gt_T c.1 c.2.1 c.2.2.1) c.2.2.2 d 263 (16, [some (.ref 48), some (.int x1)], [.int x_3], h) _
  refine gw_br (c := x_3 = 0) (a := (28, [some (.ref 48), some (.int x1)], [], h)) (b := (19, [some (.ref 48), some (.int x1)], [], h)) (hk _ _ rfl) rfl ⟨fun z4 => ?_, fun z4 => ?_⟩
  · replace w := w.1 z4
    refine gw_pst hk 1 (st' := (29, [some (.ref 48), some (.int x1)], [.ref 48], h)) rfl ?_
    obtain ⟨fs5, e5⟩ := RL_o hR (r := 48) (ci := 10) rfl
    refine gw_call (jj := 156) (As := [.ref 48]) (rest := []) (hk _ _ rfl) (fun _ => rfl) rfl rfl (Nat.le_of_ble_eq_true rfl) (gm_rcv_v rfl e5 rfl) ?_
    refine ge_imp (w h hR) (fun v5 h w => ?_)
    obtain ⟨s_5, hR, x_5, rfl, w⟩ := w
    show gw (gt_T c.1 c.2.1 c.2.2.1) c.2.2.2 d 263 (32, [some (.ref 48), some (.int x1)], [.int x_5], h) _
    refine gw_pst hk 1 (st' := (33, [some (.ref 48), some (.int x1)], [.long ((x_5 : Int32).toInt64)], h)) rfl ?_
    refine gw_le (L' := [none, none]) (gm_le_n _ (gm_le_n _ gm_le_nil)) ?_
    exact ok263_33 c d Post _ _ w _ hR
  · replace w := w.2 z4
    refine gw_pst hk 1 (st' := (20, [some (.ref 48), some (.int x1)], [.ref 48], h)) rfl ?_
    refine gw_gf (hk _ _ rfl) (RL_fR (n := 58) hR rfl) ?_
    refine gw_pst hk 1 (st' := (24, [some (.ref 48), some (.int x1)], [.int x1, .ref 58], h)) rfl ?_
    obtain ⟨b7, w⟩ := w
    refine gw_lald (hk _ _ rfl) (RL_aJ (n := 32) hR rfl) b7 ?_
    refine gw_pst hk 1 (st' := (33, [some (.ref 48), some (.int x1)], [.long (gsR s_3 58 (x1 : Int32).toNatClampNeg)], h)) rfl ?_
    refine gw_le (L' := [none, none]) (gm_le_n _ (gm_le_n _ gm_le_nil)) ?_
    exact ok263_33 c d Post _ _ w _ hR
