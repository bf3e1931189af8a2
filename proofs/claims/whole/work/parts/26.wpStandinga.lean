/-! What must hold for a run to end with Post: by program (wip/whole/gen_wp.py). -/
/-- CommandByTurns$Standing.copy(LCommandByTurns$Standing;)V -/
def wm48 (c : gx) (d : Nat) (Post : Option Value → gs → Prop) (r0 : Nat) (r1 : Nat) (s : gs) : Prop :=
  gs_isC r1 6 = true ∧ gs_isC r0 6 = true ∧ ∀ s_2 : gs, s_2 = gs_V s r0 0 (gsV s r1 0) → gs_isC r1 6 = true ∧ gs_isC r0 6 = true ∧ ∀ s_4 : gs, s_4 = gs_V s_2 r0 1 (gsV s_2 r1 1) → gs_isC r1 6 = true ∧ gs_isC r0 6 = true ∧ ∀ s_6 : gs, s_6 = gs_V s_4 r0 2 (gsV s_4 r1 2) → gs_isC r1 6 = true ∧ gs_isC r0 6 = true ∧ ∀ s_8 : gs, s_8 = gs_V s_6 r0 3 (gsV s_6 r1 3) → gs_isC r1 6 = true ∧ gs_isC r0 6 = true ∧ ∀ s_10 : gs, s_10 = gs_V s_8 r0 4 (gsV s_8 r1 4) → gs_isC r1 6 = true ∧ gs_isC r0 6 = true ∧ ∀ s_12 : gs, s_12 = gs_V s_10 r0 5 (gsV s_10 r1 5) → gs_isC r1 6 = true ∧ gs_isC r0 6 = true ∧ ∀ s_14 : gs, s_14 = gs_E s_12 r0 6 (gsE s_12 r1 6) → gs_isC r1 6 = true ∧ gs_isC r0 6 = true ∧ ∀ s_16 : gs, s_16 = gs_E s_14 r0 7 (gsE s_14 r1 7) → gs_isC r1 6 = true ∧ gs_isC r0 6 = true ∧ ∀ s_18 : gs, s_18 = gs_V s_16 r0 8 (gsV s_16 r1 8) → gs_isC r1 6 = true ∧ gs_isC r0 6 = true ∧ ∀ s_20 : gs, s_20 = gs_V s_18 r0 9 (gsV s_18 r1 9) → Post none s_20
theorem okm48 (c : gx) (d : Nat) (Post : Option Value → gs → Prop) (r0 : Nat) (r1 : Nat) (s : gs) (w : wm48 c d Post r0 r1 s) : tE c (d + 1) 48 [.ref r0, .ref r1] s Post := by
  intro h hR
  have hk : ∀ pc i, gm_find gk_48 pc = some i → gm_code (gt_T c.1 c.2.1 c.2.2.1) 48 pc = some i := fun _ _ z => z
  unfold wm48 at w
  refine ge_of (by decide) (Nat.le_of_ble_eq_true rfl) ?_
  show gw (gt_T c.1 c.2.1 c.2.2.1) c.2.2.2 d 48 (0, [some (.ref r0), some (.ref r1)], [], h) _
  refine gw_pst hk 2 (st' := (2, [some (.ref r0), some (.ref r1)], [.ref r1, .ref r0], h)) rfl ?_
  obtain ⟨z1, w⟩ := w
  refine gw_gf (hk _ _ rfl) (RL_fI hR (gs_ck_of z1 gs_ck_6_0)) ?_
  obtain ⟨z2, w⟩ := w
  obtain ⟨fs2, e2⟩ := RL_o hR (r := r0) (ci := 6) z2
  obtain ⟨l2, hR2⟩ := RL_pI (k := 0) (x := gsV s r1 0) hR (gs_ck_of z2 gs_ck_6_0) e2
  refine gw_pf (hk _ _ rfl) e2 l2 rfl ?_
  generalize gm_put h _ _ = h at hR2 ⊢
  obtain ⟨s_2, es2⟩ : ∃ z, z = gs_V s r0 0 (gsV s r1 0) := ⟨_, rfl⟩
  rw [← es2] at hR2
  replace w := w s_2 es2
  replace hR := hR2
  refine gw_pst hk 2 (st' := (10, [some (.ref r0), some (.ref r1)], [.ref r1, .ref r0], h)) rfl ?_
  obtain ⟨z3, w⟩ := w
  refine gw_gf (hk _ _ rfl) (RL_fI hR (gs_ck_of z3 gs_ck_6_1)) ?_
  obtain ⟨z4, w⟩ := w
  obtain ⟨fs4, e4⟩ := RL_o hR (r := r0) (ci := 6) z4
  obtain ⟨l4, hR4⟩ := RL_pI (k := 1) (x := gsV s_2 r1 1) hR (gs_ck_of z4 gs_ck_6_1) e4
  refine gw_pf (hk _ _ rfl) e4 l4 rfl ?_
  generalize gm_put h _ _ = h at hR4 ⊢
  obtain ⟨s_4, es4⟩ : ∃ z, z = gs_V s_2 r0 1 (gsV s_2 r1 1) := ⟨_, rfl⟩
  rw [← es4] at hR4
  replace w := w s_4 es4
  replace hR := hR4
  refine gw_pst hk 2 (st' := (18, [some (.ref r0), some (.ref r1)], [.ref r1, .ref r0], h)) rfl ?_
  obtain ⟨z5, w⟩ := w
  refine gw_gf (hk _ _ rfl) (RL_fI hR (gs_ck_of z5 gs_ck_6_2)) ?_
  obtain ⟨z6, w⟩ := w
  obtain ⟨fs6, e6⟩ := RL_o hR (r := r0) (ci := 6) z6
  obtain ⟨l6, hR6⟩ := RL_pI (k := 2) (x := gsV s_4 r1 2) hR (gs_ck_of z6 gs_ck_6_2) e6
  refine gw_pf (hk _ _ rfl) e6 l6 rfl ?_
  generalize gm_put h _ _ = h at hR6 ⊢
  obtain ⟨s_6, es6⟩ : ∃ z, z = gs_V s_4 r0 2 (gsV s_4 r1 2) := ⟨_, rfl⟩
  rw [← es6] at hR6
  replace w := w s_6 es6
  replace hR := hR6
  refine gw_pst hk 2 (st' := (26, [some (.ref r0), some (.ref r1)], [.ref r1, .ref r0], h)) rfl ?_
  obtain ⟨z7, w⟩ := w
  refine gw_gf (hk _ _ rfl) (RL_fI hR (gs_ck_of z7 gs_ck_6_3)) ?_
  obtain ⟨z8, w⟩ := w
  obtain ⟨fs8, e8⟩ := RL_o hR (r := r0) (ci := 6) z8
  obtain ⟨l8, hR8⟩ := RL_pI (k := 3) (x := gsV s_6 r1 3) hR (gs_ck_of z8 gs_ck_6_3) e8
  refine gw_pf (hk _ _ rfl) e8 l8 rfl ?_
  generalize gm_put h _ _ = h at hR8 ⊢
  obtain ⟨s_8, es8⟩ : ∃ z, z = gs_V s_6 r0 3 (gsV s_6 r1 3) := ⟨_, rfl⟩
  rw [← es8] at hR8
  replace w := w s_8 es8
  replace hR := hR8
  refine gw_pst hk 2 (st' := (34, [some (.ref r0), some (.ref r1)], [.ref r1, .ref r0], h)) rfl ?_
  obtain ⟨z9, w⟩ := w
  refine gw_gf (hk _ _ rfl) (RL_fI hR (gs_ck_of z9 gs_ck_6_4)) ?_
  obtain ⟨z10, w⟩ := w
  obtain ⟨fs10, e10⟩ := RL_o hR (r := r0) (ci := 6) z10
  obtain ⟨l10, hR10⟩ := RL_pI (k := 4) (x := gsV s_8 r1 4) hR (gs_ck_of z10 gs_ck_6_4) e10
  refine gw_pf (hk _ _ rfl) e10 l10 rfl ?_
  generalize gm_put h _ _ = h at hR10 ⊢
  obtain ⟨s_10, es10⟩ : ∃ z, z = gs_V s_8 r0 4 (gsV s_8 r1 4) := ⟨_, rfl⟩
  rw [← es10] at hR10
  replace w := w s_10 es10
  replace hR := hR10
  refine gw_pst hk 2 (st' := (42, [some (.ref r0), some (.ref r1)], [.ref r1, .ref r0], h)) rfl ?_
  obtain ⟨z11, w⟩ := w
  refine gw_gf (hk _ _ rfl) (RL_fI hR (gs_ck_of z11 gs_ck_6_5)) ?_
  obtain ⟨z12, w⟩ := w
  obtain ⟨fs12, e12⟩ := RL_o hR (r := r0) (ci := 6) z12
  obtain ⟨l12, hR12⟩ := RL_pI (k := 5) (x := gsV s_10 r1 5) hR (gs_ck_of z12 gs_ck_6_5) e12
  refine gw_pf (hk _ _ rfl) e12 l12 rfl ?_
  generalize gm_put h _ _ = h at hR12 ⊢
  obtain ⟨s_12, es12⟩ : ∃ z, z = gs_V s_10 r0 5 (gsV s_10 r1 5) := ⟨_, rfl⟩
  rw [← es12] at hR12
  replace w := w s_12 es12
  replace hR := hR12
  refine gw_pst hk 2 (st' := (50, [some (.ref r0), some (.ref r1)], [.ref r1, .ref r0], h)) rfl ?_
  obtain ⟨z13, w⟩ := w
  refine gw_gf (hk _ _ rfl) (RL_fJ hR (gs_ck_of z13 gs_ck_6_6)) ?_
  obtain ⟨z14, w⟩ := w
  obtain ⟨fs14, e14⟩ := RL_o hR (r := r0) (ci := 6) z14
  obtain ⟨l14, hR14⟩ := RL_pJ (k := 6) (x := gsE s_12 r1 6) hR (gs_ck_of z14 gs_ck_6_6) e14
  refine gw_pf (hk _ _ rfl) e14 l14 rfl ?_
  generalize gm_put h _ _ = h at hR14 ⊢
  obtain ⟨s_14, es14⟩ : ∃ z, z = gs_E s_12 r0 6 (gsE s_12 r1 6) := ⟨_, rfl⟩
  rw [← es14] at hR14
  replace w := w s_14 es14
  replace hR := hR14
  refine gw_pst hk 2 (st' := (58, [some (.ref r0), some (.ref r1)], [.ref r1, .ref r0], h)) rfl ?_
  obtain ⟨z15, w⟩ := w
  refine gw_gf (hk _ _ rfl) (RL_fJ hR (gs_ck_of z15 gs_ck_6_7)) ?_
  obtain ⟨z16, w⟩ := w
  obtain ⟨fs16, e16⟩ := RL_o hR (r := r0) (ci := 6) z16
  obtain ⟨l16, hR16⟩ := RL_pJ (k := 7) (x := gsE s_14 r1 7) hR (gs_ck_of z16 gs_ck_6_7) e16
  refine gw_pf (hk _ _ rfl) e16 l16 rfl ?_
  generalize gm_put h _ _ = h at hR16 ⊢
  obtain ⟨s_16, es16⟩ : ∃ z, z = gs_E s_14 r0 7 (gsE s_14 r1 7) := ⟨_, rfl⟩
  rw [← es16] at hR16
  replace w := w s_16 es16
  replace hR := hR16
  refine gw_pst hk 2 (st' := (66, [some (.ref r0), some (.ref r1)], [.ref r1, .ref r0], h)) rfl ?_
  obtain ⟨z17, w⟩ := w
  refine gw_gf (hk _ _ rfl) (RL_fI hR (gs_ck_of z17 gs_ck_6_8)) ?_
  obtain ⟨z18, w⟩ := w
  obtain ⟨fs18, e18⟩ := RL_o hR (r := r0) (ci := 6) z18
  obtain ⟨l18, hR18⟩ := RL_pI (k := 8) (x := gsV s_16 r1 8) hR (gs_ck_of z18 gs_ck_6_8) e18
  refine gw_pf (hk _ _ rfl) e18 l18 rfl ?_
  generalize gm_put h _ _ = h at hR18 ⊢
  obtain ⟨s_18, es18⟩ : ∃ z, z = gs_V s_16 r0 8 (gsV s_16 r1 8) := ⟨_, rfl⟩
  rw [← es18] at hR18
  replace w := w s_18 es18
  replace hR := hR18
  refine gw_pst hk 2 (st' := (74, [some (.ref r0), some (.ref r1)], [.ref r1, .ref r0], h)) rfl ?_
  obtain ⟨z19, w⟩ := w
  refine gw_gf (hk _ _ rfl) (RL_fI hR (gs_ck_of z19 gs_ck_6_9)) ?_
  obtain ⟨z20, w⟩ := w
  obtain ⟨fs20, e20⟩ := RL_o hR (r := r0) (ci := 6) z20
  obtain ⟨l20, hR20⟩ := RL_pI (k := 9) (x := gsV s_18 r1 9) hR (gs_ck_of z20 gs_ck_6_9) e20
  refine gw_pf (hk _ _ rfl) e20 l20 rfl ?_
  generalize gm_put h _ _ = h at hR20 ⊢
  obtain ⟨s_20, es20⟩ : ∃ z, z = gs_V s_18 r0 9 (gsV s_18 r1 9) := ⟨_, rfl⟩
  rw [← es20] at hR20
  replace w := w s_20 es20
  replace hR := hR20
  exact gw_ret (hk _ _ rfl) rfl ⟨_, hR, w⟩
def w49_16 (c : gx) (d : Nat) (Post : Option Value → gs → Prop) (xs0 : Int32) (s : gs) : Prop :=
  Post (some (.int xs0)) s
theorem ok49_16 (c : gx) (d : Nat) (Post : Option Value → gs → Prop)  (xs0 : Int32) (s : gs) (w : w49_16 c d Post xs0 s) : tV c d 49 16 [none, none] [.int xs0] s Post := by
  intro h hR
  have hk : ∀ pc i, gm_find gk_49 pc = some i → gm_code (gt_T c.1 c.2.1 c.2.2.1) 49 pc = some i := fun _ _ z => z
  unfold w49_16 at w
  unfold gV
  exact gw_ret (hk _ _ rfl) rfl ⟨_, hR, w⟩
/-- CommandByTurns$Standing.sickTill(I)I -/
def wm49 (c : gx) (d : Nat) (Post : Option Value → gs → Prop) (r0 : Nat) (x1 : Int32) (s : gs) : Prop :=
  ((x1 = 1 → gs_isC r0 6 = true ∧ w49_16 c d Post (gsV s r0 9) s) ∧ (¬ (x1 = 1) → gs_isC r0 6 = true ∧ w49_16 c d Post (gsV s r0 8) s))
theorem okm49 (c : gx) (d : Nat) (Post : Option Value → gs → Prop) (r0 : Nat) (x1 : Int32) (s : gs) (w : wm49 c d Post r0 x1 s) : tE c (d + 1) 49 [.ref r0, .int x1] s Post := by
  intro h hR
  have hk : ∀ pc i, gm_find gk_49 pc = some i → gm_code (gt_T c.1 c.2.1 c.2.2.1) 49 pc = some i := fun _ _ z => z
  unfold wm49 at w
  refine ge_of (by decide) (Nat.le_of_ble_eq_true rfl) ?_
  show gw (gt_T c.1 c.2.1 c.2.2.1) c.2.2.2 d 49 (0, [some (.ref r0), some (.int x1)], [], h) _
  refine gw_pst hk 2 (st' := (2, [some (.ref r0), some (.int x1)], [.int 1, .int x1], h)) rfl ?_
  refine gw_br (c := x1 = 1) (a := (5, [some (.ref r0), some (.int x1)], [], h)) (b := (12, [some (.ref r0), some (.int x1)], [], h)) (hk _ _ rfl) rfl ⟨fun z1 => ?_, fun z1 => ?_⟩
  · replace w := w.1 z1
    refine gw_pst hk 1 (st' := (6, [some (.ref r0), some (.int x1)], [.ref r0], h)) rfl ?_
    obtain ⟨z2, w⟩ := w
    refine gw_gf (hk _ _ rfl) (RL_fI hR (gs_ck_of z2 gs_ck_6_9)) ?_
    refine gw_pst hk 1 (st' := (16, [some (.ref r0), some (.int x1)], [.int (gsV s r0 9)], h)) rfl ?_
    refine gw_le (L' := [none, none]) (gm_le_n _ (gm_le_n _ gm_le_nil)) ?_
    exact ok49_16 c d Post _ _ w _ hR
  · replace w := w.2 z1
    refine gw_pst hk 1 (st' := (13, [some (.ref r0), some (.int x1)], [.ref r0], h)) rfl ?_
    obtain ⟨z3, w⟩ := w
    refine gw_gf (hk _ _ rfl) (RL_fI hR (gs_ck_of z3 gs_ck_6_8)) ?_
    refine gw_le (L' := [none, none]) (gm_le_n _ (gm_le_n _ gm_le_nil)) ?_
    exact ok49_16 c d Post _ _ w _ hR
def w50_27 (c : gx) (d : Nat) (Post : Option Value → gs → Prop) (x3 : Int32) (s : gs) : Prop :=
  Post (some (.int x3)) s
theorem ok50_27 (c : gx) (d : Nat) (Post : Option Value → gs → Prop)  (x3 : Int32) (s : gs) (w : w50_27 c d Post x3 s) : tV c d 50 27 [none, none, none, some (.int x3)] [] s Post := by
  intro h hR
  have hk : ∀ pc i, gm_find gk_50 pc = some i → gm_code (gt_T c.1 c.2.1 c.2.2.1) 50 pc = some i := fun _ _ z => z
  unfold w50_27 at w
  unfold gV
  refine gw_pst hk 1 (st' := (28, [none, none, none, some (.int x3)], [.int x3], h)) rfl ?_
  exact gw_ret (hk _ _ rfl) rfl ⟨_, hR, w⟩
/-- CommandByTurns$Standing.fallSick(II)I -/
def wm50 (c : gx) (d : Nat) (Post : Option Value → gs → Prop) (r0 : Nat) (x1 : Int32) (x2 : Int32) (s : gs) : Prop :=
  gs_isC r0 6 = true ∧ ((x1 = 1 → gs_isC r0 6 = true ∧ ∀ s_3 : gs, s_3 = gs_V s r0 9 (((gsV s r0 0) + x2) - 1) → w50_27 c d Post (((gsV s r0 0) + x2) - 1) s_3) ∧ (¬ (x1 = 1) → gs_isC r0 6 = true ∧ ∀ s_4 : gs, s_4 = gs_V s r0 8 (((gsV s r0 0) + x2) - 1) → w50_27 c d Post (((gsV s r0 0) + x2) - 1) s_4))
theorem okm50 (c : gx) (d : Nat) (Post : Option Value → gs → Prop) (r0 : Nat) (x1 : Int32) (x2 : Int32) (s : gs) (w : wm50 c d Post r0 x1 x2 s) : tE c (d + 1) 50 [.ref r0, .int x1, .int x2] s Post := by
  intro h hR
  have hk : ∀ pc i, gm_find gk_50 pc = some i → gm_code (gt_T c.1 c.2.1 c.2.2.1) 50 pc = some i := fun _ _ z => z
  unfold wm50 at w
  refine ge_of (by decide) (Nat.le_of_ble_eq_true rfl) ?_
  show gw (gt_T c.1 c.2.1 c.2.2.1) c.2.2.2 d 50 (0, [some (.ref r0), some (.int x1), some (.int x2), none], [], h) _
  refine gw_pst hk 1 (st' := (1, [some (.ref r0), some (.int x1), some (.int x2), none], [.ref r0], h)) rfl ?_
  obtain ⟨z1, w⟩ := w
  refine gw_gf (hk _ _ rfl) (RL_fI hR (gs_ck_of z1 gs_ck_6_0)) ?_
  refine gw_pst hk 7 (st' := (11, [some (.ref r0), some (.int x1), some (.int x2), some (.int (((gsV s r0 0) + x2) - 1))], [.int 1, .int x1], h)) rfl ?_
  refine gw_br (c := x1 = 1) (a := (14, [some (.ref r0), some (.int x1), some (.int x2), some (.int (((gsV s r0 0) + x2) - 1))], [], h)) (b := (22, [some (.ref r0), some (.int x1), some (.int x2), some (.int (((gsV s r0 0) + x2) - 1))], [], h)) (hk _ _ rfl) rfl ⟨fun z2 => ?_, fun z2 => ?_⟩
  · replace w := w.1 z2
    refine gw_pst hk 2 (st' := (16, [some (.ref r0), some (.int x1), some (.int x2), some (.int (((gsV s r0 0) + x2) - 1))], [.int (((gsV s r0 0) + x2) - 1), .ref r0], h)) rfl ?_
    obtain ⟨z3, w⟩ := w
    obtain ⟨fs3, e3⟩ := RL_o hR (r := r0) (ci := 6) z3
    obtain ⟨l3, hR3⟩ := RL_pI (k := 9) (x := ((gsV s r0 0) + x2) - 1) hR (gs_ck_of z3 gs_ck_6_9) e3
    refine gw_pf (hk _ _ rfl) e3 l3 rfl ?_
    generalize gm_put h _ _ = h at hR3 ⊢
    obtain ⟨s_3, es3⟩ : ∃ z, z = gs_V s r0 9 (((gsV s r0 0) + x2) - 1) := ⟨_, rfl⟩
    rw [← es3] at hR3
    replace w := w s_3 es3
    replace hR := hR3
    refine gw_pst hk 1 (st' := (27, [some (.ref r0), some (.int x1), some (.int x2), some (.int (((gsV s r0 0) + x2) - 1))], [], h)) rfl ?_
    refine gw_le (L' := [none, none, none, some (.int (((gsV s r0 0) + x2) - 1))]) (gm_le_n _ (gm_le_n _ (gm_le_n _ (gm_le_k _ gm_le_nil)))) ?_
    exact ok50_27 c d Post _ _ w _ hR
  · replace w := w.2 z2
    refine gw_pst hk 2 (st' := (24, [some (.ref r0), some (.int x1), some (.int x2), some (.int (((gsV s r0 0) + x2) - 1))], [.int (((gsV s r0 0) + x2) - 1), .ref r0], h)) rfl ?_
    obtain ⟨z4, w⟩ := w
    obtain ⟨fs4, e4⟩ := RL_o hR (r := r0) (ci := 6) z4
    obtain ⟨l4, hR4⟩ := RL_pI (k := 8) (x := ((gsV s r0 0) + x2) - 1) hR (gs_ck_of z4 gs_ck_6_8) e4
    refine gw_pf (hk _ _ rfl) e4 l4 rfl ?_
    generalize gm_put h _ _ = h at hR4 ⊢
    obtain ⟨s_4, es4⟩ : ∃ z, z = gs_V s r0 8 (((gsV s r0 0) + x2) - 1) := ⟨_, rfl⟩
    rw [← es4] at hR4
    replace w := w s_4 es4
    replace hR := hR4
    refine gw_le (L' := [none, none, none, some (.int (((gsV s r0 0) + x2) - 1))]) (gm_le_n _ (gm_le_n _ (gm_le_n _ (gm_le_k _ gm_le_nil)))) ?_
    exact ok50_27 c d Post _ _ w _ hR
def w51_53 (c : gx) (d : Nat) (Post : Option Value → gs → Prop) (xs0 : Int32) (s : gs) : Prop :=
  Post (some (.int xs0)) s
theorem ok51_53 (c : gx) (d : Nat) (Post : Option Value → gs → Prop)  (xs0 : Int32) (s : gs) (w : w51_53 c d Post xs0 s) : tV c d 51 53 [none, none, none] [.int xs0] s Post := by
  intro h hR
  have hk : ∀ pc i, gm_find gk_51 pc = some i → gm_code (gt_T c.1 c.2.1 c.2.2.1) 51 pc = some i := fun _ _ z => z
  unfold w51_53 at w
  unfold gV
  exact gw_ret (hk _ _ rfl) rfl ⟨_, hR, w⟩
def w51_24 (c : gx) (d : Nat) (Post : Option Value → gs → Prop) (r0 : Nat) (x1 : Int32) (x2 : Int32) (s : gs) : Prop :=
  gs_isC r0 6 = true ∧ tE c d 49 [.ref r0, .int x2] s (fun v1 s_1 => ∃ x_1 : Int32, v1 = some (.int x_1) ∧ ((x1 ≤ x_1 → gs_isC r0 6 = true ∧ tE c d 49 [.ref r0, .int (1 - x2)] s_1 (fun v3 s_3 => ∃ x_3 : Int32, v3 = some (.int x_3) ∧ ((x1 ≤ x_3 → w51_53 c d Post (-1) s_3) ∧ (¬ (x1 ≤ x_3) → w51_53 c d Post (1 - x2) s_3)))) ∧ (¬ (x1 ≤ x_1) → Post (some (.int x2)) s_1)))
theorem ok51_24 (c : gx) (d : Nat) (Post : Option Value → gs → Prop)  (r0 : Nat) (x1 : Int32) (x2 : Int32) (s : gs) (w : w51_24 c d Post r0 x1 x2 s) : tV c d 51 24 [some (.ref r0), some (.int x1), some (.int x2)] [] s Post := by
  intro h hR
  have hk : ∀ pc i, gm_find gk_51 pc = some i → gm_code (gt_T c.1 c.2.1 c.2.2.1) 51 pc = some i := fun _ _ z => z
  unfold w51_24 at w
  unfold gV
  refine gw_pst hk 2 (st' := (26, [some (.ref r0), some (.int x1), some (.int x2)], [.int x2, .ref r0], h)) rfl ?_
  obtain ⟨z1, w⟩ := w
  obtain ⟨fs1, e1⟩ := RL_o hR (r := r0) (ci := 6) z1
  refine gw_call (jj := 49) (As := [.ref r0, .int x2]) (rest := []) (hk _ _ rfl) (fun _ => rfl) rfl rfl (Nat.le_of_ble_eq_true rfl) (gm_rcv_v rfl e1 rfl) ?_
  refine ge_imp (w h hR) (fun v1 h w => ?_)
  obtain ⟨s_1, hR, x_1, rfl, w⟩ := w
  show gw (gt_T c.1 c.2.1 c.2.2.1) c.2.2.2 d 51 (29, [some (.ref r0), some (.int x1), some (.int x2)], [.int x_1], h) _
  refine gw_pst hk 1 (st' := (30, [some (.ref r0), some (.int x1), some (.int x2)], [.int x1, .int x_1], h)) rfl ?_
  refine gw_br (c := x1 ≤ x_1) (a := (35, [some (.ref r0), some (.int x1), some (.int x2)], [], h)) (b := (33, [some (.ref r0), some (.int x1), some (.int x2)], [], h)) (hk _ _ rfl) rfl ⟨fun z2 => ?_, fun z2 => ?_⟩
  · replace w := w.1 z2
    refine gw_pst hk 4 (st' := (39, [some (.ref r0), some (.int x1), some (.int x2)], [.int (1 - x2), .ref r0], h)) rfl ?_
    obtain ⟨z3, w⟩ := w
    obtain ⟨fs3, e3⟩ := RL_o hR (r := r0) (ci := 6) z3
    refine gw_call (jj := 49) (As := [.ref r0, .int (1 - x2)]) (rest := []) (hk _ _ rfl) (fun _ => rfl) rfl rfl (Nat.le_of_ble_eq_true rfl) (gm_rcv_v rfl e3 rfl) ?_
    refine ge_imp (w h hR) (fun v3 h w => ?_)
    obtain ⟨s_3, hR, x_3, rfl, w⟩ := w
    show gw (gt_T c.1 c.2.1 c.2.2.1) c.2.2.2 d 51 (42, [some (.ref r0), some (.int x1), some (.int x2)], [.int x_3], h) _
    refine gw_pst hk 1 (st' := (43, [some (.ref r0), some (.int x1), some (.int x2)], [.int x1, .int x_3], h)) rfl ?_
    refine gw_br (c := x1 ≤ x_3) (a := (52, [some (.ref r0), some (.int x1), some (.int x2)], [], h)) (b := (46, [some (.ref r0), some (.int x1), some (.int x2)], [], h)) (hk _ _ rfl) rfl ⟨fun z4 => ?_, fun z4 => ?_⟩
    · replace w := w.1 z4
      refine gw_pst hk 1 (st' := (53, [some (.ref r0), some (.int x1), some (.int x2)], [.int (-1)], h)) rfl ?_
      refine gw_le (L' := [none, none, none]) (gm_le_n _ (gm_le_n _ (gm_le_n _ gm_le_nil))) ?_
      exact ok51_53 c d Post _ _ w _ hR
    · replace w := w.2 z4
      refine gw_pst hk 4 (st' := (53, [some (.ref r0), some (.int x1), some (.int x2)], [.int (1 - x2)], h)) rfl ?_
      refine gw_le (L' := [none, none, none]) (gm_le_n _ (gm_le_n _ (gm_le_n _ gm_le_nil))) ?_
      exact ok51_53 c d Post _ _ w _ hR
  · replace w := w.2 z2
    refine gw_pst hk 1 (st' := (34, [some (.ref r0), some (.int x1), some (.int x2)], [.int x2], h)) rfl ?_
    exact gw_ret (hk _ _ rfl) rfl ⟨_, hR, w⟩
def w51_11 (c : gx) (d : Nat) (Post : Option Value → gs → Prop) (r0 : Nat) (x1 : Int32) (xs0 : Int32) (s : gs) : Prop :=
  gs_isC r0 6 = true ∧ tE c d 52 [.ref r0, .int x1] s (fun v1 s_1 => ∃ x_1 : Int32, v1 = some (.int x_1) ∧ ((x_1 = 0 → w51_24 c d Post r0 x1 xs0 s_1) ∧ (¬ (x_1 = 0) → w51_24 c d Post r0 x1 (1 - xs0) s_1)))
theorem ok51_11 (c : gx) (d : Nat) (Post : Option Value → gs → Prop)  (r0 : Nat) (x1 : Int32) (xs0 : Int32) (s : gs) (w : w51_11 c d Post r0 x1 xs0 s) : tV c d 51 11 [some (.ref r0), some (.int x1), none] [.int xs0] s Post := by
  intro h hR
  have hk : ∀ pc i, gm_find gk_51 pc = some i → gm_code (gt_T c.1 c.2.1 c.2.2.1) 51 pc = some i := fun _ _ z => z
  unfold w51_11 at w
  unfold gV
  refine gw_pst hk 3 (st' := (14, [some (.ref r0), some (.int x1), some (.int xs0)], [.int x1, .ref r0], h)) rfl ?_
  obtain ⟨z1, w⟩ := w
  obtain ⟨fs1, e1⟩ := RL_o hR (r := r0) (ci := 6) z1
  refine gw_call (jj := 52) (As := [.ref r0, .int x1]) (rest := []) (hk _ _ rfl) (fun _ => rfl) rfl rfl (Nat.le_of_ble_eq_true rfl) (gm_rcv_v rfl e1 rfl) ?_
  refine ge_imp (w h hR) (fun v1 h w => ?_)
  obtain ⟨s_1, hR, x_1, rfl, w⟩ := w
  show gw (gt_T c.1 c.2.1 c.2.2.1) c.2.2.2 d 51 (17, [some (.ref r0), some (.int x1), some (.int xs0)], [.int x_1], h) _
  refine gw_br (c := x_1 = 0) (a := (24, [some (.ref r0), some (.int x1), some (.int xs0)], [], h)) (b := (20, [some (.ref r0), some (.int x1), some (.int xs0)], [], h)) (hk _ _ rfl) rfl ⟨fun z2 => ?_, fun z2 => ?_⟩
  · replace w := w.1 z2
    exact ok51_24 c d Post _ _ _ _ w _ hR
  · replace w := w.2 z2
    refine gw_pst hk 4 (st' := (24, [some (.ref r0), some (.int x1), some (.int (1 - xs0))], [], h)) rfl ?_
    exact ok51_24 c d Post _ _ _ _ w _ hR
/-- CommandByTurns$Standing.commanderOn(I)I -/
def wm51 (c : gx) (d : Nat) (Post : Option Value → gs → Prop) (r0 : Nat) (x1 : Int32) (s : gs) : Prop :=
  (((x1 - x1 / 2 * 2) = 0 → w51_11 c d Post r0 x1 0 s) ∧ (¬ ((x1 - x1 / 2 * 2) = 0) → w51_11 c d Post r0 x1 1 s))
theorem okm51 (c : gx) (d : Nat) (Post : Option Value → gs → Prop) (r0 : Nat) (x1 : Int32) (s : gs) (w : wm51 c d Post r0 x1 s) : tE c (d + 1) 51 [.ref r0, .int x1] s Post := by
  intro h hR
  have hk : ∀ pc i, gm_find gk_51 pc = some i → gm_code (gt_T c.1 c.2.1 c.2.2.1) 51 pc = some i := fun _ _ z => z
  unfold wm51 at w
  refine ge_of (by decide) (Nat.le_of_ble_eq_true rfl) ?_
  show gw (gt_T c.1 c.2.1 c.2.2.1) c.2.2.2 d 51 (0, [some (.ref r0), some (.int x1), none], [], h) _
  refine gw_pst hk 2 (st' := (2, [some (.ref r0), some (.int x1), none], [.int 2, .int x1], h)) rfl ?_
  refine gw_irem (hk _ _ rfl) (by decide) ?_ rfl
  refine gw_br (c := (x1 - x1 / 2 * 2) = 0) (a := (6, [some (.ref r0), some (.int x1), none], [], h)) (b := (10, [some (.ref r0), some (.int x1), none], [], h)) (hk _ _ rfl) rfl ⟨fun z1 => ?_, fun z1 => ?_⟩
  · replace w := w.1 z1
    refine gw_pst hk 2 (st' := (11, [some (.ref r0), some (.int x1), none], [.int 0], h)) rfl ?_
    exact ok51_11 c d Post _ _ _ _ w _ hR
  · replace w := w.2 z1
    refine gw_pst hk 1 (st' := (11, [some (.ref r0), some (.int x1), none], [.int 1], h)) rfl ?_
    exact ok51_11 c d Post _ _ _ _ w _ hR
def w52_10 (c : gx) (d : Nat) (Post : Option Value → gs → Prop)  (s : gs) : Prop :=
  Post (some (.int 0)) s
theorem ok52_10 (c : gx) (d : Nat) (Post : Option Value → gs → Prop)   (s : gs) (w : w52_10 c d Post  s) : tV c d 52 10 [none, none, none, none] [] s Post := by
  intro h hR
  have hk : ∀ pc i, gm_find gk_52 pc = some i → gm_code (gt_T c.1 c.2.1 c.2.2.1) 52 pc = some i := fun _ _ z => z
  unfold w52_10 at w
  unfold gV
  refine gw_pst hk 1 (st' := (11, [none, none, none, none], [.int 0], h)) rfl ?_
  exact gw_ret (hk _ _ rfl) rfl ⟨_, hR, w⟩
def w52_50 (c : gx) (d : Nat) (Post : Option Value → gs → Prop) (xs0 : Int32) (s : gs) : Prop :=
  ((xs0 = 0 ∨ xs0 = 1) ∧ Post (some (.int xs0)) s)
theorem ok52_50 (c : gx) (d : Nat) (Post : Option Value → gs → Prop)  (xs0 : Int32) (s : gs) (w : w52_50 c d Post xs0 s) : tV c d 52 50 [none, none, none, none] [.int xs0] s Post := by
  intro h hR
  have hk : ∀ pc i, gm_find gk_52 pc = some i → gm_code (gt_T c.1 c.2.1 c.2.2.1) 52 pc = some i := fun _ _ z => z
  unfold w52_50 at w
  unfold gV
  exact gw_retZ (hk _ _ rfl) rfl w.1 ⟨_, hR, w.2⟩
def w52_36 (c : gx) (d : Nat) (Post : Option Value → gs → Prop) (xs0 : Int64) (s : gs) : Prop :=
  (((lg_cmp (xs0 &&& 1) 1) = 0 → w52_50 c d Post 1 s) ∧ (¬ ((lg_cmp (xs0 &&& 1) 1) = 0) → w52_50 c d Post 0 s))
theorem ok52_36 (c : gx) (d : Nat) (Post : Option Value → gs → Prop)  (xs0 : Int64) (s : gs) (w : w52_36 c d Post xs0 s) : tV c d 52 36 [none, none, none, none] [.long xs0] s Post := by
  intro h hR
  have hk : ∀ pc i, gm_find gk_52 pc = some i → gm_code (gt_T c.1 c.2.1 c.2.2.1) 52 pc = some i := fun _ _ z => z
  unfold w52_36 at w
  unfold gV
  refine gw_pst hk 6 (st' := (42, [none, none, some (.long xs0), none], [.int (lg_cmp (xs0 &&& 1) 1)], h)) rfl ?_
  refine gw_br (c := (lg_cmp (xs0 &&& 1) 1) = 0) (a := (45, [none, none, some (.long xs0), none], [], h)) (b := (49, [none, none, some (.long xs0), none], [], h)) (hk _ _ rfl) rfl ⟨fun z1 => ?_, fun z1 => ?_⟩
  · replace w := w.1 z1
    refine gw_pst hk 2 (st' := (50, [none, none, some (.long xs0), none], [.int 1], h)) rfl ?_
    refine gw_le (L' := [none, none, none, none]) (gm_le_k _ (gm_le_k _ (gm_le_n _ (gm_le_k _ gm_le_nil)))) ?_
    exact ok52_50 c d Post _ _ w _ hR
  · replace w := w.2 z1
    refine gw_pst hk 1 (st' := (50, [none, none, some (.long xs0), none], [.int 0], h)) rfl ?_
    refine gw_le (L' := [none, none, none, none]) (gm_le_k _ (gm_le_k _ (gm_le_n _ (gm_le_k _ gm_le_nil)))) ?_
    exact ok52_50 c d Post _ _ w _ hR
/-- CommandByTurns$Standing.isLent(I)Z -/
def wm52 (c : gx) (d : Nat) (Post : Option Value → gs → Prop) (r0 : Nat) (x1 : Int32) (s : gs) : Prop :=
  ((x1 < 0 → w52_10 c d Post s) ∧ (¬ (x1 < 0) → ((x1 ≤ 99 → ((64 ≤ x1 → gs_isC r0 6 = true ∧ w52_36 c d Post (((gsE s r0 7 : Int64).toUInt64 >>> ((x1 - 64 : Int32).toInt64.toUInt64 &&& Int64.toUInt64 63)).toInt64) s) ∧ (¬ (64 ≤ x1) → gs_isC r0 6 = true ∧ w52_36 c d Post (((gsE s r0 6 : Int64).toUInt64 >>> ((x1 : Int32).toInt64.toUInt64 &&& Int64.toUInt64 63)).toInt64) s))) ∧ (¬ (x1 ≤ 99) → w52_10 c d Post s))))
theorem okm52 (c : gx) (d : Nat) (Post : Option Value → gs → Prop) (r0 : Nat) (x1 : Int32) (s : gs) (w : wm52 c d Post r0 x1 s) : tE c (d + 1) 52 [.ref r0, .int x1] s Post := by
  intro h hR
  have hk : ∀ pc i, gm_find gk_52 pc = some i → gm_code (gt_T c.1 c.2.1 c.2.2.1) 52 pc = some i := fun _ _ z => z
  unfold wm52 at w
  refine ge_of (by decide) (Nat.le_of_ble_eq_true rfl) ?_
  show gw (gt_T c.1 c.2.1 c.2.2.1) c.2.2.2 d 52 (0, [some (.ref r0), some (.int x1), none, none], [], h) _
  refine gw_pst hk 1 (st' := (1, [some (.ref r0), some (.int x1), none, none], [.int x1], h)) rfl ?_
  refine gw_br (c := x1 < 0) (a := (10, [some (.ref r0), some (.int x1), none, none], [], h)) (b := (4, [some (.ref r0), some (.int x1), none, none], [], h)) (hk _ _ rfl) rfl ⟨fun z1 => ?_, fun z1 => ?_⟩
  · replace w := w.1 z1
    refine gw_le (L' := [none, none, none, none]) (gm_le_n _ (gm_le_n _ (gm_le_k _ (gm_le_k _ gm_le_nil)))) ?_
    exact ok52_10 c d Post _ w _ hR
  · replace w := w.2 z1
    refine gw_pst hk 2 (st' := (7, [some (.ref r0), some (.int x1), none, none], [.int 99, .int x1], h)) rfl ?_
    refine gw_br (c := x1 ≤ 99) (a := (12, [some (.ref r0), some (.int x1), none, none], [], h)) (b := (10, [some (.ref r0), some (.int x1), none, none], [], h)) (hk _ _ rfl) rfl ⟨fun z2 => ?_, fun z2 => ?_⟩
    · replace w := w.1 z2
      refine gw_pst hk 2 (st' := (15, [some (.ref r0), some (.int x1), none, none], [.int 64, .int x1], h)) rfl ?_
      refine gw_br (c := 64 ≤ x1) (a := (27, [some (.ref r0), some (.int x1), none, none], [], h)) (b := (18, [some (.ref r0), some (.int x1), none, none], [], h)) (hk _ _ rfl) rfl ⟨fun z3 => ?_, fun z3 => ?_⟩
      · replace w := w.1 z3
        refine gw_pst hk 1 (st' := (28, [some (.ref r0), some (.int x1), none, none], [.ref r0], h)) rfl ?_
        obtain ⟨z4, w⟩ := w
        refine gw_gf (hk _ _ rfl) (RL_fJ hR (gs_ck_of z4 gs_ck_6_7)) ?_
        refine gw_pst hk 4 (st' := (36, [some (.ref r0), some (.int x1), none, none], [.long (((gsE s r0 7 : Int64).toUInt64 >>> ((x1 - 64 : Int32).toInt64.toUInt64 &&& Int64.toUInt64 63)).toInt64)], h)) rfl ?_
        refine gw_le (L' := [none, none, none, none]) (gm_le_n _ (gm_le_n _ (gm_le_k _ (gm_le_k _ gm_le_nil)))) ?_
        exact ok52_36 c d Post _ _ w _ hR
      · replace w := w.2 z3
        refine gw_pst hk 1 (st' := (19, [some (.ref r0), some (.int x1), none, none], [.ref r0], h)) rfl ?_
        obtain ⟨z5, w⟩ := w
        refine gw_gf (hk _ _ rfl) (RL_fJ hR (gs_ck_of z5 gs_ck_6_6)) ?_
        refine gw_pst hk 3 (st' := (36, [some (.ref r0), some (.int x1), none, none], [.long (((gsE s r0 6 : Int64).toUInt64 >>> ((x1 : Int32).toInt64.toUInt64 &&& Int64.toUInt64 63)).toInt64)], h)) rfl ?_
        refine gw_le (L' := [none, none, none, none]) (gm_le_n _ (gm_le_n _ (gm_le_k _ (gm_le_k _ gm_le_nil)))) ?_
        exact ok52_36 c d Post _ _ w _ hR
    · replace w := w.2 z2
      refine gw_le (L' := [none, none, none, none]) (gm_le_n _ (gm_le_n _ (gm_le_k _ (gm_le_k _ gm_le_nil)))) ?_
      exact ok52_10 c d Post _ w _ hR
def w53_40 (c : gx) (d : Nat) (Post : Option Value → gs → Prop)  (s : gs) : Prop :=
  Post none s
theorem ok53_40 (c : gx) (d : Nat) (Post : Option Value → gs → Prop)   (s : gs) (w : w53_40 c d Post  s) : tV c d 53 40 [none, none] [] s Post := by
  intro h hR
  have hk : ∀ pc i, gm_find gk_53 pc = some i → gm_code (gt_T c.1 c.2.1 c.2.2.1) 53 pc = some i := fun _ _ z => z
  unfold w53_40 at w
  unfold gV
  exact gw_ret (hk _ _ rfl) rfl ⟨_, hR, w⟩
/-- CommandByTurns$Standing.turnLent(I)V -/
def wm53 (c : gx) (d : Nat) (Post : Option Value → gs → Prop) (r0 : Nat) (x1 : Int32) (s : gs) : Prop :=
  ((x1 < 64 → ((x1 < 0 → w53_40 c d Post s) ∧ (¬ (x1 < 0) → gs_isC r0 6 = true ∧ gs_isC r0 6 = true ∧ ∀ s_4 : gs, s_4 = gs_E s r0 6 ((gsE s r0 6) ^^^ (1 <<< ((x1 : Int32).toInt64 &&& 63))) → w53_40 c d Post s_4))) ∧ (¬ (x1 < 64) → gs_isC r0 6 = true ∧ gs_isC r0 6 = true ∧ ∀ s_6 : gs, s_6 = gs_E s r0 7 ((gsE s r0 7) ^^^ (1 <<< ((x1 - 64 : Int32).toInt64 &&& 63))) → w53_40 c d Post s_6))
theorem okm53 (c : gx) (d : Nat) (Post : Option Value → gs → Prop) (r0 : Nat) (x1 : Int32) (s : gs) (w : wm53 c d Post r0 x1 s) : tE c (d + 1) 53 [.ref r0, .int x1] s Post := by
  intro h hR
  have hk : ∀ pc i, gm_find gk_53 pc = some i → gm_code (gt_T c.1 c.2.1 c.2.2.1) 53 pc = some i := fun _ _ z => z
  unfold wm53 at w
  refine ge_of (by decide) (Nat.le_of_ble_eq_true rfl) ?_
  show gw (gt_T c.1 c.2.1 c.2.2.1) c.2.2.2 d 53 (0, [some (.ref r0), some (.int x1)], [], h) _
  refine gw_pst hk 2 (st' := (3, [some (.ref r0), some (.int x1)], [.int 64, .int x1], h)) rfl ?_
  refine gw_br (c := x1 < 64) (a := (24, [some (.ref r0), some (.int x1)], [], h)) (b := (6, [some (.ref r0), some (.int x1)], [], h)) (hk _ _ rfl) rfl ⟨fun z1 => ?_, fun z1 => ?_⟩
  · replace w := w.1 z1
    refine gw_pst hk 1 (st' := (25, [some (.ref r0), some (.int x1)], [.int x1], h)) rfl ?_
    refine gw_br (c := x1 < 0) (a := (40, [some (.ref r0), some (.int x1)], [], h)) (b := (28, [some (.ref r0), some (.int x1)], [], h)) (hk _ _ rfl) rfl ⟨fun z2 => ?_, fun z2 => ?_⟩
    · replace w := w.1 z2
      refine gw_le (L' := [none, none]) (gm_le_n _ (gm_le_n _ gm_le_nil)) ?_
      exact ok53_40 c d Post _ w _ hR
    · replace w := w.2 z2
      refine gw_pst hk 2 (st' := (30, [some (.ref r0), some (.int x1)], [.ref r0, .ref r0], h)) rfl ?_
      obtain ⟨z3, w⟩ := w
      refine gw_gf (hk _ _ rfl) (RL_fJ hR (gs_ck_of z3 gs_ck_6_6)) ?_
      refine gw_pst hk 4 (st' := (37, [some (.ref r0), some (.int x1)], [.long ((gsE s r0 6) ^^^ (1 <<< ((x1 : Int32).toInt64 &&& 63))), .ref r0], h)) rfl ?_
      obtain ⟨z4, w⟩ := w
      obtain ⟨fs4, e4⟩ := RL_o hR (r := r0) (ci := 6) z4
      obtain ⟨l4, hR4⟩ := RL_pJ (k := 6) (x := (gsE s r0 6) ^^^ (1 <<< ((x1 : Int32).toInt64 &&& 63))) hR (gs_ck_of z4 gs_ck_6_6) e4
      refine gw_pf (hk _ _ rfl) e4 l4 rfl ?_
      generalize gm_put h _ _ = h at hR4 ⊢
      obtain ⟨s_4, es4⟩ : ∃ z, z = gs_E s r0 6 ((gsE s r0 6) ^^^ (1 <<< ((x1 : Int32).toInt64 &&& 63))) := ⟨_, rfl⟩
      rw [← es4] at hR4
      replace w := w s_4 es4
      replace hR := hR4
      refine gw_le (L' := [none, none]) (gm_le_n _ (gm_le_n _ gm_le_nil)) ?_
      exact ok53_40 c d Post _ w _ hR
  · replace w := w.2 z1
    refine gw_pst hk 2 (st' := (8, [some (.ref r0), some (.int x1)], [.ref r0, .ref r0], h)) rfl ?_
    obtain ⟨z5, w⟩ := w
    refine gw_gf (hk _ _ rfl) (RL_fJ hR (gs_ck_of z5 gs_ck_6_7)) ?_
    refine gw_pst hk 6 (st' := (18, [some (.ref r0), some (.int x1)], [.long ((gsE s r0 7) ^^^ (1 <<< ((x1 - 64 : Int32).toInt64 &&& 63))), .ref r0], h)) rfl ?_
    obtain ⟨z6, w⟩ := w
    obtain ⟨fs6, e6⟩ := RL_o hR (r := r0) (ci := 6) z6
    obtain ⟨l6, hR6⟩ := RL_pJ (k := 7) (x := (gsE s r0 7) ^^^ (1 <<< ((x1 - 64 : Int32).toInt64 &&& 63))) hR (gs_ck_of z6 gs_ck_6_7) e6
    refine gw_pf (hk _ _ rfl) e6 l6 rfl ?_
    generalize gm_put h _ _ = h at hR6 ⊢
    obtain ⟨s_6, es6⟩ : ∃ z, z = gs_E s r0 7 ((gsE s r0 7) ^^^ (1 <<< ((x1 - 64 : Int32).toInt64 &&& 63))) := ⟨_, rfl⟩
    rw [← es6] at hR6
    replace w := w s_6 es6
    replace hR := hR6
    refine gw_pst hk 1 (st' := (40, [some (.ref r0), some (.int x1)], [], h)) rfl ?_
    refine gw_le (L' := [none, none]) (gm_le_n _ (gm_le_n _ gm_le_nil)) ?_
    exact ok53_40 c d Post _ w _ hR
def w54_28 (c : gx) (d : Nat) (Post : Option Value → gs → Prop) (K8 : Nat → Int32 → Int32 → gs → Prop) (r0 : Nat) (x3 : Int32) (xs0 : Int32) (xs1 : Int32) (s : gs) : Prop :=
  K8 r0 (xs0 + xs1) (x3 + 1) s
theorem ok54_28 (c : gx) (d : Nat) (Post : Option Value → gs → Prop) (K8 : Nat → Int32 → Int32 → gs → Prop)  (hK8 : ∀ (r0 : Nat) (x2 : Int32) (x3 : Int32) (s : gs), K8 r0 x2 x3 s → tV c d 54 8 [some (.ref r0), none, some (.int x2), some (.int x3)] [] s Post) (r0 : Nat) (x3 : Int32) (xs0 : Int32) (xs1 : Int32) (s : gs) (w : w54_28 c d Post K8 r0 x3 xs0 xs1 s) : tV c d 54 28 [some (.ref r0), none, none, some (.int x3)] [.int xs1, .int xs0] s Post := by
  intro h hR
  have hk : ∀ pc i, gm_find gk_54 pc = some i → gm_code (gt_T c.1 c.2.1 c.2.2.1) 54 pc = some i := fun _ _ z => z
  unfold w54_28 at w
  unfold gV
  refine gw_pst hk 4 (st' := (8, [some (.ref r0), none, some (.int (xs0 + xs1)), some (.int (x3 + 1))], [], h)) rfl ?_
  exact hK8 _ _ _ _ w _ hR
def wb54_8 (c : gx) (d : Nat) (Post : Option Value → gs → Prop) (K8 : Nat → Int32 → Int32 → gs → Prop) (r0 : Nat) (x2 : Int32) (x3 : Int32) (s : gs) : Prop :=
  ((99 < x3 → Post (some (.int x2)) s) ∧ (¬ (99 < x3) → gs_isC r0 6 = true ∧ tE c d 52 [.ref r0, .int x3] s (fun v2 s_2 => ∃ x_2 : Int32, v2 = some (.int x_2) ∧ ((x_2 = 0 → w54_28 c d Post K8 r0 x3 x2 0 s_2) ∧ (¬ (x_2 = 0) → w54_28 c d Post K8 r0 x3 x2 1 s_2)))))
theorem okb54_8 (c : gx) (d : Nat) (Post : Option Value → gs → Prop) (K8 : Nat → Int32 → Int32 → gs → Prop)  (hK8 : ∀ (r0 : Nat) (x2 : Int32) (x3 : Int32) (s : gs), K8 r0 x2 x3 s → tV c d 54 8 [some (.ref r0), none, some (.int x2), some (.int x3)] [] s Post) (r0 : Nat) (x2 : Int32) (x3 : Int32) (s : gs) (w : wb54_8 c d Post K8 r0 x2 x3 s) : tV c d 54 8 [some (.ref r0), none, some (.int x2), some (.int x3)] [] s Post := by
  intro h hR
  have hk : ∀ pc i, gm_find gk_54 pc = some i → gm_code (gt_T c.1 c.2.1 c.2.2.1) 54 pc = some i := fun _ _ z => z
  unfold wb54_8 at w
  unfold gV
  refine gw_pst hk 2 (st' := (11, [some (.ref r0), none, some (.int x2), some (.int x3)], [.int 99, .int x3], h)) rfl ?_
  refine gw_br (c := 99 < x3) (a := (36, [some (.ref r0), none, some (.int x2), some (.int x3)], [], h)) (b := (14, [some (.ref r0), none, some (.int x2), some (.int x3)], [], h)) (hk _ _ rfl) rfl ⟨fun z1 => ?_, fun z1 => ?_⟩
  · replace w := w.1 z1
    refine gw_pst hk 1 (st' := (37, [some (.ref r0), none, some (.int x2), some (.int x3)], [.int x2], h)) rfl ?_
    exact gw_ret (hk _ _ rfl) rfl ⟨_, hR, w⟩
  · replace w := w.2 z1
    refine gw_pst hk 3 (st' := (17, [some (.ref r0), none, some (.int x2), some (.int x3)], [.int x3, .ref r0, .int x2], h)) rfl ?_
    obtain ⟨z2, w⟩ := w
    obtain ⟨fs2, e2⟩ := RL_o hR (r := r0) (ci := 6) z2
    refine gw_call (jj := 52) (As := [.ref r0, .int x3]) (rest := [.int x2]) (hk _ _ rfl) (fun _ => rfl) rfl rfl (Nat.le_of_ble_eq_true rfl) (gm_rcv_v rfl e2 rfl) ?_
    refine ge_imp (w h hR) (fun v2 h w => ?_)
    obtain ⟨s_2, hR, x_2, rfl, w⟩ := w
    show gw (gt_T c.1 c.2.1 c.2.2.1) c.2.2.2 d 54 (20, [some (.ref r0), none, some (.int x2), some (.int x3)], [.int x_2, .int x2], h) _
    refine gw_br (c := x_2 = 0) (a := (27, [some (.ref r0), none, some (.int x2), some (.int x3)], [.int x2], h)) (b := (23, [some (.ref r0), none, some (.int x2), some (.int x3)], [.int x2], h)) (hk _ _ rfl) rfl ⟨fun z3 => ?_, fun z3 => ?_⟩
    · replace w := w.1 z3
      refine gw_pst hk 1 (st' := (28, [some (.ref r0), none, some (.int x2), some (.int x3)], [.int 0, .int x2], h)) rfl ?_
      refine gw_le (L' := [some (.ref r0), none, none, some (.int x3)]) (gm_le_k _ (gm_le_k _ (gm_le_n _ (gm_le_k _ gm_le_nil)))) ?_
      exact ok54_28 c d Post K8 hK8 _ _ _ _ _ w _ hR
    · replace w := w.2 z3
      refine gw_pst hk 2 (st' := (28, [some (.ref r0), none, some (.int x2), some (.int x3)], [.int 1, .int x2], h)) rfl ?_
      refine gw_le (L' := [some (.ref r0), none, none, some (.int x3)]) (gm_le_k _ (gm_le_k _ (gm_le_n _ (gm_le_k _ gm_le_nil)))) ?_
      exact ok54_28 c d Post K8 hK8 _ _ _ _ _ w _ hR
def wl54_8 (c : gx) (d : Nat) (Post : Option Value → gs → Prop) : Nat → Nat → Int32 → Int32 → gs → Prop
  | 0 => fun _ _ _ _ => False
  | n + 1 => wb54_8 c d Post (wl54_8 c d Post n)
theorem okl54_8 (c : gx) (d : Nat) (Post : Option Value → gs → Prop) : ∀ (n : Nat) (r0 : Nat) (x2 : Int32) (x3 : Int32) (s : gs), wl54_8 c d Post n r0 x2 x3 s → tV c d 54 8 [some (.ref r0), none, some (.int x2), some (.int x3)] [] s Post
  | 0, _, _, _, _, w => w.elim
  | n + 1, r0, x2, x3, s, w => okb54_8 c d Post (wl54_8 c d Post n) (okl54_8 c d Post n) r0 x2 x3 s w
/-- CommandByTurns$Standing.lentFrom(I)I -/
def wm54 (c : gx) (d : Nat) (Post : Option Value → gs → Prop) (r0 : Nat) (x1 : Int32) (s : gs) : Prop :=
  ∃ n, wl54_8 c d Post n r0 0 (if 0 < x1 then x1 else 0) s
theorem okm54 (c : gx) (d : Nat) (Post : Option Value → gs → Prop) (r0 : Nat) (x1 : Int32) (s : gs) (w : wm54 c d Post r0 x1 s) : tE c (d + 1) 54 [.ref r0, .int x1] s Post := by
  intro h hR
  have hk : ∀ pc i, gm_find gk_54 pc = some i → gm_code (gt_T c.1 c.2.1 c.2.2.1) 54 pc = some i := fun _ _ z => z
  unfold wm54 at w
  refine ge_of (by decide) (Nat.le_of_ble_eq_true rfl) ?_
  show gw (gt_T c.1 c.2.1 c.2.2.1) c.2.2.2 d 54 (0, [some (.ref r0), some (.int x1), none, none], [], h) _
  refine gw_pst hk 6 (st' := (8, [some (.ref r0), some (.int x1), some (.int 0), some (.int (if 0 < x1 then x1 else 0))], [], h)) rfl ?_
  refine gw_le (L' := [some (.ref r0), none, some (.int 0), some (.int (if 0 < x1 then x1 else 0))]) (gm_le_k _ (gm_le_n _ (gm_le_k _ (gm_le_k _ gm_le_nil)))) ?_
  obtain ⟨n, w⟩ := w
  exact okl54_8 c d Post n _ _ _ _ w _ hR
/-- CommandByTurns$Standing.provide(II)I -/
def wm55 (c : gx) (d : Nat) (Post : Option Value → gs → Prop) (r0 : Nat) (x1 : Int32) (x2 : Int32) (s : gs) : Prop :=
  ((x1 = 0 → gs_isC r0 6 = true ∧ gs_isC r0 6 = true ∧ ∀ s_3 : gs, s_3 = gs_V s r0 5 (if ((gsV s r0 5) + x2) < 9999 then ((gsV s r0 5) + x2) else 9999) → gs_isC r0 6 = true ∧ Post (some (.int (gsV s_3 r0 5))) s_3) ∧ (x1 = 1 → gs_isC r0 6 = true ∧ gs_isC r0 6 = true ∧ ∀ s_6 : gs, s_6 = gs_V s r0 3 (if ((gsV s r0 3) + x2) < 9999 then ((gsV s r0 3) + x2) else 9999) → gs_isC r0 6 = true ∧ Post (some (.int (gsV s_6 r0 3))) s_6) ∧ (¬ x1 = 0 ∧ ¬ x1 = 1 → gs_isC r0 6 = true ∧ gs_isC r0 6 = true ∧ ∀ s_9 : gs, s_9 = gs_V s r0 4 (if ((gsV s r0 4) + x2) < 9999 then ((gsV s r0 4) + x2) else 9999) → gs_isC r0 6 = true ∧ Post (some (.int (gsV s_9 r0 4))) s_9))
theorem okm55 (c : gx) (d : Nat) (Post : Option Value → gs → Prop) (r0 : Nat) (x1 : Int32) (x2 : Int32) (s : gs) (w : wm55 c d Post r0 x1 x2 s) : tE c (d + 1) 55 [.ref r0, .int x1, .int x2] s Post := by
  intro h hR
  have hk : ∀ pc i, gm_find gk_55 pc = some i → gm_code (gt_T c.1 c.2.1 c.2.2.1) 55 pc = some i := fun _ _ z => z
  unfold wm55 at w
  refine ge_of (by decide) (Nat.le_of_ble_eq_true rfl) ?_
  show gw (gt_T c.1 c.2.1 c.2.2.1) c.2.2.2 d 55 (0, [some (.ref r0), some (.int x1), some (.int x2)], [], h) _
  refine gw_pst hk 1 (st' := (1, [some (.ref r0), some (.int x1), some (.int x2)], [.int x1], h)) rfl ?_
  by_cases z1_0 : x1 = 0
  · replace w := w.1 z1_0
    refine gw_swk (st' := (28, [some (.ref r0), some (.int x1), some (.int x2)], [], h)) (hk _ _ rfl) z1_0 rfl ?_
    refine gw_pst hk 3 (st' := (33, [some (.ref r0), some (.int x1), some (.int x2)], [.ref r0, .int 9999, .ref r0], h)) rfl ?_
    obtain ⟨z2, w⟩ := w
    refine gw_gf (hk _ _ rfl) (RL_fI hR (gs_ck_of z2 gs_ck_6_5)) ?_
    refine gw_pst hk 3 (st' := (41, [some (.ref r0), some (.int x1), some (.int x2)], [.int (if ((gsV s r0 5) + x2) < 9999 then ((gsV s r0 5) + x2) else 9999), .ref r0], h)) rfl ?_
    obtain ⟨z3, w⟩ := w
    obtain ⟨fs3, e3⟩ := RL_o hR (r := r0) (ci := 6) z3
    obtain ⟨l3, hR3⟩ := RL_pI (k := 5) (x := if ((gsV s r0 5) + x2) < 9999 then ((gsV s r0 5) + x2) else 9999) hR (gs_ck_of z3 gs_ck_6_5) e3
    refine gw_pf (hk _ _ rfl) e3 l3 rfl ?_
    generalize gm_put h _ _ = h at hR3 ⊢
    obtain ⟨s_3, es3⟩ : ∃ z, z = gs_V s r0 5 (if ((gsV s r0 5) + x2) < 9999 then ((gsV s r0 5) + x2) else 9999) := ⟨_, rfl⟩
    rw [← es3] at hR3
    replace w := w s_3 es3
    replace hR := hR3
    refine gw_pst hk 1 (st' := (45, [some (.ref r0), some (.int x1), some (.int x2)], [.ref r0], h)) rfl ?_
    obtain ⟨z4, w⟩ := w
    refine gw_gf (hk _ _ rfl) (RL_fI hR (gs_ck_of z4 gs_ck_6_5)) ?_
    exact gw_ret (hk _ _ rfl) rfl ⟨_, hR, w⟩
  by_cases z1_1 : x1 = 1
  · replace w := w.2.1 z1_1
    refine gw_swk (st' := (49, [some (.ref r0), some (.int x1), some (.int x2)], [], h)) (hk _ _ rfl) z1_1 rfl ?_
    refine gw_pst hk 3 (st' := (54, [some (.ref r0), some (.int x1), some (.int x2)], [.ref r0, .int 9999, .ref r0], h)) rfl ?_
    obtain ⟨z5, w⟩ := w
    refine gw_gf (hk _ _ rfl) (RL_fI hR (gs_ck_of z5 gs_ck_6_3)) ?_
    refine gw_pst hk 3 (st' := (62, [some (.ref r0), some (.int x1), some (.int x2)], [.int (if ((gsV s r0 3) + x2) < 9999 then ((gsV s r0 3) + x2) else 9999), .ref r0], h)) rfl ?_
    obtain ⟨z6, w⟩ := w
    obtain ⟨fs6, e6⟩ := RL_o hR (r := r0) (ci := 6) z6
    obtain ⟨l6, hR6⟩ := RL_pI (k := 3) (x := if ((gsV s r0 3) + x2) < 9999 then ((gsV s r0 3) + x2) else 9999) hR (gs_ck_of z6 gs_ck_6_3) e6
    refine gw_pf (hk _ _ rfl) e6 l6 rfl ?_
    generalize gm_put h _ _ = h at hR6 ⊢
    obtain ⟨s_6, es6⟩ : ∃ z, z = gs_V s r0 3 (if ((gsV s r0 3) + x2) < 9999 then ((gsV s r0 3) + x2) else 9999) := ⟨_, rfl⟩
    rw [← es6] at hR6
    replace w := w s_6 es6
    replace hR := hR6
    refine gw_pst hk 1 (st' := (66, [some (.ref r0), some (.int x1), some (.int x2)], [.ref r0], h)) rfl ?_
    obtain ⟨z7, w⟩ := w
    refine gw_gf (hk _ _ rfl) (RL_fI hR (gs_ck_of z7 gs_ck_6_3)) ?_
    exact gw_ret (hk _ _ rfl) rfl ⟨_, hR, w⟩
  replace w := w.2.2 ⟨z1_0, z1_1⟩
  refine gw_lsd (st' := (70, [some (.ref r0), some (.int x1), some (.int x2)], [], h)) (hk _ _ rfl) (by
      have y0 : ¬ 0 = (x1 : Int32).toInt := fun z => z1_0 (Int32.toInt_inj.mp z.symm)
      have y1 : ¬ 1 = (x1 : Int32).toInt := fun z => z1_1 (Int32.toInt_inj.mp z.symm)
      simp [Op.lookupswitch.offset, y0, y1]) rfl ?_
  refine gw_pst hk 3 (st' := (75, [some (.ref r0), some (.int x1), some (.int x2)], [.ref r0, .int 9999, .ref r0], h)) rfl ?_
  obtain ⟨z8, w⟩ := w
  refine gw_gf (hk _ _ rfl) (RL_fI hR (gs_ck_of z8 gs_ck_6_4)) ?_
  refine gw_pst hk 3 (st' := (83, [some (.ref r0), some (.int x1), some (.int x2)], [.int (if ((gsV s r0 4) + x2) < 9999 then ((gsV s r0 4) + x2) else 9999), .ref r0], h)) rfl ?_
  obtain ⟨z9, w⟩ := w
  obtain ⟨fs9, e9⟩ := RL_o hR (r := r0) (ci := 6) z9
  obtain ⟨l9, hR9⟩ := RL_pI (k := 4) (x := if ((gsV s r0 4) + x2) < 9999 then ((gsV s r0 4) + x2) else 9999) hR (gs_ck_of z9 gs_ck_6_4) e9
  refine gw_pf (hk _ _ rfl) e9 l9 rfl ?_
  generalize gm_put h _ _ = h at hR9 ⊢
  obtain ⟨s_9, es9⟩ : ∃ z, z = gs_V s r0 4 (if ((gsV s r0 4) + x2) < 9999 then ((gsV s r0 4) + x2) else 9999) := ⟨_, rfl⟩
  rw [← es9] at hR9
  replace w := w s_9 es9
  replace hR := hR9
  refine gw_pst hk 1 (st' := (87, [some (.ref r0), some (.int x1), some (.int x2)], [.ref r0], h)) rfl ?_
  obtain ⟨z10, w⟩ := w
  refine gw_gf (hk _ _ rfl) (RL_fI hR (gs_ck_of z10 gs_ck_6_4)) ?_
  exact gw_ret (hk _ _ rfl) rfl ⟨_, hR, w⟩
def w56_28 (c : gx) (d : Nat) (Post : Option Value → gs → Prop) (r0 : Nat) (x3 : Int32) (xs0 : Int32) (s : gs) : Prop :=
  gs_isC r0 6 = true ∧ gs_isC r0 6 = true ∧ ∀ s_2 : gs, s_2 = gs_V s r0 3 (if 0 < ((gsV s r0 3) - x3) then ((gsV s r0 3) - x3) else 0) → gs_isC r0 6 = true ∧ gs_isC r0 6 = true ∧ ∀ s_4 : gs, s_4 = gs_V s_2 r0 4 (if 0 < ((gsV s_2 r0 4) - xs0) then ((gsV s_2 r0 4) - xs0) else 0) → Post none s_4
theorem ok56_28 (c : gx) (d : Nat) (Post : Option Value → gs → Prop)  (r0 : Nat) (x3 : Int32) (xs0 : Int32) (s : gs) (w : w56_28 c d Post r0 x3 xs0 s) : tV c d 56 28 [some (.ref r0), none, none, some (.int x3), none] [.int xs0] s Post := by
  intro h hR
  have hk : ∀ pc i, gm_find gk_56 pc = some i → gm_code (gt_T c.1 c.2.1 c.2.2.1) 56 pc = some i := fun _ _ z => z
  unfold w56_28 at w
  unfold gV
  refine gw_pst hk 4 (st' := (33, [some (.ref r0), none, none, some (.int x3), some (.int xs0)], [.ref r0, .int 0, .ref r0], h)) rfl ?_
  obtain ⟨z1, w⟩ := w
  refine gw_gf (hk _ _ rfl) (RL_fI hR (gs_ck_of z1 gs_ck_6_3)) ?_
  refine gw_pst hk 3 (st' := (41, [some (.ref r0), none, none, some (.int x3), some (.int xs0)], [.int (if 0 < ((gsV s r0 3) - x3) then ((gsV s r0 3) - x3) else 0), .ref r0], h)) rfl ?_
  obtain ⟨z2, w⟩ := w
  obtain ⟨fs2, e2⟩ := RL_o hR (r := r0) (ci := 6) z2
  obtain ⟨l2, hR2⟩ := RL_pI (k := 3) (x := if 0 < ((gsV s r0 3) - x3) then ((gsV s r0 3) - x3) else 0) hR (gs_ck_of z2 gs_ck_6_3) e2
  refine gw_pf (hk _ _ rfl) e2 l2 rfl ?_
  generalize gm_put h _ _ = h at hR2 ⊢
  obtain ⟨s_2, es2⟩ : ∃ z, z = gs_V s r0 3 (if 0 < ((gsV s r0 3) - x3) then ((gsV s r0 3) - x3) else 0) := ⟨_, rfl⟩
  rw [← es2] at hR2
  replace w := w s_2 es2
  replace hR := hR2
  refine gw_pst hk 3 (st' := (47, [some (.ref r0), none, none, some (.int x3), some (.int xs0)], [.ref r0, .int 0, .ref r0], h)) rfl ?_
  obtain ⟨z3, w⟩ := w
  refine gw_gf (hk _ _ rfl) (RL_fI hR (gs_ck_of z3 gs_ck_6_4)) ?_
  refine gw_pst hk 3 (st' := (56, [some (.ref r0), none, none, some (.int x3), some (.int xs0)], [.int (if 0 < ((gsV s_2 r0 4) - xs0) then ((gsV s_2 r0 4) - xs0) else 0), .ref r0], h)) rfl ?_
  obtain ⟨z4, w⟩ := w
  obtain ⟨fs4, e4⟩ := RL_o hR (r := r0) (ci := 6) z4
  obtain ⟨l4, hR4⟩ := RL_pI (k := 4) (x := if 0 < ((gsV s_2 r0 4) - xs0) then ((gsV s_2 r0 4) - xs0) else 0) hR (gs_ck_of z4 gs_ck_6_4) e4
  refine gw_pf (hk _ _ rfl) e4 l4 rfl ?_
  generalize gm_put h _ _ = h at hR4 ⊢
  obtain ⟨s_4, es4⟩ : ∃ z, z = gs_V s_2 r0 4 (if 0 < ((gsV s_2 r0 4) - xs0) then ((gsV s_2 r0 4) - xs0) else 0) := ⟨_, rfl⟩
  rw [← es4] at hR4
  replace w := w s_4 es4
  replace hR := hR4
  exact gw_ret (hk _ _ rfl) rfl ⟨_, hR, w⟩
def w56_16 (c : gx) (d : Nat) (Post : Option Value → gs → Prop) (r0 : Nat) (x1 : Int32) (x2 : Int32) (xs0 : Int32) (s : gs) : Prop :=
  ((x1 ≤ 0 → w56_28 c d Post r0 xs0 (x2 / 3) s) ∧ (¬ (x1 ≤ 0) → w56_28 c d Post r0 xs0 x2 s))
theorem ok56_16 (c : gx) (d : Nat) (Post : Option Value → gs → Prop)  (r0 : Nat) (x1 : Int32) (x2 : Int32) (xs0 : Int32) (s : gs) (w : w56_16 c d Post r0 x1 x2 xs0 s) : tV c d 56 16 [some (.ref r0), some (.int x1), some (.int x2), none, none] [.int xs0] s Post := by
  intro h hR
  have hk : ∀ pc i, gm_find gk_56 pc = some i → gm_code (gt_T c.1 c.2.1 c.2.2.1) 56 pc = some i := fun _ _ z => z
  unfold w56_16 at w
  unfold gV
  refine gw_pst hk 2 (st' := (18, [some (.ref r0), some (.int x1), some (.int x2), some (.int xs0), none], [.int x1], h)) rfl ?_
  refine gw_br (c := x1 ≤ 0) (a := (25, [some (.ref r0), some (.int x1), some (.int x2), some (.int xs0), none], [], h)) (b := (21, [some (.ref r0), some (.int x1), some (.int x2), some (.int xs0), none], [], h)) (hk _ _ rfl) rfl ⟨fun z1 => ?_, fun z1 => ?_⟩
  · replace w := w.1 z1
    refine gw_pst hk 2 (st' := (27, [some (.ref r0), some (.int x1), some (.int x2), some (.int xs0), none], [.int 3, .int x2], h)) rfl ?_
    refine gw_idiv (hk _ _ rfl) (by decide) ?_ rfl
    refine gw_le (L' := [some (.ref r0), none, none, some (.int xs0), none]) (gm_le_k _ (gm_le_n _ (gm_le_n _ (gm_le_k _ (gm_le_k _ gm_le_nil))))) ?_
    exact ok56_28 c d Post _ _ _ _ w _ hR
  · replace w := w.2 z1
    refine gw_pst hk 2 (st' := (28, [some (.ref r0), some (.int x1), some (.int x2), some (.int xs0), none], [.int x2], h)) rfl ?_
    refine gw_le (L' := [some (.ref r0), none, none, some (.int xs0), none]) (gm_le_k _ (gm_le_n _ (gm_le_n _ (gm_le_k _ (gm_le_k _ gm_le_nil))))) ?_
    exact ok56_28 c d Post _ _ _ _ w _ hR
/-- CommandByTurns$Standing.suffer(I)V -/
def wm56 (c : gx) (d : Nat) (Post : Option Value → gs → Prop) (r0 : Nat) (x1 : Int32) (s : gs) : Prop :=
  ((x1 ≤ 0 → w56_16 c d Post r0 x1 (if 0 ≤ x1 then x1 else 0 - x1) (if 0 ≤ x1 then x1 else 0 - x1) s) ∧ (¬ (x1 ≤ 0) → w56_16 c d Post r0 x1 (if 0 ≤ x1 then x1 else 0 - x1) ((if 0 ≤ x1 then x1 else 0 - x1) / 3) s))
theorem okm56 (c : gx) (d : Nat) (Post : Option Value → gs → Prop) (r0 : Nat) (x1 : Int32) (s : gs) (w : wm56 c d Post r0 x1 s) : tE c (d + 1) 56 [.ref r0, .int x1] s Post := by
  intro h hR
  have hk : ∀ pc i, gm_find gk_56 pc = some i → gm_code (gt_T c.1 c.2.1 c.2.2.1) 56 pc = some i := fun _ _ z => z
  unfold wm56 at w
  refine ge_of (by decide) (Nat.le_of_ble_eq_true rfl) ?_
  show gw (gt_T c.1 c.2.1 c.2.2.1) c.2.2.2 d 56 (0, [some (.ref r0), some (.int x1), none, none, none], [], h) _
  refine gw_pst hk 4 (st' := (6, [some (.ref r0), some (.int x1), some (.int (if 0 ≤ x1 then x1 else 0 - x1)), none, none], [.int x1], h)) rfl ?_
  refine gw_br (c := x1 ≤ 0) (a := (15, [some (.ref r0), some (.int x1), some (.int (if 0 ≤ x1 then x1 else 0 - x1)), none, none], [], h)) (b := (9, [some (.ref r0), some (.int x1), some (.int (if 0 ≤ x1 then x1 else 0 - x1)), none, none], [], h)) (hk _ _ rfl) rfl ⟨fun z1 => ?_, fun z1 => ?_⟩
  · replace w := w.1 z1
    refine gw_pst hk 1 (st' := (16, [some (.ref r0), some (.int x1), some (.int (if 0 ≤ x1 then x1 else 0 - x1)), none, none], [.int (if 0 ≤ x1 then x1 else 0 - x1)], h)) rfl ?_
    exact ok56_16 c d Post _ _ _ _ _ w _ hR
  · replace w := w.2 z1
    refine gw_pst hk 2 (st' := (11, [some (.ref r0), some (.int x1), some (.int (if 0 ≤ x1 then x1 else 0 - x1)), none, none], [.int 3, .int (if 0 ≤ x1 then x1 else 0 - x1)], h)) rfl ?_
    refine gw_idiv (hk _ _ rfl) (by decide) ?_ rfl
    refine gw_pst hk 1 (st' := (16, [some (.ref r0), some (.int x1), some (.int (if 0 ≤ x1 then x1 else 0 - x1)), none, none], [.int ((if 0 ≤ x1 then x1 else 0 - x1) / 3)], h)) rfl ?_
    exact ok56_16 c d Post _ _ _ _ _ w _ hR
/-- CommandByTurns$Standing.nightTakes()I -/
def wm57 (c : gx) (d : Nat) (Post : Option Value → gs → Prop) (r0 : Nat) (s : gs) : Prop :=
  gs_isC r0 6 = true ∧ Post (some (.int (if 1 < (((gsV s r0 3) / 100) + 1) then (((gsV s r0 3) / 100) + 1) else 1))) s
theorem okm57 (c : gx) (d : Nat) (Post : Option Value → gs → Prop) (r0 : Nat) (s : gs) (w : wm57 c d Post r0 s) : tE c (d + 1) 57 [.ref r0] s Post := by
  intro h hR
  have hk : ∀ pc i, gm_find gk_57 pc = some i → gm_code (gt_T c.1 c.2.1 c.2.2.1) 57 pc = some i := fun _ _ z => z
  unfold wm57 at w
  refine ge_of (by decide) (Nat.le_of_ble_eq_true rfl) ?_
  show gw (gt_T c.1 c.2.1 c.2.2.1) c.2.2.2 d 57 (0, [some (.ref r0)], [], h) _
  refine gw_pst hk 2 (st' := (2, [some (.ref r0)], [.ref r0, .int 1], h)) rfl ?_
  obtain ⟨z1, w⟩ := w
  refine gw_gf (hk _ _ rfl) (RL_fI hR (gs_ck_of z1 gs_ck_6_3)) ?_
  refine gw_pst hk 1 (st' := (7, [some (.ref r0)], [.int 100, .int (gsV s r0 3), .int 1], h)) rfl ?_
  refine gw_idiv (hk _ _ rfl) (by decide) ?_ rfl
  refine gw_pst hk 3 (st' := (13, [some (.ref r0)], [.int (if 1 < (((gsV s r0 3) / 100) + 1) then (((gsV s r0 3) / 100) + 1) else 1)], h)) rfl ?_
  exact gw_ret (hk _ _ rfl) rfl ⟨_, hR, w⟩
def w58_47 (c : gx) (d : Nat) (Post : Option Value → gs → Prop) (r0 : Nat) (s : gs) : Prop :=
  gs_isC r0 6 = true ∧ gs_isC r0 6 = true ∧ ∀ s_2 : gs, s_2 = gs_V s r0 0 ((gsV s r0 0) + 1) → Post none s_2
theorem ok58_47 (c : gx) (d : Nat) (Post : Option Value → gs → Prop)  (r0 : Nat) (s : gs) (w : w58_47 c d Post r0 s) : tV c d 58 47 [some (.ref r0), none] [] s Post := by
  intro h hR
  have hk : ∀ pc i, gm_find gk_58 pc = some i → gm_code (gt_T c.1 c.2.1 c.2.2.1) 58 pc = some i := fun _ _ z => z
  unfold w58_47 at w
  unfold gV
  refine gw_pst hk 2 (st' := (49, [some (.ref r0), none], [.ref r0, .ref r0], h)) rfl ?_
  obtain ⟨z1, w⟩ := w
  refine gw_gf (hk _ _ rfl) (RL_fI hR (gs_ck_of z1 gs_ck_6_0)) ?_
  refine gw_pst hk 2 (st' := (54, [some (.ref r0), none], [.int ((gsV s r0 0) + 1), .ref r0], h)) rfl ?_
  obtain ⟨z2, w⟩ := w
  obtain ⟨fs2, e2⟩ := RL_o hR (r := r0) (ci := 6) z2
  obtain ⟨l2, hR2⟩ := RL_pI (k := 0) (x := (gsV s r0 0) + 1) hR (gs_ck_of z2 gs_ck_6_0) e2
  refine gw_pf (hk _ _ rfl) e2 l2 rfl ?_
  generalize gm_put h _ _ = h at hR2 ⊢
  obtain ⟨s_2, es2⟩ : ∃ z, z = gs_V s r0 0 ((gsV s r0 0) + 1) := ⟨_, rfl⟩
  rw [← es2] at hR2
  replace w := w s_2 es2
  replace hR := hR2
  exact gw_ret (hk _ _ rfl) rfl ⟨_, hR, w⟩
/-- CommandByTurns$Standing.night()V -/
def wm58 (c : gx) (d : Nat) (Post : Option Value → gs → Prop) (r0 : Nat) (s : gs) : Prop :=
  gs_isC r0 6 = true ∧ tE c d 57 [.ref r0] s (fun v1 s_1 => ∃ x_1 : Int32, v1 = some (.int x_1) ∧ gs_isC r0 6 = true ∧ ((x_1 ≤ (gsV s_1 r0 5) → gs_isC r0 6 = true ∧ gs_isC r0 6 = true ∧ ∀ s_5 : gs, s_5 = gs_V s_1 r0 5 ((gsV s_1 r0 5) - x_1) → w58_47 c d Post r0 s_5) ∧ (¬ (x_1 ≤ (gsV s_1 r0 5)) → gs_isC r0 6 = true ∧ ∀ s_6 : gs, s_6 = gs_V s_1 r0 5 0 → gs_isC r0 6 = true ∧ gs_isC r0 6 = true ∧ gs_isC r0 6 = true ∧ ∀ s_9 : gs, s_9 = gs_V s_6 r0 3 ((gsV s_6 r0 3) - ((gsV s_6 r0 3) / 10)) → w58_47 c d Post r0 s_9)))
theorem okm58 (c : gx) (d : Nat) (Post : Option Value → gs → Prop) (r0 : Nat) (s : gs) (w : wm58 c d Post r0 s) : tE c (d + 1) 58 [.ref r0] s Post := by
  intro h hR
  have hk : ∀ pc i, gm_find gk_58 pc = some i → gm_code (gt_T c.1 c.2.1 c.2.2.1) 58 pc = some i := fun _ _ z => z
  unfold wm58 at w
  refine ge_of (by decide) (Nat.le_of_ble_eq_true rfl) ?_
  show gw (gt_T c.1 c.2.1 c.2.2.1) c.2.2.2 d 58 (0, [some (.ref r0), none], [], h) _
  refine gw_pst hk 1 (st' := (1, [some (.ref r0), none], [.ref r0], h)) rfl ?_
  obtain ⟨z1, w⟩ := w
  obtain ⟨fs1, e1⟩ := RL_o hR (r := r0) (ci := 6) z1
  refine gw_call (jj := 57) (As := [.ref r0]) (rest := []) (hk _ _ rfl) (fun _ => rfl) rfl rfl (Nat.le_of_ble_eq_true rfl) (gm_rcv_v rfl e1 rfl) ?_
  refine ge_imp (w h hR) (fun v1 h w => ?_)
  obtain ⟨s_1, hR, x_1, rfl, w⟩ := w
  show gw (gt_T c.1 c.2.1 c.2.2.1) c.2.2.2 d 58 (4, [some (.ref r0), none], [.int x_1], h) _
  refine gw_pst hk 2 (st' := (6, [some (.ref r0), some (.int x_1)], [.ref r0], h)) rfl ?_
  obtain ⟨z2, w⟩ := w
  refine gw_gf (hk _ _ rfl) (RL_fI hR (gs_ck_of z2 gs_ck_6_5)) ?_
  refine gw_pst hk 1 (st' := (10, [some (.ref r0), some (.int x_1)], [.int x_1, .int (gsV s_1 r0 5)], h)) rfl ?_
  refine gw_br (c := x_1 ≤ (gsV s_1 r0 5)) (a := (37, [some (.ref r0), some (.int x_1)], [], h)) (b := (13, [some (.ref r0), some (.int x_1)], [], h)) (hk _ _ rfl) rfl ⟨fun z3 => ?_, fun z3 => ?_⟩
  · replace w := w.1 z3
    refine gw_pst hk 2 (st' := (39, [some (.ref r0), some (.int x_1)], [.ref r0, .ref r0], h)) rfl ?_
    obtain ⟨z4, w⟩ := w
    refine gw_gf (hk _ _ rfl) (RL_fI hR (gs_ck_of z4 gs_ck_6_5)) ?_
    refine gw_pst hk 2 (st' := (44, [some (.ref r0), some (.int x_1)], [.int ((gsV s_1 r0 5) - x_1), .ref r0], h)) rfl ?_
    obtain ⟨z5, w⟩ := w
    obtain ⟨fs5, e5⟩ := RL_o hR (r := r0) (ci := 6) z5
    obtain ⟨l5, hR5⟩ := RL_pI (k := 5) (x := (gsV s_1 r0 5) - x_1) hR (gs_ck_of z5 gs_ck_6_5) e5
    refine gw_pf (hk _ _ rfl) e5 l5 rfl ?_
    generalize gm_put h _ _ = h at hR5 ⊢
    obtain ⟨s_5, es5⟩ : ∃ z, z = gs_V s_1 r0 5 ((gsV s_1 r0 5) - x_1) := ⟨_, rfl⟩
    rw [← es5] at hR5
    replace w := w s_5 es5
    replace hR := hR5
    refine gw_le (L' := [some (.ref r0), none]) (gm_le_k _ (gm_le_n _ gm_le_nil)) ?_
    exact ok58_47 c d Post _ _ w _ hR
  · replace w := w.2 z3
    refine gw_pst hk 2 (st' := (15, [some (.ref r0), some (.int x_1)], [.int 0, .ref r0], h)) rfl ?_
    obtain ⟨z6, w⟩ := w
    obtain ⟨fs6, e6⟩ := RL_o hR (r := r0) (ci := 6) z6
    obtain ⟨l6, hR6⟩ := RL_pI (k := 5) (x := 0) hR (gs_ck_of z6 gs_ck_6_5) e6
    refine gw_pf (hk _ _ rfl) e6 l6 rfl ?_
    generalize gm_put h _ _ = h at hR6 ⊢
    obtain ⟨s_6, es6⟩ : ∃ z, z = gs_V s_1 r0 5 0 := ⟨_, rfl⟩
    rw [← es6] at hR6
    replace w := w s_6 es6
    replace hR := hR6
    refine gw_pst hk 2 (st' := (20, [some (.ref r0), some (.int x_1)], [.ref r0, .ref r0], h)) rfl ?_
    obtain ⟨z7, w⟩ := w
    refine gw_gf (hk _ _ rfl) (RL_fI hR (gs_ck_of z7 gs_ck_6_3)) ?_
    refine gw_pst hk 1 (st' := (24, [some (.ref r0), some (.int x_1)], [.ref r0, .int (gsV s_6 r0 3), .ref r0], h)) rfl ?_
    obtain ⟨z8, w⟩ := w
    refine gw_gf (hk _ _ rfl) (RL_fI hR (gs_ck_of z8 gs_ck_6_3)) ?_
    refine gw_pst hk 1 (st' := (29, [some (.ref r0), some (.int x_1)], [.int 10, .int (gsV s_6 r0 3), .int (gsV s_6 r0 3), .ref r0], h)) rfl ?_
    refine gw_idiv (hk _ _ rfl) (by decide) ?_ rfl
    refine gw_pst hk 1 (st' := (31, [some (.ref r0), some (.int x_1)], [.int ((gsV s_6 r0 3) - ((gsV s_6 r0 3) / 10)), .ref r0], h)) rfl ?_
    obtain ⟨z9, w⟩ := w
    obtain ⟨fs9, e9⟩ := RL_o hR (r := r0) (ci := 6) z9
    obtain ⟨l9, hR9⟩ := RL_pI (k := 3) (x := (gsV s_6 r0 3) - ((gsV s_6 r0 3) / 10)) hR (gs_ck_of z9 gs_ck_6_3) e9
    refine gw_pf (hk _ _ rfl) e9 l9 rfl ?_
    generalize gm_put h _ _ = h at hR9 ⊢
    obtain ⟨s_9, es9⟩ : ∃ z, z = gs_V s_6 r0 3 ((gsV s_6 r0 3) - ((gsV s_6 r0 3) / 10)) := ⟨_, rfl⟩
    rw [← es9] at hR9
    replace w := w s_9 es9
    replace hR := hR9
    refine gw_pst hk 1 (st' := (47, [some (.ref r0), some (.int x_1)], [], h)) rfl ?_
    refine gw_le (L' := [some (.ref r0), none]) (gm_le_k _ (gm_le_n _ gm_le_nil)) ?_
    exact ok58_47 c d Post _ _ w _ hR
