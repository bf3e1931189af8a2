/-! What must hold for a run to end with Post: by program (wip/whole/gen_wp.py). -/
def w41_56 (c : gx) (d : Nat) (Post : Option Value → gs → Prop) (xs1 : Int32) (s : gs) : Prop :=
  ∀ s_1 : gs, s_1 = gs_V s 17 1 xs1 → ∀ s_3 : gs, s_3 = gs_V s_1 17 2 (if ((gsV s_1 17 2) + 1) < 12 then ((gsV s_1 17 2) + 1) else 12) → Post none s_3
theorem ok41_56 (c : gx) (d : Nat) (Post : Option Value → gs → Prop)  (xs1 : Int32) (s : gs) (w : w41_56 c d Post xs1 s) : tV c d 41 56 [some (.ref 17), none] [.int xs1, .ref 17] s Post := by
  intro h hR
  have hk : ∀ pc i, gm_find gk_41 pc = some i → gm_code (gt_T c.1 c.2.1 c.2.2.1) 41 pc = some i := fun _ _ z => z
  unfold w41_56 at w
  unfold gV
  obtain ⟨fs1, e1⟩ := RL_o hR (r := 17) (ci := 4) rfl
  obtain ⟨l1, hR1⟩ := RL_pI (k := 1) (x := xs1) hR rfl e1
  refine gw_pf (hk _ _ rfl) e1 l1 rfl ?_
  generalize gm_put h _ _ = h at hR1 ⊢
  obtain ⟨s_1, es1⟩ : ∃ z, z = gs_V s 17 1 xs1 := ⟨_, rfl⟩
  rw [← es1] at hR1
  replace w := w s_1 es1
  replace hR := hR1
  refine gw_pst hk 3 (st' := (63, [some (.ref 17), none], [.ref 17, .int 12, .ref 17], h)) rfl ?_
  refine gw_gf (hk _ _ rfl) (RL_fI hR rfl) ?_
  refine gw_pst hk 3 (st' := (71, [some (.ref 17), none], [.int (if ((gsV s_1 17 2) + 1) < 12 then ((gsV s_1 17 2) + 1) else 12), .ref 17], h)) rfl ?_
  obtain ⟨fs3, e3⟩ := RL_o hR (r := 17) (ci := 4) rfl
  obtain ⟨l3, hR3⟩ := RL_pI (k := 2) (x := if ((gsV s_1 17 2) + 1) < 12 then ((gsV s_1 17 2) + 1) else 12) hR rfl e3
  refine gw_pf (hk _ _ rfl) e3 l3 rfl ?_
  generalize gm_put h _ _ = h at hR3 ⊢
  obtain ⟨s_3, es3⟩ : ∃ z, z = gs_V s_1 17 2 (if ((gsV s_1 17 2) + 1) < 12 then ((gsV s_1 17 2) + 1) else 12) := ⟨_, rfl⟩
  rw [← es3] at hR3
  replace w := w s_3 es3
  replace hR := hR3
  exact gw_ret (hk _ _ rfl) rfl ⟨_, hR, w⟩
def w41_21 (c : gx) (d : Nat) (Post : Option Value → gs → Prop) (r1 : Nat) (s : gs) : Prop :=
  vp_in (gsV s 17 1) 12 ∧ gs_isC (18 + 1 + (gsV s 17 1 : Int32).toNatClampNeg) 6 = true ∧ tE c d 48 [.ref (18 + 1 + (gsV s 17 1 : Int32).toNatClampNeg), .ref r1] s (fun v4 s_4 => v4 = none ∧ ((((gsV s_4 17 1) + 1) = 12 → w41_56 c d Post 0 s_4) ∧ (¬ (((gsV s_4 17 1) + 1) = 12) → w41_56 c d Post ((gsV s_4 17 1) + 1) s_4)))
theorem ok41_21 (c : gx) (d : Nat) (Post : Option Value → gs → Prop)  (r1 : Nat) (s : gs) (w : w41_21 c d Post r1 s) : tV c d 41 21 [some (.ref 17), some (.ref r1)] [] s Post := by
  intro h hR
  have hk : ∀ pc i, gm_find gk_41 pc = some i → gm_code (gt_T c.1 c.2.1 c.2.2.1) 41 pc = some i := fun _ _ z => z
  unfold w41_21 at w
  unfold gV
  refine gw_pst hk 1 (st' := (22, [some (.ref 17), some (.ref r1)], [.ref 17], h)) rfl ?_
  refine gw_gf (hk _ _ rfl) (RL_fR (n := 18) hR rfl) ?_
  refine gw_pst hk 1 (st' := (26, [some (.ref 17), some (.ref r1)], [.ref 17, .ref 18], h)) rfl ?_
  refine gw_gf (hk _ _ rfl) (RL_fI hR rfl) ?_
  obtain ⟨b3, w⟩ := w
  refine gw_aald (hk _ _ rfl) (RL_aR (n := 12) hR rfl) b3 rfl ?_
  refine gw_pst hk 1 (st' := (31, [some (.ref 17), some (.ref r1)], [.ref r1, .ref (18 + 1 + (gsV s 17 1 : Int32).toNatClampNeg)], h)) rfl ?_
  obtain ⟨z4, w⟩ := w
  obtain ⟨fs4, e4⟩ := RL_o hR (r := (18 + 1 + (gsV s 17 1 : Int32).toNatClampNeg)) (ci := 6) z4
  refine gw_call (jj := 48) (As := [.ref (18 + 1 + (gsV s 17 1 : Int32).toNatClampNeg), .ref r1]) (rest := []) (hk _ _ rfl) (fun _ => rfl) rfl rfl (Nat.le_of_ble_eq_true rfl) (gm_rcv_v rfl e4 rfl) ?_
  refine ge_imp (w h hR) (fun v4 h w => ?_)
  obtain ⟨s_4, hR, rfl, w⟩ := w
  show gw (gt_T c.1 c.2.1 c.2.2.1) c.2.2.2 d 41 (34, [some (.ref 17), some (.ref r1)], [], h) _
  refine gw_pst hk 2 (st' := (36, [some (.ref 17), some (.ref r1)], [.ref 17, .ref 17], h)) rfl ?_
  refine gw_gf (hk _ _ rfl) (RL_fI hR rfl) ?_
  refine gw_pst hk 3 (st' := (43, [some (.ref 17), some (.ref r1)], [.int 12, .int ((gsV s_4 17 1) + 1), .ref 17], h)) rfl ?_
  refine gw_br (c := ((gsV s_4 17 1) + 1) = 12) (a := (46, [some (.ref 17), some (.ref r1)], [.ref 17], h)) (b := (50, [some (.ref 17), some (.ref r1)], [.ref 17], h)) (hk _ _ rfl) rfl ⟨fun z6 => ?_, fun z6 => ?_⟩
  · replace w := w.1 z6
    refine gw_pst hk 2 (st' := (56, [some (.ref 17), some (.ref r1)], [.int 0, .ref 17], h)) rfl ?_
    refine gw_le (L' := [some (.ref 17), none]) (gm_le_k _ (gm_le_n _ gm_le_nil)) ?_
    exact ok41_56 c d Post _ _ w _ hR
  · replace w := w.2 z6
    refine gw_pst hk 1 (st' := (51, [some (.ref 17), some (.ref r1)], [.ref 17, .ref 17], h)) rfl ?_
    refine gw_gf (hk _ _ rfl) (RL_fI hR rfl) ?_
    refine gw_pst hk 2 (st' := (56, [some (.ref 17), some (.ref r1)], [.int ((gsV s_4 17 1) + 1), .ref 17], h)) rfl ?_
    refine gw_le (L' := [some (.ref 17), none]) (gm_le_k _ (gm_le_n _ gm_le_nil)) ?_
    exact ok41_56 c d Post _ _ w _ hR
def w41_16 (c : gx) (d : Nat) (Post : Option Value → gs → Prop) (r1 : Nat) (s : gs) : Prop :=
  ∀ s_1 : gs, s_1 = gs_V s 17 1 0 → w41_21 c d Post r1 s_1
theorem ok41_16 (c : gx) (d : Nat) (Post : Option Value → gs → Prop)  (r1 : Nat) (s : gs) (w : w41_16 c d Post r1 s) : tV c d 41 16 [some (.ref 17), some (.ref r1)] [] s Post := by
  intro h hR
  have hk : ∀ pc i, gm_find gk_41 pc = some i → gm_code (gt_T c.1 c.2.1 c.2.2.1) 41 pc = some i := fun _ _ z => z
  unfold w41_16 at w
  unfold gV
  refine gw_pst hk 2 (st' := (18, [some (.ref 17), some (.ref r1)], [.int 0, .ref 17], h)) rfl ?_
  obtain ⟨fs1, e1⟩ := RL_o hR (r := 17) (ci := 4) rfl
  obtain ⟨l1, hR1⟩ := RL_pI (k := 1) (x := 0) hR rfl e1
  refine gw_pf (hk _ _ rfl) e1 l1 rfl ?_
  generalize gm_put h _ _ = h at hR1 ⊢
  obtain ⟨s_1, es1⟩ : ∃ z, z = gs_V s 17 1 0 := ⟨_, rfl⟩
  rw [← es1] at hR1
  replace w := w s_1 es1
  replace hR := hR1
  exact ok41_21 c d Post _ _ w _ hR
/-- CommandByTurns$Past.push(LCommandByTurns$Standing;)V -/
def wm41 (c : gx) (d : Nat) (Post : Option Value → gs → Prop) (r1 : Nat) (s : gs) : Prop :=
  (((gsV s 17 1) < 0 → w41_16 c d Post r1 s) ∧ (¬ ((gsV s 17 1) < 0) → (((gsV s 17 1) < 12 → w41_21 c d Post r1 s) ∧ (¬ ((gsV s 17 1) < 12) → w41_16 c d Post r1 s))))
theorem okm41 (c : gx) (d : Nat) (Post : Option Value → gs → Prop) (r1 : Nat) (s : gs) (w : wm41 c d Post r1 s) : tE c (d + 1) 41 [.ref 17, .ref r1] s Post := by
  intro h hR
  have hk : ∀ pc i, gm_find gk_41 pc = some i → gm_code (gt_T c.1 c.2.1 c.2.2.1) 41 pc = some i := fun _ _ z => z
  unfold wm41 at w
  refine ge_of (by decide) (Nat.le_of_ble_eq_true rfl) ?_
  show gw (gt_T c.1 c.2.1 c.2.2.1) c.2.2.2 d 41 (0, [some (.ref 17), some (.ref r1)], [], h) _
  refine gw_pst hk 1 (st' := (1, [some (.ref 17), some (.ref r1)], [.ref 17], h)) rfl ?_
  refine gw_gf (hk _ _ rfl) (RL_fI hR rfl) ?_
  refine gw_br (c := (gsV s 17 1) < 0) (a := (16, [some (.ref 17), some (.ref r1)], [], h)) (b := (7, [some (.ref 17), some (.ref r1)], [], h)) (hk _ _ rfl) rfl ⟨fun z2 => ?_, fun z2 => ?_⟩
  · replace w := w.1 z2
    exact ok41_16 c d Post _ _ w _ hR
  · replace w := w.2 z2
    refine gw_pst hk 1 (st' := (8, [some (.ref 17), some (.ref r1)], [.ref 17], h)) rfl ?_
    refine gw_gf (hk _ _ rfl) (RL_fI hR rfl) ?_
    refine gw_pst hk 1 (st' := (13, [some (.ref 17), some (.ref r1)], [.int 12, .int (gsV s 17 1)], h)) rfl ?_
    refine gw_br (c := (gsV s 17 1) < 12) (a := (21, [some (.ref 17), some (.ref r1)], [], h)) (b := (16, [some (.ref 17), some (.ref r1)], [], h)) (hk _ _ rfl) rfl ⟨fun z4 => ?_, fun z4 => ?_⟩
    · replace w := w.1 z4
      exact ok41_21 c d Post _ _ w _ hR
    · replace w := w.2 z4
      exact ok41_16 c d Post _ _ w _ hR
def w42_37 (c : gx) (d : Nat) (Post : Option Value → gs → Prop) (r1 : Nat) (xs1 : Int32) (s : gs) : Prop :=
  ∀ s_1 : gs, s_1 = gs_V s 17 1 xs1 → vp_in (gsV s_1 17 1) 12 ∧ gs_isC r1 6 = true ∧ tE c d 48 [.ref r1, .ref (18 + 1 + (gsV s_1 17 1 : Int32).toNatClampNeg)] s_1 (fun v5 s_5 => v5 = none ∧ ∀ s_7 : gs, s_7 = gs_V s_5 17 2 ((gsV s_5 17 2) - 1) → Post (some (.int 1)) s_7)
theorem ok42_37 (c : gx) (d : Nat) (Post : Option Value → gs → Prop)  (r1 : Nat) (xs1 : Int32) (s : gs) (w : w42_37 c d Post r1 xs1 s) : tV c d 42 37 [some (.ref 17), some (.ref r1)] [.int xs1, .ref 17] s Post := by
  intro h hR
  have hk : ∀ pc i, gm_find gk_42 pc = some i → gm_code (gt_T c.1 c.2.1 c.2.2.1) 42 pc = some i := fun _ _ z => z
  unfold w42_37 at w
  unfold gV
  obtain ⟨fs1, e1⟩ := RL_o hR (r := 17) (ci := 4) rfl
  obtain ⟨l1, hR1⟩ := RL_pI (k := 1) (x := xs1) hR rfl e1
  refine gw_pf (hk _ _ rfl) e1 l1 rfl ?_
  generalize gm_put h _ _ = h at hR1 ⊢
  obtain ⟨s_1, es1⟩ : ∃ z, z = gs_V s 17 1 xs1 := ⟨_, rfl⟩
  rw [← es1] at hR1
  replace w := w s_1 es1
  replace hR := hR1
  refine gw_pst hk 2 (st' := (42, [some (.ref 17), some (.ref r1)], [.ref 17, .ref r1], h)) rfl ?_
  refine gw_gf (hk _ _ rfl) (RL_fR (n := 18) hR rfl) ?_
  refine gw_pst hk 1 (st' := (46, [some (.ref 17), some (.ref r1)], [.ref 17, .ref 18, .ref r1], h)) rfl ?_
  refine gw_gf (hk _ _ rfl) (RL_fI hR rfl) ?_
  obtain ⟨b4, w⟩ := w
  refine gw_aald (hk _ _ rfl) (RL_aR (n := 12) hR rfl) b4 rfl ?_
  obtain ⟨z5, w⟩ := w
  obtain ⟨fs5, e5⟩ := RL_o hR (r := r1) (ci := 6) z5
  refine gw_call (jj := 48) (As := [.ref r1, .ref (18 + 1 + (gsV s_1 17 1 : Int32).toNatClampNeg)]) (rest := []) (hk _ _ rfl) (fun _ => rfl) rfl rfl (Nat.le_of_ble_eq_true rfl) (gm_rcv_v rfl e5 rfl) ?_
  refine ge_imp (w h hR) (fun v5 h w => ?_)
  obtain ⟨s_5, hR, rfl, w⟩ := w
  show gw (gt_T c.1 c.2.1 c.2.2.1) c.2.2.2 d 42 (53, [some (.ref 17), some (.ref r1)], [], h) _
  refine gw_pst hk 2 (st' := (55, [some (.ref 17), some (.ref r1)], [.ref 17, .ref 17], h)) rfl ?_
  refine gw_gf (hk _ _ rfl) (RL_fI hR rfl) ?_
  refine gw_pst hk 2 (st' := (60, [some (.ref 17), some (.ref r1)], [.int ((gsV s_5 17 2) - 1), .ref 17], h)) rfl ?_
  obtain ⟨fs7, e7⟩ := RL_o hR (r := 17) (ci := 4) rfl
  obtain ⟨l7, hR7⟩ := RL_pI (k := 2) (x := (gsV s_5 17 2) - 1) hR rfl e7
  refine gw_pf (hk _ _ rfl) e7 l7 rfl ?_
  generalize gm_put h _ _ = h at hR7 ⊢
  obtain ⟨s_7, es7⟩ : ∃ z, z = gs_V s_5 17 2 ((gsV s_5 17 2) - 1) := ⟨_, rfl⟩
  rw [← es7] at hR7
  replace w := w s_7 es7
  replace hR := hR7
  refine gw_pst hk 1 (st' := (64, [some (.ref 17), some (.ref r1)], [.int 1], h)) rfl ?_
  exact gw_ret (hk _ _ rfl) rfl ⟨_, hR, w⟩
def w42_26 (c : gx) (d : Nat) (Post : Option Value → gs → Prop) (r1 : Nat) (s : gs) : Prop :=
  w42_37 c d Post r1 11 s
theorem ok42_26 (c : gx) (d : Nat) (Post : Option Value → gs → Prop)  (r1 : Nat) (s : gs) (w : w42_26 c d Post r1 s) : tV c d 42 26 [some (.ref 17), some (.ref r1)] [.ref 17] s Post := by
  intro h hR
  have hk : ∀ pc i, gm_find gk_42 pc = some i → gm_code (gt_T c.1 c.2.1 c.2.2.1) 42 pc = some i := fun _ _ z => z
  unfold w42_26 at w
  unfold gV
  refine gw_pst hk 2 (st' := (37, [some (.ref 17), some (.ref r1)], [.int 11, .ref 17], h)) rfl ?_
  exact ok42_37 c d Post _ _ _ w _ hR
/-- CommandByTurns$Past.pop(LCommandByTurns$Standing;)Z -/
def wm42 (c : gx) (d : Nat) (Post : Option Value → gs → Prop) (r1 : Nat) (s : gs) : Prop :=
  (((gsV s 17 2) = 0 → Post (some (.int 0)) s) ∧ (¬ ((gsV s 17 2) = 0) → (((gsV s 17 1) ≤ 0 → w42_26 c d Post r1 s) ∧ (¬ ((gsV s 17 1) ≤ 0) → (((gsV s 17 1) < 12 → w42_37 c d Post r1 ((gsV s 17 1) - 1) s) ∧ (¬ ((gsV s 17 1) < 12) → w42_26 c d Post r1 s))))))
theorem okm42 (c : gx) (d : Nat) (Post : Option Value → gs → Prop) (r1 : Nat) (s : gs) (w : wm42 c d Post r1 s) : tE c (d + 1) 42 [.ref 17, .ref r1] s Post := by
  intro h hR
  have hk : ∀ pc i, gm_find gk_42 pc = some i → gm_code (gt_T c.1 c.2.1 c.2.2.1) 42 pc = some i := fun _ _ z => z
  unfold wm42 at w
  refine ge_of (by decide) (Nat.le_of_ble_eq_true rfl) ?_
  show gw (gt_T c.1 c.2.1 c.2.2.1) c.2.2.2 d 42 (0, [some (.ref 17), some (.ref r1)], [], h) _
  refine gw_pst hk 1 (st' := (1, [some (.ref 17), some (.ref r1)], [.ref 17], h)) rfl ?_
  refine gw_gf (hk _ _ rfl) (RL_fI hR rfl) ?_
  refine gw_br (c := (gsV s 17 2) = 0) (a := (7, [some (.ref 17), some (.ref r1)], [], h)) (b := (9, [some (.ref 17), some (.ref r1)], [], h)) (hk _ _ rfl) rfl ⟨fun z2 => ?_, fun z2 => ?_⟩
  · replace w := w.1 z2
    refine gw_pst hk 1 (st' := (8, [some (.ref 17), some (.ref r1)], [.int 0], h)) rfl ?_
    exact gw_ret (hk _ _ rfl) rfl ⟨_, hR, w⟩
  · replace w := w.2 z2
    refine gw_pst hk 2 (st' := (11, [some (.ref 17), some (.ref r1)], [.ref 17, .ref 17], h)) rfl ?_
    refine gw_gf (hk _ _ rfl) (RL_fI hR rfl) ?_
    refine gw_br (c := (gsV s 17 1) ≤ 0) (a := (26, [some (.ref 17), some (.ref r1)], [.ref 17], h)) (b := (17, [some (.ref 17), some (.ref r1)], [.ref 17], h)) (hk _ _ rfl) rfl ⟨fun z4 => ?_, fun z4 => ?_⟩
    · replace w := w.1 z4
      exact ok42_26 c d Post _ _ w _ hR
    · replace w := w.2 z4
      refine gw_pst hk 1 (st' := (18, [some (.ref 17), some (.ref r1)], [.ref 17, .ref 17], h)) rfl ?_
      refine gw_gf (hk _ _ rfl) (RL_fI hR rfl) ?_
      refine gw_pst hk 1 (st' := (23, [some (.ref 17), some (.ref r1)], [.int 12, .int (gsV s 17 1), .ref 17], h)) rfl ?_
      refine gw_br (c := (gsV s 17 1) < 12) (a := (31, [some (.ref 17), some (.ref r1)], [.ref 17], h)) (b := (26, [some (.ref 17), some (.ref r1)], [.ref 17], h)) (hk _ _ rfl) rfl ⟨fun z6 => ?_, fun z6 => ?_⟩
      · replace w := w.1 z6
        refine gw_pst hk 1 (st' := (32, [some (.ref 17), some (.ref r1)], [.ref 17, .ref 17], h)) rfl ?_
        refine gw_gf (hk _ _ rfl) (RL_fI hR rfl) ?_
        refine gw_pst hk 2 (st' := (37, [some (.ref 17), some (.ref r1)], [.int ((gsV s 17 1) - 1), .ref 17], h)) rfl ?_
        exact ok42_37 c d Post _ _ _ w _ hR
      · replace w := w.2 z6
        exact ok42_26 c d Post _ _ w _ hR
