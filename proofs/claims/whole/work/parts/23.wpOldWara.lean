/-! What must hold for a run to end with Post: by program (wip/whole/gen_wp.py). -/
def w33_32 (c : gx) (d : Nat) (Post : Option Value → gs → Prop)  (s : gs) : Prop :=
  tE c d 266 [.int (gsV s 41 1)] s (fun v2 s_2 => ∃ x_2 : Int32, v2 = some (.int x_2) ∧ Post (some (.int x_2)) s_2)
theorem ok33_32 (c : gx) (d : Nat) (Post : Option Value → gs → Prop)   (s : gs) (w : w33_32 c d Post  s) : tV c d 33 32 [some (.ref 41), none, none] [] s Post := by
  intro h hR
  have hk : ∀ pc i, gm_find gk_33 pc = some i → gm_code (gt_T c.1 c.2.1 c.2.2.1) 33 pc = some i := fun _ _ z => z
  unfold w33_32 at w
  unfold gV
  refine gw_pst hk 1 (st' := (33, [some (.ref 41), none, none], [.ref 41], h)) rfl ?_
  refine gw_gf (hk _ _ rfl) (RL_fI hR rfl) ?_
  refine gw_call (jj := 266) (As := [.int (gsV s 41 1)]) (rest := []) (hk _ _ rfl) (fun _ => rfl) rfl rfl (Nat.le_of_ble_eq_true rfl) rfl ?_
  refine ge_imp (w h hR) (fun v2 h w => ?_)
  obtain ⟨s_2, hR, x_2, rfl, w⟩ := w
  show gw (gt_T c.1 c.2.1 c.2.2.1) c.2.2.2 d 33 (39, [some (.ref 41), none, none], [.int x_2], h) _
  exact gw_ret (hk _ _ rfl) rfl ⟨_, hR, w⟩
/-- CommandByTurns$OldWar.note(II)I -/
def wm33 (c : gx) (d : Nat) (Post : Option Value → gs → Prop) (x1 : Int32) (x2 : Int32) (s : gs) : Prop :=
  ((x1 < 0 → w33_32 c d Post s) ∧ (¬ (x1 < 0) → ((20 ≤ x1 → w33_32 c d Post s) ∧ (¬ (20 ≤ x1) → vp_in x1 20 ∧ ∀ s_6 : gs, s_6 = gs_A s 42 (x1 : Int32).toNatClampNeg (vp_nar .int x2) → ∀ s_8 : gs, s_8 = gs_V s_6 41 1 ((gsV s_6 41 1) ||| (1 <<< (x1 &&& 31))) → w33_32 c d Post s_8))))
theorem okm33 (c : gx) (d : Nat) (Post : Option Value → gs → Prop) (x1 : Int32) (x2 : Int32) (s : gs) (w : wm33 c d Post x1 x2 s) : tE c (d + 1) 33 [.ref 41, .int x1, .int x2] s Post := by
  intro h hR
  have hk : ∀ pc i, gm_find gk_33 pc = some i → gm_code (gt_T c.1 c.2.1 c.2.2.1) 33 pc = some i := fun _ _ z => z
  unfold wm33 at w
  refine ge_of (by decide) (Nat.le_of_ble_eq_true rfl) ?_
  show gw (gt_T c.1 c.2.1 c.2.2.1) c.2.2.2 d 33 (0, [some (.ref 41), some (.int x1), some (.int x2)], [], h) _
  refine gw_pst hk 1 (st' := (1, [some (.ref 41), some (.int x1), some (.int x2)], [.int x1], h)) rfl ?_
  refine gw_br (c := x1 < 0) (a := (32, [some (.ref 41), some (.int x1), some (.int x2)], [], h)) (b := (4, [some (.ref 41), some (.int x1), some (.int x2)], [], h)) (hk _ _ rfl) rfl ⟨fun z1 => ?_, fun z1 => ?_⟩
  · replace w := w.1 z1
    refine gw_le (L' := [some (.ref 41), none, none]) (gm_le_k _ (gm_le_n _ (gm_le_n _ gm_le_nil))) ?_
    exact ok33_32 c d Post _ w _ hR
  · replace w := w.2 z1
    refine gw_pst hk 2 (st' := (6, [some (.ref 41), some (.int x1), some (.int x2)], [.ref 41, .int x1], h)) rfl ?_
    refine gw_gf (hk _ _ rfl) (RL_fR (n := 42) hR rfl) ?_
    refine gw_alen (hk _ _ rfl) (RL_a (t := 0) (n := 20) hR rfl (by decide)) (by decide) ?_
    refine gw_br (c := 20 ≤ x1) (a := (32, [some (.ref 41), some (.int x1), some (.int x2)], [], h)) (b := (13, [some (.ref 41), some (.int x1), some (.int x2)], [], h)) (hk _ _ rfl) rfl ⟨fun z4 => ?_, fun z4 => ?_⟩
    · replace w := w.1 z4
      refine gw_le (L' := [some (.ref 41), none, none]) (gm_le_k _ (gm_le_n _ (gm_le_n _ gm_le_nil))) ?_
      exact ok33_32 c d Post _ w _ hR
    · replace w := w.2 z4
      refine gw_pst hk 1 (st' := (14, [some (.ref 41), some (.int x1), some (.int x2)], [.ref 41], h)) rfl ?_
      refine gw_gf (hk _ _ rfl) (RL_fR (n := 42) hR rfl) ?_
      refine gw_pst hk 2 (st' := (19, [some (.ref 41), some (.int x1), some (.int x2)], [.int x2, .int x1, .ref 42], h)) rfl ?_
      obtain ⟨b6, w⟩ := w
      have hR6 := RL_pA (a := 42) (t := 0) (n := 20) (k := (x1 : Int32).toNatClampNeg) (x := (vp_nar .int x2)) hR rfl (by decide)
      refine gw_ast (hk _ _ rfl) (Or.inl ⟨rfl, rfl, rfl⟩) (RL_a (t := 0) (n := 20) hR rfl (by decide)) b6 ?_
      generalize gm_put h _ _ = h at hR6 ⊢
      obtain ⟨s_6, es6⟩ : ∃ z, z = gs_A s 42 (x1 : Int32).toNatClampNeg (vp_nar .int x2) := ⟨_, rfl⟩
      rw [← es6] at hR6
      replace w := w s_6 es6
      replace hR := hR6
      refine gw_pst hk 2 (st' := (22, [some (.ref 41), some (.int x1), some (.int x2)], [.ref 41, .ref 41], h)) rfl ?_
      refine gw_gf (hk _ _ rfl) (RL_fI hR rfl) ?_
      refine gw_pst hk 4 (st' := (29, [some (.ref 41), some (.int x1), some (.int x2)], [.int ((gsV s_6 41 1) ||| (1 <<< (x1 &&& 31))), .ref 41], h)) rfl ?_
      obtain ⟨fs8, e8⟩ := RL_o hR (r := 41) (ci := 3) rfl
      obtain ⟨l8, hR8⟩ := RL_pI (k := 1) (x := (gsV s_6 41 1) ||| (1 <<< (x1 &&& 31))) hR rfl e8
      refine gw_pf (hk _ _ rfl) e8 l8 rfl ?_
      generalize gm_put h _ _ = h at hR8 ⊢
      obtain ⟨s_8, es8⟩ : ∃ z, z = gs_V s_6 41 1 ((gsV s_6 41 1) ||| (1 <<< (x1 &&& 31))) := ⟨_, rfl⟩
      rw [← es8] at hR8
      replace w := w s_8 es8
      replace hR := hR8
      refine gw_le (L' := [some (.ref 41), none, none]) (gm_le_k _ (gm_le_n _ (gm_le_n _ gm_le_nil))) ?_
      exact ok33_32 c d Post _ w _ hR
def w34_69 (c : gx) (d : Nat) (Post : Option Value → gs → Prop) (K2 : Int32 → Int32 → Int32 → gs → Prop) (x1 : Int32) (x2 : Int32) (x3 : Int32) (x5 : Int32) (xs0 : Int32) (s : gs) : Prop :=
  vp_in x3 20 ∧ ∀ s_2 : gs, s_2 = gs_A s 43 (x3 : Int32).toNatClampNeg (vp_nar .int (x5 ||| xs0)) → K2 x1 x2 (x3 + 1) s_2
theorem ok34_69 (c : gx) (d : Nat) (Post : Option Value → gs → Prop) (K2 : Int32 → Int32 → Int32 → gs → Prop)  (hK2 : ∀ (x1 : Int32) (x2 : Int32) (x3 : Int32) (s : gs), K2 x1 x2 x3 s → tV c d 34 2 [some (.ref 41), some (.int x1), some (.int x2), some (.int x3), none, none, none] [] s Post) (x1 : Int32) (x2 : Int32) (x3 : Int32) (x5 : Int32) (xs0 : Int32) (s : gs) (w : w34_69 c d Post K2 x1 x2 x3 x5 xs0 s) : tV c d 34 69 [some (.ref 41), some (.int x1), some (.int x2), some (.int x3), none, some (.int x5), none] [.int xs0] s Post := by
  intro h hR
  have hk : ∀ pc i, gm_find gk_34 pc = some i → gm_code (gt_T c.1 c.2.1 c.2.2.1) 34 pc = some i := fun _ _ z => z
  unfold w34_69 at w
  unfold gV
  refine gw_pst hk 2 (st' := (72, [some (.ref 41), some (.int x1), some (.int x2), some (.int x3), none, some (.int x5), some (.int xs0)], [.ref 41], h)) rfl ?_
  refine gw_gf (hk _ _ rfl) (RL_fR (n := 43) hR rfl) ?_
  refine gw_pst hk 4 (st' := (81, [some (.ref 41), some (.int x1), some (.int x2), some (.int x3), none, some (.int x5), some (.int xs0)], [.int (x5 ||| xs0), .int x3, .ref 43], h)) rfl ?_
  obtain ⟨b2, w⟩ := w
  have hR2 := RL_pA (a := 43) (t := 0) (n := 20) (k := (x3 : Int32).toNatClampNeg) (x := (vp_nar .int (x5 ||| xs0))) hR rfl (by decide)
  refine gw_ast (hk _ _ rfl) (Or.inl ⟨rfl, rfl, rfl⟩) (RL_a (t := 0) (n := 20) hR rfl (by decide)) b2 ?_
  generalize gm_put h _ _ = h at hR2 ⊢
  obtain ⟨s_2, es2⟩ : ∃ z, z = gs_A s 43 (x3 : Int32).toNatClampNeg (vp_nar .int (x5 ||| xs0)) := ⟨_, rfl⟩
  rw [← es2] at hR2
  replace w := w s_2 es2
  replace hR := hR2
  refine gw_pst hk 2 (st' := (2, [some (.ref 41), some (.int x1), some (.int x2), some (.int (x3 + 1)), none, some (.int x5), some (.int xs0)], [], h)) rfl ?_
  refine gw_le (L' := [some (.ref 41), some (.int x1), some (.int x2), some (.int (x3 + 1)), none, none, none]) (gm_le_k _ (gm_le_k _ (gm_le_k _ (gm_le_k _ (gm_le_k _ (gm_le_n _ (gm_le_n _ gm_le_nil))))))) ?_
  exact hK2 _ _ _ _ w _ hR
def w34_64 (c : gx) (d : Nat) (Post : Option Value → gs → Prop) (K2 : Int32 → Int32 → Int32 → gs → Prop) (x1 : Int32) (x2 : Int32) (x3 : Int32) (x5 : Int32) (s : gs) : Prop :=
  w34_69 c d Post K2 x1 x2 x3 x5 2 s
theorem ok34_64 (c : gx) (d : Nat) (Post : Option Value → gs → Prop) (K2 : Int32 → Int32 → Int32 → gs → Prop)  (hK2 : ∀ (x1 : Int32) (x2 : Int32) (x3 : Int32) (s : gs), K2 x1 x2 x3 s → tV c d 34 2 [some (.ref 41), some (.int x1), some (.int x2), some (.int x3), none, none, none] [] s Post) (x1 : Int32) (x2 : Int32) (x3 : Int32) (x5 : Int32) (s : gs) (w : w34_64 c d Post K2 x1 x2 x3 x5 s) : tV c d 34 64 [some (.ref 41), some (.int x1), some (.int x2), some (.int x3), none, some (.int x5), none] [] s Post := by
  intro h hR
  have hk : ∀ pc i, gm_find gk_34 pc = some i → gm_code (gt_T c.1 c.2.1 c.2.2.1) 34 pc = some i := fun _ _ z => z
  unfold w34_64 at w
  unfold gV
  refine gw_pst hk 2 (st' := (69, [some (.ref 41), some (.int x1), some (.int x2), some (.int x3), none, some (.int x5), none], [.int 2], h)) rfl ?_
  exact ok34_69 c d Post K2 hK2 _ _ _ _ _ _ w _ hR
def w34_47 (c : gx) (d : Nat) (Post : Option Value → gs → Prop) (K2 : Int32 → Int32 → Int32 → gs → Prop) (x1 : Int32) (x2 : Int32) (x3 : Int32) (x4 : Int32) (xs0 : Int32) (s : gs) : Prop :=
  ((x4 = 0 → w34_64 c d Post K2 x1 x2 x3 xs0 s) ∧ (¬ (x4 = 0) → vp_in x3 20 ∧ ((x2 < (gsA s 42 (x3 : Int32).toNatClampNeg) → w34_69 c d Post K2 x1 x2 x3 xs0 0 s) ∧ (¬ (x2 < (gsA s 42 (x3 : Int32).toNatClampNeg)) → w34_64 c d Post K2 x1 x2 x3 xs0 s))))
theorem ok34_47 (c : gx) (d : Nat) (Post : Option Value → gs → Prop) (K2 : Int32 → Int32 → Int32 → gs → Prop)  (hK2 : ∀ (x1 : Int32) (x2 : Int32) (x3 : Int32) (s : gs), K2 x1 x2 x3 s → tV c d 34 2 [some (.ref 41), some (.int x1), some (.int x2), some (.int x3), none, none, none] [] s Post) (x1 : Int32) (x2 : Int32) (x3 : Int32) (x4 : Int32) (xs0 : Int32) (s : gs) (w : w34_47 c d Post K2 x1 x2 x3 x4 xs0 s) : tV c d 34 47 [some (.ref 41), some (.int x1), some (.int x2), some (.int x3), some (.int x4), none, none] [.int xs0] s Post := by
  intro h hR
  have hk : ∀ pc i, gm_find gk_34 pc = some i → gm_code (gt_T c.1 c.2.1 c.2.2.1) 34 pc = some i := fun _ _ z => z
  unfold w34_47 at w
  unfold gV
  refine gw_pst hk 2 (st' := (51, [some (.ref 41), some (.int x1), some (.int x2), some (.int x3), some (.int x4), some (.int xs0), none], [.int x4], h)) rfl ?_
  refine gw_br (c := x4 = 0) (a := (64, [some (.ref 41), some (.int x1), some (.int x2), some (.int x3), some (.int x4), some (.int xs0), none], [], h)) (b := (54, [some (.ref 41), some (.int x1), some (.int x2), some (.int x3), some (.int x4), some (.int xs0), none], [], h)) (hk _ _ rfl) rfl ⟨fun z1 => ?_, fun z1 => ?_⟩
  · replace w := w.1 z1
    refine gw_le (L' := [some (.ref 41), some (.int x1), some (.int x2), some (.int x3), none, some (.int xs0), none]) (gm_le_k _ (gm_le_k _ (gm_le_k _ (gm_le_k _ (gm_le_n _ (gm_le_k _ (gm_le_k _ gm_le_nil))))))) ?_
    exact ok34_64 c d Post K2 hK2 _ _ _ _ _ w _ hR
  · replace w := w.2 z1
    refine gw_pst hk 2 (st' := (56, [some (.ref 41), some (.int x1), some (.int x2), some (.int x3), some (.int x4), some (.int xs0), none], [.ref 41, .int x2], h)) rfl ?_
    refine gw_gf (hk _ _ rfl) (RL_fR (n := 42) hR rfl) ?_
    refine gw_pst hk 1 (st' := (60, [some (.ref 41), some (.int x1), some (.int x2), some (.int x3), some (.int x4), some (.int xs0), none], [.int x3, .ref 42, .int x2], h)) rfl ?_
    obtain ⟨b3, w⟩ := w
    refine gw_ald (hk _ _ rfl) (Or.inl ⟨rfl, rfl⟩) (RL_a (t := 0) (n := 20) hR rfl (by decide)) b3 ?_
    refine gw_br (c := x2 < (gsA s 42 (x3 : Int32).toNatClampNeg)) (a := (68, [some (.ref 41), some (.int x1), some (.int x2), some (.int x3), some (.int x4), some (.int xs0), none], [], h)) (b := (64, [some (.ref 41), some (.int x1), some (.int x2), some (.int x3), some (.int x4), some (.int xs0), none], [], h)) (hk _ _ rfl) rfl ⟨fun z4 => ?_, fun z4 => ?_⟩
    · replace w := w.1 z4
      refine gw_pst hk 1 (st' := (69, [some (.ref 41), some (.int x1), some (.int x2), some (.int x3), some (.int x4), some (.int xs0), none], [.int 0], h)) rfl ?_
      refine gw_le (L' := [some (.ref 41), some (.int x1), some (.int x2), some (.int x3), none, some (.int xs0), none]) (gm_le_k _ (gm_le_k _ (gm_le_k _ (gm_le_k _ (gm_le_n _ (gm_le_k _ (gm_le_k _ gm_le_nil))))))) ?_
      exact ok34_69 c d Post K2 hK2 _ _ _ _ _ _ w _ hR
    · replace w := w.2 z4
      refine gw_le (L' := [some (.ref 41), some (.int x1), some (.int x2), some (.int x3), none, some (.int xs0), none]) (gm_le_k _ (gm_le_k _ (gm_le_k _ (gm_le_k _ (gm_le_n _ (gm_le_k _ (gm_le_k _ gm_le_nil))))))) ?_
      exact ok34_64 c d Post K2 hK2 _ _ _ _ _ w _ hR
def w34_42 (c : gx) (d : Nat) (Post : Option Value → gs → Prop) (K2 : Int32 → Int32 → Int32 → gs → Prop) (x1 : Int32) (x2 : Int32) (x3 : Int32) (x4 : Int32) (s : gs) : Prop :=
  w34_47 c d Post K2 x1 x2 x3 x4 1 s
theorem ok34_42 (c : gx) (d : Nat) (Post : Option Value → gs → Prop) (K2 : Int32 → Int32 → Int32 → gs → Prop)  (hK2 : ∀ (x1 : Int32) (x2 : Int32) (x3 : Int32) (s : gs), K2 x1 x2 x3 s → tV c d 34 2 [some (.ref 41), some (.int x1), some (.int x2), some (.int x3), none, none, none] [] s Post) (x1 : Int32) (x2 : Int32) (x3 : Int32) (x4 : Int32) (s : gs) (w : w34_42 c d Post K2 x1 x2 x3 x4 s) : tV c d 34 42 [some (.ref 41), some (.int x1), some (.int x2), some (.int x3), some (.int x4), none, none] [] s Post := by
  intro h hR
  have hk : ∀ pc i, gm_find gk_34 pc = some i → gm_code (gt_T c.1 c.2.1 c.2.2.1) 34 pc = some i := fun _ _ z => z
  unfold w34_42 at w
  unfold gV
  refine gw_pst hk 2 (st' := (47, [some (.ref 41), some (.int x1), some (.int x2), some (.int x3), some (.int x4), none, none], [.int 1], h)) rfl ?_
  exact ok34_47 c d Post K2 hK2 _ _ _ _ _ _ w _ hR
def w34_25 (c : gx) (d : Nat) (Post : Option Value → gs → Prop) (K2 : Int32 → Int32 → Int32 → gs → Prop) (x1 : Int32) (x2 : Int32) (x3 : Int32) (xs0 : Int32) (s : gs) : Prop :=
  ((xs0 = 0 → w34_42 c d Post K2 x1 x2 x3 xs0 s) ∧ (¬ (xs0 = 0) → vp_in x3 20 ∧ ((x1 < (gsA s 42 (x3 : Int32).toNatClampNeg) → w34_47 c d Post K2 x1 x2 x3 xs0 0 s) ∧ (¬ (x1 < (gsA s 42 (x3 : Int32).toNatClampNeg)) → w34_42 c d Post K2 x1 x2 x3 xs0 s))))
theorem ok34_25 (c : gx) (d : Nat) (Post : Option Value → gs → Prop) (K2 : Int32 → Int32 → Int32 → gs → Prop)  (hK2 : ∀ (x1 : Int32) (x2 : Int32) (x3 : Int32) (s : gs), K2 x1 x2 x3 s → tV c d 34 2 [some (.ref 41), some (.int x1), some (.int x2), some (.int x3), none, none, none] [] s Post) (x1 : Int32) (x2 : Int32) (x3 : Int32) (xs0 : Int32) (s : gs) (w : w34_25 c d Post K2 x1 x2 x3 xs0 s) : tV c d 34 25 [some (.ref 41), some (.int x1), some (.int x2), some (.int x3), none, none, none] [.int xs0] s Post := by
  intro h hR
  have hk : ∀ pc i, gm_find gk_34 pc = some i → gm_code (gt_T c.1 c.2.1 c.2.2.1) 34 pc = some i := fun _ _ z => z
  unfold w34_25 at w
  unfold gV
  refine gw_pst hk 2 (st' := (29, [some (.ref 41), some (.int x1), some (.int x2), some (.int x3), some (.int xs0), none, none], [.int xs0], h)) rfl ?_
  refine gw_br (c := xs0 = 0) (a := (42, [some (.ref 41), some (.int x1), some (.int x2), some (.int x3), some (.int xs0), none, none], [], h)) (b := (32, [some (.ref 41), some (.int x1), some (.int x2), some (.int x3), some (.int xs0), none, none], [], h)) (hk _ _ rfl) rfl ⟨fun z1 => ?_, fun z1 => ?_⟩
  · replace w := w.1 z1
    exact ok34_42 c d Post K2 hK2 _ _ _ _ _ w _ hR
  · replace w := w.2 z1
    refine gw_pst hk 2 (st' := (34, [some (.ref 41), some (.int x1), some (.int x2), some (.int x3), some (.int xs0), none, none], [.ref 41, .int x1], h)) rfl ?_
    refine gw_gf (hk _ _ rfl) (RL_fR (n := 42) hR rfl) ?_
    refine gw_pst hk 1 (st' := (38, [some (.ref 41), some (.int x1), some (.int x2), some (.int x3), some (.int xs0), none, none], [.int x3, .ref 42, .int x1], h)) rfl ?_
    obtain ⟨b3, w⟩ := w
    refine gw_ald (hk _ _ rfl) (Or.inl ⟨rfl, rfl⟩) (RL_a (t := 0) (n := 20) hR rfl (by decide)) b3 ?_
    refine gw_br (c := x1 < (gsA s 42 (x3 : Int32).toNatClampNeg)) (a := (46, [some (.ref 41), some (.int x1), some (.int x2), some (.int x3), some (.int xs0), none, none], [], h)) (b := (42, [some (.ref 41), some (.int x1), some (.int x2), some (.int x3), some (.int xs0), none, none], [], h)) (hk _ _ rfl) rfl ⟨fun z4 => ?_, fun z4 => ?_⟩
    · replace w := w.1 z4
      refine gw_pst hk 1 (st' := (47, [some (.ref 41), some (.int x1), some (.int x2), some (.int x3), some (.int xs0), none, none], [.int 0], h)) rfl ?_
      exact ok34_47 c d Post K2 hK2 _ _ _ _ _ _ w _ hR
    · replace w := w.2 z4
      exact ok34_42 c d Post K2 hK2 _ _ _ _ _ w _ hR
def wb34_2 (c : gx) (d : Nat) (Post : Option Value → gs → Prop) (K2 : Int32 → Int32 → Int32 → gs → Prop) (x1 : Int32) (x2 : Int32) (x3 : Int32) (s : gs) : Prop :=
  ((20 ≤ x3 → Post none s) ∧ (¬ (20 ≤ x3) → (((((gsV s 41 1) >>> (x3 &&& 31)) &&& 1) = 1 → w34_25 c d Post K2 x1 x2 x3 1 s) ∧ (¬ ((((gsV s 41 1) >>> (x3 &&& 31)) &&& 1) = 1) → w34_25 c d Post K2 x1 x2 x3 0 s))))
theorem okb34_2 (c : gx) (d : Nat) (Post : Option Value → gs → Prop) (K2 : Int32 → Int32 → Int32 → gs → Prop)  (hK2 : ∀ (x1 : Int32) (x2 : Int32) (x3 : Int32) (s : gs), K2 x1 x2 x3 s → tV c d 34 2 [some (.ref 41), some (.int x1), some (.int x2), some (.int x3), none, none, none] [] s Post) (x1 : Int32) (x2 : Int32) (x3 : Int32) (s : gs) (w : wb34_2 c d Post K2 x1 x2 x3 s) : tV c d 34 2 [some (.ref 41), some (.int x1), some (.int x2), some (.int x3), none, none, none] [] s Post := by
  intro h hR
  have hk : ∀ pc i, gm_find gk_34 pc = some i → gm_code (gt_T c.1 c.2.1 c.2.2.1) 34 pc = some i := fun _ _ z => z
  unfold wb34_2 at w
  unfold gV
  refine gw_pst hk 2 (st' := (5, [some (.ref 41), some (.int x1), some (.int x2), some (.int x3), none, none, none], [.int 20, .int x3], h)) rfl ?_
  refine gw_br (c := 20 ≤ x3) (a := (88, [some (.ref 41), some (.int x1), some (.int x2), some (.int x3), none, none, none], [], h)) (b := (8, [some (.ref 41), some (.int x1), some (.int x2), some (.int x3), none, none, none], [], h)) (hk _ _ rfl) rfl ⟨fun z1 => ?_, fun z1 => ?_⟩
  · replace w := w.1 z1
    exact gw_ret (hk _ _ rfl) rfl ⟨_, hR, w⟩
  · replace w := w.2 z1
    refine gw_pst hk 1 (st' := (9, [some (.ref 41), some (.int x1), some (.int x2), some (.int x3), none, none, none], [.ref 41], h)) rfl ?_
    refine gw_gf (hk _ _ rfl) (RL_fI hR rfl) ?_
    refine gw_pst hk 5 (st' := (17, [some (.ref 41), some (.int x1), some (.int x2), some (.int x3), none, none, none], [.int 1, .int (((gsV s 41 1) >>> (x3 &&& 31)) &&& 1)], h)) rfl ?_
    refine gw_br (c := (((gsV s 41 1) >>> (x3 &&& 31)) &&& 1) = 1) (a := (20, [some (.ref 41), some (.int x1), some (.int x2), some (.int x3), none, none, none], [], h)) (b := (24, [some (.ref 41), some (.int x1), some (.int x2), some (.int x3), none, none, none], [], h)) (hk _ _ rfl) rfl ⟨fun z3 => ?_, fun z3 => ?_⟩
    · replace w := w.1 z3
      refine gw_pst hk 2 (st' := (25, [some (.ref 41), some (.int x1), some (.int x2), some (.int x3), none, none, none], [.int 1], h)) rfl ?_
      exact ok34_25 c d Post K2 hK2 _ _ _ _ _ w _ hR
    · replace w := w.2 z3
      refine gw_pst hk 1 (st' := (25, [some (.ref 41), some (.int x1), some (.int x2), some (.int x3), none, none, none], [.int 0], h)) rfl ?_
      exact ok34_25 c d Post K2 hK2 _ _ _ _ _ w _ hR
def wl34_2 (c : gx) (d : Nat) (Post : Option Value → gs → Prop) : Nat → Int32 → Int32 → Int32 → gs → Prop
  | 0 => fun _ _ _ _ => False
  | n + 1 => wb34_2 c d Post (wl34_2 c d Post n)
theorem okl34_2 (c : gx) (d : Nat) (Post : Option Value → gs → Prop) : ∀ (n : Nat) (x1 : Int32) (x2 : Int32) (x3 : Int32) (s : gs), wl34_2 c d Post n x1 x2 x3 s → tV c d 34 2 [some (.ref 41), some (.int x1), some (.int x2), some (.int x3), none, none, none] [] s Post
  | 0, _, _, _, _, w => w.elim
  | n + 1, x1, x2, x3, s, w => okb34_2 c d Post (wl34_2 c d Post n) (okl34_2 c d Post n) x1 x2 x3 s w
/-- CommandByTurns$OldWar.weigh(II)V -/
def wm34 (c : gx) (d : Nat) (Post : Option Value → gs → Prop) (x1 : Int32) (x2 : Int32) (s : gs) : Prop :=
  ∃ n, wl34_2 c d Post n x1 x2 0 s
theorem okm34 (c : gx) (d : Nat) (Post : Option Value → gs → Prop) (x1 : Int32) (x2 : Int32) (s : gs) (w : wm34 c d Post x1 x2 s) : tE c (d + 1) 34 [.ref 41, .int x1, .int x2] s Post := by
  intro h hR
  have hk : ∀ pc i, gm_find gk_34 pc = some i → gm_code (gt_T c.1 c.2.1 c.2.2.1) 34 pc = some i := fun _ _ z => z
  unfold wm34 at w
  refine ge_of (by decide) (Nat.le_of_ble_eq_true rfl) ?_
  show gw (gt_T c.1 c.2.1 c.2.2.1) c.2.2.2 d 34 (0, [some (.ref 41), some (.int x1), some (.int x2), none, none, none, none], [], h) _
  refine gw_pst hk 2 (st' := (2, [some (.ref 41), some (.int x1), some (.int x2), some (.int 0), none, none, none], [], h)) rfl ?_
  obtain ⟨n, w⟩ := w
  exact okl34_2 c d Post n _ _ _ _ w _ hR
def w35_10 (c : gx) (d : Nat) (Post : Option Value → gs → Prop)  (s : gs) : Prop :=
  Post (some (.int 0)) s
theorem ok35_10 (c : gx) (d : Nat) (Post : Option Value → gs → Prop)   (s : gs) (w : w35_10 c d Post  s) : tV c d 35 10 [none, none, none, none, none, none] [] s Post := by
  intro h hR
  have hk : ∀ pc i, gm_find gk_35 pc = some i → gm_code (gt_T c.1 c.2.1 c.2.2.1) 35 pc = some i := fun _ _ z => z
  unfold w35_10 at w
  unfold gV
  refine gw_pst hk 1 (st' := (11, [none, none, none, none, none, none], [.int 0], h)) rfl ?_
  exact gw_ret (hk _ _ rfl) rfl ⟨_, hR, w⟩
/-- CommandByTurns$OldWar.waysIf(III)I -/
def wm35 (c : gx) (d : Nat) (Post : Option Value → gs → Prop) (x1 : Int32) (x2 : Int32) (x3 : Int32) (s : gs) : Prop :=
  ((x3 < 0 → w35_10 c d Post s) ∧ (¬ (x3 < 0) → ((x3 < 20 → vp_in x3 20 ∧ vp_in x3 20 ∧ ∀ s_6 : gs, s_6 = gs_A s 43 (x3 : Int32).toNatClampNeg (vp_nar .int ((gsA s 43 (x3 : Int32).toNatClampNeg) &&& 2)) → tE c d 36 [.ref 41, .int x1, .int x2] s_6 (fun v7 s_7 => ∃ x_7 : Int32, v7 = some (.int x_7) ∧ vp_in x3 20 ∧ ∀ s_9 : gs, s_9 = gs_A s_7 43 (x3 : Int32).toNatClampNeg (vp_nar .int (gsA s 43 (x3 : Int32).toNatClampNeg)) → Post (some (.int x_7)) s_9)) ∧ (¬ (x3 < 20) → w35_10 c d Post s))))
theorem okm35 (c : gx) (d : Nat) (Post : Option Value → gs → Prop) (x1 : Int32) (x2 : Int32) (x3 : Int32) (s : gs) (w : wm35 c d Post x1 x2 x3 s) : tE c (d + 1) 35 [.ref 41, .int x1, .int x2, .int x3] s Post := by
  intro h hR
  have hk : ∀ pc i, gm_find gk_35 pc = some i → gm_code (gt_T c.1 c.2.1 c.2.2.1) 35 pc = some i := fun _ _ z => z
  unfold wm35 at w
  refine ge_of (by decide) (Nat.le_of_ble_eq_true rfl) ?_
  show gw (gt_T c.1 c.2.1 c.2.2.1) c.2.2.2 d 35 (0, [some (.ref 41), some (.int x1), some (.int x2), some (.int x3), none, none], [], h) _
  refine gw_pst hk 1 (st' := (1, [some (.ref 41), some (.int x1), some (.int x2), some (.int x3), none, none], [.int x3], h)) rfl ?_
  refine gw_br (c := x3 < 0) (a := (10, [some (.ref 41), some (.int x1), some (.int x2), some (.int x3), none, none], [], h)) (b := (4, [some (.ref 41), some (.int x1), some (.int x2), some (.int x3), none, none], [], h)) (hk _ _ rfl) rfl ⟨fun z1 => ?_, fun z1 => ?_⟩
  · replace w := w.1 z1
    refine gw_le (L' := [none, none, none, none, none, none]) (gm_le_n _ (gm_le_n _ (gm_le_n _ (gm_le_n _ (gm_le_k _ (gm_le_k _ gm_le_nil)))))) ?_
    exact ok35_10 c d Post _ w _ hR
  · replace w := w.2 z1
    refine gw_pst hk 2 (st' := (7, [some (.ref 41), some (.int x1), some (.int x2), some (.int x3), none, none], [.int 20, .int x3], h)) rfl ?_
    refine gw_br (c := x3 < 20) (a := (12, [some (.ref 41), some (.int x1), some (.int x2), some (.int x3), none, none], [], h)) (b := (10, [some (.ref 41), some (.int x1), some (.int x2), some (.int x3), none, none], [], h)) (hk _ _ rfl) rfl ⟨fun z2 => ?_, fun z2 => ?_⟩
    · replace w := w.1 z2
      refine gw_pst hk 1 (st' := (13, [some (.ref 41), some (.int x1), some (.int x2), some (.int x3), none, none], [.ref 41], h)) rfl ?_
      refine gw_gf (hk _ _ rfl) (RL_fR (n := 43) hR rfl) ?_
      refine gw_pst hk 1 (st' := (17, [some (.ref 41), some (.int x1), some (.int x2), some (.int x3), none, none], [.int x3, .ref 43], h)) rfl ?_
      obtain ⟨b4, w⟩ := w
      refine gw_ald (hk _ _ rfl) (Or.inl ⟨rfl, rfl⟩) (RL_a (t := 0) (n := 20) hR rfl (by decide)) b4 ?_
      refine gw_pst hk 2 (st' := (21, [some (.ref 41), some (.int x1), some (.int x2), some (.int x3), some (.int (gsA s 43 (x3 : Int32).toNatClampNeg)), none], [.ref 41], h)) rfl ?_
      refine gw_gf (hk _ _ rfl) (RL_fR (n := 43) hR rfl) ?_
      refine gw_pst hk 4 (st' := (29, [some (.ref 41), some (.int x1), some (.int x2), some (.int x3), some (.int (gsA s 43 (x3 : Int32).toNatClampNeg)), none], [.int ((gsA s 43 (x3 : Int32).toNatClampNeg) &&& 2), .int x3, .ref 43], h)) rfl ?_
      obtain ⟨b6, w⟩ := w
      have hR6 := RL_pA (a := 43) (t := 0) (n := 20) (k := (x3 : Int32).toNatClampNeg) (x := (vp_nar .int ((gsA s 43 (x3 : Int32).toNatClampNeg) &&& 2))) hR rfl (by decide)
      refine gw_ast (hk _ _ rfl) (Or.inl ⟨rfl, rfl, rfl⟩) (RL_a (t := 0) (n := 20) hR rfl (by decide)) b6 ?_
      generalize gm_put h _ _ = h at hR6 ⊢
      obtain ⟨s_6, es6⟩ : ∃ z, z = gs_A s 43 (x3 : Int32).toNatClampNeg (vp_nar .int ((gsA s 43 (x3 : Int32).toNatClampNeg) &&& 2)) := ⟨_, rfl⟩
      rw [← es6] at hR6
      replace w := w s_6 es6
      replace hR := hR6
      refine gw_pst hk 3 (st' := (33, [some (.ref 41), some (.int x1), some (.int x2), some (.int x3), some (.int (gsA s 43 (x3 : Int32).toNatClampNeg)), none], [.int x2, .int x1, .ref 41], h)) rfl ?_
      obtain ⟨fs7, e7⟩ := RL_o hR (r := 41) (ci := 3) rfl
      refine gw_call (jj := 36) (As := [.ref 41, .int x1, .int x2]) (rest := []) (hk _ _ rfl) (fun _ => rfl) rfl rfl (Nat.le_of_ble_eq_true rfl) (gm_rcv_v rfl e7 rfl) ?_
      refine ge_imp (w h hR) (fun v7 h w => ?_)
      obtain ⟨s_7, hR, x_7, rfl, w⟩ := w
      show gw (gt_T c.1 c.2.1 c.2.2.1) c.2.2.2 d 35 (36, [some (.ref 41), some (.int x1), some (.int x2), some (.int x3), some (.int (gsA s 43 (x3 : Int32).toNatClampNeg)), none], [.int x_7], h) _
      refine gw_pst hk 2 (st' := (39, [some (.ref 41), some (.int x1), some (.int x2), some (.int x3), some (.int (gsA s 43 (x3 : Int32).toNatClampNeg)), some (.int x_7)], [.ref 41], h)) rfl ?_
      refine gw_gf (hk _ _ rfl) (RL_fR (n := 43) hR rfl) ?_
      refine gw_pst hk 2 (st' := (45, [some (.ref 41), some (.int x1), some (.int x2), some (.int x3), some (.int (gsA s 43 (x3 : Int32).toNatClampNeg)), some (.int x_7)], [.int (gsA s 43 (x3 : Int32).toNatClampNeg), .int x3, .ref 43], h)) rfl ?_
      obtain ⟨b9, w⟩ := w
      have hR9 := RL_pA (a := 43) (t := 0) (n := 20) (k := (x3 : Int32).toNatClampNeg) (x := (vp_nar .int (gsA s 43 (x3 : Int32).toNatClampNeg))) hR rfl (by decide)
      refine gw_ast (hk _ _ rfl) (Or.inl ⟨rfl, rfl, rfl⟩) (RL_a (t := 0) (n := 20) hR rfl (by decide)) b9 ?_
      generalize gm_put h _ _ = h at hR9 ⊢
      obtain ⟨s_9, es9⟩ : ∃ z, z = gs_A s_7 43 (x3 : Int32).toNatClampNeg (vp_nar .int (gsA s 43 (x3 : Int32).toNatClampNeg)) := ⟨_, rfl⟩
      rw [← es9] at hR9
      replace w := w s_9 es9
      replace hR := hR9
      refine gw_pst hk 1 (st' := (48, [some (.ref 41), some (.int x1), some (.int x2), some (.int x3), some (.int (gsA s 43 (x3 : Int32).toNatClampNeg)), some (.int x_7)], [.int x_7], h)) rfl ?_
      exact gw_ret (hk _ _ rfl) rfl ⟨_, hR, w⟩
    · replace w := w.2 z2
      refine gw_le (L' := [none, none, none, none, none, none]) (gm_le_n _ (gm_le_n _ (gm_le_n _ (gm_le_n _ (gm_le_k _ (gm_le_k _ gm_le_nil)))))) ?_
      exact ok35_10 c d Post _ w _ hR
def w36_99 (c : gx) (d : Nat) (Post : Option Value → gs → Prop) (K2 : Int32 → Int32 → Int32 → gs → Prop) (K16 : Int32 → Int32 → Int32 → Int32 → gs → Prop) (K25 : Int32 → Int32 → Int32 → Int32 → Int32 → gs → Prop) (x1 : Int32) (x2 : Int32) (x3 : Int32) (x4 : Int32) (x5 : Int32) (rs0 : Nat) (xs1 : Int32) (xs2 : Int32) (s : gs) : Prop :=
  ∃ n1, gs_isA rs0 0 n1 = true ∧ vp_in xs1 n1 ∧ ∀ s_1 : gs, s_1 = gs_A s rs0 (xs1 : Int32).toNatClampNeg (vp_nar .int xs2) → K25 x1 x2 x3 x4 (x5 + 1) s_1
theorem ok36_99 (c : gx) (d : Nat) (Post : Option Value → gs → Prop) (K2 : Int32 → Int32 → Int32 → gs → Prop) (K16 : Int32 → Int32 → Int32 → Int32 → gs → Prop) (K25 : Int32 → Int32 → Int32 → Int32 → Int32 → gs → Prop)  (hK2 : ∀ (x1 : Int32) (x2 : Int32) (x3 : Int32) (s : gs), K2 x1 x2 x3 s → tV c d 36 2 [some (.ref 41), some (.int x1), some (.int x2), some (.int x3), none, none, none] [] s Post) (hK16 : ∀ (x1 : Int32) (x2 : Int32) (x3 : Int32) (x4 : Int32) (s : gs), K16 x1 x2 x3 x4 s → tV c d 36 16 [some (.ref 41), some (.int x1), some (.int x2), some (.int x3), some (.int x4), none, none] [] s Post) (hK25 : ∀ (x1 : Int32) (x2 : Int32) (x3 : Int32) (x4 : Int32) (x5 : Int32) (s : gs), K25 x1 x2 x3 x4 x5 s → tV c d 36 25 [some (.ref 41), some (.int x1), some (.int x2), some (.int x3), some (.int x4), some (.int x5), none] [] s Post) (x1 : Int32) (x2 : Int32) (x3 : Int32) (x4 : Int32) (x5 : Int32) (rs0 : Nat) (xs1 : Int32) (xs2 : Int32) (s : gs) (w : w36_99 c d Post K2 K16 K25 x1 x2 x3 x4 x5 rs0 xs1 xs2 s) : tV c d 36 99 [some (.ref 41), some (.int x1), some (.int x2), some (.int x3), some (.int x4), some (.int x5), none] [.int xs2, .int xs1, .ref rs0] s Post := by
  intro h hR
  have hk : ∀ pc i, gm_find gk_36 pc = some i → gm_code (gt_T c.1 c.2.1 c.2.2.1) 36 pc = some i := fun _ _ z => z
  unfold w36_99 at w
  unfold gV
  obtain ⟨n1, a1, b1, w⟩ := w
  have hR1 := RL_pA (a := rs0) (t := 0) (n := n1) (k := (xs1 : Int32).toNatClampNeg) (x := (vp_nar .int xs2)) hR a1 (by decide)
  refine gw_ast (hk _ _ rfl) (Or.inl ⟨rfl, rfl, rfl⟩) (RL_a (t := 0) (n := n1) hR a1 (by decide)) b1 ?_
  generalize gm_put h _ _ = h at hR1 ⊢
  obtain ⟨s_1, es1⟩ : ∃ z, z = gs_A s rs0 (xs1 : Int32).toNatClampNeg (vp_nar .int xs2) := ⟨_, rfl⟩
  rw [← es1] at hR1
  replace w := w s_1 es1
  replace hR := hR1
  refine gw_pst hk 2 (st' := (25, [some (.ref 41), some (.int x1), some (.int x2), some (.int x3), some (.int x4), some (.int (x5 + 1)), none], [], h)) rfl ?_
  exact hK25 _ _ _ _ _ _ w _ hR
def w36_62 (c : gx) (d : Nat) (Post : Option Value → gs → Prop) (K2 : Int32 → Int32 → Int32 → gs → Prop) (K16 : Int32 → Int32 → Int32 → Int32 → gs → Prop) (K25 : Int32 → Int32 → Int32 → Int32 → Int32 → gs → Prop) (x1 : Int32) (x2 : Int32) (x3 : Int32) (x4 : Int32) (x5 : Int32) (xs0 : Int32) (s : gs) : Prop :=
  ((xs0 = 0 → w36_99 c d Post K2 K16 K25 x1 x2 x3 x4 x5 44 (((8 * x3) + (4 * x4)) + x5) 0 s) ∧ (¬ (xs0 = 0) → tE c d 37 [.ref 41, .int x3, .int x4, .int x5, .int x2] s (fun v3 s_3 => ∃ x_3 : Int32, v3 = some (.int x_3) ∧ w36_99 c d Post K2 K16 K25 x1 x2 x3 x4 x5 44 (((8 * x3) + (4 * x4)) + x5) x_3 s_3)))
theorem ok36_62 (c : gx) (d : Nat) (Post : Option Value → gs → Prop) (K2 : Int32 → Int32 → Int32 → gs → Prop) (K16 : Int32 → Int32 → Int32 → Int32 → gs → Prop) (K25 : Int32 → Int32 → Int32 → Int32 → Int32 → gs → Prop)  (hK2 : ∀ (x1 : Int32) (x2 : Int32) (x3 : Int32) (s : gs), K2 x1 x2 x3 s → tV c d 36 2 [some (.ref 41), some (.int x1), some (.int x2), some (.int x3), none, none, none] [] s Post) (hK16 : ∀ (x1 : Int32) (x2 : Int32) (x3 : Int32) (x4 : Int32) (s : gs), K16 x1 x2 x3 x4 s → tV c d 36 16 [some (.ref 41), some (.int x1), some (.int x2), some (.int x3), some (.int x4), none, none] [] s Post) (hK25 : ∀ (x1 : Int32) (x2 : Int32) (x3 : Int32) (x4 : Int32) (x5 : Int32) (s : gs), K25 x1 x2 x3 x4 x5 s → tV c d 36 25 [some (.ref 41), some (.int x1), some (.int x2), some (.int x3), some (.int x4), some (.int x5), none] [] s Post) (x1 : Int32) (x2 : Int32) (x3 : Int32) (x4 : Int32) (x5 : Int32) (xs0 : Int32) (s : gs) (w : w36_62 c d Post K2 K16 K25 x1 x2 x3 x4 x5 xs0 s) : tV c d 36 62 [some (.ref 41), some (.int x1), some (.int x2), some (.int x3), some (.int x4), some (.int x5), none] [.int xs0] s Post := by
  intro h hR
  have hk : ∀ pc i, gm_find gk_36 pc = some i → gm_code (gt_T c.1 c.2.1 c.2.2.1) 36 pc = some i := fun _ _ z => z
  unfold w36_62 at w
  unfold gV
  refine gw_pst hk 2 (st' := (65, [some (.ref 41), some (.int x1), some (.int x2), some (.int x3), some (.int x4), some (.int x5), some (.int xs0)], [.ref 41], h)) rfl ?_
  refine gw_gf (hk _ _ rfl) (RL_fR (n := 44) hR rfl) ?_
  refine gw_pst hk 10 (st' := (82, [some (.ref 41), some (.int x1), some (.int x2), some (.int x3), some (.int x4), some (.int x5), some (.int xs0)], [.int xs0, .int (((8 * x3) + (4 * x4)) + x5), .ref 44], h)) rfl ?_
  refine gw_br (c := xs0 = 0) (a := (98, [some (.ref 41), some (.int x1), some (.int x2), some (.int x3), some (.int x4), some (.int x5), some (.int xs0)], [.int (((8 * x3) + (4 * x4)) + x5), .ref 44], h)) (b := (85, [some (.ref 41), some (.int x1), some (.int x2), some (.int x3), some (.int x4), some (.int x5), some (.int xs0)], [.int (((8 * x3) + (4 * x4)) + x5), .ref 44], h)) (hk _ _ rfl) rfl ⟨fun z2 => ?_, fun z2 => ?_⟩
  · replace w := w.1 z2
    refine gw_pst hk 1 (st' := (99, [some (.ref 41), some (.int x1), some (.int x2), some (.int x3), some (.int x4), some (.int x5), some (.int xs0)], [.int 0, .int (((8 * x3) + (4 * x4)) + x5), .ref 44], h)) rfl ?_
    refine gw_le (L' := [some (.ref 41), some (.int x1), some (.int x2), some (.int x3), some (.int x4), some (.int x5), none]) (gm_le_k _ (gm_le_k _ (gm_le_k _ (gm_le_k _ (gm_le_k _ (gm_le_k _ (gm_le_n _ gm_le_nil))))))) ?_
    exact ok36_99 c d Post K2 K16 K25 hK2 hK16 hK25 _ _ _ _ _ _ _ _ _ w _ hR
  · replace w := w.2 z2
    refine gw_pst hk 5 (st' := (92, [some (.ref 41), some (.int x1), some (.int x2), some (.int x3), some (.int x4), some (.int x5), some (.int xs0)], [.int x2, .int x5, .int x4, .int x3, .ref 41, .int (((8 * x3) + (4 * x4)) + x5), .ref 44], h)) rfl ?_
    obtain ⟨fs3, e3⟩ := RL_o hR (r := 41) (ci := 3) rfl
    refine gw_call (jj := 37) (As := [.ref 41, .int x3, .int x4, .int x5, .int x2]) (rest := [.int (((8 * x3) + (4 * x4)) + x5), .ref 44]) (hk _ _ rfl) (fun _ => rfl) rfl rfl (Nat.le_of_ble_eq_true rfl) (gm_rcv_v rfl e3 rfl) ?_
    refine ge_imp (w h hR) (fun v3 h w => ?_)
    obtain ⟨s_3, hR, x_3, rfl, w⟩ := w
    show gw (gt_T c.1 c.2.1 c.2.2.1) c.2.2.2 d 36 (95, [some (.ref 41), some (.int x1), some (.int x2), some (.int x3), some (.int x4), some (.int x5), some (.int xs0)], [.int x_3, .int (((8 * x3) + (4 * x4)) + x5), .ref 44], h) _
    refine gw_pst hk 1 (st' := (99, [some (.ref 41), some (.int x1), some (.int x2), some (.int x3), some (.int x4), some (.int x5), some (.int xs0)], [.int x_3, .int (((8 * x3) + (4 * x4)) + x5), .ref 44], h)) rfl ?_
    refine gw_le (L' := [some (.ref 41), some (.int x1), some (.int x2), some (.int x3), some (.int x4), some (.int x5), none]) (gm_le_k _ (gm_le_k _ (gm_le_k _ (gm_le_k _ (gm_le_k _ (gm_le_k _ (gm_le_n _ gm_le_nil))))))) ?_
    exact ok36_99 c d Post K2 K16 K25 hK2 hK16 hK25 _ _ _ _ _ _ _ _ _ w _ hR
def w36_61 (c : gx) (d : Nat) (Post : Option Value → gs → Prop) (K2 : Int32 → Int32 → Int32 → gs → Prop) (K16 : Int32 → Int32 → Int32 → Int32 → gs → Prop) (K25 : Int32 → Int32 → Int32 → Int32 → Int32 → gs → Prop) (x1 : Int32) (x2 : Int32) (x3 : Int32) (x4 : Int32) (x5 : Int32) (s : gs) : Prop :=
  w36_62 c d Post K2 K16 K25 x1 x2 x3 x4 x5 0 s
theorem ok36_61 (c : gx) (d : Nat) (Post : Option Value → gs → Prop) (K2 : Int32 → Int32 → Int32 → gs → Prop) (K16 : Int32 → Int32 → Int32 → Int32 → gs → Prop) (K25 : Int32 → Int32 → Int32 → Int32 → Int32 → gs → Prop)  (hK2 : ∀ (x1 : Int32) (x2 : Int32) (x3 : Int32) (s : gs), K2 x1 x2 x3 s → tV c d 36 2 [some (.ref 41), some (.int x1), some (.int x2), some (.int x3), none, none, none] [] s Post) (hK16 : ∀ (x1 : Int32) (x2 : Int32) (x3 : Int32) (x4 : Int32) (s : gs), K16 x1 x2 x3 x4 s → tV c d 36 16 [some (.ref 41), some (.int x1), some (.int x2), some (.int x3), some (.int x4), none, none] [] s Post) (hK25 : ∀ (x1 : Int32) (x2 : Int32) (x3 : Int32) (x4 : Int32) (x5 : Int32) (s : gs), K25 x1 x2 x3 x4 x5 s → tV c d 36 25 [some (.ref 41), some (.int x1), some (.int x2), some (.int x3), some (.int x4), some (.int x5), none] [] s Post) (x1 : Int32) (x2 : Int32) (x3 : Int32) (x4 : Int32) (x5 : Int32) (s : gs) (w : w36_61 c d Post K2 K16 K25 x1 x2 x3 x4 x5 s) : tV c d 36 61 [some (.ref 41), some (.int x1), some (.int x2), some (.int x3), some (.int x4), some (.int x5), none] [] s Post := by
  intro h hR
  have hk : ∀ pc i, gm_find gk_36 pc = some i → gm_code (gt_T c.1 c.2.1 c.2.2.1) 36 pc = some i := fun _ _ z => z
  unfold w36_61 at w
  unfold gV
  refine gw_pst hk 1 (st' := (62, [some (.ref 41), some (.int x1), some (.int x2), some (.int x3), some (.int x4), some (.int x5), none], [.int 0], h)) rfl ?_
  exact ok36_62 c d Post K2 K16 K25 hK2 hK16 hK25 _ _ _ _ _ _ _ w _ hR
def w36_106 (c : gx) (d : Nat) (Post : Option Value → gs → Prop) (K2 : Int32 → Int32 → Int32 → gs → Prop) (K16 : Int32 → Int32 → Int32 → Int32 → gs → Prop) (x1 : Int32) (x2 : Int32) (x3 : Int32) (x4 : Int32) (s : gs) : Prop :=
  K16 x1 x2 x3 (x4 + 1) s
theorem ok36_106 (c : gx) (d : Nat) (Post : Option Value → gs → Prop) (K2 : Int32 → Int32 → Int32 → gs → Prop) (K16 : Int32 → Int32 → Int32 → Int32 → gs → Prop)  (hK2 : ∀ (x1 : Int32) (x2 : Int32) (x3 : Int32) (s : gs), K2 x1 x2 x3 s → tV c d 36 2 [some (.ref 41), some (.int x1), some (.int x2), some (.int x3), none, none, none] [] s Post) (hK16 : ∀ (x1 : Int32) (x2 : Int32) (x3 : Int32) (x4 : Int32) (s : gs), K16 x1 x2 x3 x4 s → tV c d 36 16 [some (.ref 41), some (.int x1), some (.int x2), some (.int x3), some (.int x4), none, none] [] s Post) (x1 : Int32) (x2 : Int32) (x3 : Int32) (x4 : Int32) (s : gs) (w : w36_106 c d Post K2 K16 x1 x2 x3 x4 s) : tV c d 36 106 [some (.ref 41), some (.int x1), some (.int x2), some (.int x3), some (.int x4), none, none] [] s Post := by
  intro h hR
  have hk : ∀ pc i, gm_find gk_36 pc = some i → gm_code (gt_T c.1 c.2.1 c.2.2.1) 36 pc = some i := fun _ _ z => z
  unfold w36_106 at w
  unfold gV
  refine gw_pst hk 2 (st' := (16, [some (.ref 41), some (.int x1), some (.int x2), some (.int x3), some (.int (x4 + 1)), none, none], [], h)) rfl ?_
  exact hK16 _ _ _ _ _ w _ hR
def wb36_25 (c : gx) (d : Nat) (Post : Option Value → gs → Prop) (K2 : Int32 → Int32 → Int32 → gs → Prop) (K16 : Int32 → Int32 → Int32 → Int32 → gs → Prop) (K25 : Int32 → Int32 → Int32 → Int32 → Int32 → gs → Prop) (x1 : Int32) (x2 : Int32) (x3 : Int32) (x4 : Int32) (x5 : Int32) (s : gs) : Prop :=
  ((x2 < x5 → w36_106 c d Post K2 K16 x1 x2 x3 x4 s) ∧ (¬ (x2 < x5) → ((3 < x5 → w36_106 c d Post K2 K16 x1 x2 x3 x4 s) ∧ (¬ (3 < x5) → ((x5 ≤ 0 → w36_61 c d Post K2 K16 K25 x1 x2 x3 x4 x5 s) ∧ (¬ (x5 ≤ 0) → vp_in x3 20 ∧ (((((gsA s 43 (x3 : Int32).toNatClampNeg) >>> (x4 &&& 31)) &&& 1) = 1 → w36_62 c d Post K2 K16 K25 x1 x2 x3 x4 x5 1 s) ∧ (¬ ((((gsA s 43 (x3 : Int32).toNatClampNeg) >>> (x4 &&& 31)) &&& 1) = 1) → w36_61 c d Post K2 K16 K25 x1 x2 x3 x4 x5 s))))))))
theorem okb36_25 (c : gx) (d : Nat) (Post : Option Value → gs → Prop) (K2 : Int32 → Int32 → Int32 → gs → Prop) (K16 : Int32 → Int32 → Int32 → Int32 → gs → Prop) (K25 : Int32 → Int32 → Int32 → Int32 → Int32 → gs → Prop)  (hK2 : ∀ (x1 : Int32) (x2 : Int32) (x3 : Int32) (s : gs), K2 x1 x2 x3 s → tV c d 36 2 [some (.ref 41), some (.int x1), some (.int x2), some (.int x3), none, none, none] [] s Post) (hK16 : ∀ (x1 : Int32) (x2 : Int32) (x3 : Int32) (x4 : Int32) (s : gs), K16 x1 x2 x3 x4 s → tV c d 36 16 [some (.ref 41), some (.int x1), some (.int x2), some (.int x3), some (.int x4), none, none] [] s Post) (hK25 : ∀ (x1 : Int32) (x2 : Int32) (x3 : Int32) (x4 : Int32) (x5 : Int32) (s : gs), K25 x1 x2 x3 x4 x5 s → tV c d 36 25 [some (.ref 41), some (.int x1), some (.int x2), some (.int x3), some (.int x4), some (.int x5), none] [] s Post) (x1 : Int32) (x2 : Int32) (x3 : Int32) (x4 : Int32) (x5 : Int32) (s : gs) (w : wb36_25 c d Post K2 K16 K25 x1 x2 x3 x4 x5 s) : tV c d 36 25 [some (.ref 41), some (.int x1), some (.int x2), some (.int x3), some (.int x4), some (.int x5), none] [] s Post := by
  intro h hR
  have hk : ∀ pc i, gm_find gk_36 pc = some i → gm_code (gt_T c.1 c.2.1 c.2.2.1) 36 pc = some i := fun _ _ z => z
  unfold wb36_25 at w
  unfold gV
  refine gw_pst hk 2 (st' := (28, [some (.ref 41), some (.int x1), some (.int x2), some (.int x3), some (.int x4), some (.int x5), none], [.int x2, .int x5], h)) rfl ?_
  refine gw_br (c := x2 < x5) (a := (106, [some (.ref 41), some (.int x1), some (.int x2), some (.int x3), some (.int x4), some (.int x5), none], [], h)) (b := (31, [some (.ref 41), some (.int x1), some (.int x2), some (.int x3), some (.int x4), some (.int x5), none], [], h)) (hk _ _ rfl) rfl ⟨fun z1 => ?_, fun z1 => ?_⟩
  · replace w := w.1 z1
    refine gw_le (L' := [some (.ref 41), some (.int x1), some (.int x2), some (.int x3), some (.int x4), none, none]) (gm_le_k _ (gm_le_k _ (gm_le_k _ (gm_le_k _ (gm_le_k _ (gm_le_n _ (gm_le_k _ gm_le_nil))))))) ?_
    exact ok36_106 c d Post K2 K16 hK2 hK16 _ _ _ _ _ w _ hR
  · replace w := w.2 z1
    refine gw_pst hk 2 (st' := (34, [some (.ref 41), some (.int x1), some (.int x2), some (.int x3), some (.int x4), some (.int x5), none], [.int 3, .int x5], h)) rfl ?_
    refine gw_br (c := 3 < x5) (a := (106, [some (.ref 41), some (.int x1), some (.int x2), some (.int x3), some (.int x4), some (.int x5), none], [], h)) (b := (37, [some (.ref 41), some (.int x1), some (.int x2), some (.int x3), some (.int x4), some (.int x5), none], [], h)) (hk _ _ rfl) rfl ⟨fun z2 => ?_, fun z2 => ?_⟩
    · replace w := w.1 z2
      refine gw_le (L' := [some (.ref 41), some (.int x1), some (.int x2), some (.int x3), some (.int x4), none, none]) (gm_le_k _ (gm_le_k _ (gm_le_k _ (gm_le_k _ (gm_le_k _ (gm_le_n _ (gm_le_k _ gm_le_nil))))))) ?_
      exact ok36_106 c d Post K2 K16 hK2 hK16 _ _ _ _ _ w _ hR
    · replace w := w.2 z2
      refine gw_pst hk 1 (st' := (39, [some (.ref 41), some (.int x1), some (.int x2), some (.int x3), some (.int x4), some (.int x5), none], [.int x5], h)) rfl ?_
      refine gw_br (c := x5 ≤ 0) (a := (61, [some (.ref 41), some (.int x1), some (.int x2), some (.int x3), some (.int x4), some (.int x5), none], [], h)) (b := (42, [some (.ref 41), some (.int x1), some (.int x2), some (.int x3), some (.int x4), some (.int x5), none], [], h)) (hk _ _ rfl) rfl ⟨fun z3 => ?_, fun z3 => ?_⟩
      · replace w := w.1 z3
        exact ok36_61 c d Post K2 K16 K25 hK2 hK16 hK25 _ _ _ _ _ _ w _ hR
      · replace w := w.2 z3
        refine gw_pst hk 1 (st' := (43, [some (.ref 41), some (.int x1), some (.int x2), some (.int x3), some (.int x4), some (.int x5), none], [.ref 41], h)) rfl ?_
        refine gw_gf (hk _ _ rfl) (RL_fR (n := 43) hR rfl) ?_
        refine gw_pst hk 1 (st' := (47, [some (.ref 41), some (.int x1), some (.int x2), some (.int x3), some (.int x4), some (.int x5), none], [.int x3, .ref 43], h)) rfl ?_
        obtain ⟨b5, w⟩ := w
        refine gw_ald (hk _ _ rfl) (Or.inl ⟨rfl, rfl⟩) (RL_a (t := 0) (n := 20) hR rfl (by decide)) b5 ?_
        refine gw_pst hk 5 (st' := (54, [some (.ref 41), some (.int x1), some (.int x2), some (.int x3), some (.int x4), some (.int x5), none], [.int 1, .int (((gsA s 43 (x3 : Int32).toNatClampNeg) >>> (x4 &&& 31)) &&& 1)], h)) rfl ?_
        refine gw_br (c := (((gsA s 43 (x3 : Int32).toNatClampNeg) >>> (x4 &&& 31)) &&& 1) = 1) (a := (57, [some (.ref 41), some (.int x1), some (.int x2), some (.int x3), some (.int x4), some (.int x5), none], [], h)) (b := (61, [some (.ref 41), some (.int x1), some (.int x2), some (.int x3), some (.int x4), some (.int x5), none], [], h)) (hk _ _ rfl) rfl ⟨fun z6 => ?_, fun z6 => ?_⟩
        · replace w := w.1 z6
          refine gw_pst hk 2 (st' := (62, [some (.ref 41), some (.int x1), some (.int x2), some (.int x3), some (.int x4), some (.int x5), none], [.int 1], h)) rfl ?_
          exact ok36_62 c d Post K2 K16 K25 hK2 hK16 hK25 _ _ _ _ _ _ _ w _ hR
        · replace w := w.2 z6
          exact ok36_61 c d Post K2 K16 K25 hK2 hK16 hK25 _ _ _ _ _ _ w _ hR
def wl36_25 (c : gx) (d : Nat) (Post : Option Value → gs → Prop) (K2 : Int32 → Int32 → Int32 → gs → Prop) (K16 : Int32 → Int32 → Int32 → Int32 → gs → Prop) : Nat → Int32 → Int32 → Int32 → Int32 → Int32 → gs → Prop
  | 0 => fun _ _ _ _ _ _ => False
  | n + 1 => wb36_25 c d Post K2 K16 (wl36_25 c d Post K2 K16 n)
theorem okl36_25 (c : gx) (d : Nat) (Post : Option Value → gs → Prop) (K2 : Int32 → Int32 → Int32 → gs → Prop) (K16 : Int32 → Int32 → Int32 → Int32 → gs → Prop) (hK2 : ∀ (x1 : Int32) (x2 : Int32) (x3 : Int32) (s : gs), K2 x1 x2 x3 s → tV c d 36 2 [some (.ref 41), some (.int x1), some (.int x2), some (.int x3), none, none, none] [] s Post) (hK16 : ∀ (x1 : Int32) (x2 : Int32) (x3 : Int32) (x4 : Int32) (s : gs), K16 x1 x2 x3 x4 s → tV c d 36 16 [some (.ref 41), some (.int x1), some (.int x2), some (.int x3), some (.int x4), none, none] [] s Post) : ∀ (n : Nat) (x1 : Int32) (x2 : Int32) (x3 : Int32) (x4 : Int32) (x5 : Int32) (s : gs), wl36_25 c d Post K2 K16 n x1 x2 x3 x4 x5 s → tV c d 36 25 [some (.ref 41), some (.int x1), some (.int x2), some (.int x3), some (.int x4), some (.int x5), none] [] s Post
  | 0, _, _, _, _, _, _, w => w.elim
  | n + 1, x1, x2, x3, x4, x5, s, w => okb36_25 c d Post K2 K16 (wl36_25 c d Post K2 K16 n) hK2 hK16 (okl36_25 c d Post K2 K16 hK2 hK16 n) x1 x2 x3 x4 x5 s w
def wb36_16 (c : gx) (d : Nat) (Post : Option Value → gs → Prop) (K2 : Int32 → Int32 → Int32 → gs → Prop) (K16 : Int32 → Int32 → Int32 → Int32 → gs → Prop) (x1 : Int32) (x2 : Int32) (x3 : Int32) (x4 : Int32) (s : gs) : Prop :=
  ((1 < x4 → K2 x1 x2 (x3 + 1) s) ∧ (¬ (1 < x4) → ∃ n, wl36_25 c d Post K2 K16 n x1 x2 x3 x4 0 s))
theorem okb36_16 (c : gx) (d : Nat) (Post : Option Value → gs → Prop) (K2 : Int32 → Int32 → Int32 → gs → Prop) (K16 : Int32 → Int32 → Int32 → Int32 → gs → Prop)  (hK2 : ∀ (x1 : Int32) (x2 : Int32) (x3 : Int32) (s : gs), K2 x1 x2 x3 s → tV c d 36 2 [some (.ref 41), some (.int x1), some (.int x2), some (.int x3), none, none, none] [] s Post) (hK16 : ∀ (x1 : Int32) (x2 : Int32) (x3 : Int32) (x4 : Int32) (s : gs), K16 x1 x2 x3 x4 s → tV c d 36 16 [some (.ref 41), some (.int x1), some (.int x2), some (.int x3), some (.int x4), none, none] [] s Post) (x1 : Int32) (x2 : Int32) (x3 : Int32) (x4 : Int32) (s : gs) (w : wb36_16 c d Post K2 K16 x1 x2 x3 x4 s) : tV c d 36 16 [some (.ref 41), some (.int x1), some (.int x2), some (.int x3), some (.int x4), none, none] [] s Post := by
  intro h hR
  have hk : ∀ pc i, gm_find gk_36 pc = some i → gm_code (gt_T c.1 c.2.1 c.2.2.1) 36 pc = some i := fun _ _ z => z
  unfold wb36_16 at w
  unfold gV
  refine gw_pst hk 2 (st' := (19, [some (.ref 41), some (.int x1), some (.int x2), some (.int x3), some (.int x4), none, none], [.int 1, .int x4], h)) rfl ?_
  refine gw_br (c := 1 < x4) (a := (112, [some (.ref 41), some (.int x1), some (.int x2), some (.int x3), some (.int x4), none, none], [], h)) (b := (22, [some (.ref 41), some (.int x1), some (.int x2), some (.int x3), some (.int x4), none, none], [], h)) (hk _ _ rfl) rfl ⟨fun z1 => ?_, fun z1 => ?_⟩
  · replace w := w.1 z1
    refine gw_pst hk 2 (st' := (2, [some (.ref 41), some (.int x1), some (.int x2), some (.int (x3 + 1)), some (.int x4), none, none], [], h)) rfl ?_
    refine gw_le (L' := [some (.ref 41), some (.int x1), some (.int x2), some (.int (x3 + 1)), none, none, none]) (gm_le_k _ (gm_le_k _ (gm_le_k _ (gm_le_k _ (gm_le_n _ (gm_le_k _ (gm_le_k _ gm_le_nil))))))) ?_
    exact hK2 _ _ _ _ w _ hR
  · replace w := w.2 z1
    refine gw_pst hk 2 (st' := (25, [some (.ref 41), some (.int x1), some (.int x2), some (.int x3), some (.int x4), some (.int 0), none], [], h)) rfl ?_
    obtain ⟨n, w⟩ := w
    exact okl36_25 c d Post K2 K16 hK2 hK16 n _ _ _ _ _ _ w _ hR
def wl36_16 (c : gx) (d : Nat) (Post : Option Value → gs → Prop) (K2 : Int32 → Int32 → Int32 → gs → Prop) : Nat → Int32 → Int32 → Int32 → Int32 → gs → Prop
  | 0 => fun _ _ _ _ _ => False
  | n + 1 => wb36_16 c d Post K2 (wl36_16 c d Post K2 n)
theorem okl36_16 (c : gx) (d : Nat) (Post : Option Value → gs → Prop) (K2 : Int32 → Int32 → Int32 → gs → Prop) (hK2 : ∀ (x1 : Int32) (x2 : Int32) (x3 : Int32) (s : gs), K2 x1 x2 x3 s → tV c d 36 2 [some (.ref 41), some (.int x1), some (.int x2), some (.int x3), none, none, none] [] s Post) : ∀ (n : Nat) (x1 : Int32) (x2 : Int32) (x3 : Int32) (x4 : Int32) (s : gs), wl36_16 c d Post K2 n x1 x2 x3 x4 s → tV c d 36 16 [some (.ref 41), some (.int x1), some (.int x2), some (.int x3), some (.int x4), none, none] [] s Post
  | 0, _, _, _, _, _, w => w.elim
  | n + 1, x1, x2, x3, x4, s, w => okb36_16 c d Post K2 (wl36_16 c d Post K2 n) hK2 (okl36_16 c d Post K2 hK2 n) x1 x2 x3 x4 s w
def w36_118 (c : gx) (d : Nat) (Post : Option Value → gs → Prop) (x1 : Int32) (x2 : Int32) (s : gs) : Prop :=
  tE c d 38 [.ref 41, .int (x1 - 1), .int 0, .int x2] s (fun v1 s_1 => ∃ x_1 : Int32, v1 = some (.int x_1) ∧ tE c d 38 [.ref 41, .int (x1 - 1), .int 1, .int x2] s_1 (fun v2 s_2 => ∃ x_2 : Int32, v2 = some (.int x_2) ∧ Post (some (.int (x_1 + x_2))) s_2))
theorem ok36_118 (c : gx) (d : Nat) (Post : Option Value → gs → Prop)  (x1 : Int32) (x2 : Int32) (s : gs) (w : w36_118 c d Post x1 x2 s) : tV c d 36 118 [some (.ref 41), some (.int x1), some (.int x2), none, none, none, none] [] s Post := by
  intro h hR
  have hk : ∀ pc i, gm_find gk_36 pc = some i → gm_code (gt_T c.1 c.2.1 c.2.2.1) 36 pc = some i := fun _ _ z => z
  unfold w36_118 at w
  unfold gV
  refine gw_pst hk 6 (st' := (124, [some (.ref 41), some (.int x1), some (.int x2), none, none, none, none], [.int x2, .int 0, .int (x1 - 1), .ref 41], h)) rfl ?_
  obtain ⟨fs1, e1⟩ := RL_o hR (r := 41) (ci := 3) rfl
  refine gw_call (jj := 38) (As := [.ref 41, .int (x1 - 1), .int 0, .int x2]) (rest := []) (hk _ _ rfl) (fun _ => rfl) rfl rfl (Nat.le_of_ble_eq_true rfl) (gm_rcv_v rfl e1 rfl) ?_
  refine ge_imp (w h hR) (fun v1 h w => ?_)
  obtain ⟨s_1, hR, x_1, rfl, w⟩ := w
  show gw (gt_T c.1 c.2.1 c.2.2.1) c.2.2.2 d 36 (127, [some (.ref 41), some (.int x1), some (.int x2), none, none, none, none], [.int x_1], h) _
  refine gw_pst hk 6 (st' := (133, [some (.ref 41), some (.int x1), some (.int x2), none, none, none, none], [.int x2, .int 1, .int (x1 - 1), .ref 41, .int x_1], h)) rfl ?_
  obtain ⟨fs2, e2⟩ := RL_o hR (r := 41) (ci := 3) rfl
  refine gw_call (jj := 38) (As := [.ref 41, .int (x1 - 1), .int 1, .int x2]) (rest := [.int x_1]) (hk _ _ rfl) (fun _ => rfl) rfl rfl (Nat.le_of_ble_eq_true rfl) (gm_rcv_v rfl e2 rfl) ?_
  refine ge_imp (w h hR) (fun v2 h w => ?_)
  obtain ⟨s_2, hR, x_2, rfl, w⟩ := w
  show gw (gt_T c.1 c.2.1 c.2.2.1) c.2.2.2 d 36 (136, [some (.ref 41), some (.int x1), some (.int x2), none, none, none, none], [.int x_2, .int x_1], h) _
  refine gw_pst hk 1 (st' := (137, [some (.ref 41), some (.int x1), some (.int x2), none, none, none, none], [.int (x_1 + x_2)], h)) rfl ?_
  exact gw_ret (hk _ _ rfl) rfl ⟨_, hR, w⟩
def wb36_2 (c : gx) (d : Nat) (Post : Option Value → gs → Prop) (K2 : Int32 → Int32 → Int32 → gs → Prop) (x1 : Int32) (x2 : Int32) (x3 : Int32) (s : gs) : Prop :=
  ((x1 ≤ x3 → w36_118 c d Post x1 x2 s) ∧ (¬ (x1 ≤ x3) → ((20 ≤ x3 → w36_118 c d Post x1 x2 s) ∧ (¬ (20 ≤ x3) → ∃ n, wl36_16 c d Post K2 n x1 x2 x3 0 s))))
theorem okb36_2 (c : gx) (d : Nat) (Post : Option Value → gs → Prop) (K2 : Int32 → Int32 → Int32 → gs → Prop)  (hK2 : ∀ (x1 : Int32) (x2 : Int32) (x3 : Int32) (s : gs), K2 x1 x2 x3 s → tV c d 36 2 [some (.ref 41), some (.int x1), some (.int x2), some (.int x3), none, none, none] [] s Post) (x1 : Int32) (x2 : Int32) (x3 : Int32) (s : gs) (w : wb36_2 c d Post K2 x1 x2 x3 s) : tV c d 36 2 [some (.ref 41), some (.int x1), some (.int x2), some (.int x3), none, none, none] [] s Post := by
  intro h hR
  have hk : ∀ pc i, gm_find gk_36 pc = some i → gm_code (gt_T c.1 c.2.1 c.2.2.1) 36 pc = some i := fun _ _ z => z
  unfold wb36_2 at w
  unfold gV
  refine gw_pst hk 2 (st' := (4, [some (.ref 41), some (.int x1), some (.int x2), some (.int x3), none, none, none], [.int x1, .int x3], h)) rfl ?_
  refine gw_br (c := x1 ≤ x3) (a := (118, [some (.ref 41), some (.int x1), some (.int x2), some (.int x3), none, none, none], [], h)) (b := (7, [some (.ref 41), some (.int x1), some (.int x2), some (.int x3), none, none, none], [], h)) (hk _ _ rfl) rfl ⟨fun z1 => ?_, fun z1 => ?_⟩
  · replace w := w.1 z1
    refine gw_le (L' := [some (.ref 41), some (.int x1), some (.int x2), none, none, none, none]) (gm_le_k _ (gm_le_k _ (gm_le_k _ (gm_le_n _ (gm_le_k _ (gm_le_k _ (gm_le_k _ gm_le_nil))))))) ?_
    exact ok36_118 c d Post _ _ _ w _ hR
  · replace w := w.2 z1
    refine gw_pst hk 2 (st' := (10, [some (.ref 41), some (.int x1), some (.int x2), some (.int x3), none, none, none], [.int 20, .int x3], h)) rfl ?_
    refine gw_br (c := 20 ≤ x3) (a := (118, [some (.ref 41), some (.int x1), some (.int x2), some (.int x3), none, none, none], [], h)) (b := (13, [some (.ref 41), some (.int x1), some (.int x2), some (.int x3), none, none, none], [], h)) (hk _ _ rfl) rfl ⟨fun z2 => ?_, fun z2 => ?_⟩
    · replace w := w.1 z2
      refine gw_le (L' := [some (.ref 41), some (.int x1), some (.int x2), none, none, none, none]) (gm_le_k _ (gm_le_k _ (gm_le_k _ (gm_le_n _ (gm_le_k _ (gm_le_k _ (gm_le_k _ gm_le_nil))))))) ?_
      exact ok36_118 c d Post _ _ _ w _ hR
    · replace w := w.2 z2
      refine gw_pst hk 2 (st' := (16, [some (.ref 41), some (.int x1), some (.int x2), some (.int x3), some (.int 0), none, none], [], h)) rfl ?_
      obtain ⟨n, w⟩ := w
      exact okl36_16 c d Post K2 hK2 n _ _ _ _ _ w _ hR
def wl36_2 (c : gx) (d : Nat) (Post : Option Value → gs → Prop) : Nat → Int32 → Int32 → Int32 → gs → Prop
  | 0 => fun _ _ _ _ => False
  | n + 1 => wb36_2 c d Post (wl36_2 c d Post n)
theorem okl36_2 (c : gx) (d : Nat) (Post : Option Value → gs → Prop) : ∀ (n : Nat) (x1 : Int32) (x2 : Int32) (x3 : Int32) (s : gs), wl36_2 c d Post n x1 x2 x3 s → tV c d 36 2 [some (.ref 41), some (.int x1), some (.int x2), some (.int x3), none, none, none] [] s Post
  | 0, _, _, _, _, w => w.elim
  | n + 1, x1, x2, x3, s, w => okb36_2 c d Post (wl36_2 c d Post n) (okl36_2 c d Post n) x1 x2 x3 s w
/-- CommandByTurns$OldWar.ways(II)I -/
def wm36 (c : gx) (d : Nat) (Post : Option Value → gs → Prop) (x1 : Int32) (x2 : Int32) (s : gs) : Prop :=
  ∃ n, wl36_2 c d Post n x1 x2 0 s
theorem okm36 (c : gx) (d : Nat) (Post : Option Value → gs → Prop) (x1 : Int32) (x2 : Int32) (s : gs) (w : wm36 c d Post x1 x2 s) : tE c (d + 1) 36 [.ref 41, .int x1, .int x2] s Post := by
  intro h hR
  have hk : ∀ pc i, gm_find gk_36 pc = some i → gm_code (gt_T c.1 c.2.1 c.2.2.1) 36 pc = some i := fun _ _ z => z
  unfold wm36 at w
  refine ge_of (by decide) (Nat.le_of_ble_eq_true rfl) ?_
  show gw (gt_T c.1 c.2.1 c.2.2.1) c.2.2.2 d 36 (0, [some (.ref 41), some (.int x1), some (.int x2), none, none, none, none], [], h) _
  refine gw_pst hk 2 (st' := (2, [some (.ref 41), some (.int x1), some (.int x2), some (.int 0), none, none, none], [], h)) rfl ?_
  obtain ⟨n, w⟩ := w
  exact okl36_2 c d Post n _ _ _ _ w _ hR
def w37_32 (c : gx) (d : Nat) (Post : Option Value → gs → Prop) (xs0 : Int32) (s : gs) : Prop :=
  Post (some (.int xs0)) s
theorem ok37_32 (c : gx) (d : Nat) (Post : Option Value → gs → Prop)  (xs0 : Int32) (s : gs) (w : w37_32 c d Post xs0 s) : tV c d 37 32 [none, none, none, none, none] [.int xs0] s Post := by
  intro h hR
  have hk : ∀ pc i, gm_find gk_37 pc = some i → gm_code (gt_T c.1 c.2.1 c.2.2.1) 37 pc = some i := fun _ _ z => z
  unfold w37_32 at w
  unfold gV
  exact gw_ret (hk _ _ rfl) rfl ⟨_, hR, w⟩
/-- CommandByTurns$OldWar.waysAhead(IIII)I -/
def wm37 (c : gx) (d : Nat) (Post : Option Value → gs → Prop) (x1 : Int32) (x2 : Int32) (x3 : Int32) (x4 : Int32) (s : gs) : Prop :=
  ((x1 = 0 → w37_32 c d Post 1 s) ∧ (¬ (x1 = 0) → tE c d 38 [.ref 41, .int (x1 - 1), .int (1 - x2), .int x4] s (fun v2 s_2 => ∃ x_2 : Int32, v2 = some (.int x_2) ∧ tE c d 38 [.ref 41, .int (x1 - 1), .int x2, .int (x3 - 1)] s_2 (fun v3 s_3 => ∃ x_3 : Int32, v3 = some (.int x_3) ∧ w37_32 c d Post (x_2 + x_3) s_3))))
theorem okm37 (c : gx) (d : Nat) (Post : Option Value → gs → Prop) (x1 : Int32) (x2 : Int32) (x3 : Int32) (x4 : Int32) (s : gs) (w : wm37 c d Post x1 x2 x3 x4 s) : tE c (d + 1) 37 [.ref 41, .int x1, .int x2, .int x3, .int x4] s Post := by
  intro h hR
  have hk : ∀ pc i, gm_find gk_37 pc = some i → gm_code (gt_T c.1 c.2.1 c.2.2.1) 37 pc = some i := fun _ _ z => z
  unfold wm37 at w
  refine ge_of (by decide) (Nat.le_of_ble_eq_true rfl) ?_
  show gw (gt_T c.1 c.2.1 c.2.2.1) c.2.2.2 d 37 (0, [some (.ref 41), some (.int x1), some (.int x2), some (.int x3), some (.int x4)], [], h) _
  refine gw_pst hk 1 (st' := (1, [some (.ref 41), some (.int x1), some (.int x2), some (.int x3), some (.int x4)], [.int x1], h)) rfl ?_
  refine gw_br (c := x1 = 0) (a := (4, [some (.ref 41), some (.int x1), some (.int x2), some (.int x3), some (.int x4)], [], h)) (b := (8, [some (.ref 41), some (.int x1), some (.int x2), some (.int x3), some (.int x4)], [], h)) (hk _ _ rfl) rfl ⟨fun z1 => ?_, fun z1 => ?_⟩
  · replace w := w.1 z1
    refine gw_pst hk 2 (st' := (32, [some (.ref 41), some (.int x1), some (.int x2), some (.int x3), some (.int x4)], [.int 1], h)) rfl ?_
    refine gw_le (L' := [none, none, none, none, none]) (gm_le_n _ (gm_le_n _ (gm_le_n _ (gm_le_n _ (gm_le_n _ gm_le_nil))))) ?_
    exact ok37_32 c d Post _ _ w _ hR
  · replace w := w.2 z1
    refine gw_pst hk 8 (st' := (17, [some (.ref 41), some (.int x1), some (.int x2), some (.int x3), some (.int x4)], [.int x4, .int (1 - x2), .int (x1 - 1), .ref 41], h)) rfl ?_
    obtain ⟨fs2, e2⟩ := RL_o hR (r := 41) (ci := 3) rfl
    refine gw_call (jj := 38) (As := [.ref 41, .int (x1 - 1), .int (1 - x2), .int x4]) (rest := []) (hk _ _ rfl) (fun _ => rfl) rfl rfl (Nat.le_of_ble_eq_true rfl) (gm_rcv_v rfl e2 rfl) ?_
    refine ge_imp (w h hR) (fun v2 h w => ?_)
    obtain ⟨s_2, hR, x_2, rfl, w⟩ := w
    show gw (gt_T c.1 c.2.1 c.2.2.1) c.2.2.2 d 37 (20, [some (.ref 41), some (.int x1), some (.int x2), some (.int x3), some (.int x4)], [.int x_2], h) _
    refine gw_pst hk 8 (st' := (28, [some (.ref 41), some (.int x1), some (.int x2), some (.int x3), some (.int x4)], [.int (x3 - 1), .int x2, .int (x1 - 1), .ref 41, .int x_2], h)) rfl ?_
    obtain ⟨fs3, e3⟩ := RL_o hR (r := 41) (ci := 3) rfl
    refine gw_call (jj := 38) (As := [.ref 41, .int (x1 - 1), .int x2, .int (x3 - 1)]) (rest := [.int x_2]) (hk _ _ rfl) (fun _ => rfl) rfl rfl (Nat.le_of_ble_eq_true rfl) (gm_rcv_v rfl e3 rfl) ?_
    refine ge_imp (w h hR) (fun v3 h w => ?_)
    obtain ⟨s_3, hR, x_3, rfl, w⟩ := w
    show gw (gt_T c.1 c.2.1 c.2.2.1) c.2.2.2 d 37 (31, [some (.ref 41), some (.int x1), some (.int x2), some (.int x3), some (.int x4)], [.int x_3, .int x_2], h) _
    refine gw_pst hk 1 (st' := (32, [some (.ref 41), some (.int x1), some (.int x2), some (.int x3), some (.int x4)], [.int (x_2 + x_3)], h)) rfl ?_
    refine gw_le (L' := [none, none, none, none, none]) (gm_le_n _ (gm_le_n _ (gm_le_n _ (gm_le_n _ (gm_le_n _ gm_le_nil))))) ?_
    exact ok37_32 c d Post _ _ w _ hR
def w38_38 (c : gx) (d : Nat) (Post : Option Value → gs → Prop) (xs0 : Int32) (s : gs) : Prop :=
  Post (some (.int xs0)) s
theorem ok38_38 (c : gx) (d : Nat) (Post : Option Value → gs → Prop)  (xs0 : Int32) (s : gs) (w : w38_38 c d Post xs0 s) : tV c d 38 38 [none, none, none, none, none] [.int xs0] s Post := by
  intro h hR
  have hk : ∀ pc i, gm_find gk_38 pc = some i → gm_code (gt_T c.1 c.2.1 c.2.2.1) 38 pc = some i := fun _ _ z => z
  unfold w38_38 at w
  unfold gV
  exact gw_ret (hk _ _ rfl) rfl ⟨_, hR, w⟩
def w38_37 (c : gx) (d : Nat) (Post : Option Value → gs → Prop)  (s : gs) : Prop :=
  w38_38 c d Post 0 s
theorem ok38_37 (c : gx) (d : Nat) (Post : Option Value → gs → Prop)   (s : gs) (w : w38_37 c d Post  s) : tV c d 38 37 [none, none, none, none, none] [] s Post := by
  intro h hR
  have hk : ∀ pc i, gm_find gk_38 pc = some i → gm_code (gt_T c.1 c.2.1 c.2.2.1) 38 pc = some i := fun _ _ z => z
  unfold w38_37 at w
  unfold gV
  refine gw_pst hk 1 (st' := (38, [none, none, none, none, none], [.int 0], h)) rfl ?_
  exact ok38_38 c d Post _ _ w _ hR
/-- CommandByTurns$OldWar.waysUpTo(III)I -/
def wm38 (c : gx) (d : Nat) (Post : Option Value → gs → Prop) (x1 : Int32) (x2 : Int32) (x3 : Int32) (s : gs) : Prop :=
  (((((8 * x1) + (4 * x2)) + x3) < 0 → w38_37 c d Post s) ∧ (¬ ((((8 * x1) + (4 * x2)) + x3) < 0) → ((160 ≤ (((8 * x1) + (4 * x2)) + x3) → w38_37 c d Post s) ∧ (¬ (160 ≤ (((8 * x1) + (4 * x2)) + x3)) → vp_in (((8 * x1) + (4 * x2)) + x3) 160 ∧ w38_38 c d Post (gsA s 44 (((8 * x1) + (4 * x2)) + x3 : Int32).toNatClampNeg) s))))
theorem okm38 (c : gx) (d : Nat) (Post : Option Value → gs → Prop) (x1 : Int32) (x2 : Int32) (x3 : Int32) (s : gs) (w : wm38 c d Post x1 x2 x3 s) : tE c (d + 1) 38 [.ref 41, .int x1, .int x2, .int x3] s Post := by
  intro h hR
  have hk : ∀ pc i, gm_find gk_38 pc = some i → gm_code (gt_T c.1 c.2.1 c.2.2.1) 38 pc = some i := fun _ _ z => z
  unfold wm38 at w
  refine ge_of (by decide) (Nat.le_of_ble_eq_true rfl) ?_
  show gw (gt_T c.1 c.2.1 c.2.2.1) c.2.2.2 d 38 (0, [some (.ref 41), some (.int x1), some (.int x2), some (.int x3), none], [], h) _
  refine gw_pst hk 11 (st' := (14, [some (.ref 41), some (.int x1), some (.int x2), some (.int x3), some (.int (((8 * x1) + (4 * x2)) + x3))], [.int (((8 * x1) + (4 * x2)) + x3)], h)) rfl ?_
  refine gw_br (c := (((8 * x1) + (4 * x2)) + x3) < 0) (a := (37, [some (.ref 41), some (.int x1), some (.int x2), some (.int x3), some (.int (((8 * x1) + (4 * x2)) + x3))], [], h)) (b := (17, [some (.ref 41), some (.int x1), some (.int x2), some (.int x3), some (.int (((8 * x1) + (4 * x2)) + x3))], [], h)) (hk _ _ rfl) rfl ⟨fun z1 => ?_, fun z1 => ?_⟩
  · replace w := w.1 z1
    refine gw_le (L' := [none, none, none, none, none]) (gm_le_n _ (gm_le_n _ (gm_le_n _ (gm_le_n _ (gm_le_n _ gm_le_nil))))) ?_
    exact ok38_37 c d Post _ w _ hR
  · replace w := w.2 z1
    refine gw_pst hk 2 (st' := (20, [some (.ref 41), some (.int x1), some (.int x2), some (.int x3), some (.int (((8 * x1) + (4 * x2)) + x3))], [.ref 41, .int (((8 * x1) + (4 * x2)) + x3)], h)) rfl ?_
    refine gw_gf (hk _ _ rfl) (RL_fR (n := 44) hR rfl) ?_
    refine gw_alen (hk _ _ rfl) (RL_a (t := 0) (n := 160) hR rfl (by decide)) (by decide) ?_
    refine gw_br (c := 160 ≤ (((8 * x1) + (4 * x2)) + x3)) (a := (37, [some (.ref 41), some (.int x1), some (.int x2), some (.int x3), some (.int (((8 * x1) + (4 * x2)) + x3))], [], h)) (b := (27, [some (.ref 41), some (.int x1), some (.int x2), some (.int x3), some (.int (((8 * x1) + (4 * x2)) + x3))], [], h)) (hk _ _ rfl) rfl ⟨fun z4 => ?_, fun z4 => ?_⟩
    · replace w := w.1 z4
      refine gw_le (L' := [none, none, none, none, none]) (gm_le_n _ (gm_le_n _ (gm_le_n _ (gm_le_n _ (gm_le_n _ gm_le_nil))))) ?_
      exact ok38_37 c d Post _ w _ hR
    · replace w := w.2 z4
      refine gw_pst hk 1 (st' := (28, [some (.ref 41), some (.int x1), some (.int x2), some (.int x3), some (.int (((8 * x1) + (4 * x2)) + x3))], [.ref 41], h)) rfl ?_
      refine gw_gf (hk _ _ rfl) (RL_fR (n := 44) hR rfl) ?_
      refine gw_pst hk 1 (st' := (33, [some (.ref 41), some (.int x1), some (.int x2), some (.int x3), some (.int (((8 * x1) + (4 * x2)) + x3))], [.int (((8 * x1) + (4 * x2)) + x3), .ref 44], h)) rfl ?_
      obtain ⟨b6, w⟩ := w
      refine gw_ald (hk _ _ rfl) (Or.inl ⟨rfl, rfl⟩) (RL_a (t := 0) (n := 160) hR rfl (by decide)) b6 ?_
      refine gw_pst hk 1 (st' := (38, [some (.ref 41), some (.int x1), some (.int x2), some (.int x3), some (.int (((8 * x1) + (4 * x2)) + x3))], [.int (gsA s 44 (((8 * x1) + (4 * x2)) + x3 : Int32).toNatClampNeg)], h)) rfl ?_
      refine gw_le (L' := [none, none, none, none, none]) (gm_le_n _ (gm_le_n _ (gm_le_n _ (gm_le_n _ (gm_le_n _ gm_le_nil))))) ?_
      exact ok38_38 c d Post _ _ w _ hR
def w39_67 (c : gx) (d : Nat) (Post : Option Value → gs → Prop) (K34 : Int32 → Int32 → Int32 → Int32 → gs → Prop) (x2 : Int32) (x3 : Int32) (x4 : Int32) (x5 : Int32) (s : gs) : Prop :=
  K34 x2 x3 x4 (x5 + (-1)) s
theorem ok39_67 (c : gx) (d : Nat) (Post : Option Value → gs → Prop) (K34 : Int32 → Int32 → Int32 → Int32 → gs → Prop)  (hK34 : ∀ (x2 : Int32) (x3 : Int32) (x4 : Int32) (x5 : Int32) (s : gs), K34 x2 x3 x4 x5 s → tV c d 39 34 [some (.ref 41), none, some (.int x2), some (.int x3), some (.int x4), some (.int x5)] [] s Post) (x2 : Int32) (x3 : Int32) (x4 : Int32) (x5 : Int32) (s : gs) (w : w39_67 c d Post K34 x2 x3 x4 x5 s) : tV c d 39 67 [some (.ref 41), none, some (.int x2), some (.int x3), some (.int x4), some (.int x5)] [] s Post := by
  intro h hR
  have hk : ∀ pc i, gm_find gk_39 pc = some i → gm_code (gt_T c.1 c.2.1 c.2.2.1) 39 pc = some i := fun _ _ z => z
  unfold w39_67 at w
  unfold gV
  refine gw_pst hk 2 (st' := (34, [some (.ref 41), none, some (.int x2), some (.int x3), some (.int x4), some (.int (x5 + (-1)))], [], h)) rfl ?_
  exact hK34 _ _ _ _ _ w _ hR
def wb39_34 (c : gx) (d : Nat) (Post : Option Value → gs → Prop) (K34 : Int32 → Int32 → Int32 → Int32 → gs → Prop) (x2 : Int32) (x3 : Int32) (x4 : Int32) (x5 : Int32) (s : gs) : Prop :=
  ((x5 < 0 → Post (some (.int x3)) s) ∧ (¬ (x5 < 0) → tE c d 38 [.ref 41, .int x5, .int 0, .int x4] s (fun v2 s_2 => ∃ x_2 : Int32, v2 = some (.int x_2) ∧ ((x_2 ≤ 0 → w39_67 c d Post K34 x2 (x3 ||| (1 <<< (x5 &&& 31))) x2 x5 s_2) ∧ (¬ (x_2 ≤ 0) → w39_67 c d Post K34 x2 x3 (x4 + (-1)) x5 s_2)))))
theorem okb39_34 (c : gx) (d : Nat) (Post : Option Value → gs → Prop) (K34 : Int32 → Int32 → Int32 → Int32 → gs → Prop)  (hK34 : ∀ (x2 : Int32) (x3 : Int32) (x4 : Int32) (x5 : Int32) (s : gs), K34 x2 x3 x4 x5 s → tV c d 39 34 [some (.ref 41), none, some (.int x2), some (.int x3), some (.int x4), some (.int x5)] [] s Post) (x2 : Int32) (x3 : Int32) (x4 : Int32) (x5 : Int32) (s : gs) (w : wb39_34 c d Post K34 x2 x3 x4 x5 s) : tV c d 39 34 [some (.ref 41), none, some (.int x2), some (.int x3), some (.int x4), some (.int x5)] [] s Post := by
  intro h hR
  have hk : ∀ pc i, gm_find gk_39 pc = some i → gm_code (gt_T c.1 c.2.1 c.2.2.1) 39 pc = some i := fun _ _ z => z
  unfold wb39_34 at w
  unfold gV
  refine gw_pst hk 1 (st' := (36, [some (.ref 41), none, some (.int x2), some (.int x3), some (.int x4), some (.int x5)], [.int x5], h)) rfl ?_
  refine gw_br (c := x5 < 0) (a := (73, [some (.ref 41), none, some (.int x2), some (.int x3), some (.int x4), some (.int x5)], [], h)) (b := (39, [some (.ref 41), none, some (.int x2), some (.int x3), some (.int x4), some (.int x5)], [], h)) (hk _ _ rfl) rfl ⟨fun z1 => ?_, fun z1 => ?_⟩
  · replace w := w.1 z1
    refine gw_pst hk 1 (st' := (74, [some (.ref 41), none, some (.int x2), some (.int x3), some (.int x4), some (.int x5)], [.int x3], h)) rfl ?_
    exact gw_ret (hk _ _ rfl) rfl ⟨_, hR, w⟩
  · replace w := w.2 z1
    refine gw_pst hk 4 (st' := (45, [some (.ref 41), none, some (.int x2), some (.int x3), some (.int x4), some (.int x5)], [.int x4, .int 0, .int x5, .ref 41], h)) rfl ?_
    obtain ⟨fs2, e2⟩ := RL_o hR (r := 41) (ci := 3) rfl
    refine gw_call (jj := 38) (As := [.ref 41, .int x5, .int 0, .int x4]) (rest := []) (hk _ _ rfl) (fun _ => rfl) rfl rfl (Nat.le_of_ble_eq_true rfl) (gm_rcv_v rfl e2 rfl) ?_
    refine ge_imp (w h hR) (fun v2 h w => ?_)
    obtain ⟨s_2, hR, x_2, rfl, w⟩ := w
    show gw (gt_T c.1 c.2.1 c.2.2.1) c.2.2.2 d 39 (48, [some (.ref 41), none, some (.int x2), some (.int x3), some (.int x4), some (.int x5)], [.int x_2], h) _
    refine gw_br (c := x_2 ≤ 0) (a := (57, [some (.ref 41), none, some (.int x2), some (.int x3), some (.int x4), some (.int x5)], [], h)) (b := (51, [some (.ref 41), none, some (.int x2), some (.int x3), some (.int x4), some (.int x5)], [], h)) (hk _ _ rfl) rfl ⟨fun z3 => ?_, fun z3 => ?_⟩
    · replace w := w.1 z3
      refine gw_pst hk 8 (st' := (67, [some (.ref 41), none, some (.int x2), some (.int (x3 ||| (1 <<< (x5 &&& 31)))), some (.int x2), some (.int x5)], [], h)) rfl ?_
      exact ok39_67 c d Post K34 hK34 _ _ _ _ _ w _ hR
    · replace w := w.2 z3
      refine gw_pst hk 2 (st' := (67, [some (.ref 41), none, some (.int x2), some (.int x3), some (.int (x4 + (-1))), some (.int x5)], [], h)) rfl ?_
      exact ok39_67 c d Post K34 hK34 _ _ _ _ _ w _ hR
def wl39_34 (c : gx) (d : Nat) (Post : Option Value → gs → Prop) : Nat → Int32 → Int32 → Int32 → Int32 → gs → Prop
  | 0 => fun _ _ _ _ _ => False
  | n + 1 => wb39_34 c d Post (wl39_34 c d Post n)
theorem okl39_34 (c : gx) (d : Nat) (Post : Option Value → gs → Prop) : ∀ (n : Nat) (x2 : Int32) (x3 : Int32) (x4 : Int32) (x5 : Int32) (s : gs), wl39_34 c d Post n x2 x3 x4 x5 s → tV c d 39 34 [some (.ref 41), none, some (.int x2), some (.int x3), some (.int x4), some (.int x5)] [] s Post
  | 0, _, _, _, _, _, w => w.elim
  | n + 1, x2, x3, x4, x5, s, w => okb39_34 c d Post (wl39_34 c d Post n) (okl39_34 c d Post n) x2 x3 x4 x5 s w
/-- CommandByTurns$OldWar.leastWay(II)I -/
def wm39 (c : gx) (d : Nat) (Post : Option Value → gs → Prop) (x1 : Int32) (x2 : Int32) (s : gs) : Prop :=
  tE c d 38 [.ref 41, .int (x1 - 1), .int 0, .int x2] s (fun v1 s_1 => ∃ x_1 : Int32, v1 = some (.int x_1) ∧ tE c d 38 [.ref 41, .int (x1 - 1), .int 1, .int x2] s_1 (fun v2 s_2 => ∃ x_2 : Int32, v2 = some (.int x_2) ∧ (((x_1 + x_2) = 0 → Post (some (.int (-1))) s_2) ∧ (¬ ((x_1 + x_2) = 0) → ∃ n, wl39_34 c d Post n x2 0 x2 (x1 - 1) s_2))))
theorem okm39 (c : gx) (d : Nat) (Post : Option Value → gs → Prop) (x1 : Int32) (x2 : Int32) (s : gs) (w : wm39 c d Post x1 x2 s) : tE c (d + 1) 39 [.ref 41, .int x1, .int x2] s Post := by
  intro h hR
  have hk : ∀ pc i, gm_find gk_39 pc = some i → gm_code (gt_T c.1 c.2.1 c.2.2.1) 39 pc = some i := fun _ _ z => z
  unfold wm39 at w
  refine ge_of (by decide) (Nat.le_of_ble_eq_true rfl) ?_
  show gw (gt_T c.1 c.2.1 c.2.2.1) c.2.2.2 d 39 (0, [some (.ref 41), some (.int x1), some (.int x2), none, none, none], [], h) _
  refine gw_pst hk 6 (st' := (6, [some (.ref 41), some (.int x1), some (.int x2), none, none, none], [.int x2, .int 0, .int (x1 - 1), .ref 41], h)) rfl ?_
  obtain ⟨fs1, e1⟩ := RL_o hR (r := 41) (ci := 3) rfl
  refine gw_call (jj := 38) (As := [.ref 41, .int (x1 - 1), .int 0, .int x2]) (rest := []) (hk _ _ rfl) (fun _ => rfl) rfl rfl (Nat.le_of_ble_eq_true rfl) (gm_rcv_v rfl e1 rfl) ?_
  refine ge_imp (w h hR) (fun v1 h w => ?_)
  obtain ⟨s_1, hR, x_1, rfl, w⟩ := w
  show gw (gt_T c.1 c.2.1 c.2.2.1) c.2.2.2 d 39 (9, [some (.ref 41), some (.int x1), some (.int x2), none, none, none], [.int x_1], h) _
  refine gw_pst hk 6 (st' := (15, [some (.ref 41), some (.int x1), some (.int x2), none, none, none], [.int x2, .int 1, .int (x1 - 1), .ref 41, .int x_1], h)) rfl ?_
  obtain ⟨fs2, e2⟩ := RL_o hR (r := 41) (ci := 3) rfl
  refine gw_call (jj := 38) (As := [.ref 41, .int (x1 - 1), .int 1, .int x2]) (rest := [.int x_1]) (hk _ _ rfl) (fun _ => rfl) rfl rfl (Nat.le_of_ble_eq_true rfl) (gm_rcv_v rfl e2 rfl) ?_
  refine ge_imp (w h hR) (fun v2 h w => ?_)
  obtain ⟨s_2, hR, x_2, rfl, w⟩ := w
  show gw (gt_T c.1 c.2.1 c.2.2.1) c.2.2.2 d 39 (18, [some (.ref 41), some (.int x1), some (.int x2), none, none, none], [.int x_2, .int x_1], h) _
  refine gw_pst hk 1 (st' := (19, [some (.ref 41), some (.int x1), some (.int x2), none, none, none], [.int (x_1 + x_2)], h)) rfl ?_
  refine gw_br (c := (x_1 + x_2) = 0) (a := (22, [some (.ref 41), some (.int x1), some (.int x2), none, none, none], [], h)) (b := (24, [some (.ref 41), some (.int x1), some (.int x2), none, none, none], [], h)) (hk _ _ rfl) rfl ⟨fun z3 => ?_, fun z3 => ?_⟩
  · replace w := w.1 z3
    refine gw_pst hk 1 (st' := (23, [some (.ref 41), some (.int x1), some (.int x2), none, none, none], [.int (-1)], h)) rfl ?_
    exact gw_ret (hk _ _ rfl) rfl ⟨_, hR, w⟩
  · replace w := w.2 z3
    refine gw_pst hk 8 (st' := (34, [some (.ref 41), some (.int x1), some (.int x2), some (.int 0), some (.int x2), some (.int (x1 - 1))], [], h)) rfl ?_
    refine gw_le (L' := [some (.ref 41), none, some (.int x2), some (.int 0), some (.int x2), some (.int (x1 - 1))]) (gm_le_k _ (gm_le_n _ (gm_le_k _ (gm_le_k _ (gm_le_k _ (gm_le_k _ gm_le_nil)))))) ?_
    obtain ⟨n, w⟩ := w
    exact okl39_34 c d Post n _ _ _ _ _ w _ hR
