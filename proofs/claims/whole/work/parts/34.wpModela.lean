/-! What must hold for a run to end with Post: by program (wip/whole/gen_wp.py). -/
/-- CommandByTurnsModel.thrown()I -/
def wm153 (c : gx) (d : Nat) (Post : Option Value → gs → Prop)  (s : gs) : Prop :=
  Post (some (.int (gsV s 48 13))) s
theorem okm153 (c : gx) (d : Nat) (Post : Option Value → gs → Prop)  (s : gs) (w : wm153 c d Post  s) : tE c (d + 1) 153 [.ref 48] s Post := by
  intro h hR
  have hk : ∀ pc i, gm_find gk_153 pc = some i → gm_code (gt_T c.1 c.2.1 c.2.2.1) 153 pc = some i := fun _ _ z => z
  unfold wm153 at w
  refine ge_of (by decide) (Nat.le_of_ble_eq_true rfl) ?_
  show gw (gt_T c.1 c.2.1 c.2.2.1) c.2.2.2 d 153 (0, [some (.ref 48)], [], h) _
  refine gw_pst hk 1 (st' := (1, [some (.ref 48)], [.ref 48], h)) rfl ?_
  refine gw_gf (hk _ _ rfl) (RL_fI hR rfl) ?_
  exact gw_ret (hk _ _ rfl) rfl ⟨_, hR, w⟩
def w154_15 (c : gx) (d : Nat) (Post : Option Value → gs → Prop) (xs0 : Int32) (s : gs) : Prop :=
  ((xs0 = 0 ∨ xs0 = 1) ∧ Post (some (.int xs0)) s)
theorem ok154_15 (c : gx) (d : Nat) (Post : Option Value → gs → Prop)  (xs0 : Int32) (s : gs) (w : w154_15 c d Post xs0 s) : tV c d 154 15 [none, none, none] [.int xs0] s Post := by
  intro h hR
  have hk : ∀ pc i, gm_find gk_154 pc = some i → gm_code (gt_T c.1 c.2.1 c.2.2.1) 154 pc = some i := fun _ _ z => z
  unfold w154_15 at w
  unfold gV
  exact gw_retZ (hk _ _ rfl) rfl w.1 ⟨_, hR, w.2⟩
def w154_14 (c : gx) (d : Nat) (Post : Option Value → gs → Prop)  (s : gs) : Prop :=
  w154_15 c d Post 0 s
theorem ok154_14 (c : gx) (d : Nat) (Post : Option Value → gs → Prop)   (s : gs) (w : w154_14 c d Post  s) : tV c d 154 14 [none, none, none] [] s Post := by
  intro h hR
  have hk : ∀ pc i, gm_find gk_154 pc = some i → gm_code (gt_T c.1 c.2.1 c.2.2.1) 154 pc = some i := fun _ _ z => z
  unfold w154_14 at w
  unfold gV
  refine gw_pst hk 1 (st' := (15, [none, none, none], [.int 0], h)) rfl ?_
  exact ok154_15 c d Post _ _ w _ hR
/-- CommandByTurnsModel.in(III)Z -/
def wm154 (c : gx) (d : Nat) (Post : Option Value → gs → Prop) (x0 : Int32) (x1 : Int32) (x2 : Int32) (s : gs) : Prop :=
  ((x0 < x1 → w154_14 c d Post s) ∧ (¬ (x0 < x1) → ((x2 < x0 → w154_14 c d Post s) ∧ (¬ (x2 < x0) → w154_15 c d Post 1 s))))
theorem okm154 (c : gx) (d : Nat) (Post : Option Value → gs → Prop) (x0 : Int32) (x1 : Int32) (x2 : Int32) (s : gs) (w : wm154 c d Post x0 x1 x2 s) : tE c (d + 1) 154 [.int x0, .int x1, .int x2] s Post := by
  intro h hR
  have hk : ∀ pc i, gm_find gk_154 pc = some i → gm_code (gt_T c.1 c.2.1 c.2.2.1) 154 pc = some i := fun _ _ z => z
  unfold wm154 at w
  refine ge_of (by decide) (Nat.le_of_ble_eq_true rfl) ?_
  show gw (gt_T c.1 c.2.1 c.2.2.1) c.2.2.2 d 154 (0, [some (.int x0), some (.int x1), some (.int x2)], [], h) _
  refine gw_pst hk 2 (st' := (2, [some (.int x0), some (.int x1), some (.int x2)], [.int x1, .int x0], h)) rfl ?_
  refine gw_br (c := x0 < x1) (a := (14, [some (.int x0), some (.int x1), some (.int x2)], [], h)) (b := (5, [some (.int x0), some (.int x1), some (.int x2)], [], h)) (hk _ _ rfl) rfl ⟨fun z1 => ?_, fun z1 => ?_⟩
  · replace w := w.1 z1
    refine gw_le (L' := [none, none, none]) (gm_le_n _ (gm_le_n _ (gm_le_n _ gm_le_nil))) ?_
    exact ok154_14 c d Post _ w _ hR
  · replace w := w.2 z1
    refine gw_pst hk 2 (st' := (7, [some (.int x0), some (.int x1), some (.int x2)], [.int x2, .int x0], h)) rfl ?_
    refine gw_br (c := x2 < x0) (a := (14, [some (.int x0), some (.int x1), some (.int x2)], [], h)) (b := (10, [some (.int x0), some (.int x1), some (.int x2)], [], h)) (hk _ _ rfl) rfl ⟨fun z2 => ?_, fun z2 => ?_⟩
    · replace w := w.1 z2
      refine gw_le (L' := [none, none, none]) (gm_le_n _ (gm_le_n _ (gm_le_n _ gm_le_nil))) ?_
      exact ok154_14 c d Post _ w _ hR
    · replace w := w.2 z2
      refine gw_pst hk 2 (st' := (15, [some (.int x0), some (.int x1), some (.int x2)], [.int 1], h)) rfl ?_
      refine gw_le (L' := [none, none, none]) (gm_le_n _ (gm_le_n _ (gm_le_n _ gm_le_nil))) ?_
      exact ok154_15 c d Post _ _ w _ hR
def w155_14 (c : gx) (d : Nat) (Post : Option Value → gs → Prop) (xs0 : Int32) (s : gs) : Prop :=
  ((xs0 = 0 ∨ xs0 = 1) ∧ Post (some (.int xs0)) s)
theorem ok155_14 (c : gx) (d : Nat) (Post : Option Value → gs → Prop)  (xs0 : Int32) (s : gs) (w : w155_14 c d Post xs0 s) : tV c d 155 14 [none, none] [.int xs0] s Post := by
  intro h hR
  have hk : ∀ pc i, gm_find gk_155 pc = some i → gm_code (gt_T c.1 c.2.1 c.2.2.1) 155 pc = some i := fun _ _ z => z
  unfold w155_14 at w
  unfold gV
  exact gw_retZ (hk _ _ rfl) rfl w.1 ⟨_, hR, w.2⟩
/-- CommandByTurnsModel.has(II)Z -/
def wm155 (c : gx) (d : Nat) (Post : Option Value → gs → Prop) (x0 : Int32) (x1 : Int32) (s : gs) : Prop :=
  ((((x0 >>> (x1 &&& 31)) &&& 1) = 1 → w155_14 c d Post 1 s) ∧ (¬ (((x0 >>> (x1 &&& 31)) &&& 1) = 1) → w155_14 c d Post 0 s))
theorem okm155 (c : gx) (d : Nat) (Post : Option Value → gs → Prop) (x0 : Int32) (x1 : Int32) (s : gs) (w : wm155 c d Post x0 x1 s) : tE c (d + 1) 155 [.int x0, .int x1] s Post := by
  intro h hR
  have hk : ∀ pc i, gm_find gk_155 pc = some i → gm_code (gt_T c.1 c.2.1 c.2.2.1) 155 pc = some i := fun _ _ z => z
  unfold wm155 at w
  refine ge_of (by decide) (Nat.le_of_ble_eq_true rfl) ?_
  show gw (gt_T c.1 c.2.1 c.2.2.1) c.2.2.2 d 155 (0, [some (.int x0), some (.int x1)], [], h) _
  refine gw_pst hk 6 (st' := (6, [some (.int x0), some (.int x1)], [.int 1, .int ((x0 >>> (x1 &&& 31)) &&& 1)], h)) rfl ?_
  refine gw_br (c := ((x0 >>> (x1 &&& 31)) &&& 1) = 1) (a := (9, [some (.int x0), some (.int x1)], [], h)) (b := (13, [some (.int x0), some (.int x1)], [], h)) (hk _ _ rfl) rfl ⟨fun z1 => ?_, fun z1 => ?_⟩
  · replace w := w.1 z1
    refine gw_pst hk 2 (st' := (14, [some (.int x0), some (.int x1)], [.int 1], h)) rfl ?_
    refine gw_le (L' := [none, none]) (gm_le_n _ (gm_le_n _ gm_le_nil)) ?_
    exact ok155_14 c d Post _ _ w _ hR
  · replace w := w.2 z1
    refine gw_pst hk 1 (st' := (14, [some (.int x0), some (.int x1)], [.int 0], h)) rfl ?_
    refine gw_le (L' := [none, none]) (gm_le_n _ (gm_le_n _ gm_le_nil)) ?_
    exact ok155_14 c d Post _ _ w _ hR
/-- CommandByTurnsModel.lost()I -/
def wm156 (c : gx) (d : Nat) (Post : Option Value → gs → Prop)  (s : gs) : Prop :=
  ∀ s_1 : gs, s_1 = gs_V s 48 13 1 → Post (some (.int 0)) s_1
theorem okm156 (c : gx) (d : Nat) (Post : Option Value → gs → Prop)  (s : gs) (w : wm156 c d Post  s) : tE c (d + 1) 156 [.ref 48] s Post := by
  intro h hR
  have hk : ∀ pc i, gm_find gk_156 pc = some i → gm_code (gt_T c.1 c.2.1 c.2.2.1) 156 pc = some i := fun _ _ z => z
  unfold wm156 at w
  refine ge_of (by decide) (Nat.le_of_ble_eq_true rfl) ?_
  show gw (gt_T c.1 c.2.1 c.2.2.1) c.2.2.2 d 156 (0, [some (.ref 48)], [], h) _
  refine gw_pst hk 2 (st' := (2, [some (.ref 48)], [.int 1, .ref 48], h)) rfl ?_
  obtain ⟨fs1, e1⟩ := RL_o hR (r := 48) (ci := 10) rfl
  obtain ⟨l1, hR1⟩ := RL_pI (k := 13) (x := 1) hR rfl e1
  refine gw_pf (hk _ _ rfl) e1 l1 rfl ?_
  generalize gm_put h _ _ = h at hR1 ⊢
  obtain ⟨s_1, es1⟩ : ∃ z, z = gs_V s 48 13 1 := ⟨_, rfl⟩
  rw [← es1] at hR1
  replace w := w s_1 es1
  replace hR := hR1
  refine gw_pst hk 1 (st' := (6, [some (.ref 48)], [.int 0], h)) rfl ?_
  exact gw_ret (hk _ _ rfl) rfl ⟨_, hR, w⟩
/-- CommandByTurnsModel.tell(J)V -/
def wm157 (c : gx) (d : Nat) (Post : Option Value → gs → Prop) (x1 : Int64) (s : gs) : Prop :=
  vp_in (gsV s 48 12) 32 ∧ ∀ s_3 : gs, s_3 = gs_R s 58 (gsV s 48 12 : Int32).toNatClampNeg x1 → ∀ s_5 : gs, s_5 = gs_V s_3 48 12 ((gsV s_3 48 12) + 1) → Post none s_5
theorem okm157 (c : gx) (d : Nat) (Post : Option Value → gs → Prop) (x1 : Int64) (s : gs) (w : wm157 c d Post x1 s) : tE c (d + 1) 157 [.ref 48, .long x1] s Post := by
  intro h hR
  have hk : ∀ pc i, gm_find gk_157 pc = some i → gm_code (gt_T c.1 c.2.1 c.2.2.1) 157 pc = some i := fun _ _ z => z
  unfold wm157 at w
  refine ge_of (by decide) (Nat.le_of_ble_eq_true rfl) ?_
  show gw (gt_T c.1 c.2.1 c.2.2.1) c.2.2.2 d 157 (0, [some (.ref 48), some (.long x1), none], [], h) _
  refine gw_pst hk 1 (st' := (1, [some (.ref 48), some (.long x1), none], [.ref 48], h)) rfl ?_
  refine gw_gf (hk _ _ rfl) (RL_fR (n := 58) hR rfl) ?_
  refine gw_pst hk 1 (st' := (5, [some (.ref 48), some (.long x1), none], [.ref 48, .ref 58], h)) rfl ?_
  refine gw_gf (hk _ _ rfl) (RL_fI hR rfl) ?_
  refine gw_pst hk 1 (st' := (9, [some (.ref 48), some (.long x1), none], [.long x1, .int (gsV s 48 12), .ref 58], h)) rfl ?_
  obtain ⟨b3, w⟩ := w
  have hR3 := RL_pR (a := 58) (n := 32) (k := (gsV s 48 12 : Int32).toNatClampNeg) (x := x1) hR rfl
  refine gw_last (hk _ _ rfl) (RL_aJ (n := 32) hR rfl) b3 ?_
  generalize gm_put h _ _ = h at hR3 ⊢
  obtain ⟨s_3, es3⟩ : ∃ z, z = gs_R s 58 (gsV s 48 12 : Int32).toNatClampNeg x1 := ⟨_, rfl⟩
  rw [← es3] at hR3
  replace w := w s_3 es3
  replace hR := hR3
  refine gw_pst hk 2 (st' := (12, [some (.ref 48), some (.long x1), none], [.ref 48, .ref 48], h)) rfl ?_
  refine gw_gf (hk _ _ rfl) (RL_fI hR rfl) ?_
  refine gw_pst hk 2 (st' := (17, [some (.ref 48), some (.long x1), none], [.int ((gsV s_3 48 12) + 1), .ref 48], h)) rfl ?_
  obtain ⟨fs5, e5⟩ := RL_o hR (r := 48) (ci := 10) rfl
  obtain ⟨l5, hR5⟩ := RL_pI (k := 12) (x := (gsV s_3 48 12) + 1) hR rfl e5
  refine gw_pf (hk _ _ rfl) e5 l5 rfl ?_
  generalize gm_put h _ _ = h at hR5 ⊢
  obtain ⟨s_5, es5⟩ : ∃ z, z = gs_V s_3 48 12 ((gsV s_3 48 12) + 1) := ⟨_, rfl⟩
  rw [← es5] at hR5
  replace w := w s_5 es5
  replace hR := hR5
  exact gw_ret (hk _ _ rfl) rfl ⟨_, hR, w⟩
/-- CommandByTurnsModel.isField(I)Z -/
def wm158 (c : gx) (d : Nat) (Post : Option Value → gs → Prop) (x1 : Int32) (s : gs) : Prop :=
  tE c d 154 [.int x1, .int 0, .int ((gsV s 48 1) - 1)] s (fun v2 s_2 => ∃ x_2 : Int32, v2 = some (.int x_2) ∧ ((x_2 = 0 ∨ x_2 = 1) ∧ Post (some (.int x_2)) s_2))
theorem okm158 (c : gx) (d : Nat) (Post : Option Value → gs → Prop) (x1 : Int32) (s : gs) (w : wm158 c d Post x1 s) : tE c (d + 1) 158 [.ref 48, .int x1] s Post := by
  intro h hR
  have hk : ∀ pc i, gm_find gk_158 pc = some i → gm_code (gt_T c.1 c.2.1 c.2.2.1) 158 pc = some i := fun _ _ z => z
  unfold wm158 at w
  refine ge_of (by decide) (Nat.le_of_ble_eq_true rfl) ?_
  show gw (gt_T c.1 c.2.1 c.2.2.1) c.2.2.2 d 158 (0, [some (.ref 48), some (.int x1)], [], h) _
  refine gw_pst hk 3 (st' := (3, [some (.ref 48), some (.int x1)], [.ref 48, .int 0, .int x1], h)) rfl ?_
  refine gw_gf (hk _ _ rfl) (RL_fI hR rfl) ?_
  refine gw_pst hk 2 (st' := (8, [some (.ref 48), some (.int x1)], [.int ((gsV s 48 1) - 1), .int 0, .int x1], h)) rfl ?_
  refine gw_call (jj := 154) (As := [.int x1, .int 0, .int ((gsV s 48 1) - 1)]) (rest := []) (hk _ _ rfl) (fun _ => rfl) rfl rfl (Nat.le_of_ble_eq_true rfl) rfl ?_
  refine ge_imp (w h hR) (fun v2 h w => ?_)
  obtain ⟨s_2, hR, x_2, rfl, w⟩ := w
  show gw (gt_T c.1 c.2.1 c.2.2.1) c.2.2.2 d 158 (11, [some (.ref 48), some (.int x1)], [.int x_2], h) _
  exact gw_retZ (hk _ _ rfl) rfl w.1 ⟨_, hR, w.2⟩
/-- CommandByTurnsModel.isConsul(I)Z -/
def wm159 (c : gx) (d : Nat) (Post : Option Value → gs → Prop) (x0 : Int32) (s : gs) : Prop :=
  tE c d 154 [.int x0, .int 0, .int 1] s (fun v1 s_1 => ∃ x_1 : Int32, v1 = some (.int x_1) ∧ ((x_1 = 0 ∨ x_1 = 1) ∧ Post (some (.int x_1)) s_1))
theorem okm159 (c : gx) (d : Nat) (Post : Option Value → gs → Prop) (x0 : Int32) (s : gs) (w : wm159 c d Post x0 s) : tE c (d + 1) 159 [.int x0] s Post := by
  intro h hR
  have hk : ∀ pc i, gm_find gk_159 pc = some i → gm_code (gt_T c.1 c.2.1 c.2.2.1) 159 pc = some i := fun _ _ z => z
  unfold wm159 at w
  refine ge_of (by decide) (Nat.le_of_ble_eq_true rfl) ?_
  show gw (gt_T c.1 c.2.1 c.2.2.1) c.2.2.2 d 159 (0, [some (.int x0)], [], h) _
  refine gw_pst hk 3 (st' := (3, [some (.int x0)], [.int 1, .int 0, .int x0], h)) rfl ?_
  refine gw_call (jj := 154) (As := [.int x0, .int 0, .int 1]) (rest := []) (hk _ _ rfl) (fun _ => rfl) rfl rfl (Nat.le_of_ble_eq_true rfl) rfl ?_
  refine ge_imp (w h hR) (fun v1 h w => ?_)
  obtain ⟨s_1, hR, x_1, rfl, w⟩ := w
  show gw (gt_T c.1 c.2.1 c.2.2.1) c.2.2.2 d 159 (6, [some (.int x0)], [.int x_1], h) _
  exact gw_retZ (hk _ _ rfl) rfl w.1 ⟨_, hR, w.2⟩
def wb160_20 (c : gx) (d : Nat) (Post : Option Value → gs → Prop) (K20 : Int32 → Int32 → gs → Prop) (x1 : Int32) (x2 : Int32) (s : gs) : Prop :=
  ((x2 < 0 → Post (some (.int (gsV s 48 10))) s) ∧ (¬ (x2 < 0) → ∀ s_5 : gs, s_5 = gs_V s 48 10 ((gsV s 48 10) + 1) → vp_in (gsV s 48 10) 80 ∧ ∀ s_6 : gs, s_6 = gs_A s_5 57 (gsV s 48 10 : Int32).toNatClampNeg (vp_nar .byte ((x1 >>> ((8 * x2) &&& 31)).toInt8.toInt32)) → K20 x1 (x2 + (-1)) s_6))
theorem okb160_20 (c : gx) (d : Nat) (Post : Option Value → gs → Prop) (K20 : Int32 → Int32 → gs → Prop)  (hK20 : ∀ (x1 : Int32) (x2 : Int32) (s : gs), K20 x1 x2 s → tV c d 160 20 [some (.ref 48), some (.int x1), some (.int x2)] [] s Post) (x1 : Int32) (x2 : Int32) (s : gs) (w : wb160_20 c d Post K20 x1 x2 s) : tV c d 160 20 [some (.ref 48), some (.int x1), some (.int x2)] [] s Post := by
  intro h hR
  have hk : ∀ pc i, gm_find gk_160 pc = some i → gm_code (gt_T c.1 c.2.1 c.2.2.1) 160 pc = some i := fun _ _ z => z
  unfold wb160_20 at w
  unfold gV
  refine gw_pst hk 1 (st' := (21, [some (.ref 48), some (.int x1), some (.int x2)], [.int x2], h)) rfl ?_
  refine gw_br (c := x2 < 0) (a := (53, [some (.ref 48), some (.int x1), some (.int x2)], [], h)) (b := (24, [some (.ref 48), some (.int x1), some (.int x2)], [], h)) (hk _ _ rfl) rfl ⟨fun z1 => ?_, fun z1 => ?_⟩
  · replace w := w.1 z1
    refine gw_pst hk 1 (st' := (54, [some (.ref 48), some (.int x1), some (.int x2)], [.ref 48], h)) rfl ?_
    refine gw_gf (hk _ _ rfl) (RL_fI hR rfl) ?_
    exact gw_ret (hk _ _ rfl) rfl ⟨_, hR, w⟩
  · replace w := w.2 z1
    refine gw_pst hk 1 (st' := (25, [some (.ref 48), some (.int x1), some (.int x2)], [.ref 48], h)) rfl ?_
    refine gw_gf (hk _ _ rfl) (RL_fR (n := 57) hR rfl) ?_
    refine gw_pst hk 2 (st' := (30, [some (.ref 48), some (.int x1), some (.int x2)], [.ref 48, .ref 48, .ref 57], h)) rfl ?_
    refine gw_gf (hk _ _ rfl) (RL_fI hR rfl) ?_
    refine gw_pst hk 3 (st' := (36, [some (.ref 48), some (.int x1), some (.int x2)], [.int ((gsV s 48 10) + 1), .ref 48, .int (gsV s 48 10), .ref 57], h)) rfl ?_
    obtain ⟨fs5, e5⟩ := RL_o hR (r := 48) (ci := 10) rfl
    obtain ⟨l5, hR5⟩ := RL_pI (k := 10) (x := (gsV s 48 10) + 1) hR rfl e5
    refine gw_pf (hk _ _ rfl) e5 l5 rfl ?_
    generalize gm_put h _ _ = h at hR5 ⊢
    obtain ⟨s_5, es5⟩ : ∃ z, z = gs_V s 48 10 ((gsV s 48 10) + 1) := ⟨_, rfl⟩
    rw [← es5] at hR5
    replace w := w s_5 es5
    replace hR := hR5
    refine gw_pst hk 6 (st' := (46, [some (.ref 48), some (.int x1), some (.int x2)], [.int ((x1 >>> ((8 * x2) &&& 31)).toInt8.toInt32), .int (gsV s 48 10), .ref 57], h)) rfl ?_
    obtain ⟨b6, w⟩ := w
    have hR6 := RL_pA (a := 57) (t := 3) (n := 80) (k := (gsV s 48 10 : Int32).toNatClampNeg) (x := (vp_nar .byte ((x1 >>> ((8 * x2) &&& 31)).toInt8.toInt32))) hR rfl (by decide)
    refine gw_ast (hk _ _ rfl) (Or.inr (Or.inr (Or.inl ⟨rfl, rfl, rfl, rfl⟩))) (RL_a (t := 3) (n := 80) hR rfl (by decide)) b6 ?_
    generalize gm_put h _ _ = h at hR6 ⊢
    obtain ⟨s_6, es6⟩ : ∃ z, z = gs_A s_5 57 (gsV s 48 10 : Int32).toNatClampNeg (vp_nar .byte ((x1 >>> ((8 * x2) &&& 31)).toInt8.toInt32)) := ⟨_, rfl⟩
    rw [← es6] at hR6
    replace w := w s_6 es6
    replace hR := hR6
    refine gw_pst hk 2 (st' := (20, [some (.ref 48), some (.int x1), some (.int (x2 + (-1)))], [], h)) rfl ?_
    exact hK20 _ _ _ w _ hR
def wl160_20 (c : gx) (d : Nat) (Post : Option Value → gs → Prop) : Nat → Int32 → Int32 → gs → Prop
  | 0 => fun _ _ _ => False
  | n + 1 => wb160_20 c d Post (wl160_20 c d Post n)
theorem okl160_20 (c : gx) (d : Nat) (Post : Option Value → gs → Prop) : ∀ (n : Nat) (x1 : Int32) (x2 : Int32) (s : gs), wl160_20 c d Post n x1 x2 s → tV c d 160 20 [some (.ref 48), some (.int x1), some (.int x2)] [] s Post
  | 0, _, _, _, w => w.elim
  | n + 1, x1, x2, s, w => okb160_20 c d Post (wl160_20 c d Post n) (okl160_20 c d Post n) x1 x2 s w
/-- CommandByTurnsModel.sign(I)I -/
def wm160 (c : gx) (d : Nat) (Post : Option Value → gs → Prop) (x1 : Int32) (s : gs) : Prop :=
  ∀ s_1 : gs, s_1 = gs_V s 48 13 0 → ((((gsV s_1 48 10) + 4) ≤ 80 → ∃ n, wl160_20 c d Post n x1 3 s_1) ∧ (¬ (((gsV s_1 48 10) + 4) ≤ 80) → Post (some (.int (-1))) s_1))
theorem okm160 (c : gx) (d : Nat) (Post : Option Value → gs → Prop) (x1 : Int32) (s : gs) (w : wm160 c d Post x1 s) : tE c (d + 1) 160 [.ref 48, .int x1] s Post := by
  intro h hR
  have hk : ∀ pc i, gm_find gk_160 pc = some i → gm_code (gt_T c.1 c.2.1 c.2.2.1) 160 pc = some i := fun _ _ z => z
  unfold wm160 at w
  refine ge_of (by decide) (Nat.le_of_ble_eq_true rfl) ?_
  show gw (gt_T c.1 c.2.1 c.2.2.1) c.2.2.2 d 160 (0, [some (.ref 48), some (.int x1), none], [], h) _
  refine gw_pst hk 2 (st' := (2, [some (.ref 48), some (.int x1), none], [.int 0, .ref 48], h)) rfl ?_
  obtain ⟨fs1, e1⟩ := RL_o hR (r := 48) (ci := 10) rfl
  obtain ⟨l1, hR1⟩ := RL_pI (k := 13) (x := 0) hR rfl e1
  refine gw_pf (hk _ _ rfl) e1 l1 rfl ?_
  generalize gm_put h _ _ = h at hR1 ⊢
  obtain ⟨s_1, es1⟩ : ∃ z, z = gs_V s 48 13 0 := ⟨_, rfl⟩
  rw [← es1] at hR1
  replace w := w s_1 es1
  replace hR := hR1
  refine gw_pst hk 1 (st' := (6, [some (.ref 48), some (.int x1), none], [.ref 48], h)) rfl ?_
  refine gw_gf (hk _ _ rfl) (RL_fI hR rfl) ?_
  refine gw_pst hk 3 (st' := (13, [some (.ref 48), some (.int x1), none], [.int 80, .int ((gsV s_1 48 10) + 4)], h)) rfl ?_
  refine gw_br (c := ((gsV s_1 48 10) + 4) ≤ 80) (a := (18, [some (.ref 48), some (.int x1), none], [], h)) (b := (16, [some (.ref 48), some (.int x1), none], [], h)) (hk _ _ rfl) rfl ⟨fun z3 => ?_, fun z3 => ?_⟩
  · replace w := w.1 z3
    refine gw_pst hk 2 (st' := (20, [some (.ref 48), some (.int x1), some (.int 3)], [], h)) rfl ?_
    obtain ⟨n, w⟩ := w
    exact okl160_20 c d Post n _ _ _ w _ hR
  · replace w := w.2 z3
    refine gw_pst hk 1 (st' := (17, [some (.ref 48), some (.int x1), none], [.int (-1)], h)) rfl ?_
    exact gw_ret (hk _ _ rfl) rfl ⟨_, hR, w⟩
/-- CommandByTurnsModel.end(I)Z -/
def wm161 (c : gx) (d : Nat) (Post : Option Value → gs → Prop) (x1 : Int32) (s : gs) : Prop :=
  ∀ s_1 : gs, s_1 = gs_V s 48 13 0 → tE c d 154 [.int x1, .int 0, .int (gsV s_1 48 10)] s_1 (fun v3 s_3 => ∃ x_3 : Int32, v3 = some (.int x_3) ∧ ((x_3 = 0 → Post (some (.int 0)) s_3) ∧ (¬ (x_3 = 0) → ∀ s_5 : gs, s_5 = gs_V s_3 48 10 x1 → Post (some (.int 1)) s_5)))
theorem okm161 (c : gx) (d : Nat) (Post : Option Value → gs → Prop) (x1 : Int32) (s : gs) (w : wm161 c d Post x1 s) : tE c (d + 1) 161 [.ref 48, .int x1] s Post := by
  intro h hR
  have hk : ∀ pc i, gm_find gk_161 pc = some i → gm_code (gt_T c.1 c.2.1 c.2.2.1) 161 pc = some i := fun _ _ z => z
  unfold wm161 at w
  refine ge_of (by decide) (Nat.le_of_ble_eq_true rfl) ?_
  show gw (gt_T c.1 c.2.1 c.2.2.1) c.2.2.2 d 161 (0, [some (.ref 48), some (.int x1)], [], h) _
  refine gw_pst hk 2 (st' := (2, [some (.ref 48), some (.int x1)], [.int 0, .ref 48], h)) rfl ?_
  obtain ⟨fs1, e1⟩ := RL_o hR (r := 48) (ci := 10) rfl
  obtain ⟨l1, hR1⟩ := RL_pI (k := 13) (x := 0) hR rfl e1
  refine gw_pf (hk _ _ rfl) e1 l1 rfl ?_
  generalize gm_put h _ _ = h at hR1 ⊢
  obtain ⟨s_1, es1⟩ : ∃ z, z = gs_V s 48 13 0 := ⟨_, rfl⟩
  rw [← es1] at hR1
  replace w := w s_1 es1
  replace hR := hR1
  refine gw_pst hk 3 (st' := (8, [some (.ref 48), some (.int x1)], [.ref 48, .int 0, .int x1], h)) rfl ?_
  refine gw_gf (hk _ _ rfl) (RL_fI hR rfl) ?_
  refine gw_call (jj := 154) (As := [.int x1, .int 0, .int (gsV s_1 48 10)]) (rest := []) (hk _ _ rfl) (fun _ => rfl) rfl rfl (Nat.le_of_ble_eq_true rfl) rfl ?_
  refine ge_imp (w h hR) (fun v3 h w => ?_)
  obtain ⟨s_3, hR, x_3, rfl, w⟩ := w
  show gw (gt_T c.1 c.2.1 c.2.2.1) c.2.2.2 d 161 (14, [some (.ref 48), some (.int x1)], [.int x_3], h) _
  refine gw_br (c := x_3 = 0) (a := (17, [some (.ref 48), some (.int x1)], [], h)) (b := (19, [some (.ref 48), some (.int x1)], [], h)) (hk _ _ rfl) rfl ⟨fun z4 => ?_, fun z4 => ?_⟩
  · replace w := w.1 z4
    refine gw_pst hk 1 (st' := (18, [some (.ref 48), some (.int x1)], [.int 0], h)) rfl ?_
    exact gw_ret (hk _ _ rfl) rfl ⟨_, hR, w⟩
  · replace w := w.2 z4
    refine gw_pst hk 2 (st' := (21, [some (.ref 48), some (.int x1)], [.int x1, .ref 48], h)) rfl ?_
    obtain ⟨fs5, e5⟩ := RL_o hR (r := 48) (ci := 10) rfl
    obtain ⟨l5, hR5⟩ := RL_pI (k := 10) (x := x1) hR rfl e5
    refine gw_pf (hk _ _ rfl) e5 l5 rfl ?_
    generalize gm_put h _ _ = h at hR5 ⊢
    obtain ⟨s_5, es5⟩ : ∃ z, z = gs_V s_3 48 10 x1 := ⟨_, rfl⟩
    rw [← es5] at hR5
    replace w := w s_5 es5
    replace hR := hR5
    refine gw_pst hk 1 (st' := (25, [some (.ref 48), some (.int x1)], [.int 1], h)) rfl ?_
    exact gw_ret (hk _ _ rfl) rfl ⟨_, hR, w⟩
/-- CommandByTurnsModel.begin([BII)V -/
def wm162 (c : gx) (d : Nat) (Post : Option Value → gs → Prop) (r1 : Nat) (x2 : Int32) (x3 : Int32) (s : gs) : Prop :=
  ¬ r1 = 0 ∧ ∀ s_1 : gs, s_1 = gs_P s r1 → ∀ s_2 : gs, s_2 = gs_V s_1 48 15 x2 → ∀ s_3 : gs, s_3 = gs_V s_2 48 16 x3 → ∀ s_4 : gs, s_4 = gs_V s_3 48 17 0 → ∀ s_5 : gs, s_5 = gs_V s_4 48 18 (-1) → Post none s_5
theorem okm162 (c : gx) (d : Nat) (Post : Option Value → gs → Prop) (r1 : Nat) (x2 : Int32) (x3 : Int32) (s : gs) (w : wm162 c d Post r1 x2 x3 s) : tE c (d + 1) 162 [.ref 48, .ref r1, .int x2, .int x3] s Post := by
  intro h hR
  have hk : ∀ pc i, gm_find gk_162 pc = some i → gm_code (gt_T c.1 c.2.1 c.2.2.1) 162 pc = some i := fun _ _ z => z
  unfold wm162 at w
  refine ge_of (by decide) (Nat.le_of_ble_eq_true rfl) ?_
  show gw (gt_T c.1 c.2.1 c.2.2.1) c.2.2.2 d 162 (0, [some (.ref 48), some (.ref r1), some (.int x2), some (.int x3)], [], h) _
  refine gw_pst hk 2 (st' := (2, [some (.ref 48), some (.ref r1), some (.int x2), some (.int x3)], [.ref r1, .ref 48], h)) rfl ?_
  obtain ⟨fs1, e1⟩ := RL_o hR (r := 48) (ci := 10) rfl
  obtain ⟨y1, w⟩ := w
  obtain ⟨l1, hR1⟩ := RL_pP hR y1 e1
  refine gw_pf (hk _ _ rfl) e1 l1 rfl ?_
  generalize gm_put h _ _ = h at hR1 ⊢
  obtain ⟨s_1, es1⟩ : ∃ z, z = gs_P s r1 := ⟨_, rfl⟩
  rw [← es1] at hR1
  replace w := w s_1 es1
  replace hR := hR1
  refine gw_pst hk 2 (st' := (7, [some (.ref 48), some (.ref r1), some (.int x2), some (.int x3)], [.int x2, .ref 48], h)) rfl ?_
  obtain ⟨fs2, e2⟩ := RL_o hR (r := 48) (ci := 10) rfl
  obtain ⟨l2, hR2⟩ := RL_pI (k := 15) (x := x2) hR rfl e2
  refine gw_pf (hk _ _ rfl) e2 l2 rfl ?_
  generalize gm_put h _ _ = h at hR2 ⊢
  obtain ⟨s_2, es2⟩ : ∃ z, z = gs_V s_1 48 15 x2 := ⟨_, rfl⟩
  rw [← es2] at hR2
  replace w := w s_2 es2
  replace hR := hR2
  refine gw_pst hk 2 (st' := (12, [some (.ref 48), some (.ref r1), some (.int x2), some (.int x3)], [.int x3, .ref 48], h)) rfl ?_
  obtain ⟨fs3, e3⟩ := RL_o hR (r := 48) (ci := 10) rfl
  obtain ⟨l3, hR3⟩ := RL_pI (k := 16) (x := x3) hR rfl e3
  refine gw_pf (hk _ _ rfl) e3 l3 rfl ?_
  generalize gm_put h _ _ = h at hR3 ⊢
  obtain ⟨s_3, es3⟩ : ∃ z, z = gs_V s_2 48 16 x3 := ⟨_, rfl⟩
  rw [← es3] at hR3
  replace w := w s_3 es3
  replace hR := hR3
  refine gw_pst hk 2 (st' := (17, [some (.ref 48), some (.ref r1), some (.int x2), some (.int x3)], [.int 0, .ref 48], h)) rfl ?_
  obtain ⟨fs4, e4⟩ := RL_o hR (r := 48) (ci := 10) rfl
  obtain ⟨l4, hR4⟩ := RL_pI (k := 17) (x := 0) hR rfl e4
  refine gw_pf (hk _ _ rfl) e4 l4 rfl ?_
  generalize gm_put h _ _ = h at hR4 ⊢
  obtain ⟨s_4, es4⟩ : ∃ z, z = gs_V s_3 48 17 0 := ⟨_, rfl⟩
  rw [← es4] at hR4
  replace w := w s_4 es4
  replace hR := hR4
  refine gw_pst hk 2 (st' := (22, [some (.ref 48), some (.ref r1), some (.int x2), some (.int x3)], [.int (-1), .ref 48], h)) rfl ?_
  obtain ⟨fs5, e5⟩ := RL_o hR (r := 48) (ci := 10) rfl
  obtain ⟨l5, hR5⟩ := RL_pI (k := 18) (x := (-1)) hR rfl e5
  refine gw_pf (hk _ _ rfl) e5 l5 rfl ?_
  generalize gm_put h _ _ = h at hR5 ⊢
  obtain ⟨s_5, es5⟩ : ∃ z, z = gs_V s_4 48 18 (-1) := ⟨_, rfl⟩
  rw [← es5] at hR5
  replace w := w s_5 es5
  replace hR := hR5
  exact gw_ret (hk _ _ rfl) rfl ⟨_, hR, w⟩
/-- CommandByTurnsModel.beginText(I)V -/
def wm163 (c : gx) (d : Nat) (Post : Option Value → gs → Prop) (x1 : Int32) (s : gs) : Prop :=
  tE c d 162 [.ref 48, .ref 57, .int (gsV s 48 10), .int x1] s (fun v3 s_3 => v3 = none ∧ ∀ s_4 : gs, s_4 = gs_V s_3 48 10 0 → Post none s_4)
theorem okm163 (c : gx) (d : Nat) (Post : Option Value → gs → Prop) (x1 : Int32) (s : gs) (w : wm163 c d Post x1 s) : tE c (d + 1) 163 [.ref 48, .int x1] s Post := by
  intro h hR
  have hk : ∀ pc i, gm_find gk_163 pc = some i → gm_code (gt_T c.1 c.2.1 c.2.2.1) 163 pc = some i := fun _ _ z => z
  unfold wm163 at w
  refine ge_of (by decide) (Nat.le_of_ble_eq_true rfl) ?_
  show gw (gt_T c.1 c.2.1 c.2.2.1) c.2.2.2 d 163 (0, [some (.ref 48), some (.int x1)], [], h) _
  refine gw_pst hk 2 (st' := (2, [some (.ref 48), some (.int x1)], [.ref 48, .ref 48], h)) rfl ?_
  refine gw_gf (hk _ _ rfl) (RL_fR (n := 57) hR rfl) ?_
  refine gw_pst hk 1 (st' := (6, [some (.ref 48), some (.int x1)], [.ref 48, .ref 57, .ref 48], h)) rfl ?_
  refine gw_gf (hk _ _ rfl) (RL_fI hR rfl) ?_
  refine gw_pst hk 1 (st' := (10, [some (.ref 48), some (.int x1)], [.int x1, .int (gsV s 48 10), .ref 57, .ref 48], h)) rfl ?_
  obtain ⟨fs3, e3⟩ := RL_o hR (r := 48) (ci := 10) rfl
  refine gw_call (jj := 162) (As := [.ref 48, .ref 57, .int (gsV s 48 10), .int x1]) (rest := []) (hk _ _ rfl) (fun _ => rfl) rfl rfl (Nat.le_of_ble_eq_true rfl) (gm_rcv_v rfl e3 rfl) ?_
  refine ge_imp (w h hR) (fun v3 h w => ?_)
  obtain ⟨s_3, hR, rfl, w⟩ := w
  show gw (gt_T c.1 c.2.1 c.2.2.1) c.2.2.2 d 163 (13, [some (.ref 48), some (.int x1)], [], h) _
  refine gw_pst hk 2 (st' := (15, [some (.ref 48), some (.int x1)], [.int 0, .ref 48], h)) rfl ?_
  obtain ⟨fs4, e4⟩ := RL_o hR (r := 48) (ci := 10) rfl
  obtain ⟨l4, hR4⟩ := RL_pI (k := 10) (x := 0) hR rfl e4
  refine gw_pf (hk _ _ rfl) e4 l4 rfl ?_
  generalize gm_put h _ _ = h at hR4 ⊢
  obtain ⟨s_4, es4⟩ : ∃ z, z = gs_V s_3 48 10 0 := ⟨_, rfl⟩
  rw [← es4] at hR4
  replace w := w s_4 es4
  replace hR := hR4
  exact gw_ret (hk _ _ rfl) rfl ⟨_, hR, w⟩
def w164_39 (c : gx) (d : Nat) (Post : Option Value → gs → Prop) (xs0 : Int32) (s : gs) : Prop :=
  Post (some (.int xs0)) s
theorem ok164_39 (c : gx) (d : Nat) (Post : Option Value → gs → Prop)  (xs0 : Int32) (s : gs) (w : w164_39 c d Post xs0 s) : tV c d 164 39 [none] [.int xs0] s Post := by
  intro h hR
  have hk : ∀ pc i, gm_find gk_164 pc = some i → gm_code (gt_T c.1 c.2.1 c.2.2.1) 164 pc = some i := fun _ _ z => z
  unfold w164_39 at w
  unfold gV
  exact gw_ret (hk _ _ rfl) rfl ⟨_, hR, w⟩
def w164_38 (c : gx) (d : Nat) (Post : Option Value → gs → Prop)  (s : gs) : Prop :=
  w164_39 c d Post (-1) s
theorem ok164_38 (c : gx) (d : Nat) (Post : Option Value → gs → Prop)   (s : gs) (w : w164_38 c d Post  s) : tV c d 164 38 [none] [] s Post := by
  intro h hR
  have hk : ∀ pc i, gm_find gk_164 pc = some i → gm_code (gt_T c.1 c.2.1 c.2.2.1) 164 pc = some i := fun _ _ z => z
  unfold w164_38 at w
  unfold gV
  refine gw_pst hk 1 (st' := (39, [none], [.int (-1)], h)) rfl ?_
  exact ok164_39 c d Post _ _ w _ hR
/-- CommandByTurnsModel.here()I -/
def wm164 (c : gx) (d : Nat) (Post : Option Value → gs → Prop)  (s : gs) : Prop :=
  (((gsV s 48 15) ≤ (gsV s 48 17) → w164_38 c d Post s) ∧ (¬ ((gsV s 48 15) ≤ (gsV s 48 17)) → (((gsV s 48 16) ≤ (gsV s 48 17) → w164_38 c d Post s) ∧ (¬ ((gsV s 48 16) ≤ (gsV s 48 17)) → ¬ gsP s = 0 ∧ ∃ n9, gs_isA (gsP s) 3 n9 = true ∧ vp_in (gsV s 48 17) n9 ∧ w164_39 c d Post ((gsA s (gsP s) (gsV s 48 17 : Int32).toNatClampNeg) &&& 255) s))))
theorem okm164 (c : gx) (d : Nat) (Post : Option Value → gs → Prop)  (s : gs) (w : wm164 c d Post  s) : tE c (d + 1) 164 [.ref 48] s Post := by
  intro h hR
  have hk : ∀ pc i, gm_find gk_164 pc = some i → gm_code (gt_T c.1 c.2.1 c.2.2.1) 164 pc = some i := fun _ _ z => z
  unfold wm164 at w
  refine ge_of (by decide) (Nat.le_of_ble_eq_true rfl) ?_
  show gw (gt_T c.1 c.2.1 c.2.2.1) c.2.2.2 d 164 (0, [some (.ref 48)], [], h) _
  refine gw_pst hk 1 (st' := (1, [some (.ref 48)], [.ref 48], h)) rfl ?_
  refine gw_gf (hk _ _ rfl) (RL_fI hR rfl) ?_
  refine gw_pst hk 1 (st' := (5, [some (.ref 48)], [.ref 48, .int (gsV s 48 17)], h)) rfl ?_
  refine gw_gf (hk _ _ rfl) (RL_fI hR rfl) ?_
  refine gw_br (c := (gsV s 48 15) ≤ (gsV s 48 17)) (a := (38, [some (.ref 48)], [], h)) (b := (11, [some (.ref 48)], [], h)) (hk _ _ rfl) rfl ⟨fun z3 => ?_, fun z3 => ?_⟩
  · replace w := w.1 z3
    refine gw_le (L' := [none]) (gm_le_n _ gm_le_nil) ?_
    exact ok164_38 c d Post _ w _ hR
  · replace w := w.2 z3
    refine gw_pst hk 1 (st' := (12, [some (.ref 48)], [.ref 48], h)) rfl ?_
    refine gw_gf (hk _ _ rfl) (RL_fI hR rfl) ?_
    refine gw_pst hk 1 (st' := (16, [some (.ref 48)], [.ref 48, .int (gsV s 48 17)], h)) rfl ?_
    refine gw_gf (hk _ _ rfl) (RL_fI hR rfl) ?_
    refine gw_br (c := (gsV s 48 16) ≤ (gsV s 48 17)) (a := (38, [some (.ref 48)], [], h)) (b := (22, [some (.ref 48)], [], h)) (hk _ _ rfl) rfl ⟨fun z6 => ?_, fun z6 => ?_⟩
    · replace w := w.1 z6
      refine gw_le (L' := [none]) (gm_le_n _ gm_le_nil) ?_
      exact ok164_38 c d Post _ w _ hR
    · replace w := w.2 z6
      refine gw_pst hk 1 (st' := (23, [some (.ref 48)], [.ref 48], h)) rfl ?_
      obtain ⟨z7, w⟩ := w
      refine gw_gf (hk _ _ rfl) (RL_fP hR z7) ?_
      refine gw_pst hk 1 (st' := (27, [some (.ref 48)], [.ref 48, .ref (gsP s)], h)) rfl ?_
      refine gw_gf (hk _ _ rfl) (RL_fI hR rfl) ?_
      obtain ⟨n9, a9, b9, w⟩ := w
      refine gw_ald (hk _ _ rfl) (Or.inr (Or.inr ⟨rfl, rfl, Or.inl rfl⟩)) (RL_a (t := 3) (n := n9) hR a9 (by decide)) b9 ?_
      refine gw_pst hk 3 (st' := (39, [some (.ref 48)], [.int ((gsA s (gsP s) (gsV s 48 17 : Int32).toNatClampNeg) &&& 255)], h)) rfl ?_
      refine gw_le (L' := [none]) (gm_le_n _ gm_le_nil) ?_
      exact ok164_39 c d Post _ _ w _ hR
def w165_13 (c : gx) (d : Nat) (Post : Option Value → gs → Prop) (xs0 : Int32) (s : gs) : Prop :=
  ((xs0 = 0 ∨ xs0 = 1) ∧ Post (some (.int xs0)) s)
theorem ok165_13 (c : gx) (d : Nat) (Post : Option Value → gs → Prop)  (xs0 : Int32) (s : gs) (w : w165_13 c d Post xs0 s) : tV c d 165 13 [none] [.int xs0] s Post := by
  intro h hR
  have hk : ∀ pc i, gm_find gk_165 pc = some i → gm_code (gt_T c.1 c.2.1 c.2.2.1) 165 pc = some i := fun _ _ z => z
  unfold w165_13 at w
  unfold gV
  exact gw_retZ (hk _ _ rfl) rfl w.1 ⟨_, hR, w.2⟩
/-- CommandByTurnsModel.fine()Z -/
def wm165 (c : gx) (d : Nat) (Post : Option Value → gs → Prop)  (s : gs) : Prop :=
  (((gsV s 48 18) = (-1) → w165_13 c d Post 1 s) ∧ (¬ ((gsV s 48 18) = (-1)) → w165_13 c d Post 0 s))
theorem okm165 (c : gx) (d : Nat) (Post : Option Value → gs → Prop)  (s : gs) (w : wm165 c d Post  s) : tE c (d + 1) 165 [.ref 48] s Post := by
  intro h hR
  have hk : ∀ pc i, gm_find gk_165 pc = some i → gm_code (gt_T c.1 c.2.1 c.2.2.1) 165 pc = some i := fun _ _ z => z
  unfold wm165 at w
  refine ge_of (by decide) (Nat.le_of_ble_eq_true rfl) ?_
  show gw (gt_T c.1 c.2.1 c.2.2.1) c.2.2.2 d 165 (0, [some (.ref 48)], [], h) _
  refine gw_pst hk 1 (st' := (1, [some (.ref 48)], [.ref 48], h)) rfl ?_
  refine gw_gf (hk _ _ rfl) (RL_fI hR rfl) ?_
  refine gw_pst hk 1 (st' := (5, [some (.ref 48)], [.int (-1), .int (gsV s 48 18)], h)) rfl ?_
  refine gw_br (c := (gsV s 48 18) = (-1)) (a := (8, [some (.ref 48)], [], h)) (b := (12, [some (.ref 48)], [], h)) (hk _ _ rfl) rfl ⟨fun z2 => ?_, fun z2 => ?_⟩
  · replace w := w.1 z2
    refine gw_pst hk 2 (st' := (13, [some (.ref 48)], [.int 1], h)) rfl ?_
    refine gw_le (L' := [none]) (gm_le_n _ gm_le_nil) ?_
    exact ok165_13 c d Post _ _ w _ hR
  · replace w := w.2 z2
    refine gw_pst hk 1 (st' := (13, [some (.ref 48)], [.int 0], h)) rfl ?_
    refine gw_le (L' := [none]) (gm_le_n _ gm_le_nil) ?_
    exact ok165_13 c d Post _ _ w _ hR
def w166_12 (c : gx) (d : Nat) (Post : Option Value → gs → Prop)  (s : gs) : Prop :=
  Post none s
theorem ok166_12 (c : gx) (d : Nat) (Post : Option Value → gs → Prop)   (s : gs) (w : w166_12 c d Post  s) : tV c d 166 12 [none, none] [] s Post := by
  intro h hR
  have hk : ∀ pc i, gm_find gk_166 pc = some i → gm_code (gt_T c.1 c.2.1 c.2.2.1) 166 pc = some i := fun _ _ z => z
  unfold w166_12 at w
  unfold gV
  exact gw_ret (hk _ _ rfl) rfl ⟨_, hR, w⟩
/-- CommandByTurnsModel.fault(I)V -/
def wm166 (c : gx) (d : Nat) (Post : Option Value → gs → Prop) (x1 : Int32) (s : gs) : Prop :=
  tE c d 165 [.ref 48] s (fun v1 s_1 => ∃ x_1 : Int32, v1 = some (.int x_1) ∧ ((x_1 = 0 → w166_12 c d Post s_1) ∧ (¬ (x_1 = 0) → ∀ s_3 : gs, s_3 = gs_V s_1 48 18 x1 → w166_12 c d Post s_3)))
theorem okm166 (c : gx) (d : Nat) (Post : Option Value → gs → Prop) (x1 : Int32) (s : gs) (w : wm166 c d Post x1 s) : tE c (d + 1) 166 [.ref 48, .int x1] s Post := by
  intro h hR
  have hk : ∀ pc i, gm_find gk_166 pc = some i → gm_code (gt_T c.1 c.2.1 c.2.2.1) 166 pc = some i := fun _ _ z => z
  unfold wm166 at w
  refine ge_of (by decide) (Nat.le_of_ble_eq_true rfl) ?_
  show gw (gt_T c.1 c.2.1 c.2.2.1) c.2.2.2 d 166 (0, [some (.ref 48), some (.int x1)], [], h) _
  refine gw_pst hk 1 (st' := (1, [some (.ref 48), some (.int x1)], [.ref 48], h)) rfl ?_
  obtain ⟨fs1, e1⟩ := RL_o hR (r := 48) (ci := 10) rfl
  refine gw_call (jj := 165) (As := [.ref 48]) (rest := []) (hk _ _ rfl) (fun _ => rfl) rfl rfl (Nat.le_of_ble_eq_true rfl) (gm_rcv_v rfl e1 rfl) ?_
  refine ge_imp (w h hR) (fun v1 h w => ?_)
  obtain ⟨s_1, hR, x_1, rfl, w⟩ := w
  show gw (gt_T c.1 c.2.1 c.2.2.1) c.2.2.2 d 166 (4, [some (.ref 48), some (.int x1)], [.int x_1], h) _
  refine gw_br (c := x_1 = 0) (a := (12, [some (.ref 48), some (.int x1)], [], h)) (b := (7, [some (.ref 48), some (.int x1)], [], h)) (hk _ _ rfl) rfl ⟨fun z2 => ?_, fun z2 => ?_⟩
  · replace w := w.1 z2
    refine gw_le (L' := [none, none]) (gm_le_n _ (gm_le_n _ gm_le_nil)) ?_
    exact ok166_12 c d Post _ w _ hR
  · replace w := w.2 z2
    refine gw_pst hk 2 (st' := (9, [some (.ref 48), some (.int x1)], [.int x1, .ref 48], h)) rfl ?_
    obtain ⟨fs3, e3⟩ := RL_o hR (r := 48) (ci := 10) rfl
    obtain ⟨l3, hR3⟩ := RL_pI (k := 18) (x := x1) hR rfl e3
    refine gw_pf (hk _ _ rfl) e3 l3 rfl ?_
    generalize gm_put h _ _ = h at hR3 ⊢
    obtain ⟨s_3, es3⟩ : ∃ z, z = gs_V s_1 48 18 x1 := ⟨_, rfl⟩
    rw [← es3] at hR3
    replace w := w s_3 es3
    replace hR := hR3
    refine gw_le (L' := [none, none]) (gm_le_n _ (gm_le_n _ gm_le_nil)) ?_
    exact ok166_12 c d Post _ w _ hR
def w167_15 (c : gx) (d : Nat) (Post : Option Value → gs → Prop)  (s : gs) : Prop :=
  Post (some (.int 0)) s
theorem ok167_15 (c : gx) (d : Nat) (Post : Option Value → gs → Prop)   (s : gs) (w : w167_15 c d Post  s) : tV c d 167 15 [none, none] [] s Post := by
  intro h hR
  have hk : ∀ pc i, gm_find gk_167 pc = some i → gm_code (gt_T c.1 c.2.1 c.2.2.1) 167 pc = some i := fun _ _ z => z
  unfold w167_15 at w
  unfold gV
  refine gw_pst hk 1 (st' := (16, [none, none], [.int 0], h)) rfl ?_
  exact gw_ret (hk _ _ rfl) rfl ⟨_, hR, w⟩
/-- CommandByTurnsModel.passes(C)Z -/
def wm167 (c : gx) (d : Nat) (Post : Option Value → gs → Prop) (x1 : Int32) (s : gs) : Prop :=
  tE c d 165 [.ref 48] s (fun v1 s_1 => ∃ x_1 : Int32, v1 = some (.int x_1) ∧ ((x_1 = 0 → w167_15 c d Post s_1) ∧ (¬ (x_1 = 0) → tE c d 164 [.ref 48] s_1 (fun v3 s_3 => ∃ x_3 : Int32, v3 = some (.int x_3) ∧ ((x_3 = x1 → ∀ s_6 : gs, s_6 = gs_V s_3 48 17 ((gsV s_3 48 17) + 1) → Post (some (.int 1)) s_6) ∧ (¬ (x_3 = x1) → w167_15 c d Post s_3))))))
theorem okm167 (c : gx) (d : Nat) (Post : Option Value → gs → Prop) (x1 : Int32) (s : gs) (w : wm167 c d Post x1 s) : tE c (d + 1) 167 [.ref 48, .int x1] s Post := by
  intro h hR
  have hk : ∀ pc i, gm_find gk_167 pc = some i → gm_code (gt_T c.1 c.2.1 c.2.2.1) 167 pc = some i := fun _ _ z => z
  unfold wm167 at w
  refine ge_of (by decide) (Nat.le_of_ble_eq_true rfl) ?_
  show gw (gt_T c.1 c.2.1 c.2.2.1) c.2.2.2 d 167 (0, [some (.ref 48), some (.int x1)], [], h) _
  refine gw_pst hk 1 (st' := (1, [some (.ref 48), some (.int x1)], [.ref 48], h)) rfl ?_
  obtain ⟨fs1, e1⟩ := RL_o hR (r := 48) (ci := 10) rfl
  refine gw_call (jj := 165) (As := [.ref 48]) (rest := []) (hk _ _ rfl) (fun _ => rfl) rfl rfl (Nat.le_of_ble_eq_true rfl) (gm_rcv_v rfl e1 rfl) ?_
  refine ge_imp (w h hR) (fun v1 h w => ?_)
  obtain ⟨s_1, hR, x_1, rfl, w⟩ := w
  show gw (gt_T c.1 c.2.1 c.2.2.1) c.2.2.2 d 167 (4, [some (.ref 48), some (.int x1)], [.int x_1], h) _
  refine gw_br (c := x_1 = 0) (a := (15, [some (.ref 48), some (.int x1)], [], h)) (b := (7, [some (.ref 48), some (.int x1)], [], h)) (hk _ _ rfl) rfl ⟨fun z2 => ?_, fun z2 => ?_⟩
  · replace w := w.1 z2
    refine gw_le (L' := [none, none]) (gm_le_n _ (gm_le_n _ gm_le_nil)) ?_
    exact ok167_15 c d Post _ w _ hR
  · replace w := w.2 z2
    refine gw_pst hk 1 (st' := (8, [some (.ref 48), some (.int x1)], [.ref 48], h)) rfl ?_
    obtain ⟨fs3, e3⟩ := RL_o hR (r := 48) (ci := 10) rfl
    refine gw_call (jj := 164) (As := [.ref 48]) (rest := []) (hk _ _ rfl) (fun _ => rfl) rfl rfl (Nat.le_of_ble_eq_true rfl) (gm_rcv_v rfl e3 rfl) ?_
    refine ge_imp (w h hR) (fun v3 h w => ?_)
    obtain ⟨s_3, hR, x_3, rfl, w⟩ := w
    show gw (gt_T c.1 c.2.1 c.2.2.1) c.2.2.2 d 167 (11, [some (.ref 48), some (.int x1)], [.int x_3], h) _
    refine gw_pst hk 1 (st' := (12, [some (.ref 48), some (.int x1)], [.int x1, .int x_3], h)) rfl ?_
    refine gw_br (c := x_3 = x1) (a := (17, [some (.ref 48), some (.int x1)], [], h)) (b := (15, [some (.ref 48), some (.int x1)], [], h)) (hk _ _ rfl) rfl ⟨fun z4 => ?_, fun z4 => ?_⟩
    · replace w := w.1 z4
      refine gw_pst hk 2 (st' := (19, [some (.ref 48), some (.int x1)], [.ref 48, .ref 48], h)) rfl ?_
      refine gw_gf (hk _ _ rfl) (RL_fI hR rfl) ?_
      refine gw_pst hk 2 (st' := (24, [some (.ref 48), some (.int x1)], [.int ((gsV s_3 48 17) + 1), .ref 48], h)) rfl ?_
      obtain ⟨fs6, e6⟩ := RL_o hR (r := 48) (ci := 10) rfl
      obtain ⟨l6, hR6⟩ := RL_pI (k := 17) (x := (gsV s_3 48 17) + 1) hR rfl e6
      refine gw_pf (hk _ _ rfl) e6 l6 rfl ?_
      generalize gm_put h _ _ = h at hR6 ⊢
      obtain ⟨s_6, es6⟩ : ∃ z, z = gs_V s_3 48 17 ((gsV s_3 48 17) + 1) := ⟨_, rfl⟩
      rw [← es6] at hR6
      replace w := w s_6 es6
      replace hR := hR6
      refine gw_pst hk 1 (st' := (28, [some (.ref 48), some (.int x1)], [.int 1], h)) rfl ?_
      exact gw_ret (hk _ _ rfl) rfl ⟨_, hR, w⟩
    · replace w := w.2 z4
      refine gw_le (L' := [none, none]) (gm_le_n _ (gm_le_n _ gm_le_nil)) ?_
      exact ok167_15 c d Post _ w _ hR
def w168_16 (c : gx) (d : Nat) (Post : Option Value → gs → Prop)  (s : gs) : Prop :=
  Post none s
theorem ok168_16 (c : gx) (d : Nat) (Post : Option Value → gs → Prop)   (s : gs) (w : w168_16 c d Post  s) : tV c d 168 16 [none, none] [] s Post := by
  intro h hR
  have hk : ∀ pc i, gm_find gk_168 pc = some i → gm_code (gt_T c.1 c.2.1 c.2.2.1) 168 pc = some i := fun _ _ z => z
  unfold w168_16 at w
  unfold gV
  exact gw_ret (hk _ _ rfl) rfl ⟨_, hR, w⟩
/-- CommandByTurnsModel.need(C)V -/
def wm168 (c : gx) (d : Nat) (Post : Option Value → gs → Prop) (x1 : Int32) (s : gs) : Prop :=
  tE c d 167 [.ref 48, .int x1] s (fun v1 s_1 => ∃ x_1 : Int32, v1 = some (.int x_1) ∧ ((x_1 = 0 → tE c d 166 [.ref 48, .int (gsV s_1 48 17)] s_1 (fun v4 s_4 => v4 = none ∧ w168_16 c d Post s_4)) ∧ (¬ (x_1 = 0) → w168_16 c d Post s_1)))
theorem okm168 (c : gx) (d : Nat) (Post : Option Value → gs → Prop) (x1 : Int32) (s : gs) (w : wm168 c d Post x1 s) : tE c (d + 1) 168 [.ref 48, .int x1] s Post := by
  intro h hR
  have hk : ∀ pc i, gm_find gk_168 pc = some i → gm_code (gt_T c.1 c.2.1 c.2.2.1) 168 pc = some i := fun _ _ z => z
  unfold wm168 at w
  refine ge_of (by decide) (Nat.le_of_ble_eq_true rfl) ?_
  show gw (gt_T c.1 c.2.1 c.2.2.1) c.2.2.2 d 168 (0, [some (.ref 48), some (.int x1)], [], h) _
  refine gw_pst hk 2 (st' := (2, [some (.ref 48), some (.int x1)], [.int x1, .ref 48], h)) rfl ?_
  obtain ⟨fs1, e1⟩ := RL_o hR (r := 48) (ci := 10) rfl
  refine gw_call (jj := 167) (As := [.ref 48, .int x1]) (rest := []) (hk _ _ rfl) (fun _ => rfl) rfl rfl (Nat.le_of_ble_eq_true rfl) (gm_rcv_v rfl e1 rfl) ?_
  refine ge_imp (w h hR) (fun v1 h w => ?_)
  obtain ⟨s_1, hR, x_1, rfl, w⟩ := w
  show gw (gt_T c.1 c.2.1 c.2.2.1) c.2.2.2 d 168 (5, [some (.ref 48), some (.int x1)], [.int x_1], h) _
  refine gw_br (c := x_1 = 0) (a := (8, [some (.ref 48), some (.int x1)], [], h)) (b := (16, [some (.ref 48), some (.int x1)], [], h)) (hk _ _ rfl) rfl ⟨fun z2 => ?_, fun z2 => ?_⟩
  · replace w := w.1 z2
    refine gw_pst hk 2 (st' := (10, [some (.ref 48), some (.int x1)], [.ref 48, .ref 48], h)) rfl ?_
    refine gw_gf (hk _ _ rfl) (RL_fI hR rfl) ?_
    obtain ⟨fs4, e4⟩ := RL_o hR (r := 48) (ci := 10) rfl
    refine gw_call (jj := 166) (As := [.ref 48, .int (gsV s_1 48 17)]) (rest := []) (hk _ _ rfl) (fun _ => rfl) rfl rfl (Nat.le_of_ble_eq_true rfl) (gm_rcv_v rfl e4 rfl) ?_
    refine ge_imp (w h hR) (fun v4 h w => ?_)
    obtain ⟨s_4, hR, rfl, w⟩ := w
    show gw (gt_T c.1 c.2.1 c.2.2.1) c.2.2.2 d 168 (16, [some (.ref 48), some (.int x1)], [], h) _
    refine gw_le (L' := [none, none]) (gm_le_n _ (gm_le_n _ gm_le_nil)) ?_
    exact ok168_16 c d Post _ w _ hR
  · replace w := w.2 z2
    refine gw_le (L' := [none, none]) (gm_le_n _ (gm_le_n _ gm_le_nil)) ?_
    exact ok168_16 c d Post _ w _ hR
/-- CommandByTurnsModel.oneOf(CI)I -/
def wm169 (c : gx) (d : Nat) (Post : Option Value → gs → Prop) (x1 : Int32) (x2 : Int32) (s : gs) : Prop :=
  tE c d 165 [.ref 48] s (fun v1 s_1 => ∃ x_1 : Int32, v1 = some (.int x_1) ∧ ((x_1 = 0 → Post (some (.int 0)) s_1) ∧ (¬ (x_1 = 0) → tE c d 164 [.ref 48] s_1 (fun v3 s_3 => ∃ x_3 : Int32, v3 = some (.int x_3) ∧ tE c d 154 [.int x_3, .int x1, .int ((x1 + x2) - 1)] s_3 (fun v4 s_4 => ∃ x_4 : Int32, v4 = some (.int x_4) ∧ ((x_4 = 0 → tE c d 166 [.ref 48, .int (gsV s_4 48 17)] s_4 (fun v7 s_7 => v7 = none ∧ Post (some (.int 0)) s_7)) ∧ (¬ (x_4 = 0) → ∀ s_9 : gs, s_9 = gs_V s_4 48 17 ((gsV s_4 48 17) + 1) → ¬ gsP s_9 = 0 ∧ ∃ n12, gs_isA (gsP s_9) 3 n12 = true ∧ vp_in ((gsV s_9 48 17) - 1) n12 ∧ Post (some (.int ((gsA s_9 (gsP s_9) ((gsV s_9 48 17) - 1 : Int32).toNatClampNeg) - x1))) s_9)))))))
theorem okm169 (c : gx) (d : Nat) (Post : Option Value → gs → Prop) (x1 : Int32) (x2 : Int32) (s : gs) (w : wm169 c d Post x1 x2 s) : tE c (d + 1) 169 [.ref 48, .int x1, .int x2] s Post := by
  intro h hR
  have hk : ∀ pc i, gm_find gk_169 pc = some i → gm_code (gt_T c.1 c.2.1 c.2.2.1) 169 pc = some i := fun _ _ z => z
  unfold wm169 at w
  refine ge_of (by decide) (Nat.le_of_ble_eq_true rfl) ?_
  show gw (gt_T c.1 c.2.1 c.2.2.1) c.2.2.2 d 169 (0, [some (.ref 48), some (.int x1), some (.int x2)], [], h) _
  refine gw_pst hk 1 (st' := (1, [some (.ref 48), some (.int x1), some (.int x2)], [.ref 48], h)) rfl ?_
  obtain ⟨fs1, e1⟩ := RL_o hR (r := 48) (ci := 10) rfl
  refine gw_call (jj := 165) (As := [.ref 48]) (rest := []) (hk _ _ rfl) (fun _ => rfl) rfl rfl (Nat.le_of_ble_eq_true rfl) (gm_rcv_v rfl e1 rfl) ?_
  refine ge_imp (w h hR) (fun v1 h w => ?_)
  obtain ⟨s_1, hR, x_1, rfl, w⟩ := w
  show gw (gt_T c.1 c.2.1 c.2.2.1) c.2.2.2 d 169 (4, [some (.ref 48), some (.int x1), some (.int x2)], [.int x_1], h) _
  refine gw_br (c := x_1 = 0) (a := (7, [some (.ref 48), some (.int x1), some (.int x2)], [], h)) (b := (9, [some (.ref 48), some (.int x1), some (.int x2)], [], h)) (hk _ _ rfl) rfl ⟨fun z2 => ?_, fun z2 => ?_⟩
  · replace w := w.1 z2
    refine gw_pst hk 1 (st' := (8, [some (.ref 48), some (.int x1), some (.int x2)], [.int 0], h)) rfl ?_
    exact gw_ret (hk _ _ rfl) rfl ⟨_, hR, w⟩
  · replace w := w.2 z2
    refine gw_pst hk 1 (st' := (10, [some (.ref 48), some (.int x1), some (.int x2)], [.ref 48], h)) rfl ?_
    obtain ⟨fs3, e3⟩ := RL_o hR (r := 48) (ci := 10) rfl
    refine gw_call (jj := 164) (As := [.ref 48]) (rest := []) (hk _ _ rfl) (fun _ => rfl) rfl rfl (Nat.le_of_ble_eq_true rfl) (gm_rcv_v rfl e3 rfl) ?_
    refine ge_imp (w h hR) (fun v3 h w => ?_)
    obtain ⟨s_3, hR, x_3, rfl, w⟩ := w
    show gw (gt_T c.1 c.2.1 c.2.2.1) c.2.2.2 d 169 (13, [some (.ref 48), some (.int x1), some (.int x2)], [.int x_3], h) _
    refine gw_pst hk 6 (st' := (19, [some (.ref 48), some (.int x1), some (.int x2)], [.int ((x1 + x2) - 1), .int x1, .int x_3], h)) rfl ?_
    refine gw_call (jj := 154) (As := [.int x_3, .int x1, .int ((x1 + x2) - 1)]) (rest := []) (hk _ _ rfl) (fun _ => rfl) rfl rfl (Nat.le_of_ble_eq_true rfl) rfl ?_
    refine ge_imp (w h hR) (fun v4 h w => ?_)
    obtain ⟨s_4, hR, x_4, rfl, w⟩ := w
    show gw (gt_T c.1 c.2.1 c.2.2.1) c.2.2.2 d 169 (22, [some (.ref 48), some (.int x1), some (.int x2)], [.int x_4], h) _
    refine gw_br (c := x_4 = 0) (a := (25, [some (.ref 48), some (.int x1), some (.int x2)], [], h)) (b := (35, [some (.ref 48), some (.int x1), some (.int x2)], [], h)) (hk _ _ rfl) rfl ⟨fun z5 => ?_, fun z5 => ?_⟩
    · replace w := w.1 z5
      refine gw_pst hk 2 (st' := (27, [some (.ref 48), some (.int x1), some (.int x2)], [.ref 48, .ref 48], h)) rfl ?_
      refine gw_gf (hk _ _ rfl) (RL_fI hR rfl) ?_
      obtain ⟨fs7, e7⟩ := RL_o hR (r := 48) (ci := 10) rfl
      refine gw_call (jj := 166) (As := [.ref 48, .int (gsV s_4 48 17)]) (rest := []) (hk _ _ rfl) (fun _ => rfl) rfl rfl (Nat.le_of_ble_eq_true rfl) (gm_rcv_v rfl e7 rfl) ?_
      refine ge_imp (w h hR) (fun v7 h w => ?_)
      obtain ⟨s_7, hR, rfl, w⟩ := w
      show gw (gt_T c.1 c.2.1 c.2.2.1) c.2.2.2 d 169 (33, [some (.ref 48), some (.int x1), some (.int x2)], [], h) _
      refine gw_pst hk 1 (st' := (34, [some (.ref 48), some (.int x1), some (.int x2)], [.int 0], h)) rfl ?_
      exact gw_ret (hk _ _ rfl) rfl ⟨_, hR, w⟩
    · replace w := w.2 z5
      refine gw_pst hk 2 (st' := (37, [some (.ref 48), some (.int x1), some (.int x2)], [.ref 48, .ref 48], h)) rfl ?_
      refine gw_gf (hk _ _ rfl) (RL_fI hR rfl) ?_
      refine gw_pst hk 2 (st' := (42, [some (.ref 48), some (.int x1), some (.int x2)], [.int ((gsV s_4 48 17) + 1), .ref 48], h)) rfl ?_
      obtain ⟨fs9, e9⟩ := RL_o hR (r := 48) (ci := 10) rfl
      obtain ⟨l9, hR9⟩ := RL_pI (k := 17) (x := (gsV s_4 48 17) + 1) hR rfl e9
      refine gw_pf (hk _ _ rfl) e9 l9 rfl ?_
      generalize gm_put h _ _ = h at hR9 ⊢
      obtain ⟨s_9, es9⟩ : ∃ z, z = gs_V s_4 48 17 ((gsV s_4 48 17) + 1) := ⟨_, rfl⟩
      rw [← es9] at hR9
      replace w := w s_9 es9
      replace hR := hR9
      refine gw_pst hk 1 (st' := (46, [some (.ref 48), some (.int x1), some (.int x2)], [.ref 48], h)) rfl ?_
      obtain ⟨z10, w⟩ := w
      refine gw_gf (hk _ _ rfl) (RL_fP hR z10) ?_
      refine gw_pst hk 1 (st' := (50, [some (.ref 48), some (.int x1), some (.int x2)], [.ref 48, .ref (gsP s_9)], h)) rfl ?_
      refine gw_gf (hk _ _ rfl) (RL_fI hR rfl) ?_
      refine gw_pst hk 2 (st' := (55, [some (.ref 48), some (.int x1), some (.int x2)], [.int ((gsV s_9 48 17) - 1), .ref (gsP s_9)], h)) rfl ?_
      obtain ⟨n12, a12, b12, w⟩ := w
      refine gw_ald (hk _ _ rfl) (Or.inr (Or.inr ⟨rfl, rfl, Or.inl rfl⟩)) (RL_a (t := 3) (n := n12) hR a12 (by decide)) b12 ?_
      refine gw_pst hk 2 (st' := (58, [some (.ref 48), some (.int x1), some (.int x2)], [.int ((gsA s_9 (gsP s_9) ((gsV s_9 48 17) - 1 : Int32).toNatClampNeg) - x1)], h)) rfl ?_
      exact gw_ret (hk _ _ rfl) rfl ⟨_, hR, w⟩
def w170_57 (c : gx) (d : Nat) (Post : Option Value → gs → Prop) (x2 : Int32) (s : gs) : Prop :=
  Post (some (.int x2)) s
theorem ok170_57 (c : gx) (d : Nat) (Post : Option Value → gs → Prop)  (x2 : Int32) (s : gs) (w : w170_57 c d Post x2 s) : tV c d 170 57 [none, none, some (.int x2), none] [] s Post := by
  intro h hR
  have hk : ∀ pc i, gm_find gk_170 pc = some i → gm_code (gt_T c.1 c.2.1 c.2.2.1) 170 pc = some i := fun _ _ z => z
  unfold w170_57 at w
  unfold gV
  refine gw_pst hk 1 (st' := (58, [none, none, some (.int x2), none], [.int x2], h)) rfl ?_
  exact gw_ret (hk _ _ rfl) rfl ⟨_, hR, w⟩
def wb170_11 (c : gx) (d : Nat) (Post : Option Value → gs → Prop) (K11 : Int32 → Int32 → Int32 → gs → Prop) (x1 : Int32) (x2 : Int32) (x3 : Int32) (s : gs) : Prop :=
  ((x1 ≤ x3 → w170_57 c d Post x2 s) ∧ (¬ (x1 ≤ x3) → tE c d 165 [.ref 48] s (fun v2 s_2 => ∃ x_2 : Int32, v2 = some (.int x_2) ∧ ((x_2 = 0 → w170_57 c d Post x2 s_2) ∧ (¬ (x_2 = 0) → tE c d 164 [.ref 48] s_2 (fun v4 s_4 => ∃ x_4 : Int32, v4 = some (.int x_4) ∧ tE c d 154 [.int x_4, .int 48, .int 57] s_4 (fun v5 s_5 => ∃ x_5 : Int32, v5 = some (.int x_5) ∧ ((x_5 = 0 → w170_57 c d Post x2 s_5) ∧ (¬ (x_5 = 0) → tE c d 169 [.ref 48, .int 48, .int 10] s_5 (fun v7 s_7 => ∃ x_7 : Int32, v7 = some (.int x_7) ∧ K11 x1 ((10 * x2) + x_7) (x3 + 1) s_7))))))))))
theorem okb170_11 (c : gx) (d : Nat) (Post : Option Value → gs → Prop) (K11 : Int32 → Int32 → Int32 → gs → Prop)  (hK11 : ∀ (x1 : Int32) (x2 : Int32) (x3 : Int32) (s : gs), K11 x1 x2 x3 s → tV c d 170 11 [some (.ref 48), some (.int x1), some (.int x2), some (.int x3)] [] s Post) (x1 : Int32) (x2 : Int32) (x3 : Int32) (s : gs) (w : wb170_11 c d Post K11 x1 x2 x3 s) : tV c d 170 11 [some (.ref 48), some (.int x1), some (.int x2), some (.int x3)] [] s Post := by
  intro h hR
  have hk : ∀ pc i, gm_find gk_170 pc = some i → gm_code (gt_T c.1 c.2.1 c.2.2.1) 170 pc = some i := fun _ _ z => z
  unfold wb170_11 at w
  unfold gV
  refine gw_pst hk 2 (st' := (13, [some (.ref 48), some (.int x1), some (.int x2), some (.int x3)], [.int x1, .int x3], h)) rfl ?_
  refine gw_br (c := x1 ≤ x3) (a := (57, [some (.ref 48), some (.int x1), some (.int x2), some (.int x3)], [], h)) (b := (16, [some (.ref 48), some (.int x1), some (.int x2), some (.int x3)], [], h)) (hk _ _ rfl) rfl ⟨fun z1 => ?_, fun z1 => ?_⟩
  · replace w := w.1 z1
    refine gw_le (L' := [none, none, some (.int x2), none]) (gm_le_n _ (gm_le_n _ (gm_le_k _ (gm_le_n _ gm_le_nil)))) ?_
    exact ok170_57 c d Post _ _ w _ hR
  · replace w := w.2 z1
    refine gw_pst hk 1 (st' := (17, [some (.ref 48), some (.int x1), some (.int x2), some (.int x3)], [.ref 48], h)) rfl ?_
    obtain ⟨fs2, e2⟩ := RL_o hR (r := 48) (ci := 10) rfl
    refine gw_call (jj := 165) (As := [.ref 48]) (rest := []) (hk _ _ rfl) (fun _ => rfl) rfl rfl (Nat.le_of_ble_eq_true rfl) (gm_rcv_v rfl e2 rfl) ?_
    refine ge_imp (w h hR) (fun v2 h w => ?_)
    obtain ⟨s_2, hR, x_2, rfl, w⟩ := w
    show gw (gt_T c.1 c.2.1 c.2.2.1) c.2.2.2 d 170 (20, [some (.ref 48), some (.int x1), some (.int x2), some (.int x3)], [.int x_2], h) _
    refine gw_br (c := x_2 = 0) (a := (57, [some (.ref 48), some (.int x1), some (.int x2), some (.int x3)], [], h)) (b := (23, [some (.ref 48), some (.int x1), some (.int x2), some (.int x3)], [], h)) (hk _ _ rfl) rfl ⟨fun z3 => ?_, fun z3 => ?_⟩
    · replace w := w.1 z3
      refine gw_le (L' := [none, none, some (.int x2), none]) (gm_le_n _ (gm_le_n _ (gm_le_k _ (gm_le_n _ gm_le_nil)))) ?_
      exact ok170_57 c d Post _ _ w _ hR
    · replace w := w.2 z3
      refine gw_pst hk 1 (st' := (24, [some (.ref 48), some (.int x1), some (.int x2), some (.int x3)], [.ref 48], h)) rfl ?_
      obtain ⟨fs4, e4⟩ := RL_o hR (r := 48) (ci := 10) rfl
      refine gw_call (jj := 164) (As := [.ref 48]) (rest := []) (hk _ _ rfl) (fun _ => rfl) rfl rfl (Nat.le_of_ble_eq_true rfl) (gm_rcv_v rfl e4 rfl) ?_
      refine ge_imp (w h hR) (fun v4 h w => ?_)
      obtain ⟨s_4, hR, x_4, rfl, w⟩ := w
      show gw (gt_T c.1 c.2.1 c.2.2.1) c.2.2.2 d 170 (27, [some (.ref 48), some (.int x1), some (.int x2), some (.int x3)], [.int x_4], h) _
      refine gw_pst hk 2 (st' := (31, [some (.ref 48), some (.int x1), some (.int x2), some (.int x3)], [.int 57, .int 48, .int x_4], h)) rfl ?_
      refine gw_call (jj := 154) (As := [.int x_4, .int 48, .int 57]) (rest := []) (hk _ _ rfl) (fun _ => rfl) rfl rfl (Nat.le_of_ble_eq_true rfl) rfl ?_
      refine ge_imp (w h hR) (fun v5 h w => ?_)
      obtain ⟨s_5, hR, x_5, rfl, w⟩ := w
      show gw (gt_T c.1 c.2.1 c.2.2.1) c.2.2.2 d 170 (34, [some (.ref 48), some (.int x1), some (.int x2), some (.int x3)], [.int x_5], h) _
      refine gw_br (c := x_5 = 0) (a := (57, [some (.ref 48), some (.int x1), some (.int x2), some (.int x3)], [], h)) (b := (37, [some (.ref 48), some (.int x1), some (.int x2), some (.int x3)], [], h)) (hk _ _ rfl) rfl ⟨fun z6 => ?_, fun z6 => ?_⟩
      · replace w := w.1 z6
        refine gw_le (L' := [none, none, some (.int x2), none]) (gm_le_n _ (gm_le_n _ (gm_le_k _ (gm_le_n _ gm_le_nil)))) ?_
        exact ok170_57 c d Post _ _ w _ hR
      · replace w := w.2 z6
        refine gw_pst hk 6 (st' := (46, [some (.ref 48), some (.int x1), some (.int x2), some (.int x3)], [.int 10, .int 48, .ref 48, .int (10 * x2)], h)) rfl ?_
        obtain ⟨fs7, e7⟩ := RL_o hR (r := 48) (ci := 10) rfl
        refine gw_call (jj := 169) (As := [.ref 48, .int 48, .int 10]) (rest := [.int (10 * x2)]) (hk _ _ rfl) (fun _ => rfl) rfl rfl (Nat.le_of_ble_eq_true rfl) (gm_rcv_v rfl e7 rfl) ?_
        refine ge_imp (w h hR) (fun v7 h w => ?_)
        obtain ⟨s_7, hR, x_7, rfl, w⟩ := w
        show gw (gt_T c.1 c.2.1 c.2.2.1) c.2.2.2 d 170 (49, [some (.ref 48), some (.int x1), some (.int x2), some (.int x3)], [.int x_7, .int (10 * x2)], h) _
        refine gw_pst hk 4 (st' := (11, [some (.ref 48), some (.int x1), some (.int ((10 * x2) + x_7)), some (.int (x3 + 1))], [], h)) rfl ?_
        exact hK11 _ _ _ _ w _ hR
def wl170_11 (c : gx) (d : Nat) (Post : Option Value → gs → Prop) : Nat → Int32 → Int32 → Int32 → gs → Prop
  | 0 => fun _ _ _ _ => False
  | n + 1 => wb170_11 c d Post (wl170_11 c d Post n)
theorem okl170_11 (c : gx) (d : Nat) (Post : Option Value → gs → Prop) : ∀ (n : Nat) (x1 : Int32) (x2 : Int32) (x3 : Int32) (s : gs), wl170_11 c d Post n x1 x2 x3 s → tV c d 170 11 [some (.ref 48), some (.int x1), some (.int x2), some (.int x3)] [] s Post
  | 0, _, _, _, _, w => w.elim
  | n + 1, x1, x2, x3, s, w => okb170_11 c d Post (wl170_11 c d Post n) (okl170_11 c d Post n) x1 x2 x3 s w
/-- CommandByTurnsModel.number(I)I -/
def wm170 (c : gx) (d : Nat) (Post : Option Value → gs → Prop) (x1 : Int32) (s : gs) : Prop :=
  tE c d 169 [.ref 48, .int 48, .int 10] s (fun v1 s_1 => ∃ x_1 : Int32, v1 = some (.int x_1) ∧ ∃ n, wl170_11 c d Post n x1 x_1 1 s_1)
theorem okm170 (c : gx) (d : Nat) (Post : Option Value → gs → Prop) (x1 : Int32) (s : gs) (w : wm170 c d Post x1 s) : tE c (d + 1) 170 [.ref 48, .int x1] s Post := by
  intro h hR
  have hk : ∀ pc i, gm_find gk_170 pc = some i → gm_code (gt_T c.1 c.2.1 c.2.2.1) 170 pc = some i := fun _ _ z => z
  unfold wm170 at w
  refine ge_of (by decide) (Nat.le_of_ble_eq_true rfl) ?_
  show gw (gt_T c.1 c.2.1 c.2.2.1) c.2.2.2 d 170 (0, [some (.ref 48), some (.int x1), none, none], [], h) _
  refine gw_pst hk 3 (st' := (5, [some (.ref 48), some (.int x1), none, none], [.int 10, .int 48, .ref 48], h)) rfl ?_
  obtain ⟨fs1, e1⟩ := RL_o hR (r := 48) (ci := 10) rfl
  refine gw_call (jj := 169) (As := [.ref 48, .int 48, .int 10]) (rest := []) (hk _ _ rfl) (fun _ => rfl) rfl rfl (Nat.le_of_ble_eq_true rfl) (gm_rcv_v rfl e1 rfl) ?_
  refine ge_imp (w h hR) (fun v1 h w => ?_)
  obtain ⟨s_1, hR, x_1, rfl, w⟩ := w
  show gw (gt_T c.1 c.2.1 c.2.2.1) c.2.2.2 d 170 (8, [some (.ref 48), some (.int x1), none, none], [.int x_1], h) _
  refine gw_pst hk 3 (st' := (11, [some (.ref 48), some (.int x1), some (.int x_1), some (.int 1)], [], h)) rfl ?_
  obtain ⟨n, w⟩ := w
  exact okl170_11 c d Post n _ _ _ _ w _ hR
def w171_19 (c : gx) (d : Nat) (Post : Option Value → gs → Prop)  (s : gs) : Prop :=
  tE c d 165 [.ref 48] s (fun v1 s_1 => ∃ x_1 : Int32, v1 = some (.int x_1) ∧ ((x_1 = 0 ∨ x_1 = 1) ∧ Post (some (.int x_1)) s_1))
theorem ok171_19 (c : gx) (d : Nat) (Post : Option Value → gs → Prop)   (s : gs) (w : w171_19 c d Post  s) : tV c d 171 19 [some (.ref 48)] [] s Post := by
  intro h hR
  have hk : ∀ pc i, gm_find gk_171 pc = some i → gm_code (gt_T c.1 c.2.1 c.2.2.1) 171 pc = some i := fun _ _ z => z
  unfold w171_19 at w
  unfold gV
  refine gw_pst hk 1 (st' := (20, [some (.ref 48)], [.ref 48], h)) rfl ?_
  obtain ⟨fs1, e1⟩ := RL_o hR (r := 48) (ci := 10) rfl
  refine gw_call (jj := 165) (As := [.ref 48]) (rest := []) (hk _ _ rfl) (fun _ => rfl) rfl rfl (Nat.le_of_ble_eq_true rfl) (gm_rcv_v rfl e1 rfl) ?_
  refine ge_imp (w h hR) (fun v1 h w => ?_)
  obtain ⟨s_1, hR, x_1, rfl, w⟩ := w
  show gw (gt_T c.1 c.2.1 c.2.2.1) c.2.2.2 d 171 (23, [some (.ref 48)], [.int x_1], h) _
  exact gw_retZ (hk _ _ rfl) rfl w.1 ⟨_, hR, w.2⟩
/-- CommandByTurnsModel.wasRight()Z -/
def wm171 (c : gx) (d : Nat) (Post : Option Value → gs → Prop)  (s : gs) : Prop :=
  (((gsV s 48 15) ≤ (gsV s 48 17) → w171_19 c d Post s) ∧ (¬ ((gsV s 48 15) ≤ (gsV s 48 17)) → tE c d 166 [.ref 48, .int (gsV s 48 17)] s (fun v5 s_5 => v5 = none ∧ w171_19 c d Post s_5)))
theorem okm171 (c : gx) (d : Nat) (Post : Option Value → gs → Prop)  (s : gs) (w : wm171 c d Post  s) : tE c (d + 1) 171 [.ref 48] s Post := by
  intro h hR
  have hk : ∀ pc i, gm_find gk_171 pc = some i → gm_code (gt_T c.1 c.2.1 c.2.2.1) 171 pc = some i := fun _ _ z => z
  unfold wm171 at w
  refine ge_of (by decide) (Nat.le_of_ble_eq_true rfl) ?_
  show gw (gt_T c.1 c.2.1 c.2.2.1) c.2.2.2 d 171 (0, [some (.ref 48)], [], h) _
  refine gw_pst hk 1 (st' := (1, [some (.ref 48)], [.ref 48], h)) rfl ?_
  refine gw_gf (hk _ _ rfl) (RL_fI hR rfl) ?_
  refine gw_pst hk 1 (st' := (5, [some (.ref 48)], [.ref 48, .int (gsV s 48 17)], h)) rfl ?_
  refine gw_gf (hk _ _ rfl) (RL_fI hR rfl) ?_
  refine gw_br (c := (gsV s 48 15) ≤ (gsV s 48 17)) (a := (19, [some (.ref 48)], [], h)) (b := (11, [some (.ref 48)], [], h)) (hk _ _ rfl) rfl ⟨fun z3 => ?_, fun z3 => ?_⟩
  · replace w := w.1 z3
    exact ok171_19 c d Post _ w _ hR
  · replace w := w.2 z3
    refine gw_pst hk 2 (st' := (13, [some (.ref 48)], [.ref 48, .ref 48], h)) rfl ?_
    refine gw_gf (hk _ _ rfl) (RL_fI hR rfl) ?_
    obtain ⟨fs5, e5⟩ := RL_o hR (r := 48) (ci := 10) rfl
    refine gw_call (jj := 166) (As := [.ref 48, .int (gsV s 48 17)]) (rest := []) (hk _ _ rfl) (fun _ => rfl) rfl rfl (Nat.le_of_ble_eq_true rfl) (gm_rcv_v rfl e5 rfl) ?_
    refine ge_imp (w h hR) (fun v5 h w => ?_)
    obtain ⟨s_5, hR, rfl, w⟩ := w
    show gw (gt_T c.1 c.2.1 c.2.2.1) c.2.2.2 d 171 (19, [some (.ref 48)], [], h) _
    exact ok171_19 c d Post _ w _ hR
def w172_98 (c : gx) (d : Nat) (Post : Option Value → gs → Prop) (K15 : Int32 → Int32 → gs → Prop) (x1 : Int32) (xs0 : Int32) (s : gs) : Prop :=
  K15 (x1 + 1) xs0 s
theorem ok172_98 (c : gx) (d : Nat) (Post : Option Value → gs → Prop) (K15 : Int32 → Int32 → gs → Prop)  (hK15 : ∀ (x1 : Int32) (x2 : Int32) (s : gs), K15 x1 x2 s → tV c d 172 15 [some (.ref 48), some (.int x1), some (.int x2), none] [] s Post) (x1 : Int32) (xs0 : Int32) (s : gs) (w : w172_98 c d Post K15 x1 xs0 s) : tV c d 172 98 [some (.ref 48), some (.int x1), none, none] [.int xs0] s Post := by
  intro h hR
  have hk : ∀ pc i, gm_find gk_172 pc = some i → gm_code (gt_T c.1 c.2.1 c.2.2.1) 172 pc = some i := fun _ _ z => z
  unfold w172_98 at w
  unfold gV
  refine gw_pst hk 3 (st' := (15, [some (.ref 48), some (.int (x1 + 1)), some (.int xs0), none], [], h)) rfl ?_
  exact hK15 _ _ _ w _ hR
def w172_93 (c : gx) (d : Nat) (Post : Option Value → gs → Prop) (K15 : Int32 → Int32 → gs → Prop) (x1 : Int32) (s : gs) : Prop :=
  w172_98 c d Post K15 x1 1 s
theorem ok172_93 (c : gx) (d : Nat) (Post : Option Value → gs → Prop) (K15 : Int32 → Int32 → gs → Prop)  (hK15 : ∀ (x1 : Int32) (x2 : Int32) (s : gs), K15 x1 x2 s → tV c d 172 15 [some (.ref 48), some (.int x1), some (.int x2), none] [] s Post) (x1 : Int32) (s : gs) (w : w172_93 c d Post K15 x1 s) : tV c d 172 93 [some (.ref 48), some (.int x1), none, none] [] s Post := by
  intro h hR
  have hk : ∀ pc i, gm_find gk_172 pc = some i → gm_code (gt_T c.1 c.2.1 c.2.2.1) 172 pc = some i := fun _ _ z => z
  unfold w172_93 at w
  unfold gV
  refine gw_pst hk 2 (st' := (98, [some (.ref 48), some (.int x1), none, none], [.int 1], h)) rfl ?_
  exact ok172_98 c d Post K15 hK15 _ _ _ w _ hR
def wb172_126 (c : gx) (d : Nat) (Post : Option Value → gs → Prop) (K126 : Int32 → Int32 → gs → Prop) (x1 : Int32) (x3 : Int32) (s : gs) : Prop :=
  ((x1 ≤ x3 → vp_in 1 108 ∧ ∀ s_3 : gs, s_3 = gs_A s 49 (1 : Int32).toNatClampNeg (vp_nar .int 0) → vp_in 2 108 ∧ ∀ s_5 : gs, s_5 = gs_A s_3 49 (2 : Int32).toNatClampNeg (vp_nar .int (x1 - 1)) → ∀ s_6 : gs, s_6 = gs_V s_5 48 26 0 → vp_in 0 2 ∧ ∀ s_8 : gs, s_8 = gs_A s_6 72 (0 : Int32).toNatClampNeg (vp_nar .boolean 0) → vp_in 1 2 ∧ ∀ s_10 : gs, s_10 = gs_A s_8 72 (1 : Int32).toNatClampNeg (vp_nar .boolean 0) → Post (some (.int x1)) s_10) ∧ (¬ (x1 ≤ x3) → vp_in x3 12 ∧ vp_in x3 12 ∧ ∀ s_14 : gs, s_14 = gs_A s 50 (x3 : Int32).toNatClampNeg (vp_nar .int (gsA s 59 (x3 : Int32).toNatClampNeg)) → vp_in x3 12 ∧ vp_in x3 12 ∧ ∀ s_18 : gs, s_18 = gs_A s_14 51 (x3 : Int32).toNatClampNeg (vp_nar .boolean (gsA s_14 60 (x3 : Int32).toNatClampNeg)) → K126 x1 (x3 + 1) s_18))
theorem okb172_126 (c : gx) (d : Nat) (Post : Option Value → gs → Prop) (K126 : Int32 → Int32 → gs → Prop)  (hK126 : ∀ (x1 : Int32) (x3 : Int32) (s : gs), K126 x1 x3 s → tV c d 172 126 [some (.ref 48), some (.int x1), none, some (.int x3)] [] s Post) (x1 : Int32) (x3 : Int32) (s : gs) (w : wb172_126 c d Post K126 x1 x3 s) : tV c d 172 126 [some (.ref 48), some (.int x1), none, some (.int x3)] [] s Post := by
  intro h hR
  have hk : ∀ pc i, gm_find gk_172 pc = some i → gm_code (gt_T c.1 c.2.1 c.2.2.1) 172 pc = some i := fun _ _ z => z
  unfold wb172_126 at w
  unfold gV
  refine gw_pst hk 2 (st' := (128, [some (.ref 48), some (.int x1), none, some (.int x3)], [.int x1, .int x3], h)) rfl ?_
  refine gw_br (c := x1 ≤ x3) (a := (161, [some (.ref 48), some (.int x1), none, some (.int x3)], [], h)) (b := (131, [some (.ref 48), some (.int x1), none, some (.int x3)], [], h)) (hk _ _ rfl) rfl ⟨fun z1 => ?_, fun z1 => ?_⟩
  · replace w := w.1 z1
    refine gw_pst hk 1 (st' := (162, [some (.ref 48), some (.int x1), none, some (.int x3)], [.ref 48], h)) rfl ?_
    refine gw_gf (hk _ _ rfl) (RL_fR (n := 49) hR rfl) ?_
    refine gw_pst hk 2 (st' := (167, [some (.ref 48), some (.int x1), none, some (.int x3)], [.int 0, .int 1, .ref 49], h)) rfl ?_
    obtain ⟨b3, w⟩ := w
    have hR3 := RL_pA (a := 49) (t := 0) (n := 108) (k := (1 : Int32).toNatClampNeg) (x := (vp_nar .int 0)) hR rfl (by decide)
    refine gw_ast (hk _ _ rfl) (Or.inl ⟨rfl, rfl, rfl⟩) (RL_a (t := 0) (n := 108) hR rfl (by decide)) b3 ?_
    generalize gm_put h _ _ = h at hR3 ⊢
    obtain ⟨s_3, es3⟩ : ∃ z, z = gs_A s 49 (1 : Int32).toNatClampNeg (vp_nar .int 0) := ⟨_, rfl⟩
    rw [← es3] at hR3
    replace w := w s_3 es3
    replace hR := hR3
    refine gw_pst hk 1 (st' := (169, [some (.ref 48), some (.int x1), none, some (.int x3)], [.ref 48], h)) rfl ?_
    refine gw_gf (hk _ _ rfl) (RL_fR (n := 49) hR rfl) ?_
    refine gw_pst hk 4 (st' := (176, [some (.ref 48), some (.int x1), none, some (.int x3)], [.int (x1 - 1), .int 2, .ref 49], h)) rfl ?_
    obtain ⟨b5, w⟩ := w
    have hR5 := RL_pA (a := 49) (t := 0) (n := 108) (k := (2 : Int32).toNatClampNeg) (x := (vp_nar .int (x1 - 1))) hR rfl (by decide)
    refine gw_ast (hk _ _ rfl) (Or.inl ⟨rfl, rfl, rfl⟩) (RL_a (t := 0) (n := 108) hR rfl (by decide)) b5 ?_
    generalize gm_put h _ _ = h at hR5 ⊢
    obtain ⟨s_5, es5⟩ : ∃ z, z = gs_A s_3 49 (2 : Int32).toNatClampNeg (vp_nar .int (x1 - 1)) := ⟨_, rfl⟩
    rw [← es5] at hR5
    replace w := w s_5 es5
    replace hR := hR5
    refine gw_pst hk 2 (st' := (179, [some (.ref 48), some (.int x1), none, some (.int x3)], [.int 0, .ref 48], h)) rfl ?_
    obtain ⟨fs6, e6⟩ := RL_o hR (r := 48) (ci := 10) rfl
    obtain ⟨l6, hR6⟩ := RL_pI (k := 26) (x := 0) hR rfl e6
    refine gw_pf (hk _ _ rfl) e6 l6 rfl ?_
    generalize gm_put h _ _ = h at hR6 ⊢
    obtain ⟨s_6, es6⟩ : ∃ z, z = gs_V s_5 48 26 0 := ⟨_, rfl⟩
    rw [← es6] at hR6
    replace w := w s_6 es6
    replace hR := hR6
    refine gw_pst hk 1 (st' := (183, [some (.ref 48), some (.int x1), none, some (.int x3)], [.ref 48], h)) rfl ?_
    refine gw_gf (hk _ _ rfl) (RL_fR (n := 72) hR rfl) ?_
    refine gw_pst hk 2 (st' := (188, [some (.ref 48), some (.int x1), none, some (.int x3)], [.int 0, .int 0, .ref 72], h)) rfl ?_
    obtain ⟨b8, w⟩ := w
    have hR8 := RL_pA (a := 72) (t := 4) (n := 2) (k := (0 : Int32).toNatClampNeg) (x := (vp_nar .boolean 0)) hR rfl (by decide)
    refine gw_ast (hk _ _ rfl) (Or.inr (Or.inr (Or.inr ⟨rfl, rfl, rfl, rfl⟩))) (RL_a (t := 4) (n := 2) hR rfl (by decide)) b8 ?_
    generalize gm_put h _ _ = h at hR8 ⊢
    obtain ⟨s_8, es8⟩ : ∃ z, z = gs_A s_6 72 (0 : Int32).toNatClampNeg (vp_nar .boolean 0) := ⟨_, rfl⟩
    rw [← es8] at hR8
    replace w := w s_8 es8
    replace hR := hR8
    refine gw_pst hk 1 (st' := (190, [some (.ref 48), some (.int x1), none, some (.int x3)], [.ref 48], h)) rfl ?_
    refine gw_gf (hk _ _ rfl) (RL_fR (n := 72) hR rfl) ?_
    refine gw_pst hk 2 (st' := (195, [some (.ref 48), some (.int x1), none, some (.int x3)], [.int 0, .int 1, .ref 72], h)) rfl ?_
    obtain ⟨b10, w⟩ := w
    have hR10 := RL_pA (a := 72) (t := 4) (n := 2) (k := (1 : Int32).toNatClampNeg) (x := (vp_nar .boolean 0)) hR rfl (by decide)
    refine gw_ast (hk _ _ rfl) (Or.inr (Or.inr (Or.inr ⟨rfl, rfl, rfl, rfl⟩))) (RL_a (t := 4) (n := 2) hR rfl (by decide)) b10 ?_
    generalize gm_put h _ _ = h at hR10 ⊢
    obtain ⟨s_10, es10⟩ : ∃ z, z = gs_A s_8 72 (1 : Int32).toNatClampNeg (vp_nar .boolean 0) := ⟨_, rfl⟩
    rw [← es10] at hR10
    replace w := w s_10 es10
    replace hR := hR10
    refine gw_pst hk 1 (st' := (197, [some (.ref 48), some (.int x1), none, some (.int x3)], [.int x1], h)) rfl ?_
    exact gw_ret (hk _ _ rfl) rfl ⟨_, hR, w⟩
  · replace w := w.2 z1
    refine gw_pst hk 1 (st' := (132, [some (.ref 48), some (.int x1), none, some (.int x3)], [.ref 48], h)) rfl ?_
    refine gw_gf (hk _ _ rfl) (RL_fR (n := 50) hR rfl) ?_
    refine gw_pst hk 2 (st' := (137, [some (.ref 48), some (.int x1), none, some (.int x3)], [.ref 48, .int x3, .ref 50], h)) rfl ?_
    refine gw_gf (hk _ _ rfl) (RL_fR (n := 59) hR rfl) ?_
    refine gw_pst hk 1 (st' := (141, [some (.ref 48), some (.int x1), none, some (.int x3)], [.int x3, .ref 59, .int x3, .ref 50], h)) rfl ?_
    obtain ⟨b13, w⟩ := w
    refine gw_ald (hk _ _ rfl) (Or.inl ⟨rfl, rfl⟩) (RL_a (t := 0) (n := 12) hR rfl (by decide)) b13 ?_
    obtain ⟨b14, w⟩ := w
    have hR14 := RL_pA (a := 50) (t := 0) (n := 12) (k := (x3 : Int32).toNatClampNeg) (x := (vp_nar .int (gsA s 59 (x3 : Int32).toNatClampNeg))) hR rfl (by decide)
    refine gw_ast (hk _ _ rfl) (Or.inl ⟨rfl, rfl, rfl⟩) (RL_a (t := 0) (n := 12) hR rfl (by decide)) b14 ?_
    generalize gm_put h _ _ = h at hR14 ⊢
    obtain ⟨s_14, es14⟩ : ∃ z, z = gs_A s 50 (x3 : Int32).toNatClampNeg (vp_nar .int (gsA s 59 (x3 : Int32).toNatClampNeg)) := ⟨_, rfl⟩
    rw [← es14] at hR14
    replace w := w s_14 es14
    replace hR := hR14
    refine gw_pst hk 1 (st' := (144, [some (.ref 48), some (.int x1), none, some (.int x3)], [.ref 48], h)) rfl ?_
    refine gw_gf (hk _ _ rfl) (RL_fR (n := 51) hR rfl) ?_
    refine gw_pst hk 2 (st' := (149, [some (.ref 48), some (.int x1), none, some (.int x3)], [.ref 48, .int x3, .ref 51], h)) rfl ?_
    refine gw_gf (hk _ _ rfl) (RL_fR (n := 60) hR rfl) ?_
    refine gw_pst hk 1 (st' := (153, [some (.ref 48), some (.int x1), none, some (.int x3)], [.int x3, .ref 60, .int x3, .ref 51], h)) rfl ?_
    obtain ⟨b17, w⟩ := w
    refine gw_ald (hk _ _ rfl) (Or.inr (Or.inr ⟨rfl, rfl, Or.inr rfl⟩)) (RL_a (t := 4) (n := 12) hR rfl (by decide)) b17 ?_
    obtain ⟨b18, w⟩ := w
    have hR18 := RL_pA (a := 51) (t := 4) (n := 12) (k := (x3 : Int32).toNatClampNeg) (x := (vp_nar .boolean (gsA s_14 60 (x3 : Int32).toNatClampNeg))) hR rfl (by decide)
    refine gw_ast (hk _ _ rfl) (Or.inr (Or.inr (Or.inr ⟨rfl, rfl, rfl, rfl⟩))) (RL_a (t := 4) (n := 12) hR rfl (by decide)) b18 ?_
    generalize gm_put h _ _ = h at hR18 ⊢
    obtain ⟨s_18, es18⟩ : ∃ z, z = gs_A s_14 51 (x3 : Int32).toNatClampNeg (vp_nar .boolean (gsA s_14 60 (x3 : Int32).toNatClampNeg)) := ⟨_, rfl⟩
    rw [← es18] at hR18
    replace w := w s_18 es18
    replace hR := hR18
    refine gw_pst hk 2 (st' := (126, [some (.ref 48), some (.int x1), none, some (.int (x3 + 1))], [], h)) rfl ?_
    exact hK126 _ _ _ w _ hR
def wl172_126 (c : gx) (d : Nat) (Post : Option Value → gs → Prop) : Nat → Int32 → Int32 → gs → Prop
  | 0 => fun _ _ _ => False
  | n + 1 => wb172_126 c d Post (wl172_126 c d Post n)
theorem okl172_126 (c : gx) (d : Nat) (Post : Option Value → gs → Prop) : ∀ (n : Nat) (x1 : Int32) (x3 : Int32) (s : gs), wl172_126 c d Post n x1 x3 s → tV c d 172 126 [some (.ref 48), some (.int x1), none, some (.int x3)] [] s Post
  | 0, _, _, _, w => w.elim
  | n + 1, x1, x3, s, w => okb172_126 c d Post (wl172_126 c d Post n) (okl172_126 c d Post n) x1 x3 s w
def w172_105 (c : gx) (d : Nat) (Post : Option Value → gs → Prop) (x1 : Int32) (s : gs) : Prop :=
  tE c d 171 [.ref 48] s (fun v1 s_1 => ∃ x_1 : Int32, v1 = some (.int x_1) ∧ ((x_1 = 0 → Post (some (.int ((-1) - (gsV s_1 48 18)))) s_1) ∧ (¬ (x_1 = 0) → ∀ s_4 : gs, s_4 = gs_V s_1 48 1 x1 → ∃ n, wl172_126 c d Post n x1 0 s_4)))
theorem ok172_105 (c : gx) (d : Nat) (Post : Option Value → gs → Prop)  (x1 : Int32) (s : gs) (w : w172_105 c d Post x1 s) : tV c d 172 105 [some (.ref 48), some (.int x1), none, none] [] s Post := by
  intro h hR
  have hk : ∀ pc i, gm_find gk_172 pc = some i → gm_code (gt_T c.1 c.2.1 c.2.2.1) 172 pc = some i := fun _ _ z => z
  unfold w172_105 at w
  unfold gV
  refine gw_pst hk 1 (st' := (106, [some (.ref 48), some (.int x1), none, none], [.ref 48], h)) rfl ?_
  obtain ⟨fs1, e1⟩ := RL_o hR (r := 48) (ci := 10) rfl
  refine gw_call (jj := 171) (As := [.ref 48]) (rest := []) (hk _ _ rfl) (fun _ => rfl) rfl rfl (Nat.le_of_ble_eq_true rfl) (gm_rcv_v rfl e1 rfl) ?_
  refine ge_imp (w h hR) (fun v1 h w => ?_)
  obtain ⟨s_1, hR, x_1, rfl, w⟩ := w
  show gw (gt_T c.1 c.2.1 c.2.2.1) c.2.2.2 d 172 (109, [some (.ref 48), some (.int x1), none, none], [.int x_1], h) _
  refine gw_br (c := x_1 = 0) (a := (112, [some (.ref 48), some (.int x1), none, none], [], h)) (b := (119, [some (.ref 48), some (.int x1), none, none], [], h)) (hk _ _ rfl) rfl ⟨fun z2 => ?_, fun z2 => ?_⟩
  · replace w := w.1 z2
    refine gw_pst hk 2 (st' := (114, [some (.ref 48), some (.int x1), none, none], [.ref 48, .int (-1)], h)) rfl ?_
    refine gw_gf (hk _ _ rfl) (RL_fI hR rfl) ?_
    refine gw_pst hk 1 (st' := (118, [some (.ref 48), some (.int x1), none, none], [.int ((-1) - (gsV s_1 48 18))], h)) rfl ?_
    exact gw_ret (hk _ _ rfl) rfl ⟨_, hR, w⟩
  · replace w := w.2 z2
    refine gw_pst hk 2 (st' := (121, [some (.ref 48), some (.int x1), none, none], [.int x1, .ref 48], h)) rfl ?_
    obtain ⟨fs4, e4⟩ := RL_o hR (r := 48) (ci := 10) rfl
    obtain ⟨l4, hR4⟩ := RL_pI (k := 1) (x := x1) hR rfl e4
    refine gw_pf (hk _ _ rfl) e4 l4 rfl ?_
    generalize gm_put h _ _ = h at hR4 ⊢
    obtain ⟨s_4, es4⟩ : ∃ z, z = gs_V s_1 48 1 x1 := ⟨_, rfl⟩
    rw [← es4] at hR4
    replace w := w s_4 es4
    replace hR := hR4
    refine gw_pst hk 2 (st' := (126, [some (.ref 48), some (.int x1), none, some (.int 0)], [], h)) rfl ?_
    obtain ⟨n, w⟩ := w
    exact okl172_126 c d Post n _ _ _ w _ hR
def wb172_15 (c : gx) (d : Nat) (Post : Option Value → gs → Prop) (K15 : Int32 → Int32 → gs → Prop) (x1 : Int32) (x2 : Int32) (s : gs) : Prop :=
  ((x2 = 0 → w172_105 c d Post x1 s) ∧ (¬ (x2 = 0) → tE c d 165 [.ref 48] s (fun v2 s_2 => ∃ x_2 : Int32, v2 = some (.int x_2) ∧ ((x_2 = 0 → w172_105 c d Post x1 s_2) ∧ (¬ (x_2 = 0) → ((x1 = 12 → tE c d 166 [.ref 48, .int (gsV s_2 48 17)] s_2 (fun v6 s_6 => v6 = none ∧ K15 x1 x2 s_6)) ∧ (¬ (x1 = 12) → tE c d 169 [.ref 48, .int 48, .int 10] s_2 (fun v8 s_8 => ∃ x_8 : Int32, v8 = some (.int x_8) ∧ vp_in x1 12 ∧ ∀ s_9 : gs, s_9 = gs_A s_8 59 (x1 : Int32).toNatClampNeg (vp_nar .int x_8) → tE c d 167 [.ref 48, .int 126] s_9 (fun v11 s_11 => ∃ x_11 : Int32, v11 = some (.int x_11) ∧ vp_in x1 12 ∧ ∀ s_12 : gs, s_12 = gs_A s_11 60 (x1 : Int32).toNatClampNeg (vp_nar .boolean x_11) → vp_in x1 12 ∧ (((gsA s_12 60 (x1 : Int32).toNatClampNeg) = 0 → ((x1 = 0 → w172_93 c d Post K15 x1 s_12) ∧ (¬ (x1 = 0) → (((gsV s_12 48 15) ≤ (gsV s_12 48 17) → w172_98 c d Post K15 x1 0 s_12) ∧ (¬ ((gsV s_12 48 15) ≤ (gsV s_12 48 17)) → w172_93 c d Post K15 x1 s_12))))) ∧ (¬ ((gsA s_12 60 (x1 : Int32).toNatClampNeg) = 0) → w172_93 c d Post K15 x1 s_12)))))))))))
theorem okb172_15 (c : gx) (d : Nat) (Post : Option Value → gs → Prop) (K15 : Int32 → Int32 → gs → Prop)  (hK15 : ∀ (x1 : Int32) (x2 : Int32) (s : gs), K15 x1 x2 s → tV c d 172 15 [some (.ref 48), some (.int x1), some (.int x2), none] [] s Post) (x1 : Int32) (x2 : Int32) (s : gs) (w : wb172_15 c d Post K15 x1 x2 s) : tV c d 172 15 [some (.ref 48), some (.int x1), some (.int x2), none] [] s Post := by
  intro h hR
  have hk : ∀ pc i, gm_find gk_172 pc = some i → gm_code (gt_T c.1 c.2.1 c.2.2.1) 172 pc = some i := fun _ _ z => z
  unfold wb172_15 at w
  unfold gV
  refine gw_pst hk 1 (st' := (16, [some (.ref 48), some (.int x1), some (.int x2), none], [.int x2], h)) rfl ?_
  refine gw_br (c := x2 = 0) (a := (105, [some (.ref 48), some (.int x1), some (.int x2), none], [], h)) (b := (19, [some (.ref 48), some (.int x1), some (.int x2), none], [], h)) (hk _ _ rfl) rfl ⟨fun z1 => ?_, fun z1 => ?_⟩
  · replace w := w.1 z1
    refine gw_le (L' := [some (.ref 48), some (.int x1), none, none]) (gm_le_k _ (gm_le_k _ (gm_le_n _ (gm_le_k _ gm_le_nil)))) ?_
    exact ok172_105 c d Post _ _ w _ hR
  · replace w := w.2 z1
    refine gw_pst hk 1 (st' := (20, [some (.ref 48), some (.int x1), some (.int x2), none], [.ref 48], h)) rfl ?_
    obtain ⟨fs2, e2⟩ := RL_o hR (r := 48) (ci := 10) rfl
    refine gw_call (jj := 165) (As := [.ref 48]) (rest := []) (hk _ _ rfl) (fun _ => rfl) rfl rfl (Nat.le_of_ble_eq_true rfl) (gm_rcv_v rfl e2 rfl) ?_
    refine ge_imp (w h hR) (fun v2 h w => ?_)
    obtain ⟨s_2, hR, x_2, rfl, w⟩ := w
    show gw (gt_T c.1 c.2.1 c.2.2.1) c.2.2.2 d 172 (23, [some (.ref 48), some (.int x1), some (.int x2), none], [.int x_2], h) _
    refine gw_br (c := x_2 = 0) (a := (105, [some (.ref 48), some (.int x1), some (.int x2), none], [], h)) (b := (26, [some (.ref 48), some (.int x1), some (.int x2), none], [], h)) (hk _ _ rfl) rfl ⟨fun z3 => ?_, fun z3 => ?_⟩
    · replace w := w.1 z3
      refine gw_le (L' := [some (.ref 48), some (.int x1), none, none]) (gm_le_k _ (gm_le_k _ (gm_le_n _ (gm_le_k _ gm_le_nil)))) ?_
      exact ok172_105 c d Post _ _ w _ hR
    · replace w := w.2 z3
      refine gw_pst hk 2 (st' := (29, [some (.ref 48), some (.int x1), some (.int x2), none], [.int 12, .int x1], h)) rfl ?_
      refine gw_br (c := x1 = 12) (a := (32, [some (.ref 48), some (.int x1), some (.int x2), none], [], h)) (b := (43, [some (.ref 48), some (.int x1), some (.int x2), none], [], h)) (hk _ _ rfl) rfl ⟨fun z4 => ?_, fun z4 => ?_⟩
      · replace w := w.1 z4
        refine gw_pst hk 2 (st' := (34, [some (.ref 48), some (.int x1), some (.int x2), none], [.ref 48, .ref 48], h)) rfl ?_
        refine gw_gf (hk _ _ rfl) (RL_fI hR rfl) ?_
        obtain ⟨fs6, e6⟩ := RL_o hR (r := 48) (ci := 10) rfl
        refine gw_call (jj := 166) (As := [.ref 48, .int (gsV s_2 48 17)]) (rest := []) (hk _ _ rfl) (fun _ => rfl) rfl rfl (Nat.le_of_ble_eq_true rfl) (gm_rcv_v rfl e6 rfl) ?_
        refine ge_imp (w h hR) (fun v6 h w => ?_)
        obtain ⟨s_6, hR, rfl, w⟩ := w
        show gw (gt_T c.1 c.2.1 c.2.2.1) c.2.2.2 d 172 (40, [some (.ref 48), some (.int x1), some (.int x2), none], [], h) _
        refine gw_pst hk 1 (st' := (15, [some (.ref 48), some (.int x1), some (.int x2), none], [], h)) rfl ?_
        exact hK15 _ _ _ w _ hR
      · replace w := w.2 z4
        refine gw_pst hk 1 (st' := (44, [some (.ref 48), some (.int x1), some (.int x2), none], [.ref 48], h)) rfl ?_
        refine gw_gf (hk _ _ rfl) (RL_fR (n := 59) hR rfl) ?_
        refine gw_pst hk 4 (st' := (53, [some (.ref 48), some (.int x1), some (.int x2), none], [.int 10, .int 48, .ref 48, .int x1, .ref 59], h)) rfl ?_
        obtain ⟨fs8, e8⟩ := RL_o hR (r := 48) (ci := 10) rfl
        refine gw_call (jj := 169) (As := [.ref 48, .int 48, .int 10]) (rest := [.int x1, .ref 59]) (hk _ _ rfl) (fun _ => rfl) rfl rfl (Nat.le_of_ble_eq_true rfl) (gm_rcv_v rfl e8 rfl) ?_
        refine ge_imp (w h hR) (fun v8 h w => ?_)
        obtain ⟨s_8, hR, x_8, rfl, w⟩ := w
        show gw (gt_T c.1 c.2.1 c.2.2.1) c.2.2.2 d 172 (56, [some (.ref 48), some (.int x1), some (.int x2), none], [.int x_8, .int x1, .ref 59], h) _
        obtain ⟨b9, w⟩ := w
        have hR9 := RL_pA (a := 59) (t := 0) (n := 12) (k := (x1 : Int32).toNatClampNeg) (x := (vp_nar .int x_8)) hR rfl (by decide)
        refine gw_ast (hk _ _ rfl) (Or.inl ⟨rfl, rfl, rfl⟩) (RL_a (t := 0) (n := 12) hR rfl (by decide)) b9 ?_
        generalize gm_put h _ _ = h at hR9 ⊢
        obtain ⟨s_9, es9⟩ : ∃ z, z = gs_A s_8 59 (x1 : Int32).toNatClampNeg (vp_nar .int x_8) := ⟨_, rfl⟩
        rw [← es9] at hR9
        replace w := w s_9 es9
        replace hR := hR9
        refine gw_pst hk 1 (st' := (58, [some (.ref 48), some (.int x1), some (.int x2), none], [.ref 48], h)) rfl ?_
        refine gw_gf (hk _ _ rfl) (RL_fR (n := 60) hR rfl) ?_
        refine gw_pst hk 3 (st' := (65, [some (.ref 48), some (.int x1), some (.int x2), none], [.int 126, .ref 48, .int x1, .ref 60], h)) rfl ?_
        obtain ⟨fs11, e11⟩ := RL_o hR (r := 48) (ci := 10) rfl
        refine gw_call (jj := 167) (As := [.ref 48, .int 126]) (rest := [.int x1, .ref 60]) (hk _ _ rfl) (fun _ => rfl) rfl rfl (Nat.le_of_ble_eq_true rfl) (gm_rcv_v rfl e11 rfl) ?_
        refine ge_imp (w h hR) (fun v11 h w => ?_)
        obtain ⟨s_11, hR, x_11, rfl, w⟩ := w
        show gw (gt_T c.1 c.2.1 c.2.2.1) c.2.2.2 d 172 (68, [some (.ref 48), some (.int x1), some (.int x2), none], [.int x_11, .int x1, .ref 60], h) _
        obtain ⟨b12, w⟩ := w
        have hR12 := RL_pA (a := 60) (t := 4) (n := 12) (k := (x1 : Int32).toNatClampNeg) (x := (vp_nar .boolean x_11)) hR rfl (by decide)
        refine gw_ast (hk _ _ rfl) (Or.inr (Or.inr (Or.inr ⟨rfl, rfl, rfl, rfl⟩))) (RL_a (t := 4) (n := 12) hR rfl (by decide)) b12 ?_
        generalize gm_put h _ _ = h at hR12 ⊢
        obtain ⟨s_12, es12⟩ : ∃ z, z = gs_A s_11 60 (x1 : Int32).toNatClampNeg (vp_nar .boolean x_11) := ⟨_, rfl⟩
        rw [← es12] at hR12
        replace w := w s_12 es12
        replace hR := hR12
        refine gw_pst hk 1 (st' := (70, [some (.ref 48), some (.int x1), some (.int x2), none], [.ref 48], h)) rfl ?_
        refine gw_gf (hk _ _ rfl) (RL_fR (n := 60) hR rfl) ?_
        refine gw_pst hk 1 (st' := (74, [some (.ref 48), some (.int x1), some (.int x2), none], [.int x1, .ref 60], h)) rfl ?_
        obtain ⟨b14, w⟩ := w
        refine gw_ald (hk _ _ rfl) (Or.inr (Or.inr ⟨rfl, rfl, Or.inr rfl⟩)) (RL_a (t := 4) (n := 12) hR rfl (by decide)) b14 ?_
        refine gw_br (c := (gsA s_12 60 (x1 : Int32).toNatClampNeg) = 0) (a := (78, [some (.ref 48), some (.int x1), some (.int x2), none], [], h)) (b := (93, [some (.ref 48), some (.int x1), some (.int x2), none], [], h)) (hk _ _ rfl) rfl ⟨fun z15 => ?_, fun z15 => ?_⟩
        · replace w := w.1 z15
          refine gw_pst hk 1 (st' := (79, [some (.ref 48), some (.int x1), some (.int x2), none], [.int x1], h)) rfl ?_
          refine gw_br (c := x1 = 0) (a := (93, [some (.ref 48), some (.int x1), some (.int x2), none], [], h)) (b := (82, [some (.ref 48), some (.int x1), some (.int x2), none], [], h)) (hk _ _ rfl) rfl ⟨fun z16 => ?_, fun z16 => ?_⟩
          · replace w := w.1 z16
            refine gw_le (L' := [some (.ref 48), some (.int x1), none, none]) (gm_le_k _ (gm_le_k _ (gm_le_n _ (gm_le_k _ gm_le_nil)))) ?_
            exact ok172_93 c d Post K15 hK15 _ _ w _ hR
          · replace w := w.2 z16
            refine gw_pst hk 1 (st' := (83, [some (.ref 48), some (.int x1), some (.int x2), none], [.ref 48], h)) rfl ?_
            refine gw_gf (hk _ _ rfl) (RL_fI hR rfl) ?_
            refine gw_pst hk 1 (st' := (87, [some (.ref 48), some (.int x1), some (.int x2), none], [.ref 48, .int (gsV s_12 48 17)], h)) rfl ?_
            refine gw_gf (hk _ _ rfl) (RL_fI hR rfl) ?_
            refine gw_br (c := (gsV s_12 48 15) ≤ (gsV s_12 48 17)) (a := (97, [some (.ref 48), some (.int x1), some (.int x2), none], [], h)) (b := (93, [some (.ref 48), some (.int x1), some (.int x2), none], [], h)) (hk _ _ rfl) rfl ⟨fun z19 => ?_, fun z19 => ?_⟩
            · replace w := w.1 z19
              refine gw_pst hk 1 (st' := (98, [some (.ref 48), some (.int x1), some (.int x2), none], [.int 0], h)) rfl ?_
              refine gw_le (L' := [some (.ref 48), some (.int x1), none, none]) (gm_le_k _ (gm_le_k _ (gm_le_n _ (gm_le_k _ gm_le_nil)))) ?_
              exact ok172_98 c d Post K15 hK15 _ _ _ w _ hR
            · replace w := w.2 z19
              refine gw_le (L' := [some (.ref 48), some (.int x1), none, none]) (gm_le_k _ (gm_le_k _ (gm_le_n _ (gm_le_k _ gm_le_nil)))) ?_
              exact ok172_93 c d Post K15 hK15 _ _ w _ hR
        · replace w := w.2 z15
          refine gw_le (L' := [some (.ref 48), some (.int x1), none, none]) (gm_le_k _ (gm_le_k _ (gm_le_n _ (gm_le_k _ gm_le_nil)))) ?_
          exact ok172_93 c d Post K15 hK15 _ _ w _ hR
def wl172_15 (c : gx) (d : Nat) (Post : Option Value → gs → Prop) : Nat → Int32 → Int32 → gs → Prop
  | 0 => fun _ _ _ => False
  | n + 1 => wb172_15 c d Post (wl172_15 c d Post n)
theorem okl172_15 (c : gx) (d : Nat) (Post : Option Value → gs → Prop) : ∀ (n : Nat) (x1 : Int32) (x2 : Int32) (s : gs), wl172_15 c d Post n x1 x2 s → tV c d 172 15 [some (.ref 48), some (.int x1), some (.int x2), none] [] s Post
  | 0, _, _, _, w => w.elim
  | n + 1, x1, x2, s, w => okb172_15 c d Post (wl172_15 c d Post n) (okl172_15 c d Post n) x1 x2 s w
/-- CommandByTurnsModel.ground()I -/
def wm172 (c : gx) (d : Nat) (Post : Option Value → gs → Prop)  (s : gs) : Prop :=
  ∀ s_1 : gs, s_1 = gs_V s 48 13 0 → tE c d 163 [.ref 48, .int 80] s_1 (fun v2 s_2 => v2 = none ∧ ∃ n, wl172_15 c d Post n 0 1 s_2)
theorem okm172 (c : gx) (d : Nat) (Post : Option Value → gs → Prop)  (s : gs) (w : wm172 c d Post  s) : tE c (d + 1) 172 [.ref 48] s Post := by
  intro h hR
  have hk : ∀ pc i, gm_find gk_172 pc = some i → gm_code (gt_T c.1 c.2.1 c.2.2.1) 172 pc = some i := fun _ _ z => z
  unfold wm172 at w
  refine ge_of (by decide) (Nat.le_of_ble_eq_true rfl) ?_
  show gw (gt_T c.1 c.2.1 c.2.2.1) c.2.2.2 d 172 (0, [some (.ref 48), none, none, none], [], h) _
  refine gw_pst hk 2 (st' := (2, [some (.ref 48), none, none, none], [.int 0, .ref 48], h)) rfl ?_
  obtain ⟨fs1, e1⟩ := RL_o hR (r := 48) (ci := 10) rfl
  obtain ⟨l1, hR1⟩ := RL_pI (k := 13) (x := 0) hR rfl e1
  refine gw_pf (hk _ _ rfl) e1 l1 rfl ?_
  generalize gm_put h _ _ = h at hR1 ⊢
  obtain ⟨s_1, es1⟩ : ∃ z, z = gs_V s 48 13 0 := ⟨_, rfl⟩
  rw [← es1] at hR1
  replace w := w s_1 es1
  replace hR := hR1
  refine gw_pst hk 2 (st' := (8, [some (.ref 48), none, none, none], [.int 80, .ref 48], h)) rfl ?_
  obtain ⟨fs2, e2⟩ := RL_o hR (r := 48) (ci := 10) rfl
  refine gw_call (jj := 163) (As := [.ref 48, .int 80]) (rest := []) (hk _ _ rfl) (fun _ => rfl) rfl rfl (Nat.le_of_ble_eq_true rfl) (gm_rcv_v rfl e2 rfl) ?_
  refine ge_imp (w h hR) (fun v2 h w => ?_)
  obtain ⟨s_2, hR, rfl, w⟩ := w
  show gw (gt_T c.1 c.2.1 c.2.2.1) c.2.2.2 d 172 (11, [some (.ref 48), none, none, none], [], h) _
  refine gw_pst hk 4 (st' := (15, [some (.ref 48), some (.int 0), some (.int 1), none], [], h)) rfl ?_
  obtain ⟨n, w⟩ := w
  exact okl172_15 c d Post n _ _ _ w _ hR
def w173_54 (c : gx) (d : Nat) (Post : Option Value → gs → Prop) (x3 : Int32) (s : gs) : Prop :=
  Post (some (.int ((-1) - x3))) s
theorem ok173_54 (c : gx) (d : Nat) (Post : Option Value → gs → Prop)  (x3 : Int32) (s : gs) (w : w173_54 c d Post x3 s) : tV c d 173 54 [none, none, none, some (.int x3)] [] s Post := by
  intro h hR
  have hk : ∀ pc i, gm_find gk_173 pc = some i → gm_code (gt_T c.1 c.2.1 c.2.2.1) 173 pc = some i := fun _ _ z => z
  unfold w173_54 at w
  unfold gV
  refine gw_pst hk 3 (st' := (57, [none, none, none, some (.int x3)], [.int ((-1) - x3)], h)) rfl ?_
  exact gw_ret (hk _ _ rfl) rfl ⟨_, hR, w⟩
def wb173_72 (c : gx) (d : Nat) (Post : Option Value → gs → Prop) (K72 : Int32 → Int32 → Int32 → gs → Prop) (x1 : Int32) (x2 : Int32) (x3 : Int32) (s : gs) : Prop :=
  ((x2 ≤ x3 → vp_in 0 108 ∧ vp_in x1 2 ∧ ∀ s_5 : gs, s_5 = gs_A s 55 (x1 : Int32).toNatClampNeg (vp_nar .int (gsA s 49 (0 : Int32).toNatClampNeg)) → vp_in x1 2 ∧ ∀ s_7 : gs, s_7 = gs_A s_5 56 (x1 : Int32).toNatClampNeg (vp_nar .int x2) → Post (some (.int x2)) s_7) ∧ (¬ (x2 ≤ x3) → vp_in x3 80 ∧ vp_in ((20 * x1) + x3) 40 ∧ ∀ s_11 : gs, s_11 = gs_A s 54 ((20 * x1) + x3 : Int32).toNatClampNeg (vp_nar .int ((gsA s 57 (x3 : Int32).toNatClampNeg) - 48)) → K72 x1 x2 (x3 + 1) s_11))
theorem okb173_72 (c : gx) (d : Nat) (Post : Option Value → gs → Prop) (K72 : Int32 → Int32 → Int32 → gs → Prop)  (hK72 : ∀ (x1 : Int32) (x2 : Int32) (x3 : Int32) (s : gs), K72 x1 x2 x3 s → tV c d 173 72 [some (.ref 48), some (.int x1), some (.int x2), some (.int x3)] [] s Post) (x1 : Int32) (x2 : Int32) (x3 : Int32) (s : gs) (w : wb173_72 c d Post K72 x1 x2 x3 s) : tV c d 173 72 [some (.ref 48), some (.int x1), some (.int x2), some (.int x3)] [] s Post := by
  intro h hR
  have hk : ∀ pc i, gm_find gk_173 pc = some i → gm_code (gt_T c.1 c.2.1 c.2.2.1) 173 pc = some i := fun _ _ z => z
  unfold wb173_72 at w
  unfold gV
  refine gw_pst hk 2 (st' := (74, [some (.ref 48), some (.int x1), some (.int x2), some (.int x3)], [.int x2, .int x3], h)) rfl ?_
  refine gw_br (c := x2 ≤ x3) (a := (103, [some (.ref 48), some (.int x1), some (.int x2), some (.int x3)], [], h)) (b := (77, [some (.ref 48), some (.int x1), some (.int x2), some (.int x3)], [], h)) (hk _ _ rfl) rfl ⟨fun z1 => ?_, fun z1 => ?_⟩
  · replace w := w.1 z1
    refine gw_pst hk 1 (st' := (104, [some (.ref 48), some (.int x1), some (.int x2), some (.int x3)], [.ref 48], h)) rfl ?_
    refine gw_gf (hk _ _ rfl) (RL_fR (n := 55) hR rfl) ?_
    refine gw_pst hk 2 (st' := (109, [some (.ref 48), some (.int x1), some (.int x2), some (.int x3)], [.ref 48, .int x1, .ref 55], h)) rfl ?_
    refine gw_gf (hk _ _ rfl) (RL_fR (n := 49) hR rfl) ?_
    refine gw_pst hk 1 (st' := (113, [some (.ref 48), some (.int x1), some (.int x2), some (.int x3)], [.int 0, .ref 49, .int x1, .ref 55], h)) rfl ?_
    obtain ⟨b4, w⟩ := w
    refine gw_ald (hk _ _ rfl) (Or.inl ⟨rfl, rfl⟩) (RL_a (t := 0) (n := 108) hR rfl (by decide)) b4 ?_
    obtain ⟨b5, w⟩ := w
    have hR5 := RL_pA (a := 55) (t := 0) (n := 2) (k := (x1 : Int32).toNatClampNeg) (x := (vp_nar .int (gsA s 49 (0 : Int32).toNatClampNeg))) hR rfl (by decide)
    refine gw_ast (hk _ _ rfl) (Or.inl ⟨rfl, rfl, rfl⟩) (RL_a (t := 0) (n := 2) hR rfl (by decide)) b5 ?_
    generalize gm_put h _ _ = h at hR5 ⊢
    obtain ⟨s_5, es5⟩ : ∃ z, z = gs_A s 55 (x1 : Int32).toNatClampNeg (vp_nar .int (gsA s 49 (0 : Int32).toNatClampNeg)) := ⟨_, rfl⟩
    rw [← es5] at hR5
    replace w := w s_5 es5
    replace hR := hR5
    refine gw_pst hk 1 (st' := (116, [some (.ref 48), some (.int x1), some (.int x2), some (.int x3)], [.ref 48], h)) rfl ?_
    refine gw_gf (hk _ _ rfl) (RL_fR (n := 56) hR rfl) ?_
    refine gw_pst hk 2 (st' := (121, [some (.ref 48), some (.int x1), some (.int x2), some (.int x3)], [.int x2, .int x1, .ref 56], h)) rfl ?_
    obtain ⟨b7, w⟩ := w
    have hR7 := RL_pA (a := 56) (t := 0) (n := 2) (k := (x1 : Int32).toNatClampNeg) (x := (vp_nar .int x2)) hR rfl (by decide)
    refine gw_ast (hk _ _ rfl) (Or.inl ⟨rfl, rfl, rfl⟩) (RL_a (t := 0) (n := 2) hR rfl (by decide)) b7 ?_
    generalize gm_put h _ _ = h at hR7 ⊢
    obtain ⟨s_7, es7⟩ : ∃ z, z = gs_A s_5 56 (x1 : Int32).toNatClampNeg (vp_nar .int x2) := ⟨_, rfl⟩
    rw [← es7] at hR7
    replace w := w s_7 es7
    replace hR := hR7
    refine gw_pst hk 1 (st' := (123, [some (.ref 48), some (.int x1), some (.int x2), some (.int x3)], [.int x2], h)) rfl ?_
    exact gw_ret (hk _ _ rfl) rfl ⟨_, hR, w⟩
  · replace w := w.2 z1
    refine gw_pst hk 1 (st' := (78, [some (.ref 48), some (.int x1), some (.int x2), some (.int x3)], [.ref 48], h)) rfl ?_
    refine gw_gf (hk _ _ rfl) (RL_fR (n := 54) hR rfl) ?_
    refine gw_pst hk 6 (st' := (88, [some (.ref 48), some (.int x1), some (.int x2), some (.int x3)], [.ref 48, .int ((20 * x1) + x3), .ref 54], h)) rfl ?_
    refine gw_gf (hk _ _ rfl) (RL_fR (n := 57) hR rfl) ?_
    refine gw_pst hk 1 (st' := (92, [some (.ref 48), some (.int x1), some (.int x2), some (.int x3)], [.int x3, .ref 57, .int ((20 * x1) + x3), .ref 54], h)) rfl ?_
    obtain ⟨b10, w⟩ := w
    refine gw_ald (hk _ _ rfl) (Or.inr (Or.inr ⟨rfl, rfl, Or.inl rfl⟩)) (RL_a (t := 3) (n := 80) hR rfl (by decide)) b10 ?_
    refine gw_pst hk 2 (st' := (96, [some (.ref 48), some (.int x1), some (.int x2), some (.int x3)], [.int ((gsA s 57 (x3 : Int32).toNatClampNeg) - 48), .int ((20 * x1) + x3), .ref 54], h)) rfl ?_
    obtain ⟨b11, w⟩ := w
    have hR11 := RL_pA (a := 54) (t := 0) (n := 40) (k := ((20 * x1) + x3 : Int32).toNatClampNeg) (x := (vp_nar .int ((gsA s 57 (x3 : Int32).toNatClampNeg) - 48))) hR rfl (by decide)
    refine gw_ast (hk _ _ rfl) (Or.inl ⟨rfl, rfl, rfl⟩) (RL_a (t := 0) (n := 40) hR rfl (by decide)) b11 ?_
    generalize gm_put h _ _ = h at hR11 ⊢
    obtain ⟨s_11, es11⟩ : ∃ z, z = gs_A s 54 ((20 * x1) + x3 : Int32).toNatClampNeg (vp_nar .int ((gsA s 57 (x3 : Int32).toNatClampNeg) - 48)) := ⟨_, rfl⟩
    rw [← es11] at hR11
    replace w := w s_11 es11
    replace hR := hR11
    refine gw_pst hk 2 (st' := (72, [some (.ref 48), some (.int x1), some (.int x2), some (.int (x3 + 1))], [], h)) rfl ?_
    exact hK72 _ _ _ _ w _ hR
def wl173_72 (c : gx) (d : Nat) (Post : Option Value → gs → Prop) : Nat → Int32 → Int32 → Int32 → gs → Prop
  | 0 => fun _ _ _ _ => False
  | n + 1 => wb173_72 c d Post (wl173_72 c d Post n)
theorem okl173_72 (c : gx) (d : Nat) (Post : Option Value → gs → Prop) : ∀ (n : Nat) (x1 : Int32) (x2 : Int32) (x3 : Int32) (s : gs), wl173_72 c d Post n x1 x2 x3 s → tV c d 173 72 [some (.ref 48), some (.int x1), some (.int x2), some (.int x3)] [] s Post
  | 0, _, _, _, _, w => w.elim
  | n + 1, x1, x2, x3, s, w => okb173_72 c d Post (wl173_72 c d Post n) (okl173_72 c d Post n) x1 x2 x3 s w
def wb173_27 (c : gx) (d : Nat) (Post : Option Value → gs → Prop) (K27 : Int32 → Int32 → Int32 → gs → Prop) (x1 : Int32) (x2 : Int32) (x3 : Int32) (s : gs) : Prop :=
  ((x2 ≤ x3 → ((x2 = 0 → Post (some (.int (-1))) s) ∧ (¬ (x2 = 0) → ∃ n, wl173_72 c d Post n x1 x2 0 s))) ∧ (¬ (x2 ≤ x3) → ((x3 = 20 → w173_54 c d Post x3 s) ∧ (¬ (x3 = 20) → vp_in x3 80 ∧ tE c d 154 [.int (gsA s 57 (x3 : Int32).toNatClampNeg), .int 48, .int 57] s (fun v6 s_6 => ∃ x_6 : Int32, v6 = some (.int x_6) ∧ ((x_6 = 0 → w173_54 c d Post x3 s_6) ∧ (¬ (x_6 = 0) → K27 x1 x2 (x3 + 1) s_6)))))))
theorem okb173_27 (c : gx) (d : Nat) (Post : Option Value → gs → Prop) (K27 : Int32 → Int32 → Int32 → gs → Prop)  (hK27 : ∀ (x1 : Int32) (x2 : Int32) (x3 : Int32) (s : gs), K27 x1 x2 x3 s → tV c d 173 27 [some (.ref 48), some (.int x1), some (.int x2), some (.int x3)] [] s Post) (x1 : Int32) (x2 : Int32) (x3 : Int32) (s : gs) (w : wb173_27 c d Post K27 x1 x2 x3 s) : tV c d 173 27 [some (.ref 48), some (.int x1), some (.int x2), some (.int x3)] [] s Post := by
  intro h hR
  have hk : ∀ pc i, gm_find gk_173 pc = some i → gm_code (gt_T c.1 c.2.1 c.2.2.1) 173 pc = some i := fun _ _ z => z
  unfold wb173_27 at w
  unfold gV
  refine gw_pst hk 2 (st' := (29, [some (.ref 48), some (.int x1), some (.int x2), some (.int x3)], [.int x2, .int x3], h)) rfl ?_
  refine gw_br (c := x2 ≤ x3) (a := (64, [some (.ref 48), some (.int x1), some (.int x2), some (.int x3)], [], h)) (b := (32, [some (.ref 48), some (.int x1), some (.int x2), some (.int x3)], [], h)) (hk _ _ rfl) rfl ⟨fun z1 => ?_, fun z1 => ?_⟩
  · replace w := w.1 z1
    refine gw_pst hk 1 (st' := (65, [some (.ref 48), some (.int x1), some (.int x2), some (.int x3)], [.int x2], h)) rfl ?_
    refine gw_br (c := x2 = 0) (a := (68, [some (.ref 48), some (.int x1), some (.int x2), some (.int x3)], [], h)) (b := (70, [some (.ref 48), some (.int x1), some (.int x2), some (.int x3)], [], h)) (hk _ _ rfl) rfl ⟨fun z2 => ?_, fun z2 => ?_⟩
    · replace w := w.1 z2
      refine gw_pst hk 1 (st' := (69, [some (.ref 48), some (.int x1), some (.int x2), some (.int x3)], [.int (-1)], h)) rfl ?_
      exact gw_ret (hk _ _ rfl) rfl ⟨_, hR, w⟩
    · replace w := w.2 z2
      refine gw_pst hk 2 (st' := (72, [some (.ref 48), some (.int x1), some (.int x2), some (.int 0)], [], h)) rfl ?_
      obtain ⟨n, w⟩ := w
      exact okl173_72 c d Post n _ _ _ _ w _ hR
  · replace w := w.2 z1
    refine gw_pst hk 2 (st' := (35, [some (.ref 48), some (.int x1), some (.int x2), some (.int x3)], [.int 20, .int x3], h)) rfl ?_
    refine gw_br (c := x3 = 20) (a := (54, [some (.ref 48), some (.int x1), some (.int x2), some (.int x3)], [], h)) (b := (38, [some (.ref 48), some (.int x1), some (.int x2), some (.int x3)], [], h)) (hk _ _ rfl) rfl ⟨fun z3 => ?_, fun z3 => ?_⟩
    · replace w := w.1 z3
      refine gw_le (L' := [none, none, none, some (.int x3)]) (gm_le_n _ (gm_le_n _ (gm_le_n _ (gm_le_k _ gm_le_nil)))) ?_
      exact ok173_54 c d Post _ _ w _ hR
    · replace w := w.2 z3
      refine gw_pst hk 1 (st' := (39, [some (.ref 48), some (.int x1), some (.int x2), some (.int x3)], [.ref 48], h)) rfl ?_
      refine gw_gf (hk _ _ rfl) (RL_fR (n := 57) hR rfl) ?_
      refine gw_pst hk 1 (st' := (43, [some (.ref 48), some (.int x1), some (.int x2), some (.int x3)], [.int x3, .ref 57], h)) rfl ?_
      obtain ⟨b5, w⟩ := w
      refine gw_ald (hk _ _ rfl) (Or.inr (Or.inr ⟨rfl, rfl, Or.inl rfl⟩)) (RL_a (t := 3) (n := 80) hR rfl (by decide)) b5 ?_
      refine gw_pst hk 2 (st' := (48, [some (.ref 48), some (.int x1), some (.int x2), some (.int x3)], [.int 57, .int 48, .int (gsA s 57 (x3 : Int32).toNatClampNeg)], h)) rfl ?_
      refine gw_call (jj := 154) (As := [.int (gsA s 57 (x3 : Int32).toNatClampNeg), .int 48, .int 57]) (rest := []) (hk _ _ rfl) (fun _ => rfl) rfl rfl (Nat.le_of_ble_eq_true rfl) rfl ?_
      refine ge_imp (w h hR) (fun v6 h w => ?_)
      obtain ⟨s_6, hR, x_6, rfl, w⟩ := w
      show gw (gt_T c.1 c.2.1 c.2.2.1) c.2.2.2 d 173 (51, [some (.ref 48), some (.int x1), some (.int x2), some (.int x3)], [.int x_6], h) _
      refine gw_br (c := x_6 = 0) (a := (54, [some (.ref 48), some (.int x1), some (.int x2), some (.int x3)], [], h)) (b := (58, [some (.ref 48), some (.int x1), some (.int x2), some (.int x3)], [], h)) (hk _ _ rfl) rfl ⟨fun z7 => ?_, fun z7 => ?_⟩
      · replace w := w.1 z7
        refine gw_le (L' := [none, none, none, some (.int x3)]) (gm_le_n _ (gm_le_n _ (gm_le_n _ (gm_le_k _ gm_le_nil)))) ?_
        exact ok173_54 c d Post _ _ w _ hR
      · replace w := w.2 z7
        refine gw_pst hk 2 (st' := (27, [some (.ref 48), some (.int x1), some (.int x2), some (.int (x3 + 1))], [], h)) rfl ?_
        exact hK27 _ _ _ _ w _ hR
def wl173_27 (c : gx) (d : Nat) (Post : Option Value → gs → Prop) : Nat → Int32 → Int32 → Int32 → gs → Prop
  | 0 => fun _ _ _ _ => False
  | n + 1 => wb173_27 c d Post (wl173_27 c d Post n)
theorem okl173_27 (c : gx) (d : Nat) (Post : Option Value → gs → Prop) : ∀ (n : Nat) (x1 : Int32) (x2 : Int32) (x3 : Int32) (s : gs), wl173_27 c d Post n x1 x2 x3 s → tV c d 173 27 [some (.ref 48), some (.int x1), some (.int x2), some (.int x3)] [] s Post
  | 0, _, _, _, _, w => w.elim
  | n + 1, x1, x2, x3, s, w => okb173_27 c d Post (wl173_27 c d Post n) (okl173_27 c d Post n) x1 x2 x3 s w
/-- CommandByTurnsModel.wishes(I)I -/
def wm173 (c : gx) (d : Nat) (Post : Option Value → gs → Prop) (x1 : Int32) (s : gs) : Prop :=
  ∀ s_1 : gs, s_1 = gs_V s 48 13 0 → ∀ s_3 : gs, s_3 = gs_V s_1 48 10 0 → tE c d 159 [.int x1] s_3 (fun v4 s_4 => ∃ x_4 : Int32, v4 = some (.int x_4) ∧ ((x_4 = 0 → Post (some (.int (-100))) s_4) ∧ (¬ (x_4 = 0) → ∃ n, wl173_27 c d Post n x1 (gsV s_1 48 10) 0 s_4)))
theorem okm173 (c : gx) (d : Nat) (Post : Option Value → gs → Prop) (x1 : Int32) (s : gs) (w : wm173 c d Post x1 s) : tE c (d + 1) 173 [.ref 48, .int x1] s Post := by
  intro h hR
  have hk : ∀ pc i, gm_find gk_173 pc = some i → gm_code (gt_T c.1 c.2.1 c.2.2.1) 173 pc = some i := fun _ _ z => z
  unfold wm173 at w
  refine ge_of (by decide) (Nat.le_of_ble_eq_true rfl) ?_
  show gw (gt_T c.1 c.2.1 c.2.2.1) c.2.2.2 d 173 (0, [some (.ref 48), some (.int x1), none, none], [], h) _
  refine gw_pst hk 2 (st' := (2, [some (.ref 48), some (.int x1), none, none], [.int 0, .ref 48], h)) rfl ?_
  obtain ⟨fs1, e1⟩ := RL_o hR (r := 48) (ci := 10) rfl
  obtain ⟨l1, hR1⟩ := RL_pI (k := 13) (x := 0) hR rfl e1
  refine gw_pf (hk _ _ rfl) e1 l1 rfl ?_
  generalize gm_put h _ _ = h at hR1 ⊢
  obtain ⟨s_1, es1⟩ : ∃ z, z = gs_V s 48 13 0 := ⟨_, rfl⟩
  rw [← es1] at hR1
  replace w := w s_1 es1
  replace hR := hR1
  refine gw_pst hk 1 (st' := (6, [some (.ref 48), some (.int x1), none, none], [.ref 48], h)) rfl ?_
  refine gw_gf (hk _ _ rfl) (RL_fI hR rfl) ?_
  refine gw_pst hk 3 (st' := (12, [some (.ref 48), some (.int x1), some (.int (gsV s_1 48 10)), none], [.int 0, .ref 48], h)) rfl ?_
  obtain ⟨fs3, e3⟩ := RL_o hR (r := 48) (ci := 10) rfl
  obtain ⟨l3, hR3⟩ := RL_pI (k := 10) (x := 0) hR rfl e3
  refine gw_pf (hk _ _ rfl) e3 l3 rfl ?_
  generalize gm_put h _ _ = h at hR3 ⊢
  obtain ⟨s_3, es3⟩ : ∃ z, z = gs_V s_1 48 10 0 := ⟨_, rfl⟩
  rw [← es3] at hR3
  replace w := w s_3 es3
  replace hR := hR3
  refine gw_pst hk 1 (st' := (16, [some (.ref 48), some (.int x1), some (.int (gsV s_1 48 10)), none], [.int x1], h)) rfl ?_
  refine gw_call (jj := 159) (As := [.int x1]) (rest := []) (hk _ _ rfl) (fun _ => rfl) rfl rfl (Nat.le_of_ble_eq_true rfl) rfl ?_
  refine ge_imp (w h hR) (fun v4 h w => ?_)
  obtain ⟨s_4, hR, x_4, rfl, w⟩ := w
  show gw (gt_T c.1 c.2.1 c.2.2.1) c.2.2.2 d 173 (19, [some (.ref 48), some (.int x1), some (.int (gsV s_1 48 10)), none], [.int x_4], h) _
  refine gw_br (c := x_4 = 0) (a := (22, [some (.ref 48), some (.int x1), some (.int (gsV s_1 48 10)), none], [], h)) (b := (25, [some (.ref 48), some (.int x1), some (.int (gsV s_1 48 10)), none], [], h)) (hk _ _ rfl) rfl ⟨fun z5 => ?_, fun z5 => ?_⟩
  · replace w := w.1 z5
    refine gw_pst hk 1 (st' := (24, [some (.ref 48), some (.int x1), some (.int (gsV s_1 48 10)), none], [.int (-100)], h)) rfl ?_
    exact gw_ret (hk _ _ rfl) rfl ⟨_, hR, w⟩
  · replace w := w.2 z5
    refine gw_pst hk 2 (st' := (27, [some (.ref 48), some (.int x1), some (.int (gsV s_1 48 10)), some (.int 0)], [], h)) rfl ?_
    obtain ⟨n, w⟩ := w
    exact okl173_27 c d Post n _ _ _ _ w _ hR
def w174_40 (c : gx) (d : Nat) (Post : Option Value → gs → Prop) (xs0 : Int32) (s : gs) : Prop :=
  Post (some (.int xs0)) s
theorem ok174_40 (c : gx) (d : Nat) (Post : Option Value → gs → Prop)  (xs0 : Int32) (s : gs) (w : w174_40 c d Post xs0 s) : tV c d 174 40 [none, none, none, none] [.int xs0] s Post := by
  intro h hR
  have hk : ∀ pc i, gm_find gk_174 pc = some i → gm_code (gt_T c.1 c.2.1 c.2.2.1) 174 pc = some i := fun _ _ z => z
  unfold w174_40 at w
  unfold gV
  exact gw_ret (hk _ _ rfl) rfl ⟨_, hR, w⟩
/-- CommandByTurnsModel.wishOf(II)I -/
def wm174 (c : gx) (d : Nat) (Post : Option Value → gs → Prop) (x1 : Int32) (x2 : Int32) (s : gs) : Prop :=
  vp_in x1 2 ∧ vp_in x1 2 ∧ tE c d 154 [.int (x2 - (gsA s 55 (x1 : Int32).toNatClampNeg)), .int 0, .int ((gsA s 56 (x1 : Int32).toNatClampNeg) - 1)] s (fun v5 s_5 => ∃ x_5 : Int32, v5 = some (.int x_5) ∧ ((x_5 = 0 → w174_40 c d Post 0 s_5) ∧ (¬ (x_5 = 0) → vp_in ((20 * x1) + (x2 - (gsA s 55 (x1 : Int32).toNatClampNeg))) 40 ∧ w174_40 c d Post (gsA s_5 54 ((20 * x1) + (x2 - (gsA s 55 (x1 : Int32).toNatClampNeg)) : Int32).toNatClampNeg) s_5)))
theorem okm174 (c : gx) (d : Nat) (Post : Option Value → gs → Prop) (x1 : Int32) (x2 : Int32) (s : gs) (w : wm174 c d Post x1 x2 s) : tE c (d + 1) 174 [.ref 48, .int x1, .int x2] s Post := by
  intro h hR
  have hk : ∀ pc i, gm_find gk_174 pc = some i → gm_code (gt_T c.1 c.2.1 c.2.2.1) 174 pc = some i := fun _ _ z => z
  unfold wm174 at w
  refine ge_of (by decide) (Nat.le_of_ble_eq_true rfl) ?_
  show gw (gt_T c.1 c.2.1 c.2.2.1) c.2.2.2 d 174 (0, [some (.ref 48), some (.int x1), some (.int x2), none], [], h) _
  refine gw_pst hk 2 (st' := (2, [some (.ref 48), some (.int x1), some (.int x2), none], [.ref 48, .int x2], h)) rfl ?_
  refine gw_gf (hk _ _ rfl) (RL_fR (n := 55) hR rfl) ?_
  refine gw_pst hk 1 (st' := (6, [some (.ref 48), some (.int x1), some (.int x2), none], [.int x1, .ref 55, .int x2], h)) rfl ?_
  obtain ⟨b2, w⟩ := w
  refine gw_ald (hk _ _ rfl) (Or.inl ⟨rfl, rfl⟩) (RL_a (t := 0) (n := 2) hR rfl (by decide)) b2 ?_
  refine gw_pst hk 5 (st' := (12, [some (.ref 48), some (.int x1), some (.int x2), some (.int (x2 - (gsA s 55 (x1 : Int32).toNatClampNeg)))], [.ref 48, .int 0, .int (x2 - (gsA s 55 (x1 : Int32).toNatClampNeg))], h)) rfl ?_
  refine gw_gf (hk _ _ rfl) (RL_fR (n := 56) hR rfl) ?_
  refine gw_pst hk 1 (st' := (16, [some (.ref 48), some (.int x1), some (.int x2), some (.int (x2 - (gsA s 55 (x1 : Int32).toNatClampNeg)))], [.int x1, .ref 56, .int 0, .int (x2 - (gsA s 55 (x1 : Int32).toNatClampNeg))], h)) rfl ?_
  obtain ⟨b4, w⟩ := w
  refine gw_ald (hk _ _ rfl) (Or.inl ⟨rfl, rfl⟩) (RL_a (t := 0) (n := 2) hR rfl (by decide)) b4 ?_
  refine gw_pst hk 2 (st' := (19, [some (.ref 48), some (.int x1), some (.int x2), some (.int (x2 - (gsA s 55 (x1 : Int32).toNatClampNeg)))], [.int ((gsA s 56 (x1 : Int32).toNatClampNeg) - 1), .int 0, .int (x2 - (gsA s 55 (x1 : Int32).toNatClampNeg))], h)) rfl ?_
  refine gw_call (jj := 154) (As := [.int (x2 - (gsA s 55 (x1 : Int32).toNatClampNeg)), .int 0, .int ((gsA s 56 (x1 : Int32).toNatClampNeg) - 1)]) (rest := []) (hk _ _ rfl) (fun _ => rfl) rfl rfl (Nat.le_of_ble_eq_true rfl) rfl ?_
  refine ge_imp (w h hR) (fun v5 h w => ?_)
  obtain ⟨s_5, hR, x_5, rfl, w⟩ := w
  show gw (gt_T c.1 c.2.1 c.2.2.1) c.2.2.2 d 174 (22, [some (.ref 48), some (.int x1), some (.int x2), some (.int (x2 - (gsA s 55 (x1 : Int32).toNatClampNeg)))], [.int x_5], h) _
  refine gw_br (c := x_5 = 0) (a := (39, [some (.ref 48), some (.int x1), some (.int x2), some (.int (x2 - (gsA s 55 (x1 : Int32).toNatClampNeg)))], [], h)) (b := (25, [some (.ref 48), some (.int x1), some (.int x2), some (.int (x2 - (gsA s 55 (x1 : Int32).toNatClampNeg)))], [], h)) (hk _ _ rfl) rfl ⟨fun z6 => ?_, fun z6 => ?_⟩
  · replace w := w.1 z6
    refine gw_pst hk 1 (st' := (40, [some (.ref 48), some (.int x1), some (.int x2), some (.int (x2 - (gsA s 55 (x1 : Int32).toNatClampNeg)))], [.int 0], h)) rfl ?_
    refine gw_le (L' := [none, none, none, none]) (gm_le_n _ (gm_le_n _ (gm_le_n _ (gm_le_n _ gm_le_nil)))) ?_
    exact ok174_40 c d Post _ _ w _ hR
  · replace w := w.2 z6
    refine gw_pst hk 1 (st' := (26, [some (.ref 48), some (.int x1), some (.int x2), some (.int (x2 - (gsA s 55 (x1 : Int32).toNatClampNeg)))], [.ref 48], h)) rfl ?_
    refine gw_gf (hk _ _ rfl) (RL_fR (n := 54) hR rfl) ?_
    refine gw_pst hk 5 (st' := (35, [some (.ref 48), some (.int x1), some (.int x2), some (.int (x2 - (gsA s 55 (x1 : Int32).toNatClampNeg)))], [.int ((20 * x1) + (x2 - (gsA s 55 (x1 : Int32).toNatClampNeg))), .ref 54], h)) rfl ?_
    obtain ⟨b8, w⟩ := w
    refine gw_ald (hk _ _ rfl) (Or.inl ⟨rfl, rfl⟩) (RL_a (t := 0) (n := 40) hR rfl (by decide)) b8 ?_
    refine gw_pst hk 1 (st' := (40, [some (.ref 48), some (.int x1), some (.int x2), some (.int (x2 - (gsA s 55 (x1 : Int32).toNatClampNeg)))], [.int (gsA s_5 54 ((20 * x1) + (x2 - (gsA s 55 (x1 : Int32).toNatClampNeg)) : Int32).toNatClampNeg)], h)) rfl ?_
    refine gw_le (L' := [none, none, none, none]) (gm_le_n _ (gm_le_n _ (gm_le_n _ (gm_le_n _ gm_le_nil)))) ?_
    exact ok174_40 c d Post _ _ w _ hR
def w175_29 (c : gx) (d : Nat) (Post : Option Value → gs → Prop) (xs0 : Int32) (s : gs) : Prop :=
  Post (some (.int xs0)) s
theorem ok175_29 (c : gx) (d : Nat) (Post : Option Value → gs → Prop)  (xs0 : Int32) (s : gs) (w : w175_29 c d Post xs0 s) : tV c d 175 29 [none, none, none] [.int xs0] s Post := by
  intro h hR
  have hk : ∀ pc i, gm_find gk_175 pc = some i → gm_code (gt_T c.1 c.2.1 c.2.2.1) 175 pc = some i := fun _ _ z => z
  unfold w175_29 at w
  unfold gV
  exact gw_ret (hk _ _ rfl) rfl ⟨_, hR, w⟩
def w175_53 (c : gx) (d : Nat) (Post : Option Value → gs → Prop) (xs0 : Int32) (s : gs) : Prop :=
  Post (some (.int xs0)) s
theorem ok175_53 (c : gx) (d : Nat) (Post : Option Value → gs → Prop)  (xs0 : Int32) (s : gs) (w : w175_53 c d Post xs0 s) : tV c d 175 53 [none, none, none] [.int xs0] s Post := by
  intro h hR
  have hk : ∀ pc i, gm_find gk_175 pc = some i → gm_code (gt_T c.1 c.2.1 c.2.2.1) 175 pc = some i := fun _ _ z => z
  unfold w175_53 at w
  unfold gV
  exact gw_ret (hk _ _ rfl) rfl ⟨_, hR, w⟩
def w175_77 (c : gx) (d : Nat) (Post : Option Value → gs → Prop) (xs0 : Int32) (s : gs) : Prop :=
  Post (some (.int xs0)) s
theorem ok175_77 (c : gx) (d : Nat) (Post : Option Value → gs → Prop)  (xs0 : Int32) (s : gs) (w : w175_77 c d Post xs0 s) : tV c d 175 77 [none, none, none] [.int xs0] s Post := by
  intro h hR
  have hk : ∀ pc i, gm_find gk_175 pc = some i → gm_code (gt_T c.1 c.2.1 c.2.2.1) 175 pc = some i := fun _ _ z => z
  unfold w175_77 at w
  unfold gV
  exact gw_ret (hk _ _ rfl) rfl ⟨_, hR, w⟩
/-- CommandByTurnsModel.held(I)I -/
def wm175 (c : gx) (d : Nat) (Post : Option Value → gs → Prop) (x1 : Int32) (s : gs) : Prop :=
  tE c d 176 [.ref 48, .int x1] s (fun v1 s_1 => ∃ x_1 : Int32, v1 = some (.int x_1) ∧ tE c d 167 [.ref 48, .int 60] s_1 (fun v2 s_2 => ∃ x_2 : Int32, v2 = some (.int x_2) ∧ ((x_2 = 0 → tE c d 167 [.ref 48, .int 62] s_2 (fun v4 s_4 => ∃ x_4 : Int32, v4 = some (.int x_4) ∧ ((x_4 = 0 → tE c d 167 [.ref 48, .int 61] s_4 (fun v6 s_6 => ∃ x_6 : Int32, v6 = some (.int x_6) ∧ ((x_6 = 0 → Post (some (.int x_1)) s_6) ∧ (¬ (x_6 = 0) → tE c d 176 [.ref 48, .int x1] s_6 (fun v8 s_8 => ∃ x_8 : Int32, v8 = some (.int x_8) ∧ ((x_1 = x_8 → w175_77 c d Post 1 s_8) ∧ (¬ (x_1 = x_8) → w175_77 c d Post 0 s_8))))))) ∧ (¬ (x_4 = 0) → tE c d 176 [.ref 48, .int x1] s_4 (fun v10 s_10 => ∃ x_10 : Int32, v10 = some (.int x_10) ∧ ((x_1 ≤ x_10 → w175_53 c d Post 0 s_10) ∧ (¬ (x_1 ≤ x_10) → w175_53 c d Post 1 s_10))))))) ∧ (¬ (x_2 = 0) → tE c d 176 [.ref 48, .int x1] s_2 (fun v12 s_12 => ∃ x_12 : Int32, v12 = some (.int x_12) ∧ ((x_12 ≤ x_1 → w175_29 c d Post 0 s_12) ∧ (¬ (x_12 ≤ x_1) → w175_29 c d Post 1 s_12)))))))
theorem okm175 (c : gx) (d : Nat) (Post : Option Value → gs → Prop) (x1 : Int32) (s : gs) (w : wm175 c d Post x1 s) : tE c (d + 1) 175 [.ref 48, .int x1] s Post := by
  intro h hR
  have hk : ∀ pc i, gm_find gk_175 pc = some i → gm_code (gt_T c.1 c.2.1 c.2.2.1) 175 pc = some i := fun _ _ z => z
  unfold wm175 at w
  refine ge_of (by decide) (Nat.le_of_ble_eq_true rfl) ?_
  show gw (gt_T c.1 c.2.1 c.2.2.1) c.2.2.2 d 175 (0, [some (.ref 48), some (.int x1), none], [], h) _
  refine gw_pst hk 2 (st' := (2, [some (.ref 48), some (.int x1), none], [.int x1, .ref 48], h)) rfl ?_
  obtain ⟨fs1, e1⟩ := RL_o hR (r := 48) (ci := 10) rfl
  refine gw_call (jj := 176) (As := [.ref 48, .int x1]) (rest := []) (hk _ _ rfl) (fun _ => rfl) rfl rfl (Nat.le_of_ble_eq_true rfl) (gm_rcv_v rfl e1 rfl) ?_
  refine ge_imp (w h hR) (fun v1 h w => ?_)
  obtain ⟨s_1, hR, x_1, rfl, w⟩ := w
  show gw (gt_T c.1 c.2.1 c.2.2.1) c.2.2.2 d 175 (5, [some (.ref 48), some (.int x1), none], [.int x_1], h) _
  refine gw_pst hk 3 (st' := (9, [some (.ref 48), some (.int x1), some (.int x_1)], [.int 60, .ref 48], h)) rfl ?_
  obtain ⟨fs2, e2⟩ := RL_o hR (r := 48) (ci := 10) rfl
  refine gw_call (jj := 167) (As := [.ref 48, .int 60]) (rest := []) (hk _ _ rfl) (fun _ => rfl) rfl rfl (Nat.le_of_ble_eq_true rfl) (gm_rcv_v rfl e2 rfl) ?_
  refine ge_imp (w h hR) (fun v2 h w => ?_)
  obtain ⟨s_2, hR, x_2, rfl, w⟩ := w
  show gw (gt_T c.1 c.2.1 c.2.2.1) c.2.2.2 d 175 (12, [some (.ref 48), some (.int x1), some (.int x_1)], [.int x_2], h) _
  refine gw_br (c := x_2 = 0) (a := (30, [some (.ref 48), some (.int x1), some (.int x_1)], [], h)) (b := (15, [some (.ref 48), some (.int x1), some (.int x_1)], [], h)) (hk _ _ rfl) rfl ⟨fun z3 => ?_, fun z3 => ?_⟩
  · replace w := w.1 z3
    refine gw_pst hk 2 (st' := (33, [some (.ref 48), some (.int x1), some (.int x_1)], [.int 62, .ref 48], h)) rfl ?_
    obtain ⟨fs4, e4⟩ := RL_o hR (r := 48) (ci := 10) rfl
    refine gw_call (jj := 167) (As := [.ref 48, .int 62]) (rest := []) (hk _ _ rfl) (fun _ => rfl) rfl rfl (Nat.le_of_ble_eq_true rfl) (gm_rcv_v rfl e4 rfl) ?_
    refine ge_imp (w h hR) (fun v4 h w => ?_)
    obtain ⟨s_4, hR, x_4, rfl, w⟩ := w
    show gw (gt_T c.1 c.2.1 c.2.2.1) c.2.2.2 d 175 (36, [some (.ref 48), some (.int x1), some (.int x_1)], [.int x_4], h) _
    refine gw_br (c := x_4 = 0) (a := (54, [some (.ref 48), some (.int x1), some (.int x_1)], [], h)) (b := (39, [some (.ref 48), some (.int x1), some (.int x_1)], [], h)) (hk _ _ rfl) rfl ⟨fun z5 => ?_, fun z5 => ?_⟩
    · replace w := w.1 z5
      refine gw_pst hk 2 (st' := (57, [some (.ref 48), some (.int x1), some (.int x_1)], [.int 61, .ref 48], h)) rfl ?_
      obtain ⟨fs6, e6⟩ := RL_o hR (r := 48) (ci := 10) rfl
      refine gw_call (jj := 167) (As := [.ref 48, .int 61]) (rest := []) (hk _ _ rfl) (fun _ => rfl) rfl rfl (Nat.le_of_ble_eq_true rfl) (gm_rcv_v rfl e6 rfl) ?_
      refine ge_imp (w h hR) (fun v6 h w => ?_)
      obtain ⟨s_6, hR, x_6, rfl, w⟩ := w
      show gw (gt_T c.1 c.2.1 c.2.2.1) c.2.2.2 d 175 (60, [some (.ref 48), some (.int x1), some (.int x_1)], [.int x_6], h) _
      refine gw_br (c := x_6 = 0) (a := (78, [some (.ref 48), some (.int x1), some (.int x_1)], [], h)) (b := (63, [some (.ref 48), some (.int x1), some (.int x_1)], [], h)) (hk _ _ rfl) rfl ⟨fun z7 => ?_, fun z7 => ?_⟩
      · replace w := w.1 z7
        refine gw_pst hk 1 (st' := (79, [some (.ref 48), some (.int x1), some (.int x_1)], [.int x_1], h)) rfl ?_
        exact gw_ret (hk _ _ rfl) rfl ⟨_, hR, w⟩
      · replace w := w.2 z7
        refine gw_pst hk 3 (st' := (66, [some (.ref 48), some (.int x1), some (.int x_1)], [.int x1, .ref 48, .int x_1], h)) rfl ?_
        obtain ⟨fs8, e8⟩ := RL_o hR (r := 48) (ci := 10) rfl
        refine gw_call (jj := 176) (As := [.ref 48, .int x1]) (rest := [.int x_1]) (hk _ _ rfl) (fun _ => rfl) rfl rfl (Nat.le_of_ble_eq_true rfl) (gm_rcv_v rfl e8 rfl) ?_
        refine ge_imp (w h hR) (fun v8 h w => ?_)
        obtain ⟨s_8, hR, x_8, rfl, w⟩ := w
        show gw (gt_T c.1 c.2.1 c.2.2.1) c.2.2.2 d 175 (69, [some (.ref 48), some (.int x1), some (.int x_1)], [.int x_8, .int x_1], h) _
        refine gw_br (c := x_1 = x_8) (a := (72, [some (.ref 48), some (.int x1), some (.int x_1)], [], h)) (b := (76, [some (.ref 48), some (.int x1), some (.int x_1)], [], h)) (hk _ _ rfl) rfl ⟨fun z9 => ?_, fun z9 => ?_⟩
        · replace w := w.1 z9
          refine gw_pst hk 2 (st' := (77, [some (.ref 48), some (.int x1), some (.int x_1)], [.int 1], h)) rfl ?_
          refine gw_le (L' := [none, none, none]) (gm_le_n _ (gm_le_n _ (gm_le_n _ gm_le_nil))) ?_
          exact ok175_77 c d Post _ _ w _ hR
        · replace w := w.2 z9
          refine gw_pst hk 1 (st' := (77, [some (.ref 48), some (.int x1), some (.int x_1)], [.int 0], h)) rfl ?_
          refine gw_le (L' := [none, none, none]) (gm_le_n _ (gm_le_n _ (gm_le_n _ gm_le_nil))) ?_
          exact ok175_77 c d Post _ _ w _ hR
    · replace w := w.2 z5
      refine gw_pst hk 3 (st' := (42, [some (.ref 48), some (.int x1), some (.int x_1)], [.int x1, .ref 48, .int x_1], h)) rfl ?_
      obtain ⟨fs10, e10⟩ := RL_o hR (r := 48) (ci := 10) rfl
      refine gw_call (jj := 176) (As := [.ref 48, .int x1]) (rest := [.int x_1]) (hk _ _ rfl) (fun _ => rfl) rfl rfl (Nat.le_of_ble_eq_true rfl) (gm_rcv_v rfl e10 rfl) ?_
      refine ge_imp (w h hR) (fun v10 h w => ?_)
      obtain ⟨s_10, hR, x_10, rfl, w⟩ := w
      show gw (gt_T c.1 c.2.1 c.2.2.1) c.2.2.2 d 175 (45, [some (.ref 48), some (.int x1), some (.int x_1)], [.int x_10, .int x_1], h) _
      refine gw_br (c := x_1 ≤ x_10) (a := (52, [some (.ref 48), some (.int x1), some (.int x_1)], [], h)) (b := (48, [some (.ref 48), some (.int x1), some (.int x_1)], [], h)) (hk _ _ rfl) rfl ⟨fun z11 => ?_, fun z11 => ?_⟩
      · replace w := w.1 z11
        refine gw_pst hk 1 (st' := (53, [some (.ref 48), some (.int x1), some (.int x_1)], [.int 0], h)) rfl ?_
        refine gw_le (L' := [none, none, none]) (gm_le_n _ (gm_le_n _ (gm_le_n _ gm_le_nil))) ?_
        exact ok175_53 c d Post _ _ w _ hR
      · replace w := w.2 z11
        refine gw_pst hk 2 (st' := (53, [some (.ref 48), some (.int x1), some (.int x_1)], [.int 1], h)) rfl ?_
        refine gw_le (L' := [none, none, none]) (gm_le_n _ (gm_le_n _ (gm_le_n _ gm_le_nil))) ?_
        exact ok175_53 c d Post _ _ w _ hR
  · replace w := w.2 z3
    refine gw_pst hk 3 (st' := (18, [some (.ref 48), some (.int x1), some (.int x_1)], [.int x1, .ref 48, .int x_1], h)) rfl ?_
    obtain ⟨fs12, e12⟩ := RL_o hR (r := 48) (ci := 10) rfl
    refine gw_call (jj := 176) (As := [.ref 48, .int x1]) (rest := [.int x_1]) (hk _ _ rfl) (fun _ => rfl) rfl rfl (Nat.le_of_ble_eq_true rfl) (gm_rcv_v rfl e12 rfl) ?_
    refine ge_imp (w h hR) (fun v12 h w => ?_)
    obtain ⟨s_12, hR, x_12, rfl, w⟩ := w
    show gw (gt_T c.1 c.2.1 c.2.2.1) c.2.2.2 d 175 (21, [some (.ref 48), some (.int x1), some (.int x_1)], [.int x_12, .int x_1], h) _
    refine gw_br (c := x_12 ≤ x_1) (a := (28, [some (.ref 48), some (.int x1), some (.int x_1)], [], h)) (b := (24, [some (.ref 48), some (.int x1), some (.int x_1)], [], h)) (hk _ _ rfl) rfl ⟨fun z13 => ?_, fun z13 => ?_⟩
    · replace w := w.1 z13
      refine gw_pst hk 1 (st' := (29, [some (.ref 48), some (.int x1), some (.int x_1)], [.int 0], h)) rfl ?_
      refine gw_le (L' := [none, none, none]) (gm_le_n _ (gm_le_n _ (gm_le_n _ gm_le_nil))) ?_
      exact ok175_29 c d Post _ _ w _ hR
    · replace w := w.2 z13
      refine gw_pst hk 2 (st' := (29, [some (.ref 48), some (.int x1), some (.int x_1)], [.int 1], h)) rfl ?_
      refine gw_le (L' := [none, none, none]) (gm_le_n _ (gm_le_n _ (gm_le_n _ gm_le_nil))) ?_
      exact ok175_29 c d Post _ _ w _ hR
def w176_78 (c : gx) (d : Nat) (Post : Option Value → gs → Prop) (K6 : Int32 → Int32 → gs → Prop) (x1 : Int32) (xs0 : Int32) (s : gs) : Prop :=
  K6 x1 xs0 s
theorem ok176_78 (c : gx) (d : Nat) (Post : Option Value → gs → Prop) (K6 : Int32 → Int32 → gs → Prop)  (hK6 : ∀ (x1 : Int32) (x2 : Int32) (s : gs), K6 x1 x2 s → tV c d 176 6 [some (.ref 48), some (.int x1), some (.int x2), none, none] [] s Post) (x1 : Int32) (xs0 : Int32) (s : gs) (w : w176_78 c d Post K6 x1 xs0 s) : tV c d 176 78 [some (.ref 48), some (.int x1), none, none, none] [.int xs0] s Post := by
  intro h hR
  have hk : ∀ pc i, gm_find gk_176 pc = some i → gm_code (gt_T c.1 c.2.1 c.2.2.1) 176 pc = some i := fun _ _ z => z
  unfold w176_78 at w
  unfold gV
  refine gw_pst hk 2 (st' := (6, [some (.ref 48), some (.int x1), some (.int xs0), none, none], [], h)) rfl ?_
  exact hK6 _ _ _ w _ hR
def w176_45 (c : gx) (d : Nat) (Post : Option Value → gs → Prop) (K6 : Int32 → Int32 → gs → Prop) (x1 : Int32) (x2 : Int32) (xs0 : Int32) (s : gs) : Prop :=
  ∀ s_2 : gs, s_2 = gs_V s 48 17 ((gsV s 48 17) + 1) → tE c d 177 [.ref 48, .int x1] s_2 (fun v3 s_3 => ∃ x_3 : Int32, v3 = some (.int x_3) ∧ ((xs0 = 0 → w176_78 c d Post K6 x1 (x2 - x_3) s_3) ∧ (¬ (xs0 = 0) → w176_78 c d Post K6 x1 (x2 + x_3) s_3)))
theorem ok176_45 (c : gx) (d : Nat) (Post : Option Value → gs → Prop) (K6 : Int32 → Int32 → gs → Prop)  (hK6 : ∀ (x1 : Int32) (x2 : Int32) (s : gs), K6 x1 x2 s → tV c d 176 6 [some (.ref 48), some (.int x1), some (.int x2), none, none] [] s Post) (x1 : Int32) (x2 : Int32) (xs0 : Int32) (s : gs) (w : w176_45 c d Post K6 x1 x2 xs0 s) : tV c d 176 45 [some (.ref 48), some (.int x1), some (.int x2), none, none] [.int xs0] s Post := by
  intro h hR
  have hk : ∀ pc i, gm_find gk_176 pc = some i → gm_code (gt_T c.1 c.2.1 c.2.2.1) 176 pc = some i := fun _ _ z => z
  unfold w176_45 at w
  unfold gV
  refine gw_pst hk 3 (st' := (48, [some (.ref 48), some (.int x1), some (.int x2), some (.int xs0), none], [.ref 48, .ref 48], h)) rfl ?_
  refine gw_gf (hk _ _ rfl) (RL_fI hR rfl) ?_
  refine gw_pst hk 2 (st' := (53, [some (.ref 48), some (.int x1), some (.int x2), some (.int xs0), none], [.int ((gsV s 48 17) + 1), .ref 48], h)) rfl ?_
  obtain ⟨fs2, e2⟩ := RL_o hR (r := 48) (ci := 10) rfl
  obtain ⟨l2, hR2⟩ := RL_pI (k := 17) (x := (gsV s 48 17) + 1) hR rfl e2
  refine gw_pf (hk _ _ rfl) e2 l2 rfl ?_
  generalize gm_put h _ _ = h at hR2 ⊢
  obtain ⟨s_2, es2⟩ : ∃ z, z = gs_V s 48 17 ((gsV s 48 17) + 1) := ⟨_, rfl⟩
  rw [← es2] at hR2
  replace w := w s_2 es2
  replace hR := hR2
  refine gw_pst hk 2 (st' := (58, [some (.ref 48), some (.int x1), some (.int x2), some (.int xs0), none], [.int x1, .ref 48], h)) rfl ?_
  obtain ⟨fs3, e3⟩ := RL_o hR (r := 48) (ci := 10) rfl
  refine gw_call (jj := 177) (As := [.ref 48, .int x1]) (rest := []) (hk _ _ rfl) (fun _ => rfl) rfl rfl (Nat.le_of_ble_eq_true rfl) (gm_rcv_v rfl e3 rfl) ?_
  refine ge_imp (w h hR) (fun v3 h w => ?_)
  obtain ⟨s_3, hR, x_3, rfl, w⟩ := w
  show gw (gt_T c.1 c.2.1 c.2.2.1) c.2.2.2 d 176 (61, [some (.ref 48), some (.int x1), some (.int x2), some (.int xs0), none], [.int x_3], h) _
  refine gw_pst hk 2 (st' := (64, [some (.ref 48), some (.int x1), some (.int x2), some (.int xs0), some (.int x_3)], [.int xs0], h)) rfl ?_
  refine gw_br (c := xs0 = 0) (a := (74, [some (.ref 48), some (.int x1), some (.int x2), some (.int xs0), some (.int x_3)], [], h)) (b := (67, [some (.ref 48), some (.int x1), some (.int x2), some (.int xs0), some (.int x_3)], [], h)) (hk _ _ rfl) rfl ⟨fun z4 => ?_, fun z4 => ?_⟩
  · replace w := w.1 z4
    refine gw_pst hk 3 (st' := (78, [some (.ref 48), some (.int x1), some (.int x2), some (.int xs0), some (.int x_3)], [.int (x2 - x_3)], h)) rfl ?_
    refine gw_le (L' := [some (.ref 48), some (.int x1), none, none, none]) (gm_le_k _ (gm_le_k _ (gm_le_n _ (gm_le_n _ (gm_le_n _ gm_le_nil))))) ?_
    exact ok176_78 c d Post K6 hK6 _ _ _ w _ hR
  · replace w := w.2 z4
    refine gw_pst hk 4 (st' := (78, [some (.ref 48), some (.int x1), some (.int x2), some (.int xs0), some (.int x_3)], [.int (x2 + x_3)], h)) rfl ?_
    refine gw_le (L' := [some (.ref 48), some (.int x1), none, none, none]) (gm_le_k _ (gm_le_k _ (gm_le_n _ (gm_le_n _ (gm_le_n _ gm_le_nil))))) ?_
    exact ok176_78 c d Post K6 hK6 _ _ _ w _ hR
def w176_31 (c : gx) (d : Nat) (Post : Option Value → gs → Prop) (K6 : Int32 → Int32 → gs → Prop) (x1 : Int32) (x2 : Int32) (s : gs) : Prop :=
  tE c d 164 [.ref 48] s (fun v1 s_1 => ∃ x_1 : Int32, v1 = some (.int x_1) ∧ ((x_1 = 43 → w176_45 c d Post K6 x1 x2 1 s_1) ∧ (¬ (x_1 = 43) → w176_45 c d Post K6 x1 x2 0 s_1)))
theorem ok176_31 (c : gx) (d : Nat) (Post : Option Value → gs → Prop) (K6 : Int32 → Int32 → gs → Prop)  (hK6 : ∀ (x1 : Int32) (x2 : Int32) (s : gs), K6 x1 x2 s → tV c d 176 6 [some (.ref 48), some (.int x1), some (.int x2), none, none] [] s Post) (x1 : Int32) (x2 : Int32) (s : gs) (w : w176_31 c d Post K6 x1 x2 s) : tV c d 176 31 [some (.ref 48), some (.int x1), some (.int x2), none, none] [] s Post := by
  intro h hR
  have hk : ∀ pc i, gm_find gk_176 pc = some i → gm_code (gt_T c.1 c.2.1 c.2.2.1) 176 pc = some i := fun _ _ z => z
  unfold w176_31 at w
  unfold gV
  refine gw_pst hk 1 (st' := (32, [some (.ref 48), some (.int x1), some (.int x2), none, none], [.ref 48], h)) rfl ?_
  obtain ⟨fs1, e1⟩ := RL_o hR (r := 48) (ci := 10) rfl
  refine gw_call (jj := 164) (As := [.ref 48]) (rest := []) (hk _ _ rfl) (fun _ => rfl) rfl rfl (Nat.le_of_ble_eq_true rfl) (gm_rcv_v rfl e1 rfl) ?_
  refine ge_imp (w h hR) (fun v1 h w => ?_)
  obtain ⟨s_1, hR, x_1, rfl, w⟩ := w
  show gw (gt_T c.1 c.2.1 c.2.2.1) c.2.2.2 d 176 (35, [some (.ref 48), some (.int x1), some (.int x2), none, none], [.int x_1], h) _
  refine gw_pst hk 1 (st' := (37, [some (.ref 48), some (.int x1), some (.int x2), none, none], [.int 43, .int x_1], h)) rfl ?_
  refine gw_br (c := x_1 = 43) (a := (40, [some (.ref 48), some (.int x1), some (.int x2), none, none], [], h)) (b := (44, [some (.ref 48), some (.int x1), some (.int x2), none, none], [], h)) (hk _ _ rfl) rfl ⟨fun z2 => ?_, fun z2 => ?_⟩
  · replace w := w.1 z2
    refine gw_pst hk 2 (st' := (45, [some (.ref 48), some (.int x1), some (.int x2), none, none], [.int 1], h)) rfl ?_
    exact ok176_45 c d Post K6 hK6 _ _ _ _ w _ hR
  · replace w := w.2 z2
    refine gw_pst hk 1 (st' := (45, [some (.ref 48), some (.int x1), some (.int x2), none, none], [.int 0], h)) rfl ?_
    exact ok176_45 c d Post K6 hK6 _ _ _ _ w _ hR
def w176_82 (c : gx) (d : Nat) (Post : Option Value → gs → Prop) (x2 : Int32) (s : gs) : Prop :=
  Post (some (.int x2)) s
theorem ok176_82 (c : gx) (d : Nat) (Post : Option Value → gs → Prop)  (x2 : Int32) (s : gs) (w : w176_82 c d Post x2 s) : tV c d 176 82 [none, none, some (.int x2), none, none] [] s Post := by
  intro h hR
  have hk : ∀ pc i, gm_find gk_176 pc = some i → gm_code (gt_T c.1 c.2.1 c.2.2.1) 176 pc = some i := fun _ _ z => z
  unfold w176_82 at w
  unfold gV
  refine gw_pst hk 1 (st' := (83, [none, none, some (.int x2), none, none], [.int x2], h)) rfl ?_
  exact gw_ret (hk _ _ rfl) rfl ⟨_, hR, w⟩
def wb176_6 (c : gx) (d : Nat) (Post : Option Value → gs → Prop) (K6 : Int32 → Int32 → gs → Prop) (x1 : Int32) (x2 : Int32) (s : gs) : Prop :=
  tE c d 165 [.ref 48] s (fun v1 s_1 => ∃ x_1 : Int32, v1 = some (.int x_1) ∧ ((x_1 = 0 → w176_82 c d Post x2 s_1) ∧ (¬ (x_1 = 0) → tE c d 164 [.ref 48] s_1 (fun v3 s_3 => ∃ x_3 : Int32, v3 = some (.int x_3) ∧ ((x_3 = 43 → w176_31 c d Post K6 x1 x2 s_3) ∧ (¬ (x_3 = 43) → tE c d 164 [.ref 48] s_3 (fun v5 s_5 => ∃ x_5 : Int32, v5 = some (.int x_5) ∧ ((x_5 = 45 → w176_31 c d Post K6 x1 x2 s_5) ∧ (¬ (x_5 = 45) → w176_82 c d Post x2 s_5)))))))))
theorem okb176_6 (c : gx) (d : Nat) (Post : Option Value → gs → Prop) (K6 : Int32 → Int32 → gs → Prop)  (hK6 : ∀ (x1 : Int32) (x2 : Int32) (s : gs), K6 x1 x2 s → tV c d 176 6 [some (.ref 48), some (.int x1), some (.int x2), none, none] [] s Post) (x1 : Int32) (x2 : Int32) (s : gs) (w : wb176_6 c d Post K6 x1 x2 s) : tV c d 176 6 [some (.ref 48), some (.int x1), some (.int x2), none, none] [] s Post := by
  intro h hR
  have hk : ∀ pc i, gm_find gk_176 pc = some i → gm_code (gt_T c.1 c.2.1 c.2.2.1) 176 pc = some i := fun _ _ z => z
  unfold wb176_6 at w
  unfold gV
  refine gw_pst hk 1 (st' := (7, [some (.ref 48), some (.int x1), some (.int x2), none, none], [.ref 48], h)) rfl ?_
  obtain ⟨fs1, e1⟩ := RL_o hR (r := 48) (ci := 10) rfl
  refine gw_call (jj := 165) (As := [.ref 48]) (rest := []) (hk _ _ rfl) (fun _ => rfl) rfl rfl (Nat.le_of_ble_eq_true rfl) (gm_rcv_v rfl e1 rfl) ?_
  refine ge_imp (w h hR) (fun v1 h w => ?_)
  obtain ⟨s_1, hR, x_1, rfl, w⟩ := w
  show gw (gt_T c.1 c.2.1 c.2.2.1) c.2.2.2 d 176 (10, [some (.ref 48), some (.int x1), some (.int x2), none, none], [.int x_1], h) _
  refine gw_br (c := x_1 = 0) (a := (82, [some (.ref 48), some (.int x1), some (.int x2), none, none], [], h)) (b := (13, [some (.ref 48), some (.int x1), some (.int x2), none, none], [], h)) (hk _ _ rfl) rfl ⟨fun z2 => ?_, fun z2 => ?_⟩
  · replace w := w.1 z2
    refine gw_le (L' := [none, none, some (.int x2), none, none]) (gm_le_n _ (gm_le_n _ (gm_le_k _ (gm_le_k _ (gm_le_k _ gm_le_nil))))) ?_
    exact ok176_82 c d Post _ _ w _ hR
  · replace w := w.2 z2
    refine gw_pst hk 1 (st' := (14, [some (.ref 48), some (.int x1), some (.int x2), none, none], [.ref 48], h)) rfl ?_
    obtain ⟨fs3, e3⟩ := RL_o hR (r := 48) (ci := 10) rfl
    refine gw_call (jj := 164) (As := [.ref 48]) (rest := []) (hk _ _ rfl) (fun _ => rfl) rfl rfl (Nat.le_of_ble_eq_true rfl) (gm_rcv_v rfl e3 rfl) ?_
    refine ge_imp (w h hR) (fun v3 h w => ?_)
    obtain ⟨s_3, hR, x_3, rfl, w⟩ := w
    show gw (gt_T c.1 c.2.1 c.2.2.1) c.2.2.2 d 176 (17, [some (.ref 48), some (.int x1), some (.int x2), none, none], [.int x_3], h) _
    refine gw_pst hk 1 (st' := (19, [some (.ref 48), some (.int x1), some (.int x2), none, none], [.int 43, .int x_3], h)) rfl ?_
    refine gw_br (c := x_3 = 43) (a := (31, [some (.ref 48), some (.int x1), some (.int x2), none, none], [], h)) (b := (22, [some (.ref 48), some (.int x1), some (.int x2), none, none], [], h)) (hk _ _ rfl) rfl ⟨fun z4 => ?_, fun z4 => ?_⟩
    · replace w := w.1 z4
      exact ok176_31 c d Post K6 hK6 _ _ _ w _ hR
    · replace w := w.2 z4
      refine gw_pst hk 1 (st' := (23, [some (.ref 48), some (.int x1), some (.int x2), none, none], [.ref 48], h)) rfl ?_
      obtain ⟨fs5, e5⟩ := RL_o hR (r := 48) (ci := 10) rfl
      refine gw_call (jj := 164) (As := [.ref 48]) (rest := []) (hk _ _ rfl) (fun _ => rfl) rfl rfl (Nat.le_of_ble_eq_true rfl) (gm_rcv_v rfl e5 rfl) ?_
      refine ge_imp (w h hR) (fun v5 h w => ?_)
      obtain ⟨s_5, hR, x_5, rfl, w⟩ := w
      show gw (gt_T c.1 c.2.1 c.2.2.1) c.2.2.2 d 176 (26, [some (.ref 48), some (.int x1), some (.int x2), none, none], [.int x_5], h) _
      refine gw_pst hk 1 (st' := (28, [some (.ref 48), some (.int x1), some (.int x2), none, none], [.int 45, .int x_5], h)) rfl ?_
      refine gw_br (c := x_5 = 45) (a := (31, [some (.ref 48), some (.int x1), some (.int x2), none, none], [], h)) (b := (82, [some (.ref 48), some (.int x1), some (.int x2), none, none], [], h)) (hk _ _ rfl) rfl ⟨fun z6 => ?_, fun z6 => ?_⟩
      · replace w := w.1 z6
        exact ok176_31 c d Post K6 hK6 _ _ _ w _ hR
      · replace w := w.2 z6
        refine gw_le (L' := [none, none, some (.int x2), none, none]) (gm_le_n _ (gm_le_n _ (gm_le_k _ (gm_le_k _ (gm_le_k _ gm_le_nil))))) ?_
        exact ok176_82 c d Post _ _ w _ hR
def wl176_6 (c : gx) (d : Nat) (Post : Option Value → gs → Prop) : Nat → Int32 → Int32 → gs → Prop
  | 0 => fun _ _ _ => False
  | n + 1 => wb176_6 c d Post (wl176_6 c d Post n)
theorem okl176_6 (c : gx) (d : Nat) (Post : Option Value → gs → Prop) : ∀ (n : Nat) (x1 : Int32) (x2 : Int32) (s : gs), wl176_6 c d Post n x1 x2 s → tV c d 176 6 [some (.ref 48), some (.int x1), some (.int x2), none, none] [] s Post
  | 0, _, _, _, w => w.elim
  | n + 1, x1, x2, s, w => okb176_6 c d Post (wl176_6 c d Post n) (okl176_6 c d Post n) x1 x2 s w
/-- CommandByTurnsModel.sum(I)I -/
def wm176 (c : gx) (d : Nat) (Post : Option Value → gs → Prop) (x1 : Int32) (s : gs) : Prop :=
  tE c d 177 [.ref 48, .int x1] s (fun v1 s_1 => ∃ x_1 : Int32, v1 = some (.int x_1) ∧ ∃ n, wl176_6 c d Post n x1 x_1 s_1)
theorem okm176 (c : gx) (d : Nat) (Post : Option Value → gs → Prop) (x1 : Int32) (s : gs) (w : wm176 c d Post x1 s) : tE c (d + 1) 176 [.ref 48, .int x1] s Post := by
  intro h hR
  have hk : ∀ pc i, gm_find gk_176 pc = some i → gm_code (gt_T c.1 c.2.1 c.2.2.1) 176 pc = some i := fun _ _ z => z
  unfold wm176 at w
  refine ge_of (by decide) (Nat.le_of_ble_eq_true rfl) ?_
  show gw (gt_T c.1 c.2.1 c.2.2.1) c.2.2.2 d 176 (0, [some (.ref 48), some (.int x1), none, none, none], [], h) _
  refine gw_pst hk 2 (st' := (2, [some (.ref 48), some (.int x1), none, none, none], [.int x1, .ref 48], h)) rfl ?_
  obtain ⟨fs1, e1⟩ := RL_o hR (r := 48) (ci := 10) rfl
  refine gw_call (jj := 177) (As := [.ref 48, .int x1]) (rest := []) (hk _ _ rfl) (fun _ => rfl) rfl rfl (Nat.le_of_ble_eq_true rfl) (gm_rcv_v rfl e1 rfl) ?_
  refine ge_imp (w h hR) (fun v1 h w => ?_)
  obtain ⟨s_1, hR, x_1, rfl, w⟩ := w
  show gw (gt_T c.1 c.2.1 c.2.2.1) c.2.2.2 d 176 (5, [some (.ref 48), some (.int x1), none, none, none], [.int x_1], h) _
  refine gw_pst hk 1 (st' := (6, [some (.ref 48), some (.int x1), some (.int x_1), none, none], [], h)) rfl ?_
  obtain ⟨n, w⟩ := w
  exact okl176_6 c d Post n _ _ _ w _ hR
def w177_87 (c : gx) (d : Nat) (Post : Option Value → gs → Prop) (K6 : Int32 → Int32 → gs → Prop) (x1 : Int32) (xs0 : Int32) (s : gs) : Prop :=
  K6 x1 xs0 s
theorem ok177_87 (c : gx) (d : Nat) (Post : Option Value → gs → Prop) (K6 : Int32 → Int32 → gs → Prop)  (hK6 : ∀ (x1 : Int32) (x2 : Int32) (s : gs), K6 x1 x2 s → tV c d 177 6 [some (.ref 48), some (.int x1), some (.int x2), none, none] [] s Post) (x1 : Int32) (xs0 : Int32) (s : gs) (w : w177_87 c d Post K6 x1 xs0 s) : tV c d 177 87 [some (.ref 48), some (.int x1), none, none, none] [.int xs0] s Post := by
  intro h hR
  have hk : ∀ pc i, gm_find gk_177 pc = some i → gm_code (gt_T c.1 c.2.1 c.2.2.1) 177 pc = some i := fun _ _ z => z
  unfold w177_87 at w
  unfold gV
  refine gw_pst hk 2 (st' := (6, [some (.ref 48), some (.int x1), some (.int xs0), none, none], [], h)) rfl ?_
  exact hK6 _ _ _ w _ hR
def w177_45 (c : gx) (d : Nat) (Post : Option Value → gs → Prop) (K6 : Int32 → Int32 → gs → Prop) (x1 : Int32) (x2 : Int32) (xs0 : Int32) (s : gs) : Prop :=
  ∀ s_2 : gs, s_2 = gs_V s 48 17 ((gsV s 48 17) + 1) → tE c d 179 [.ref 48, .int x1] s_2 (fun v3 s_3 => ∃ x_3 : Int32, v3 = some (.int x_3) ∧ ((xs0 = 0 → ((x_3 = 0 → w177_87 c d Post K6 x1 0 s_3) ∧ (¬ (x_3 = 0) → ¬ x_3 = 0 ∧ w177_87 c d Post K6 x1 (x2 / x_3) s_3))) ∧ (¬ (xs0 = 0) → w177_87 c d Post K6 x1 (x2 * x_3) s_3)))
theorem ok177_45 (c : gx) (d : Nat) (Post : Option Value → gs → Prop) (K6 : Int32 → Int32 → gs → Prop)  (hK6 : ∀ (x1 : Int32) (x2 : Int32) (s : gs), K6 x1 x2 s → tV c d 177 6 [some (.ref 48), some (.int x1), some (.int x2), none, none] [] s Post) (x1 : Int32) (x2 : Int32) (xs0 : Int32) (s : gs) (w : w177_45 c d Post K6 x1 x2 xs0 s) : tV c d 177 45 [some (.ref 48), some (.int x1), some (.int x2), none, none] [.int xs0] s Post := by
  intro h hR
  have hk : ∀ pc i, gm_find gk_177 pc = some i → gm_code (gt_T c.1 c.2.1 c.2.2.1) 177 pc = some i := fun _ _ z => z
  unfold w177_45 at w
  unfold gV
  refine gw_pst hk 3 (st' := (48, [some (.ref 48), some (.int x1), some (.int x2), some (.int xs0), none], [.ref 48, .ref 48], h)) rfl ?_
  refine gw_gf (hk _ _ rfl) (RL_fI hR rfl) ?_
  refine gw_pst hk 2 (st' := (53, [some (.ref 48), some (.int x1), some (.int x2), some (.int xs0), none], [.int ((gsV s 48 17) + 1), .ref 48], h)) rfl ?_
  obtain ⟨fs2, e2⟩ := RL_o hR (r := 48) (ci := 10) rfl
  obtain ⟨l2, hR2⟩ := RL_pI (k := 17) (x := (gsV s 48 17) + 1) hR rfl e2
  refine gw_pf (hk _ _ rfl) e2 l2 rfl ?_
  generalize gm_put h _ _ = h at hR2 ⊢
  obtain ⟨s_2, es2⟩ : ∃ z, z = gs_V s 48 17 ((gsV s 48 17) + 1) := ⟨_, rfl⟩
  rw [← es2] at hR2
  replace w := w s_2 es2
  replace hR := hR2
  refine gw_pst hk 2 (st' := (58, [some (.ref 48), some (.int x1), some (.int x2), some (.int xs0), none], [.int x1, .ref 48], h)) rfl ?_
  obtain ⟨fs3, e3⟩ := RL_o hR (r := 48) (ci := 10) rfl
  refine gw_call (jj := 179) (As := [.ref 48, .int x1]) (rest := []) (hk _ _ rfl) (fun _ => rfl) rfl rfl (Nat.le_of_ble_eq_true rfl) (gm_rcv_v rfl e3 rfl) ?_
  refine ge_imp (w h hR) (fun v3 h w => ?_)
  obtain ⟨s_3, hR, x_3, rfl, w⟩ := w
  show gw (gt_T c.1 c.2.1 c.2.2.1) c.2.2.2 d 177 (61, [some (.ref 48), some (.int x1), some (.int x2), some (.int xs0), none], [.int x_3], h) _
  refine gw_pst hk 2 (st' := (64, [some (.ref 48), some (.int x1), some (.int x2), some (.int xs0), some (.int x_3)], [.int xs0], h)) rfl ?_
  refine gw_br (c := xs0 = 0) (a := (74, [some (.ref 48), some (.int x1), some (.int x2), some (.int xs0), some (.int x_3)], [], h)) (b := (67, [some (.ref 48), some (.int x1), some (.int x2), some (.int xs0), some (.int x_3)], [], h)) (hk _ _ rfl) rfl ⟨fun z4 => ?_, fun z4 => ?_⟩
  · replace w := w.1 z4
    refine gw_pst hk 1 (st' := (76, [some (.ref 48), some (.int x1), some (.int x2), some (.int xs0), some (.int x_3)], [.int x_3], h)) rfl ?_
    refine gw_br (c := x_3 = 0) (a := (79, [some (.ref 48), some (.int x1), some (.int x2), some (.int xs0), some (.int x_3)], [], h)) (b := (83, [some (.ref 48), some (.int x1), some (.int x2), some (.int xs0), some (.int x_3)], [], h)) (hk _ _ rfl) rfl ⟨fun z5 => ?_, fun z5 => ?_⟩
    · replace w := w.1 z5
      refine gw_pst hk 2 (st' := (87, [some (.ref 48), some (.int x1), some (.int x2), some (.int xs0), some (.int x_3)], [.int 0], h)) rfl ?_
      refine gw_le (L' := [some (.ref 48), some (.int x1), none, none, none]) (gm_le_k _ (gm_le_k _ (gm_le_n _ (gm_le_n _ (gm_le_n _ gm_le_nil))))) ?_
      exact ok177_87 c d Post K6 hK6 _ _ _ w _ hR
    · replace w := w.2 z5
      refine gw_pst hk 2 (st' := (86, [some (.ref 48), some (.int x1), some (.int x2), some (.int xs0), some (.int x_3)], [.int x_3, .int x2], h)) rfl ?_
      obtain ⟨z6, w⟩ := w
      refine gw_idiv (hk _ _ rfl) z6 ?_ rfl
      refine gw_le (L' := [some (.ref 48), some (.int x1), none, none, none]) (gm_le_k _ (gm_le_k _ (gm_le_n _ (gm_le_n _ (gm_le_n _ gm_le_nil))))) ?_
      exact ok177_87 c d Post K6 hK6 _ _ _ w _ hR
  · replace w := w.2 z4
    refine gw_pst hk 4 (st' := (87, [some (.ref 48), some (.int x1), some (.int x2), some (.int xs0), some (.int x_3)], [.int (x2 * x_3)], h)) rfl ?_
    refine gw_le (L' := [some (.ref 48), some (.int x1), none, none, none]) (gm_le_k _ (gm_le_k _ (gm_le_n _ (gm_le_n _ (gm_le_n _ gm_le_nil))))) ?_
    exact ok177_87 c d Post K6 hK6 _ _ _ w _ hR
def w177_31 (c : gx) (d : Nat) (Post : Option Value → gs → Prop) (K6 : Int32 → Int32 → gs → Prop) (x1 : Int32) (x2 : Int32) (s : gs) : Prop :=
  tE c d 164 [.ref 48] s (fun v1 s_1 => ∃ x_1 : Int32, v1 = some (.int x_1) ∧ ((x_1 = 42 → w177_45 c d Post K6 x1 x2 1 s_1) ∧ (¬ (x_1 = 42) → w177_45 c d Post K6 x1 x2 0 s_1)))
theorem ok177_31 (c : gx) (d : Nat) (Post : Option Value → gs → Prop) (K6 : Int32 → Int32 → gs → Prop)  (hK6 : ∀ (x1 : Int32) (x2 : Int32) (s : gs), K6 x1 x2 s → tV c d 177 6 [some (.ref 48), some (.int x1), some (.int x2), none, none] [] s Post) (x1 : Int32) (x2 : Int32) (s : gs) (w : w177_31 c d Post K6 x1 x2 s) : tV c d 177 31 [some (.ref 48), some (.int x1), some (.int x2), none, none] [] s Post := by
  intro h hR
  have hk : ∀ pc i, gm_find gk_177 pc = some i → gm_code (gt_T c.1 c.2.1 c.2.2.1) 177 pc = some i := fun _ _ z => z
  unfold w177_31 at w
  unfold gV
  refine gw_pst hk 1 (st' := (32, [some (.ref 48), some (.int x1), some (.int x2), none, none], [.ref 48], h)) rfl ?_
  obtain ⟨fs1, e1⟩ := RL_o hR (r := 48) (ci := 10) rfl
  refine gw_call (jj := 164) (As := [.ref 48]) (rest := []) (hk _ _ rfl) (fun _ => rfl) rfl rfl (Nat.le_of_ble_eq_true rfl) (gm_rcv_v rfl e1 rfl) ?_
  refine ge_imp (w h hR) (fun v1 h w => ?_)
  obtain ⟨s_1, hR, x_1, rfl, w⟩ := w
  show gw (gt_T c.1 c.2.1 c.2.2.1) c.2.2.2 d 177 (35, [some (.ref 48), some (.int x1), some (.int x2), none, none], [.int x_1], h) _
  refine gw_pst hk 1 (st' := (37, [some (.ref 48), some (.int x1), some (.int x2), none, none], [.int 42, .int x_1], h)) rfl ?_
  refine gw_br (c := x_1 = 42) (a := (40, [some (.ref 48), some (.int x1), some (.int x2), none, none], [], h)) (b := (44, [some (.ref 48), some (.int x1), some (.int x2), none, none], [], h)) (hk _ _ rfl) rfl ⟨fun z2 => ?_, fun z2 => ?_⟩
  · replace w := w.1 z2
    refine gw_pst hk 2 (st' := (45, [some (.ref 48), some (.int x1), some (.int x2), none, none], [.int 1], h)) rfl ?_
    exact ok177_45 c d Post K6 hK6 _ _ _ _ w _ hR
  · replace w := w.2 z2
    refine gw_pst hk 1 (st' := (45, [some (.ref 48), some (.int x1), some (.int x2), none, none], [.int 0], h)) rfl ?_
    exact ok177_45 c d Post K6 hK6 _ _ _ _ w _ hR
def w177_91 (c : gx) (d : Nat) (Post : Option Value → gs → Prop) (x2 : Int32) (s : gs) : Prop :=
  Post (some (.int x2)) s
theorem ok177_91 (c : gx) (d : Nat) (Post : Option Value → gs → Prop)  (x2 : Int32) (s : gs) (w : w177_91 c d Post x2 s) : tV c d 177 91 [none, none, some (.int x2), none, none] [] s Post := by
  intro h hR
  have hk : ∀ pc i, gm_find gk_177 pc = some i → gm_code (gt_T c.1 c.2.1 c.2.2.1) 177 pc = some i := fun _ _ z => z
  unfold w177_91 at w
  unfold gV
  refine gw_pst hk 1 (st' := (92, [none, none, some (.int x2), none, none], [.int x2], h)) rfl ?_
  exact gw_ret (hk _ _ rfl) rfl ⟨_, hR, w⟩
def wb177_6 (c : gx) (d : Nat) (Post : Option Value → gs → Prop) (K6 : Int32 → Int32 → gs → Prop) (x1 : Int32) (x2 : Int32) (s : gs) : Prop :=
  tE c d 165 [.ref 48] s (fun v1 s_1 => ∃ x_1 : Int32, v1 = some (.int x_1) ∧ ((x_1 = 0 → w177_91 c d Post x2 s_1) ∧ (¬ (x_1 = 0) → tE c d 164 [.ref 48] s_1 (fun v3 s_3 => ∃ x_3 : Int32, v3 = some (.int x_3) ∧ ((x_3 = 42 → w177_31 c d Post K6 x1 x2 s_3) ∧ (¬ (x_3 = 42) → tE c d 164 [.ref 48] s_3 (fun v5 s_5 => ∃ x_5 : Int32, v5 = some (.int x_5) ∧ ((x_5 = 47 → w177_31 c d Post K6 x1 x2 s_5) ∧ (¬ (x_5 = 47) → w177_91 c d Post x2 s_5)))))))))
theorem okb177_6 (c : gx) (d : Nat) (Post : Option Value → gs → Prop) (K6 : Int32 → Int32 → gs → Prop)  (hK6 : ∀ (x1 : Int32) (x2 : Int32) (s : gs), K6 x1 x2 s → tV c d 177 6 [some (.ref 48), some (.int x1), some (.int x2), none, none] [] s Post) (x1 : Int32) (x2 : Int32) (s : gs) (w : wb177_6 c d Post K6 x1 x2 s) : tV c d 177 6 [some (.ref 48), some (.int x1), some (.int x2), none, none] [] s Post := by
  intro h hR
  have hk : ∀ pc i, gm_find gk_177 pc = some i → gm_code (gt_T c.1 c.2.1 c.2.2.1) 177 pc = some i := fun _ _ z => z
  unfold wb177_6 at w
  unfold gV
  refine gw_pst hk 1 (st' := (7, [some (.ref 48), some (.int x1), some (.int x2), none, none], [.ref 48], h)) rfl ?_
  obtain ⟨fs1, e1⟩ := RL_o hR (r := 48) (ci := 10) rfl
  refine gw_call (jj := 165) (As := [.ref 48]) (rest := []) (hk _ _ rfl) (fun _ => rfl) rfl rfl (Nat.le_of_ble_eq_true rfl) (gm_rcv_v rfl e1 rfl) ?_
  refine ge_imp (w h hR) (fun v1 h w => ?_)
  obtain ⟨s_1, hR, x_1, rfl, w⟩ := w
  show gw (gt_T c.1 c.2.1 c.2.2.1) c.2.2.2 d 177 (10, [some (.ref 48), some (.int x1), some (.int x2), none, none], [.int x_1], h) _
  refine gw_br (c := x_1 = 0) (a := (91, [some (.ref 48), some (.int x1), some (.int x2), none, none], [], h)) (b := (13, [some (.ref 48), some (.int x1), some (.int x2), none, none], [], h)) (hk _ _ rfl) rfl ⟨fun z2 => ?_, fun z2 => ?_⟩
  · replace w := w.1 z2
    refine gw_le (L' := [none, none, some (.int x2), none, none]) (gm_le_n _ (gm_le_n _ (gm_le_k _ (gm_le_k _ (gm_le_k _ gm_le_nil))))) ?_
    exact ok177_91 c d Post _ _ w _ hR
  · replace w := w.2 z2
    refine gw_pst hk 1 (st' := (14, [some (.ref 48), some (.int x1), some (.int x2), none, none], [.ref 48], h)) rfl ?_
    obtain ⟨fs3, e3⟩ := RL_o hR (r := 48) (ci := 10) rfl
    refine gw_call (jj := 164) (As := [.ref 48]) (rest := []) (hk _ _ rfl) (fun _ => rfl) rfl rfl (Nat.le_of_ble_eq_true rfl) (gm_rcv_v rfl e3 rfl) ?_
    refine ge_imp (w h hR) (fun v3 h w => ?_)
    obtain ⟨s_3, hR, x_3, rfl, w⟩ := w
    show gw (gt_T c.1 c.2.1 c.2.2.1) c.2.2.2 d 177 (17, [some (.ref 48), some (.int x1), some (.int x2), none, none], [.int x_3], h) _
    refine gw_pst hk 1 (st' := (19, [some (.ref 48), some (.int x1), some (.int x2), none, none], [.int 42, .int x_3], h)) rfl ?_
    refine gw_br (c := x_3 = 42) (a := (31, [some (.ref 48), some (.int x1), some (.int x2), none, none], [], h)) (b := (22, [some (.ref 48), some (.int x1), some (.int x2), none, none], [], h)) (hk _ _ rfl) rfl ⟨fun z4 => ?_, fun z4 => ?_⟩
    · replace w := w.1 z4
      exact ok177_31 c d Post K6 hK6 _ _ _ w _ hR
    · replace w := w.2 z4
      refine gw_pst hk 1 (st' := (23, [some (.ref 48), some (.int x1), some (.int x2), none, none], [.ref 48], h)) rfl ?_
      obtain ⟨fs5, e5⟩ := RL_o hR (r := 48) (ci := 10) rfl
      refine gw_call (jj := 164) (As := [.ref 48]) (rest := []) (hk _ _ rfl) (fun _ => rfl) rfl rfl (Nat.le_of_ble_eq_true rfl) (gm_rcv_v rfl e5 rfl) ?_
      refine ge_imp (w h hR) (fun v5 h w => ?_)
      obtain ⟨s_5, hR, x_5, rfl, w⟩ := w
      show gw (gt_T c.1 c.2.1 c.2.2.1) c.2.2.2 d 177 (26, [some (.ref 48), some (.int x1), some (.int x2), none, none], [.int x_5], h) _
      refine gw_pst hk 1 (st' := (28, [some (.ref 48), some (.int x1), some (.int x2), none, none], [.int 47, .int x_5], h)) rfl ?_
      refine gw_br (c := x_5 = 47) (a := (31, [some (.ref 48), some (.int x1), some (.int x2), none, none], [], h)) (b := (91, [some (.ref 48), some (.int x1), some (.int x2), none, none], [], h)) (hk _ _ rfl) rfl ⟨fun z6 => ?_, fun z6 => ?_⟩
      · replace w := w.1 z6
        exact ok177_31 c d Post K6 hK6 _ _ _ w _ hR
      · replace w := w.2 z6
        refine gw_le (L' := [none, none, some (.int x2), none, none]) (gm_le_n _ (gm_le_n _ (gm_le_k _ (gm_le_k _ (gm_le_k _ gm_le_nil))))) ?_
        exact ok177_91 c d Post _ _ w _ hR
def wl177_6 (c : gx) (d : Nat) (Post : Option Value → gs → Prop) : Nat → Int32 → Int32 → gs → Prop
  | 0 => fun _ _ _ => False
  | n + 1 => wb177_6 c d Post (wl177_6 c d Post n)
theorem okl177_6 (c : gx) (d : Nat) (Post : Option Value → gs → Prop) : ∀ (n : Nat) (x1 : Int32) (x2 : Int32) (s : gs), wl177_6 c d Post n x1 x2 s → tV c d 177 6 [some (.ref 48), some (.int x1), some (.int x2), none, none] [] s Post
  | 0, _, _, _, w => w.elim
  | n + 1, x1, x2, s, w => okb177_6 c d Post (wl177_6 c d Post n) (okl177_6 c d Post n) x1 x2 s w
/-- CommandByTurnsModel.product(I)I -/
def wm177 (c : gx) (d : Nat) (Post : Option Value → gs → Prop) (x1 : Int32) (s : gs) : Prop :=
  tE c d 179 [.ref 48, .int x1] s (fun v1 s_1 => ∃ x_1 : Int32, v1 = some (.int x_1) ∧ ∃ n, wl177_6 c d Post n x1 x_1 s_1)
theorem okm177 (c : gx) (d : Nat) (Post : Option Value → gs → Prop) (x1 : Int32) (s : gs) (w : wm177 c d Post x1 s) : tE c (d + 1) 177 [.ref 48, .int x1] s Post := by
  intro h hR
  have hk : ∀ pc i, gm_find gk_177 pc = some i → gm_code (gt_T c.1 c.2.1 c.2.2.1) 177 pc = some i := fun _ _ z => z
  unfold wm177 at w
  refine ge_of (by decide) (Nat.le_of_ble_eq_true rfl) ?_
  show gw (gt_T c.1 c.2.1 c.2.2.1) c.2.2.2 d 177 (0, [some (.ref 48), some (.int x1), none, none, none], [], h) _
  refine gw_pst hk 2 (st' := (2, [some (.ref 48), some (.int x1), none, none, none], [.int x1, .ref 48], h)) rfl ?_
  obtain ⟨fs1, e1⟩ := RL_o hR (r := 48) (ci := 10) rfl
  refine gw_call (jj := 179) (As := [.ref 48, .int x1]) (rest := []) (hk _ _ rfl) (fun _ => rfl) rfl rfl (Nat.le_of_ble_eq_true rfl) (gm_rcv_v rfl e1 rfl) ?_
  refine ge_imp (w h hR) (fun v1 h w => ?_)
  obtain ⟨s_1, hR, x_1, rfl, w⟩ := w
  show gw (gt_T c.1 c.2.1 c.2.2.1) c.2.2.2 d 177 (5, [some (.ref 48), some (.int x1), none, none, none], [.int x_1], h) _
  refine gw_pst hk 1 (st' := (6, [some (.ref 48), some (.int x1), some (.int x_1), none, none], [], h)) rfl ?_
  obtain ⟨n, w⟩ := w
  exact okl177_6 c d Post n _ _ _ w _ hR
def w178_83 (c : gx) (d : Nat) (Post : Option Value → gs → Prop) (xs0 : Int32) (s : gs) : Prop :=
  Post (some (.int xs0)) s
theorem ok178_83 (c : gx) (d : Nat) (Post : Option Value → gs → Prop)  (xs0 : Int32) (s : gs) (w : w178_83 c d Post xs0 s) : tV c d 178 83 [none] [.int xs0] s Post := by
  intro h hR
  have hk : ∀ pc i, gm_find gk_178 pc = some i → gm_code (gt_T c.1 c.2.1 c.2.2.1) 178 pc = some i := fun _ _ z => z
  unfold w178_83 at w
  unfold gV
  exact gw_ret (hk _ _ rfl) rfl ⟨_, hR, w⟩
/-- CommandByTurnsModel.letterOf(I)I -/
def wm178 (c : gx) (d : Nat) (Post : Option Value → gs → Prop) (x0 : Int32) (s : gs) : Prop :=
  ((x0 = 98 → w178_83 c d Post 0 s) ∧ (¬ (x0 = 98) → ((x0 = 108 → w178_83 c d Post 1 s) ∧ (¬ (x0 = 108) → ((x0 = 104 → w178_83 c d Post 2 s) ∧ (¬ (x0 = 104) → ((x0 = 109 → w178_83 c d Post 3 s) ∧ (¬ (x0 = 109) → ((x0 = 101 → w178_83 c d Post 4 s) ∧ (¬ (x0 = 101) → ((x0 = 102 → w178_83 c d Post 5 s) ∧ (¬ (x0 = 102) → ((x0 = 100 → w178_83 c d Post 6 s) ∧ (¬ (x0 = 100) → ((x0 = 119 → w178_83 c d Post 7 s) ∧ (¬ (x0 = 119) → w178_83 c d Post (-1) s))))))))))))))))
theorem okm178 (c : gx) (d : Nat) (Post : Option Value → gs → Prop) (x0 : Int32) (s : gs) (w : wm178 c d Post x0 s) : tE c (d + 1) 178 [.int x0] s Post := by
  intro h hR
  have hk : ∀ pc i, gm_find gk_178 pc = some i → gm_code (gt_T c.1 c.2.1 c.2.2.1) 178 pc = some i := fun _ _ z => z
  unfold wm178 at w
  refine ge_of (by decide) (Nat.le_of_ble_eq_true rfl) ?_
  show gw (gt_T c.1 c.2.1 c.2.2.1) c.2.2.2 d 178 (0, [some (.int x0)], [], h) _
  refine gw_pst hk 2 (st' := (3, [some (.int x0)], [.int 98, .int x0], h)) rfl ?_
  refine gw_br (c := x0 = 98) (a := (6, [some (.int x0)], [], h)) (b := (10, [some (.int x0)], [], h)) (hk _ _ rfl) rfl ⟨fun z1 => ?_, fun z1 => ?_⟩
  · replace w := w.1 z1
    refine gw_pst hk 2 (st' := (83, [some (.int x0)], [.int 0], h)) rfl ?_
    refine gw_le (L' := [none]) (gm_le_n _ gm_le_nil) ?_
    exact ok178_83 c d Post _ _ w _ hR
  · replace w := w.2 z1
    refine gw_pst hk 2 (st' := (13, [some (.int x0)], [.int 108, .int x0], h)) rfl ?_
    refine gw_br (c := x0 = 108) (a := (16, [some (.int x0)], [], h)) (b := (20, [some (.int x0)], [], h)) (hk _ _ rfl) rfl ⟨fun z2 => ?_, fun z2 => ?_⟩
    · replace w := w.1 z2
      refine gw_pst hk 2 (st' := (83, [some (.int x0)], [.int 1], h)) rfl ?_
      refine gw_le (L' := [none]) (gm_le_n _ gm_le_nil) ?_
      exact ok178_83 c d Post _ _ w _ hR
    · replace w := w.2 z2
      refine gw_pst hk 2 (st' := (23, [some (.int x0)], [.int 104, .int x0], h)) rfl ?_
      refine gw_br (c := x0 = 104) (a := (26, [some (.int x0)], [], h)) (b := (30, [some (.int x0)], [], h)) (hk _ _ rfl) rfl ⟨fun z3 => ?_, fun z3 => ?_⟩
      · replace w := w.1 z3
        refine gw_pst hk 2 (st' := (83, [some (.int x0)], [.int 2], h)) rfl ?_
        refine gw_le (L' := [none]) (gm_le_n _ gm_le_nil) ?_
        exact ok178_83 c d Post _ _ w _ hR
      · replace w := w.2 z3
        refine gw_pst hk 2 (st' := (33, [some (.int x0)], [.int 109, .int x0], h)) rfl ?_
        refine gw_br (c := x0 = 109) (a := (36, [some (.int x0)], [], h)) (b := (40, [some (.int x0)], [], h)) (hk _ _ rfl) rfl ⟨fun z4 => ?_, fun z4 => ?_⟩
        · replace w := w.1 z4
          refine gw_pst hk 2 (st' := (83, [some (.int x0)], [.int 3], h)) rfl ?_
          refine gw_le (L' := [none]) (gm_le_n _ gm_le_nil) ?_
          exact ok178_83 c d Post _ _ w _ hR
        · replace w := w.2 z4
          refine gw_pst hk 2 (st' := (43, [some (.int x0)], [.int 101, .int x0], h)) rfl ?_
          refine gw_br (c := x0 = 101) (a := (46, [some (.int x0)], [], h)) (b := (50, [some (.int x0)], [], h)) (hk _ _ rfl) rfl ⟨fun z5 => ?_, fun z5 => ?_⟩
          · replace w := w.1 z5
            refine gw_pst hk 2 (st' := (83, [some (.int x0)], [.int 4], h)) rfl ?_
            refine gw_le (L' := [none]) (gm_le_n _ gm_le_nil) ?_
            exact ok178_83 c d Post _ _ w _ hR
          · replace w := w.2 z5
            refine gw_pst hk 2 (st' := (53, [some (.int x0)], [.int 102, .int x0], h)) rfl ?_
            refine gw_br (c := x0 = 102) (a := (56, [some (.int x0)], [], h)) (b := (60, [some (.int x0)], [], h)) (hk _ _ rfl) rfl ⟨fun z6 => ?_, fun z6 => ?_⟩
            · replace w := w.1 z6
              refine gw_pst hk 2 (st' := (83, [some (.int x0)], [.int 5], h)) rfl ?_
              refine gw_le (L' := [none]) (gm_le_n _ gm_le_nil) ?_
              exact ok178_83 c d Post _ _ w _ hR
            · replace w := w.2 z6
              refine gw_pst hk 2 (st' := (63, [some (.int x0)], [.int 100, .int x0], h)) rfl ?_
              refine gw_br (c := x0 = 100) (a := (66, [some (.int x0)], [], h)) (b := (71, [some (.int x0)], [], h)) (hk _ _ rfl) rfl ⟨fun z7 => ?_, fun z7 => ?_⟩
              · replace w := w.1 z7
                refine gw_pst hk 2 (st' := (83, [some (.int x0)], [.int 6], h)) rfl ?_
                refine gw_le (L' := [none]) (gm_le_n _ gm_le_nil) ?_
                exact ok178_83 c d Post _ _ w _ hR
              · replace w := w.2 z7
                refine gw_pst hk 2 (st' := (74, [some (.int x0)], [.int 119, .int x0], h)) rfl ?_
                refine gw_br (c := x0 = 119) (a := (77, [some (.int x0)], [], h)) (b := (82, [some (.int x0)], [], h)) (hk _ _ rfl) rfl ⟨fun z8 => ?_, fun z8 => ?_⟩
                · replace w := w.1 z8
                  refine gw_pst hk 2 (st' := (83, [some (.int x0)], [.int 7], h)) rfl ?_
                  refine gw_le (L' := [none]) (gm_le_n _ gm_le_nil) ?_
                  exact ok178_83 c d Post _ _ w _ hR
                · replace w := w.2 z8
                  refine gw_pst hk 1 (st' := (83, [some (.int x0)], [.int (-1)], h)) rfl ?_
                  refine gw_le (L' := [none]) (gm_le_n _ gm_le_nil) ?_
                  exact ok178_83 c d Post _ _ w _ hR
def w179_132 (c : gx) (d : Nat) (Post : Option Value → gs → Prop) (xs0 : Int32) (s : gs) : Prop :=
  Post (some (.int xs0)) s
theorem ok179_132 (c : gx) (d : Nat) (Post : Option Value → gs → Prop)  (xs0 : Int32) (s : gs) (w : w179_132 c d Post xs0 s) : tV c d 179 132 [none, none, none, none] [.int xs0] s Post := by
  intro h hR
  have hk : ∀ pc i, gm_find gk_179 pc = some i → gm_code (gt_T c.1 c.2.1 c.2.2.1) 179 pc = some i := fun _ _ z => z
  unfold w179_132 at w
  unfold gV
  exact gw_ret (hk _ _ rfl) rfl ⟨_, hR, w⟩
def w179_67 (c : gx) (d : Nat) (Post : Option Value → gs → Prop) (x2 : Int32) (s : gs) : Prop :=
  tE c d 154 [.int x2, .int 48, .int 57] s (fun v1 s_1 => ∃ x_1 : Int32, v1 = some (.int x_1) ∧ ((x_1 = 0 → tE c d 178 [.int x2] s_1 (fun v3 s_3 => ∃ x_3 : Int32, v3 = some (.int x_3) ∧ ((x_3 = (-1) → tE c d 166 [.ref 48, .int (gsV s_3 48 17)] s_3 (fun v6 s_6 => v6 = none ∧ Post (some (.int 0)) s_6)) ∧ (¬ (x_3 = (-1)) → ∀ s_8 : gs, s_8 = gs_V s_3 48 17 ((gsV s_3 48 17) + 1) → (((gsV s_8 48 23) = 0 → w179_132 c d Post 0 s_8) ∧ (¬ ((gsV s_8 48 23) = 0) → tE c d 178 [.int x2] s_8 (fun v12 s_12 => ∃ x_12 : Int32, v12 = some (.int x_12) ∧ vp_in x_12 8 ∧ w179_132 c d Post (gsA s_12 62 (x_12 : Int32).toNatClampNeg) s_12))))))) ∧ (¬ (x_1 = 0) → tE c d 170 [.ref 48, .int 3] s_1 (fun v14 s_14 => ∃ x_14 : Int32, v14 = some (.int x_14) ∧ Post (some (.int x_14)) s_14))))
theorem ok179_67 (c : gx) (d : Nat) (Post : Option Value → gs → Prop)  (x2 : Int32) (s : gs) (w : w179_67 c d Post x2 s) : tV c d 179 67 [some (.ref 48), none, some (.int x2), none] [] s Post := by
  intro h hR
  have hk : ∀ pc i, gm_find gk_179 pc = some i → gm_code (gt_T c.1 c.2.1 c.2.2.1) 179 pc = some i := fun _ _ z => z
  unfold w179_67 at w
  unfold gV
  refine gw_pst hk 3 (st' := (72, [some (.ref 48), none, some (.int x2), none], [.int 57, .int 48, .int x2], h)) rfl ?_
  refine gw_call (jj := 154) (As := [.int x2, .int 48, .int 57]) (rest := []) (hk _ _ rfl) (fun _ => rfl) rfl rfl (Nat.le_of_ble_eq_true rfl) rfl ?_
  refine ge_imp (w h hR) (fun v1 h w => ?_)
  obtain ⟨s_1, hR, x_1, rfl, w⟩ := w
  show gw (gt_T c.1 c.2.1 c.2.2.1) c.2.2.2 d 179 (75, [some (.ref 48), none, some (.int x2), none], [.int x_1], h) _
  refine gw_br (c := x_1 = 0) (a := (84, [some (.ref 48), none, some (.int x2), none], [], h)) (b := (78, [some (.ref 48), none, some (.int x2), none], [], h)) (hk _ _ rfl) rfl ⟨fun z2 => ?_, fun z2 => ?_⟩
  · replace w := w.1 z2
    refine gw_pst hk 1 (st' := (85, [some (.ref 48), none, some (.int x2), none], [.int x2], h)) rfl ?_
    refine gw_call (jj := 178) (As := [.int x2]) (rest := []) (hk _ _ rfl) (fun _ => rfl) rfl rfl (Nat.le_of_ble_eq_true rfl) rfl ?_
    refine ge_imp (w h hR) (fun v3 h w => ?_)
    obtain ⟨s_3, hR, x_3, rfl, w⟩ := w
    show gw (gt_T c.1 c.2.1 c.2.2.1) c.2.2.2 d 179 (88, [some (.ref 48), none, some (.int x2), none], [.int x_3], h) _
    refine gw_pst hk 1 (st' := (89, [some (.ref 48), none, some (.int x2), none], [.int (-1), .int x_3], h)) rfl ?_
    refine gw_br (c := x_3 = (-1)) (a := (92, [some (.ref 48), none, some (.int x2), none], [], h)) (b := (102, [some (.ref 48), none, some (.int x2), none], [], h)) (hk _ _ rfl) rfl ⟨fun z4 => ?_, fun z4 => ?_⟩
    · replace w := w.1 z4
      refine gw_pst hk 2 (st' := (94, [some (.ref 48), none, some (.int x2), none], [.ref 48, .ref 48], h)) rfl ?_
      refine gw_gf (hk _ _ rfl) (RL_fI hR rfl) ?_
      obtain ⟨fs6, e6⟩ := RL_o hR (r := 48) (ci := 10) rfl
      refine gw_call (jj := 166) (As := [.ref 48, .int (gsV s_3 48 17)]) (rest := []) (hk _ _ rfl) (fun _ => rfl) rfl rfl (Nat.le_of_ble_eq_true rfl) (gm_rcv_v rfl e6 rfl) ?_
      refine ge_imp (w h hR) (fun v6 h w => ?_)
      obtain ⟨s_6, hR, rfl, w⟩ := w
      show gw (gt_T c.1 c.2.1 c.2.2.1) c.2.2.2 d 179 (100, [some (.ref 48), none, some (.int x2), none], [], h) _
      refine gw_pst hk 1 (st' := (101, [some (.ref 48), none, some (.int x2), none], [.int 0], h)) rfl ?_
      exact gw_ret (hk _ _ rfl) rfl ⟨_, hR, w⟩
    · replace w := w.2 z4
      refine gw_pst hk 2 (st' := (104, [some (.ref 48), none, some (.int x2), none], [.ref 48, .ref 48], h)) rfl ?_
      refine gw_gf (hk _ _ rfl) (RL_fI hR rfl) ?_
      refine gw_pst hk 2 (st' := (109, [some (.ref 48), none, some (.int x2), none], [.int ((gsV s_3 48 17) + 1), .ref 48], h)) rfl ?_
      obtain ⟨fs8, e8⟩ := RL_o hR (r := 48) (ci := 10) rfl
      obtain ⟨l8, hR8⟩ := RL_pI (k := 17) (x := (gsV s_3 48 17) + 1) hR rfl e8
      refine gw_pf (hk _ _ rfl) e8 l8 rfl ?_
      generalize gm_put h _ _ = h at hR8 ⊢
      obtain ⟨s_8, es8⟩ : ∃ z, z = gs_V s_3 48 17 ((gsV s_3 48 17) + 1) := ⟨_, rfl⟩
      rw [← es8] at hR8
      replace w := w s_8 es8
      replace hR := hR8
      refine gw_pst hk 1 (st' := (113, [some (.ref 48), none, some (.int x2), none], [.ref 48], h)) rfl ?_
      refine gw_gf (hk _ _ rfl) (RL_fI hR rfl) ?_
      refine gw_br (c := (gsV s_8 48 23) = 0) (a := (131, [some (.ref 48), none, some (.int x2), none], [], h)) (b := (119, [some (.ref 48), none, some (.int x2), none], [], h)) (hk _ _ rfl) rfl ⟨fun z10 => ?_, fun z10 => ?_⟩
      · replace w := w.1 z10
        refine gw_pst hk 1 (st' := (132, [some (.ref 48), none, some (.int x2), none], [.int 0], h)) rfl ?_
        refine gw_le (L' := [none, none, none, none]) (gm_le_n _ (gm_le_k _ (gm_le_n _ (gm_le_k _ gm_le_nil)))) ?_
        exact ok179_132 c d Post _ _ w _ hR
      · replace w := w.2 z10
        refine gw_pst hk 1 (st' := (120, [some (.ref 48), none, some (.int x2), none], [.ref 48], h)) rfl ?_
        refine gw_gf (hk _ _ rfl) (RL_fR (n := 62) hR rfl) ?_
        refine gw_pst hk 1 (st' := (124, [some (.ref 48), none, some (.int x2), none], [.int x2, .ref 62], h)) rfl ?_
        refine gw_call (jj := 178) (As := [.int x2]) (rest := [.ref 62]) (hk _ _ rfl) (fun _ => rfl) rfl rfl (Nat.le_of_ble_eq_true rfl) rfl ?_
        refine ge_imp (w h hR) (fun v12 h w => ?_)
        obtain ⟨s_12, hR, x_12, rfl, w⟩ := w
        show gw (gt_T c.1 c.2.1 c.2.2.1) c.2.2.2 d 179 (127, [some (.ref 48), none, some (.int x2), none], [.int x_12, .ref 62], h) _
        obtain ⟨b13, w⟩ := w
        refine gw_ald (hk _ _ rfl) (Or.inl ⟨rfl, rfl⟩) (RL_a (t := 0) (n := 8) hR rfl (by decide)) b13 ?_
        refine gw_pst hk 1 (st' := (132, [some (.ref 48), none, some (.int x2), none], [.int (gsA s_12 62 (x_12 : Int32).toNatClampNeg)], h)) rfl ?_
        refine gw_le (L' := [none, none, none, none]) (gm_le_n _ (gm_le_k _ (gm_le_n _ (gm_le_k _ gm_le_nil)))) ?_
        exact ok179_132 c d Post _ _ w _ hR
  · replace w := w.2 z2
    refine gw_pst hk 2 (st' := (80, [some (.ref 48), none, some (.int x2), none], [.int 3, .ref 48], h)) rfl ?_
    obtain ⟨fs14, e14⟩ := RL_o hR (r := 48) (ci := 10) rfl
    refine gw_call (jj := 170) (As := [.ref 48, .int 3]) (rest := []) (hk _ _ rfl) (fun _ => rfl) rfl rfl (Nat.le_of_ble_eq_true rfl) (gm_rcv_v rfl e14 rfl) ?_
    refine ge_imp (w h hR) (fun v14 h w => ?_)
    obtain ⟨s_14, hR, x_14, rfl, w⟩ := w
    show gw (gt_T c.1 c.2.1 c.2.2.1) c.2.2.2 d 179 (83, [some (.ref 48), none, some (.int x2), none], [.int x_14], h) _
    exact gw_ret (hk _ _ rfl) rfl ⟨_, hR, w⟩
/-- CommandByTurnsModel.thing(I)I -/
def wm179 (c : gx) (d : Nat) (Post : Option Value → gs → Prop) (x1 : Int32) (s : gs) : Prop :=
  tE c d 167 [.ref 48, .int 45] s (fun v1 s_1 => ∃ x_1 : Int32, v1 = some (.int x_1) ∧ ((x_1 = 0 → tE c d 165 [.ref 48] s_1 (fun v3 s_3 => ∃ x_3 : Int32, v3 = some (.int x_3) ∧ ((x_3 = 0 → Post (some (.int 0)) s_3) ∧ (¬ (x_3 = 0) → tE c d 164 [.ref 48] s_3 (fun v5 s_5 => ∃ x_5 : Int32, v5 = some (.int x_5) ∧ ((x_5 = 40 → ((4 ≤ x1 → w179_67 c d Post x_5 s_5) ∧ (¬ (4 ≤ x1) → ∀ s_9 : gs, s_9 = gs_V s_5 48 17 ((gsV s_5 48 17) + 1) → tE c d 175 [.ref 48, .int (x1 + 1)] s_9 (fun v10 s_10 => ∃ x_10 : Int32, v10 = some (.int x_10) ∧ tE c d 168 [.ref 48, .int 41] s_10 (fun v11 s_11 => v11 = none ∧ Post (some (.int x_10)) s_11))))) ∧ (¬ (x_5 = 40) → w179_67 c d Post x_5 s_5))))))) ∧ (¬ (x_1 = 0) → tE c d 179 [.ref 48, .int x1] s_1 (fun v12 s_12 => ∃ x_12 : Int32, v12 = some (.int x_12) ∧ Post (some (.int (-x_12))) s_12))))
theorem okm179 (c : gx) (d : Nat) (Post : Option Value → gs → Prop) (x1 : Int32) (s : gs) (w : wm179 c d Post x1 s) : tE c (d + 1) 179 [.ref 48, .int x1] s Post := by
  intro h hR
  have hk : ∀ pc i, gm_find gk_179 pc = some i → gm_code (gt_T c.1 c.2.1 c.2.2.1) 179 pc = some i := fun _ _ z => z
  unfold wm179 at w
  refine ge_of (by decide) (Nat.le_of_ble_eq_true rfl) ?_
  show gw (gt_T c.1 c.2.1 c.2.2.1) c.2.2.2 d 179 (0, [some (.ref 48), some (.int x1), none, none], [], h) _
  refine gw_pst hk 2 (st' := (3, [some (.ref 48), some (.int x1), none, none], [.int 45, .ref 48], h)) rfl ?_
  obtain ⟨fs1, e1⟩ := RL_o hR (r := 48) (ci := 10) rfl
  refine gw_call (jj := 167) (As := [.ref 48, .int 45]) (rest := []) (hk _ _ rfl) (fun _ => rfl) rfl rfl (Nat.le_of_ble_eq_true rfl) (gm_rcv_v rfl e1 rfl) ?_
  refine ge_imp (w h hR) (fun v1 h w => ?_)
  obtain ⟨s_1, hR, x_1, rfl, w⟩ := w
  show gw (gt_T c.1 c.2.1 c.2.2.1) c.2.2.2 d 179 (6, [some (.ref 48), some (.int x1), none, none], [.int x_1], h) _
  refine gw_br (c := x_1 = 0) (a := (16, [some (.ref 48), some (.int x1), none, none], [], h)) (b := (9, [some (.ref 48), some (.int x1), none, none], [], h)) (hk _ _ rfl) rfl ⟨fun z2 => ?_, fun z2 => ?_⟩
  · replace w := w.1 z2
    refine gw_pst hk 1 (st' := (17, [some (.ref 48), some (.int x1), none, none], [.ref 48], h)) rfl ?_
    obtain ⟨fs3, e3⟩ := RL_o hR (r := 48) (ci := 10) rfl
    refine gw_call (jj := 165) (As := [.ref 48]) (rest := []) (hk _ _ rfl) (fun _ => rfl) rfl rfl (Nat.le_of_ble_eq_true rfl) (gm_rcv_v rfl e3 rfl) ?_
    refine ge_imp (w h hR) (fun v3 h w => ?_)
    obtain ⟨s_3, hR, x_3, rfl, w⟩ := w
    show gw (gt_T c.1 c.2.1 c.2.2.1) c.2.2.2 d 179 (20, [some (.ref 48), some (.int x1), none, none], [.int x_3], h) _
    refine gw_br (c := x_3 = 0) (a := (23, [some (.ref 48), some (.int x1), none, none], [], h)) (b := (25, [some (.ref 48), some (.int x1), none, none], [], h)) (hk _ _ rfl) rfl ⟨fun z4 => ?_, fun z4 => ?_⟩
    · replace w := w.1 z4
      refine gw_pst hk 1 (st' := (24, [some (.ref 48), some (.int x1), none, none], [.int 0], h)) rfl ?_
      exact gw_ret (hk _ _ rfl) rfl ⟨_, hR, w⟩
    · replace w := w.2 z4
      refine gw_pst hk 1 (st' := (26, [some (.ref 48), some (.int x1), none, none], [.ref 48], h)) rfl ?_
      obtain ⟨fs5, e5⟩ := RL_o hR (r := 48) (ci := 10) rfl
      refine gw_call (jj := 164) (As := [.ref 48]) (rest := []) (hk _ _ rfl) (fun _ => rfl) rfl rfl (Nat.le_of_ble_eq_true rfl) (gm_rcv_v rfl e5 rfl) ?_
      refine ge_imp (w h hR) (fun v5 h w => ?_)
      obtain ⟨s_5, hR, x_5, rfl, w⟩ := w
      show gw (gt_T c.1 c.2.1 c.2.2.1) c.2.2.2 d 179 (29, [some (.ref 48), some (.int x1), none, none], [.int x_5], h) _
      refine gw_pst hk 3 (st' := (33, [some (.ref 48), some (.int x1), some (.int x_5), none], [.int 40, .int x_5], h)) rfl ?_
      refine gw_br (c := x_5 = 40) (a := (36, [some (.ref 48), some (.int x1), some (.int x_5), none], [], h)) (b := (67, [some (.ref 48), some (.int x1), some (.int x_5), none], [], h)) (hk _ _ rfl) rfl ⟨fun z6 => ?_, fun z6 => ?_⟩
      · replace w := w.1 z6
        refine gw_pst hk 2 (st' := (38, [some (.ref 48), some (.int x1), some (.int x_5), none], [.int 4, .int x1], h)) rfl ?_
        refine gw_br (c := 4 ≤ x1) (a := (67, [some (.ref 48), some (.int x1), some (.int x_5), none], [], h)) (b := (41, [some (.ref 48), some (.int x1), some (.int x_5), none], [], h)) (hk _ _ rfl) rfl ⟨fun z7 => ?_, fun z7 => ?_⟩
        · replace w := w.1 z7
          refine gw_le (L' := [some (.ref 48), none, some (.int x_5), none]) (gm_le_k _ (gm_le_n _ (gm_le_k _ (gm_le_k _ gm_le_nil)))) ?_
          exact ok179_67 c d Post _ _ w _ hR
        · replace w := w.2 z7
          refine gw_pst hk 2 (st' := (43, [some (.ref 48), some (.int x1), some (.int x_5), none], [.ref 48, .ref 48], h)) rfl ?_
          refine gw_gf (hk _ _ rfl) (RL_fI hR rfl) ?_
          refine gw_pst hk 2 (st' := (48, [some (.ref 48), some (.int x1), some (.int x_5), none], [.int ((gsV s_5 48 17) + 1), .ref 48], h)) rfl ?_
          obtain ⟨fs9, e9⟩ := RL_o hR (r := 48) (ci := 10) rfl
          obtain ⟨l9, hR9⟩ := RL_pI (k := 17) (x := (gsV s_5 48 17) + 1) hR rfl e9
          refine gw_pf (hk _ _ rfl) e9 l9 rfl ?_
          generalize gm_put h _ _ = h at hR9 ⊢
          obtain ⟨s_9, es9⟩ : ∃ z, z = gs_V s_5 48 17 ((gsV s_5 48 17) + 1) := ⟨_, rfl⟩
          rw [← es9] at hR9
          replace w := w s_9 es9
          replace hR := hR9
          refine gw_pst hk 4 (st' := (55, [some (.ref 48), some (.int x1), some (.int x_5), none], [.int (x1 + 1), .ref 48], h)) rfl ?_
          obtain ⟨fs10, e10⟩ := RL_o hR (r := 48) (ci := 10) rfl
          refine gw_call (jj := 175) (As := [.ref 48, .int (x1 + 1)]) (rest := []) (hk _ _ rfl) (fun _ => rfl) rfl rfl (Nat.le_of_ble_eq_true rfl) (gm_rcv_v rfl e10 rfl) ?_
          refine ge_imp (w h hR) (fun v10 h w => ?_)
          obtain ⟨s_10, hR, x_10, rfl, w⟩ := w
          show gw (gt_T c.1 c.2.1 c.2.2.1) c.2.2.2 d 179 (58, [some (.ref 48), some (.int x1), some (.int x_5), none], [.int x_10], h) _
          refine gw_pst hk 3 (st' := (62, [some (.ref 48), some (.int x1), some (.int x_5), some (.int x_10)], [.int 41, .ref 48], h)) rfl ?_
          obtain ⟨fs11, e11⟩ := RL_o hR (r := 48) (ci := 10) rfl
          refine gw_call (jj := 168) (As := [.ref 48, .int 41]) (rest := []) (hk _ _ rfl) (fun _ => rfl) rfl rfl (Nat.le_of_ble_eq_true rfl) (gm_rcv_v rfl e11 rfl) ?_
          refine ge_imp (w h hR) (fun v11 h w => ?_)
          obtain ⟨s_11, hR, rfl, w⟩ := w
          show gw (gt_T c.1 c.2.1 c.2.2.1) c.2.2.2 d 179 (65, [some (.ref 48), some (.int x1), some (.int x_5), some (.int x_10)], [], h) _
          refine gw_pst hk 1 (st' := (66, [some (.ref 48), some (.int x1), some (.int x_5), some (.int x_10)], [.int x_10], h)) rfl ?_
          exact gw_ret (hk _ _ rfl) rfl ⟨_, hR, w⟩
      · replace w := w.2 z6
        refine gw_le (L' := [some (.ref 48), none, some (.int x_5), none]) (gm_le_k _ (gm_le_n _ (gm_le_k _ (gm_le_k _ gm_le_nil)))) ?_
        exact ok179_67 c d Post _ _ w _ hR
  · replace w := w.2 z2
    refine gw_pst hk 2 (st' := (11, [some (.ref 48), some (.int x1), none, none], [.int x1, .ref 48], h)) rfl ?_
    obtain ⟨fs12, e12⟩ := RL_o hR (r := 48) (ci := 10) rfl
    refine gw_call (jj := 179) (As := [.ref 48, .int x1]) (rest := []) (hk _ _ rfl) (fun _ => rfl) rfl rfl (Nat.le_of_ble_eq_true rfl) (gm_rcv_v rfl e12 rfl) ?_
    refine ge_imp (w h hR) (fun v12 h w => ?_)
    obtain ⟨s_12, hR, x_12, rfl, w⟩ := w
    show gw (gt_T c.1 c.2.1 c.2.2.1) c.2.2.2 d 179 (14, [some (.ref 48), some (.int x1), none, none], [.int x_12], h) _
    refine gw_pst hk 1 (st' := (15, [some (.ref 48), some (.int x1), none, none], [.int (-x_12)], h)) rfl ?_
    exact gw_ret (hk _ _ rfl) rfl ⟨_, hR, w⟩
