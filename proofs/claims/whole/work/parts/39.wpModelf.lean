/-! What must hold for a run to end with Post: by program (wip/whole/gen_wp.py). -/
def w241_25 (c : gx) (d : Nat) (Post : Option Value → gs → Prop)  (s : gs) : Prop :=
  Post (some (.int (-1))) s
theorem ok241_25 (c : gx) (d : Nat) (Post : Option Value → gs → Prop)   (s : gs) (w : w241_25 c d Post  s) : tV c d 241 25 [none, none, none] [] s Post := by
  intro h hR
  have hk : ∀ pc i, gm_find gk_241 pc = some i → gm_code (gt_T c.1 c.2.1 c.2.2.1) 241 pc = some i := fun _ _ z => z
  unfold w241_25 at w
  unfold gV
  refine gw_pst hk 1 (st' := (26, [none, none, none], [.int (-1)], h)) rfl ?_
  exact gw_ret (hk _ _ rfl) rfl ⟨_, hR, w⟩
/-- CommandByTurnsModel.seen(II)I -/
def wm241 (c : gx) (d : Nat) (Post : Option Value → gs → Prop) (x1 : Int32) (x2 : Int32) (s : gs) : Prop :=
  ∀ s_1 : gs, s_1 = gs_V s 48 13 0 → tE c d 154 [.int x1, .int 0, .int 19] s_1 (fun v2 s_2 => ∃ x_2 : Int32, v2 = some (.int x_2) ∧ ((x_2 = 0 → w241_25 c d Post s_2) ∧ (¬ (x_2 = 0) → tE c d 154 [.int x2, .int 0, .int 9] s_2 (fun v4 s_4 => ∃ x_4 : Int32, v4 = some (.int x_4) ∧ ((x_4 = 0 → w241_25 c d Post s_4) ∧ (¬ (x_4 = 0) → vp_in x1 20 ∧ ∀ s_7 : gs, s_7 = gs_A s_4 69 (x1 : Int32).toNatClampNeg (vp_nar .int x2) → ∀ s_9 : gs, s_9 = gs_V s_7 48 34 ((gsV s_7 48 34) ||| (1 <<< (x1 &&& 31))) → tE c d 266 [.int (gsV s_9 48 34)] s_9 (fun v11 s_11 => ∃ x_11 : Int32, v11 = some (.int x_11) ∧ Post (some (.int x_11)) s_11)))))))
theorem okm241 (c : gx) (d : Nat) (Post : Option Value → gs → Prop) (x1 : Int32) (x2 : Int32) (s : gs) (w : wm241 c d Post x1 x2 s) : tE c (d + 1) 241 [.ref 48, .int x1, .int x2] s Post := by
  intro h hR
  have hk : ∀ pc i, gm_find gk_241 pc = some i → gm_code (gt_T c.1 c.2.1 c.2.2.1) 241 pc = some i := fun _ _ z => z
  unfold wm241 at w
  refine ge_of (by decide) (Nat.le_of_ble_eq_true rfl) ?_
  show gw (gt_T c.1 c.2.1 c.2.2.1) c.2.2.2 d 241 (0, [some (.ref 48), some (.int x1), some (.int x2)], [], h) _
  refine gw_pst hk 2 (st' := (2, [some (.ref 48), some (.int x1), some (.int x2)], [.int 0, .ref 48], h)) rfl ?_
  obtain ⟨fs1, e1⟩ := RL_o hR (r := 48) (ci := 10) rfl
  obtain ⟨l1, hR1⟩ := RL_pI (k := 13) (x := 0) hR rfl e1
  refine gw_pf (hk _ _ rfl) e1 l1 rfl ?_
  generalize gm_put h _ _ = h at hR1 ⊢
  obtain ⟨s_1, es1⟩ : ∃ z, z = gs_V s 48 13 0 := ⟨_, rfl⟩
  rw [← es1] at hR1
  replace w := w s_1 es1
  replace hR := hR1
  refine gw_pst hk 3 (st' := (9, [some (.ref 48), some (.int x1), some (.int x2)], [.int 19, .int 0, .int x1], h)) rfl ?_
  refine gw_call (jj := 154) (As := [.int x1, .int 0, .int 19]) (rest := []) (hk _ _ rfl) (fun _ => rfl) rfl rfl (Nat.le_of_ble_eq_true rfl) rfl ?_
  refine ge_imp (w h hR) (fun v2 h w => ?_)
  obtain ⟨s_2, hR, x_2, rfl, w⟩ := w
  show gw (gt_T c.1 c.2.1 c.2.2.1) c.2.2.2 d 241 (12, [some (.ref 48), some (.int x1), some (.int x2)], [.int x_2], h) _
  refine gw_br (c := x_2 = 0) (a := (25, [some (.ref 48), some (.int x1), some (.int x2)], [], h)) (b := (15, [some (.ref 48), some (.int x1), some (.int x2)], [], h)) (hk _ _ rfl) rfl ⟨fun z3 => ?_, fun z3 => ?_⟩
  · replace w := w.1 z3
    refine gw_le (L' := [none, none, none]) (gm_le_n _ (gm_le_n _ (gm_le_n _ gm_le_nil))) ?_
    exact ok241_25 c d Post _ w _ hR
  · replace w := w.2 z3
    refine gw_pst hk 3 (st' := (19, [some (.ref 48), some (.int x1), some (.int x2)], [.int 9, .int 0, .int x2], h)) rfl ?_
    refine gw_call (jj := 154) (As := [.int x2, .int 0, .int 9]) (rest := []) (hk _ _ rfl) (fun _ => rfl) rfl rfl (Nat.le_of_ble_eq_true rfl) rfl ?_
    refine ge_imp (w h hR) (fun v4 h w => ?_)
    obtain ⟨s_4, hR, x_4, rfl, w⟩ := w
    show gw (gt_T c.1 c.2.1 c.2.2.1) c.2.2.2 d 241 (22, [some (.ref 48), some (.int x1), some (.int x2)], [.int x_4], h) _
    refine gw_br (c := x_4 = 0) (a := (25, [some (.ref 48), some (.int x1), some (.int x2)], [], h)) (b := (27, [some (.ref 48), some (.int x1), some (.int x2)], [], h)) (hk _ _ rfl) rfl ⟨fun z5 => ?_, fun z5 => ?_⟩
    · replace w := w.1 z5
      refine gw_le (L' := [none, none, none]) (gm_le_n _ (gm_le_n _ (gm_le_n _ gm_le_nil))) ?_
      exact ok241_25 c d Post _ w _ hR
    · replace w := w.2 z5
      refine gw_pst hk 1 (st' := (28, [some (.ref 48), some (.int x1), some (.int x2)], [.ref 48], h)) rfl ?_
      refine gw_gf (hk _ _ rfl) (RL_fR (n := 69) hR rfl) ?_
      refine gw_pst hk 2 (st' := (33, [some (.ref 48), some (.int x1), some (.int x2)], [.int x2, .int x1, .ref 69], h)) rfl ?_
      obtain ⟨b7, w⟩ := w
      have hR7 := RL_pA (a := 69) (t := 0) (n := 20) (k := (x1 : Int32).toNatClampNeg) (x := (vp_nar .int x2)) hR rfl (by decide)
      refine gw_ast (hk _ _ rfl) (Or.inl ⟨rfl, rfl, rfl⟩) (RL_a (t := 0) (n := 20) hR rfl (by decide)) b7 ?_
      generalize gm_put h _ _ = h at hR7 ⊢
      obtain ⟨s_7, es7⟩ : ∃ z, z = gs_A s_4 69 (x1 : Int32).toNatClampNeg (vp_nar .int x2) := ⟨_, rfl⟩
      rw [← es7] at hR7
      replace w := w s_7 es7
      replace hR := hR7
      refine gw_pst hk 2 (st' := (36, [some (.ref 48), some (.int x1), some (.int x2)], [.ref 48, .ref 48], h)) rfl ?_
      refine gw_gf (hk _ _ rfl) (RL_fI hR rfl) ?_
      refine gw_pst hk 4 (st' := (43, [some (.ref 48), some (.int x1), some (.int x2)], [.int ((gsV s_7 48 34) ||| (1 <<< (x1 &&& 31))), .ref 48], h)) rfl ?_
      obtain ⟨fs9, e9⟩ := RL_o hR (r := 48) (ci := 10) rfl
      obtain ⟨l9, hR9⟩ := RL_pI (k := 34) (x := (gsV s_7 48 34) ||| (1 <<< (x1 &&& 31))) hR rfl e9
      refine gw_pf (hk _ _ rfl) e9 l9 rfl ?_
      generalize gm_put h _ _ = h at hR9 ⊢
      obtain ⟨s_9, es9⟩ : ∃ z, z = gs_V s_7 48 34 ((gsV s_7 48 34) ||| (1 <<< (x1 &&& 31))) := ⟨_, rfl⟩
      rw [← es9] at hR9
      replace w := w s_9 es9
      replace hR := hR9
      refine gw_pst hk 1 (st' := (47, [some (.ref 48), some (.int x1), some (.int x2)], [.ref 48], h)) rfl ?_
      refine gw_gf (hk _ _ rfl) (RL_fI hR rfl) ?_
      refine gw_call (jj := 266) (As := [.int (gsV s_9 48 34)]) (rest := []) (hk _ _ rfl) (fun _ => rfl) rfl rfl (Nat.le_of_ble_eq_true rfl) rfl ?_
      refine ge_imp (w h hR) (fun v11 h w => ?_)
      obtain ⟨s_11, hR, x_11, rfl, w⟩ := w
      show gw (gt_T c.1 c.2.1 c.2.2.1) c.2.2.2 d 241 (53, [some (.ref 48), some (.int x1), some (.int x2)], [.int x_11], h) _
      exact gw_ret (hk _ _ rfl) rfl ⟨_, hR, w⟩
/-- CommandByTurnsModel.forget()I -/
def wm242 (c : gx) (d : Nat) (Post : Option Value → gs → Prop)  (s : gs) : Prop :=
  ∀ s_1 : gs, s_1 = gs_V s 48 13 0 → tE c d 266 [.int (gsV s_1 48 34)] s_1 (fun v3 s_3 => ∃ x_3 : Int32, v3 = some (.int x_3) ∧ ∀ s_4 : gs, s_4 = gs_V s_3 48 34 0 → Post (some (.int x_3)) s_4)
theorem okm242 (c : gx) (d : Nat) (Post : Option Value → gs → Prop)  (s : gs) (w : wm242 c d Post  s) : tE c (d + 1) 242 [.ref 48] s Post := by
  intro h hR
  have hk : ∀ pc i, gm_find gk_242 pc = some i → gm_code (gt_T c.1 c.2.1 c.2.2.1) 242 pc = some i := fun _ _ z => z
  unfold wm242 at w
  refine ge_of (by decide) (Nat.le_of_ble_eq_true rfl) ?_
  show gw (gt_T c.1 c.2.1 c.2.2.1) c.2.2.2 d 242 (0, [some (.ref 48), none], [], h) _
  refine gw_pst hk 2 (st' := (2, [some (.ref 48), none], [.int 0, .ref 48], h)) rfl ?_
  obtain ⟨fs1, e1⟩ := RL_o hR (r := 48) (ci := 10) rfl
  obtain ⟨l1, hR1⟩ := RL_pI (k := 13) (x := 0) hR rfl e1
  refine gw_pf (hk _ _ rfl) e1 l1 rfl ?_
  generalize gm_put h _ _ = h at hR1 ⊢
  obtain ⟨s_1, es1⟩ : ∃ z, z = gs_V s 48 13 0 := ⟨_, rfl⟩
  rw [← es1] at hR1
  replace w := w s_1 es1
  replace hR := hR1
  refine gw_pst hk 1 (st' := (6, [some (.ref 48), none], [.ref 48], h)) rfl ?_
  refine gw_gf (hk _ _ rfl) (RL_fI hR rfl) ?_
  refine gw_call (jj := 266) (As := [.int (gsV s_1 48 34)]) (rest := []) (hk _ _ rfl) (fun _ => rfl) rfl rfl (Nat.le_of_ble_eq_true rfl) rfl ?_
  refine ge_imp (w h hR) (fun v3 h w => ?_)
  obtain ⟨s_3, hR, x_3, rfl, w⟩ := w
  show gw (gt_T c.1 c.2.1 c.2.2.1) c.2.2.2 d 242 (12, [some (.ref 48), none], [.int x_3], h) _
  refine gw_pst hk 3 (st' := (15, [some (.ref 48), some (.int x_3)], [.int 0, .ref 48], h)) rfl ?_
  obtain ⟨fs4, e4⟩ := RL_o hR (r := 48) (ci := 10) rfl
  obtain ⟨l4, hR4⟩ := RL_pI (k := 34) (x := 0) hR rfl e4
  refine gw_pf (hk _ _ rfl) e4 l4 rfl ?_
  generalize gm_put h _ _ = h at hR4 ⊢
  obtain ⟨s_4, es4⟩ : ∃ z, z = gs_V s_3 48 34 0 := ⟨_, rfl⟩
  rw [← es4] at hR4
  replace w := w s_4 es4
  replace hR := hR4
  refine gw_pst hk 1 (st' := (19, [some (.ref 48), some (.int x_3)], [.int x_3], h)) rfl ?_
  exact gw_ret (hk _ _ rfl) rfl ⟨_, hR, w⟩
def w243_30 (c : gx) (d : Nat) (Post : Option Value → gs → Prop) (xs0 : Int32) (s : gs) : Prop :=
  ((xs0 = 0 ∨ xs0 = 1) ∧ Post (some (.int xs0)) s)
theorem ok243_30 (c : gx) (d : Nat) (Post : Option Value → gs → Prop)  (xs0 : Int32) (s : gs) (w : w243_30 c d Post xs0 s) : tV c d 243 30 [none, none, none] [.int xs0] s Post := by
  intro h hR
  have hk : ∀ pc i, gm_find gk_243 pc = some i → gm_code (gt_T c.1 c.2.1 c.2.2.1) 243 pc = some i := fun _ _ z => z
  unfold w243_30 at w
  unfold gV
  exact gw_retZ (hk _ _ rfl) rfl w.1 ⟨_, hR, w.2⟩
def w243_25 (c : gx) (d : Nat) (Post : Option Value → gs → Prop)  (s : gs) : Prop :=
  w243_30 c d Post 1 s
theorem ok243_25 (c : gx) (d : Nat) (Post : Option Value → gs → Prop)   (s : gs) (w : w243_25 c d Post  s) : tV c d 243 25 [none, none, none] [] s Post := by
  intro h hR
  have hk : ∀ pc i, gm_find gk_243 pc = some i → gm_code (gt_T c.1 c.2.1 c.2.2.1) 243 pc = some i := fun _ _ z => z
  unfold w243_25 at w
  unfold gV
  refine gw_pst hk 2 (st' := (30, [none, none, none], [.int 1], h)) rfl ?_
  exact ok243_30 c d Post _ _ w _ hR
/-- CommandByTurnsModel.fits(II)Z -/
def wm243 (c : gx) (d : Nat) (Post : Option Value → gs → Prop) (x1 : Int32) (x2 : Int32) (s : gs) : Prop :=
  tE c d 155 [.int (gsV s 48 34), .int x1] s (fun v2 s_2 => ∃ x_2 : Int32, v2 = some (.int x_2) ∧ ((x_2 = 0 → w243_25 c d Post s_2) ∧ (¬ (x_2 = 0) → tE c d 186 [.ref 48, .int x2] s_2 (fun v4 s_4 => ∃ x_4 : Int32, v4 = some (.int x_4) ∧ vp_in x1 20 ∧ ((x_4 < (gsA s_4 69 (x1 : Int32).toNatClampNeg) → w243_30 c d Post 0 s_4) ∧ (¬ (x_4 < (gsA s_4 69 (x1 : Int32).toNatClampNeg)) → w243_25 c d Post s_4))))))
theorem okm243 (c : gx) (d : Nat) (Post : Option Value → gs → Prop) (x1 : Int32) (x2 : Int32) (s : gs) (w : wm243 c d Post x1 x2 s) : tE c (d + 1) 243 [.ref 48, .int x1, .int x2] s Post := by
  intro h hR
  have hk : ∀ pc i, gm_find gk_243 pc = some i → gm_code (gt_T c.1 c.2.1 c.2.2.1) 243 pc = some i := fun _ _ z => z
  unfold wm243 at w
  refine ge_of (by decide) (Nat.le_of_ble_eq_true rfl) ?_
  show gw (gt_T c.1 c.2.1 c.2.2.1) c.2.2.2 d 243 (0, [some (.ref 48), some (.int x1), some (.int x2)], [], h) _
  refine gw_pst hk 1 (st' := (1, [some (.ref 48), some (.int x1), some (.int x2)], [.ref 48], h)) rfl ?_
  refine gw_gf (hk _ _ rfl) (RL_fI hR rfl) ?_
  refine gw_pst hk 1 (st' := (5, [some (.ref 48), some (.int x1), some (.int x2)], [.int x1, .int (gsV s 48 34)], h)) rfl ?_
  refine gw_call (jj := 155) (As := [.int (gsV s 48 34), .int x1]) (rest := []) (hk _ _ rfl) (fun _ => rfl) rfl rfl (Nat.le_of_ble_eq_true rfl) rfl ?_
  refine ge_imp (w h hR) (fun v2 h w => ?_)
  obtain ⟨s_2, hR, x_2, rfl, w⟩ := w
  show gw (gt_T c.1 c.2.1 c.2.2.1) c.2.2.2 d 243 (8, [some (.ref 48), some (.int x1), some (.int x2)], [.int x_2], h) _
  refine gw_br (c := x_2 = 0) (a := (25, [some (.ref 48), some (.int x1), some (.int x2)], [], h)) (b := (11, [some (.ref 48), some (.int x1), some (.int x2)], [], h)) (hk _ _ rfl) rfl ⟨fun z3 => ?_, fun z3 => ?_⟩
  · replace w := w.1 z3
    refine gw_le (L' := [none, none, none]) (gm_le_n _ (gm_le_n _ (gm_le_n _ gm_le_nil))) ?_
    exact ok243_25 c d Post _ w _ hR
  · replace w := w.2 z3
    refine gw_pst hk 2 (st' := (13, [some (.ref 48), some (.int x1), some (.int x2)], [.int x2, .ref 48], h)) rfl ?_
    obtain ⟨fs4, e4⟩ := RL_o hR (r := 48) (ci := 10) rfl
    refine gw_call (jj := 186) (As := [.ref 48, .int x2]) (rest := []) (hk _ _ rfl) (fun _ => rfl) rfl rfl (Nat.le_of_ble_eq_true rfl) (gm_rcv_v rfl e4 rfl) ?_
    refine ge_imp (w h hR) (fun v4 h w => ?_)
    obtain ⟨s_4, hR, x_4, rfl, w⟩ := w
    show gw (gt_T c.1 c.2.1 c.2.2.1) c.2.2.2 d 243 (16, [some (.ref 48), some (.int x1), some (.int x2)], [.int x_4], h) _
    refine gw_pst hk 1 (st' := (17, [some (.ref 48), some (.int x1), some (.int x2)], [.ref 48, .int x_4], h)) rfl ?_
    refine gw_gf (hk _ _ rfl) (RL_fR (n := 69) hR rfl) ?_
    refine gw_pst hk 1 (st' := (21, [some (.ref 48), some (.int x1), some (.int x2)], [.int x1, .ref 69, .int x_4], h)) rfl ?_
    obtain ⟨b6, w⟩ := w
    refine gw_ald (hk _ _ rfl) (Or.inl ⟨rfl, rfl⟩) (RL_a (t := 0) (n := 20) hR rfl (by decide)) b6 ?_
    refine gw_br (c := x_4 < (gsA s_4 69 (x1 : Int32).toNatClampNeg)) (a := (29, [some (.ref 48), some (.int x1), some (.int x2)], [], h)) (b := (25, [some (.ref 48), some (.int x1), some (.int x2)], [], h)) (hk _ _ rfl) rfl ⟨fun z7 => ?_, fun z7 => ?_⟩
    · replace w := w.1 z7
      refine gw_pst hk 1 (st' := (30, [some (.ref 48), some (.int x1), some (.int x2)], [.int 0], h)) rfl ?_
      refine gw_le (L' := [none, none, none]) (gm_le_n _ (gm_le_n _ (gm_le_n _ gm_le_nil))) ?_
      exact ok243_30 c d Post _ _ w _ hR
    · replace w := w.2 z7
      refine gw_le (L' := [none, none, none]) (gm_le_n _ (gm_le_n _ (gm_le_n _ gm_le_nil))) ?_
      exact ok243_25 c d Post _ w _ hR
/-- CommandByTurnsModel.spot(III)I -/
def wm244 (c : gx) (d : Nat) (Post : Option Value → gs → Prop) (x0 : Int32) (x1 : Int32) (x2 : Int32) (s : gs) : Prop :=
  Post (some (.int (((8 * x0) + (4 * x1)) + x2))) s
theorem okm244 (c : gx) (d : Nat) (Post : Option Value → gs → Prop) (x0 : Int32) (x1 : Int32) (x2 : Int32) (s : gs) (w : wm244 c d Post x0 x1 x2 s) : tE c (d + 1) 244 [.int x0, .int x1, .int x2] s Post := by
  intro h hR
  have hk : ∀ pc i, gm_find gk_244 pc = some i → gm_code (gt_T c.1 c.2.1 c.2.2.1) 244 pc = some i := fun _ _ z => z
  unfold wm244 at w
  refine ge_of (by decide) (Nat.le_of_ble_eq_true rfl) ?_
  show gw (gt_T c.1 c.2.1 c.2.2.1) c.2.2.2 d 244 (0, [some (.int x0), some (.int x1), some (.int x2)], [], h) _
  refine gw_pst hk 9 (st' := (10, [some (.int x0), some (.int x1), some (.int x2)], [.int (((8 * x0) + (4 * x1)) + x2)], h)) rfl ?_
  exact gw_ret (hk _ _ rfl) rfl ⟨_, hR, w⟩
def w245_104 (c : gx) (d : Nat) (Post : Option Value → gs → Prop) (K2 : Int32 → Int32 → Int32 → gs → Prop) (K10 : Int32 → Int32 → Int32 → Int32 → gs → Prop) (K19 : Int32 → Int32 → Int32 → Int32 → Int32 → gs → Prop) (K39 : Int32 → Int32 → Int32 → Int32 → Int32 → Int32 → Int32 → gs → Prop) (x1 : Int32) (x2 : Int32) (x3 : Int32) (x4 : Int32) (x5 : Int32) (x6 : Int32) (x7 : Int32) (s : gs) : Prop :=
  K39 x1 x2 x3 x4 x5 x6 (x7 + 1) s
theorem ok245_104 (c : gx) (d : Nat) (Post : Option Value → gs → Prop) (K2 : Int32 → Int32 → Int32 → gs → Prop) (K10 : Int32 → Int32 → Int32 → Int32 → gs → Prop) (K19 : Int32 → Int32 → Int32 → Int32 → Int32 → gs → Prop) (K39 : Int32 → Int32 → Int32 → Int32 → Int32 → Int32 → Int32 → gs → Prop)  (hK2 : ∀ (x1 : Int32) (x2 : Int32) (x3 : Int32) (s : gs), K2 x1 x2 x3 s → tV c d 245 2 [some (.ref 48), some (.int x1), some (.int x2), some (.int x3), none, none, none, none, none] [] s Post) (hK10 : ∀ (x1 : Int32) (x2 : Int32) (x3 : Int32) (x4 : Int32) (s : gs), K10 x1 x2 x3 x4 s → tV c d 245 10 [some (.ref 48), some (.int x1), some (.int x2), some (.int x3), some (.int x4), none, none, none, none] [] s Post) (hK19 : ∀ (x1 : Int32) (x2 : Int32) (x3 : Int32) (x4 : Int32) (x5 : Int32) (s : gs), K19 x1 x2 x3 x4 x5 s → tV c d 245 19 [some (.ref 48), some (.int x1), some (.int x2), some (.int x3), some (.int x4), some (.int x5), none, none, none] [] s Post) (hK39 : ∀ (x1 : Int32) (x2 : Int32) (x3 : Int32) (x4 : Int32) (x5 : Int32) (x6 : Int32) (x7 : Int32) (s : gs), K39 x1 x2 x3 x4 x5 x6 x7 s → tV c d 245 39 [some (.ref 48), some (.int x1), some (.int x2), some (.int x3), some (.int x4), some (.int x5), some (.int x6), some (.int x7), none] [] s Post) (x1 : Int32) (x2 : Int32) (x3 : Int32) (x4 : Int32) (x5 : Int32) (x6 : Int32) (x7 : Int32) (s : gs) (w : w245_104 c d Post K2 K10 K19 K39 x1 x2 x3 x4 x5 x6 x7 s) : tV c d 245 104 [some (.ref 48), some (.int x1), some (.int x2), some (.int x3), some (.int x4), some (.int x5), some (.int x6), some (.int x7), none] [] s Post := by
  intro h hR
  have hk : ∀ pc i, gm_find gk_245 pc = some i → gm_code (gt_T c.1 c.2.1 c.2.2.1) 245 pc = some i := fun _ _ z => z
  unfold w245_104 at w
  unfold gV
  refine gw_pst hk 2 (st' := (39, [some (.ref 48), some (.int x1), some (.int x2), some (.int x3), some (.int x4), some (.int x5), some (.int x6), some (.int (x7 + 1)), none], [], h)) rfl ?_
  exact hK39 _ _ _ _ _ _ _ _ w _ hR
def w245_64 (c : gx) (d : Nat) (Post : Option Value → gs → Prop) (K2 : Int32 → Int32 → Int32 → gs → Prop) (K10 : Int32 → Int32 → Int32 → Int32 → gs → Prop) (K19 : Int32 → Int32 → Int32 → Int32 → Int32 → gs → Prop) (K39 : Int32 → Int32 → Int32 → Int32 → Int32 → Int32 → Int32 → gs → Prop) (x1 : Int32) (x2 : Int32) (x3 : Int32) (x4 : Int32) (x5 : Int32) (x6 : Int32) (x7 : Int32) (xs0 : Int32) (s : gs) : Prop :=
  ((x2 < xs0 → w245_104 c d Post K2 K10 K19 K39 x1 x2 x3 x4 x5 x6 x7 s) ∧ (¬ (x2 < xs0) → tE c d 246 [.ref 48, .int (x3 - 1), .int x7] s (fun v2 s_2 => ∃ x_2 : Int32, v2 = some (.int x_2) ∧ ((x_2 = 0 → w245_104 c d Post K2 K10 K19 K39 x1 x2 x3 x4 x5 x6 x7 s_2) ∧ (¬ (x_2 = 0) → tE c d 244 [.int (x3 - 1), .int x7, .int xs0] s_2 (fun v5 s_5 => ∃ x_5 : Int32, v5 = some (.int x_5) ∧ vp_in x_5 168 ∧ w245_104 c d Post K2 K10 K19 K39 x1 x2 x3 x4 x5 (x6 + (gsA s_5 70 (x_5 : Int32).toNatClampNeg)) x7 s_5))))))
theorem ok245_64 (c : gx) (d : Nat) (Post : Option Value → gs → Prop) (K2 : Int32 → Int32 → Int32 → gs → Prop) (K10 : Int32 → Int32 → Int32 → Int32 → gs → Prop) (K19 : Int32 → Int32 → Int32 → Int32 → Int32 → gs → Prop) (K39 : Int32 → Int32 → Int32 → Int32 → Int32 → Int32 → Int32 → gs → Prop)  (hK2 : ∀ (x1 : Int32) (x2 : Int32) (x3 : Int32) (s : gs), K2 x1 x2 x3 s → tV c d 245 2 [some (.ref 48), some (.int x1), some (.int x2), some (.int x3), none, none, none, none, none] [] s Post) (hK10 : ∀ (x1 : Int32) (x2 : Int32) (x3 : Int32) (x4 : Int32) (s : gs), K10 x1 x2 x3 x4 s → tV c d 245 10 [some (.ref 48), some (.int x1), some (.int x2), some (.int x3), some (.int x4), none, none, none, none] [] s Post) (hK19 : ∀ (x1 : Int32) (x2 : Int32) (x3 : Int32) (x4 : Int32) (x5 : Int32) (s : gs), K19 x1 x2 x3 x4 x5 s → tV c d 245 19 [some (.ref 48), some (.int x1), some (.int x2), some (.int x3), some (.int x4), some (.int x5), none, none, none] [] s Post) (hK39 : ∀ (x1 : Int32) (x2 : Int32) (x3 : Int32) (x4 : Int32) (x5 : Int32) (x6 : Int32) (x7 : Int32) (s : gs), K39 x1 x2 x3 x4 x5 x6 x7 s → tV c d 245 39 [some (.ref 48), some (.int x1), some (.int x2), some (.int x3), some (.int x4), some (.int x5), some (.int x6), some (.int x7), none] [] s Post) (x1 : Int32) (x2 : Int32) (x3 : Int32) (x4 : Int32) (x5 : Int32) (x6 : Int32) (x7 : Int32) (xs0 : Int32) (s : gs) (w : w245_64 c d Post K2 K10 K19 K39 x1 x2 x3 x4 x5 x6 x7 xs0 s) : tV c d 245 64 [some (.ref 48), some (.int x1), some (.int x2), some (.int x3), some (.int x4), some (.int x5), some (.int x6), some (.int x7), none] [.int xs0] s Post := by
  intro h hR
  have hk : ∀ pc i, gm_find gk_245 pc = some i → gm_code (gt_T c.1 c.2.1 c.2.2.1) 245 pc = some i := fun _ _ z => z
  unfold w245_64 at w
  unfold gV
  refine gw_pst hk 3 (st' := (69, [some (.ref 48), some (.int x1), some (.int x2), some (.int x3), some (.int x4), some (.int x5), some (.int x6), some (.int x7), some (.int xs0)], [.int x2, .int xs0], h)) rfl ?_
  refine gw_br (c := x2 < xs0) (a := (104, [some (.ref 48), some (.int x1), some (.int x2), some (.int x3), some (.int x4), some (.int x5), some (.int x6), some (.int x7), some (.int xs0)], [], h)) (b := (72, [some (.ref 48), some (.int x1), some (.int x2), some (.int x3), some (.int x4), some (.int x5), some (.int x6), some (.int x7), some (.int xs0)], [], h)) (hk _ _ rfl) rfl ⟨fun z1 => ?_, fun z1 => ?_⟩
  · replace w := w.1 z1
    refine gw_le (L' := [some (.ref 48), some (.int x1), some (.int x2), some (.int x3), some (.int x4), some (.int x5), some (.int x6), some (.int x7), none]) (gm_le_k _ (gm_le_k _ (gm_le_k _ (gm_le_k _ (gm_le_k _ (gm_le_k _ (gm_le_k _ (gm_le_k _ (gm_le_n _ gm_le_nil))))))))) ?_
    exact ok245_104 c d Post K2 K10 K19 K39 hK2 hK10 hK19 hK39 _ _ _ _ _ _ _ _ w _ hR
  · replace w := w.2 z1
    refine gw_pst hk 5 (st' := (78, [some (.ref 48), some (.int x1), some (.int x2), some (.int x3), some (.int x4), some (.int x5), some (.int x6), some (.int x7), some (.int xs0)], [.int x7, .int (x3 - 1), .ref 48], h)) rfl ?_
    obtain ⟨fs2, e2⟩ := RL_o hR (r := 48) (ci := 10) rfl
    refine gw_call (jj := 246) (As := [.ref 48, .int (x3 - 1), .int x7]) (rest := []) (hk _ _ rfl) (fun _ => rfl) rfl rfl (Nat.le_of_ble_eq_true rfl) (gm_rcv_v rfl e2 rfl) ?_
    refine ge_imp (w h hR) (fun v2 h w => ?_)
    obtain ⟨s_2, hR, x_2, rfl, w⟩ := w
    show gw (gt_T c.1 c.2.1 c.2.2.1) c.2.2.2 d 245 (81, [some (.ref 48), some (.int x1), some (.int x2), some (.int x3), some (.int x4), some (.int x5), some (.int x6), some (.int x7), some (.int xs0)], [.int x_2], h) _
    refine gw_br (c := x_2 = 0) (a := (104, [some (.ref 48), some (.int x1), some (.int x2), some (.int x3), some (.int x4), some (.int x5), some (.int x6), some (.int x7), some (.int xs0)], [], h)) (b := (84, [some (.ref 48), some (.int x1), some (.int x2), some (.int x3), some (.int x4), some (.int x5), some (.int x6), some (.int x7), some (.int xs0)], [], h)) (hk _ _ rfl) rfl ⟨fun z3 => ?_, fun z3 => ?_⟩
    · replace w := w.1 z3
      refine gw_le (L' := [some (.ref 48), some (.int x1), some (.int x2), some (.int x3), some (.int x4), some (.int x5), some (.int x6), some (.int x7), none]) (gm_le_k _ (gm_le_k _ (gm_le_k _ (gm_le_k _ (gm_le_k _ (gm_le_k _ (gm_le_k _ (gm_le_k _ (gm_le_n _ gm_le_nil))))))))) ?_
      exact ok245_104 c d Post K2 K10 K19 K39 hK2 hK10 hK19 hK39 _ _ _ _ _ _ _ _ w _ hR
    · replace w := w.2 z3
      refine gw_pst hk 2 (st' := (87, [some (.ref 48), some (.int x1), some (.int x2), some (.int x3), some (.int x4), some (.int x5), some (.int x6), some (.int x7), some (.int xs0)], [.ref 48, .int x6], h)) rfl ?_
      refine gw_gf (hk _ _ rfl) (RL_fR (n := 70) hR rfl) ?_
      refine gw_pst hk 5 (st' := (97, [some (.ref 48), some (.int x1), some (.int x2), some (.int x3), some (.int x4), some (.int x5), some (.int x6), some (.int x7), some (.int xs0)], [.int xs0, .int x7, .int (x3 - 1), .ref 70, .int x6], h)) rfl ?_
      refine gw_call (jj := 244) (As := [.int (x3 - 1), .int x7, .int xs0]) (rest := [.ref 70, .int x6]) (hk _ _ rfl) (fun _ => rfl) rfl rfl (Nat.le_of_ble_eq_true rfl) rfl ?_
      refine ge_imp (w h hR) (fun v5 h w => ?_)
      obtain ⟨s_5, hR, x_5, rfl, w⟩ := w
      show gw (gt_T c.1 c.2.1 c.2.2.1) c.2.2.2 d 245 (100, [some (.ref 48), some (.int x1), some (.int x2), some (.int x3), some (.int x4), some (.int x5), some (.int x6), some (.int x7), some (.int xs0)], [.int x_5, .ref 70, .int x6], h) _
      obtain ⟨b6, w⟩ := w
      refine gw_ald (hk _ _ rfl) (Or.inl ⟨rfl, rfl⟩) (RL_a (t := 0) (n := 168) hR rfl (by decide)) b6 ?_
      refine gw_pst hk 2 (st' := (104, [some (.ref 48), some (.int x1), some (.int x2), some (.int x3), some (.int x4), some (.int x5), some (.int (x6 + (gsA s_5 70 (x_5 : Int32).toNatClampNeg))), some (.int x7), some (.int xs0)], [], h)) rfl ?_
      refine gw_le (L' := [some (.ref 48), some (.int x1), some (.int x2), some (.int x3), some (.int x4), some (.int x5), some (.int (x6 + (gsA s_5 70 (x_5 : Int32).toNatClampNeg))), some (.int x7), none]) (gm_le_k _ (gm_le_k _ (gm_le_k _ (gm_le_k _ (gm_le_k _ (gm_le_k _ (gm_le_k _ (gm_le_k _ (gm_le_n _ gm_le_nil))))))))) ?_
      exact ok245_104 c d Post K2 K10 K19 K39 hK2 hK10 hK19 hK39 _ _ _ _ _ _ _ _ w _ hR
def w245_110 (c : gx) (d : Nat) (Post : Option Value → gs → Prop) (K2 : Int32 → Int32 → Int32 → gs → Prop) (K10 : Int32 → Int32 → Int32 → Int32 → gs → Prop) (K19 : Int32 → Int32 → Int32 → Int32 → Int32 → gs → Prop) (x1 : Int32) (x2 : Int32) (x3 : Int32) (x4 : Int32) (x5 : Int32) (x6 : Int32) (s : gs) : Prop :=
  tE c d 244 [.int x3, .int x4, .int x5] s (fun v2 s_2 => ∃ x_2 : Int32, v2 = some (.int x_2) ∧ vp_in x_2 168 ∧ ∀ s_3 : gs, s_3 = gs_A s_2 70 (x_2 : Int32).toNatClampNeg (vp_nar .int x6) → K19 x1 x2 x3 x4 (x5 + 1) s_3)
theorem ok245_110 (c : gx) (d : Nat) (Post : Option Value → gs → Prop) (K2 : Int32 → Int32 → Int32 → gs → Prop) (K10 : Int32 → Int32 → Int32 → Int32 → gs → Prop) (K19 : Int32 → Int32 → Int32 → Int32 → Int32 → gs → Prop)  (hK2 : ∀ (x1 : Int32) (x2 : Int32) (x3 : Int32) (s : gs), K2 x1 x2 x3 s → tV c d 245 2 [some (.ref 48), some (.int x1), some (.int x2), some (.int x3), none, none, none, none, none] [] s Post) (hK10 : ∀ (x1 : Int32) (x2 : Int32) (x3 : Int32) (x4 : Int32) (s : gs), K10 x1 x2 x3 x4 s → tV c d 245 10 [some (.ref 48), some (.int x1), some (.int x2), some (.int x3), some (.int x4), none, none, none, none] [] s Post) (hK19 : ∀ (x1 : Int32) (x2 : Int32) (x3 : Int32) (x4 : Int32) (x5 : Int32) (s : gs), K19 x1 x2 x3 x4 x5 s → tV c d 245 19 [some (.ref 48), some (.int x1), some (.int x2), some (.int x3), some (.int x4), some (.int x5), none, none, none] [] s Post) (x1 : Int32) (x2 : Int32) (x3 : Int32) (x4 : Int32) (x5 : Int32) (x6 : Int32) (s : gs) (w : w245_110 c d Post K2 K10 K19 x1 x2 x3 x4 x5 x6 s) : tV c d 245 110 [some (.ref 48), some (.int x1), some (.int x2), some (.int x3), some (.int x4), some (.int x5), some (.int x6), none, none] [] s Post := by
  intro h hR
  have hk : ∀ pc i, gm_find gk_245 pc = some i → gm_code (gt_T c.1 c.2.1 c.2.2.1) 245 pc = some i := fun _ _ z => z
  unfold w245_110 at w
  unfold gV
  refine gw_pst hk 1 (st' := (111, [some (.ref 48), some (.int x1), some (.int x2), some (.int x3), some (.int x4), some (.int x5), some (.int x6), none, none], [.ref 48], h)) rfl ?_
  refine gw_gf (hk _ _ rfl) (RL_fR (n := 70) hR rfl) ?_
  refine gw_pst hk 3 (st' := (119, [some (.ref 48), some (.int x1), some (.int x2), some (.int x3), some (.int x4), some (.int x5), some (.int x6), none, none], [.int x5, .int x4, .int x3, .ref 70], h)) rfl ?_
  refine gw_call (jj := 244) (As := [.int x3, .int x4, .int x5]) (rest := [.ref 70]) (hk _ _ rfl) (fun _ => rfl) rfl rfl (Nat.le_of_ble_eq_true rfl) rfl ?_
  refine ge_imp (w h hR) (fun v2 h w => ?_)
  obtain ⟨s_2, hR, x_2, rfl, w⟩ := w
  show gw (gt_T c.1 c.2.1 c.2.2.1) c.2.2.2 d 245 (122, [some (.ref 48), some (.int x1), some (.int x2), some (.int x3), some (.int x4), some (.int x5), some (.int x6), none, none], [.int x_2, .ref 70], h) _
  refine gw_pst hk 1 (st' := (124, [some (.ref 48), some (.int x1), some (.int x2), some (.int x3), some (.int x4), some (.int x5), some (.int x6), none, none], [.int x6, .int x_2, .ref 70], h)) rfl ?_
  obtain ⟨b3, w⟩ := w
  have hR3 := RL_pA (a := 70) (t := 0) (n := 168) (k := (x_2 : Int32).toNatClampNeg) (x := (vp_nar .int x6)) hR rfl (by decide)
  refine gw_ast (hk _ _ rfl) (Or.inl ⟨rfl, rfl, rfl⟩) (RL_a (t := 0) (n := 168) hR rfl (by decide)) b3 ?_
  generalize gm_put h _ _ = h at hR3 ⊢
  obtain ⟨s_3, es3⟩ : ∃ z, z = gs_A s_2 70 (x_2 : Int32).toNatClampNeg (vp_nar .int x6) := ⟨_, rfl⟩
  rw [← es3] at hR3
  replace w := w s_3 es3
  replace hR := hR3
  refine gw_pst hk 2 (st' := (19, [some (.ref 48), some (.int x1), some (.int x2), some (.int x3), some (.int x4), some (.int (x5 + 1)), some (.int x6), none, none], [], h)) rfl ?_
  refine gw_le (L' := [some (.ref 48), some (.int x1), some (.int x2), some (.int x3), some (.int x4), some (.int (x5 + 1)), none, none, none]) (gm_le_k _ (gm_le_k _ (gm_le_k _ (gm_le_k _ (gm_le_k _ (gm_le_k _ (gm_le_n _ (gm_le_k _ (gm_le_k _ gm_le_nil))))))))) ?_
  exact hK19 _ _ _ _ _ _ w _ hR
def wb245_39 (c : gx) (d : Nat) (Post : Option Value → gs → Prop) (K2 : Int32 → Int32 → Int32 → gs → Prop) (K10 : Int32 → Int32 → Int32 → Int32 → gs → Prop) (K19 : Int32 → Int32 → Int32 → Int32 → Int32 → gs → Prop) (K39 : Int32 → Int32 → Int32 → Int32 → Int32 → Int32 → Int32 → gs → Prop) (x1 : Int32) (x2 : Int32) (x3 : Int32) (x4 : Int32) (x5 : Int32) (x6 : Int32) (x7 : Int32) (s : gs) : Prop :=
  ((2 ≤ x7 → w245_110 c d Post K2 K10 K19 x1 x2 x3 x4 x5 x6 s) ∧ (¬ (2 ≤ x7) → ((x3 ≤ 0 → w245_110 c d Post K2 K10 K19 x1 x2 x3 x4 x5 x6 s) ∧ (¬ (x3 ≤ 0) → ((x7 = x4 → w245_64 c d Post K2 K10 K19 K39 x1 x2 x3 x4 x5 x6 x7 (x5 + 1) s) ∧ (¬ (x7 = x4) → w245_64 c d Post K2 K10 K19 K39 x1 x2 x3 x4 x5 x6 x7 1 s))))))
theorem okb245_39 (c : gx) (d : Nat) (Post : Option Value → gs → Prop) (K2 : Int32 → Int32 → Int32 → gs → Prop) (K10 : Int32 → Int32 → Int32 → Int32 → gs → Prop) (K19 : Int32 → Int32 → Int32 → Int32 → Int32 → gs → Prop) (K39 : Int32 → Int32 → Int32 → Int32 → Int32 → Int32 → Int32 → gs → Prop)  (hK2 : ∀ (x1 : Int32) (x2 : Int32) (x3 : Int32) (s : gs), K2 x1 x2 x3 s → tV c d 245 2 [some (.ref 48), some (.int x1), some (.int x2), some (.int x3), none, none, none, none, none] [] s Post) (hK10 : ∀ (x1 : Int32) (x2 : Int32) (x3 : Int32) (x4 : Int32) (s : gs), K10 x1 x2 x3 x4 s → tV c d 245 10 [some (.ref 48), some (.int x1), some (.int x2), some (.int x3), some (.int x4), none, none, none, none] [] s Post) (hK19 : ∀ (x1 : Int32) (x2 : Int32) (x3 : Int32) (x4 : Int32) (x5 : Int32) (s : gs), K19 x1 x2 x3 x4 x5 s → tV c d 245 19 [some (.ref 48), some (.int x1), some (.int x2), some (.int x3), some (.int x4), some (.int x5), none, none, none] [] s Post) (hK39 : ∀ (x1 : Int32) (x2 : Int32) (x3 : Int32) (x4 : Int32) (x5 : Int32) (x6 : Int32) (x7 : Int32) (s : gs), K39 x1 x2 x3 x4 x5 x6 x7 s → tV c d 245 39 [some (.ref 48), some (.int x1), some (.int x2), some (.int x3), some (.int x4), some (.int x5), some (.int x6), some (.int x7), none] [] s Post) (x1 : Int32) (x2 : Int32) (x3 : Int32) (x4 : Int32) (x5 : Int32) (x6 : Int32) (x7 : Int32) (s : gs) (w : wb245_39 c d Post K2 K10 K19 K39 x1 x2 x3 x4 x5 x6 x7 s) : tV c d 245 39 [some (.ref 48), some (.int x1), some (.int x2), some (.int x3), some (.int x4), some (.int x5), some (.int x6), some (.int x7), none] [] s Post := by
  intro h hR
  have hk : ∀ pc i, gm_find gk_245 pc = some i → gm_code (gt_T c.1 c.2.1 c.2.2.1) 245 pc = some i := fun _ _ z => z
  unfold wb245_39 at w
  unfold gV
  refine gw_pst hk 2 (st' := (42, [some (.ref 48), some (.int x1), some (.int x2), some (.int x3), some (.int x4), some (.int x5), some (.int x6), some (.int x7), none], [.int 2, .int x7], h)) rfl ?_
  refine gw_br (c := 2 ≤ x7) (a := (110, [some (.ref 48), some (.int x1), some (.int x2), some (.int x3), some (.int x4), some (.int x5), some (.int x6), some (.int x7), none], [], h)) (b := (45, [some (.ref 48), some (.int x1), some (.int x2), some (.int x3), some (.int x4), some (.int x5), some (.int x6), some (.int x7), none], [], h)) (hk _ _ rfl) rfl ⟨fun z1 => ?_, fun z1 => ?_⟩
  · replace w := w.1 z1
    refine gw_le (L' := [some (.ref 48), some (.int x1), some (.int x2), some (.int x3), some (.int x4), some (.int x5), some (.int x6), none, none]) (gm_le_k _ (gm_le_k _ (gm_le_k _ (gm_le_k _ (gm_le_k _ (gm_le_k _ (gm_le_k _ (gm_le_n _ (gm_le_k _ gm_le_nil))))))))) ?_
    exact ok245_110 c d Post K2 K10 K19 hK2 hK10 hK19 _ _ _ _ _ _ _ w _ hR
  · replace w := w.2 z1
    refine gw_pst hk 1 (st' := (46, [some (.ref 48), some (.int x1), some (.int x2), some (.int x3), some (.int x4), some (.int x5), some (.int x6), some (.int x7), none], [.int x3], h)) rfl ?_
    refine gw_br (c := x3 ≤ 0) (a := (110, [some (.ref 48), some (.int x1), some (.int x2), some (.int x3), some (.int x4), some (.int x5), some (.int x6), some (.int x7), none], [], h)) (b := (49, [some (.ref 48), some (.int x1), some (.int x2), some (.int x3), some (.int x4), some (.int x5), some (.int x6), some (.int x7), none], [], h)) (hk _ _ rfl) rfl ⟨fun z2 => ?_, fun z2 => ?_⟩
    · replace w := w.1 z2
      refine gw_le (L' := [some (.ref 48), some (.int x1), some (.int x2), some (.int x3), some (.int x4), some (.int x5), some (.int x6), none, none]) (gm_le_k _ (gm_le_k _ (gm_le_k _ (gm_le_k _ (gm_le_k _ (gm_le_k _ (gm_le_k _ (gm_le_n _ (gm_le_k _ gm_le_nil))))))))) ?_
      exact ok245_110 c d Post K2 K10 K19 hK2 hK10 hK19 _ _ _ _ _ _ _ w _ hR
    · replace w := w.2 z2
      refine gw_pst hk 2 (st' := (53, [some (.ref 48), some (.int x1), some (.int x2), some (.int x3), some (.int x4), some (.int x5), some (.int x6), some (.int x7), none], [.int x4, .int x7], h)) rfl ?_
      refine gw_br (c := x7 = x4) (a := (56, [some (.ref 48), some (.int x1), some (.int x2), some (.int x3), some (.int x4), some (.int x5), some (.int x6), some (.int x7), none], [], h)) (b := (63, [some (.ref 48), some (.int x1), some (.int x2), some (.int x3), some (.int x4), some (.int x5), some (.int x6), some (.int x7), none], [], h)) (hk _ _ rfl) rfl ⟨fun z3 => ?_, fun z3 => ?_⟩
      · replace w := w.1 z3
        refine gw_pst hk 4 (st' := (64, [some (.ref 48), some (.int x1), some (.int x2), some (.int x3), some (.int x4), some (.int x5), some (.int x6), some (.int x7), none], [.int (x5 + 1)], h)) rfl ?_
        exact ok245_64 c d Post K2 K10 K19 K39 hK2 hK10 hK19 hK39 _ _ _ _ _ _ _ _ _ w _ hR
      · replace w := w.2 z3
        refine gw_pst hk 1 (st' := (64, [some (.ref 48), some (.int x1), some (.int x2), some (.int x3), some (.int x4), some (.int x5), some (.int x6), some (.int x7), none], [.int 1], h)) rfl ?_
        exact ok245_64 c d Post K2 K10 K19 K39 hK2 hK10 hK19 hK39 _ _ _ _ _ _ _ _ _ w _ hR
def wl245_39 (c : gx) (d : Nat) (Post : Option Value → gs → Prop) (K2 : Int32 → Int32 → Int32 → gs → Prop) (K10 : Int32 → Int32 → Int32 → Int32 → gs → Prop) (K19 : Int32 → Int32 → Int32 → Int32 → Int32 → gs → Prop) : Nat → Int32 → Int32 → Int32 → Int32 → Int32 → Int32 → Int32 → gs → Prop
  | 0 => fun _ _ _ _ _ _ _ _ => False
  | n + 1 => wb245_39 c d Post K2 K10 K19 (wl245_39 c d Post K2 K10 K19 n)
theorem okl245_39 (c : gx) (d : Nat) (Post : Option Value → gs → Prop) (K2 : Int32 → Int32 → Int32 → gs → Prop) (K10 : Int32 → Int32 → Int32 → Int32 → gs → Prop) (K19 : Int32 → Int32 → Int32 → Int32 → Int32 → gs → Prop) (hK2 : ∀ (x1 : Int32) (x2 : Int32) (x3 : Int32) (s : gs), K2 x1 x2 x3 s → tV c d 245 2 [some (.ref 48), some (.int x1), some (.int x2), some (.int x3), none, none, none, none, none] [] s Post) (hK10 : ∀ (x1 : Int32) (x2 : Int32) (x3 : Int32) (x4 : Int32) (s : gs), K10 x1 x2 x3 x4 s → tV c d 245 10 [some (.ref 48), some (.int x1), some (.int x2), some (.int x3), some (.int x4), none, none, none, none] [] s Post) (hK19 : ∀ (x1 : Int32) (x2 : Int32) (x3 : Int32) (x4 : Int32) (x5 : Int32) (s : gs), K19 x1 x2 x3 x4 x5 s → tV c d 245 19 [some (.ref 48), some (.int x1), some (.int x2), some (.int x3), some (.int x4), some (.int x5), none, none, none] [] s Post) : ∀ (n : Nat) (x1 : Int32) (x2 : Int32) (x3 : Int32) (x4 : Int32) (x5 : Int32) (x6 : Int32) (x7 : Int32) (s : gs), wl245_39 c d Post K2 K10 K19 n x1 x2 x3 x4 x5 x6 x7 s → tV c d 245 39 [some (.ref 48), some (.int x1), some (.int x2), some (.int x3), some (.int x4), some (.int x5), some (.int x6), some (.int x7), none] [] s Post
  | 0, _, _, _, _, _, _, _, _, w => w.elim
  | n + 1, x1, x2, x3, x4, x5, x6, x7, s, w => okb245_39 c d Post K2 K10 K19 (wl245_39 c d Post K2 K10 K19 n) hK2 hK10 hK19 (okl245_39 c d Post K2 K10 K19 hK2 hK10 hK19 n) x1 x2 x3 x4 x5 x6 x7 s w
def w245_34 (c : gx) (d : Nat) (Post : Option Value → gs → Prop) (K2 : Int32 → Int32 → Int32 → gs → Prop) (K10 : Int32 → Int32 → Int32 → Int32 → gs → Prop) (K19 : Int32 → Int32 → Int32 → Int32 → Int32 → gs → Prop) (x1 : Int32) (x2 : Int32) (x3 : Int32) (x4 : Int32) (x5 : Int32) (xs0 : Int32) (s : gs) : Prop :=
  ∃ n, wl245_39 c d Post K2 K10 K19 n x1 x2 x3 x4 x5 xs0 0 s
theorem ok245_34 (c : gx) (d : Nat) (Post : Option Value → gs → Prop) (K2 : Int32 → Int32 → Int32 → gs → Prop) (K10 : Int32 → Int32 → Int32 → Int32 → gs → Prop) (K19 : Int32 → Int32 → Int32 → Int32 → Int32 → gs → Prop)  (hK2 : ∀ (x1 : Int32) (x2 : Int32) (x3 : Int32) (s : gs), K2 x1 x2 x3 s → tV c d 245 2 [some (.ref 48), some (.int x1), some (.int x2), some (.int x3), none, none, none, none, none] [] s Post) (hK10 : ∀ (x1 : Int32) (x2 : Int32) (x3 : Int32) (x4 : Int32) (s : gs), K10 x1 x2 x3 x4 s → tV c d 245 10 [some (.ref 48), some (.int x1), some (.int x2), some (.int x3), some (.int x4), none, none, none, none] [] s Post) (hK19 : ∀ (x1 : Int32) (x2 : Int32) (x3 : Int32) (x4 : Int32) (x5 : Int32) (s : gs), K19 x1 x2 x3 x4 x5 s → tV c d 245 19 [some (.ref 48), some (.int x1), some (.int x2), some (.int x3), some (.int x4), some (.int x5), none, none, none] [] s Post) (x1 : Int32) (x2 : Int32) (x3 : Int32) (x4 : Int32) (x5 : Int32) (xs0 : Int32) (s : gs) (w : w245_34 c d Post K2 K10 K19 x1 x2 x3 x4 x5 xs0 s) : tV c d 245 34 [some (.ref 48), some (.int x1), some (.int x2), some (.int x3), some (.int x4), some (.int x5), none, none, none] [.int xs0] s Post := by
  intro h hR
  have hk : ∀ pc i, gm_find gk_245 pc = some i → gm_code (gt_T c.1 c.2.1 c.2.2.1) 245 pc = some i := fun _ _ z => z
  unfold w245_34 at w
  unfold gV
  refine gw_pst hk 3 (st' := (39, [some (.ref 48), some (.int x1), some (.int x2), some (.int x3), some (.int x4), some (.int x5), some (.int xs0), some (.int 0), none], [], h)) rfl ?_
  obtain ⟨n, w⟩ := w
  exact okl245_39 c d Post K2 K10 K19 hK2 hK10 hK19 n _ _ _ _ _ _ _ _ w _ hR
def wb245_19 (c : gx) (d : Nat) (Post : Option Value → gs → Prop) (K2 : Int32 → Int32 → Int32 → gs → Prop) (K10 : Int32 → Int32 → Int32 → Int32 → gs → Prop) (K19 : Int32 → Int32 → Int32 → Int32 → Int32 → gs → Prop) (x1 : Int32) (x2 : Int32) (x3 : Int32) (x4 : Int32) (x5 : Int32) (s : gs) : Prop :=
  ((x2 < x5 → K10 x1 x2 x3 (x4 + 1) s) ∧ (¬ (x2 < x5) → ((x3 = 0 → w245_34 c d Post K2 K10 K19 x1 x2 x3 x4 x5 1 s) ∧ (¬ (x3 = 0) → w245_34 c d Post K2 K10 K19 x1 x2 x3 x4 x5 0 s))))
theorem okb245_19 (c : gx) (d : Nat) (Post : Option Value → gs → Prop) (K2 : Int32 → Int32 → Int32 → gs → Prop) (K10 : Int32 → Int32 → Int32 → Int32 → gs → Prop) (K19 : Int32 → Int32 → Int32 → Int32 → Int32 → gs → Prop)  (hK2 : ∀ (x1 : Int32) (x2 : Int32) (x3 : Int32) (s : gs), K2 x1 x2 x3 s → tV c d 245 2 [some (.ref 48), some (.int x1), some (.int x2), some (.int x3), none, none, none, none, none] [] s Post) (hK10 : ∀ (x1 : Int32) (x2 : Int32) (x3 : Int32) (x4 : Int32) (s : gs), K10 x1 x2 x3 x4 s → tV c d 245 10 [some (.ref 48), some (.int x1), some (.int x2), some (.int x3), some (.int x4), none, none, none, none] [] s Post) (hK19 : ∀ (x1 : Int32) (x2 : Int32) (x3 : Int32) (x4 : Int32) (x5 : Int32) (s : gs), K19 x1 x2 x3 x4 x5 s → tV c d 245 19 [some (.ref 48), some (.int x1), some (.int x2), some (.int x3), some (.int x4), some (.int x5), none, none, none] [] s Post) (x1 : Int32) (x2 : Int32) (x3 : Int32) (x4 : Int32) (x5 : Int32) (s : gs) (w : wb245_19 c d Post K2 K10 K19 x1 x2 x3 x4 x5 s) : tV c d 245 19 [some (.ref 48), some (.int x1), some (.int x2), some (.int x3), some (.int x4), some (.int x5), none, none, none] [] s Post := by
  intro h hR
  have hk : ∀ pc i, gm_find gk_245 pc = some i → gm_code (gt_T c.1 c.2.1 c.2.2.1) 245 pc = some i := fun _ _ z => z
  unfold wb245_19 at w
  unfold gV
  refine gw_pst hk 2 (st' := (22, [some (.ref 48), some (.int x1), some (.int x2), some (.int x3), some (.int x4), some (.int x5), none, none, none], [.int x2, .int x5], h)) rfl ?_
  refine gw_br (c := x2 < x5) (a := (131, [some (.ref 48), some (.int x1), some (.int x2), some (.int x3), some (.int x4), some (.int x5), none, none, none], [], h)) (b := (25, [some (.ref 48), some (.int x1), some (.int x2), some (.int x3), some (.int x4), some (.int x5), none, none, none], [], h)) (hk _ _ rfl) rfl ⟨fun z1 => ?_, fun z1 => ?_⟩
  · replace w := w.1 z1
    refine gw_pst hk 2 (st' := (10, [some (.ref 48), some (.int x1), some (.int x2), some (.int x3), some (.int (x4 + 1)), some (.int x5), none, none, none], [], h)) rfl ?_
    refine gw_le (L' := [some (.ref 48), some (.int x1), some (.int x2), some (.int x3), some (.int (x4 + 1)), none, none, none, none]) (gm_le_k _ (gm_le_k _ (gm_le_k _ (gm_le_k _ (gm_le_k _ (gm_le_n _ (gm_le_k _ (gm_le_k _ (gm_le_k _ gm_le_nil))))))))) ?_
    exact hK10 _ _ _ _ _ w _ hR
  · replace w := w.2 z1
    refine gw_pst hk 1 (st' := (26, [some (.ref 48), some (.int x1), some (.int x2), some (.int x3), some (.int x4), some (.int x5), none, none, none], [.int x3], h)) rfl ?_
    refine gw_br (c := x3 = 0) (a := (29, [some (.ref 48), some (.int x1), some (.int x2), some (.int x3), some (.int x4), some (.int x5), none, none, none], [], h)) (b := (33, [some (.ref 48), some (.int x1), some (.int x2), some (.int x3), some (.int x4), some (.int x5), none, none, none], [], h)) (hk _ _ rfl) rfl ⟨fun z2 => ?_, fun z2 => ?_⟩
    · replace w := w.1 z2
      refine gw_pst hk 2 (st' := (34, [some (.ref 48), some (.int x1), some (.int x2), some (.int x3), some (.int x4), some (.int x5), none, none, none], [.int 1], h)) rfl ?_
      exact ok245_34 c d Post K2 K10 K19 hK2 hK10 hK19 _ _ _ _ _ _ _ w _ hR
    · replace w := w.2 z2
      refine gw_pst hk 1 (st' := (34, [some (.ref 48), some (.int x1), some (.int x2), some (.int x3), some (.int x4), some (.int x5), none, none, none], [.int 0], h)) rfl ?_
      exact ok245_34 c d Post K2 K10 K19 hK2 hK10 hK19 _ _ _ _ _ _ _ w _ hR
def wl245_19 (c : gx) (d : Nat) (Post : Option Value → gs → Prop) (K2 : Int32 → Int32 → Int32 → gs → Prop) (K10 : Int32 → Int32 → Int32 → Int32 → gs → Prop) : Nat → Int32 → Int32 → Int32 → Int32 → Int32 → gs → Prop
  | 0 => fun _ _ _ _ _ _ => False
  | n + 1 => wb245_19 c d Post K2 K10 (wl245_19 c d Post K2 K10 n)
theorem okl245_19 (c : gx) (d : Nat) (Post : Option Value → gs → Prop) (K2 : Int32 → Int32 → Int32 → gs → Prop) (K10 : Int32 → Int32 → Int32 → Int32 → gs → Prop) (hK2 : ∀ (x1 : Int32) (x2 : Int32) (x3 : Int32) (s : gs), K2 x1 x2 x3 s → tV c d 245 2 [some (.ref 48), some (.int x1), some (.int x2), some (.int x3), none, none, none, none, none] [] s Post) (hK10 : ∀ (x1 : Int32) (x2 : Int32) (x3 : Int32) (x4 : Int32) (s : gs), K10 x1 x2 x3 x4 s → tV c d 245 10 [some (.ref 48), some (.int x1), some (.int x2), some (.int x3), some (.int x4), none, none, none, none] [] s Post) : ∀ (n : Nat) (x1 : Int32) (x2 : Int32) (x3 : Int32) (x4 : Int32) (x5 : Int32) (s : gs), wl245_19 c d Post K2 K10 n x1 x2 x3 x4 x5 s → tV c d 245 19 [some (.ref 48), some (.int x1), some (.int x2), some (.int x3), some (.int x4), some (.int x5), none, none, none] [] s Post
  | 0, _, _, _, _, _, _, w => w.elim
  | n + 1, x1, x2, x3, x4, x5, s, w => okb245_19 c d Post K2 K10 (wl245_19 c d Post K2 K10 n) hK2 hK10 (okl245_19 c d Post K2 K10 hK2 hK10 n) x1 x2 x3 x4 x5 s w
def wb245_10 (c : gx) (d : Nat) (Post : Option Value → gs → Prop) (K2 : Int32 → Int32 → Int32 → gs → Prop) (K10 : Int32 → Int32 → Int32 → Int32 → gs → Prop) (x1 : Int32) (x2 : Int32) (x3 : Int32) (x4 : Int32) (s : gs) : Prop :=
  ((2 ≤ x4 → K2 x1 x2 (x3 + 1) s) ∧ (¬ (2 ≤ x4) → ∃ n, wl245_19 c d Post K2 K10 n x1 x2 x3 x4 1 s))
theorem okb245_10 (c : gx) (d : Nat) (Post : Option Value → gs → Prop) (K2 : Int32 → Int32 → Int32 → gs → Prop) (K10 : Int32 → Int32 → Int32 → Int32 → gs → Prop)  (hK2 : ∀ (x1 : Int32) (x2 : Int32) (x3 : Int32) (s : gs), K2 x1 x2 x3 s → tV c d 245 2 [some (.ref 48), some (.int x1), some (.int x2), some (.int x3), none, none, none, none, none] [] s Post) (hK10 : ∀ (x1 : Int32) (x2 : Int32) (x3 : Int32) (x4 : Int32) (s : gs), K10 x1 x2 x3 x4 s → tV c d 245 10 [some (.ref 48), some (.int x1), some (.int x2), some (.int x3), some (.int x4), none, none, none, none] [] s Post) (x1 : Int32) (x2 : Int32) (x3 : Int32) (x4 : Int32) (s : gs) (w : wb245_10 c d Post K2 K10 x1 x2 x3 x4 s) : tV c d 245 10 [some (.ref 48), some (.int x1), some (.int x2), some (.int x3), some (.int x4), none, none, none, none] [] s Post := by
  intro h hR
  have hk : ∀ pc i, gm_find gk_245 pc = some i → gm_code (gt_T c.1 c.2.1 c.2.2.1) 245 pc = some i := fun _ _ z => z
  unfold wb245_10 at w
  unfold gV
  refine gw_pst hk 2 (st' := (13, [some (.ref 48), some (.int x1), some (.int x2), some (.int x3), some (.int x4), none, none, none, none], [.int 2, .int x4], h)) rfl ?_
  refine gw_br (c := 2 ≤ x4) (a := (137, [some (.ref 48), some (.int x1), some (.int x2), some (.int x3), some (.int x4), none, none, none, none], [], h)) (b := (16, [some (.ref 48), some (.int x1), some (.int x2), some (.int x3), some (.int x4), none, none, none, none], [], h)) (hk _ _ rfl) rfl ⟨fun z1 => ?_, fun z1 => ?_⟩
  · replace w := w.1 z1
    refine gw_pst hk 2 (st' := (2, [some (.ref 48), some (.int x1), some (.int x2), some (.int (x3 + 1)), some (.int x4), none, none, none, none], [], h)) rfl ?_
    refine gw_le (L' := [some (.ref 48), some (.int x1), some (.int x2), some (.int (x3 + 1)), none, none, none, none, none]) (gm_le_k _ (gm_le_k _ (gm_le_k _ (gm_le_k _ (gm_le_n _ (gm_le_k _ (gm_le_k _ (gm_le_k _ (gm_le_k _ gm_le_nil))))))))) ?_
    exact hK2 _ _ _ _ w _ hR
  · replace w := w.2 z1
    refine gw_pst hk 2 (st' := (19, [some (.ref 48), some (.int x1), some (.int x2), some (.int x3), some (.int x4), some (.int 1), none, none, none], [], h)) rfl ?_
    obtain ⟨n, w⟩ := w
    exact okl245_19 c d Post K2 K10 hK2 hK10 n _ _ _ _ _ _ w _ hR
def wl245_10 (c : gx) (d : Nat) (Post : Option Value → gs → Prop) (K2 : Int32 → Int32 → Int32 → gs → Prop) : Nat → Int32 → Int32 → Int32 → Int32 → gs → Prop
  | 0 => fun _ _ _ _ _ => False
  | n + 1 => wb245_10 c d Post K2 (wl245_10 c d Post K2 n)
theorem okl245_10 (c : gx) (d : Nat) (Post : Option Value → gs → Prop) (K2 : Int32 → Int32 → Int32 → gs → Prop) (hK2 : ∀ (x1 : Int32) (x2 : Int32) (x3 : Int32) (s : gs), K2 x1 x2 x3 s → tV c d 245 2 [some (.ref 48), some (.int x1), some (.int x2), some (.int x3), none, none, none, none, none] [] s Post) : ∀ (n : Nat) (x1 : Int32) (x2 : Int32) (x3 : Int32) (x4 : Int32) (s : gs), wl245_10 c d Post K2 n x1 x2 x3 x4 s → tV c d 245 10 [some (.ref 48), some (.int x1), some (.int x2), some (.int x3), some (.int x4), none, none, none, none] [] s Post
  | 0, _, _, _, _, _, w => w.elim
  | n + 1, x1, x2, x3, x4, s, w => okb245_10 c d Post K2 (wl245_10 c d Post K2 n) hK2 (okl245_10 c d Post K2 hK2 n) x1 x2 x3 x4 s w
def wb245_2 (c : gx) (d : Nat) (Post : Option Value → gs → Prop) (K2 : Int32 → Int32 → Int32 → gs → Prop) (x1 : Int32) (x2 : Int32) (x3 : Int32) (s : gs) : Prop :=
  ((x1 < x3 → Post none s) ∧ (¬ (x1 < x3) → ∃ n, wl245_10 c d Post K2 n x1 x2 x3 0 s))
theorem okb245_2 (c : gx) (d : Nat) (Post : Option Value → gs → Prop) (K2 : Int32 → Int32 → Int32 → gs → Prop)  (hK2 : ∀ (x1 : Int32) (x2 : Int32) (x3 : Int32) (s : gs), K2 x1 x2 x3 s → tV c d 245 2 [some (.ref 48), some (.int x1), some (.int x2), some (.int x3), none, none, none, none, none] [] s Post) (x1 : Int32) (x2 : Int32) (x3 : Int32) (s : gs) (w : wb245_2 c d Post K2 x1 x2 x3 s) : tV c d 245 2 [some (.ref 48), some (.int x1), some (.int x2), some (.int x3), none, none, none, none, none] [] s Post := by
  intro h hR
  have hk : ∀ pc i, gm_find gk_245 pc = some i → gm_code (gt_T c.1 c.2.1 c.2.2.1) 245 pc = some i := fun _ _ z => z
  unfold wb245_2 at w
  unfold gV
  refine gw_pst hk 2 (st' := (4, [some (.ref 48), some (.int x1), some (.int x2), some (.int x3), none, none, none, none, none], [.int x1, .int x3], h)) rfl ?_
  refine gw_br (c := x1 < x3) (a := (143, [some (.ref 48), some (.int x1), some (.int x2), some (.int x3), none, none, none, none, none], [], h)) (b := (7, [some (.ref 48), some (.int x1), some (.int x2), some (.int x3), none, none, none, none, none], [], h)) (hk _ _ rfl) rfl ⟨fun z1 => ?_, fun z1 => ?_⟩
  · replace w := w.1 z1
    exact gw_ret (hk _ _ rfl) rfl ⟨_, hR, w⟩
  · replace w := w.2 z1
    refine gw_pst hk 2 (st' := (10, [some (.ref 48), some (.int x1), some (.int x2), some (.int x3), some (.int 0), none, none, none, none], [], h)) rfl ?_
    obtain ⟨n, w⟩ := w
    exact okl245_10 c d Post K2 hK2 n _ _ _ _ _ w _ hR
def wl245_2 (c : gx) (d : Nat) (Post : Option Value → gs → Prop) : Nat → Int32 → Int32 → Int32 → gs → Prop
  | 0 => fun _ _ _ _ => False
  | n + 1 => wb245_2 c d Post (wl245_2 c d Post n)
theorem okl245_2 (c : gx) (d : Nat) (Post : Option Value → gs → Prop) : ∀ (n : Nat) (x1 : Int32) (x2 : Int32) (x3 : Int32) (s : gs), wl245_2 c d Post n x1 x2 x3 s → tV c d 245 2 [some (.ref 48), some (.int x1), some (.int x2), some (.int x3), none, none, none, none, none] [] s Post
  | 0, _, _, _, _, w => w.elim
  | n + 1, x1, x2, x3, s, w => okb245_2 c d Post (wl245_2 c d Post n) (okl245_2 c d Post n) x1 x2 x3 s w
/-- CommandByTurnsModel.layWays(II)V -/
def wm245 (c : gx) (d : Nat) (Post : Option Value → gs → Prop) (x1 : Int32) (x2 : Int32) (s : gs) : Prop :=
  ∃ n, wl245_2 c d Post n x1 x2 0 s
theorem okm245 (c : gx) (d : Nat) (Post : Option Value → gs → Prop) (x1 : Int32) (x2 : Int32) (s : gs) (w : wm245 c d Post x1 x2 s) : tE c (d + 1) 245 [.ref 48, .int x1, .int x2] s Post := by
  intro h hR
  have hk : ∀ pc i, gm_find gk_245 pc = some i → gm_code (gt_T c.1 c.2.1 c.2.2.1) 245 pc = some i := fun _ _ z => z
  unfold wm245 at w
  refine ge_of (by decide) (Nat.le_of_ble_eq_true rfl) ?_
  show gw (gt_T c.1 c.2.1 c.2.2.1) c.2.2.2 d 245 (0, [some (.ref 48), some (.int x1), some (.int x2), none, none, none, none, none, none], [], h) _
  refine gw_pst hk 2 (st' := (2, [some (.ref 48), some (.int x1), some (.int x2), some (.int 0), none, none, none, none, none], [], h)) rfl ?_
  obtain ⟨n, w⟩ := w
  exact okl245_2 c d Post n _ _ _ _ w _ hR
def w246_30 (c : gx) (d : Nat) (Post : Option Value → gs → Prop) (xs0 : Int32) (s : gs) : Prop :=
  ((xs0 = 0 ∨ xs0 = 1) ∧ Post (some (.int xs0)) s)
theorem ok246_30 (c : gx) (d : Nat) (Post : Option Value → gs → Prop)  (xs0 : Int32) (s : gs) (w : w246_30 c d Post xs0 s) : tV c d 246 30 [none, none, none] [.int xs0] s Post := by
  intro h hR
  have hk : ∀ pc i, gm_find gk_246 pc = some i → gm_code (gt_T c.1 c.2.1 c.2.2.1) 246 pc = some i := fun _ _ z => z
  unfold w246_30 at w
  unfold gV
  exact gw_retZ (hk _ _ rfl) rfl w.1 ⟨_, hR, w.2⟩
def w246_25 (c : gx) (d : Nat) (Post : Option Value → gs → Prop)  (s : gs) : Prop :=
  w246_30 c d Post 1 s
theorem ok246_25 (c : gx) (d : Nat) (Post : Option Value → gs → Prop)   (s : gs) (w : w246_25 c d Post  s) : tV c d 246 25 [none, none, none] [] s Post := by
  intro h hR
  have hk : ∀ pc i, gm_find gk_246 pc = some i → gm_code (gt_T c.1 c.2.1 c.2.2.1) 246 pc = some i := fun _ _ z => z
  unfold w246_25 at w
  unfold gV
  refine gw_pst hk 2 (st' := (30, [none, none, none], [.int 1], h)) rfl ?_
  exact ok246_30 c d Post _ _ w _ hR
def w246_29 (c : gx) (d : Nat) (Post : Option Value → gs → Prop)  (s : gs) : Prop :=
  w246_30 c d Post 0 s
theorem ok246_29 (c : gx) (d : Nat) (Post : Option Value → gs → Prop)   (s : gs) (w : w246_29 c d Post  s) : tV c d 246 29 [none, none, none] [] s Post := by
  intro h hR
  have hk : ∀ pc i, gm_find gk_246 pc = some i → gm_code (gt_T c.1 c.2.1 c.2.2.1) 246 pc = some i := fun _ _ z => z
  unfold w246_29 at w
  unfold gV
  refine gw_pst hk 1 (st' := (30, [none, none, none], [.int 0], h)) rfl ?_
  exact ok246_30 c d Post _ _ w _ hR
/-- CommandByTurnsModel.canBe(II)Z -/
def wm246 (c : gx) (d : Nat) (Post : Option Value → gs → Prop) (x1 : Int32) (x2 : Int32) (s : gs) : Prop :=
  tE c d 243 [.ref 48, .int x1, .int x2] s (fun v1 s_1 => ∃ x_1 : Int32, v1 = some (.int x_1) ∧ ((x_1 = 0 → w246_29 c d Post s_1) ∧ (¬ (x_1 = 0) → ((x1 = (gsV s_1 48 36) → ((x2 = (gsV s_1 48 37) → w246_25 c d Post s_1) ∧ (¬ (x2 = (gsV s_1 48 37)) → w246_29 c d Post s_1))) ∧ (¬ (x1 = (gsV s_1 48 36)) → w246_25 c d Post s_1)))))
theorem okm246 (c : gx) (d : Nat) (Post : Option Value → gs → Prop) (x1 : Int32) (x2 : Int32) (s : gs) (w : wm246 c d Post x1 x2 s) : tE c (d + 1) 246 [.ref 48, .int x1, .int x2] s Post := by
  intro h hR
  have hk : ∀ pc i, gm_find gk_246 pc = some i → gm_code (gt_T c.1 c.2.1 c.2.2.1) 246 pc = some i := fun _ _ z => z
  unfold wm246 at w
  refine ge_of (by decide) (Nat.le_of_ble_eq_true rfl) ?_
  show gw (gt_T c.1 c.2.1 c.2.2.1) c.2.2.2 d 246 (0, [some (.ref 48), some (.int x1), some (.int x2)], [], h) _
  refine gw_pst hk 3 (st' := (3, [some (.ref 48), some (.int x1), some (.int x2)], [.int x2, .int x1, .ref 48], h)) rfl ?_
  obtain ⟨fs1, e1⟩ := RL_o hR (r := 48) (ci := 10) rfl
  refine gw_call (jj := 243) (As := [.ref 48, .int x1, .int x2]) (rest := []) (hk _ _ rfl) (fun _ => rfl) rfl rfl (Nat.le_of_ble_eq_true rfl) (gm_rcv_v rfl e1 rfl) ?_
  refine ge_imp (w h hR) (fun v1 h w => ?_)
  obtain ⟨s_1, hR, x_1, rfl, w⟩ := w
  show gw (gt_T c.1 c.2.1 c.2.2.1) c.2.2.2 d 246 (6, [some (.ref 48), some (.int x1), some (.int x2)], [.int x_1], h) _
  refine gw_br (c := x_1 = 0) (a := (29, [some (.ref 48), some (.int x1), some (.int x2)], [], h)) (b := (9, [some (.ref 48), some (.int x1), some (.int x2)], [], h)) (hk _ _ rfl) rfl ⟨fun z2 => ?_, fun z2 => ?_⟩
  · replace w := w.1 z2
    refine gw_le (L' := [none, none, none]) (gm_le_n _ (gm_le_n _ (gm_le_n _ gm_le_nil))) ?_
    exact ok246_29 c d Post _ w _ hR
  · replace w := w.2 z2
    refine gw_pst hk 2 (st' := (11, [some (.ref 48), some (.int x1), some (.int x2)], [.ref 48, .int x1], h)) rfl ?_
    refine gw_gf (hk _ _ rfl) (RL_fI hR rfl) ?_
    refine gw_br (c := x1 = (gsV s_1 48 36)) (a := (17, [some (.ref 48), some (.int x1), some (.int x2)], [], h)) (b := (25, [some (.ref 48), some (.int x1), some (.int x2)], [], h)) (hk _ _ rfl) rfl ⟨fun z4 => ?_, fun z4 => ?_⟩
    · replace w := w.1 z4
      refine gw_pst hk 2 (st' := (19, [some (.ref 48), some (.int x1), some (.int x2)], [.ref 48, .int x2], h)) rfl ?_
      refine gw_gf (hk _ _ rfl) (RL_fI hR rfl) ?_
      refine gw_br (c := x2 = (gsV s_1 48 37)) (a := (25, [some (.ref 48), some (.int x1), some (.int x2)], [], h)) (b := (29, [some (.ref 48), some (.int x1), some (.int x2)], [], h)) (hk _ _ rfl) rfl ⟨fun z6 => ?_, fun z6 => ?_⟩
      · replace w := w.1 z6
        refine gw_le (L' := [none, none, none]) (gm_le_n _ (gm_le_n _ (gm_le_n _ gm_le_nil))) ?_
        exact ok246_25 c d Post _ w _ hR
      · replace w := w.2 z6
        refine gw_le (L' := [none, none, none]) (gm_le_n _ (gm_le_n _ (gm_le_n _ gm_le_nil))) ?_
        exact ok246_29 c d Post _ w _ hR
    · replace w := w.2 z4
      refine gw_le (L' := [none, none, none]) (gm_le_n _ (gm_le_n _ (gm_le_n _ gm_le_nil))) ?_
      exact ok246_25 c d Post _ w _ hR
def w247_60 (c : gx) (d : Nat) (Post : Option Value → gs → Prop) (K23 : Int32 → Int32 → Int32 → gs → Prop) (x1 : Int32) (x5 : Int32) (x6 : Int32) (s : gs) : Prop :=
  K23 x1 x5 (x6 + 1) s
theorem ok247_60 (c : gx) (d : Nat) (Post : Option Value → gs → Prop) (K23 : Int32 → Int32 → Int32 → gs → Prop)  (hK23 : ∀ (x1 : Int32) (x5 : Int32) (x6 : Int32) (s : gs), K23 x1 x5 x6 s → tV c d 247 23 [some (.ref 48), some (.int x1), none, none, none, some (.int x5), some (.int x6)] [] s Post) (x1 : Int32) (x5 : Int32) (x6 : Int32) (s : gs) (w : w247_60 c d Post K23 x1 x5 x6 s) : tV c d 247 60 [some (.ref 48), some (.int x1), none, none, none, some (.int x5), some (.int x6)] [] s Post := by
  intro h hR
  have hk : ∀ pc i, gm_find gk_247 pc = some i → gm_code (gt_T c.1 c.2.1 c.2.2.1) 247 pc = some i := fun _ _ z => z
  unfold w247_60 at w
  unfold gV
  refine gw_pst hk 2 (st' := (23, [some (.ref 48), some (.int x1), none, none, none, some (.int x5), some (.int (x6 + 1))], [], h)) rfl ?_
  exact hK23 _ _ _ _ w _ hR
def wb247_23 (c : gx) (d : Nat) (Post : Option Value → gs → Prop) (K23 : Int32 → Int32 → Int32 → gs → Prop) (x1 : Int32) (x5 : Int32) (x6 : Int32) (s : gs) : Prop :=
  ((2 ≤ x6 → Post (some (.int x5)) s) ∧ (¬ (2 ≤ x6) → tE c d 246 [.ref 48, .int (x1 - 1), .int x6] s (fun v2 s_2 => ∃ x_2 : Int32, v2 = some (.int x_2) ∧ ((x_2 = 0 → w247_60 c d Post K23 x1 x5 x6 s_2) ∧ (¬ (x_2 = 0) → tE c d 244 [.int (x1 - 1), .int x6, .int 1] s_2 (fun v5 s_5 => ∃ x_5 : Int32, v5 = some (.int x_5) ∧ vp_in x_5 168 ∧ w247_60 c d Post K23 x1 (x5 + (gsA s_5 70 (x_5 : Int32).toNatClampNeg)) x6 s_5))))))
theorem okb247_23 (c : gx) (d : Nat) (Post : Option Value → gs → Prop) (K23 : Int32 → Int32 → Int32 → gs → Prop)  (hK23 : ∀ (x1 : Int32) (x5 : Int32) (x6 : Int32) (s : gs), K23 x1 x5 x6 s → tV c d 247 23 [some (.ref 48), some (.int x1), none, none, none, some (.int x5), some (.int x6)] [] s Post) (x1 : Int32) (x5 : Int32) (x6 : Int32) (s : gs) (w : wb247_23 c d Post K23 x1 x5 x6 s) : tV c d 247 23 [some (.ref 48), some (.int x1), none, none, none, some (.int x5), some (.int x6)] [] s Post := by
  intro h hR
  have hk : ∀ pc i, gm_find gk_247 pc = some i → gm_code (gt_T c.1 c.2.1 c.2.2.1) 247 pc = some i := fun _ _ z => z
  unfold wb247_23 at w
  unfold gV
  refine gw_pst hk 2 (st' := (26, [some (.ref 48), some (.int x1), none, none, none, some (.int x5), some (.int x6)], [.int 2, .int x6], h)) rfl ?_
  refine gw_br (c := 2 ≤ x6) (a := (66, [some (.ref 48), some (.int x1), none, none, none, some (.int x5), some (.int x6)], [], h)) (b := (29, [some (.ref 48), some (.int x1), none, none, none, some (.int x5), some (.int x6)], [], h)) (hk _ _ rfl) rfl ⟨fun z1 => ?_, fun z1 => ?_⟩
  · replace w := w.1 z1
    refine gw_pst hk 1 (st' := (68, [some (.ref 48), some (.int x1), none, none, none, some (.int x5), some (.int x6)], [.int x5], h)) rfl ?_
    exact gw_ret (hk _ _ rfl) rfl ⟨_, hR, w⟩
  · replace w := w.2 z1
    refine gw_pst hk 5 (st' := (35, [some (.ref 48), some (.int x1), none, none, none, some (.int x5), some (.int x6)], [.int x6, .int (x1 - 1), .ref 48], h)) rfl ?_
    obtain ⟨fs2, e2⟩ := RL_o hR (r := 48) (ci := 10) rfl
    refine gw_call (jj := 246) (As := [.ref 48, .int (x1 - 1), .int x6]) (rest := []) (hk _ _ rfl) (fun _ => rfl) rfl rfl (Nat.le_of_ble_eq_true rfl) (gm_rcv_v rfl e2 rfl) ?_
    refine ge_imp (w h hR) (fun v2 h w => ?_)
    obtain ⟨s_2, hR, x_2, rfl, w⟩ := w
    show gw (gt_T c.1 c.2.1 c.2.2.1) c.2.2.2 d 247 (38, [some (.ref 48), some (.int x1), none, none, none, some (.int x5), some (.int x6)], [.int x_2], h) _
    refine gw_br (c := x_2 = 0) (a := (60, [some (.ref 48), some (.int x1), none, none, none, some (.int x5), some (.int x6)], [], h)) (b := (41, [some (.ref 48), some (.int x1), none, none, none, some (.int x5), some (.int x6)], [], h)) (hk _ _ rfl) rfl ⟨fun z3 => ?_, fun z3 => ?_⟩
    · replace w := w.1 z3
      exact ok247_60 c d Post K23 hK23 _ _ _ _ w _ hR
    · replace w := w.2 z3
      refine gw_pst hk 2 (st' := (44, [some (.ref 48), some (.int x1), none, none, none, some (.int x5), some (.int x6)], [.ref 48, .int x5], h)) rfl ?_
      refine gw_gf (hk _ _ rfl) (RL_fR (n := 70) hR rfl) ?_
      refine gw_pst hk 5 (st' := (53, [some (.ref 48), some (.int x1), none, none, none, some (.int x5), some (.int x6)], [.int 1, .int x6, .int (x1 - 1), .ref 70, .int x5], h)) rfl ?_
      refine gw_call (jj := 244) (As := [.int (x1 - 1), .int x6, .int 1]) (rest := [.ref 70, .int x5]) (hk _ _ rfl) (fun _ => rfl) rfl rfl (Nat.le_of_ble_eq_true rfl) rfl ?_
      refine ge_imp (w h hR) (fun v5 h w => ?_)
      obtain ⟨s_5, hR, x_5, rfl, w⟩ := w
      show gw (gt_T c.1 c.2.1 c.2.2.1) c.2.2.2 d 247 (56, [some (.ref 48), some (.int x1), none, none, none, some (.int x5), some (.int x6)], [.int x_5, .ref 70, .int x5], h) _
      obtain ⟨b6, w⟩ := w
      refine gw_ald (hk _ _ rfl) (Or.inl ⟨rfl, rfl⟩) (RL_a (t := 0) (n := 168) hR rfl (by decide)) b6 ?_
      refine gw_pst hk 2 (st' := (60, [some (.ref 48), some (.int x1), none, none, none, some (.int (x5 + (gsA s_5 70 (x_5 : Int32).toNatClampNeg))), some (.int x6)], [], h)) rfl ?_
      exact ok247_60 c d Post K23 hK23 _ _ _ _ w _ hR
def wl247_23 (c : gx) (d : Nat) (Post : Option Value → gs → Prop) : Nat → Int32 → Int32 → Int32 → gs → Prop
  | 0 => fun _ _ _ _ => False
  | n + 1 => wb247_23 c d Post (wl247_23 c d Post n)
theorem okl247_23 (c : gx) (d : Nat) (Post : Option Value → gs → Prop) : ∀ (n : Nat) (x1 : Int32) (x5 : Int32) (x6 : Int32) (s : gs), wl247_23 c d Post n x1 x5 x6 s → tV c d 247 23 [some (.ref 48), some (.int x1), none, none, none, some (.int x5), some (.int x6)] [] s Post
  | 0, _, _, _, _, w => w.elim
  | n + 1, x1, x5, x6, s, w => okb247_23 c d Post (wl247_23 c d Post n) (okl247_23 c d Post n) x1 x5 x6 s w
/-- CommandByTurnsModel.waysIf(IIII)I -/
def wm247 (c : gx) (d : Nat) (Post : Option Value → gs → Prop) (x1 : Int32) (x2 : Int32) (x3 : Int32) (x4 : Int32) (s : gs) : Prop :=
  ∀ s_1 : gs, s_1 = gs_V s 48 36 x3 → ∀ s_2 : gs, s_2 = gs_V s_1 48 37 x4 → tE c d 245 [.ref 48, .int x1, .int x2] s_2 (fun v3 s_3 => v3 = none ∧ ∃ n, wl247_23 c d Post n x1 0 0 s_3)
theorem okm247 (c : gx) (d : Nat) (Post : Option Value → gs → Prop) (x1 : Int32) (x2 : Int32) (x3 : Int32) (x4 : Int32) (s : gs) (w : wm247 c d Post x1 x2 x3 x4 s) : tE c (d + 1) 247 [.ref 48, .int x1, .int x2, .int x3, .int x4] s Post := by
  intro h hR
  have hk : ∀ pc i, gm_find gk_247 pc = some i → gm_code (gt_T c.1 c.2.1 c.2.2.1) 247 pc = some i := fun _ _ z => z
  unfold wm247 at w
  refine ge_of (by decide) (Nat.le_of_ble_eq_true rfl) ?_
  show gw (gt_T c.1 c.2.1 c.2.2.1) c.2.2.2 d 247 (0, [some (.ref 48), some (.int x1), some (.int x2), some (.int x3), some (.int x4), none, none], [], h) _
  refine gw_pst hk 2 (st' := (2, [some (.ref 48), some (.int x1), some (.int x2), some (.int x3), some (.int x4), none, none], [.int x3, .ref 48], h)) rfl ?_
  obtain ⟨fs1, e1⟩ := RL_o hR (r := 48) (ci := 10) rfl
  obtain ⟨l1, hR1⟩ := RL_pI (k := 36) (x := x3) hR rfl e1
  refine gw_pf (hk _ _ rfl) e1 l1 rfl ?_
  generalize gm_put h _ _ = h at hR1 ⊢
  obtain ⟨s_1, es1⟩ : ∃ z, z = gs_V s 48 36 x3 := ⟨_, rfl⟩
  rw [← es1] at hR1
  replace w := w s_1 es1
  replace hR := hR1
  refine gw_pst hk 2 (st' := (8, [some (.ref 48), some (.int x1), some (.int x2), some (.int x3), some (.int x4), none, none], [.int x4, .ref 48], h)) rfl ?_
  obtain ⟨fs2, e2⟩ := RL_o hR (r := 48) (ci := 10) rfl
  obtain ⟨l2, hR2⟩ := RL_pI (k := 37) (x := x4) hR rfl e2
  refine gw_pf (hk _ _ rfl) e2 l2 rfl ?_
  generalize gm_put h _ _ = h at hR2 ⊢
  obtain ⟨s_2, es2⟩ : ∃ z, z = gs_V s_1 48 37 x4 := ⟨_, rfl⟩
  rw [← es2] at hR2
  replace w := w s_2 es2
  replace hR := hR2
  refine gw_pst hk 3 (st' := (14, [some (.ref 48), some (.int x1), some (.int x2), some (.int x3), some (.int x4), none, none], [.int x2, .int x1, .ref 48], h)) rfl ?_
  obtain ⟨fs3, e3⟩ := RL_o hR (r := 48) (ci := 10) rfl
  refine gw_call (jj := 245) (As := [.ref 48, .int x1, .int x2]) (rest := []) (hk _ _ rfl) (fun _ => rfl) rfl rfl (Nat.le_of_ble_eq_true rfl) (gm_rcv_v rfl e3 rfl) ?_
  refine ge_imp (w h hR) (fun v3 h w => ?_)
  obtain ⟨s_3, hR, rfl, w⟩ := w
  show gw (gt_T c.1 c.2.1 c.2.2.1) c.2.2.2 d 247 (17, [some (.ref 48), some (.int x1), some (.int x2), some (.int x3), some (.int x4), none, none], [], h) _
  refine gw_pst hk 4 (st' := (23, [some (.ref 48), some (.int x1), some (.int x2), some (.int x3), some (.int x4), some (.int 0), some (.int 0)], [], h)) rfl ?_
  refine gw_le (L' := [some (.ref 48), some (.int x1), none, none, none, some (.int 0), some (.int 0)]) (gm_le_k _ (gm_le_k _ (gm_le_n _ (gm_le_n _ (gm_le_n _ (gm_le_k _ (gm_le_k _ gm_le_nil))))))) ?_
  obtain ⟨n, w⟩ := w
  exact okl247_23 c d Post n _ _ _ _ w _ hR
def w248_24 (c : gx) (d : Nat) (Post : Option Value → gs → Prop) (xs0 : Int32) (s : gs) : Prop :=
  ((xs0 = 0 ∨ xs0 = 1) ∧ Post (some (.int xs0)) s)
theorem ok248_24 (c : gx) (d : Nat) (Post : Option Value → gs → Prop)  (xs0 : Int32) (s : gs) (w : w248_24 c d Post xs0 s) : tV c d 248 24 [none, none] [.int xs0] s Post := by
  intro h hR
  have hk : ∀ pc i, gm_find gk_248 pc = some i → gm_code (gt_T c.1 c.2.1 c.2.2.1) 248 pc = some i := fun _ _ z => z
  unfold w248_24 at w
  unfold gV
  exact gw_retZ (hk _ _ rfl) rfl w.1 ⟨_, hR, w.2⟩
def w248_23 (c : gx) (d : Nat) (Post : Option Value → gs → Prop)  (s : gs) : Prop :=
  w248_24 c d Post 0 s
theorem ok248_23 (c : gx) (d : Nat) (Post : Option Value → gs → Prop)   (s : gs) (w : w248_23 c d Post  s) : tV c d 248 23 [none, none] [] s Post := by
  intro h hR
  have hk : ∀ pc i, gm_find gk_248 pc = some i → gm_code (gt_T c.1 c.2.1 c.2.2.1) 248 pc = some i := fun _ _ z => z
  unfold w248_23 at w
  unfold gV
  refine gw_pst hk 1 (st' := (24, [none, none], [.int 0], h)) rfl ?_
  exact ok248_24 c d Post _ _ w _ hR
/-- CommandByTurnsModel.isOld(II)Z -/
def wm248 (c : gx) (d : Nat) (Post : Option Value → gs → Prop) (x0 : Int32) (x1 : Int32) (s : gs) : Prop :=
  tE c d 154 [.int x0, .int 1, .int 20] s (fun v1 s_1 => ∃ x_1 : Int32, v1 = some (.int x_1) ∧ ((x_1 = 0 → w248_23 c d Post s_1) ∧ (¬ (x_1 = 0) → tE c d 154 [.int x1, .int 1, .int 3] s_1 (fun v3 s_3 => ∃ x_3 : Int32, v3 = some (.int x_3) ∧ ((x_3 = 0 → w248_23 c d Post s_3) ∧ (¬ (x_3 = 0) → w248_24 c d Post 1 s_3))))))
theorem okm248 (c : gx) (d : Nat) (Post : Option Value → gs → Prop) (x0 : Int32) (x1 : Int32) (s : gs) (w : wm248 c d Post x0 x1 s) : tE c (d + 1) 248 [.int x0, .int x1] s Post := by
  intro h hR
  have hk : ∀ pc i, gm_find gk_248 pc = some i → gm_code (gt_T c.1 c.2.1 c.2.2.1) 248 pc = some i := fun _ _ z => z
  unfold wm248 at w
  refine ge_of (by decide) (Nat.le_of_ble_eq_true rfl) ?_
  show gw (gt_T c.1 c.2.1 c.2.2.1) c.2.2.2 d 248 (0, [some (.int x0), some (.int x1)], [], h) _
  refine gw_pst hk 3 (st' := (4, [some (.int x0), some (.int x1)], [.int 20, .int 1, .int x0], h)) rfl ?_
  refine gw_call (jj := 154) (As := [.int x0, .int 1, .int 20]) (rest := []) (hk _ _ rfl) (fun _ => rfl) rfl rfl (Nat.le_of_ble_eq_true rfl) rfl ?_
  refine ge_imp (w h hR) (fun v1 h w => ?_)
  obtain ⟨s_1, hR, x_1, rfl, w⟩ := w
  show gw (gt_T c.1 c.2.1 c.2.2.1) c.2.2.2 d 248 (7, [some (.int x0), some (.int x1)], [.int x_1], h) _
  refine gw_br (c := x_1 = 0) (a := (23, [some (.int x0), some (.int x1)], [], h)) (b := (10, [some (.int x0), some (.int x1)], [], h)) (hk _ _ rfl) rfl ⟨fun z2 => ?_, fun z2 => ?_⟩
  · replace w := w.1 z2
    refine gw_le (L' := [none, none]) (gm_le_n _ (gm_le_n _ gm_le_nil)) ?_
    exact ok248_23 c d Post _ w _ hR
  · replace w := w.2 z2
    refine gw_pst hk 3 (st' := (13, [some (.int x0), some (.int x1)], [.int 3, .int 1, .int x1], h)) rfl ?_
    refine gw_call (jj := 154) (As := [.int x1, .int 1, .int 3]) (rest := []) (hk _ _ rfl) (fun _ => rfl) rfl rfl (Nat.le_of_ble_eq_true rfl) rfl ?_
    refine ge_imp (w h hR) (fun v3 h w => ?_)
    obtain ⟨s_3, hR, x_3, rfl, w⟩ := w
    show gw (gt_T c.1 c.2.1 c.2.2.1) c.2.2.2 d 248 (16, [some (.int x0), some (.int x1)], [.int x_3], h) _
    refine gw_br (c := x_3 = 0) (a := (23, [some (.int x0), some (.int x1)], [], h)) (b := (19, [some (.int x0), some (.int x1)], [], h)) (hk _ _ rfl) rfl ⟨fun z4 => ?_, fun z4 => ?_⟩
    · replace w := w.1 z4
      refine gw_le (L' := [none, none]) (gm_le_n _ (gm_le_n _ gm_le_nil)) ?_
      exact ok248_23 c d Post _ w _ hR
    · replace w := w.2 z4
      refine gw_pst hk 2 (st' := (24, [some (.int x0), some (.int x1)], [.int 1], h)) rfl ?_
      refine gw_le (L' := [none, none]) (gm_le_n _ (gm_le_n _ gm_le_nil)) ?_
      exact ok248_24 c d Post _ _ w _ hR
def w249_116 (c : gx) (d : Nat) (Post : Option Value → gs → Prop) (K38 : Int32 → Int32 → Int32 → Int32 → Int32 → Int32 → gs → Prop) (x2 : Int32) (x3 : Int32) (x4 : Int32) (x7 : Int32) (x9 : Int32) (xs0 : Int32) (s : gs) : Prop :=
  K38 x2 x3 (x4 ||| (x9 <<< (x7 &&& 31))) x9 xs0 (x7 + (-1)) s
theorem ok249_116 (c : gx) (d : Nat) (Post : Option Value → gs → Prop) (K38 : Int32 → Int32 → Int32 → Int32 → Int32 → Int32 → gs → Prop)  (hK38 : ∀ (x2 : Int32) (x3 : Int32) (x4 : Int32) (x5 : Int32) (x6 : Int32) (x7 : Int32) (s : gs), K38 x2 x3 x4 x5 x6 x7 s → tV c d 249 38 [some (.ref 48), none, some (.int x2), some (.int x3), some (.int x4), some (.int x5), some (.int x6), some (.int x7), none, none] [] s Post) (x2 : Int32) (x3 : Int32) (x4 : Int32) (x7 : Int32) (x9 : Int32) (xs0 : Int32) (s : gs) (w : w249_116 c d Post K38 x2 x3 x4 x7 x9 xs0 s) : tV c d 249 116 [some (.ref 48), none, some (.int x2), some (.int x3), some (.int x4), none, none, some (.int x7), none, some (.int x9)] [.int xs0] s Post := by
  intro h hR
  have hk : ∀ pc i, gm_find gk_249 pc = some i → gm_code (gt_T c.1 c.2.1 c.2.2.1) 249 pc = some i := fun _ _ z => z
  unfold w249_116 at w
  unfold gV
  refine gw_pst hk 11 (st' := (38, [some (.ref 48), none, some (.int x2), some (.int x3), some (.int (x4 ||| (x9 <<< (x7 &&& 31)))), some (.int x9), some (.int xs0), some (.int (x7 + (-1))), none, some (.int x9)], [], h)) rfl ?_
  refine gw_le (L' := [some (.ref 48), none, some (.int x2), some (.int x3), some (.int (x4 ||| (x9 <<< (x7 &&& 31)))), some (.int x9), some (.int xs0), some (.int (x7 + (-1))), none, none]) (gm_le_k _ (gm_le_k _ (gm_le_k _ (gm_le_k _ (gm_le_k _ (gm_le_k _ (gm_le_k _ (gm_le_k _ (gm_le_k _ (gm_le_n _ gm_le_nil)))))))))) ?_
  exact hK38 _ _ _ _ _ _ _ w _ hR
def w249_99 (c : gx) (d : Nat) (Post : Option Value → gs → Prop) (K38 : Int32 → Int32 → Int32 → Int32 → Int32 → Int32 → gs → Prop) (x2 : Int32) (x3 : Int32) (x4 : Int32) (x5 : Int32) (x6 : Int32) (x7 : Int32) (xs0 : Int32) (s : gs) : Prop :=
  ((x5 = xs0 → w249_116 c d Post K38 x2 x3 x4 x7 xs0 (x6 + 1) s) ∧ (¬ (x5 = xs0) → w249_116 c d Post K38 x2 x3 x4 x7 xs0 1 s))
theorem ok249_99 (c : gx) (d : Nat) (Post : Option Value → gs → Prop) (K38 : Int32 → Int32 → Int32 → Int32 → Int32 → Int32 → gs → Prop)  (hK38 : ∀ (x2 : Int32) (x3 : Int32) (x4 : Int32) (x5 : Int32) (x6 : Int32) (x7 : Int32) (s : gs), K38 x2 x3 x4 x5 x6 x7 s → tV c d 249 38 [some (.ref 48), none, some (.int x2), some (.int x3), some (.int x4), some (.int x5), some (.int x6), some (.int x7), none, none] [] s Post) (x2 : Int32) (x3 : Int32) (x4 : Int32) (x5 : Int32) (x6 : Int32) (x7 : Int32) (xs0 : Int32) (s : gs) (w : w249_99 c d Post K38 x2 x3 x4 x5 x6 x7 xs0 s) : tV c d 249 99 [some (.ref 48), none, some (.int x2), some (.int x3), some (.int x4), some (.int x5), some (.int x6), some (.int x7), none, none] [.int xs0] s Post := by
  intro h hR
  have hk : ∀ pc i, gm_find gk_249 pc = some i → gm_code (gt_T c.1 c.2.1 c.2.2.1) 249 pc = some i := fun _ _ z => z
  unfold w249_99 at w
  unfold gV
  refine gw_pst hk 3 (st' := (105, [some (.ref 48), none, some (.int x2), some (.int x3), some (.int x4), some (.int x5), some (.int x6), some (.int x7), none, some (.int xs0)], [.int xs0, .int x5], h)) rfl ?_
  refine gw_br (c := x5 = xs0) (a := (108, [some (.ref 48), none, some (.int x2), some (.int x3), some (.int x4), some (.int x5), some (.int x6), some (.int x7), none, some (.int xs0)], [], h)) (b := (115, [some (.ref 48), none, some (.int x2), some (.int x3), some (.int x4), some (.int x5), some (.int x6), some (.int x7), none, some (.int xs0)], [], h)) (hk _ _ rfl) rfl ⟨fun z1 => ?_, fun z1 => ?_⟩
  · replace w := w.1 z1
    refine gw_pst hk 4 (st' := (116, [some (.ref 48), none, some (.int x2), some (.int x3), some (.int x4), some (.int x5), some (.int x6), some (.int x7), none, some (.int xs0)], [.int (x6 + 1)], h)) rfl ?_
    refine gw_le (L' := [some (.ref 48), none, some (.int x2), some (.int x3), some (.int x4), none, none, some (.int x7), none, some (.int xs0)]) (gm_le_k _ (gm_le_k _ (gm_le_k _ (gm_le_k _ (gm_le_k _ (gm_le_n _ (gm_le_n _ (gm_le_k _ (gm_le_k _ (gm_le_k _ gm_le_nil)))))))))) ?_
    exact ok249_116 c d Post K38 hK38 _ _ _ _ _ _ _ w _ hR
  · replace w := w.2 z1
    refine gw_pst hk 1 (st' := (116, [some (.ref 48), none, some (.int x2), some (.int x3), some (.int x4), some (.int x5), some (.int x6), some (.int x7), none, some (.int xs0)], [.int 1], h)) rfl ?_
    refine gw_le (L' := [some (.ref 48), none, some (.int x2), some (.int x3), some (.int x4), none, none, some (.int x7), none, some (.int xs0)]) (gm_le_k _ (gm_le_k _ (gm_le_k _ (gm_le_k _ (gm_le_k _ (gm_le_n _ (gm_le_n _ (gm_le_k _ (gm_le_k _ (gm_le_k _ gm_le_nil)))))))))) ?_
    exact ok249_116 c d Post K38 hK38 _ _ _ _ _ _ _ w _ hR
def w249_98 (c : gx) (d : Nat) (Post : Option Value → gs → Prop) (K38 : Int32 → Int32 → Int32 → Int32 → Int32 → Int32 → gs → Prop) (x2 : Int32) (x3 : Int32) (x4 : Int32) (x5 : Int32) (x6 : Int32) (x7 : Int32) (s : gs) : Prop :=
  w249_99 c d Post K38 x2 x3 x4 x5 x6 x7 1 s
theorem ok249_98 (c : gx) (d : Nat) (Post : Option Value → gs → Prop) (K38 : Int32 → Int32 → Int32 → Int32 → Int32 → Int32 → gs → Prop)  (hK38 : ∀ (x2 : Int32) (x3 : Int32) (x4 : Int32) (x5 : Int32) (x6 : Int32) (x7 : Int32) (s : gs), K38 x2 x3 x4 x5 x6 x7 s → tV c d 249 38 [some (.ref 48), none, some (.int x2), some (.int x3), some (.int x4), some (.int x5), some (.int x6), some (.int x7), none, none] [] s Post) (x2 : Int32) (x3 : Int32) (x4 : Int32) (x5 : Int32) (x6 : Int32) (x7 : Int32) (s : gs) (w : w249_98 c d Post K38 x2 x3 x4 x5 x6 x7 s) : tV c d 249 98 [some (.ref 48), none, some (.int x2), some (.int x3), some (.int x4), some (.int x5), some (.int x6), some (.int x7), none, none] [] s Post := by
  intro h hR
  have hk : ∀ pc i, gm_find gk_249 pc = some i → gm_code (gt_T c.1 c.2.1 c.2.2.1) 249 pc = some i := fun _ _ z => z
  unfold w249_98 at w
  unfold gV
  refine gw_pst hk 1 (st' := (99, [some (.ref 48), none, some (.int x2), some (.int x3), some (.int x4), some (.int x5), some (.int x6), some (.int x7), none, none], [.int 1], h)) rfl ?_
  exact ok249_99 c d Post K38 hK38 _ _ _ _ _ _ _ _ w _ hR
def w249_60 (c : gx) (d : Nat) (Post : Option Value → gs → Prop) (K38 : Int32 → Int32 → Int32 → Int32 → Int32 → Int32 → gs → Prop) (x2 : Int32) (x3 : Int32) (x4 : Int32) (x5 : Int32) (x6 : Int32) (x7 : Int32) (xs0 : Int32) (s : gs) : Prop :=
  ((x2 < xs0 → w249_98 c d Post K38 x2 x3 x4 x5 x6 x7 s) ∧ (¬ (x2 < xs0) → tE c d 246 [.ref 48, .int x7, .int 0] s (fun v2 s_2 => ∃ x_2 : Int32, v2 = some (.int x_2) ∧ ((x_2 = 0 → w249_98 c d Post K38 x2 x3 x4 x5 x6 x7 s_2) ∧ (¬ (x_2 = 0) → tE c d 244 [.int x7, .int 0, .int xs0] s_2 (fun v5 s_5 => ∃ x_5 : Int32, v5 = some (.int x_5) ∧ vp_in x_5 168 ∧ (((gsA s_5 70 (x_5 : Int32).toNatClampNeg) ≤ 0 → w249_98 c d Post K38 x2 x3 x4 x5 x6 x7 s_5) ∧ (¬ ((gsA s_5 70 (x_5 : Int32).toNatClampNeg) ≤ 0) → w249_99 c d Post K38 x2 x3 x4 x5 x6 x7 0 s_5))))))))
theorem ok249_60 (c : gx) (d : Nat) (Post : Option Value → gs → Prop) (K38 : Int32 → Int32 → Int32 → Int32 → Int32 → Int32 → gs → Prop)  (hK38 : ∀ (x2 : Int32) (x3 : Int32) (x4 : Int32) (x5 : Int32) (x6 : Int32) (x7 : Int32) (s : gs), K38 x2 x3 x4 x5 x6 x7 s → tV c d 249 38 [some (.ref 48), none, some (.int x2), some (.int x3), some (.int x4), some (.int x5), some (.int x6), some (.int x7), none, none] [] s Post) (x2 : Int32) (x3 : Int32) (x4 : Int32) (x5 : Int32) (x6 : Int32) (x7 : Int32) (xs0 : Int32) (s : gs) (w : w249_60 c d Post K38 x2 x3 x4 x5 x6 x7 xs0 s) : tV c d 249 60 [some (.ref 48), none, some (.int x2), some (.int x3), some (.int x4), some (.int x5), some (.int x6), some (.int x7), none, none] [.int xs0] s Post := by
  intro h hR
  have hk : ∀ pc i, gm_find gk_249 pc = some i → gm_code (gt_T c.1 c.2.1 c.2.2.1) 249 pc = some i := fun _ _ z => z
  unfold w249_60 at w
  unfold gV
  refine gw_pst hk 3 (st' := (65, [some (.ref 48), none, some (.int x2), some (.int x3), some (.int x4), some (.int x5), some (.int x6), some (.int x7), some (.int xs0), none], [.int x2, .int xs0], h)) rfl ?_
  refine gw_br (c := x2 < xs0) (a := (98, [some (.ref 48), none, some (.int x2), some (.int x3), some (.int x4), some (.int x5), some (.int x6), some (.int x7), some (.int xs0), none], [], h)) (b := (68, [some (.ref 48), none, some (.int x2), some (.int x3), some (.int x4), some (.int x5), some (.int x6), some (.int x7), some (.int xs0), none], [], h)) (hk _ _ rfl) rfl ⟨fun z1 => ?_, fun z1 => ?_⟩
  · replace w := w.1 z1
    refine gw_le (L' := [some (.ref 48), none, some (.int x2), some (.int x3), some (.int x4), some (.int x5), some (.int x6), some (.int x7), none, none]) (gm_le_k _ (gm_le_k _ (gm_le_k _ (gm_le_k _ (gm_le_k _ (gm_le_k _ (gm_le_k _ (gm_le_k _ (gm_le_n _ (gm_le_k _ gm_le_nil)))))))))) ?_
    exact ok249_98 c d Post K38 hK38 _ _ _ _ _ _ _ w _ hR
  · replace w := w.2 z1
    refine gw_pst hk 3 (st' := (72, [some (.ref 48), none, some (.int x2), some (.int x3), some (.int x4), some (.int x5), some (.int x6), some (.int x7), some (.int xs0), none], [.int 0, .int x7, .ref 48], h)) rfl ?_
    obtain ⟨fs2, e2⟩ := RL_o hR (r := 48) (ci := 10) rfl
    refine gw_call (jj := 246) (As := [.ref 48, .int x7, .int 0]) (rest := []) (hk _ _ rfl) (fun _ => rfl) rfl rfl (Nat.le_of_ble_eq_true rfl) (gm_rcv_v rfl e2 rfl) ?_
    refine ge_imp (w h hR) (fun v2 h w => ?_)
    obtain ⟨s_2, hR, x_2, rfl, w⟩ := w
    show gw (gt_T c.1 c.2.1 c.2.2.1) c.2.2.2 d 249 (75, [some (.ref 48), none, some (.int x2), some (.int x3), some (.int x4), some (.int x5), some (.int x6), some (.int x7), some (.int xs0), none], [.int x_2], h) _
    refine gw_br (c := x_2 = 0) (a := (98, [some (.ref 48), none, some (.int x2), some (.int x3), some (.int x4), some (.int x5), some (.int x6), some (.int x7), some (.int xs0), none], [], h)) (b := (78, [some (.ref 48), none, some (.int x2), some (.int x3), some (.int x4), some (.int x5), some (.int x6), some (.int x7), some (.int xs0), none], [], h)) (hk _ _ rfl) rfl ⟨fun z3 => ?_, fun z3 => ?_⟩
    · replace w := w.1 z3
      refine gw_le (L' := [some (.ref 48), none, some (.int x2), some (.int x3), some (.int x4), some (.int x5), some (.int x6), some (.int x7), none, none]) (gm_le_k _ (gm_le_k _ (gm_le_k _ (gm_le_k _ (gm_le_k _ (gm_le_k _ (gm_le_k _ (gm_le_k _ (gm_le_n _ (gm_le_k _ gm_le_nil)))))))))) ?_
      exact ok249_98 c d Post K38 hK38 _ _ _ _ _ _ _ w _ hR
    · replace w := w.2 z3
      refine gw_pst hk 1 (st' := (79, [some (.ref 48), none, some (.int x2), some (.int x3), some (.int x4), some (.int x5), some (.int x6), some (.int x7), some (.int xs0), none], [.ref 48], h)) rfl ?_
      refine gw_gf (hk _ _ rfl) (RL_fR (n := 70) hR rfl) ?_
      refine gw_pst hk 3 (st' := (87, [some (.ref 48), none, some (.int x2), some (.int x3), some (.int x4), some (.int x5), some (.int x6), some (.int x7), some (.int xs0), none], [.int xs0, .int 0, .int x7, .ref 70], h)) rfl ?_
      refine gw_call (jj := 244) (As := [.int x7, .int 0, .int xs0]) (rest := [.ref 70]) (hk _ _ rfl) (fun _ => rfl) rfl rfl (Nat.le_of_ble_eq_true rfl) rfl ?_
      refine ge_imp (w h hR) (fun v5 h w => ?_)
      obtain ⟨s_5, hR, x_5, rfl, w⟩ := w
      show gw (gt_T c.1 c.2.1 c.2.2.1) c.2.2.2 d 249 (90, [some (.ref 48), none, some (.int x2), some (.int x3), some (.int x4), some (.int x5), some (.int x6), some (.int x7), some (.int xs0), none], [.int x_5, .ref 70], h) _
      obtain ⟨b6, w⟩ := w
      refine gw_ald (hk _ _ rfl) (Or.inl ⟨rfl, rfl⟩) (RL_a (t := 0) (n := 168) hR rfl (by decide)) b6 ?_
      refine gw_br (c := (gsA s_5 70 (x_5 : Int32).toNatClampNeg) ≤ 0) (a := (98, [some (.ref 48), none, some (.int x2), some (.int x3), some (.int x4), some (.int x5), some (.int x6), some (.int x7), some (.int xs0), none], [], h)) (b := (94, [some (.ref 48), none, some (.int x2), some (.int x3), some (.int x4), some (.int x5), some (.int x6), some (.int x7), some (.int xs0), none], [], h)) (hk _ _ rfl) rfl ⟨fun z7 => ?_, fun z7 => ?_⟩
      · replace w := w.1 z7
        refine gw_le (L' := [some (.ref 48), none, some (.int x2), some (.int x3), some (.int x4), some (.int x5), some (.int x6), some (.int x7), none, none]) (gm_le_k _ (gm_le_k _ (gm_le_k _ (gm_le_k _ (gm_le_k _ (gm_le_k _ (gm_le_k _ (gm_le_k _ (gm_le_n _ (gm_le_k _ gm_le_nil)))))))))) ?_
        exact ok249_98 c d Post K38 hK38 _ _ _ _ _ _ _ w _ hR
      · replace w := w.2 z7
        refine gw_pst hk 2 (st' := (99, [some (.ref 48), none, some (.int x2), some (.int x3), some (.int x4), some (.int x5), some (.int x6), some (.int x7), some (.int xs0), none], [.int 0], h)) rfl ?_
        refine gw_le (L' := [some (.ref 48), none, some (.int x2), some (.int x3), some (.int x4), some (.int x5), some (.int x6), some (.int x7), none, none]) (gm_le_k _ (gm_le_k _ (gm_le_k _ (gm_le_k _ (gm_le_k _ (gm_le_k _ (gm_le_k _ (gm_le_k _ (gm_le_n _ (gm_le_k _ gm_le_nil)))))))))) ?_
        exact ok249_99 c d Post K38 hK38 _ _ _ _ _ _ _ _ w _ hR
def w249_157 (c : gx) (d : Nat) (Post : Option Value → gs → Prop) (x3 : Int32) (xs1 : Int64) (s : gs) : Prop :=
  tE c d 157 [.ref 48, .long xs1] s (fun v1 s_1 => v1 = none ∧ Post (some (.int x3)) s_1)
theorem ok249_157 (c : gx) (d : Nat) (Post : Option Value → gs → Prop)  (x3 : Int32) (xs1 : Int64) (s : gs) (w : w249_157 c d Post x3 xs1 s) : tV c d 249 157 [none, none, none, some (.int x3), none, none, none, none, none, none] [.long xs1, .ref 48] s Post := by
  intro h hR
  have hk : ∀ pc i, gm_find gk_249 pc = some i → gm_code (gt_T c.1 c.2.1 c.2.2.1) 249 pc = some i := fun _ _ z => z
  unfold w249_157 at w
  unfold gV
  obtain ⟨fs1, e1⟩ := RL_o hR (r := 48) (ci := 10) rfl
  refine gw_call (jj := 157) (As := [.ref 48, .long xs1]) (rest := []) (hk _ _ rfl) (fun _ => rfl) rfl rfl (Nat.le_of_ble_eq_true rfl) (gm_rcv_v rfl e1 rfl) ?_
  refine ge_imp (w h hR) (fun v1 h w => ?_)
  obtain ⟨s_1, hR, rfl, w⟩ := w
  show gw (gt_T c.1 c.2.1 c.2.2.1) c.2.2.2 d 249 (160, [none, none, none, some (.int x3), none, none, none, none, none, none], [], h) _
  refine gw_pst hk 1 (st' := (161, [none, none, none, some (.int x3), none, none, none, none, none, none], [.int x3], h)) rfl ?_
  exact gw_ret (hk _ _ rfl) rfl ⟨_, hR, w⟩
def w249_138 (c : gx) (d : Nat) (Post : Option Value → gs → Prop) (x3 : Int32) (x4 : Int32) (s : gs) : Prop :=
  ∀ s_1 : gs, s_1 = gs_V s 48 12 0 → ((x3 = 0 → w249_157 c d Post x3 (-1) s_1) ∧ (¬ (x3 = 0) → w249_157 c d Post x3 ((x4 : Int32).toInt64) s_1))
theorem ok249_138 (c : gx) (d : Nat) (Post : Option Value → gs → Prop)  (x3 : Int32) (x4 : Int32) (s : gs) (w : w249_138 c d Post x3 x4 s) : tV c d 249 138 [some (.ref 48), none, none, some (.int x3), some (.int x4), none, none, none, none, none] [] s Post := by
  intro h hR
  have hk : ∀ pc i, gm_find gk_249 pc = some i → gm_code (gt_T c.1 c.2.1 c.2.2.1) 249 pc = some i := fun _ _ z => z
  unfold w249_138 at w
  unfold gV
  refine gw_pst hk 2 (st' := (140, [some (.ref 48), none, none, some (.int x3), some (.int x4), none, none, none, none, none], [.int 0, .ref 48], h)) rfl ?_
  obtain ⟨fs1, e1⟩ := RL_o hR (r := 48) (ci := 10) rfl
  obtain ⟨l1, hR1⟩ := RL_pI (k := 12) (x := 0) hR rfl e1
  refine gw_pf (hk _ _ rfl) e1 l1 rfl ?_
  generalize gm_put h _ _ = h at hR1 ⊢
  obtain ⟨s_1, es1⟩ : ∃ z, z = gs_V s 48 12 0 := ⟨_, rfl⟩
  rw [← es1] at hR1
  replace w := w s_1 es1
  replace hR := hR1
  refine gw_pst hk 2 (st' := (145, [some (.ref 48), none, none, some (.int x3), some (.int x4), none, none, none, none, none], [.int x3, .ref 48], h)) rfl ?_
  refine gw_br (c := x3 = 0) (a := (148, [some (.ref 48), none, none, some (.int x3), some (.int x4), none, none, none, none, none], [.ref 48], h)) (b := (154, [some (.ref 48), none, none, some (.int x3), some (.int x4), none, none, none, none, none], [.ref 48], h)) (hk _ _ rfl) rfl ⟨fun z2 => ?_, fun z2 => ?_⟩
  · replace w := w.1 z2
    refine gw_pst hk 2 (st' := (157, [some (.ref 48), none, none, some (.int x3), some (.int x4), none, none, none, none, none], [.long (-1), .ref 48], h)) rfl ?_
    refine gw_le (L' := [none, none, none, some (.int x3), none, none, none, none, none, none]) (gm_le_n _ (gm_le_k _ (gm_le_k _ (gm_le_k _ (gm_le_n _ (gm_le_k _ (gm_le_k _ (gm_le_k _ (gm_le_k _ (gm_le_k _ gm_le_nil)))))))))) ?_
    exact ok249_157 c d Post _ _ _ w _ hR
  · replace w := w.2 z2
    refine gw_pst hk 2 (st' := (157, [some (.ref 48), none, none, some (.int x3), some (.int x4), none, none, none, none, none], [.long ((x4 : Int32).toInt64), .ref 48], h)) rfl ?_
    refine gw_le (L' := [none, none, none, some (.int x3), none, none, none, none, none, none]) (gm_le_n _ (gm_le_k _ (gm_le_k _ (gm_le_k _ (gm_le_n _ (gm_le_k _ (gm_le_k _ (gm_le_k _ (gm_le_k _ (gm_le_k _ gm_le_nil)))))))))) ?_
    exact ok249_157 c d Post _ _ _ w _ hR
def wb249_38 (c : gx) (d : Nat) (Post : Option Value → gs → Prop) (K38 : Int32 → Int32 → Int32 → Int32 → Int32 → Int32 → gs → Prop) (x2 : Int32) (x3 : Int32) (x4 : Int32) (x5 : Int32) (x6 : Int32) (x7 : Int32) (s : gs) : Prop :=
  ((x7 < 0 → w249_138 c d Post x3 x4 s) ∧ (¬ (x7 < 0) → ((x3 ≤ 0 → w249_138 c d Post x3 x4 s) ∧ (¬ (x3 ≤ 0) → ((x5 = 0 → w249_60 c d Post K38 x2 x3 x4 x5 x6 x7 (x6 + 1) s) ∧ (¬ (x5 = 0) → w249_60 c d Post K38 x2 x3 x4 x5 x6 x7 1 s))))))
theorem okb249_38 (c : gx) (d : Nat) (Post : Option Value → gs → Prop) (K38 : Int32 → Int32 → Int32 → Int32 → Int32 → Int32 → gs → Prop)  (hK38 : ∀ (x2 : Int32) (x3 : Int32) (x4 : Int32) (x5 : Int32) (x6 : Int32) (x7 : Int32) (s : gs), K38 x2 x3 x4 x5 x6 x7 s → tV c d 249 38 [some (.ref 48), none, some (.int x2), some (.int x3), some (.int x4), some (.int x5), some (.int x6), some (.int x7), none, none] [] s Post) (x2 : Int32) (x3 : Int32) (x4 : Int32) (x5 : Int32) (x6 : Int32) (x7 : Int32) (s : gs) (w : wb249_38 c d Post K38 x2 x3 x4 x5 x6 x7 s) : tV c d 249 38 [some (.ref 48), none, some (.int x2), some (.int x3), some (.int x4), some (.int x5), some (.int x6), some (.int x7), none, none] [] s Post := by
  intro h hR
  have hk : ∀ pc i, gm_find gk_249 pc = some i → gm_code (gt_T c.1 c.2.1 c.2.2.1) 249 pc = some i := fun _ _ z => z
  unfold wb249_38 at w
  unfold gV
  refine gw_pst hk 1 (st' := (40, [some (.ref 48), none, some (.int x2), some (.int x3), some (.int x4), some (.int x5), some (.int x6), some (.int x7), none, none], [.int x7], h)) rfl ?_
  refine gw_br (c := x7 < 0) (a := (138, [some (.ref 48), none, some (.int x2), some (.int x3), some (.int x4), some (.int x5), some (.int x6), some (.int x7), none, none], [], h)) (b := (43, [some (.ref 48), none, some (.int x2), some (.int x3), some (.int x4), some (.int x5), some (.int x6), some (.int x7), none, none], [], h)) (hk _ _ rfl) rfl ⟨fun z1 => ?_, fun z1 => ?_⟩
  · replace w := w.1 z1
    refine gw_le (L' := [some (.ref 48), none, none, some (.int x3), some (.int x4), none, none, none, none, none]) (gm_le_k _ (gm_le_k _ (gm_le_n _ (gm_le_k _ (gm_le_k _ (gm_le_n _ (gm_le_n _ (gm_le_n _ (gm_le_k _ (gm_le_k _ gm_le_nil)))))))))) ?_
    exact ok249_138 c d Post _ _ _ w _ hR
  · replace w := w.2 z1
    refine gw_pst hk 1 (st' := (44, [some (.ref 48), none, some (.int x2), some (.int x3), some (.int x4), some (.int x5), some (.int x6), some (.int x7), none, none], [.int x3], h)) rfl ?_
    refine gw_br (c := x3 ≤ 0) (a := (138, [some (.ref 48), none, some (.int x2), some (.int x3), some (.int x4), some (.int x5), some (.int x6), some (.int x7), none, none], [], h)) (b := (47, [some (.ref 48), none, some (.int x2), some (.int x3), some (.int x4), some (.int x5), some (.int x6), some (.int x7), none, none], [], h)) (hk _ _ rfl) rfl ⟨fun z2 => ?_, fun z2 => ?_⟩
    · replace w := w.1 z2
      refine gw_le (L' := [some (.ref 48), none, none, some (.int x3), some (.int x4), none, none, none, none, none]) (gm_le_k _ (gm_le_k _ (gm_le_n _ (gm_le_k _ (gm_le_k _ (gm_le_n _ (gm_le_n _ (gm_le_n _ (gm_le_k _ (gm_le_k _ gm_le_nil)))))))))) ?_
      exact ok249_138 c d Post _ _ _ w _ hR
    · replace w := w.2 z2
      refine gw_pst hk 1 (st' := (49, [some (.ref 48), none, some (.int x2), some (.int x3), some (.int x4), some (.int x5), some (.int x6), some (.int x7), none, none], [.int x5], h)) rfl ?_
      refine gw_br (c := x5 = 0) (a := (52, [some (.ref 48), none, some (.int x2), some (.int x3), some (.int x4), some (.int x5), some (.int x6), some (.int x7), none, none], [], h)) (b := (59, [some (.ref 48), none, some (.int x2), some (.int x3), some (.int x4), some (.int x5), some (.int x6), some (.int x7), none, none], [], h)) (hk _ _ rfl) rfl ⟨fun z3 => ?_, fun z3 => ?_⟩
      · replace w := w.1 z3
        refine gw_pst hk 4 (st' := (60, [some (.ref 48), none, some (.int x2), some (.int x3), some (.int x4), some (.int x5), some (.int x6), some (.int x7), none, none], [.int (x6 + 1)], h)) rfl ?_
        exact ok249_60 c d Post K38 hK38 _ _ _ _ _ _ _ _ w _ hR
      · replace w := w.2 z3
        refine gw_pst hk 1 (st' := (60, [some (.ref 48), none, some (.int x2), some (.int x3), some (.int x4), some (.int x5), some (.int x6), some (.int x7), none, none], [.int 1], h)) rfl ?_
        exact ok249_60 c d Post K38 hK38 _ _ _ _ _ _ _ _ w _ hR
def wl249_38 (c : gx) (d : Nat) (Post : Option Value → gs → Prop) : Nat → Int32 → Int32 → Int32 → Int32 → Int32 → Int32 → gs → Prop
  | 0 => fun _ _ _ _ _ _ _ => False
  | n + 1 => wb249_38 c d Post (wl249_38 c d Post n)
theorem okl249_38 (c : gx) (d : Nat) (Post : Option Value → gs → Prop) : ∀ (n : Nat) (x2 : Int32) (x3 : Int32) (x4 : Int32) (x5 : Int32) (x6 : Int32) (x7 : Int32) (s : gs), wl249_38 c d Post n x2 x3 x4 x5 x6 x7 s → tV c d 249 38 [some (.ref 48), none, some (.int x2), some (.int x3), some (.int x4), some (.int x5), some (.int x6), some (.int x7), none, none] [] s Post
  | 0, _, _, _, _, _, _, _, w => w.elim
  | n + 1, x2, x3, x4, x5, x6, x7, s, w => okb249_38 c d Post (wl249_38 c d Post n) (okl249_38 c d Post n) x2 x3 x4 x5 x6 x7 s w
/-- CommandByTurnsModel.was(II)I -/
def wm249 (c : gx) (d : Nat) (Post : Option Value → gs → Prop) (x1 : Int32) (x2 : Int32) (s : gs) : Prop :=
  ∀ s_1 : gs, s_1 = gs_V s 48 13 0 → tE c d 248 [.int x1, .int x2] s_1 (fun v2 s_2 => ∃ x_2 : Int32, v2 = some (.int x_2) ∧ ((x_2 = 0 → Post (some (.int (-1))) s_2) ∧ (¬ (x_2 = 0) → tE c d 247 [.ref 48, .int x1, .int x2, .int (-1), .int 0] s_2 (fun v4 s_4 => ∃ x_4 : Int32, v4 = some (.int x_4) ∧ ∃ n, wl249_38 c d Post n x2 x_4 0 (-1) 0 (x1 - 1) s_4))))
theorem okm249 (c : gx) (d : Nat) (Post : Option Value → gs → Prop) (x1 : Int32) (x2 : Int32) (s : gs) (w : wm249 c d Post x1 x2 s) : tE c (d + 1) 249 [.ref 48, .int x1, .int x2] s Post := by
  intro h hR
  have hk : ∀ pc i, gm_find gk_249 pc = some i → gm_code (gt_T c.1 c.2.1 c.2.2.1) 249 pc = some i := fun _ _ z => z
  unfold wm249 at w
  refine ge_of (by decide) (Nat.le_of_ble_eq_true rfl) ?_
  show gw (gt_T c.1 c.2.1 c.2.2.1) c.2.2.2 d 249 (0, [some (.ref 48), some (.int x1), some (.int x2), none, none, none, none, none, none, none], [], h) _
  refine gw_pst hk 2 (st' := (2, [some (.ref 48), some (.int x1), some (.int x2), none, none, none, none, none, none, none], [.int 0, .ref 48], h)) rfl ?_
  obtain ⟨fs1, e1⟩ := RL_o hR (r := 48) (ci := 10) rfl
  obtain ⟨l1, hR1⟩ := RL_pI (k := 13) (x := 0) hR rfl e1
  refine gw_pf (hk _ _ rfl) e1 l1 rfl ?_
  generalize gm_put h _ _ = h at hR1 ⊢
  obtain ⟨s_1, es1⟩ : ∃ z, z = gs_V s 48 13 0 := ⟨_, rfl⟩
  rw [← es1] at hR1
  replace w := w s_1 es1
  replace hR := hR1
  refine gw_pst hk 2 (st' := (7, [some (.ref 48), some (.int x1), some (.int x2), none, none, none, none, none, none, none], [.int x2, .int x1], h)) rfl ?_
  refine gw_call (jj := 248) (As := [.int x1, .int x2]) (rest := []) (hk _ _ rfl) (fun _ => rfl) rfl rfl (Nat.le_of_ble_eq_true rfl) rfl ?_
  refine ge_imp (w h hR) (fun v2 h w => ?_)
  obtain ⟨s_2, hR, x_2, rfl, w⟩ := w
  show gw (gt_T c.1 c.2.1 c.2.2.1) c.2.2.2 d 249 (10, [some (.ref 48), some (.int x1), some (.int x2), none, none, none, none, none, none, none], [.int x_2], h) _
  refine gw_br (c := x_2 = 0) (a := (13, [some (.ref 48), some (.int x1), some (.int x2), none, none, none, none, none, none, none], [], h)) (b := (15, [some (.ref 48), some (.int x1), some (.int x2), none, none, none, none, none, none, none], [], h)) (hk _ _ rfl) rfl ⟨fun z3 => ?_, fun z3 => ?_⟩
  · replace w := w.1 z3
    refine gw_pst hk 1 (st' := (14, [some (.ref 48), some (.int x1), some (.int x2), none, none, none, none, none, none, none], [.int (-1)], h)) rfl ?_
    exact gw_ret (hk _ _ rfl) rfl ⟨_, hR, w⟩
  · replace w := w.2 z3
    refine gw_pst hk 5 (st' := (20, [some (.ref 48), some (.int x1), some (.int x2), none, none, none, none, none, none, none], [.int 0, .int (-1), .int x2, .int x1, .ref 48], h)) rfl ?_
    obtain ⟨fs4, e4⟩ := RL_o hR (r := 48) (ci := 10) rfl
    refine gw_call (jj := 247) (As := [.ref 48, .int x1, .int x2, .int (-1), .int 0]) (rest := []) (hk _ _ rfl) (fun _ => rfl) rfl rfl (Nat.le_of_ble_eq_true rfl) (gm_rcv_v rfl e4 rfl) ?_
    refine ge_imp (w h hR) (fun v4 h w => ?_)
    obtain ⟨s_4, hR, x_4, rfl, w⟩ := w
    show gw (gt_T c.1 c.2.1 c.2.2.1) c.2.2.2 d 249 (23, [some (.ref 48), some (.int x1), some (.int x2), none, none, none, none, none, none, none], [.int x_4], h) _
    refine gw_pst hk 11 (st' := (38, [some (.ref 48), some (.int x1), some (.int x2), some (.int x_4), some (.int 0), some (.int (-1)), some (.int 0), some (.int (x1 - 1)), none, none], [], h)) rfl ?_
    refine gw_le (L' := [some (.ref 48), none, some (.int x2), some (.int x_4), some (.int 0), some (.int (-1)), some (.int 0), some (.int (x1 - 1)), none, none]) (gm_le_k _ (gm_le_n _ (gm_le_k _ (gm_le_k _ (gm_le_k _ (gm_le_k _ (gm_le_k _ (gm_le_k _ (gm_le_k _ (gm_le_k _ gm_le_nil)))))))))) ?_
    obtain ⟨n, w⟩ := w
    exact okl249_38 c d Post n _ _ _ _ _ _ _ w _ hR
def w250_97 (c : gx) (d : Nat) (Post : Option Value → gs → Prop) (K23 : Int32 → Int32 → Int32 → Int32 → Int32 → gs → Prop) (x1 : Int32) (x2 : Int32) (x3 : Int32) (x4 : Int32) (x5 : Int32) (s : gs) : Prop :=
  K23 x1 x2 x3 x4 (x5 + 1) s
theorem ok250_97 (c : gx) (d : Nat) (Post : Option Value → gs → Prop) (K23 : Int32 → Int32 → Int32 → Int32 → Int32 → gs → Prop)  (hK23 : ∀ (x1 : Int32) (x2 : Int32) (x3 : Int32) (x4 : Int32) (x5 : Int32) (s : gs), K23 x1 x2 x3 x4 x5 s → tV c d 250 23 [some (.ref 48), some (.int x1), some (.int x2), some (.int x3), some (.int x4), some (.int x5), none, none] [] s Post) (x1 : Int32) (x2 : Int32) (x3 : Int32) (x4 : Int32) (x5 : Int32) (s : gs) (w : w250_97 c d Post K23 x1 x2 x3 x4 x5 s) : tV c d 250 97 [some (.ref 48), some (.int x1), some (.int x2), some (.int x3), some (.int x4), some (.int x5), none, none] [] s Post := by
  intro h hR
  have hk : ∀ pc i, gm_find gk_250 pc = some i → gm_code (gt_T c.1 c.2.1 c.2.2.1) 250 pc = some i := fun _ _ z => z
  unfold w250_97 at w
  unfold gV
  refine gw_pst hk 2 (st' := (23, [some (.ref 48), some (.int x1), some (.int x2), some (.int x3), some (.int x4), some (.int (x5 + 1)), none, none], [], h)) rfl ?_
  exact hK23 _ _ _ _ _ _ w _ hR
def w250_94 (c : gx) (d : Nat) (Post : Option Value → gs → Prop) (K23 : Int32 → Int32 → Int32 → Int32 → Int32 → gs → Prop) (x1 : Int32) (x2 : Int32) (x3 : Int32) (x5 : Int32) (xs0 : Int32) (xs1 : Int32) (s : gs) : Prop :=
  w250_97 c d Post K23 x1 x2 x3 (xs0 ||| xs1) x5 s
theorem ok250_94 (c : gx) (d : Nat) (Post : Option Value → gs → Prop) (K23 : Int32 → Int32 → Int32 → Int32 → Int32 → gs → Prop)  (hK23 : ∀ (x1 : Int32) (x2 : Int32) (x3 : Int32) (x4 : Int32) (x5 : Int32) (s : gs), K23 x1 x2 x3 x4 x5 s → tV c d 250 23 [some (.ref 48), some (.int x1), some (.int x2), some (.int x3), some (.int x4), some (.int x5), none, none] [] s Post) (x1 : Int32) (x2 : Int32) (x3 : Int32) (x5 : Int32) (xs0 : Int32) (xs1 : Int32) (s : gs) (w : w250_94 c d Post K23 x1 x2 x3 x5 xs0 xs1 s) : tV c d 250 94 [some (.ref 48), some (.int x1), some (.int x2), some (.int x3), none, some (.int x5), none, none] [.int xs1, .int xs0] s Post := by
  intro h hR
  have hk : ∀ pc i, gm_find gk_250 pc = some i → gm_code (gt_T c.1 c.2.1 c.2.2.1) 250 pc = some i := fun _ _ z => z
  unfold w250_94 at w
  unfold gV
  refine gw_pst hk 2 (st' := (97, [some (.ref 48), some (.int x1), some (.int x2), some (.int x3), some (.int (xs0 ||| xs1)), some (.int x5), none, none], [], h)) rfl ?_
  exact ok250_97 c d Post K23 hK23 _ _ _ _ _ _ w _ hR
def w250_72 (c : gx) (d : Nat) (Post : Option Value → gs → Prop) (K23 : Int32 → Int32 → Int32 → Int32 → Int32 → gs → Prop) (x1 : Int32) (x2 : Int32) (x3 : Int32) (x4 : Int32) (x5 : Int32) (x6 : Int32) (s : gs) : Prop :=
  ((x6 = 0 → w250_94 c d Post K23 x1 x2 (x3 ||| (1 <<< (x5 &&& 31))) x5 x4 (1 <<< (x5 &&& 31)) s) ∧ (¬ (x6 = 0) → w250_94 c d Post K23 x1 x2 (x3 ||| (1 <<< (x5 &&& 31))) x5 x4 0 s))
theorem ok250_72 (c : gx) (d : Nat) (Post : Option Value → gs → Prop) (K23 : Int32 → Int32 → Int32 → Int32 → Int32 → gs → Prop)  (hK23 : ∀ (x1 : Int32) (x2 : Int32) (x3 : Int32) (x4 : Int32) (x5 : Int32) (s : gs), K23 x1 x2 x3 x4 x5 s → tV c d 250 23 [some (.ref 48), some (.int x1), some (.int x2), some (.int x3), some (.int x4), some (.int x5), none, none] [] s Post) (x1 : Int32) (x2 : Int32) (x3 : Int32) (x4 : Int32) (x5 : Int32) (x6 : Int32) (s : gs) (w : w250_72 c d Post K23 x1 x2 x3 x4 x5 x6 s) : tV c d 250 72 [some (.ref 48), some (.int x1), some (.int x2), some (.int x3), some (.int x4), some (.int x5), some (.int x6), none] [] s Post := by
  intro h hR
  have hk : ∀ pc i, gm_find gk_250 pc = some i → gm_code (gt_T c.1 c.2.1 c.2.2.1) 250 pc = some i := fun _ _ z => z
  unfold w250_72 at w
  unfold gV
  refine gw_pst hk 8 (st' := (83, [some (.ref 48), some (.int x1), some (.int x2), some (.int (x3 ||| (1 <<< (x5 &&& 31)))), some (.int x4), some (.int x5), some (.int x6), none], [.int x6, .int x4], h)) rfl ?_
  refine gw_br (c := x6 = 0) (a := (86, [some (.ref 48), some (.int x1), some (.int x2), some (.int (x3 ||| (1 <<< (x5 &&& 31)))), some (.int x4), some (.int x5), some (.int x6), none], [.int x4], h)) (b := (93, [some (.ref 48), some (.int x1), some (.int x2), some (.int (x3 ||| (1 <<< (x5 &&& 31)))), some (.int x4), some (.int x5), some (.int x6), none], [.int x4], h)) (hk _ _ rfl) rfl ⟨fun z1 => ?_, fun z1 => ?_⟩
  · replace w := w.1 z1
    refine gw_pst hk 4 (st' := (94, [some (.ref 48), some (.int x1), some (.int x2), some (.int (x3 ||| (1 <<< (x5 &&& 31)))), some (.int x4), some (.int x5), some (.int x6), none], [.int (1 <<< (x5 &&& 31)), .int x4], h)) rfl ?_
    refine gw_le (L' := [some (.ref 48), some (.int x1), some (.int x2), some (.int (x3 ||| (1 <<< (x5 &&& 31)))), none, some (.int x5), none, none]) (gm_le_k _ (gm_le_k _ (gm_le_k _ (gm_le_k _ (gm_le_n _ (gm_le_k _ (gm_le_n _ (gm_le_k _ gm_le_nil)))))))) ?_
    exact ok250_94 c d Post K23 hK23 _ _ _ _ _ _ _ w _ hR
  · replace w := w.2 z1
    refine gw_pst hk 1 (st' := (94, [some (.ref 48), some (.int x1), some (.int x2), some (.int (x3 ||| (1 <<< (x5 &&& 31)))), some (.int x4), some (.int x5), some (.int x6), none], [.int 0, .int x4], h)) rfl ?_
    refine gw_le (L' := [some (.ref 48), some (.int x1), some (.int x2), some (.int (x3 ||| (1 <<< (x5 &&& 31)))), none, some (.int x5), none, none]) (gm_le_k _ (gm_le_k _ (gm_le_k _ (gm_le_k _ (gm_le_n _ (gm_le_k _ (gm_le_n _ (gm_le_k _ gm_le_nil)))))))) ?_
    exact ok250_94 c d Post K23 hK23 _ _ _ _ _ _ _ w _ hR
def wb250_23 (c : gx) (d : Nat) (Post : Option Value → gs → Prop) (K23 : Int32 → Int32 → Int32 → Int32 → Int32 → gs → Prop) (x1 : Int32) (x2 : Int32) (x3 : Int32) (x4 : Int32) (x5 : Int32) (s : gs) : Prop :=
  ((x1 ≤ x5 → ∀ s_2 : gs, s_2 = gs_V s 48 12 0 → tE c d 157 [.ref 48, .long ((x4 : Int32).toInt64)] s_2 (fun v3 s_3 => v3 = none ∧ Post (some (.int x3)) s_3)) ∧ (¬ (x1 ≤ x5) → tE c d 247 [.ref 48, .int x1, .int x2, .int x5, .int 0] s (fun v4 s_4 => ∃ x_4 : Int32, v4 = some (.int x_4) ∧ tE c d 247 [.ref 48, .int x1, .int x2, .int x5, .int 1] s_4 (fun v5 s_5 => ∃ x_5 : Int32, v5 = some (.int x_5) ∧ (((x_4 + x_5) = 0 → w250_97 c d Post K23 x1 x2 x3 x4 x5 s_5) ∧ (¬ ((x_4 + x_5) = 0) → ((x_4 ≤ 0 → w250_72 c d Post K23 x1 x2 x3 x4 x5 x_4 s_5) ∧ (¬ (x_4 ≤ 0) → ((x_5 ≤ 0 → w250_72 c d Post K23 x1 x2 x3 x4 x5 x_4 s_5) ∧ (¬ (x_5 ≤ 0) → w250_97 c d Post K23 x1 x2 x3 x4 x5 s_5))))))))))
theorem okb250_23 (c : gx) (d : Nat) (Post : Option Value → gs → Prop) (K23 : Int32 → Int32 → Int32 → Int32 → Int32 → gs → Prop)  (hK23 : ∀ (x1 : Int32) (x2 : Int32) (x3 : Int32) (x4 : Int32) (x5 : Int32) (s : gs), K23 x1 x2 x3 x4 x5 s → tV c d 250 23 [some (.ref 48), some (.int x1), some (.int x2), some (.int x3), some (.int x4), some (.int x5), none, none] [] s Post) (x1 : Int32) (x2 : Int32) (x3 : Int32) (x4 : Int32) (x5 : Int32) (s : gs) (w : wb250_23 c d Post K23 x1 x2 x3 x4 x5 s) : tV c d 250 23 [some (.ref 48), some (.int x1), some (.int x2), some (.int x3), some (.int x4), some (.int x5), none, none] [] s Post := by
  intro h hR
  have hk : ∀ pc i, gm_find gk_250 pc = some i → gm_code (gt_T c.1 c.2.1 c.2.2.1) 250 pc = some i := fun _ _ z => z
  unfold wb250_23 at w
  unfold gV
  refine gw_pst hk 2 (st' := (26, [some (.ref 48), some (.int x1), some (.int x2), some (.int x3), some (.int x4), some (.int x5), none, none], [.int x1, .int x5], h)) rfl ?_
  refine gw_br (c := x1 ≤ x5) (a := (103, [some (.ref 48), some (.int x1), some (.int x2), some (.int x3), some (.int x4), some (.int x5), none, none], [], h)) (b := (29, [some (.ref 48), some (.int x1), some (.int x2), some (.int x3), some (.int x4), some (.int x5), none, none], [], h)) (hk _ _ rfl) rfl ⟨fun z1 => ?_, fun z1 => ?_⟩
  · replace w := w.1 z1
    refine gw_pst hk 2 (st' := (105, [some (.ref 48), some (.int x1), some (.int x2), some (.int x3), some (.int x4), some (.int x5), none, none], [.int 0, .ref 48], h)) rfl ?_
    obtain ⟨fs2, e2⟩ := RL_o hR (r := 48) (ci := 10) rfl
    obtain ⟨l2, hR2⟩ := RL_pI (k := 12) (x := 0) hR rfl e2
    refine gw_pf (hk _ _ rfl) e2 l2 rfl ?_
    generalize gm_put h _ _ = h at hR2 ⊢
    obtain ⟨s_2, es2⟩ : ∃ z, z = gs_V s 48 12 0 := ⟨_, rfl⟩
    rw [← es2] at hR2
    replace w := w s_2 es2
    replace hR := hR2
    refine gw_pst hk 3 (st' := (112, [some (.ref 48), some (.int x1), some (.int x2), some (.int x3), some (.int x4), some (.int x5), none, none], [.long ((x4 : Int32).toInt64), .ref 48], h)) rfl ?_
    obtain ⟨fs3, e3⟩ := RL_o hR (r := 48) (ci := 10) rfl
    refine gw_call (jj := 157) (As := [.ref 48, .long ((x4 : Int32).toInt64)]) (rest := []) (hk _ _ rfl) (fun _ => rfl) rfl rfl (Nat.le_of_ble_eq_true rfl) (gm_rcv_v rfl e3 rfl) ?_
    refine ge_imp (w h hR) (fun v3 h w => ?_)
    obtain ⟨s_3, hR, rfl, w⟩ := w
    show gw (gt_T c.1 c.2.1 c.2.2.1) c.2.2.2 d 250 (115, [some (.ref 48), some (.int x1), some (.int x2), some (.int x3), some (.int x4), some (.int x5), none, none], [], h) _
    refine gw_pst hk 1 (st' := (116, [some (.ref 48), some (.int x1), some (.int x2), some (.int x3), some (.int x4), some (.int x5), none, none], [.int x3], h)) rfl ?_
    exact gw_ret (hk _ _ rfl) rfl ⟨_, hR, w⟩
  · replace w := w.2 z1
    refine gw_pst hk 5 (st' := (35, [some (.ref 48), some (.int x1), some (.int x2), some (.int x3), some (.int x4), some (.int x5), none, none], [.int 0, .int x5, .int x2, .int x1, .ref 48], h)) rfl ?_
    obtain ⟨fs4, e4⟩ := RL_o hR (r := 48) (ci := 10) rfl
    refine gw_call (jj := 247) (As := [.ref 48, .int x1, .int x2, .int x5, .int 0]) (rest := []) (hk _ _ rfl) (fun _ => rfl) rfl rfl (Nat.le_of_ble_eq_true rfl) (gm_rcv_v rfl e4 rfl) ?_
    refine ge_imp (w h hR) (fun v4 h w => ?_)
    obtain ⟨s_4, hR, x_4, rfl, w⟩ := w
    show gw (gt_T c.1 c.2.1 c.2.2.1) c.2.2.2 d 250 (38, [some (.ref 48), some (.int x1), some (.int x2), some (.int x3), some (.int x4), some (.int x5), none, none], [.int x_4], h) _
    refine gw_pst hk 6 (st' := (46, [some (.ref 48), some (.int x1), some (.int x2), some (.int x3), some (.int x4), some (.int x5), some (.int x_4), none], [.int 1, .int x5, .int x2, .int x1, .ref 48], h)) rfl ?_
    obtain ⟨fs5, e5⟩ := RL_o hR (r := 48) (ci := 10) rfl
    refine gw_call (jj := 247) (As := [.ref 48, .int x1, .int x2, .int x5, .int 1]) (rest := []) (hk _ _ rfl) (fun _ => rfl) rfl rfl (Nat.le_of_ble_eq_true rfl) (gm_rcv_v rfl e5 rfl) ?_
    refine ge_imp (w h hR) (fun v5 h w => ?_)
    obtain ⟨s_5, hR, x_5, rfl, w⟩ := w
    show gw (gt_T c.1 c.2.1 c.2.2.1) c.2.2.2 d 250 (49, [some (.ref 48), some (.int x1), some (.int x2), some (.int x3), some (.int x4), some (.int x5), some (.int x_4), none], [.int x_5], h) _
    refine gw_pst hk 4 (st' := (56, [some (.ref 48), some (.int x1), some (.int x2), some (.int x3), some (.int x4), some (.int x5), some (.int x_4), some (.int x_5)], [.int (x_4 + x_5)], h)) rfl ?_
    refine gw_br (c := (x_4 + x_5) = 0) (a := (97, [some (.ref 48), some (.int x1), some (.int x2), some (.int x3), some (.int x4), some (.int x5), some (.int x_4), some (.int x_5)], [], h)) (b := (59, [some (.ref 48), some (.int x1), some (.int x2), some (.int x3), some (.int x4), some (.int x5), some (.int x_4), some (.int x_5)], [], h)) (hk _ _ rfl) rfl ⟨fun z6 => ?_, fun z6 => ?_⟩
    · replace w := w.1 z6
      refine gw_le (L' := [some (.ref 48), some (.int x1), some (.int x2), some (.int x3), some (.int x4), some (.int x5), none, none]) (gm_le_k _ (gm_le_k _ (gm_le_k _ (gm_le_k _ (gm_le_k _ (gm_le_k _ (gm_le_n _ (gm_le_n _ gm_le_nil)))))))) ?_
      exact ok250_97 c d Post K23 hK23 _ _ _ _ _ _ w _ hR
    · replace w := w.2 z6
      refine gw_pst hk 1 (st' := (61, [some (.ref 48), some (.int x1), some (.int x2), some (.int x3), some (.int x4), some (.int x5), some (.int x_4), some (.int x_5)], [.int x_4], h)) rfl ?_
      refine gw_br (c := x_4 ≤ 0) (a := (72, [some (.ref 48), some (.int x1), some (.int x2), some (.int x3), some (.int x4), some (.int x5), some (.int x_4), some (.int x_5)], [], h)) (b := (64, [some (.ref 48), some (.int x1), some (.int x2), some (.int x3), some (.int x4), some (.int x5), some (.int x_4), some (.int x_5)], [], h)) (hk _ _ rfl) rfl ⟨fun z7 => ?_, fun z7 => ?_⟩
      · replace w := w.1 z7
        refine gw_le (L' := [some (.ref 48), some (.int x1), some (.int x2), some (.int x3), some (.int x4), some (.int x5), some (.int x_4), none]) (gm_le_k _ (gm_le_k _ (gm_le_k _ (gm_le_k _ (gm_le_k _ (gm_le_k _ (gm_le_k _ (gm_le_n _ gm_le_nil)))))))) ?_
        exact ok250_72 c d Post K23 hK23 _ _ _ _ _ _ _ w _ hR
      · replace w := w.2 z7
        refine gw_pst hk 1 (st' := (66, [some (.ref 48), some (.int x1), some (.int x2), some (.int x3), some (.int x4), some (.int x5), some (.int x_4), some (.int x_5)], [.int x_5], h)) rfl ?_
        refine gw_br (c := x_5 ≤ 0) (a := (72, [some (.ref 48), some (.int x1), some (.int x2), some (.int x3), some (.int x4), some (.int x5), some (.int x_4), some (.int x_5)], [], h)) (b := (69, [some (.ref 48), some (.int x1), some (.int x2), some (.int x3), some (.int x4), some (.int x5), some (.int x_4), some (.int x_5)], [], h)) (hk _ _ rfl) rfl ⟨fun z8 => ?_, fun z8 => ?_⟩
        · replace w := w.1 z8
          refine gw_le (L' := [some (.ref 48), some (.int x1), some (.int x2), some (.int x3), some (.int x4), some (.int x5), some (.int x_4), none]) (gm_le_k _ (gm_le_k _ (gm_le_k _ (gm_le_k _ (gm_le_k _ (gm_le_k _ (gm_le_k _ (gm_le_n _ gm_le_nil)))))))) ?_
          exact ok250_72 c d Post K23 hK23 _ _ _ _ _ _ _ w _ hR
        · replace w := w.2 z8
          refine gw_pst hk 1 (st' := (97, [some (.ref 48), some (.int x1), some (.int x2), some (.int x3), some (.int x4), some (.int x5), some (.int x_4), some (.int x_5)], [], h)) rfl ?_
          refine gw_le (L' := [some (.ref 48), some (.int x1), some (.int x2), some (.int x3), some (.int x4), some (.int x5), none, none]) (gm_le_k _ (gm_le_k _ (gm_le_k _ (gm_le_k _ (gm_le_k _ (gm_le_k _ (gm_le_n _ (gm_le_n _ gm_le_nil)))))))) ?_
          exact ok250_97 c d Post K23 hK23 _ _ _ _ _ _ w _ hR
def wl250_23 (c : gx) (d : Nat) (Post : Option Value → gs → Prop) : Nat → Int32 → Int32 → Int32 → Int32 → Int32 → gs → Prop
  | 0 => fun _ _ _ _ _ _ => False
  | n + 1 => wb250_23 c d Post (wl250_23 c d Post n)
theorem okl250_23 (c : gx) (d : Nat) (Post : Option Value → gs → Prop) : ∀ (n : Nat) (x1 : Int32) (x2 : Int32) (x3 : Int32) (x4 : Int32) (x5 : Int32) (s : gs), wl250_23 c d Post n x1 x2 x3 x4 x5 s → tV c d 250 23 [some (.ref 48), some (.int x1), some (.int x2), some (.int x3), some (.int x4), some (.int x5), none, none] [] s Post
  | 0, _, _, _, _, _, _, w => w.elim
  | n + 1, x1, x2, x3, x4, x5, s, w => okb250_23 c d Post (wl250_23 c d Post n) (okl250_23 c d Post n) x1 x2 x3 x4 x5 s w
/-- CommandByTurnsModel.sure(II)I -/
def wm250 (c : gx) (d : Nat) (Post : Option Value → gs → Prop) (x1 : Int32) (x2 : Int32) (s : gs) : Prop :=
  ∀ s_1 : gs, s_1 = gs_V s 48 13 0 → tE c d 248 [.int x1, .int x2] s_1 (fun v2 s_2 => ∃ x_2 : Int32, v2 = some (.int x_2) ∧ ((x_2 = 0 → Post (some (.int (-1))) s_2) ∧ (¬ (x_2 = 0) → ∃ n, wl250_23 c d Post n x1 x2 0 0 0 s_2)))
theorem okm250 (c : gx) (d : Nat) (Post : Option Value → gs → Prop) (x1 : Int32) (x2 : Int32) (s : gs) (w : wm250 c d Post x1 x2 s) : tE c (d + 1) 250 [.ref 48, .int x1, .int x2] s Post := by
  intro h hR
  have hk : ∀ pc i, gm_find gk_250 pc = some i → gm_code (gt_T c.1 c.2.1 c.2.2.1) 250 pc = some i := fun _ _ z => z
  unfold wm250 at w
  refine ge_of (by decide) (Nat.le_of_ble_eq_true rfl) ?_
  show gw (gt_T c.1 c.2.1 c.2.2.1) c.2.2.2 d 250 (0, [some (.ref 48), some (.int x1), some (.int x2), none, none, none, none, none], [], h) _
  refine gw_pst hk 2 (st' := (2, [some (.ref 48), some (.int x1), some (.int x2), none, none, none, none, none], [.int 0, .ref 48], h)) rfl ?_
  obtain ⟨fs1, e1⟩ := RL_o hR (r := 48) (ci := 10) rfl
  obtain ⟨l1, hR1⟩ := RL_pI (k := 13) (x := 0) hR rfl e1
  refine gw_pf (hk _ _ rfl) e1 l1 rfl ?_
  generalize gm_put h _ _ = h at hR1 ⊢
  obtain ⟨s_1, es1⟩ : ∃ z, z = gs_V s 48 13 0 := ⟨_, rfl⟩
  rw [← es1] at hR1
  replace w := w s_1 es1
  replace hR := hR1
  refine gw_pst hk 2 (st' := (7, [some (.ref 48), some (.int x1), some (.int x2), none, none, none, none, none], [.int x2, .int x1], h)) rfl ?_
  refine gw_call (jj := 248) (As := [.int x1, .int x2]) (rest := []) (hk _ _ rfl) (fun _ => rfl) rfl rfl (Nat.le_of_ble_eq_true rfl) rfl ?_
  refine ge_imp (w h hR) (fun v2 h w => ?_)
  obtain ⟨s_2, hR, x_2, rfl, w⟩ := w
  show gw (gt_T c.1 c.2.1 c.2.2.1) c.2.2.2 d 250 (10, [some (.ref 48), some (.int x1), some (.int x2), none, none, none, none, none], [.int x_2], h) _
  refine gw_br (c := x_2 = 0) (a := (13, [some (.ref 48), some (.int x1), some (.int x2), none, none, none, none, none], [], h)) (b := (15, [some (.ref 48), some (.int x1), some (.int x2), none, none, none, none, none], [], h)) (hk _ _ rfl) rfl ⟨fun z3 => ?_, fun z3 => ?_⟩
  · replace w := w.1 z3
    refine gw_pst hk 1 (st' := (14, [some (.ref 48), some (.int x1), some (.int x2), none, none, none, none, none], [.int (-1)], h)) rfl ?_
    exact gw_ret (hk _ _ rfl) rfl ⟨_, hR, w⟩
  · replace w := w.2 z3
    refine gw_pst hk 6 (st' := (23, [some (.ref 48), some (.int x1), some (.int x2), some (.int 0), some (.int 0), some (.int 0), none, none], [], h)) rfl ?_
    obtain ⟨n, w⟩ := w
    exact okl250_23 c d Post n _ _ _ _ _ _ w _ hR
def w251_91 (c : gx) (d : Nat) (Post : Option Value → gs → Prop) (K25 : Int32 → Int32 → Int32 → Int32 → Int32 → gs → Prop) (x1 : Int32) (x2 : Int32) (x3 : Int32) (x4 : Int32) (x5 : Int32) (s : gs) : Prop :=
  K25 x1 x2 x3 x4 (x5 + 1) s
theorem ok251_91 (c : gx) (d : Nat) (Post : Option Value → gs → Prop) (K25 : Int32 → Int32 → Int32 → Int32 → Int32 → gs → Prop)  (hK25 : ∀ (x1 : Int32) (x2 : Int32) (x3 : Int32) (x4 : Int32) (x5 : Int32) (s : gs), K25 x1 x2 x3 x4 x5 s → tV c d 251 25 [some (.ref 48), some (.int x1), some (.int x2), some (.int x3), some (.int x4), some (.int x5), none, none] [] s Post) (x1 : Int32) (x2 : Int32) (x3 : Int32) (x4 : Int32) (x5 : Int32) (s : gs) (w : w251_91 c d Post K25 x1 x2 x3 x4 x5 s) : tV c d 251 91 [some (.ref 48), some (.int x1), some (.int x2), some (.int x3), some (.int x4), some (.int x5), none, none] [] s Post := by
  intro h hR
  have hk : ∀ pc i, gm_find gk_251 pc = some i → gm_code (gt_T c.1 c.2.1 c.2.2.1) 251 pc = some i := fun _ _ z => z
  unfold w251_91 at w
  unfold gV
  refine gw_pst hk 2 (st' := (25, [some (.ref 48), some (.int x1), some (.int x2), some (.int x3), some (.int x4), some (.int (x5 + 1)), none, none], [], h)) rfl ?_
  exact hK25 _ _ _ _ _ _ w _ hR
def wb251_25 (c : gx) (d : Nat) (Post : Option Value → gs → Prop) (K25 : Int32 → Int32 → Int32 → Int32 → Int32 → gs → Prop) (x1 : Int32) (x2 : Int32) (x3 : Int32) (x4 : Int32) (x5 : Int32) (s : gs) : Prop :=
  ((x1 ≤ x5 → ∀ s_2 : gs, s_2 = gs_V s 48 12 0 → tE c d 157 [.ref 48, .long ((x4 : Int32).toInt64)] s_2 (fun v3 s_3 => v3 = none ∧ Post (some (.int x3)) s_3)) ∧ (¬ (x1 ≤ x5) → tE c d 247 [.ref 48, .int x1, .int x2, .int x5, .int 0] s (fun v4 s_4 => ∃ x_4 : Int32, v4 = some (.int x_4) ∧ tE c d 247 [.ref 48, .int x1, .int x2, .int x5, .int 1] s_4 (fun v5 s_5 => ∃ x_5 : Int32, v5 = some (.int x_5) ∧ (((x_4 + x_5) = 0 → Post (some (.int (-2))) s_5) ∧ (¬ ((x_4 + x_5) = 0) → (((if x_4 < x_5 then x_5 else x_4) < x4 → w251_91 c d Post K25 x1 x2 x5 (if x_4 < x_5 then x_5 else x_4) x5 s_5) ∧ (¬ ((if x_4 < x_5 then x_5 else x_4) < x4) → w251_91 c d Post K25 x1 x2 x3 x4 x5 s_5))))))))
theorem okb251_25 (c : gx) (d : Nat) (Post : Option Value → gs → Prop) (K25 : Int32 → Int32 → Int32 → Int32 → Int32 → gs → Prop)  (hK25 : ∀ (x1 : Int32) (x2 : Int32) (x3 : Int32) (x4 : Int32) (x5 : Int32) (s : gs), K25 x1 x2 x3 x4 x5 s → tV c d 251 25 [some (.ref 48), some (.int x1), some (.int x2), some (.int x3), some (.int x4), some (.int x5), none, none] [] s Post) (x1 : Int32) (x2 : Int32) (x3 : Int32) (x4 : Int32) (x5 : Int32) (s : gs) (w : wb251_25 c d Post K25 x1 x2 x3 x4 x5 s) : tV c d 251 25 [some (.ref 48), some (.int x1), some (.int x2), some (.int x3), some (.int x4), some (.int x5), none, none] [] s Post := by
  intro h hR
  have hk : ∀ pc i, gm_find gk_251 pc = some i → gm_code (gt_T c.1 c.2.1 c.2.2.1) 251 pc = some i := fun _ _ z => z
  unfold wb251_25 at w
  unfold gV
  refine gw_pst hk 2 (st' := (28, [some (.ref 48), some (.int x1), some (.int x2), some (.int x3), some (.int x4), some (.int x5), none, none], [.int x1, .int x5], h)) rfl ?_
  refine gw_br (c := x1 ≤ x5) (a := (97, [some (.ref 48), some (.int x1), some (.int x2), some (.int x3), some (.int x4), some (.int x5), none, none], [], h)) (b := (31, [some (.ref 48), some (.int x1), some (.int x2), some (.int x3), some (.int x4), some (.int x5), none, none], [], h)) (hk _ _ rfl) rfl ⟨fun z1 => ?_, fun z1 => ?_⟩
  · replace w := w.1 z1
    refine gw_pst hk 2 (st' := (99, [some (.ref 48), some (.int x1), some (.int x2), some (.int x3), some (.int x4), some (.int x5), none, none], [.int 0, .ref 48], h)) rfl ?_
    obtain ⟨fs2, e2⟩ := RL_o hR (r := 48) (ci := 10) rfl
    obtain ⟨l2, hR2⟩ := RL_pI (k := 12) (x := 0) hR rfl e2
    refine gw_pf (hk _ _ rfl) e2 l2 rfl ?_
    generalize gm_put h _ _ = h at hR2 ⊢
    obtain ⟨s_2, es2⟩ : ∃ z, z = gs_V s 48 12 0 := ⟨_, rfl⟩
    rw [← es2] at hR2
    replace w := w s_2 es2
    replace hR := hR2
    refine gw_pst hk 3 (st' := (106, [some (.ref 48), some (.int x1), some (.int x2), some (.int x3), some (.int x4), some (.int x5), none, none], [.long ((x4 : Int32).toInt64), .ref 48], h)) rfl ?_
    obtain ⟨fs3, e3⟩ := RL_o hR (r := 48) (ci := 10) rfl
    refine gw_call (jj := 157) (As := [.ref 48, .long ((x4 : Int32).toInt64)]) (rest := []) (hk _ _ rfl) (fun _ => rfl) rfl rfl (Nat.le_of_ble_eq_true rfl) (gm_rcv_v rfl e3 rfl) ?_
    refine ge_imp (w h hR) (fun v3 h w => ?_)
    obtain ⟨s_3, hR, rfl, w⟩ := w
    show gw (gt_T c.1 c.2.1 c.2.2.1) c.2.2.2 d 251 (109, [some (.ref 48), some (.int x1), some (.int x2), some (.int x3), some (.int x4), some (.int x5), none, none], [], h) _
    refine gw_pst hk 1 (st' := (110, [some (.ref 48), some (.int x1), some (.int x2), some (.int x3), some (.int x4), some (.int x5), none, none], [.int x3], h)) rfl ?_
    exact gw_ret (hk _ _ rfl) rfl ⟨_, hR, w⟩
  · replace w := w.2 z1
    refine gw_pst hk 5 (st' := (37, [some (.ref 48), some (.int x1), some (.int x2), some (.int x3), some (.int x4), some (.int x5), none, none], [.int 0, .int x5, .int x2, .int x1, .ref 48], h)) rfl ?_
    obtain ⟨fs4, e4⟩ := RL_o hR (r := 48) (ci := 10) rfl
    refine gw_call (jj := 247) (As := [.ref 48, .int x1, .int x2, .int x5, .int 0]) (rest := []) (hk _ _ rfl) (fun _ => rfl) rfl rfl (Nat.le_of_ble_eq_true rfl) (gm_rcv_v rfl e4 rfl) ?_
    refine ge_imp (w h hR) (fun v4 h w => ?_)
    obtain ⟨s_4, hR, x_4, rfl, w⟩ := w
    show gw (gt_T c.1 c.2.1 c.2.2.1) c.2.2.2 d 251 (40, [some (.ref 48), some (.int x1), some (.int x2), some (.int x3), some (.int x4), some (.int x5), none, none], [.int x_4], h) _
    refine gw_pst hk 6 (st' := (48, [some (.ref 48), some (.int x1), some (.int x2), some (.int x3), some (.int x4), some (.int x5), some (.int x_4), none], [.int 1, .int x5, .int x2, .int x1, .ref 48], h)) rfl ?_
    obtain ⟨fs5, e5⟩ := RL_o hR (r := 48) (ci := 10) rfl
    refine gw_call (jj := 247) (As := [.ref 48, .int x1, .int x2, .int x5, .int 1]) (rest := []) (hk _ _ rfl) (fun _ => rfl) rfl rfl (Nat.le_of_ble_eq_true rfl) (gm_rcv_v rfl e5 rfl) ?_
    refine ge_imp (w h hR) (fun v5 h w => ?_)
    obtain ⟨s_5, hR, x_5, rfl, w⟩ := w
    show gw (gt_T c.1 c.2.1 c.2.2.1) c.2.2.2 d 251 (51, [some (.ref 48), some (.int x1), some (.int x2), some (.int x3), some (.int x4), some (.int x5), some (.int x_4), none], [.int x_5], h) _
    refine gw_pst hk 4 (st' := (58, [some (.ref 48), some (.int x1), some (.int x2), some (.int x3), some (.int x4), some (.int x5), some (.int x_4), some (.int x_5)], [.int (x_4 + x_5)], h)) rfl ?_
    refine gw_br (c := (x_4 + x_5) = 0) (a := (61, [some (.ref 48), some (.int x1), some (.int x2), some (.int x3), some (.int x4), some (.int x5), some (.int x_4), some (.int x_5)], [], h)) (b := (64, [some (.ref 48), some (.int x1), some (.int x2), some (.int x3), some (.int x4), some (.int x5), some (.int x_4), some (.int x_5)], [], h)) (hk _ _ rfl) rfl ⟨fun z6 => ?_, fun z6 => ?_⟩
    · replace w := w.1 z6
      refine gw_pst hk 1 (st' := (63, [some (.ref 48), some (.int x1), some (.int x2), some (.int x3), some (.int x4), some (.int x5), some (.int x_4), some (.int x_5)], [.int (-2)], h)) rfl ?_
      exact gw_ret (hk _ _ rfl) rfl ⟨_, hR, w⟩
    · replace w := w.2 z6
      refine gw_pst hk 4 (st' := (73, [some (.ref 48), some (.int x1), some (.int x2), some (.int x3), some (.int x4), some (.int x5), some (.int x_4), some (.int x_5)], [.int x4, .int (if x_4 < x_5 then x_5 else x_4)], h)) rfl ?_
      refine gw_br (c := (if x_4 < x_5 then x_5 else x_4) < x4) (a := (79, [some (.ref 48), some (.int x1), some (.int x2), some (.int x3), some (.int x4), some (.int x5), some (.int x_4), some (.int x_5)], [], h)) (b := (76, [some (.ref 48), some (.int x1), some (.int x2), some (.int x3), some (.int x4), some (.int x5), some (.int x_4), some (.int x_5)], [], h)) (hk _ _ rfl) rfl ⟨fun z7 => ?_, fun z7 => ?_⟩
      · replace w := w.1 z7
        refine gw_pst hk 6 (st' := (91, [some (.ref 48), some (.int x1), some (.int x2), some (.int x5), some (.int (if x_4 < x_5 then x_5 else x_4)), some (.int x5), some (.int x_4), some (.int x_5)], [], h)) rfl ?_
        refine gw_le (L' := [some (.ref 48), some (.int x1), some (.int x2), some (.int x5), some (.int (if x_4 < x_5 then x_5 else x_4)), some (.int x5), none, none]) (gm_le_k _ (gm_le_k _ (gm_le_k _ (gm_le_k _ (gm_le_k _ (gm_le_k _ (gm_le_n _ (gm_le_n _ gm_le_nil)))))))) ?_
        exact ok251_91 c d Post K25 hK25 _ _ _ _ _ _ w _ hR
      · replace w := w.2 z7
        refine gw_pst hk 1 (st' := (91, [some (.ref 48), some (.int x1), some (.int x2), some (.int x3), some (.int x4), some (.int x5), some (.int x_4), some (.int x_5)], [], h)) rfl ?_
        refine gw_le (L' := [some (.ref 48), some (.int x1), some (.int x2), some (.int x3), some (.int x4), some (.int x5), none, none]) (gm_le_k _ (gm_le_k _ (gm_le_k _ (gm_le_k _ (gm_le_k _ (gm_le_k _ (gm_le_n _ (gm_le_n _ gm_le_nil)))))))) ?_
        exact ok251_91 c d Post K25 hK25 _ _ _ _ _ _ w _ hR
def wl251_25 (c : gx) (d : Nat) (Post : Option Value → gs → Prop) : Nat → Int32 → Int32 → Int32 → Int32 → Int32 → gs → Prop
  | 0 => fun _ _ _ _ _ _ => False
  | n + 1 => wb251_25 c d Post (wl251_25 c d Post n)
theorem okl251_25 (c : gx) (d : Nat) (Post : Option Value → gs → Prop) : ∀ (n : Nat) (x1 : Int32) (x2 : Int32) (x3 : Int32) (x4 : Int32) (x5 : Int32) (s : gs), wl251_25 c d Post n x1 x2 x3 x4 x5 s → tV c d 251 25 [some (.ref 48), some (.int x1), some (.int x2), some (.int x3), some (.int x4), some (.int x5), none, none] [] s Post
  | 0, _, _, _, _, _, _, w => w.elim
  | n + 1, x1, x2, x3, x4, x5, s, w => okb251_25 c d Post (wl251_25 c d Post n) (okl251_25 c d Post n) x1 x2 x3 x4 x5 s w
/-- CommandByTurnsModel.ask(II)I -/
def wm251 (c : gx) (d : Nat) (Post : Option Value → gs → Prop) (x1 : Int32) (x2 : Int32) (s : gs) : Prop :=
  ∀ s_1 : gs, s_1 = gs_V s 48 13 0 → tE c d 248 [.int x1, .int x2] s_1 (fun v2 s_2 => ∃ x_2 : Int32, v2 = some (.int x_2) ∧ ((x_2 = 0 → Post (some (.int (-1))) s_2) ∧ (¬ (x_2 = 0) → ∃ n, wl251_25 c d Post n x1 x2 (-1) 2000000 0 s_2)))
theorem okm251 (c : gx) (d : Nat) (Post : Option Value → gs → Prop) (x1 : Int32) (x2 : Int32) (s : gs) (w : wm251 c d Post x1 x2 s) : tE c (d + 1) 251 [.ref 48, .int x1, .int x2] s Post := by
  intro h hR
  have hk : ∀ pc i, gm_find gk_251 pc = some i → gm_code (gt_T c.1 c.2.1 c.2.2.1) 251 pc = some i := fun _ _ z => z
  unfold wm251 at w
  refine ge_of (by decide) (Nat.le_of_ble_eq_true rfl) ?_
  show gw (gt_T c.1 c.2.1 c.2.2.1) c.2.2.2 d 251 (0, [some (.ref 48), some (.int x1), some (.int x2), none, none, none, none, none], [], h) _
  refine gw_pst hk 2 (st' := (2, [some (.ref 48), some (.int x1), some (.int x2), none, none, none, none, none], [.int 0, .ref 48], h)) rfl ?_
  obtain ⟨fs1, e1⟩ := RL_o hR (r := 48) (ci := 10) rfl
  obtain ⟨l1, hR1⟩ := RL_pI (k := 13) (x := 0) hR rfl e1
  refine gw_pf (hk _ _ rfl) e1 l1 rfl ?_
  generalize gm_put h _ _ = h at hR1 ⊢
  obtain ⟨s_1, es1⟩ : ∃ z, z = gs_V s 48 13 0 := ⟨_, rfl⟩
  rw [← es1] at hR1
  replace w := w s_1 es1
  replace hR := hR1
  refine gw_pst hk 2 (st' := (7, [some (.ref 48), some (.int x1), some (.int x2), none, none, none, none, none], [.int x2, .int x1], h)) rfl ?_
  refine gw_call (jj := 248) (As := [.int x1, .int x2]) (rest := []) (hk _ _ rfl) (fun _ => rfl) rfl rfl (Nat.le_of_ble_eq_true rfl) rfl ?_
  refine ge_imp (w h hR) (fun v2 h w => ?_)
  obtain ⟨s_2, hR, x_2, rfl, w⟩ := w
  show gw (gt_T c.1 c.2.1 c.2.2.1) c.2.2.2 d 251 (10, [some (.ref 48), some (.int x1), some (.int x2), none, none, none, none, none], [.int x_2], h) _
  refine gw_br (c := x_2 = 0) (a := (13, [some (.ref 48), some (.int x1), some (.int x2), none, none, none, none, none], [], h)) (b := (15, [some (.ref 48), some (.int x1), some (.int x2), none, none, none, none, none], [], h)) (hk _ _ rfl) rfl ⟨fun z3 => ?_, fun z3 => ?_⟩
  · replace w := w.1 z3
    refine gw_pst hk 1 (st' := (14, [some (.ref 48), some (.int x1), some (.int x2), none, none, none, none, none], [.int (-1)], h)) rfl ?_
    exact gw_ret (hk _ _ rfl) rfl ⟨_, hR, w⟩
  · replace w := w.2 z3
    refine gw_pst hk 6 (st' := (25, [some (.ref 48), some (.int x1), some (.int x2), some (.int (-1)), some (.int 2000000), some (.int 0), none, none], [], h)) rfl ?_
    obtain ⟨n, w⟩ := w
    exact okl251_25 c d Post n _ _ _ _ _ _ w _ hR
def w252_17 (c : gx) (d : Nat) (Post : Option Value → gs → Prop) (xs0 : Int64) (s : gs) : Prop :=
  Post (some (.long xs0)) s
theorem ok252_17 (c : gx) (d : Nat) (Post : Option Value → gs → Prop)  (xs0 : Int64) (s : gs) (w : w252_17 c d Post xs0 s) : tV c d 252 17 [none, none, none, none] [.long xs0] s Post := by
  intro h hR
  have hk : ∀ pc i, gm_find gk_252 pc = some i → gm_code (gt_T c.1 c.2.1 c.2.2.1) 252 pc = some i := fun _ _ z => z
  unfold w252_17 at w
  unfold gV
  exact gw_ret (hk _ _ rfl) rfl ⟨_, hR, w⟩
/-- CommandByTurnsModel.common(JJ)J -/
def wm252 (c : gx) (d : Nat) (Post : Option Value → gs → Prop) (x0 : Int64) (x2 : Int64) (s : gs) : Prop :=
  (((lg_cmp x2 0) = 0 → w252_17 c d Post x0 s) ∧ (¬ ((lg_cmp x2 0) = 0) → ¬ x2 = 0 ∧ tE c d 252 [.long x2, .long (x0 - x0 / x2 * x2)] s (fun v3 s_3 => ∃ y_3 : Int64, v3 = some (.long y_3) ∧ w252_17 c d Post y_3 s_3)))
theorem okm252 (c : gx) (d : Nat) (Post : Option Value → gs → Prop) (x0 : Int64) (x2 : Int64) (s : gs) (w : wm252 c d Post x0 x2 s) : tE c (d + 1) 252 [.long x0, .long x2] s Post := by
  intro h hR
  have hk : ∀ pc i, gm_find gk_252 pc = some i → gm_code (gt_T c.1 c.2.1 c.2.2.1) 252 pc = some i := fun _ _ z => z
  unfold wm252 at w
  refine ge_of (by decide) (Nat.le_of_ble_eq_true rfl) ?_
  show gw (gt_T c.1 c.2.1 c.2.2.1) c.2.2.2 d 252 (0, [some (.long x0), none, some (.long x2), none], [], h) _
  refine gw_pst hk 3 (st' := (3, [some (.long x0), none, some (.long x2), none], [.int (lg_cmp x2 0)], h)) rfl ?_
  refine gw_br (c := (lg_cmp x2 0) = 0) (a := (6, [some (.long x0), none, some (.long x2), none], [], h)) (b := (10, [some (.long x0), none, some (.long x2), none], [], h)) (hk _ _ rfl) rfl ⟨fun z1 => ?_, fun z1 => ?_⟩
  · replace w := w.1 z1
    refine gw_pst hk 2 (st' := (17, [some (.long x0), none, some (.long x2), none], [.long x0], h)) rfl ?_
    refine gw_le (L' := [none, none, none, none]) (gm_le_n _ (gm_le_k _ (gm_le_n _ (gm_le_k _ gm_le_nil)))) ?_
    exact ok252_17 c d Post _ _ w _ hR
  · replace w := w.2 z1
    refine gw_pst hk 3 (st' := (13, [some (.long x0), none, some (.long x2), none], [.long x2, .long x0, .long x2], h)) rfl ?_
    obtain ⟨z2, w⟩ := w
    refine gw_lrem (hk _ _ rfl) z2 ?_ rfl
    refine gw_call (jj := 252) (As := [.long x2, .long (x0 - x0 / x2 * x2)]) (rest := []) (hk _ _ rfl) (fun _ => rfl) rfl rfl (Nat.le_of_ble_eq_true rfl) rfl ?_
    refine ge_imp (w h hR) (fun v3 h w => ?_)
    obtain ⟨s_3, hR, y_3, rfl, w⟩ := w
    show gw (gt_T c.1 c.2.1 c.2.2.1) c.2.2.2 d 252 (17, [some (.long x0), none, some (.long x2), none], [.long y_3], h) _
    refine gw_le (L' := [none, none, none, none]) (gm_le_n _ (gm_le_k _ (gm_le_n _ (gm_le_k _ gm_le_nil)))) ?_
    exact ok252_17 c d Post _ _ w _ hR
def w253_25 (c : gx) (d : Nat) (Post : Option Value → gs → Prop)  (s : gs) : Prop :=
  Post (some (.int (-1))) s
theorem ok253_25 (c : gx) (d : Nat) (Post : Option Value → gs → Prop)   (s : gs) (w : w253_25 c d Post  s) : tV c d 253 25 [none, none, none, none, none, none, none, none, none] [] s Post := by
  intro h hR
  have hk : ∀ pc i, gm_find gk_253 pc = some i → gm_code (gt_T c.1 c.2.1 c.2.2.1) 253 pc = some i := fun _ _ z => z
  unfold w253_25 at w
  unfold gV
  refine gw_pst hk 1 (st' := (26, [none, none, none, none, none, none, none, none, none], [.int (-1)], h)) rfl ?_
  exact gw_ret (hk _ _ rfl) rfl ⟨_, hR, w⟩
def wb253_35 (c : gx) (d : Nat) (Post : Option Value → gs → Prop) (K35 : Int32 → Int32 → Int64 → Int64 → Int32 → gs → Prop) (x1 : Int32) (x2 : Int32) (x3 : Int64) (x5 : Int64) (x7 : Int32) (s : gs) : Prop :=
  ((x1 ≤ x7 → tE c d 252 [.long x3, .long x5] s (fun v2 s_2 => ∃ y_2 : Int64, v2 = some (.long y_2) ∧ ∀ s_3 : gs, s_3 = gs_V s_2 48 12 0 → ¬ y_2 = 0 ∧ tE c d 157 [.ref 48, .long (x3 / y_2)] s_3 (fun v5 s_5 => v5 = none ∧ ¬ y_2 = 0 ∧ tE c d 157 [.ref 48, .long (x5 / y_2)] s_5 (fun v7 s_7 => v7 = none ∧ Post (some (.int 0)) s_7)))) ∧ (¬ (x1 ≤ x7) → K35 x1 x2 ((x3 * ((x2 : Int32).toInt64)) + ((x5 - x3) * ((10 - x2 : Int32).toInt64))) (x5 * 10) (x7 + 1) s))
theorem okb253_35 (c : gx) (d : Nat) (Post : Option Value → gs → Prop) (K35 : Int32 → Int32 → Int64 → Int64 → Int32 → gs → Prop)  (hK35 : ∀ (x1 : Int32) (x2 : Int32) (x3 : Int64) (x5 : Int64) (x7 : Int32) (s : gs), K35 x1 x2 x3 x5 x7 s → tV c d 253 35 [some (.ref 48), some (.int x1), some (.int x2), some (.long x3), none, some (.long x5), none, some (.int x7), none] [] s Post) (x1 : Int32) (x2 : Int32) (x3 : Int64) (x5 : Int64) (x7 : Int32) (s : gs) (w : wb253_35 c d Post K35 x1 x2 x3 x5 x7 s) : tV c d 253 35 [some (.ref 48), some (.int x1), some (.int x2), some (.long x3), none, some (.long x5), none, some (.int x7), none] [] s Post := by
  intro h hR
  have hk : ∀ pc i, gm_find gk_253 pc = some i → gm_code (gt_T c.1 c.2.1 c.2.2.1) 253 pc = some i := fun _ _ z => z
  unfold wb253_35 at w
  unfold gV
  refine gw_pst hk 2 (st' := (38, [some (.ref 48), some (.int x1), some (.int x2), some (.long x3), none, some (.long x5), none, some (.int x7), none], [.int x1, .int x7], h)) rfl ?_
  refine gw_br (c := x1 ≤ x7) (a := (71, [some (.ref 48), some (.int x1), some (.int x2), some (.long x3), none, some (.long x5), none, some (.int x7), none], [], h)) (b := (41, [some (.ref 48), some (.int x1), some (.int x2), some (.long x3), none, some (.long x5), none, some (.int x7), none], [], h)) (hk _ _ rfl) rfl ⟨fun z1 => ?_, fun z1 => ?_⟩
  · replace w := w.1 z1
    refine gw_pst hk 2 (st' := (74, [some (.ref 48), some (.int x1), some (.int x2), some (.long x3), none, some (.long x5), none, some (.int x7), none], [.long x5, .long x3], h)) rfl ?_
    refine gw_call (jj := 252) (As := [.long x3, .long x5]) (rest := []) (hk _ _ rfl) (fun _ => rfl) rfl rfl (Nat.le_of_ble_eq_true rfl) rfl ?_
    refine ge_imp (w h hR) (fun v2 h w => ?_)
    obtain ⟨s_2, hR, y_2, rfl, w⟩ := w
    show gw (gt_T c.1 c.2.1 c.2.2.1) c.2.2.2 d 253 (77, [some (.ref 48), some (.int x1), some (.int x2), some (.long x3), none, some (.long x5), none, some (.int x7), none], [.long y_2], h) _
    refine gw_pst hk 3 (st' := (81, [some (.ref 48), some (.int x1), some (.int x2), some (.long x3), none, some (.long x5), none, some (.long y_2), none], [.int 0, .ref 48], h)) rfl ?_
    obtain ⟨fs3, e3⟩ := RL_o hR (r := 48) (ci := 10) rfl
    obtain ⟨l3, hR3⟩ := RL_pI (k := 12) (x := 0) hR rfl e3
    refine gw_pf (hk _ _ rfl) e3 l3 rfl ?_
    generalize gm_put h _ _ = h at hR3 ⊢
    obtain ⟨s_3, es3⟩ : ∃ z, z = gs_V s_2 48 12 0 := ⟨_, rfl⟩
    rw [← es3] at hR3
    replace w := w s_3 es3
    replace hR := hR3
    refine gw_pst hk 3 (st' := (88, [some (.ref 48), some (.int x1), some (.int x2), some (.long x3), none, some (.long x5), none, some (.long y_2), none], [.long y_2, .long x3, .ref 48], h)) rfl ?_
    obtain ⟨z4, w⟩ := w
    refine gw_ldiv (hk _ _ rfl) z4 ?_ rfl
    obtain ⟨fs5, e5⟩ := RL_o hR (r := 48) (ci := 10) rfl
    refine gw_call (jj := 157) (As := [.ref 48, .long (x3 / y_2)]) (rest := []) (hk _ _ rfl) (fun _ => rfl) rfl rfl (Nat.le_of_ble_eq_true rfl) (gm_rcv_v rfl e5 rfl) ?_
    refine ge_imp (w h hR) (fun v5 h w => ?_)
    obtain ⟨s_5, hR, rfl, w⟩ := w
    show gw (gt_T c.1 c.2.1 c.2.2.1) c.2.2.2 d 253 (92, [some (.ref 48), some (.int x1), some (.int x2), some (.long x3), none, some (.long x5), none, some (.long y_2), none], [], h) _
    refine gw_pst hk 3 (st' := (97, [some (.ref 48), some (.int x1), some (.int x2), some (.long x3), none, some (.long x5), none, some (.long y_2), none], [.long y_2, .long x5, .ref 48], h)) rfl ?_
    obtain ⟨z6, w⟩ := w
    refine gw_ldiv (hk _ _ rfl) z6 ?_ rfl
    obtain ⟨fs7, e7⟩ := RL_o hR (r := 48) (ci := 10) rfl
    refine gw_call (jj := 157) (As := [.ref 48, .long (x5 / y_2)]) (rest := []) (hk _ _ rfl) (fun _ => rfl) rfl rfl (Nat.le_of_ble_eq_true rfl) (gm_rcv_v rfl e7 rfl) ?_
    refine ge_imp (w h hR) (fun v7 h w => ?_)
    obtain ⟨s_7, hR, rfl, w⟩ := w
    show gw (gt_T c.1 c.2.1 c.2.2.1) c.2.2.2 d 253 (101, [some (.ref 48), some (.int x1), some (.int x2), some (.long x3), none, some (.long x5), none, some (.long y_2), none], [], h) _
    refine gw_pst hk 1 (st' := (102, [some (.ref 48), some (.int x1), some (.int x2), some (.long x3), none, some (.long x5), none, some (.long y_2), none], [.int 0], h)) rfl ?_
    exact gw_ret (hk _ _ rfl) rfl ⟨_, hR, w⟩
  · replace w := w.2 z1
    refine gw_pst hk 20 (st' := (35, [some (.ref 48), some (.int x1), some (.int x2), some (.long ((x3 * ((x2 : Int32).toInt64)) + ((x5 - x3) * ((10 - x2 : Int32).toInt64)))), none, some (.long (x5 * 10)), none, some (.int (x7 + 1)), none], [], h)) rfl ?_
    exact hK35 _ _ _ _ _ _ w _ hR
def wl253_35 (c : gx) (d : Nat) (Post : Option Value → gs → Prop) : Nat → Int32 → Int32 → Int64 → Int64 → Int32 → gs → Prop
  | 0 => fun _ _ _ _ _ _ => False
  | n + 1 => wb253_35 c d Post (wl253_35 c d Post n)
theorem okl253_35 (c : gx) (d : Nat) (Post : Option Value → gs → Prop) : ∀ (n : Nat) (x1 : Int32) (x2 : Int32) (x3 : Int64) (x5 : Int64) (x7 : Int32) (s : gs), wl253_35 c d Post n x1 x2 x3 x5 x7 s → tV c d 253 35 [some (.ref 48), some (.int x1), some (.int x2), some (.long x3), none, some (.long x5), none, some (.int x7), none] [] s Post
  | 0, _, _, _, _, _, _, w => w.elim
  | n + 1, x1, x2, x3, x5, x7, s, w => okb253_35 c d Post (wl253_35 c d Post n) (okl253_35 c d Post n) x1 x2 x3 x5 x7 s w
/-- CommandByTurnsModel.rain(II)I -/
def wm253 (c : gx) (d : Nat) (Post : Option Value → gs → Prop) (x1 : Int32) (x2 : Int32) (s : gs) : Prop :=
  ∀ s_1 : gs, s_1 = gs_V s 48 13 0 → tE c d 154 [.int x1, .int 0, .int 12] s_1 (fun v2 s_2 => ∃ x_2 : Int32, v2 = some (.int x_2) ∧ ((x_2 = 0 → w253_25 c d Post s_2) ∧ (¬ (x_2 = 0) → tE c d 154 [.int x2, .int 0, .int 10] s_2 (fun v4 s_4 => ∃ x_4 : Int32, v4 = some (.int x_4) ∧ ((x_4 = 0 → w253_25 c d Post s_4) ∧ (¬ (x_4 = 0) → ∃ n, wl253_35 c d Post n x1 x2 1 1 0 s_4))))))
theorem okm253 (c : gx) (d : Nat) (Post : Option Value → gs → Prop) (x1 : Int32) (x2 : Int32) (s : gs) (w : wm253 c d Post x1 x2 s) : tE c (d + 1) 253 [.ref 48, .int x1, .int x2] s Post := by
  intro h hR
  have hk : ∀ pc i, gm_find gk_253 pc = some i → gm_code (gt_T c.1 c.2.1 c.2.2.1) 253 pc = some i := fun _ _ z => z
  unfold wm253 at w
  refine ge_of (by decide) (Nat.le_of_ble_eq_true rfl) ?_
  show gw (gt_T c.1 c.2.1 c.2.2.1) c.2.2.2 d 253 (0, [some (.ref 48), some (.int x1), some (.int x2), none, none, none, none, none, none], [], h) _
  refine gw_pst hk 2 (st' := (2, [some (.ref 48), some (.int x1), some (.int x2), none, none, none, none, none, none], [.int 0, .ref 48], h)) rfl ?_
  obtain ⟨fs1, e1⟩ := RL_o hR (r := 48) (ci := 10) rfl
  obtain ⟨l1, hR1⟩ := RL_pI (k := 13) (x := 0) hR rfl e1
  refine gw_pf (hk _ _ rfl) e1 l1 rfl ?_
  generalize gm_put h _ _ = h at hR1 ⊢
  obtain ⟨s_1, es1⟩ : ∃ z, z = gs_V s 48 13 0 := ⟨_, rfl⟩
  rw [← es1] at hR1
  replace w := w s_1 es1
  replace hR := hR1
  refine gw_pst hk 3 (st' := (9, [some (.ref 48), some (.int x1), some (.int x2), none, none, none, none, none, none], [.int 12, .int 0, .int x1], h)) rfl ?_
  refine gw_call (jj := 154) (As := [.int x1, .int 0, .int 12]) (rest := []) (hk _ _ rfl) (fun _ => rfl) rfl rfl (Nat.le_of_ble_eq_true rfl) rfl ?_
  refine ge_imp (w h hR) (fun v2 h w => ?_)
  obtain ⟨s_2, hR, x_2, rfl, w⟩ := w
  show gw (gt_T c.1 c.2.1 c.2.2.1) c.2.2.2 d 253 (12, [some (.ref 48), some (.int x1), some (.int x2), none, none, none, none, none, none], [.int x_2], h) _
  refine gw_br (c := x_2 = 0) (a := (25, [some (.ref 48), some (.int x1), some (.int x2), none, none, none, none, none, none], [], h)) (b := (15, [some (.ref 48), some (.int x1), some (.int x2), none, none, none, none, none, none], [], h)) (hk _ _ rfl) rfl ⟨fun z3 => ?_, fun z3 => ?_⟩
  · replace w := w.1 z3
    refine gw_le (L' := [none, none, none, none, none, none, none, none, none]) (gm_le_n _ (gm_le_n _ (gm_le_n _ (gm_le_k _ (gm_le_k _ (gm_le_k _ (gm_le_k _ (gm_le_k _ (gm_le_k _ gm_le_nil))))))))) ?_
    exact ok253_25 c d Post _ w _ hR
  · replace w := w.2 z3
    refine gw_pst hk 3 (st' := (19, [some (.ref 48), some (.int x1), some (.int x2), none, none, none, none, none, none], [.int 10, .int 0, .int x2], h)) rfl ?_
    refine gw_call (jj := 154) (As := [.int x2, .int 0, .int 10]) (rest := []) (hk _ _ rfl) (fun _ => rfl) rfl rfl (Nat.le_of_ble_eq_true rfl) rfl ?_
    refine ge_imp (w h hR) (fun v4 h w => ?_)
    obtain ⟨s_4, hR, x_4, rfl, w⟩ := w
    show gw (gt_T c.1 c.2.1 c.2.2.1) c.2.2.2 d 253 (22, [some (.ref 48), some (.int x1), some (.int x2), none, none, none, none, none, none], [.int x_4], h) _
    refine gw_br (c := x_4 = 0) (a := (25, [some (.ref 48), some (.int x1), some (.int x2), none, none, none, none, none, none], [], h)) (b := (27, [some (.ref 48), some (.int x1), some (.int x2), none, none, none, none, none, none], [], h)) (hk _ _ rfl) rfl ⟨fun z5 => ?_, fun z5 => ?_⟩
    · replace w := w.1 z5
      refine gw_le (L' := [none, none, none, none, none, none, none, none, none]) (gm_le_n _ (gm_le_n _ (gm_le_n _ (gm_le_k _ (gm_le_k _ (gm_le_k _ (gm_le_k _ (gm_le_k _ (gm_le_k _ gm_le_nil))))))))) ?_
      exact ok253_25 c d Post _ w _ hR
    · replace w := w.2 z5
      refine gw_pst hk 6 (st' := (35, [some (.ref 48), some (.int x1), some (.int x2), some (.long 1), none, some (.long 1), none, some (.int 0), none], [], h)) rfl ?_
      obtain ⟨n, w⟩ := w
      exact okl253_35 c d Post n _ _ _ _ _ _ w _ hR
def wb254_5 (c : gx) (d : Nat) (Post : Option Value → gs → Prop) (K5 : Int64 → Int32 → Int64 → Int32 → gs → Prop) (x0 : Int64) (x2 : Int32) (x3 : Int64) (x5 : Int32) (s : gs) : Prop :=
  ((x2 ≤ x5 → Post (some (.long x3)) s) ∧ (¬ (x2 ≤ x5) → K5 x0 x2 (x3 * x0) (x5 + 1) s))
theorem okb254_5 (c : gx) (d : Nat) (Post : Option Value → gs → Prop) (K5 : Int64 → Int32 → Int64 → Int32 → gs → Prop)  (hK5 : ∀ (x0 : Int64) (x2 : Int32) (x3 : Int64) (x5 : Int32) (s : gs), K5 x0 x2 x3 x5 s → tV c d 254 5 [some (.long x0), none, some (.int x2), some (.long x3), none, some (.int x5)] [] s Post) (x0 : Int64) (x2 : Int32) (x3 : Int64) (x5 : Int32) (s : gs) (w : wb254_5 c d Post K5 x0 x2 x3 x5 s) : tV c d 254 5 [some (.long x0), none, some (.int x2), some (.long x3), none, some (.int x5)] [] s Post := by
  intro h hR
  have hk : ∀ pc i, gm_find gk_254 pc = some i → gm_code (gt_T c.1 c.2.1 c.2.2.1) 254 pc = some i := fun _ _ z => z
  unfold wb254_5 at w
  unfold gV
  refine gw_pst hk 2 (st' := (8, [some (.long x0), none, some (.int x2), some (.long x3), none, some (.int x5)], [.int x2, .int x5], h)) rfl ?_
  refine gw_br (c := x2 ≤ x5) (a := (21, [some (.long x0), none, some (.int x2), some (.long x3), none, some (.int x5)], [], h)) (b := (11, [some (.long x0), none, some (.int x2), some (.long x3), none, some (.int x5)], [], h)) (hk _ _ rfl) rfl ⟨fun z1 => ?_, fun z1 => ?_⟩
  · replace w := w.1 z1
    refine gw_pst hk 1 (st' := (22, [some (.long x0), none, some (.int x2), some (.long x3), none, some (.int x5)], [.long x3], h)) rfl ?_
    exact gw_ret (hk _ _ rfl) rfl ⟨_, hR, w⟩
  · replace w := w.2 z1
    refine gw_pst hk 6 (st' := (5, [some (.long x0), none, some (.int x2), some (.long (x3 * x0)), none, some (.int (x5 + 1))], [], h)) rfl ?_
    exact hK5 _ _ _ _ _ w _ hR
def wl254_5 (c : gx) (d : Nat) (Post : Option Value → gs → Prop) : Nat → Int64 → Int32 → Int64 → Int32 → gs → Prop
  | 0 => fun _ _ _ _ _ => False
  | n + 1 => wb254_5 c d Post (wl254_5 c d Post n)
theorem okl254_5 (c : gx) (d : Nat) (Post : Option Value → gs → Prop) : ∀ (n : Nat) (x0 : Int64) (x2 : Int32) (x3 : Int64) (x5 : Int32) (s : gs), wl254_5 c d Post n x0 x2 x3 x5 s → tV c d 254 5 [some (.long x0), none, some (.int x2), some (.long x3), none, some (.int x5)] [] s Post
  | 0, _, _, _, _, _, w => w.elim
  | n + 1, x0, x2, x3, x5, s, w => okb254_5 c d Post (wl254_5 c d Post n) (okl254_5 c d Post n) x0 x2 x3 x5 s w
/-- CommandByTurnsModel.power(JI)J -/
def wm254 (c : gx) (d : Nat) (Post : Option Value → gs → Prop) (x0 : Int64) (x2 : Int32) (s : gs) : Prop :=
  ∃ n, wl254_5 c d Post n x0 x2 1 0 s
theorem okm254 (c : gx) (d : Nat) (Post : Option Value → gs → Prop) (x0 : Int64) (x2 : Int32) (s : gs) (w : wm254 c d Post x0 x2 s) : tE c (d + 1) 254 [.long x0, .int x2] s Post := by
  intro h hR
  have hk : ∀ pc i, gm_find gk_254 pc = some i → gm_code (gt_T c.1 c.2.1 c.2.2.1) 254 pc = some i := fun _ _ z => z
  unfold wm254 at w
  refine ge_of (by decide) (Nat.le_of_ble_eq_true rfl) ?_
  show gw (gt_T c.1 c.2.1 c.2.2.1) c.2.2.2 d 254 (0, [some (.long x0), none, some (.int x2), none, none, none], [], h) _
  refine gw_pst hk 4 (st' := (5, [some (.long x0), none, some (.int x2), some (.long 1), none, some (.int 0)], [], h)) rfl ?_
  obtain ⟨n, w⟩ := w
  exact okl254_5 c d Post n _ _ _ _ _ w _ hR
def w255_25 (c : gx) (d : Nat) (Post : Option Value → gs → Prop)  (s : gs) : Prop :=
  Post (some (.int (-1))) s
theorem ok255_25 (c : gx) (d : Nat) (Post : Option Value → gs → Prop)   (s : gs) (w : w255_25 c d Post  s) : tV c d 255 25 [none, none, none, none, none, none, none, none] [] s Post := by
  intro h hR
  have hk : ∀ pc i, gm_find gk_255 pc = some i → gm_code (gt_T c.1 c.2.1 c.2.2.1) 255 pc = some i := fun _ _ z => z
  unfold w255_25 at w
  unfold gV
  refine gw_pst hk 1 (st' := (26, [none, none, none, none, none, none, none, none], [.int (-1)], h)) rfl ?_
  exact gw_ret (hk _ _ rfl) rfl ⟨_, hR, w⟩
def w255_77 (c : gx) (d : Nat) (Post : Option Value → gs → Prop) (K35 : Int32 → Int32 → Int64 → Int64 → Int32 → gs → Prop) (x1 : Int32) (x2 : Int32) (x5 : Int64) (x7 : Int32) (xs0 : Int64) (xs1 : Int64) (s : gs) : Prop :=
  ¬ ((x7 + 1 : Int32).toInt64) = 0 ∧ K35 x1 x2 (xs0 + xs1) ((x5 * ((x1 - x7 : Int32).toInt64)) / ((x7 + 1 : Int32).toInt64)) (x7 + 1) s
theorem ok255_77 (c : gx) (d : Nat) (Post : Option Value → gs → Prop) (K35 : Int32 → Int32 → Int64 → Int64 → Int32 → gs → Prop)  (hK35 : ∀ (x1 : Int32) (x2 : Int32) (x3 : Int64) (x5 : Int64) (x7 : Int32) (s : gs), K35 x1 x2 x3 x5 x7 s → tV c d 255 35 [none, some (.int x1), some (.int x2), some (.long x3), none, some (.long x5), none, some (.int x7)] [] s Post) (x1 : Int32) (x2 : Int32) (x5 : Int64) (x7 : Int32) (xs0 : Int64) (xs1 : Int64) (s : gs) (w : w255_77 c d Post K35 x1 x2 x5 x7 xs0 xs1 s) : tV c d 255 77 [none, some (.int x1), some (.int x2), none, none, some (.long x5), none, some (.int x7)] [.long xs1, .long xs0] s Post := by
  intro h hR
  have hk : ∀ pc i, gm_find gk_255 pc = some i → gm_code (gt_T c.1 c.2.1 c.2.2.1) 255 pc = some i := fun _ _ z => z
  unfold w255_77 at w
  unfold gV
  refine gw_pst hk 12 (st' := (92, [none, some (.int x1), some (.int x2), some (.long (xs0 + xs1)), none, some (.long x5), none, some (.int x7)], [.long ((x7 + 1 : Int32).toInt64), .long (x5 * ((x1 - x7 : Int32).toInt64))], h)) rfl ?_
  obtain ⟨z1, w⟩ := w
  refine gw_ldiv (hk _ _ rfl) z1 ?_ rfl
  refine gw_pst hk 3 (st' := (35, [none, some (.int x1), some (.int x2), some (.long (xs0 + xs1)), none, some (.long ((x5 * ((x1 - x7 : Int32).toInt64)) / ((x7 + 1 : Int32).toInt64))), none, some (.int (x7 + 1))], [], h)) rfl ?_
  exact hK35 _ _ _ _ _ _ w _ hR
def w255_134 (c : gx) (d : Nat) (Post : Option Value → gs → Prop) (xs0 : Int64) (s : gs) : Prop :=
  Post (some (.int ((xs0).toInt32))) s
theorem ok255_134 (c : gx) (d : Nat) (Post : Option Value → gs → Prop)  (xs0 : Int64) (s : gs) (w : w255_134 c d Post xs0 s) : tV c d 255 134 [none, none, none, none, none, none, none, none] [.long xs0] s Post := by
  intro h hR
  have hk : ∀ pc i, gm_find gk_255 pc = some i → gm_code (gt_T c.1 c.2.1 c.2.2.1) 255 pc = some i := fun _ _ z => z
  unfold w255_134 at w
  unfold gV
  refine gw_pst hk 1 (st' := (135, [none, none, none, none, none, none, none, none], [.int ((xs0).toInt32)], h)) rfl ?_
  exact gw_ret (hk _ _ rfl) rfl ⟨_, hR, w⟩
def wb255_35 (c : gx) (d : Nat) (Post : Option Value → gs → Prop) (K35 : Int32 → Int32 → Int64 → Int64 → Int32 → gs → Prop) (x1 : Int32) (x2 : Int32) (x3 : Int64) (x5 : Int64) (x7 : Int32) (s : gs) : Prop :=
  ((x1 < x7 → ((x1 < 6 → tE c d 254 [.long 10, .int (6 - x1)] s (fun v3 s_3 => ∃ y_3 : Int64, v3 = some (.long y_3) ∧ w255_134 c d Post (x3 * y_3) s_3)) ∧ (¬ (x1 < 6) → tE c d 254 [.long 10, .int (x1 - 6)] s (fun v4 s_4 => ∃ y_4 : Int64, v4 = some (.long y_4) ∧ ¬ y_4 = 0 ∧ w255_134 c d Post (x3 / y_4) s_4)))) ∧ (¬ (x1 < x7) → (((3 * x7) < x1 → w255_77 c d Post K35 x1 x2 x5 x7 x3 0 s) ∧ (¬ ((3 * x7) < x1) → tE c d 254 [.long ((x2 : Int32).toInt64), .int x7] s (fun v7 s_7 => ∃ y_7 : Int64, v7 = some (.long y_7) ∧ tE c d 254 [.long ((10 - x2 : Int32).toInt64), .int (x1 - x7)] s_7 (fun v8 s_8 => ∃ y_8 : Int64, v8 = some (.long y_8) ∧ w255_77 c d Post K35 x1 x2 x5 x7 x3 ((x5 * y_7) * y_8) s_8))))))
theorem okb255_35 (c : gx) (d : Nat) (Post : Option Value → gs → Prop) (K35 : Int32 → Int32 → Int64 → Int64 → Int32 → gs → Prop)  (hK35 : ∀ (x1 : Int32) (x2 : Int32) (x3 : Int64) (x5 : Int64) (x7 : Int32) (s : gs), K35 x1 x2 x3 x5 x7 s → tV c d 255 35 [none, some (.int x1), some (.int x2), some (.long x3), none, some (.long x5), none, some (.int x7)] [] s Post) (x1 : Int32) (x2 : Int32) (x3 : Int64) (x5 : Int64) (x7 : Int32) (s : gs) (w : wb255_35 c d Post K35 x1 x2 x3 x5 x7 s) : tV c d 255 35 [none, some (.int x1), some (.int x2), some (.long x3), none, some (.long x5), none, some (.int x7)] [] s Post := by
  intro h hR
  have hk : ∀ pc i, gm_find gk_255 pc = some i → gm_code (gt_T c.1 c.2.1 c.2.2.1) 255 pc = some i := fun _ _ z => z
  unfold wb255_35 at w
  unfold gV
  refine gw_pst hk 2 (st' := (38, [none, some (.int x1), some (.int x2), some (.long x3), none, some (.long x5), none, some (.int x7)], [.int x1, .int x7], h)) rfl ?_
  refine gw_br (c := x1 < x7) (a := (101, [none, some (.int x1), some (.int x2), some (.long x3), none, some (.long x5), none, some (.int x7)], [], h)) (b := (41, [none, some (.int x1), some (.int x2), some (.long x3), none, some (.long x5), none, some (.int x7)], [], h)) (hk _ _ rfl) rfl ⟨fun z1 => ?_, fun z1 => ?_⟩
  · replace w := w.1 z1
    refine gw_pst hk 2 (st' := (104, [none, some (.int x1), some (.int x2), some (.long x3), none, some (.long x5), none, some (.int x7)], [.int 6, .int x1], h)) rfl ?_
    refine gw_br (c := x1 < 6) (a := (122, [none, some (.int x1), some (.int x2), some (.long x3), none, some (.long x5), none, some (.int x7)], [], h)) (b := (107, [none, some (.int x1), some (.int x2), some (.long x3), none, some (.long x5), none, some (.int x7)], [], h)) (hk _ _ rfl) rfl ⟨fun z2 => ?_, fun z2 => ?_⟩
    · replace w := w.1 z2
      refine gw_pst hk 5 (st' := (130, [none, some (.int x1), some (.int x2), some (.long x3), none, some (.long x5), none, some (.int x7)], [.int (6 - x1), .long 10, .long x3], h)) rfl ?_
      refine gw_call (jj := 254) (As := [.long 10, .int (6 - x1)]) (rest := [.long x3]) (hk _ _ rfl) (fun _ => rfl) rfl rfl (Nat.le_of_ble_eq_true rfl) rfl ?_
      refine ge_imp (w h hR) (fun v3 h w => ?_)
      obtain ⟨s_3, hR, y_3, rfl, w⟩ := w
      show gw (gt_T c.1 c.2.1 c.2.2.1) c.2.2.2 d 255 (133, [none, some (.int x1), some (.int x2), some (.long x3), none, some (.long x5), none, some (.int x7)], [.long y_3, .long x3], h) _
      refine gw_pst hk 1 (st' := (134, [none, some (.int x1), some (.int x2), some (.long x3), none, some (.long x5), none, some (.int x7)], [.long (x3 * y_3)], h)) rfl ?_
      refine gw_le (L' := [none, none, none, none, none, none, none, none]) (gm_le_k _ (gm_le_n _ (gm_le_n _ (gm_le_n _ (gm_le_k _ (gm_le_n _ (gm_le_k _ (gm_le_n _ gm_le_nil)))))))) ?_
      exact ok255_134 c d Post _ _ w _ hR
    · replace w := w.2 z2
      refine gw_pst hk 5 (st' := (115, [none, some (.int x1), some (.int x2), some (.long x3), none, some (.long x5), none, some (.int x7)], [.int (x1 - 6), .long 10, .long x3], h)) rfl ?_
      refine gw_call (jj := 254) (As := [.long 10, .int (x1 - 6)]) (rest := [.long x3]) (hk _ _ rfl) (fun _ => rfl) rfl rfl (Nat.le_of_ble_eq_true rfl) rfl ?_
      refine ge_imp (w h hR) (fun v4 h w => ?_)
      obtain ⟨s_4, hR, y_4, rfl, w⟩ := w
      show gw (gt_T c.1 c.2.1 c.2.2.1) c.2.2.2 d 255 (118, [none, some (.int x1), some (.int x2), some (.long x3), none, some (.long x5), none, some (.int x7)], [.long y_4, .long x3], h) _
      obtain ⟨z5, w⟩ := w
      refine gw_ldiv (hk _ _ rfl) z5 ?_ rfl
      refine gw_pst hk 1 (st' := (134, [none, some (.int x1), some (.int x2), some (.long x3), none, some (.long x5), none, some (.int x7)], [.long (x3 / y_4)], h)) rfl ?_
      refine gw_le (L' := [none, none, none, none, none, none, none, none]) (gm_le_k _ (gm_le_n _ (gm_le_n _ (gm_le_n _ (gm_le_k _ (gm_le_n _ (gm_le_k _ (gm_le_n _ gm_le_nil)))))))) ?_
      exact ok255_134 c d Post _ _ w _ hR
  · replace w := w.2 z1
    refine gw_pst hk 5 (st' := (47, [none, some (.int x1), some (.int x2), some (.long x3), none, some (.long x5), none, some (.int x7)], [.int x1, .int (3 * x7), .long x3], h)) rfl ?_
    refine gw_br (c := (3 * x7) < x1) (a := (76, [none, some (.int x1), some (.int x2), some (.long x3), none, some (.long x5), none, some (.int x7)], [.long x3], h)) (b := (50, [none, some (.int x1), some (.int x2), some (.long x3), none, some (.long x5), none, some (.int x7)], [.long x3], h)) (hk _ _ rfl) rfl ⟨fun z6 => ?_, fun z6 => ?_⟩
    · replace w := w.1 z6
      refine gw_pst hk 1 (st' := (77, [none, some (.int x1), some (.int x2), some (.long x3), none, some (.long x5), none, some (.int x7)], [.long 0, .long x3], h)) rfl ?_
      refine gw_le (L' := [none, some (.int x1), some (.int x2), none, none, some (.long x5), none, some (.int x7)]) (gm_le_k _ (gm_le_k _ (gm_le_k _ (gm_le_n _ (gm_le_k _ (gm_le_k _ (gm_le_k _ (gm_le_k _ gm_le_nil)))))))) ?_
      exact ok255_77 c d Post K35 hK35 _ _ _ _ _ _ _ w _ hR
    · replace w := w.2 z6
      refine gw_pst hk 4 (st' := (56, [none, some (.int x1), some (.int x2), some (.long x3), none, some (.long x5), none, some (.int x7)], [.int x7, .long ((x2 : Int32).toInt64), .long x5, .long x3], h)) rfl ?_
      refine gw_call (jj := 254) (As := [.long ((x2 : Int32).toInt64), .int x7]) (rest := [.long x5, .long x3]) (hk _ _ rfl) (fun _ => rfl) rfl rfl (Nat.le_of_ble_eq_true rfl) rfl ?_
      refine ge_imp (w h hR) (fun v7 h w => ?_)
      obtain ⟨s_7, hR, y_7, rfl, w⟩ := w
      show gw (gt_T c.1 c.2.1 c.2.2.1) c.2.2.2 d 255 (59, [none, some (.int x1), some (.int x2), some (.long x3), none, some (.long x5), none, some (.int x7)], [.long y_7, .long x5, .long x3], h) _
      refine gw_pst hk 8 (st' := (69, [none, some (.int x1), some (.int x2), some (.long x3), none, some (.long x5), none, some (.int x7)], [.int (x1 - x7), .long ((10 - x2 : Int32).toInt64), .long (x5 * y_7), .long x3], h)) rfl ?_
      refine gw_call (jj := 254) (As := [.long ((10 - x2 : Int32).toInt64), .int (x1 - x7)]) (rest := [.long (x5 * y_7), .long x3]) (hk _ _ rfl) (fun _ => rfl) rfl rfl (Nat.le_of_ble_eq_true rfl) rfl ?_
      refine ge_imp (w h hR) (fun v8 h w => ?_)
      obtain ⟨s_8, hR, y_8, rfl, w⟩ := w
      show gw (gt_T c.1 c.2.1 c.2.2.1) c.2.2.2 d 255 (72, [none, some (.int x1), some (.int x2), some (.long x3), none, some (.long x5), none, some (.int x7)], [.long y_8, .long (x5 * y_7), .long x3], h) _
      refine gw_pst hk 2 (st' := (77, [none, some (.int x1), some (.int x2), some (.long x3), none, some (.long x5), none, some (.int x7)], [.long ((x5 * y_7) * y_8), .long x3], h)) rfl ?_
      refine gw_le (L' := [none, some (.int x1), some (.int x2), none, none, some (.long x5), none, some (.int x7)]) (gm_le_k _ (gm_le_k _ (gm_le_k _ (gm_le_n _ (gm_le_k _ (gm_le_k _ (gm_le_k _ (gm_le_k _ gm_le_nil)))))))) ?_
      exact ok255_77 c d Post K35 hK35 _ _ _ _ _ _ _ w _ hR
def wl255_35 (c : gx) (d : Nat) (Post : Option Value → gs → Prop) : Nat → Int32 → Int32 → Int64 → Int64 → Int32 → gs → Prop
  | 0 => fun _ _ _ _ _ _ => False
  | n + 1 => wb255_35 c d Post (wl255_35 c d Post n)
theorem okl255_35 (c : gx) (d : Nat) (Post : Option Value → gs → Prop) : ∀ (n : Nat) (x1 : Int32) (x2 : Int32) (x3 : Int64) (x5 : Int64) (x7 : Int32) (s : gs), wl255_35 c d Post n x1 x2 x3 x5 x7 s → tV c d 255 35 [none, some (.int x1), some (.int x2), some (.long x3), none, some (.long x5), none, some (.int x7)] [] s Post
  | 0, _, _, _, _, _, _, w => w.elim
  | n + 1, x1, x2, x3, x5, x7, s, w => okb255_35 c d Post (wl255_35 c d Post n) (okl255_35 c d Post n) x1 x2 x3 x5 x7 s w
/-- CommandByTurnsModel.stops(II)I -/
def wm255 (c : gx) (d : Nat) (Post : Option Value → gs → Prop) (x1 : Int32) (x2 : Int32) (s : gs) : Prop :=
  ∀ s_1 : gs, s_1 = gs_V s 48 13 0 → tE c d 154 [.int x1, .int 1, .int 15] s_1 (fun v2 s_2 => ∃ x_2 : Int32, v2 = some (.int x_2) ∧ ((x_2 = 0 → w255_25 c d Post s_2) ∧ (¬ (x_2 = 0) → tE c d 154 [.int x2, .int 0, .int 10] s_2 (fun v4 s_4 => ∃ x_4 : Int32, v4 = some (.int x_4) ∧ ((x_4 = 0 → w255_25 c d Post s_4) ∧ (¬ (x_4 = 0) → ∃ n, wl255_35 c d Post n x1 x2 0 1 0 s_4))))))
theorem okm255 (c : gx) (d : Nat) (Post : Option Value → gs → Prop) (x1 : Int32) (x2 : Int32) (s : gs) (w : wm255 c d Post x1 x2 s) : tE c (d + 1) 255 [.ref 48, .int x1, .int x2] s Post := by
  intro h hR
  have hk : ∀ pc i, gm_find gk_255 pc = some i → gm_code (gt_T c.1 c.2.1 c.2.2.1) 255 pc = some i := fun _ _ z => z
  unfold wm255 at w
  refine ge_of (by decide) (Nat.le_of_ble_eq_true rfl) ?_
  show gw (gt_T c.1 c.2.1 c.2.2.1) c.2.2.2 d 255 (0, [some (.ref 48), some (.int x1), some (.int x2), none, none, none, none, none], [], h) _
  refine gw_pst hk 2 (st' := (2, [some (.ref 48), some (.int x1), some (.int x2), none, none, none, none, none], [.int 0, .ref 48], h)) rfl ?_
  obtain ⟨fs1, e1⟩ := RL_o hR (r := 48) (ci := 10) rfl
  obtain ⟨l1, hR1⟩ := RL_pI (k := 13) (x := 0) hR rfl e1
  refine gw_pf (hk _ _ rfl) e1 l1 rfl ?_
  generalize gm_put h _ _ = h at hR1 ⊢
  obtain ⟨s_1, es1⟩ : ∃ z, z = gs_V s 48 13 0 := ⟨_, rfl⟩
  rw [← es1] at hR1
  replace w := w s_1 es1
  replace hR := hR1
  refine gw_pst hk 3 (st' := (9, [some (.ref 48), some (.int x1), some (.int x2), none, none, none, none, none], [.int 15, .int 1, .int x1], h)) rfl ?_
  refine gw_call (jj := 154) (As := [.int x1, .int 1, .int 15]) (rest := []) (hk _ _ rfl) (fun _ => rfl) rfl rfl (Nat.le_of_ble_eq_true rfl) rfl ?_
  refine ge_imp (w h hR) (fun v2 h w => ?_)
  obtain ⟨s_2, hR, x_2, rfl, w⟩ := w
  show gw (gt_T c.1 c.2.1 c.2.2.1) c.2.2.2 d 255 (12, [some (.ref 48), some (.int x1), some (.int x2), none, none, none, none, none], [.int x_2], h) _
  refine gw_br (c := x_2 = 0) (a := (25, [some (.ref 48), some (.int x1), some (.int x2), none, none, none, none, none], [], h)) (b := (15, [some (.ref 48), some (.int x1), some (.int x2), none, none, none, none, none], [], h)) (hk _ _ rfl) rfl ⟨fun z3 => ?_, fun z3 => ?_⟩
  · replace w := w.1 z3
    refine gw_le (L' := [none, none, none, none, none, none, none, none]) (gm_le_n _ (gm_le_n _ (gm_le_n _ (gm_le_k _ (gm_le_k _ (gm_le_k _ (gm_le_k _ (gm_le_k _ gm_le_nil)))))))) ?_
    exact ok255_25 c d Post _ w _ hR
  · replace w := w.2 z3
    refine gw_pst hk 3 (st' := (19, [some (.ref 48), some (.int x1), some (.int x2), none, none, none, none, none], [.int 10, .int 0, .int x2], h)) rfl ?_
    refine gw_call (jj := 154) (As := [.int x2, .int 0, .int 10]) (rest := []) (hk _ _ rfl) (fun _ => rfl) rfl rfl (Nat.le_of_ble_eq_true rfl) rfl ?_
    refine ge_imp (w h hR) (fun v4 h w => ?_)
    obtain ⟨s_4, hR, x_4, rfl, w⟩ := w
    show gw (gt_T c.1 c.2.1 c.2.2.1) c.2.2.2 d 255 (22, [some (.ref 48), some (.int x1), some (.int x2), none, none, none, none, none], [.int x_4], h) _
    refine gw_br (c := x_4 = 0) (a := (25, [some (.ref 48), some (.int x1), some (.int x2), none, none, none, none, none], [], h)) (b := (27, [some (.ref 48), some (.int x1), some (.int x2), none, none, none, none, none], [], h)) (hk _ _ rfl) rfl ⟨fun z5 => ?_, fun z5 => ?_⟩
    · replace w := w.1 z5
      refine gw_le (L' := [none, none, none, none, none, none, none, none]) (gm_le_n _ (gm_le_n _ (gm_le_n _ (gm_le_k _ (gm_le_k _ (gm_le_k _ (gm_le_k _ (gm_le_k _ gm_le_nil)))))))) ?_
      exact ok255_25 c d Post _ w _ hR
    · replace w := w.2 z5
      refine gw_pst hk 6 (st' := (35, [some (.ref 48), some (.int x1), some (.int x2), some (.long 0), none, some (.long 1), none, some (.int 0)], [], h)) rfl ?_
      refine gw_le (L' := [none, some (.int x1), some (.int x2), some (.long 0), none, some (.long 1), none, some (.int 0)]) (gm_le_n _ (gm_le_k _ (gm_le_k _ (gm_le_k _ (gm_le_k _ (gm_le_k _ (gm_le_k _ (gm_le_k _ gm_le_nil)))))))) ?_
      obtain ⟨n, w⟩ := w
      exact okl255_35 c d Post n _ _ _ _ _ _ w _ hR
def w256_35 (c : gx) (d : Nat) (Post : Option Value → gs → Prop) (xs0 : Int32) (s : gs) : Prop :=
  Post (some (.int xs0)) s
theorem ok256_35 (c : gx) (d : Nat) (Post : Option Value → gs → Prop)  (xs0 : Int32) (s : gs) (w : w256_35 c d Post xs0 s) : tV c d 256 35 [none, none, none] [.int xs0] s Post := by
  intro h hR
  have hk : ∀ pc i, gm_find gk_256 pc = some i → gm_code (gt_T c.1 c.2.1 c.2.2.1) 256 pc = some i := fun _ _ z => z
  unfold w256_35 at w
  unfold gV
  exact gw_ret (hk _ _ rfl) rfl ⟨_, hR, w⟩
/-- CommandByTurnsModel.gets(II)I -/
def wm256 (c : gx) (d : Nat) (Post : Option Value → gs → Prop) (x0 : Int32) (x1 : Int32) (s : gs) : Prop :=
  ((9 < (x0 + x1) → ((x0 = x1 → w256_35 c d Post (if 0 < ((if 0 < (9 - x1) then (9 - x1) else 0) - 1) then ((if 0 < (9 - x1) then (9 - x1) else 0) - 1) else 0) s) ∧ (¬ (x0 = x1) → w256_35 c d Post (if 0 < (9 - x1) then (9 - x1) else 0) s))) ∧ (¬ (9 < (x0 + x1)) → Post (some (.int x0)) s))
theorem okm256 (c : gx) (d : Nat) (Post : Option Value → gs → Prop) (x0 : Int32) (x1 : Int32) (s : gs) (w : wm256 c d Post x0 x1 s) : tE c (d + 1) 256 [.int x0, .int x1] s Post := by
  intro h hR
  have hk : ∀ pc i, gm_find gk_256 pc = some i → gm_code (gt_T c.1 c.2.1 c.2.2.1) 256 pc = some i := fun _ _ z => z
  unfold wm256 at w
  refine ge_of (by decide) (Nat.le_of_ble_eq_true rfl) ?_
  show gw (gt_T c.1 c.2.1 c.2.2.1) c.2.2.2 d 256 (0, [some (.int x0), some (.int x1), none], [], h) _
  refine gw_pst hk 4 (st' := (5, [some (.int x0), some (.int x1), none], [.int 9, .int (x0 + x1)], h)) rfl ?_
  refine gw_br (c := 9 < (x0 + x1)) (a := (10, [some (.int x0), some (.int x1), none], [], h)) (b := (8, [some (.int x0), some (.int x1), none], [], h)) (hk _ _ rfl) rfl ⟨fun z1 => ?_, fun z1 => ?_⟩
  · replace w := w.1 z1
    refine gw_pst hk 8 (st' := (21, [some (.int x0), some (.int x1), some (.int (if 0 < (9 - x1) then (9 - x1) else 0))], [.int x1, .int x0], h)) rfl ?_
    refine gw_br (c := x0 = x1) (a := (24, [some (.int x0), some (.int x1), some (.int (if 0 < (9 - x1) then (9 - x1) else 0))], [], h)) (b := (34, [some (.int x0), some (.int x1), some (.int (if 0 < (9 - x1) then (9 - x1) else 0))], [], h)) (hk _ _ rfl) rfl ⟨fun z2 => ?_, fun z2 => ?_⟩
    · replace w := w.1 z2
      refine gw_pst hk 6 (st' := (35, [some (.int x0), some (.int x1), some (.int (if 0 < (9 - x1) then (9 - x1) else 0))], [.int (if 0 < ((if 0 < (9 - x1) then (9 - x1) else 0) - 1) then ((if 0 < (9 - x1) then (9 - x1) else 0) - 1) else 0)], h)) rfl ?_
      refine gw_le (L' := [none, none, none]) (gm_le_n _ (gm_le_n _ (gm_le_n _ gm_le_nil))) ?_
      exact ok256_35 c d Post _ _ w _ hR
    · replace w := w.2 z2
      refine gw_pst hk 1 (st' := (35, [some (.int x0), some (.int x1), some (.int (if 0 < (9 - x1) then (9 - x1) else 0))], [.int (if 0 < (9 - x1) then (9 - x1) else 0)], h)) rfl ?_
      refine gw_le (L' := [none, none, none]) (gm_le_n _ (gm_le_n _ (gm_le_n _ gm_le_nil))) ?_
      exact ok256_35 c d Post _ _ w _ hR
  · replace w := w.2 z1
    refine gw_pst hk 1 (st' := (9, [some (.int x0), some (.int x1), none], [.int x0], h)) rfl ?_
    exact gw_ret (hk _ _ rfl) rfl ⟨_, hR, w⟩
def wb257_2 (c : gx) (d : Nat) (Post : Option Value → gs → Prop) (K2 : Int32 → Int32 → Int32 → gs → Prop) (x0 : Int32) (x1 : Int32) (x2 : Int32) (s : gs) : Prop :=
  ((9 < x2 → Post (some (.int 1)) s) ∧ (¬ (9 < x2) → tE c d 256 [.int x2, .int x1] s (fun v2 s_2 => ∃ x_2 : Int32, v2 = some (.int x_2) ∧ tE c d 256 [.int x0, .int x1] s_2 (fun v3 s_3 => ∃ x_3 : Int32, v3 = some (.int x_3) ∧ ((x_2 ≤ x_3 → K2 x0 x1 (x2 + 1) s_3) ∧ (¬ (x_2 ≤ x_3) → Post (some (.int 0)) s_3))))))
theorem okb257_2 (c : gx) (d : Nat) (Post : Option Value → gs → Prop) (K2 : Int32 → Int32 → Int32 → gs → Prop)  (hK2 : ∀ (x0 : Int32) (x1 : Int32) (x2 : Int32) (s : gs), K2 x0 x1 x2 s → tV c d 257 2 [some (.int x0), some (.int x1), some (.int x2)] [] s Post) (x0 : Int32) (x1 : Int32) (x2 : Int32) (s : gs) (w : wb257_2 c d Post K2 x0 x1 x2 s) : tV c d 257 2 [some (.int x0), some (.int x1), some (.int x2)] [] s Post := by
  intro h hR
  have hk : ∀ pc i, gm_find gk_257 pc = some i → gm_code (gt_T c.1 c.2.1 c.2.2.1) 257 pc = some i := fun _ _ z => z
  unfold wb257_2 at w
  unfold gV
  refine gw_pst hk 2 (st' := (5, [some (.int x0), some (.int x1), some (.int x2)], [.int 9, .int x2], h)) rfl ?_
  refine gw_br (c := 9 < x2) (a := (29, [some (.int x0), some (.int x1), some (.int x2)], [], h)) (b := (8, [some (.int x0), some (.int x1), some (.int x2)], [], h)) (hk _ _ rfl) rfl ⟨fun z1 => ?_, fun z1 => ?_⟩
  · replace w := w.1 z1
    refine gw_pst hk 1 (st' := (30, [some (.int x0), some (.int x1), some (.int x2)], [.int 1], h)) rfl ?_
    exact gw_ret (hk _ _ rfl) rfl ⟨_, hR, w⟩
  · replace w := w.2 z1
    refine gw_pst hk 2 (st' := (10, [some (.int x0), some (.int x1), some (.int x2)], [.int x1, .int x2], h)) rfl ?_
    refine gw_call (jj := 256) (As := [.int x2, .int x1]) (rest := []) (hk _ _ rfl) (fun _ => rfl) rfl rfl (Nat.le_of_ble_eq_true rfl) rfl ?_
    refine ge_imp (w h hR) (fun v2 h w => ?_)
    obtain ⟨s_2, hR, x_2, rfl, w⟩ := w
    show gw (gt_T c.1 c.2.1 c.2.2.1) c.2.2.2 d 257 (13, [some (.int x0), some (.int x1), some (.int x2)], [.int x_2], h) _
    refine gw_pst hk 2 (st' := (15, [some (.int x0), some (.int x1), some (.int x2)], [.int x1, .int x0, .int x_2], h)) rfl ?_
    refine gw_call (jj := 256) (As := [.int x0, .int x1]) (rest := [.int x_2]) (hk _ _ rfl) (fun _ => rfl) rfl rfl (Nat.le_of_ble_eq_true rfl) rfl ?_
    refine ge_imp (w h hR) (fun v3 h w => ?_)
    obtain ⟨s_3, hR, x_3, rfl, w⟩ := w
    show gw (gt_T c.1 c.2.1 c.2.2.1) c.2.2.2 d 257 (18, [some (.int x0), some (.int x1), some (.int x2)], [.int x_3, .int x_2], h) _
    refine gw_br (c := x_2 ≤ x_3) (a := (23, [some (.int x0), some (.int x1), some (.int x2)], [], h)) (b := (21, [some (.int x0), some (.int x1), some (.int x2)], [], h)) (hk _ _ rfl) rfl ⟨fun z4 => ?_, fun z4 => ?_⟩
    · replace w := w.1 z4
      refine gw_pst hk 2 (st' := (2, [some (.int x0), some (.int x1), some (.int (x2 + 1))], [], h)) rfl ?_
      exact hK2 _ _ _ _ w _ hR
    · replace w := w.2 z4
      refine gw_pst hk 1 (st' := (22, [some (.int x0), some (.int x1), some (.int x2)], [.int 0], h)) rfl ?_
      exact gw_ret (hk _ _ rfl) rfl ⟨_, hR, w⟩
def wl257_2 (c : gx) (d : Nat) (Post : Option Value → gs → Prop) : Nat → Int32 → Int32 → Int32 → gs → Prop
  | 0 => fun _ _ _ _ => False
  | n + 1 => wb257_2 c d Post (wl257_2 c d Post n)
theorem okl257_2 (c : gx) (d : Nat) (Post : Option Value → gs → Prop) : ∀ (n : Nat) (x0 : Int32) (x1 : Int32) (x2 : Int32) (s : gs), wl257_2 c d Post n x0 x1 x2 s → tV c d 257 2 [some (.int x0), some (.int x1), some (.int x2)] [] s Post
  | 0, _, _, _, _, w => w.elim
  | n + 1, x0, x1, x2, s, w => okb257_2 c d Post (wl257_2 c d Post n) (okl257_2 c d Post n) x0 x1 x2 s w
/-- CommandByTurnsModel.isBest(II)Z -/
def wm257 (c : gx) (d : Nat) (Post : Option Value → gs → Prop) (x0 : Int32) (x1 : Int32) (s : gs) : Prop :=
  ∃ n, wl257_2 c d Post n x0 x1 0 s
theorem okm257 (c : gx) (d : Nat) (Post : Option Value → gs → Prop) (x0 : Int32) (x1 : Int32) (s : gs) (w : wm257 c d Post x0 x1 s) : tE c (d + 1) 257 [.int x0, .int x1] s Post := by
  intro h hR
  have hk : ∀ pc i, gm_find gk_257 pc = some i → gm_code (gt_T c.1 c.2.1 c.2.2.1) 257 pc = some i := fun _ _ z => z
  unfold wm257 at w
  refine ge_of (by decide) (Nat.le_of_ble_eq_true rfl) ?_
  show gw (gt_T c.1 c.2.1 c.2.2.1) c.2.2.2 d 257 (0, [some (.int x0), some (.int x1), none], [], h) _
  refine gw_pst hk 2 (st' := (2, [some (.int x0), some (.int x1), some (.int 0)], [], h)) rfl ?_
  obtain ⟨n, w⟩ := w
  exact okl257_2 c d Post n _ _ _ _ w _ hR
def w258_66 (c : gx) (d : Nat) (Post : Option Value → gs → Prop) (K14 : Int32 → Int32 → gs → Prop) (K22 : Int32 → Int32 → Int32 → gs → Prop) (x1 : Int32) (x2 : Int32) (x3 : Int32) (s : gs) : Prop :=
  K22 x1 x2 (x3 + 1) s
theorem ok258_66 (c : gx) (d : Nat) (Post : Option Value → gs → Prop) (K14 : Int32 → Int32 → gs → Prop) (K22 : Int32 → Int32 → Int32 → gs → Prop)  (hK14 : ∀ (x1 : Int32) (x2 : Int32) (s : gs), K14 x1 x2 s → tV c d 258 14 [some (.ref 48), some (.int x1), some (.int x2), none] [] s Post) (hK22 : ∀ (x1 : Int32) (x2 : Int32) (x3 : Int32) (s : gs), K22 x1 x2 x3 s → tV c d 258 22 [some (.ref 48), some (.int x1), some (.int x2), some (.int x3)] [] s Post) (x1 : Int32) (x2 : Int32) (x3 : Int32) (s : gs) (w : w258_66 c d Post K14 K22 x1 x2 x3 s) : tV c d 258 66 [some (.ref 48), some (.int x1), some (.int x2), some (.int x3)] [] s Post := by
  intro h hR
  have hk : ∀ pc i, gm_find gk_258 pc = some i → gm_code (gt_T c.1 c.2.1 c.2.2.1) 258 pc = some i := fun _ _ z => z
  unfold w258_66 at w
  unfold gV
  refine gw_pst hk 2 (st' := (22, [some (.ref 48), some (.int x1), some (.int x2), some (.int (x3 + 1))], [], h)) rfl ?_
  exact hK22 _ _ _ _ w _ hR
def w258_63 (c : gx) (d : Nat) (Post : Option Value → gs → Prop) (K14 : Int32 → Int32 → gs → Prop) (K22 : Int32 → Int32 → Int32 → gs → Prop) (x1 : Int32) (x2 : Int32) (x3 : Int32) (s : gs) : Prop :=
  w258_66 c d Post K14 K22 (x1 + 1) x2 x3 s
theorem ok258_63 (c : gx) (d : Nat) (Post : Option Value → gs → Prop) (K14 : Int32 → Int32 → gs → Prop) (K22 : Int32 → Int32 → Int32 → gs → Prop)  (hK14 : ∀ (x1 : Int32) (x2 : Int32) (s : gs), K14 x1 x2 s → tV c d 258 14 [some (.ref 48), some (.int x1), some (.int x2), none] [] s Post) (hK22 : ∀ (x1 : Int32) (x2 : Int32) (x3 : Int32) (s : gs), K22 x1 x2 x3 s → tV c d 258 22 [some (.ref 48), some (.int x1), some (.int x2), some (.int x3)] [] s Post) (x1 : Int32) (x2 : Int32) (x3 : Int32) (s : gs) (w : w258_63 c d Post K14 K22 x1 x2 x3 s) : tV c d 258 63 [some (.ref 48), some (.int x1), some (.int x2), some (.int x3)] [] s Post := by
  intro h hR
  have hk : ∀ pc i, gm_find gk_258 pc = some i → gm_code (gt_T c.1 c.2.1 c.2.2.1) 258 pc = some i := fun _ _ z => z
  unfold w258_63 at w
  unfold gV
  refine gw_pst hk 1 (st' := (66, [some (.ref 48), some (.int (x1 + 1)), some (.int x2), some (.int x3)], [], h)) rfl ?_
  exact ok258_66 c d Post K14 K22 hK14 hK22 _ _ _ _ w _ hR
def wb258_22 (c : gx) (d : Nat) (Post : Option Value → gs → Prop) (K14 : Int32 → Int32 → gs → Prop) (K22 : Int32 → Int32 → Int32 → gs → Prop) (x1 : Int32) (x2 : Int32) (x3 : Int32) (s : gs) : Prop :=
  ((9 < x3 → K14 x1 (x2 + 1) s) ∧ (¬ (9 < x3) → tE c d 257 [.int x2, .int x3] s (fun v2 s_2 => ∃ x_2 : Int32, v2 = some (.int x_2) ∧ ((x_2 = 0 → w258_66 c d Post K14 K22 x1 x2 x3 s_2) ∧ (¬ (x_2 = 0) → tE c d 257 [.int x3, .int x2] s_2 (fun v4 s_4 => ∃ x_4 : Int32, v4 = some (.int x_4) ∧ ((x_4 = 0 → w258_66 c d Post K14 K22 x1 x2 x3 s_4) ∧ (¬ (x_4 = 0) → ((x1 = 0 → tE c d 157 [.ref 48, .long ((x2 : Int32).toInt64)] s_4 (fun v7 s_7 => v7 = none ∧ tE c d 157 [.ref 48, .long ((x3 : Int32).toInt64)] s_7 (fun v8 s_8 => v8 = none ∧ w258_63 c d Post K14 K22 x1 x2 x3 s_8))) ∧ (¬ (x1 = 0) → w258_63 c d Post K14 K22 x1 x2 x3 s_4))))))))))
theorem okb258_22 (c : gx) (d : Nat) (Post : Option Value → gs → Prop) (K14 : Int32 → Int32 → gs → Prop) (K22 : Int32 → Int32 → Int32 → gs → Prop)  (hK14 : ∀ (x1 : Int32) (x2 : Int32) (s : gs), K14 x1 x2 s → tV c d 258 14 [some (.ref 48), some (.int x1), some (.int x2), none] [] s Post) (hK22 : ∀ (x1 : Int32) (x2 : Int32) (x3 : Int32) (s : gs), K22 x1 x2 x3 s → tV c d 258 22 [some (.ref 48), some (.int x1), some (.int x2), some (.int x3)] [] s Post) (x1 : Int32) (x2 : Int32) (x3 : Int32) (s : gs) (w : wb258_22 c d Post K14 K22 x1 x2 x3 s) : tV c d 258 22 [some (.ref 48), some (.int x1), some (.int x2), some (.int x3)] [] s Post := by
  intro h hR
  have hk : ∀ pc i, gm_find gk_258 pc = some i → gm_code (gt_T c.1 c.2.1 c.2.2.1) 258 pc = some i := fun _ _ z => z
  unfold wb258_22 at w
  unfold gV
  refine gw_pst hk 2 (st' := (25, [some (.ref 48), some (.int x1), some (.int x2), some (.int x3)], [.int 9, .int x3], h)) rfl ?_
  refine gw_br (c := 9 < x3) (a := (72, [some (.ref 48), some (.int x1), some (.int x2), some (.int x3)], [], h)) (b := (28, [some (.ref 48), some (.int x1), some (.int x2), some (.int x3)], [], h)) (hk _ _ rfl) rfl ⟨fun z1 => ?_, fun z1 => ?_⟩
  · replace w := w.1 z1
    refine gw_pst hk 2 (st' := (14, [some (.ref 48), some (.int x1), some (.int (x2 + 1)), some (.int x3)], [], h)) rfl ?_
    refine gw_le (L' := [some (.ref 48), some (.int x1), some (.int (x2 + 1)), none]) (gm_le_k _ (gm_le_k _ (gm_le_k _ (gm_le_n _ gm_le_nil)))) ?_
    exact hK14 _ _ _ w _ hR
  · replace w := w.2 z1
    refine gw_pst hk 2 (st' := (30, [some (.ref 48), some (.int x1), some (.int x2), some (.int x3)], [.int x3, .int x2], h)) rfl ?_
    refine gw_call (jj := 257) (As := [.int x2, .int x3]) (rest := []) (hk _ _ rfl) (fun _ => rfl) rfl rfl (Nat.le_of_ble_eq_true rfl) rfl ?_
    refine ge_imp (w h hR) (fun v2 h w => ?_)
    obtain ⟨s_2, hR, x_2, rfl, w⟩ := w
    show gw (gt_T c.1 c.2.1 c.2.2.1) c.2.2.2 d 258 (33, [some (.ref 48), some (.int x1), some (.int x2), some (.int x3)], [.int x_2], h) _
    refine gw_br (c := x_2 = 0) (a := (66, [some (.ref 48), some (.int x1), some (.int x2), some (.int x3)], [], h)) (b := (36, [some (.ref 48), some (.int x1), some (.int x2), some (.int x3)], [], h)) (hk _ _ rfl) rfl ⟨fun z3 => ?_, fun z3 => ?_⟩
    · replace w := w.1 z3
      exact ok258_66 c d Post K14 K22 hK14 hK22 _ _ _ _ w _ hR
    · replace w := w.2 z3
      refine gw_pst hk 2 (st' := (38, [some (.ref 48), some (.int x1), some (.int x2), some (.int x3)], [.int x2, .int x3], h)) rfl ?_
      refine gw_call (jj := 257) (As := [.int x3, .int x2]) (rest := []) (hk _ _ rfl) (fun _ => rfl) rfl rfl (Nat.le_of_ble_eq_true rfl) rfl ?_
      refine ge_imp (w h hR) (fun v4 h w => ?_)
      obtain ⟨s_4, hR, x_4, rfl, w⟩ := w
      show gw (gt_T c.1 c.2.1 c.2.2.1) c.2.2.2 d 258 (41, [some (.ref 48), some (.int x1), some (.int x2), some (.int x3)], [.int x_4], h) _
      refine gw_br (c := x_4 = 0) (a := (44, [some (.ref 48), some (.int x1), some (.int x2), some (.int x3)], [], h)) (b := (47, [some (.ref 48), some (.int x1), some (.int x2), some (.int x3)], [], h)) (hk _ _ rfl) rfl ⟨fun z5 => ?_, fun z5 => ?_⟩
      · replace w := w.1 z5
        refine gw_pst hk 1 (st' := (66, [some (.ref 48), some (.int x1), some (.int x2), some (.int x3)], [], h)) rfl ?_
        exact ok258_66 c d Post K14 K22 hK14 hK22 _ _ _ _ w _ hR
      · replace w := w.2 z5
        refine gw_pst hk 1 (st' := (48, [some (.ref 48), some (.int x1), some (.int x2), some (.int x3)], [.int x1], h)) rfl ?_
        refine gw_br (c := x1 = 0) (a := (51, [some (.ref 48), some (.int x1), some (.int x2), some (.int x3)], [], h)) (b := (63, [some (.ref 48), some (.int x1), some (.int x2), some (.int x3)], [], h)) (hk _ _ rfl) rfl ⟨fun z6 => ?_, fun z6 => ?_⟩
        · replace w := w.1 z6
          refine gw_pst hk 3 (st' := (54, [some (.ref 48), some (.int x1), some (.int x2), some (.int x3)], [.long ((x2 : Int32).toInt64), .ref 48], h)) rfl ?_
          obtain ⟨fs7, e7⟩ := RL_o hR (r := 48) (ci := 10) rfl
          refine gw_call (jj := 157) (As := [.ref 48, .long ((x2 : Int32).toInt64)]) (rest := []) (hk _ _ rfl) (fun _ => rfl) rfl rfl (Nat.le_of_ble_eq_true rfl) (gm_rcv_v rfl e7 rfl) ?_
          refine ge_imp (w h hR) (fun v7 h w => ?_)
          obtain ⟨s_7, hR, rfl, w⟩ := w
          show gw (gt_T c.1 c.2.1 c.2.2.1) c.2.2.2 d 258 (57, [some (.ref 48), some (.int x1), some (.int x2), some (.int x3)], [], h) _
          refine gw_pst hk 3 (st' := (60, [some (.ref 48), some (.int x1), some (.int x2), some (.int x3)], [.long ((x3 : Int32).toInt64), .ref 48], h)) rfl ?_
          obtain ⟨fs8, e8⟩ := RL_o hR (r := 48) (ci := 10) rfl
          refine gw_call (jj := 157) (As := [.ref 48, .long ((x3 : Int32).toInt64)]) (rest := []) (hk _ _ rfl) (fun _ => rfl) rfl rfl (Nat.le_of_ble_eq_true rfl) (gm_rcv_v rfl e8 rfl) ?_
          refine ge_imp (w h hR) (fun v8 h w => ?_)
          obtain ⟨s_8, hR, rfl, w⟩ := w
          show gw (gt_T c.1 c.2.1 c.2.2.1) c.2.2.2 d 258 (63, [some (.ref 48), some (.int x1), some (.int x2), some (.int x3)], [], h) _
          exact ok258_63 c d Post K14 K22 hK14 hK22 _ _ _ _ w _ hR
        · replace w := w.2 z6
          exact ok258_63 c d Post K14 K22 hK14 hK22 _ _ _ _ w _ hR
def wl258_22 (c : gx) (d : Nat) (Post : Option Value → gs → Prop) (K14 : Int32 → Int32 → gs → Prop) : Nat → Int32 → Int32 → Int32 → gs → Prop
  | 0 => fun _ _ _ _ => False
  | n + 1 => wb258_22 c d Post K14 (wl258_22 c d Post K14 n)
theorem okl258_22 (c : gx) (d : Nat) (Post : Option Value → gs → Prop) (K14 : Int32 → Int32 → gs → Prop) (hK14 : ∀ (x1 : Int32) (x2 : Int32) (s : gs), K14 x1 x2 s → tV c d 258 14 [some (.ref 48), some (.int x1), some (.int x2), none] [] s Post) : ∀ (n : Nat) (x1 : Int32) (x2 : Int32) (x3 : Int32) (s : gs), wl258_22 c d Post K14 n x1 x2 x3 s → tV c d 258 22 [some (.ref 48), some (.int x1), some (.int x2), some (.int x3)] [] s Post
  | 0, _, _, _, _, w => w.elim
  | n + 1, x1, x2, x3, s, w => okb258_22 c d Post K14 (wl258_22 c d Post K14 n) hK14 (okl258_22 c d Post K14 hK14 n) x1 x2 x3 s w
def wb258_14 (c : gx) (d : Nat) (Post : Option Value → gs → Prop) (K14 : Int32 → Int32 → gs → Prop) (x1 : Int32) (x2 : Int32) (s : gs) : Prop :=
  ((9 < x2 → Post (some (.int x1)) s) ∧ (¬ (9 < x2) → ∃ n, wl258_22 c d Post K14 n x1 x2 0 s))
theorem okb258_14 (c : gx) (d : Nat) (Post : Option Value → gs → Prop) (K14 : Int32 → Int32 → gs → Prop)  (hK14 : ∀ (x1 : Int32) (x2 : Int32) (s : gs), K14 x1 x2 s → tV c d 258 14 [some (.ref 48), some (.int x1), some (.int x2), none] [] s Post) (x1 : Int32) (x2 : Int32) (s : gs) (w : wb258_14 c d Post K14 x1 x2 s) : tV c d 258 14 [some (.ref 48), some (.int x1), some (.int x2), none] [] s Post := by
  intro h hR
  have hk : ∀ pc i, gm_find gk_258 pc = some i → gm_code (gt_T c.1 c.2.1 c.2.2.1) 258 pc = some i := fun _ _ z => z
  unfold wb258_14 at w
  unfold gV
  refine gw_pst hk 2 (st' := (17, [some (.ref 48), some (.int x1), some (.int x2), none], [.int 9, .int x2], h)) rfl ?_
  refine gw_br (c := 9 < x2) (a := (78, [some (.ref 48), some (.int x1), some (.int x2), none], [], h)) (b := (20, [some (.ref 48), some (.int x1), some (.int x2), none], [], h)) (hk _ _ rfl) rfl ⟨fun z1 => ?_, fun z1 => ?_⟩
  · replace w := w.1 z1
    refine gw_pst hk 1 (st' := (79, [some (.ref 48), some (.int x1), some (.int x2), none], [.int x1], h)) rfl ?_
    exact gw_ret (hk _ _ rfl) rfl ⟨_, hR, w⟩
  · replace w := w.2 z1
    refine gw_pst hk 2 (st' := (22, [some (.ref 48), some (.int x1), some (.int x2), some (.int 0)], [], h)) rfl ?_
    obtain ⟨n, w⟩ := w
    exact okl258_22 c d Post K14 hK14 n _ _ _ _ w _ hR
def wl258_14 (c : gx) (d : Nat) (Post : Option Value → gs → Prop) : Nat → Int32 → Int32 → gs → Prop
  | 0 => fun _ _ _ => False
  | n + 1 => wb258_14 c d Post (wl258_14 c d Post n)
theorem okl258_14 (c : gx) (d : Nat) (Post : Option Value → gs → Prop) : ∀ (n : Nat) (x1 : Int32) (x2 : Int32) (s : gs), wl258_14 c d Post n x1 x2 s → tV c d 258 14 [some (.ref 48), some (.int x1), some (.int x2), none] [] s Post
  | 0, _, _, _, w => w.elim
  | n + 1, x1, x2, s, w => okb258_14 c d Post (wl258_14 c d Post n) (okl258_14 c d Post n) x1 x2 s w
/-- CommandByTurnsModel.rests()I -/
def wm258 (c : gx) (d : Nat) (Post : Option Value → gs → Prop)  (s : gs) : Prop :=
  ∀ s_1 : gs, s_1 = gs_V s 48 13 0 → ∀ s_2 : gs, s_2 = gs_V s_1 48 12 0 → ∃ n, wl258_14 c d Post n 0 0 s_2
theorem okm258 (c : gx) (d : Nat) (Post : Option Value → gs → Prop)  (s : gs) (w : wm258 c d Post  s) : tE c (d + 1) 258 [.ref 48] s Post := by
  intro h hR
  have hk : ∀ pc i, gm_find gk_258 pc = some i → gm_code (gt_T c.1 c.2.1 c.2.2.1) 258 pc = some i := fun _ _ z => z
  unfold wm258 at w
  refine ge_of (by decide) (Nat.le_of_ble_eq_true rfl) ?_
  show gw (gt_T c.1 c.2.1 c.2.2.1) c.2.2.2 d 258 (0, [some (.ref 48), none, none, none], [], h) _
  refine gw_pst hk 2 (st' := (2, [some (.ref 48), none, none, none], [.int 0, .ref 48], h)) rfl ?_
  obtain ⟨fs1, e1⟩ := RL_o hR (r := 48) (ci := 10) rfl
  obtain ⟨l1, hR1⟩ := RL_pI (k := 13) (x := 0) hR rfl e1
  refine gw_pf (hk _ _ rfl) e1 l1 rfl ?_
  generalize gm_put h _ _ = h at hR1 ⊢
  obtain ⟨s_1, es1⟩ : ∃ z, z = gs_V s 48 13 0 := ⟨_, rfl⟩
  rw [← es1] at hR1
  replace w := w s_1 es1
  replace hR := hR1
  refine gw_pst hk 4 (st' := (9, [some (.ref 48), some (.int 0), none, none], [.int 0, .ref 48], h)) rfl ?_
  obtain ⟨fs2, e2⟩ := RL_o hR (r := 48) (ci := 10) rfl
  obtain ⟨l2, hR2⟩ := RL_pI (k := 12) (x := 0) hR rfl e2
  refine gw_pf (hk _ _ rfl) e2 l2 rfl ?_
  generalize gm_put h _ _ = h at hR2 ⊢
  obtain ⟨s_2, es2⟩ : ∃ z, z = gs_V s_1 48 12 0 := ⟨_, rfl⟩
  rw [← es2] at hR2
  replace w := w s_2 es2
  replace hR := hR2
  refine gw_pst hk 2 (st' := (14, [some (.ref 48), some (.int 0), some (.int 0), none], [], h)) rfl ?_
  obtain ⟨n, w⟩ := w
  exact okl258_14 c d Post n _ _ _ w _ hR
def w259_205 (c : gx) (d : Nat) (Post : Option Value → gs → Prop) (K37 : Int32 → Int32 → Int32 → Int32 → gs → Prop) (x2 : Int32) (x3 : Int32) (x4 : Int32) (x5 : Int32) (s : gs) : Prop :=
  tE c d 197 [.ref 65] s (fun v2 s_2 => v2 = none ∧ K37 x2 x3 x4 (x5 + 1) s_2)
theorem ok259_205 (c : gx) (d : Nat) (Post : Option Value → gs → Prop) (K37 : Int32 → Int32 → Int32 → Int32 → gs → Prop)  (hK37 : ∀ (x2 : Int32) (x3 : Int32) (x4 : Int32) (x5 : Int32) (s : gs), K37 x2 x3 x4 x5 s → tV c d 259 37 [some (.ref 48), none, some (.int x2), some (.int x3), some (.int x4), some (.int x5), none, none, none, none] [] s Post) (x2 : Int32) (x3 : Int32) (x4 : Int32) (x5 : Int32) (s : gs) (w : w259_205 c d Post K37 x2 x3 x4 x5 s) : tV c d 259 205 [some (.ref 48), none, some (.int x2), some (.int x3), some (.int x4), some (.int x5), none, none, none, none] [] s Post := by
  intro h hR
  have hk : ∀ pc i, gm_find gk_259 pc = some i → gm_code (gt_T c.1 c.2.1 c.2.2.1) 259 pc = some i := fun _ _ z => z
  unfold w259_205 at w
  unfold gV
  refine gw_pst hk 1 (st' := (206, [some (.ref 48), none, some (.int x2), some (.int x3), some (.int x4), some (.int x5), none, none, none, none], [.ref 48], h)) rfl ?_
  refine gw_gf (hk _ _ rfl) (RL_fR (n := 65) hR rfl) ?_
  refine gw_call (jj := 197) (As := [.ref 65]) (rest := []) (hk _ _ rfl) (fun _ => rfl) rfl rfl (Nat.le_of_ble_eq_true rfl) rfl ?_
  refine ge_imp (w h hR) (fun v2 h w => ?_)
  obtain ⟨s_2, hR, rfl, w⟩ := w
  show gw (gt_T c.1 c.2.1 c.2.2.1) c.2.2.2 d 259 (212, [some (.ref 48), none, some (.int x2), some (.int x3), some (.int x4), some (.int x5), none, none, none, none], [], h) _
  refine gw_pst hk 2 (st' := (37, [some (.ref 48), none, some (.int x2), some (.int x3), some (.int x4), some (.int (x5 + 1)), none, none, none, none], [], h)) rfl ?_
  exact hK37 _ _ _ _ _ w _ hR
def w259_171 (c : gx) (d : Nat) (Post : Option Value → gs → Prop) (K37 : Int32 → Int32 → Int32 → Int32 → gs → Prop) (x2 : Int32) (x3 : Int32) (x4 : Int32) (x5 : Int32) (x6 : Int32) (x7 : Int32) (s : gs) : Prop :=
  ((x7 = 0 → w259_205 c d Post K37 x2 x3 x4 x5 s) ∧ (¬ (x7 = 0) → ((x6 = 2 → tE c d 203 [.ref 48, .ref 65] s (fun v4 s_4 => ∃ x_4 : Int32, v4 = some (.int x_4) ∧ ((x_4 = 0 → tE c d 204 [.ref 48, .ref 65] s_4 (fun v7 s_7 => ∃ x_7 : Int32, v7 = some (.int x_7) ∧ w259_205 c d Post K37 x2 x3 (x4 + 1) x5 s_7)) ∧ (¬ (x_4 = 0) → w259_205 c d Post K37 x2 x3 x4 x5 s_4)))) ∧ (¬ (x6 = 2) → w259_205 c d Post K37 x2 x3 x4 x5 s))))
theorem ok259_171 (c : gx) (d : Nat) (Post : Option Value → gs → Prop) (K37 : Int32 → Int32 → Int32 → Int32 → gs → Prop)  (hK37 : ∀ (x2 : Int32) (x3 : Int32) (x4 : Int32) (x5 : Int32) (s : gs), K37 x2 x3 x4 x5 s → tV c d 259 37 [some (.ref 48), none, some (.int x2), some (.int x3), some (.int x4), some (.int x5), none, none, none, none] [] s Post) (x2 : Int32) (x3 : Int32) (x4 : Int32) (x5 : Int32) (x6 : Int32) (x7 : Int32) (s : gs) (w : w259_171 c d Post K37 x2 x3 x4 x5 x6 x7 s) : tV c d 259 171 [some (.ref 48), none, some (.int x2), some (.int x3), some (.int x4), some (.int x5), some (.int x6), some (.int x7), none, none] [] s Post := by
  intro h hR
  have hk : ∀ pc i, gm_find gk_259 pc = some i → gm_code (gt_T c.1 c.2.1 c.2.2.1) 259 pc = some i := fun _ _ z => z
  unfold w259_171 at w
  unfold gV
  refine gw_pst hk 1 (st' := (173, [some (.ref 48), none, some (.int x2), some (.int x3), some (.int x4), some (.int x5), some (.int x6), some (.int x7), none, none], [.int x7], h)) rfl ?_
  refine gw_br (c := x7 = 0) (a := (205, [some (.ref 48), none, some (.int x2), some (.int x3), some (.int x4), some (.int x5), some (.int x6), some (.int x7), none, none], [], h)) (b := (176, [some (.ref 48), none, some (.int x2), some (.int x3), some (.int x4), some (.int x5), some (.int x6), some (.int x7), none, none], [], h)) (hk _ _ rfl) rfl ⟨fun z1 => ?_, fun z1 => ?_⟩
  · replace w := w.1 z1
    refine gw_le (L' := [some (.ref 48), none, some (.int x2), some (.int x3), some (.int x4), some (.int x5), none, none, none, none]) (gm_le_k _ (gm_le_k _ (gm_le_k _ (gm_le_k _ (gm_le_k _ (gm_le_k _ (gm_le_n _ (gm_le_n _ (gm_le_k _ (gm_le_k _ gm_le_nil)))))))))) ?_
    exact ok259_205 c d Post K37 hK37 _ _ _ _ _ w _ hR
  · replace w := w.2 z1
    refine gw_pst hk 2 (st' := (179, [some (.ref 48), none, some (.int x2), some (.int x3), some (.int x4), some (.int x5), some (.int x6), some (.int x7), none, none], [.int 2, .int x6], h)) rfl ?_
    refine gw_br (c := x6 = 2) (a := (182, [some (.ref 48), none, some (.int x2), some (.int x3), some (.int x4), some (.int x5), some (.int x6), some (.int x7), none, none], [], h)) (b := (205, [some (.ref 48), none, some (.int x2), some (.int x3), some (.int x4), some (.int x5), some (.int x6), some (.int x7), none, none], [], h)) (hk _ _ rfl) rfl ⟨fun z2 => ?_, fun z2 => ?_⟩
    · replace w := w.1 z2
      refine gw_pst hk 2 (st' := (184, [some (.ref 48), none, some (.int x2), some (.int x3), some (.int x4), some (.int x5), some (.int x6), some (.int x7), none, none], [.ref 48, .ref 48], h)) rfl ?_
      refine gw_gf (hk _ _ rfl) (RL_fR (n := 65) hR rfl) ?_
      obtain ⟨fs4, e4⟩ := RL_o hR (r := 48) (ci := 10) rfl
      refine gw_call (jj := 203) (As := [.ref 48, .ref 65]) (rest := []) (hk _ _ rfl) (fun _ => rfl) rfl rfl (Nat.le_of_ble_eq_true rfl) (gm_rcv_v rfl e4 rfl) ?_
      refine ge_imp (w h hR) (fun v4 h w => ?_)
      obtain ⟨s_4, hR, x_4, rfl, w⟩ := w
      show gw (gt_T c.1 c.2.1 c.2.2.1) c.2.2.2 d 259 (190, [some (.ref 48), none, some (.int x2), some (.int x3), some (.int x4), some (.int x5), some (.int x6), some (.int x7), none, none], [.int x_4], h) _
      refine gw_br (c := x_4 = 0) (a := (193, [some (.ref 48), none, some (.int x2), some (.int x3), some (.int x4), some (.int x5), some (.int x6), some (.int x7), none, none], [], h)) (b := (205, [some (.ref 48), none, some (.int x2), some (.int x3), some (.int x4), some (.int x5), some (.int x6), some (.int x7), none, none], [], h)) (hk _ _ rfl) rfl ⟨fun z5 => ?_, fun z5 => ?_⟩
      · replace w := w.1 z5
        refine gw_pst hk 2 (st' := (195, [some (.ref 48), none, some (.int x2), some (.int x3), some (.int x4), some (.int x5), some (.int x6), some (.int x7), none, none], [.ref 48, .ref 48], h)) rfl ?_
        refine gw_gf (hk _ _ rfl) (RL_fR (n := 65) hR rfl) ?_
        obtain ⟨fs7, e7⟩ := RL_o hR (r := 48) (ci := 10) rfl
        refine gw_call (jj := 204) (As := [.ref 48, .ref 65]) (rest := []) (hk _ _ rfl) (fun _ => rfl) rfl rfl (Nat.le_of_ble_eq_true rfl) (gm_rcv_v rfl e7 rfl) ?_
        refine ge_imp (w h hR) (fun v7 h w => ?_)
        obtain ⟨s_7, hR, x_7, rfl, w⟩ := w
        show gw (gt_T c.1 c.2.1 c.2.2.1) c.2.2.2 d 259 (201, [some (.ref 48), none, some (.int x2), some (.int x3), some (.int x4), some (.int x5), some (.int x6), some (.int x7), none, none], [.int x_7], h) _
        refine gw_pst hk 2 (st' := (205, [some (.ref 48), none, some (.int x2), some (.int x3), some (.int (x4 + 1)), some (.int x5), some (.int x6), some (.int x7), none, none], [], h)) rfl ?_
        refine gw_le (L' := [some (.ref 48), none, some (.int x2), some (.int x3), some (.int (x4 + 1)), some (.int x5), none, none, none, none]) (gm_le_k _ (gm_le_k _ (gm_le_k _ (gm_le_k _ (gm_le_k _ (gm_le_k _ (gm_le_n _ (gm_le_n _ (gm_le_k _ (gm_le_k _ gm_le_nil)))))))))) ?_
        exact ok259_205 c d Post K37 hK37 _ _ _ _ _ w _ hR
      · replace w := w.2 z5
        refine gw_le (L' := [some (.ref 48), none, some (.int x2), some (.int x3), some (.int x4), some (.int x5), none, none, none, none]) (gm_le_k _ (gm_le_k _ (gm_le_k _ (gm_le_k _ (gm_le_k _ (gm_le_k _ (gm_le_n _ (gm_le_n _ (gm_le_k _ (gm_le_k _ gm_le_nil)))))))))) ?_
        exact ok259_205 c d Post K37 hK37 _ _ _ _ _ w _ hR
    · replace w := w.2 z2
      refine gw_le (L' := [some (.ref 48), none, some (.int x2), some (.int x3), some (.int x4), some (.int x5), none, none, none, none]) (gm_le_k _ (gm_le_k _ (gm_le_k _ (gm_le_k _ (gm_le_k _ (gm_le_k _ (gm_le_n _ (gm_le_n _ (gm_le_k _ (gm_le_k _ gm_le_nil)))))))))) ?_
      exact ok259_205 c d Post K37 hK37 _ _ _ _ _ w _ hR
def w259_143 (c : gx) (d : Nat) (Post : Option Value → gs → Prop) (K37 : Int32 → Int32 → Int32 → Int32 → gs → Prop) (x2 : Int32) (x3 : Int32) (x4 : Int32) (x5 : Int32) (x6 : Int32) (x7 : Int32) (x9 : Int32) (s : gs) : Prop :=
  ((x7 = 0 → w259_171 c d Post K37 x2 x3 x4 x5 x6 x7 s) ∧ (¬ (x7 = 0) → ((x6 = 1 → tE c d 158 [.ref 48, .int x9] s (fun v3 s_3 => ∃ x_3 : Int32, v3 = some (.int x_3) ∧ ((x_3 = 0 → w259_171 c d Post K37 x2 x3 x4 x5 x6 x7 s_3) ∧ (¬ (x_3 = 0) → vp_in 1 108 ∧ ∀ s_6 : gs, s_6 = gs_A s_3 65 (1 : Int32).toNatClampNeg (vp_nar .int x9) → w259_171 c d Post K37 x2 x3 x4 x5 x6 x7 s_6)))) ∧ (¬ (x6 = 1) → w259_171 c d Post K37 x2 x3 x4 x5 x6 x7 s))))
theorem ok259_143 (c : gx) (d : Nat) (Post : Option Value → gs → Prop) (K37 : Int32 → Int32 → Int32 → Int32 → gs → Prop)  (hK37 : ∀ (x2 : Int32) (x3 : Int32) (x4 : Int32) (x5 : Int32) (s : gs), K37 x2 x3 x4 x5 s → tV c d 259 37 [some (.ref 48), none, some (.int x2), some (.int x3), some (.int x4), some (.int x5), none, none, none, none] [] s Post) (x2 : Int32) (x3 : Int32) (x4 : Int32) (x5 : Int32) (x6 : Int32) (x7 : Int32) (x9 : Int32) (s : gs) (w : w259_143 c d Post K37 x2 x3 x4 x5 x6 x7 x9 s) : tV c d 259 143 [some (.ref 48), none, some (.int x2), some (.int x3), some (.int x4), some (.int x5), some (.int x6), some (.int x7), none, some (.int x9)] [] s Post := by
  intro h hR
  have hk : ∀ pc i, gm_find gk_259 pc = some i → gm_code (gt_T c.1 c.2.1 c.2.2.1) 259 pc = some i := fun _ _ z => z
  unfold w259_143 at w
  unfold gV
  refine gw_pst hk 1 (st' := (145, [some (.ref 48), none, some (.int x2), some (.int x3), some (.int x4), some (.int x5), some (.int x6), some (.int x7), none, some (.int x9)], [.int x7], h)) rfl ?_
  refine gw_br (c := x7 = 0) (a := (171, [some (.ref 48), none, some (.int x2), some (.int x3), some (.int x4), some (.int x5), some (.int x6), some (.int x7), none, some (.int x9)], [], h)) (b := (148, [some (.ref 48), none, some (.int x2), some (.int x3), some (.int x4), some (.int x5), some (.int x6), some (.int x7), none, some (.int x9)], [], h)) (hk _ _ rfl) rfl ⟨fun z1 => ?_, fun z1 => ?_⟩
  · replace w := w.1 z1
    refine gw_le (L' := [some (.ref 48), none, some (.int x2), some (.int x3), some (.int x4), some (.int x5), some (.int x6), some (.int x7), none, none]) (gm_le_k _ (gm_le_k _ (gm_le_k _ (gm_le_k _ (gm_le_k _ (gm_le_k _ (gm_le_k _ (gm_le_k _ (gm_le_k _ (gm_le_n _ gm_le_nil)))))))))) ?_
    exact ok259_171 c d Post K37 hK37 _ _ _ _ _ _ _ w _ hR
  · replace w := w.2 z1
    refine gw_pst hk 2 (st' := (151, [some (.ref 48), none, some (.int x2), some (.int x3), some (.int x4), some (.int x5), some (.int x6), some (.int x7), none, some (.int x9)], [.int 1, .int x6], h)) rfl ?_
    refine gw_br (c := x6 = 1) (a := (154, [some (.ref 48), none, some (.int x2), some (.int x3), some (.int x4), some (.int x5), some (.int x6), some (.int x7), none, some (.int x9)], [], h)) (b := (171, [some (.ref 48), none, some (.int x2), some (.int x3), some (.int x4), some (.int x5), some (.int x6), some (.int x7), none, some (.int x9)], [], h)) (hk _ _ rfl) rfl ⟨fun z2 => ?_, fun z2 => ?_⟩
    · replace w := w.1 z2
      refine gw_pst hk 2 (st' := (157, [some (.ref 48), none, some (.int x2), some (.int x3), some (.int x4), some (.int x5), some (.int x6), some (.int x7), none, some (.int x9)], [.int x9, .ref 48], h)) rfl ?_
      obtain ⟨fs3, e3⟩ := RL_o hR (r := 48) (ci := 10) rfl
      refine gw_call (jj := 158) (As := [.ref 48, .int x9]) (rest := []) (hk _ _ rfl) (fun _ => rfl) rfl rfl (Nat.le_of_ble_eq_true rfl) (gm_rcv_v rfl e3 rfl) ?_
      refine ge_imp (w h hR) (fun v3 h w => ?_)
      obtain ⟨s_3, hR, x_3, rfl, w⟩ := w
      show gw (gt_T c.1 c.2.1 c.2.2.1) c.2.2.2 d 259 (160, [some (.ref 48), none, some (.int x2), some (.int x3), some (.int x4), some (.int x5), some (.int x6), some (.int x7), none, some (.int x9)], [.int x_3], h) _
      refine gw_br (c := x_3 = 0) (a := (171, [some (.ref 48), none, some (.int x2), some (.int x3), some (.int x4), some (.int x5), some (.int x6), some (.int x7), none, some (.int x9)], [], h)) (b := (163, [some (.ref 48), none, some (.int x2), some (.int x3), some (.int x4), some (.int x5), some (.int x6), some (.int x7), none, some (.int x9)], [], h)) (hk _ _ rfl) rfl ⟨fun z4 => ?_, fun z4 => ?_⟩
      · replace w := w.1 z4
        refine gw_le (L' := [some (.ref 48), none, some (.int x2), some (.int x3), some (.int x4), some (.int x5), some (.int x6), some (.int x7), none, none]) (gm_le_k _ (gm_le_k _ (gm_le_k _ (gm_le_k _ (gm_le_k _ (gm_le_k _ (gm_le_k _ (gm_le_k _ (gm_le_k _ (gm_le_n _ gm_le_nil)))))))))) ?_
        exact ok259_171 c d Post K37 hK37 _ _ _ _ _ _ _ w _ hR
      · replace w := w.2 z4
        refine gw_pst hk 1 (st' := (164, [some (.ref 48), none, some (.int x2), some (.int x3), some (.int x4), some (.int x5), some (.int x6), some (.int x7), none, some (.int x9)], [.ref 48], h)) rfl ?_
        refine gw_gf (hk _ _ rfl) (RL_fR (n := 65) hR rfl) ?_
        refine gw_pst hk 2 (st' := (170, [some (.ref 48), none, some (.int x2), some (.int x3), some (.int x4), some (.int x5), some (.int x6), some (.int x7), none, some (.int x9)], [.int x9, .int 1, .ref 65], h)) rfl ?_
        obtain ⟨b6, w⟩ := w
        have hR6 := RL_pA (a := 65) (t := 0) (n := 108) (k := (1 : Int32).toNatClampNeg) (x := (vp_nar .int x9)) hR rfl (by decide)
        refine gw_ast (hk _ _ rfl) (Or.inl ⟨rfl, rfl, rfl⟩) (RL_a (t := 0) (n := 108) hR rfl (by decide)) b6 ?_
        generalize gm_put h _ _ = h at hR6 ⊢
        obtain ⟨s_6, es6⟩ : ∃ z, z = gs_A s_3 65 (1 : Int32).toNatClampNeg (vp_nar .int x9) := ⟨_, rfl⟩
        rw [← es6] at hR6
        replace w := w s_6 es6
        replace hR := hR6
        refine gw_le (L' := [some (.ref 48), none, some (.int x2), some (.int x3), some (.int x4), some (.int x5), some (.int x6), some (.int x7), none, none]) (gm_le_k _ (gm_le_k _ (gm_le_k _ (gm_le_k _ (gm_le_k _ (gm_le_k _ (gm_le_k _ (gm_le_k _ (gm_le_k _ (gm_le_n _ gm_le_nil)))))))))) ?_
        exact ok259_171 c d Post K37 hK37 _ _ _ _ _ _ _ w _ hR
    · replace w := w.2 z2
      refine gw_le (L' := [some (.ref 48), none, some (.int x2), some (.int x3), some (.int x4), some (.int x5), some (.int x6), some (.int x7), none, none]) (gm_le_k _ (gm_le_k _ (gm_le_k _ (gm_le_k _ (gm_le_k _ (gm_le_k _ (gm_le_k _ (gm_le_k _ (gm_le_k _ (gm_le_n _ gm_le_nil)))))))))) ?_
      exact ok259_171 c d Post K37 hK37 _ _ _ _ _ _ _ w _ hR
def w259_119 (c : gx) (d : Nat) (Post : Option Value → gs → Prop) (K37 : Int32 → Int32 → Int32 → Int32 → gs → Prop) (x2 : Int32) (x3 : Int32) (x4 : Int32) (x5 : Int32) (x6 : Int32) (x7 : Int32) (x8 : Int32) (xs0 : Int32) (xs1 : Int32) (s : gs) : Prop :=
  ((x7 = 0 → w259_143 c d Post K37 x2 x3 x4 x5 x6 x7 (xs0 - xs1) s) ∧ (¬ (x7 = 0) → ((x6 = 0 → vp_in 1 108 ∧ vp_in 1 108 ∧ ∀ s_5 : gs, s_5 = gs_A s 65 (1 : Int32).toNatClampNeg (vp_nar .int ((gsA s 65 (1 : Int32).toNatClampNeg) + x8)) → w259_143 c d Post K37 x2 x3 x4 x5 x6 x7 (xs0 - xs1) s_5) ∧ (¬ (x6 = 0) → w259_143 c d Post K37 x2 x3 x4 x5 x6 x7 (xs0 - xs1) s))))
theorem ok259_119 (c : gx) (d : Nat) (Post : Option Value → gs → Prop) (K37 : Int32 → Int32 → Int32 → Int32 → gs → Prop)  (hK37 : ∀ (x2 : Int32) (x3 : Int32) (x4 : Int32) (x5 : Int32) (s : gs), K37 x2 x3 x4 x5 s → tV c d 259 37 [some (.ref 48), none, some (.int x2), some (.int x3), some (.int x4), some (.int x5), none, none, none, none] [] s Post) (x2 : Int32) (x3 : Int32) (x4 : Int32) (x5 : Int32) (x6 : Int32) (x7 : Int32) (x8 : Int32) (xs0 : Int32) (xs1 : Int32) (s : gs) (w : w259_119 c d Post K37 x2 x3 x4 x5 x6 x7 x8 xs0 xs1 s) : tV c d 259 119 [some (.ref 48), none, some (.int x2), some (.int x3), some (.int x4), some (.int x5), some (.int x6), some (.int x7), some (.int x8), none] [.int xs1, .int xs0] s Post := by
  intro h hR
  have hk : ∀ pc i, gm_find gk_259 pc = some i → gm_code (gt_T c.1 c.2.1 c.2.2.1) 259 pc = some i := fun _ _ z => z
  unfold w259_119 at w
  unfold gV
  refine gw_pst hk 3 (st' := (124, [some (.ref 48), none, some (.int x2), some (.int x3), some (.int x4), some (.int x5), some (.int x6), some (.int x7), some (.int x8), some (.int (xs0 - xs1))], [.int x7], h)) rfl ?_
  refine gw_br (c := x7 = 0) (a := (143, [some (.ref 48), none, some (.int x2), some (.int x3), some (.int x4), some (.int x5), some (.int x6), some (.int x7), some (.int x8), some (.int (xs0 - xs1))], [], h)) (b := (127, [some (.ref 48), none, some (.int x2), some (.int x3), some (.int x4), some (.int x5), some (.int x6), some (.int x7), some (.int x8), some (.int (xs0 - xs1))], [], h)) (hk _ _ rfl) rfl ⟨fun z1 => ?_, fun z1 => ?_⟩
  · replace w := w.1 z1
    refine gw_le (L' := [some (.ref 48), none, some (.int x2), some (.int x3), some (.int x4), some (.int x5), some (.int x6), some (.int x7), none, some (.int (xs0 - xs1))]) (gm_le_k _ (gm_le_k _ (gm_le_k _ (gm_le_k _ (gm_le_k _ (gm_le_k _ (gm_le_k _ (gm_le_k _ (gm_le_n _ (gm_le_k _ gm_le_nil)))))))))) ?_
    exact ok259_143 c d Post K37 hK37 _ _ _ _ _ _ _ _ w _ hR
  · replace w := w.2 z1
    refine gw_pst hk 1 (st' := (129, [some (.ref 48), none, some (.int x2), some (.int x3), some (.int x4), some (.int x5), some (.int x6), some (.int x7), some (.int x8), some (.int (xs0 - xs1))], [.int x6], h)) rfl ?_
    refine gw_br (c := x6 = 0) (a := (132, [some (.ref 48), none, some (.int x2), some (.int x3), some (.int x4), some (.int x5), some (.int x6), some (.int x7), some (.int x8), some (.int (xs0 - xs1))], [], h)) (b := (143, [some (.ref 48), none, some (.int x2), some (.int x3), some (.int x4), some (.int x5), some (.int x6), some (.int x7), some (.int x8), some (.int (xs0 - xs1))], [], h)) (hk _ _ rfl) rfl ⟨fun z2 => ?_, fun z2 => ?_⟩
    · replace w := w.1 z2
      refine gw_pst hk 1 (st' := (133, [some (.ref 48), none, some (.int x2), some (.int x3), some (.int x4), some (.int x5), some (.int x6), some (.int x7), some (.int x8), some (.int (xs0 - xs1))], [.ref 48], h)) rfl ?_
      refine gw_gf (hk _ _ rfl) (RL_fR (n := 65) hR rfl) ?_
      refine gw_pst hk 2 (st' := (138, [some (.ref 48), none, some (.int x2), some (.int x3), some (.int x4), some (.int x5), some (.int x6), some (.int x7), some (.int x8), some (.int (xs0 - xs1))], [.int 1, .ref 65, .int 1, .ref 65], h)) rfl ?_
      obtain ⟨b4, w⟩ := w
      refine gw_ald (hk _ _ rfl) (Or.inl ⟨rfl, rfl⟩) (RL_a (t := 0) (n := 108) hR rfl (by decide)) b4 ?_
      refine gw_pst hk 2 (st' := (142, [some (.ref 48), none, some (.int x2), some (.int x3), some (.int x4), some (.int x5), some (.int x6), some (.int x7), some (.int x8), some (.int (xs0 - xs1))], [.int ((gsA s 65 (1 : Int32).toNatClampNeg) + x8), .int 1, .ref 65], h)) rfl ?_
      obtain ⟨b5, w⟩ := w
      have hR5 := RL_pA (a := 65) (t := 0) (n := 108) (k := (1 : Int32).toNatClampNeg) (x := (vp_nar .int ((gsA s 65 (1 : Int32).toNatClampNeg) + x8))) hR rfl (by decide)
      refine gw_ast (hk _ _ rfl) (Or.inl ⟨rfl, rfl, rfl⟩) (RL_a (t := 0) (n := 108) hR rfl (by decide)) b5 ?_
      generalize gm_put h _ _ = h at hR5 ⊢
      obtain ⟨s_5, es5⟩ : ∃ z, z = gs_A s 65 (1 : Int32).toNatClampNeg (vp_nar .int ((gsA s 65 (1 : Int32).toNatClampNeg) + x8)) := ⟨_, rfl⟩
      rw [← es5] at hR5
      replace w := w s_5 es5
      replace hR := hR5
      refine gw_le (L' := [some (.ref 48), none, some (.int x2), some (.int x3), some (.int x4), some (.int x5), some (.int x6), some (.int x7), none, some (.int (xs0 - xs1))]) (gm_le_k _ (gm_le_k _ (gm_le_k _ (gm_le_k _ (gm_le_k _ (gm_le_k _ (gm_le_k _ (gm_le_k _ (gm_le_n _ (gm_le_k _ gm_le_nil)))))))))) ?_
      exact ok259_143 c d Post K37 hK37 _ _ _ _ _ _ _ _ w _ hR
    · replace w := w.2 z2
      refine gw_le (L' := [some (.ref 48), none, some (.int x2), some (.int x3), some (.int x4), some (.int x5), some (.int x6), some (.int x7), none, some (.int (xs0 - xs1))]) (gm_le_k _ (gm_le_k _ (gm_le_k _ (gm_le_k _ (gm_le_k _ (gm_le_k _ (gm_le_k _ (gm_le_k _ (gm_le_n _ (gm_le_k _ gm_le_nil)))))))))) ?_
      exact ok259_143 c d Post K37 hK37 _ _ _ _ _ _ _ _ w _ hR
def w259_83 (c : gx) (d : Nat) (Post : Option Value → gs → Prop) (K37 : Int32 → Int32 → Int32 → Int32 → gs → Prop) (x2 : Int32) (x3 : Int32) (x4 : Int32) (x5 : Int32) (x6 : Int32) (xs0 : Int32) (s : gs) : Prop :=
  vp_in 2 108 ∧ vp_in 1 108 ∧ tE c d 264 [.int (gsA s 65 (2 : Int32).toNatClampNeg), .int (gsA s 65 (1 : Int32).toNatClampNeg)] s (fun v5 s_5 => ∃ x_5 : Int32, v5 = some (.int x_5) ∧ vp_in 1 108 ∧ ((x_5 = 0 → w259_119 c d Post K37 x2 x3 x4 x5 x6 xs0 x_5 (gsA s_5 65 (1 : Int32).toNatClampNeg) 1 s_5) ∧ (¬ (x_5 = 0) → w259_119 c d Post K37 x2 x3 x4 x5 x6 xs0 x_5 (gsA s_5 65 (1 : Int32).toNatClampNeg) x_5 s_5)))
theorem ok259_83 (c : gx) (d : Nat) (Post : Option Value → gs → Prop) (K37 : Int32 → Int32 → Int32 → Int32 → gs → Prop)  (hK37 : ∀ (x2 : Int32) (x3 : Int32) (x4 : Int32) (x5 : Int32) (s : gs), K37 x2 x3 x4 x5 s → tV c d 259 37 [some (.ref 48), none, some (.int x2), some (.int x3), some (.int x4), some (.int x5), none, none, none, none] [] s Post) (x2 : Int32) (x3 : Int32) (x4 : Int32) (x5 : Int32) (x6 : Int32) (xs0 : Int32) (s : gs) (w : w259_83 c d Post K37 x2 x3 x4 x5 x6 xs0 s) : tV c d 259 83 [some (.ref 48), none, some (.int x2), some (.int x3), some (.int x4), some (.int x5), some (.int x6), none, none, none] [.int xs0] s Post := by
  intro h hR
  have hk : ∀ pc i, gm_find gk_259 pc = some i → gm_code (gt_T c.1 c.2.1 c.2.2.1) 259 pc = some i := fun _ _ z => z
  unfold w259_83 at w
  unfold gV
  refine gw_pst hk 2 (st' := (86, [some (.ref 48), none, some (.int x2), some (.int x3), some (.int x4), some (.int x5), some (.int x6), some (.int xs0), none, none], [.ref 48], h)) rfl ?_
  refine gw_gf (hk _ _ rfl) (RL_fR (n := 65) hR rfl) ?_
  refine gw_pst hk 1 (st' := (90, [some (.ref 48), none, some (.int x2), some (.int x3), some (.int x4), some (.int x5), some (.int x6), some (.int xs0), none, none], [.int 2, .ref 65], h)) rfl ?_
  obtain ⟨b2, w⟩ := w
  refine gw_ald (hk _ _ rfl) (Or.inl ⟨rfl, rfl⟩) (RL_a (t := 0) (n := 108) hR rfl (by decide)) b2 ?_
  refine gw_pst hk 1 (st' := (92, [some (.ref 48), none, some (.int x2), some (.int x3), some (.int x4), some (.int x5), some (.int x6), some (.int xs0), none, none], [.ref 48, .int (gsA s 65 (2 : Int32).toNatClampNeg)], h)) rfl ?_
  refine gw_gf (hk _ _ rfl) (RL_fR (n := 65) hR rfl) ?_
  refine gw_pst hk 1 (st' := (96, [some (.ref 48), none, some (.int x2), some (.int x3), some (.int x4), some (.int x5), some (.int x6), some (.int xs0), none, none], [.int 1, .ref 65, .int (gsA s 65 (2 : Int32).toNatClampNeg)], h)) rfl ?_
  obtain ⟨b4, w⟩ := w
  refine gw_ald (hk _ _ rfl) (Or.inl ⟨rfl, rfl⟩) (RL_a (t := 0) (n := 108) hR rfl (by decide)) b4 ?_
  refine gw_call (jj := 264) (As := [.int (gsA s 65 (2 : Int32).toNatClampNeg), .int (gsA s 65 (1 : Int32).toNatClampNeg)]) (rest := []) (hk _ _ rfl) (fun _ => rfl) rfl rfl (Nat.le_of_ble_eq_true rfl) rfl ?_
  refine ge_imp (w h hR) (fun v5 h w => ?_)
  obtain ⟨s_5, hR, x_5, rfl, w⟩ := w
  show gw (gt_T c.1 c.2.1 c.2.2.1) c.2.2.2 d 259 (100, [some (.ref 48), none, some (.int x2), some (.int x3), some (.int x4), some (.int x5), some (.int x6), some (.int xs0), none, none], [.int x_5], h) _
  refine gw_pst hk 2 (st' := (103, [some (.ref 48), none, some (.int x2), some (.int x3), some (.int x4), some (.int x5), some (.int x6), some (.int xs0), some (.int x_5), none], [.ref 48], h)) rfl ?_
  refine gw_gf (hk _ _ rfl) (RL_fR (n := 65) hR rfl) ?_
  refine gw_pst hk 1 (st' := (107, [some (.ref 48), none, some (.int x2), some (.int x3), some (.int x4), some (.int x5), some (.int x6), some (.int xs0), some (.int x_5), none], [.int 1, .ref 65], h)) rfl ?_
  obtain ⟨b7, w⟩ := w
  refine gw_ald (hk _ _ rfl) (Or.inl ⟨rfl, rfl⟩) (RL_a (t := 0) (n := 108) hR rfl (by decide)) b7 ?_
  refine gw_pst hk 1 (st' := (110, [some (.ref 48), none, some (.int x2), some (.int x3), some (.int x4), some (.int x5), some (.int x6), some (.int xs0), some (.int x_5), none], [.int x_5, .int (gsA s_5 65 (1 : Int32).toNatClampNeg)], h)) rfl ?_
  refine gw_br (c := x_5 = 0) (a := (113, [some (.ref 48), none, some (.int x2), some (.int x3), some (.int x4), some (.int x5), some (.int x6), some (.int xs0), some (.int x_5), none], [.int (gsA s_5 65 (1 : Int32).toNatClampNeg)], h)) (b := (117, [some (.ref 48), none, some (.int x2), some (.int x3), some (.int x4), some (.int x5), some (.int x6), some (.int xs0), some (.int x_5), none], [.int (gsA s_5 65 (1 : Int32).toNatClampNeg)], h)) (hk _ _ rfl) rfl ⟨fun z8 => ?_, fun z8 => ?_⟩
  · replace w := w.1 z8
    refine gw_pst hk 2 (st' := (119, [some (.ref 48), none, some (.int x2), some (.int x3), some (.int x4), some (.int x5), some (.int x6), some (.int xs0), some (.int x_5), none], [.int 1, .int (gsA s_5 65 (1 : Int32).toNatClampNeg)], h)) rfl ?_
    exact ok259_119 c d Post K37 hK37 _ _ _ _ _ _ _ _ _ _ w _ hR
  · replace w := w.2 z8
    refine gw_pst hk 1 (st' := (119, [some (.ref 48), none, some (.int x2), some (.int x3), some (.int x4), some (.int x5), some (.int x6), some (.int xs0), some (.int x_5), none], [.int x_5, .int (gsA s_5 65 (1 : Int32).toNatClampNeg)], h)) rfl ?_
    exact ok259_119 c d Post K37 hK37 _ _ _ _ _ _ _ _ _ _ w _ hR
def wb259_37 (c : gx) (d : Nat) (Post : Option Value → gs → Prop) (K37 : Int32 → Int32 → Int32 → Int32 → gs → Prop) (x2 : Int32) (x3 : Int32) (x4 : Int32) (x5 : Int32) (s : gs) : Prop :=
  ((x2 ≤ x5 → ∀ s_2 : gs, s_2 = gs_V s 48 12 0 → vp_in 3 108 ∧ tE c d 157 [.ref 48, .long ((gsA s_2 65 (3 : Int32).toNatClampNeg : Int32).toInt64)] s_2 (fun v5 s_5 => v5 = none ∧ vp_in 4 108 ∧ tE c d 157 [.ref 48, .long ((gsA s_5 65 (4 : Int32).toNatClampNeg : Int32).toInt64)] s_5 (fun v8 s_8 => v8 = none ∧ vp_in 5 108 ∧ tE c d 157 [.ref 48, .long ((gsA s_8 65 (5 : Int32).toNatClampNeg : Int32).toInt64)] s_8 (fun v11 s_11 => v11 = none ∧ Post (some (.int x4)) s_11)))) ∧ (¬ (x2 ≤ x5) → vp_in 0 108 ∧ tE c d 184 [.ref 65, .int (gsA s 65 (0 : Int32).toNatClampNeg)] s (fun v15 s_15 => ∃ x_15 : Int32, v15 = some (.int x_15) ∧ ((x_15 = (-1) → w259_83 c d Post K37 x2 ((x3 * 1103515245) + 12345) x4 x5 ((((((x3 * 1103515245) + 12345)).toUInt32 >>> ((16 : Int32).toUInt32 &&& Int32.toUInt32 31)).toInt32) - (((((x3 * 1103515245) + 12345)).toUInt32 >>> ((16 : Int32).toUInt32 &&& Int32.toUInt32 31)).toInt32) / 4 * 4) 0 s_15) ∧ (¬ (x_15 = (-1)) → w259_83 c d Post K37 x2 ((x3 * 1103515245) + 12345) x4 x5 ((((((x3 * 1103515245) + 12345)).toUInt32 >>> ((16 : Int32).toUInt32 &&& Int32.toUInt32 31)).toInt32) - (((((x3 * 1103515245) + 12345)).toUInt32 >>> ((16 : Int32).toUInt32 &&& Int32.toUInt32 31)).toInt32) / 4 * 4) 1 s_15)))))
theorem okb259_37 (c : gx) (d : Nat) (Post : Option Value → gs → Prop) (K37 : Int32 → Int32 → Int32 → Int32 → gs → Prop)  (hK37 : ∀ (x2 : Int32) (x3 : Int32) (x4 : Int32) (x5 : Int32) (s : gs), K37 x2 x3 x4 x5 s → tV c d 259 37 [some (.ref 48), none, some (.int x2), some (.int x3), some (.int x4), some (.int x5), none, none, none, none] [] s Post) (x2 : Int32) (x3 : Int32) (x4 : Int32) (x5 : Int32) (s : gs) (w : wb259_37 c d Post K37 x2 x3 x4 x5 s) : tV c d 259 37 [some (.ref 48), none, some (.int x2), some (.int x3), some (.int x4), some (.int x5), none, none, none, none] [] s Post := by
  intro h hR
  have hk : ∀ pc i, gm_find gk_259 pc = some i → gm_code (gt_T c.1 c.2.1 c.2.2.1) 259 pc = some i := fun _ _ z => z
  unfold wb259_37 at w
  unfold gV
  refine gw_pst hk 2 (st' := (40, [some (.ref 48), none, some (.int x2), some (.int x3), some (.int x4), some (.int x5), none, none, none, none], [.int x2, .int x5], h)) rfl ?_
  refine gw_br (c := x2 ≤ x5) (a := (218, [some (.ref 48), none, some (.int x2), some (.int x3), some (.int x4), some (.int x5), none, none, none, none], [], h)) (b := (43, [some (.ref 48), none, some (.int x2), some (.int x3), some (.int x4), some (.int x5), none, none, none, none], [], h)) (hk _ _ rfl) rfl ⟨fun z1 => ?_, fun z1 => ?_⟩
  · replace w := w.1 z1
    refine gw_pst hk 2 (st' := (220, [some (.ref 48), none, some (.int x2), some (.int x3), some (.int x4), some (.int x5), none, none, none, none], [.int 0, .ref 48], h)) rfl ?_
    obtain ⟨fs2, e2⟩ := RL_o hR (r := 48) (ci := 10) rfl
    obtain ⟨l2, hR2⟩ := RL_pI (k := 12) (x := 0) hR rfl e2
    refine gw_pf (hk _ _ rfl) e2 l2 rfl ?_
    generalize gm_put h _ _ = h at hR2 ⊢
    obtain ⟨s_2, es2⟩ : ∃ z, z = gs_V s 48 12 0 := ⟨_, rfl⟩
    rw [← es2] at hR2
    replace w := w s_2 es2
    replace hR := hR2
    refine gw_pst hk 2 (st' := (225, [some (.ref 48), none, some (.int x2), some (.int x3), some (.int x4), some (.int x5), none, none, none, none], [.ref 48, .ref 48], h)) rfl ?_
    refine gw_gf (hk _ _ rfl) (RL_fR (n := 65) hR rfl) ?_
    refine gw_pst hk 1 (st' := (229, [some (.ref 48), none, some (.int x2), some (.int x3), some (.int x4), some (.int x5), none, none, none, none], [.int 3, .ref 65, .ref 48], h)) rfl ?_
    obtain ⟨b4, w⟩ := w
    refine gw_ald (hk _ _ rfl) (Or.inl ⟨rfl, rfl⟩) (RL_a (t := 0) (n := 108) hR rfl (by decide)) b4 ?_
    refine gw_pst hk 1 (st' := (231, [some (.ref 48), none, some (.int x2), some (.int x3), some (.int x4), some (.int x5), none, none, none, none], [.long ((gsA s_2 65 (3 : Int32).toNatClampNeg : Int32).toInt64), .ref 48], h)) rfl ?_
    obtain ⟨fs5, e5⟩ := RL_o hR (r := 48) (ci := 10) rfl
    refine gw_call (jj := 157) (As := [.ref 48, .long ((gsA s_2 65 (3 : Int32).toNatClampNeg : Int32).toInt64)]) (rest := []) (hk _ _ rfl) (fun _ => rfl) rfl rfl (Nat.le_of_ble_eq_true rfl) (gm_rcv_v rfl e5 rfl) ?_
    refine ge_imp (w h hR) (fun v5 h w => ?_)
    obtain ⟨s_5, hR, rfl, w⟩ := w
    show gw (gt_T c.1 c.2.1 c.2.2.1) c.2.2.2 d 259 (234, [some (.ref 48), none, some (.int x2), some (.int x3), some (.int x4), some (.int x5), none, none, none, none], [], h) _
    refine gw_pst hk 2 (st' := (236, [some (.ref 48), none, some (.int x2), some (.int x3), some (.int x4), some (.int x5), none, none, none, none], [.ref 48, .ref 48], h)) rfl ?_
    refine gw_gf (hk _ _ rfl) (RL_fR (n := 65) hR rfl) ?_
    refine gw_pst hk 1 (st' := (240, [some (.ref 48), none, some (.int x2), some (.int x3), some (.int x4), some (.int x5), none, none, none, none], [.int 4, .ref 65, .ref 48], h)) rfl ?_
    obtain ⟨b7, w⟩ := w
    refine gw_ald (hk _ _ rfl) (Or.inl ⟨rfl, rfl⟩) (RL_a (t := 0) (n := 108) hR rfl (by decide)) b7 ?_
    refine gw_pst hk 1 (st' := (242, [some (.ref 48), none, some (.int x2), some (.int x3), some (.int x4), some (.int x5), none, none, none, none], [.long ((gsA s_5 65 (4 : Int32).toNatClampNeg : Int32).toInt64), .ref 48], h)) rfl ?_
    obtain ⟨fs8, e8⟩ := RL_o hR (r := 48) (ci := 10) rfl
    refine gw_call (jj := 157) (As := [.ref 48, .long ((gsA s_5 65 (4 : Int32).toNatClampNeg : Int32).toInt64)]) (rest := []) (hk _ _ rfl) (fun _ => rfl) rfl rfl (Nat.le_of_ble_eq_true rfl) (gm_rcv_v rfl e8 rfl) ?_
    refine ge_imp (w h hR) (fun v8 h w => ?_)
    obtain ⟨s_8, hR, rfl, w⟩ := w
    show gw (gt_T c.1 c.2.1 c.2.2.1) c.2.2.2 d 259 (245, [some (.ref 48), none, some (.int x2), some (.int x3), some (.int x4), some (.int x5), none, none, none, none], [], h) _
    refine gw_pst hk 2 (st' := (247, [some (.ref 48), none, some (.int x2), some (.int x3), some (.int x4), some (.int x5), none, none, none, none], [.ref 48, .ref 48], h)) rfl ?_
    refine gw_gf (hk _ _ rfl) (RL_fR (n := 65) hR rfl) ?_
    refine gw_pst hk 1 (st' := (251, [some (.ref 48), none, some (.int x2), some (.int x3), some (.int x4), some (.int x5), none, none, none, none], [.int 5, .ref 65, .ref 48], h)) rfl ?_
    obtain ⟨b10, w⟩ := w
    refine gw_ald (hk _ _ rfl) (Or.inl ⟨rfl, rfl⟩) (RL_a (t := 0) (n := 108) hR rfl (by decide)) b10 ?_
    refine gw_pst hk 1 (st' := (253, [some (.ref 48), none, some (.int x2), some (.int x3), some (.int x4), some (.int x5), none, none, none, none], [.long ((gsA s_8 65 (5 : Int32).toNatClampNeg : Int32).toInt64), .ref 48], h)) rfl ?_
    obtain ⟨fs11, e11⟩ := RL_o hR (r := 48) (ci := 10) rfl
    refine gw_call (jj := 157) (As := [.ref 48, .long ((gsA s_8 65 (5 : Int32).toNatClampNeg : Int32).toInt64)]) (rest := []) (hk _ _ rfl) (fun _ => rfl) rfl rfl (Nat.le_of_ble_eq_true rfl) (gm_rcv_v rfl e11 rfl) ?_
    refine ge_imp (w h hR) (fun v11 h w => ?_)
    obtain ⟨s_11, hR, rfl, w⟩ := w
    show gw (gt_T c.1 c.2.1 c.2.2.1) c.2.2.2 d 259 (256, [some (.ref 48), none, some (.int x2), some (.int x3), some (.int x4), some (.int x5), none, none, none, none], [], h) _
    refine gw_pst hk 1 (st' := (258, [some (.ref 48), none, some (.int x2), some (.int x3), some (.int x4), some (.int x5), none, none, none, none], [.int x4], h)) rfl ?_
    exact gw_ret (hk _ _ rfl) rfl ⟨_, hR, w⟩
  · replace w := w.2 z1
    refine gw_pst hk 10 (st' := (58, [some (.ref 48), none, some (.int x2), some (.int ((x3 * 1103515245) + 12345)), some (.int x4), some (.int x5), none, none, none, none], [.int 4, .int (((((x3 * 1103515245) + 12345)).toUInt32 >>> ((16 : Int32).toUInt32 &&& Int32.toUInt32 31)).toInt32)], h)) rfl ?_
    refine gw_irem (hk _ _ rfl) (by decide) ?_ rfl
    refine gw_pst hk 2 (st' := (62, [some (.ref 48), none, some (.int x2), some (.int ((x3 * 1103515245) + 12345)), some (.int x4), some (.int x5), some (.int ((((((x3 * 1103515245) + 12345)).toUInt32 >>> ((16 : Int32).toUInt32 &&& Int32.toUInt32 31)).toInt32) - (((((x3 * 1103515245) + 12345)).toUInt32 >>> ((16 : Int32).toUInt32 &&& Int32.toUInt32 31)).toInt32) / 4 * 4)), none, none, none], [.ref 48], h)) rfl ?_
    refine gw_gf (hk _ _ rfl) (RL_fR (n := 65) hR rfl) ?_
    refine gw_pst hk 1 (st' := (66, [some (.ref 48), none, some (.int x2), some (.int ((x3 * 1103515245) + 12345)), some (.int x4), some (.int x5), some (.int ((((((x3 * 1103515245) + 12345)).toUInt32 >>> ((16 : Int32).toUInt32 &&& Int32.toUInt32 31)).toInt32) - (((((x3 * 1103515245) + 12345)).toUInt32 >>> ((16 : Int32).toUInt32 &&& Int32.toUInt32 31)).toInt32) / 4 * 4)), none, none, none], [.ref 48, .ref 65], h)) rfl ?_
    refine gw_gf (hk _ _ rfl) (RL_fR (n := 65) hR rfl) ?_
    refine gw_pst hk 1 (st' := (70, [some (.ref 48), none, some (.int x2), some (.int ((x3 * 1103515245) + 12345)), some (.int x4), some (.int x5), some (.int ((((((x3 * 1103515245) + 12345)).toUInt32 >>> ((16 : Int32).toUInt32 &&& Int32.toUInt32 31)).toInt32) - (((((x3 * 1103515245) + 12345)).toUInt32 >>> ((16 : Int32).toUInt32 &&& Int32.toUInt32 31)).toInt32) / 4 * 4)), none, none, none], [.int 0, .ref 65, .ref 65], h)) rfl ?_
    obtain ⟨b14, w⟩ := w
    refine gw_ald (hk _ _ rfl) (Or.inl ⟨rfl, rfl⟩) (RL_a (t := 0) (n := 108) hR rfl (by decide)) b14 ?_
    refine gw_call (jj := 184) (As := [.ref 65, .int (gsA s 65 (0 : Int32).toNatClampNeg)]) (rest := []) (hk _ _ rfl) (fun _ => rfl) rfl rfl (Nat.le_of_ble_eq_true rfl) rfl ?_
    refine ge_imp (w h hR) (fun v15 h w => ?_)
    obtain ⟨s_15, hR, x_15, rfl, w⟩ := w
    show gw (gt_T c.1 c.2.1 c.2.2.1) c.2.2.2 d 259 (74, [some (.ref 48), none, some (.int x2), some (.int ((x3 * 1103515245) + 12345)), some (.int x4), some (.int x5), some (.int ((((((x3 * 1103515245) + 12345)).toUInt32 >>> ((16 : Int32).toUInt32 &&& Int32.toUInt32 31)).toInt32) - (((((x3 * 1103515245) + 12345)).toUInt32 >>> ((16 : Int32).toUInt32 &&& Int32.toUInt32 31)).toInt32) / 4 * 4)), none, none, none], [.int x_15], h) _
    refine gw_pst hk 1 (st' := (75, [some (.ref 48), none, some (.int x2), some (.int ((x3 * 1103515245) + 12345)), some (.int x4), some (.int x5), some (.int ((((((x3 * 1103515245) + 12345)).toUInt32 >>> ((16 : Int32).toUInt32 &&& Int32.toUInt32 31)).toInt32) - (((((x3 * 1103515245) + 12345)).toUInt32 >>> ((16 : Int32).toUInt32 &&& Int32.toUInt32 31)).toInt32) / 4 * 4)), none, none, none], [.int (-1), .int x_15], h)) rfl ?_
    refine gw_br (c := x_15 = (-1)) (a := (82, [some (.ref 48), none, some (.int x2), some (.int ((x3 * 1103515245) + 12345)), some (.int x4), some (.int x5), some (.int ((((((x3 * 1103515245) + 12345)).toUInt32 >>> ((16 : Int32).toUInt32 &&& Int32.toUInt32 31)).toInt32) - (((((x3 * 1103515245) + 12345)).toUInt32 >>> ((16 : Int32).toUInt32 &&& Int32.toUInt32 31)).toInt32) / 4 * 4)), none, none, none], [], h)) (b := (78, [some (.ref 48), none, some (.int x2), some (.int ((x3 * 1103515245) + 12345)), some (.int x4), some (.int x5), some (.int ((((((x3 * 1103515245) + 12345)).toUInt32 >>> ((16 : Int32).toUInt32 &&& Int32.toUInt32 31)).toInt32) - (((((x3 * 1103515245) + 12345)).toUInt32 >>> ((16 : Int32).toUInt32 &&& Int32.toUInt32 31)).toInt32) / 4 * 4)), none, none, none], [], h)) (hk _ _ rfl) rfl ⟨fun z16 => ?_, fun z16 => ?_⟩
    · replace w := w.1 z16
      refine gw_pst hk 1 (st' := (83, [some (.ref 48), none, some (.int x2), some (.int ((x3 * 1103515245) + 12345)), some (.int x4), some (.int x5), some (.int ((((((x3 * 1103515245) + 12345)).toUInt32 >>> ((16 : Int32).toUInt32 &&& Int32.toUInt32 31)).toInt32) - (((((x3 * 1103515245) + 12345)).toUInt32 >>> ((16 : Int32).toUInt32 &&& Int32.toUInt32 31)).toInt32) / 4 * 4)), none, none, none], [.int 0], h)) rfl ?_
      exact ok259_83 c d Post K37 hK37 _ _ _ _ _ _ _ w _ hR
    · replace w := w.2 z16
      refine gw_pst hk 2 (st' := (83, [some (.ref 48), none, some (.int x2), some (.int ((x3 * 1103515245) + 12345)), some (.int x4), some (.int x5), some (.int ((((((x3 * 1103515245) + 12345)).toUInt32 >>> ((16 : Int32).toUInt32 &&& Int32.toUInt32 31)).toInt32) - (((((x3 * 1103515245) + 12345)).toUInt32 >>> ((16 : Int32).toUInt32 &&& Int32.toUInt32 31)).toInt32) / 4 * 4)), none, none, none], [.int 1], h)) rfl ?_
      exact ok259_83 c d Post K37 hK37 _ _ _ _ _ _ _ w _ hR
def wl259_37 (c : gx) (d : Nat) (Post : Option Value → gs → Prop) : Nat → Int32 → Int32 → Int32 → Int32 → gs → Prop
  | 0 => fun _ _ _ _ _ => False
  | n + 1 => wb259_37 c d Post (wl259_37 c d Post n)
theorem okl259_37 (c : gx) (d : Nat) (Post : Option Value → gs → Prop) : ∀ (n : Nat) (x2 : Int32) (x3 : Int32) (x4 : Int32) (x5 : Int32) (s : gs), wl259_37 c d Post n x2 x3 x4 x5 s → tV c d 259 37 [some (.ref 48), none, some (.int x2), some (.int x3), some (.int x4), some (.int x5), none, none, none, none] [] s Post
  | 0, _, _, _, _, _, w => w.elim
  | n + 1, x2, x3, x4, x5, s, w => okb259_37 c d Post (wl259_37 c d Post n) (okl259_37 c d Post n) x2 x3 x4 x5 s w
/-- CommandByTurnsModel.years(II)I -/
def wm259 (c : gx) (d : Nat) (Post : Option Value → gs → Prop) (x1 : Int32) (x2 : Int32) (s : gs) : Prop :=
  ∀ s_1 : gs, s_1 = gs_V s 48 13 0 → tE c d 154 [.int x2, .int 1, .int 60] s_1 (fun v2 s_2 => ∃ x_2 : Int32, v2 = some (.int x_2) ∧ ((x_2 = 0 → Post (some (.int (-1))) s_2) ∧ (¬ (x_2 = 0) → tE c d 194 [.ref 49, .ref 65, .int 0] s_2 (fun v6 s_6 => v6 = none ∧ ∃ n, wl259_37 c d Post n x2 x1 0 0 s_6))))
theorem okm259 (c : gx) (d : Nat) (Post : Option Value → gs → Prop) (x1 : Int32) (x2 : Int32) (s : gs) (w : wm259 c d Post x1 x2 s) : tE c (d + 1) 259 [.ref 48, .int x1, .int x2] s Post := by
  intro h hR
  have hk : ∀ pc i, gm_find gk_259 pc = some i → gm_code (gt_T c.1 c.2.1 c.2.2.1) 259 pc = some i := fun _ _ z => z
  unfold wm259 at w
  refine ge_of (by decide) (Nat.le_of_ble_eq_true rfl) ?_
  show gw (gt_T c.1 c.2.1 c.2.2.1) c.2.2.2 d 259 (0, [some (.ref 48), some (.int x1), some (.int x2), none, none, none, none, none, none, none], [], h) _
  refine gw_pst hk 2 (st' := (2, [some (.ref 48), some (.int x1), some (.int x2), none, none, none, none, none, none, none], [.int 0, .ref 48], h)) rfl ?_
  obtain ⟨fs1, e1⟩ := RL_o hR (r := 48) (ci := 10) rfl
  obtain ⟨l1, hR1⟩ := RL_pI (k := 13) (x := 0) hR rfl e1
  refine gw_pf (hk _ _ rfl) e1 l1 rfl ?_
  generalize gm_put h _ _ = h at hR1 ⊢
  obtain ⟨s_1, es1⟩ : ∃ z, z = gs_V s 48 13 0 := ⟨_, rfl⟩
  rw [← es1] at hR1
  replace w := w s_1 es1
  replace hR := hR1
  refine gw_pst hk 3 (st' := (9, [some (.ref 48), some (.int x1), some (.int x2), none, none, none, none, none, none, none], [.int 60, .int 1, .int x2], h)) rfl ?_
  refine gw_call (jj := 154) (As := [.int x2, .int 1, .int 60]) (rest := []) (hk _ _ rfl) (fun _ => rfl) rfl rfl (Nat.le_of_ble_eq_true rfl) rfl ?_
  refine ge_imp (w h hR) (fun v2 h w => ?_)
  obtain ⟨s_2, hR, x_2, rfl, w⟩ := w
  show gw (gt_T c.1 c.2.1 c.2.2.1) c.2.2.2 d 259 (12, [some (.ref 48), some (.int x1), some (.int x2), none, none, none, none, none, none, none], [.int x_2], h) _
  refine gw_br (c := x_2 = 0) (a := (15, [some (.ref 48), some (.int x1), some (.int x2), none, none, none, none, none, none, none], [], h)) (b := (17, [some (.ref 48), some (.int x1), some (.int x2), none, none, none, none, none, none, none], [], h)) (hk _ _ rfl) rfl ⟨fun z3 => ?_, fun z3 => ?_⟩
  · replace w := w.1 z3
    refine gw_pst hk 1 (st' := (16, [some (.ref 48), some (.int x1), some (.int x2), none, none, none, none, none, none, none], [.int (-1)], h)) rfl ?_
    exact gw_ret (hk _ _ rfl) rfl ⟨_, hR, w⟩
  · replace w := w.2 z3
    refine gw_pst hk 5 (st' := (23, [some (.ref 48), some (.int x1), some (.int x2), some (.int x1), some (.int 0), none, none, none, none, none], [.ref 48], h)) rfl ?_
    refine gw_gf (hk _ _ rfl) (RL_fR (n := 49) hR rfl) ?_
    refine gw_pst hk 1 (st' := (27, [some (.ref 48), some (.int x1), some (.int x2), some (.int x1), some (.int 0), none, none, none, none, none], [.ref 48, .ref 49], h)) rfl ?_
    refine gw_gf (hk _ _ rfl) (RL_fR (n := 65) hR rfl) ?_
    refine gw_pst hk 1 (st' := (31, [some (.ref 48), some (.int x1), some (.int x2), some (.int x1), some (.int 0), none, none, none, none, none], [.int 0, .ref 65, .ref 49], h)) rfl ?_
    refine gw_call (jj := 194) (As := [.ref 49, .ref 65, .int 0]) (rest := []) (hk _ _ rfl) (fun _ => rfl) rfl rfl (Nat.le_of_ble_eq_true rfl) rfl ?_
    refine ge_imp (w h hR) (fun v6 h w => ?_)
    obtain ⟨s_6, hR, rfl, w⟩ := w
    show gw (gt_T c.1 c.2.1 c.2.2.1) c.2.2.2 d 259 (34, [some (.ref 48), some (.int x1), some (.int x2), some (.int x1), some (.int 0), none, none, none, none, none], [], h) _
    refine gw_pst hk 2 (st' := (37, [some (.ref 48), some (.int x1), some (.int x2), some (.int x1), some (.int 0), some (.int 0), none, none, none, none], [], h)) rfl ?_
    refine gw_le (L' := [some (.ref 48), none, some (.int x2), some (.int x1), some (.int 0), some (.int 0), none, none, none, none]) (gm_le_k _ (gm_le_n _ (gm_le_k _ (gm_le_k _ (gm_le_k _ (gm_le_k _ (gm_le_k _ (gm_le_k _ (gm_le_k _ (gm_le_k _ gm_le_nil)))))))))) ?_
    obtain ⟨n, w⟩ := w
    exact okl259_37 c d Post n _ _ _ _ _ w _ hR
