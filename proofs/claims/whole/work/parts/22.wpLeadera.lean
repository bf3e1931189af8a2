/-! What must hold for a run to end with Post: by program (wip/whole/gen_wp.py). -/
def w28_27 (c : gx) (d : Nat) (Post : Option Value → gs → Prop) (x1 : Int32) (s : gs) : Prop :=
  Post (some (.int x1)) s
theorem ok28_27 (c : gx) (d : Nat) (Post : Option Value → gs → Prop)  (x1 : Int32) (s : gs) (w : w28_27 c d Post x1 s) : tV c d 28 27 [none, some (.int x1)] [] s Post := by
  intro h hR
  have hk : ∀ pc i, gm_find gk_28 pc = some i → gm_code (gt_T c.1 c.2.1 c.2.2.1) 28 pc = some i := fun _ _ z => z
  unfold w28_27 at w
  unfold gV
  refine gw_pst hk 1 (st' := (28, [none, some (.int x1)], [.int x1], h)) rfl ?_
  exact gw_ret (hk _ _ rfl) rfl ⟨_, hR, w⟩
def w28_47 (c : gx) (d : Nat) (Post : Option Value → gs → Prop) (xs0 : Int32) (s : gs) : Prop :=
  Post (some (.int xs0)) s
theorem ok28_47 (c : gx) (d : Nat) (Post : Option Value → gs → Prop)  (xs0 : Int32) (s : gs) (w : w28_47 c d Post xs0 s) : tV c d 28 47 [none, none] [.int xs0] s Post := by
  intro h hR
  have hk : ∀ pc i, gm_find gk_28 pc = some i → gm_code (gt_T c.1 c.2.1 c.2.2.1) 28 pc = some i := fun _ _ z => z
  unfold w28_47 at w
  unfold gV
  exact gw_ret (hk _ _ rfl) rfl ⟨_, hR, w⟩
def wb28_2 (c : gx) (d : Nat) (Post : Option Value → gs → Prop) (K2 : Int32 → gs → Prop) (x1 : Int32) (s : gs) : Prop :=
  (((gsV s 1 1) ≤ x1 → (((gsV s 1 1) = 0 → w28_47 c d Post 0 s) ∧ (¬ ((gsV s 1 1) = 0) → w28_47 c d Post (-1) s))) ∧ (¬ ((gsV s 1 1) ≤ x1) → ((x1 = 20 → w28_27 c d Post x1 s) ∧ (¬ (x1 = 20) → tE c d 61 [.ref 1, .int x1] s (fun v6 s_6 => ∃ x_6 : Int32, v6 = some (.int x_6) ∧ tE c d 60 [.int x_6] s_6 (fun v7 s_7 => ∃ x_7 : Int32, v7 = some (.int x_7) ∧ ((x_7 = 0 → w28_27 c d Post x1 s_7) ∧ (¬ (x_7 = 0) → K2 (x1 + 1) s_7))))))))
theorem okb28_2 (c : gx) (d : Nat) (Post : Option Value → gs → Prop) (K2 : Int32 → gs → Prop)  (hK2 : ∀ (x1 : Int32) (s : gs), K2 x1 s → tV c d 28 2 [some (.ref 1), some (.int x1)] [] s Post) (x1 : Int32) (s : gs) (w : wb28_2 c d Post K2 x1 s) : tV c d 28 2 [some (.ref 1), some (.int x1)] [] s Post := by
  intro h hR
  have hk : ∀ pc i, gm_find gk_28 pc = some i → gm_code (gt_T c.1 c.2.1 c.2.2.1) 28 pc = some i := fun _ _ z => z
  unfold wb28_2 at w
  unfold gV
  refine gw_pst hk 2 (st' := (4, [some (.ref 1), some (.int x1)], [.ref 1, .int x1], h)) rfl ?_
  refine gw_gf (hk _ _ rfl) (RL_fI hR rfl) ?_
  refine gw_br (c := (gsV s 1 1) ≤ x1) (a := (35, [some (.ref 1), some (.int x1)], [], h)) (b := (10, [some (.ref 1), some (.int x1)], [], h)) (hk _ _ rfl) rfl ⟨fun z2 => ?_, fun z2 => ?_⟩
  · replace w := w.1 z2
    refine gw_pst hk 1 (st' := (36, [some (.ref 1), some (.int x1)], [.ref 1], h)) rfl ?_
    refine gw_gf (hk _ _ rfl) (RL_fI hR rfl) ?_
    refine gw_br (c := (gsV s 1 1) = 0) (a := (42, [some (.ref 1), some (.int x1)], [], h)) (b := (46, [some (.ref 1), some (.int x1)], [], h)) (hk _ _ rfl) rfl ⟨fun z4 => ?_, fun z4 => ?_⟩
    · replace w := w.1 z4
      refine gw_pst hk 2 (st' := (47, [some (.ref 1), some (.int x1)], [.int 0], h)) rfl ?_
      refine gw_le (L' := [none, none]) (gm_le_n _ (gm_le_n _ gm_le_nil)) ?_
      exact ok28_47 c d Post _ _ w _ hR
    · replace w := w.2 z4
      refine gw_pst hk 1 (st' := (47, [some (.ref 1), some (.int x1)], [.int (-1)], h)) rfl ?_
      refine gw_le (L' := [none, none]) (gm_le_n _ (gm_le_n _ gm_le_nil)) ?_
      exact ok28_47 c d Post _ _ w _ hR
  · replace w := w.2 z2
    refine gw_pst hk 2 (st' := (13, [some (.ref 1), some (.int x1)], [.int 20, .int x1], h)) rfl ?_
    refine gw_br (c := x1 = 20) (a := (27, [some (.ref 1), some (.int x1)], [], h)) (b := (16, [some (.ref 1), some (.int x1)], [], h)) (hk _ _ rfl) rfl ⟨fun z5 => ?_, fun z5 => ?_⟩
    · replace w := w.1 z5
      refine gw_le (L' := [none, some (.int x1)]) (gm_le_n _ (gm_le_k _ gm_le_nil)) ?_
      exact ok28_27 c d Post _ _ w _ hR
    · replace w := w.2 z5
      refine gw_pst hk 2 (st' := (18, [some (.ref 1), some (.int x1)], [.int x1, .ref 1], h)) rfl ?_
      obtain ⟨fs6, e6⟩ := RL_o hR (r := 1) (ci := 7) rfl
      refine gw_call (jj := 61) (As := [.ref 1, .int x1]) (rest := []) (hk _ _ rfl) (fun _ => rfl) rfl rfl (Nat.le_of_ble_eq_true rfl) (gm_rcv_v rfl e6 rfl) ?_
      refine ge_imp (w h hR) (fun v6 h w => ?_)
      obtain ⟨s_6, hR, x_6, rfl, w⟩ := w
      show gw (gt_T c.1 c.2.1 c.2.2.1) c.2.2.2 d 28 (21, [some (.ref 1), some (.int x1)], [.int x_6], h) _
      refine gw_call (jj := 60) (As := [.int x_6]) (rest := []) (hk _ _ rfl) (fun _ => rfl) rfl rfl (Nat.le_of_ble_eq_true rfl) rfl ?_
      refine ge_imp (w h hR) (fun v7 h w => ?_)
      obtain ⟨s_7, hR, x_7, rfl, w⟩ := w
      show gw (gt_T c.1 c.2.1 c.2.2.1) c.2.2.2 d 28 (24, [some (.ref 1), some (.int x1)], [.int x_7], h) _
      refine gw_br (c := x_7 = 0) (a := (27, [some (.ref 1), some (.int x1)], [], h)) (b := (29, [some (.ref 1), some (.int x1)], [], h)) (hk _ _ rfl) rfl ⟨fun z8 => ?_, fun z8 => ?_⟩
      · replace w := w.1 z8
        refine gw_le (L' := [none, some (.int x1)]) (gm_le_n _ (gm_le_k _ gm_le_nil)) ?_
        exact ok28_27 c d Post _ _ w _ hR
      · replace w := w.2 z8
        refine gw_pst hk 2 (st' := (2, [some (.ref 1), some (.int (x1 + 1))], [], h)) rfl ?_
        exact hK2 _ _ w _ hR
def wl28_2 (c : gx) (d : Nat) (Post : Option Value → gs → Prop) : Nat → Int32 → gs → Prop
  | 0 => fun _ _ => False
  | n + 1 => wb28_2 c d Post (wl28_2 c d Post n)
theorem okl28_2 (c : gx) (d : Nat) (Post : Option Value → gs → Prop) : ∀ (n : Nat) (x1 : Int32) (s : gs), wl28_2 c d Post n x1 s → tV c d 28 2 [some (.ref 1), some (.int x1)] [] s Post
  | 0, _, _, w => w.elim
  | n + 1, x1, s, w => okb28_2 c d Post (wl28_2 c d Post n) (okl28_2 c d Post n) x1 s w
/-- CommandByTurns$Leader.wishMisreadAt(LCommandByTurns$Text;)I -/
def wm28 (c : gx) (d : Nat) (Post : Option Value → gs → Prop)  (s : gs) : Prop :=
  ∃ n, wl28_2 c d Post n 0 s
theorem okm28 (c : gx) (d : Nat) (Post : Option Value → gs → Prop)  (s : gs) (w : wm28 c d Post  s) : tE c (d + 1) 28 [.ref 1] s Post := by
  intro h hR
  have hk : ∀ pc i, gm_find gk_28 pc = some i → gm_code (gt_T c.1 c.2.1 c.2.2.1) 28 pc = some i := fun _ _ z => z
  unfold wm28 at w
  refine ge_of (by decide) (Nat.le_of_ble_eq_true rfl) ?_
  show gw (gt_T c.1 c.2.1 c.2.2.1) c.2.2.2 d 28 (0, [some (.ref 1), none], [], h) _
  refine gw_pst hk 2 (st' := (2, [some (.ref 1), some (.int 0)], [], h)) rfl ?_
  obtain ⟨n, w⟩ := w
  exact okl28_2 c d Post n _ _ w _ hR
def wb29_23 (c : gx) (d : Nat) (Post : Option Value → gs → Prop) (K23 : Nat → Int32 → gs → Prop) (r0 : Nat) (x3 : Int32) (s : gs) : Prop :=
  gs_isC r0 2 = true ∧ (((gsV s r0 3) ≤ x3 → Post none s) ∧ (¬ ((gsV s r0 3) ≤ x3) → gs_isC r0 2 = true ∧ tE c d 61 [.ref 1, .int x3] s (fun v4 s_4 => ∃ x_4 : Int32, v4 = some (.int x_4) ∧ ∃ n5, gs_isA (r0 + 1) 0 n5 = true ∧ vp_in x3 n5 ∧ ∀ s_5 : gs, s_5 = gs_A s_4 (r0 + 1) (x3 : Int32).toNatClampNeg (vp_nar .int (x_4 - 48)) → K23 r0 (x3 + 1) s_5)))
theorem okb29_23 (c : gx) (d : Nat) (Post : Option Value → gs → Prop) (K23 : Nat → Int32 → gs → Prop)  (hK23 : ∀ (r0 : Nat) (x3 : Int32) (s : gs), K23 r0 x3 s → tV c d 29 23 [some (.ref r0), some (.ref 1), none, some (.int x3)] [] s Post) (r0 : Nat) (x3 : Int32) (s : gs) (w : wb29_23 c d Post K23 r0 x3 s) : tV c d 29 23 [some (.ref r0), some (.ref 1), none, some (.int x3)] [] s Post := by
  intro h hR
  have hk : ∀ pc i, gm_find gk_29 pc = some i → gm_code (gt_T c.1 c.2.1 c.2.2.1) 29 pc = some i := fun _ _ z => z
  unfold wb29_23 at w
  unfold gV
  refine gw_pst hk 2 (st' := (25, [some (.ref r0), some (.ref 1), none, some (.int x3)], [.ref r0, .int x3], h)) rfl ?_
  obtain ⟨z1, w⟩ := w
  refine gw_gf (hk _ _ rfl) (RL_fI hR (gs_ck_of z1 gs_ck_2_3)) ?_
  refine gw_br (c := (gsV s r0 3) ≤ x3) (a := (51, [some (.ref r0), some (.ref 1), none, some (.int x3)], [], h)) (b := (31, [some (.ref r0), some (.ref 1), none, some (.int x3)], [], h)) (hk _ _ rfl) rfl ⟨fun z2 => ?_, fun z2 => ?_⟩
  · replace w := w.1 z2
    exact gw_ret (hk _ _ rfl) rfl ⟨_, hR, w⟩
  · replace w := w.2 z2
    refine gw_pst hk 1 (st' := (32, [some (.ref r0), some (.ref 1), none, some (.int x3)], [.ref r0], h)) rfl ?_
    obtain ⟨z3, w⟩ := w
    refine gw_gf (hk _ _ rfl) (RL_fR hR (gs_cn_of z3 gs_cn_2_2)) ?_
    refine gw_pst hk 3 (st' := (38, [some (.ref r0), some (.ref 1), none, some (.int x3)], [.int x3, .ref 1, .int x3, .ref (r0 + 1)], h)) rfl ?_
    obtain ⟨fs4, e4⟩ := RL_o hR (r := 1) (ci := 7) rfl
    refine gw_call (jj := 61) (As := [.ref 1, .int x3]) (rest := [.int x3, .ref (r0 + 1)]) (hk _ _ rfl) (fun _ => rfl) rfl rfl (Nat.le_of_ble_eq_true rfl) (gm_rcv_v rfl e4 rfl) ?_
    refine ge_imp (w h hR) (fun v4 h w => ?_)
    obtain ⟨s_4, hR, x_4, rfl, w⟩ := w
    show gw (gt_T c.1 c.2.1 c.2.2.1) c.2.2.2 d 29 (41, [some (.ref r0), some (.ref 1), none, some (.int x3)], [.int x_4, .int x3, .ref (r0 + 1)], h) _
    refine gw_pst hk 2 (st' := (44, [some (.ref r0), some (.ref 1), none, some (.int x3)], [.int (x_4 - 48), .int x3, .ref (r0 + 1)], h)) rfl ?_
    obtain ⟨n5, a5, b5, w⟩ := w
    have hR5 := RL_pA (a := r0 + 1) (t := 0) (n := n5) (k := (x3 : Int32).toNatClampNeg) (x := (vp_nar .int (x_4 - 48))) hR a5 (by decide)
    refine gw_ast (hk _ _ rfl) (Or.inl ⟨rfl, rfl, rfl⟩) (RL_a (t := 0) (n := n5) hR a5 (by decide)) b5 ?_
    generalize gm_put h _ _ = h at hR5 ⊢
    obtain ⟨s_5, es5⟩ : ∃ z, z = gs_A s_4 (r0 + 1) (x3 : Int32).toNatClampNeg (vp_nar .int (x_4 - 48)) := ⟨_, rfl⟩
    rw [← es5] at hR5
    replace w := w s_5 es5
    replace hR := hR5
    refine gw_pst hk 2 (st' := (23, [some (.ref r0), some (.ref 1), none, some (.int (x3 + 1))], [], h)) rfl ?_
    exact hK23 _ _ _ w _ hR
def wl29_23 (c : gx) (d : Nat) (Post : Option Value → gs → Prop) : Nat → Nat → Int32 → gs → Prop
  | 0 => fun _ _ _ => False
  | n + 1 => wb29_23 c d Post (wl29_23 c d Post n)
theorem okl29_23 (c : gx) (d : Nat) (Post : Option Value → gs → Prop) : ∀ (n : Nat) (r0 : Nat) (x3 : Int32) (s : gs), wl29_23 c d Post n r0 x3 s → tV c d 29 23 [some (.ref r0), some (.ref 1), none, some (.int x3)] [] s Post
  | 0, _, _, _, w => w.elim
  | n + 1, r0, x3, s, w => okb29_23 c d Post (wl29_23 c d Post n) (okl29_23 c d Post n) r0 x3 s w
/-- CommandByTurns$Leader.readWishes(LCommandByTurns$Text;I)V -/
def wm29 (c : gx) (d : Nat) (Post : Option Value → gs → Prop) (r0 : Nat) (x2 : Int32) (s : gs) : Prop :=
  gs_isC r0 2 = true ∧ ∃ n3, gs_isA (r0 + 1) 0 n3 = true ∧ gs_isC r0 2 = true ∧ ∀ s_4 : gs, s_4 = gs_V s r0 3 (if (Int32.ofNat n3) < (gsV s 1 1) then (Int32.ofNat n3) else (gsV s 1 1)) → gs_isC r0 2 = true ∧ ∀ s_5 : gs, s_5 = gs_V s_4 r0 4 x2 → ∃ n, wl29_23 c d Post n r0 0 s_5
theorem okm29 (c : gx) (d : Nat) (Post : Option Value → gs → Prop) (r0 : Nat) (x2 : Int32) (s : gs) (w : wm29 c d Post r0 x2 s) : tE c (d + 1) 29 [.ref r0, .ref 1, .int x2] s Post := by
  intro h hR
  have hk : ∀ pc i, gm_find gk_29 pc = some i → gm_code (gt_T c.1 c.2.1 c.2.2.1) 29 pc = some i := fun _ _ z => z
  unfold wm29 at w
  refine ge_of (by decide) (Nat.le_of_ble_eq_true rfl) ?_
  show gw (gt_T c.1 c.2.1 c.2.2.1) c.2.2.2 d 29 (0, [some (.ref r0), some (.ref 1), some (.int x2), none], [], h) _
  refine gw_pst hk 2 (st' := (2, [some (.ref r0), some (.ref 1), some (.int x2), none], [.ref 1, .ref r0], h)) rfl ?_
  refine gw_gf (hk _ _ rfl) (RL_fI hR rfl) ?_
  refine gw_pst hk 1 (st' := (6, [some (.ref r0), some (.ref 1), some (.int x2), none], [.ref r0, .int (gsV s 1 1), .ref r0], h)) rfl ?_
  obtain ⟨z2, w⟩ := w
  refine gw_gf (hk _ _ rfl) (RL_fR hR (gs_cn_of z2 gs_cn_2_2)) ?_
  obtain ⟨n3, a3, w⟩ := w
  refine gw_alen (hk _ _ rfl) (RL_a (t := 0) (n := n3) hR a3 (by decide)) (by decide) ?_
  refine gw_pst hk 1 (st' := (13, [some (.ref r0), some (.ref 1), some (.int x2), none], [.int (if (Int32.ofNat n3) < (gsV s 1 1) then (Int32.ofNat n3) else (gsV s 1 1)), .ref r0], h)) rfl ?_
  obtain ⟨z4, w⟩ := w
  obtain ⟨fs4, e4⟩ := RL_o hR (r := r0) (ci := 2) z4
  obtain ⟨l4, hR4⟩ := RL_pI (k := 3) (x := if (Int32.ofNat n3) < (gsV s 1 1) then (Int32.ofNat n3) else (gsV s 1 1)) hR (gs_ck_of z4 gs_ck_2_3) e4
  refine gw_pf (hk _ _ rfl) e4 l4 rfl ?_
  generalize gm_put h _ _ = h at hR4 ⊢
  obtain ⟨s_4, es4⟩ : ∃ z, z = gs_V s r0 3 (if (Int32.ofNat n3) < (gsV s 1 1) then (Int32.ofNat n3) else (gsV s 1 1)) := ⟨_, rfl⟩
  rw [← es4] at hR4
  replace w := w s_4 es4
  replace hR := hR4
  refine gw_pst hk 2 (st' := (18, [some (.ref r0), some (.ref 1), some (.int x2), none], [.int x2, .ref r0], h)) rfl ?_
  obtain ⟨z5, w⟩ := w
  obtain ⟨fs5, e5⟩ := RL_o hR (r := r0) (ci := 2) z5
  obtain ⟨l5, hR5⟩ := RL_pI (k := 4) (x := x2) hR (gs_ck_of z5 gs_ck_2_4) e5
  refine gw_pf (hk _ _ rfl) e5 l5 rfl ?_
  generalize gm_put h _ _ = h at hR5 ⊢
  obtain ⟨s_5, es5⟩ : ∃ z, z = gs_V s_4 r0 4 x2 := ⟨_, rfl⟩
  rw [← es5] at hR5
  replace w := w s_5 es5
  replace hR := hR5
  refine gw_pst hk 2 (st' := (23, [some (.ref r0), some (.ref 1), some (.int x2), some (.int 0)], [], h)) rfl ?_
  refine gw_le (L' := [some (.ref r0), some (.ref 1), none, some (.int 0)]) (gm_le_k _ (gm_le_k _ (gm_le_n _ (gm_le_k _ gm_le_nil)))) ?_
  obtain ⟨n, w⟩ := w
  exact okl29_23 c d Post n _ _ _ w _ hR
def w30_38 (c : gx) (d : Nat) (Post : Option Value → gs → Prop) (xs0 : Int32) (s : gs) : Prop :=
  Post (some (.int xs0)) s
theorem ok30_38 (c : gx) (d : Nat) (Post : Option Value → gs → Prop)  (xs0 : Int32) (s : gs) (w : w30_38 c d Post xs0 s) : tV c d 30 38 [none, none, none] [.int xs0] s Post := by
  intro h hR
  have hk : ∀ pc i, gm_find gk_30 pc = some i → gm_code (gt_T c.1 c.2.1 c.2.2.1) 30 pc = some i := fun _ _ z => z
  unfold w30_38 at w
  unfold gV
  exact gw_ret (hk _ _ rfl) rfl ⟨_, hR, w⟩
def w30_37 (c : gx) (d : Nat) (Post : Option Value → gs → Prop)  (s : gs) : Prop :=
  w30_38 c d Post 0 s
theorem ok30_37 (c : gx) (d : Nat) (Post : Option Value → gs → Prop)   (s : gs) (w : w30_37 c d Post  s) : tV c d 30 37 [none, none, none] [] s Post := by
  intro h hR
  have hk : ∀ pc i, gm_find gk_30 pc = some i → gm_code (gt_T c.1 c.2.1 c.2.2.1) 30 pc = some i := fun _ _ z => z
  unfold w30_37 at w
  unfold gV
  refine gw_pst hk 1 (st' := (38, [none, none, none], [.int 0], h)) rfl ?_
  exact ok30_38 c d Post _ _ w _ hR
/-- CommandByTurns$Leader.wishFor(I)I -/
def wm30 (c : gx) (d : Nat) (Post : Option Value → gs → Prop) (r0 : Nat) (x1 : Int32) (s : gs) : Prop :=
  gs_isC r0 2 = true ∧ (((x1 - (gsV s r0 4)) < 0 → w30_37 c d Post s) ∧ (¬ ((x1 - (gsV s r0 4)) < 0) → gs_isC r0 2 = true ∧ (((gsV s r0 3) ≤ (x1 - (gsV s r0 4)) → w30_37 c d Post s) ∧ (¬ ((gsV s r0 3) ≤ (x1 - (gsV s r0 4))) → gs_isC r0 2 = true ∧ ∃ n6, gs_isA (r0 + 1) 0 n6 = true ∧ (((Int32.ofNat n6) ≤ (x1 - (gsV s r0 4)) → w30_37 c d Post s) ∧ (¬ ((Int32.ofNat n6) ≤ (x1 - (gsV s r0 4))) → gs_isC r0 2 = true ∧ ∃ n9, gs_isA (r0 + 1) 0 n9 = true ∧ vp_in (x1 - (gsV s r0 4)) n9 ∧ w30_38 c d Post (gsA s (r0 + 1) (x1 - (gsV s r0 4) : Int32).toNatClampNeg) s))))))
theorem okm30 (c : gx) (d : Nat) (Post : Option Value → gs → Prop) (r0 : Nat) (x1 : Int32) (s : gs) (w : wm30 c d Post r0 x1 s) : tE c (d + 1) 30 [.ref r0, .int x1] s Post := by
  intro h hR
  have hk : ∀ pc i, gm_find gk_30 pc = some i → gm_code (gt_T c.1 c.2.1 c.2.2.1) 30 pc = some i := fun _ _ z => z
  unfold wm30 at w
  refine ge_of (by decide) (Nat.le_of_ble_eq_true rfl) ?_
  show gw (gt_T c.1 c.2.1 c.2.2.1) c.2.2.2 d 30 (0, [some (.ref r0), some (.int x1), none], [], h) _
  refine gw_pst hk 2 (st' := (2, [some (.ref r0), some (.int x1), none], [.ref r0, .int x1], h)) rfl ?_
  obtain ⟨z1, w⟩ := w
  refine gw_gf (hk _ _ rfl) (RL_fI hR (gs_ck_of z1 gs_ck_2_4)) ?_
  refine gw_pst hk 3 (st' := (8, [some (.ref r0), some (.int x1), some (.int (x1 - (gsV s r0 4)))], [.int (x1 - (gsV s r0 4))], h)) rfl ?_
  refine gw_br (c := (x1 - (gsV s r0 4)) < 0) (a := (37, [some (.ref r0), some (.int x1), some (.int (x1 - (gsV s r0 4)))], [], h)) (b := (11, [some (.ref r0), some (.int x1), some (.int (x1 - (gsV s r0 4)))], [], h)) (hk _ _ rfl) rfl ⟨fun z2 => ?_, fun z2 => ?_⟩
  · replace w := w.1 z2
    refine gw_le (L' := [none, none, none]) (gm_le_n _ (gm_le_n _ (gm_le_n _ gm_le_nil))) ?_
    exact ok30_37 c d Post _ w _ hR
  · replace w := w.2 z2
    refine gw_pst hk 2 (st' := (13, [some (.ref r0), some (.int x1), some (.int (x1 - (gsV s r0 4)))], [.ref r0, .int (x1 - (gsV s r0 4))], h)) rfl ?_
    obtain ⟨z3, w⟩ := w
    refine gw_gf (hk _ _ rfl) (RL_fI hR (gs_ck_of z3 gs_ck_2_3)) ?_
    refine gw_br (c := (gsV s r0 3) ≤ (x1 - (gsV s r0 4))) (a := (37, [some (.ref r0), some (.int x1), some (.int (x1 - (gsV s r0 4)))], [], h)) (b := (19, [some (.ref r0), some (.int x1), some (.int (x1 - (gsV s r0 4)))], [], h)) (hk _ _ rfl) rfl ⟨fun z4 => ?_, fun z4 => ?_⟩
    · replace w := w.1 z4
      refine gw_le (L' := [none, none, none]) (gm_le_n _ (gm_le_n _ (gm_le_n _ gm_le_nil))) ?_
      exact ok30_37 c d Post _ w _ hR
    · replace w := w.2 z4
      refine gw_pst hk 2 (st' := (21, [some (.ref r0), some (.int x1), some (.int (x1 - (gsV s r0 4)))], [.ref r0, .int (x1 - (gsV s r0 4))], h)) rfl ?_
      obtain ⟨z5, w⟩ := w
      refine gw_gf (hk _ _ rfl) (RL_fR hR (gs_cn_of z5 gs_cn_2_2)) ?_
      obtain ⟨n6, a6, w⟩ := w
      refine gw_alen (hk _ _ rfl) (RL_a (t := 0) (n := n6) hR a6 (by decide)) (by decide) ?_
      refine gw_br (c := (Int32.ofNat n6) ≤ (x1 - (gsV s r0 4))) (a := (37, [some (.ref r0), some (.int x1), some (.int (x1 - (gsV s r0 4)))], [], h)) (b := (28, [some (.ref r0), some (.int x1), some (.int (x1 - (gsV s r0 4)))], [], h)) (hk _ _ rfl) rfl ⟨fun z7 => ?_, fun z7 => ?_⟩
      · replace w := w.1 z7
        refine gw_le (L' := [none, none, none]) (gm_le_n _ (gm_le_n _ (gm_le_n _ gm_le_nil))) ?_
        exact ok30_37 c d Post _ w _ hR
      · replace w := w.2 z7
        refine gw_pst hk 1 (st' := (29, [some (.ref r0), some (.int x1), some (.int (x1 - (gsV s r0 4)))], [.ref r0], h)) rfl ?_
        obtain ⟨z8, w⟩ := w
        refine gw_gf (hk _ _ rfl) (RL_fR hR (gs_cn_of z8 gs_cn_2_2)) ?_
        refine gw_pst hk 1 (st' := (33, [some (.ref r0), some (.int x1), some (.int (x1 - (gsV s r0 4)))], [.int (x1 - (gsV s r0 4)), .ref (r0 + 1)], h)) rfl ?_
        obtain ⟨n9, a9, b9, w⟩ := w
        refine gw_ald (hk _ _ rfl) (Or.inl ⟨rfl, rfl⟩) (RL_a (t := 0) (n := n9) hR a9 (by decide)) b9 ?_
        refine gw_pst hk 1 (st' := (38, [some (.ref r0), some (.int x1), some (.int (x1 - (gsV s r0 4)))], [.int (gsA s (r0 + 1) (x1 - (gsV s r0 4) : Int32).toNatClampNeg)], h)) rfl ?_
        refine gw_le (L' := [none, none, none]) (gm_le_n _ (gm_le_n _ (gm_le_n _ gm_le_nil))) ?_
        exact ok30_38 c d Post _ _ w _ hR
/-- CommandByTurns$Leader.stride()I -/
def wm31 (c : gx) (d : Nat) (Post : Option Value → gs → Prop) (r0 : Nat) (s : gs) : Prop :=
  gs_isC r0 2 = true ∧ Post (some (.int (((gsV s r0 0) / 3) + 1))) s
theorem okm31 (c : gx) (d : Nat) (Post : Option Value → gs → Prop) (r0 : Nat) (s : gs) (w : wm31 c d Post r0 s) : tE c (d + 1) 31 [.ref r0] s Post := by
  intro h hR
  have hk : ∀ pc i, gm_find gk_31 pc = some i → gm_code (gt_T c.1 c.2.1 c.2.2.1) 31 pc = some i := fun _ _ z => z
  unfold wm31 at w
  refine ge_of (by decide) (Nat.le_of_ble_eq_true rfl) ?_
  show gw (gt_T c.1 c.2.1 c.2.2.1) c.2.2.2 d 31 (0, [some (.ref r0)], [], h) _
  refine gw_pst hk 1 (st' := (1, [some (.ref r0)], [.ref r0], h)) rfl ?_
  obtain ⟨z1, w⟩ := w
  refine gw_gf (hk _ _ rfl) (RL_fI hR (gs_ck_of z1 gs_ck_2_0)) ?_
  refine gw_pst hk 1 (st' := (5, [some (.ref r0)], [.int 3, .int (gsV s r0 0)], h)) rfl ?_
  refine gw_idiv (hk _ _ rfl) (by decide) ?_ rfl
  refine gw_pst hk 2 (st' := (8, [some (.ref r0)], [.int (((gsV s r0 0) / 3) + 1)], h)) rfl ?_
  exact gw_ret (hk _ _ rfl) rfl ⟨_, hR, w⟩
