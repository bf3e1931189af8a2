/-! What must hold for a run to end with Post: by program (wip/whole/gen_wp.py). -/
def w231_62 (c : gx) (d : Nat) (Post : Option Value → gs → Prop) (K31 : Int32 → Int32 → Int32 → gs → Prop) (x1 : Int32) (x3 : Int32) (xs0 : Int32) (xs1 : Int32) (s : gs) : Prop :=
  K31 x1 (xs0 ||| xs1) (x3 + 1) s
theorem ok231_62 (c : gx) (d : Nat) (Post : Option Value → gs → Prop) (K31 : Int32 → Int32 → Int32 → gs → Prop)  (hK31 : ∀ (x1 : Int32) (x2 : Int32) (x3 : Int32) (s : gs), K31 x1 x2 x3 s → tV c d 231 31 [some (.ref 48), some (.int x1), some (.int x2), some (.int x3)] [] s Post) (x1 : Int32) (x3 : Int32) (xs0 : Int32) (xs1 : Int32) (s : gs) (w : w231_62 c d Post K31 x1 x3 xs0 xs1 s) : tV c d 231 62 [some (.ref 48), some (.int x1), none, some (.int x3)] [.int xs1, .int xs0] s Post := by
  intro h hR
  have hk : ∀ pc i, gm_find gk_231 pc = some i → gm_code (gt_T c.1 c.2.1 c.2.2.1) 231 pc = some i := fun _ _ z => z
  unfold w231_62 at w
  unfold gV
  refine gw_pst hk 4 (st' := (31, [some (.ref 48), some (.int x1), some (.int (xs0 ||| xs1)), some (.int (x3 + 1))], [], h)) rfl ?_
  exact hK31 _ _ _ _ w _ hR
def wb231_31 (c : gx) (d : Nat) (Post : Option Value → gs → Prop) (K31 : Int32 → Int32 → Int32 → gs → Prop) (x1 : Int32) (x2 : Int32) (x3 : Int32) (s : gs) : Prop :=
  (((gsV s 48 1) ≤ x3 → ∀ s_3 : gs, s_3 = gs_V s 48 12 0 → tE c d 266 [.int x2] s_3 (fun v4 s_4 => ∃ x_4 : Int32, v4 = some (.int x_4) ∧ tE c d 157 [.ref 48, .long ((x_4 : Int32).toInt64)] s_4 (fun v5 s_5 => v5 = none ∧ Post (some (.int x2)) s_5))) ∧ (¬ ((gsV s 48 1) ≤ x3) → tE c d 227 [.ref 48, .int 0, .int x3] s (fun v7 s_7 => ∃ x_7 : Int32, v7 = some (.int x_7) ∧ vp_in x_7 252 ∧ (((gsA s_7 68 (x_7 : Int32).toNatClampNeg) = x1 → w231_62 c d Post K31 x1 x3 x2 (1 <<< (x3 &&& 31)) s_7) ∧ (¬ ((gsA s_7 68 (x_7 : Int32).toNatClampNeg) = x1) → w231_62 c d Post K31 x1 x3 x2 0 s_7)))))
theorem okb231_31 (c : gx) (d : Nat) (Post : Option Value → gs → Prop) (K31 : Int32 → Int32 → Int32 → gs → Prop)  (hK31 : ∀ (x1 : Int32) (x2 : Int32) (x3 : Int32) (s : gs), K31 x1 x2 x3 s → tV c d 231 31 [some (.ref 48), some (.int x1), some (.int x2), some (.int x3)] [] s Post) (x1 : Int32) (x2 : Int32) (x3 : Int32) (s : gs) (w : wb231_31 c d Post K31 x1 x2 x3 s) : tV c d 231 31 [some (.ref 48), some (.int x1), some (.int x2), some (.int x3)] [] s Post := by
  intro h hR
  have hk : ∀ pc i, gm_find gk_231 pc = some i → gm_code (gt_T c.1 c.2.1 c.2.2.1) 231 pc = some i := fun _ _ z => z
  unfold wb231_31 at w
  unfold gV
  refine gw_pst hk 2 (st' := (33, [some (.ref 48), some (.int x1), some (.int x2), some (.int x3)], [.ref 48, .int x3], h)) rfl ?_
  refine gw_gf (hk _ _ rfl) (RL_fI hR rfl) ?_
  refine gw_br (c := (gsV s 48 1) ≤ x3) (a := (70, [some (.ref 48), some (.int x1), some (.int x2), some (.int x3)], [], h)) (b := (39, [some (.ref 48), some (.int x1), some (.int x2), some (.int x3)], [], h)) (hk _ _ rfl) rfl ⟨fun z2 => ?_, fun z2 => ?_⟩
  · replace w := w.1 z2
    refine gw_pst hk 2 (st' := (72, [some (.ref 48), some (.int x1), some (.int x2), some (.int x3)], [.int 0, .ref 48], h)) rfl ?_
    obtain ⟨fs3, e3⟩ := RL_o hR (r := 48) (ci := 10) rfl
    obtain ⟨l3, hR3⟩ := RL_pI (k := 12) (x := 0) hR rfl e3
    refine gw_pf (hk _ _ rfl) e3 l3 rfl ?_
    generalize gm_put h _ _ = h at hR3 ⊢
    obtain ⟨s_3, es3⟩ : ∃ z, z = gs_V s 48 12 0 := ⟨_, rfl⟩
    rw [← es3] at hR3
    replace w := w s_3 es3
    replace hR := hR3
    refine gw_pst hk 2 (st' := (77, [some (.ref 48), some (.int x1), some (.int x2), some (.int x3)], [.int x2, .ref 48], h)) rfl ?_
    refine gw_call (jj := 266) (As := [.int x2]) (rest := [.ref 48]) (hk _ _ rfl) (fun _ => rfl) rfl rfl (Nat.le_of_ble_eq_true rfl) rfl ?_
    refine ge_imp (w h hR) (fun v4 h w => ?_)
    obtain ⟨s_4, hR, x_4, rfl, w⟩ := w
    show gw (gt_T c.1 c.2.1 c.2.2.1) c.2.2.2 d 231 (80, [some (.ref 48), some (.int x1), some (.int x2), some (.int x3)], [.int x_4, .ref 48], h) _
    refine gw_pst hk 1 (st' := (81, [some (.ref 48), some (.int x1), some (.int x2), some (.int x3)], [.long ((x_4 : Int32).toInt64), .ref 48], h)) rfl ?_
    obtain ⟨fs5, e5⟩ := RL_o hR (r := 48) (ci := 10) rfl
    refine gw_call (jj := 157) (As := [.ref 48, .long ((x_4 : Int32).toInt64)]) (rest := []) (hk _ _ rfl) (fun _ => rfl) rfl rfl (Nat.le_of_ble_eq_true rfl) (gm_rcv_v rfl e5 rfl) ?_
    refine ge_imp (w h hR) (fun v5 h w => ?_)
    obtain ⟨s_5, hR, rfl, w⟩ := w
    show gw (gt_T c.1 c.2.1 c.2.2.1) c.2.2.2 d 231 (84, [some (.ref 48), some (.int x1), some (.int x2), some (.int x3)], [], h) _
    refine gw_pst hk 1 (st' := (85, [some (.ref 48), some (.int x1), some (.int x2), some (.int x3)], [.int x2], h)) rfl ?_
    exact gw_ret (hk _ _ rfl) rfl ⟨_, hR, w⟩
  · replace w := w.2 z2
    refine gw_pst hk 2 (st' := (41, [some (.ref 48), some (.int x1), some (.int x2), some (.int x3)], [.ref 48, .int x2], h)) rfl ?_
    refine gw_gf (hk _ _ rfl) (RL_fR (n := 68) hR rfl) ?_
    refine gw_pst hk 3 (st' := (47, [some (.ref 48), some (.int x1), some (.int x2), some (.int x3)], [.int x3, .int 0, .ref 48, .ref 68, .int x2], h)) rfl ?_
    obtain ⟨fs7, e7⟩ := RL_o hR (r := 48) (ci := 10) rfl
    refine gw_call (jj := 227) (As := [.ref 48, .int 0, .int x3]) (rest := [.ref 68, .int x2]) (hk _ _ rfl) (fun _ => rfl) rfl rfl (Nat.le_of_ble_eq_true rfl) (gm_rcv_v rfl e7 rfl) ?_
    refine ge_imp (w h hR) (fun v7 h w => ?_)
    obtain ⟨s_7, hR, x_7, rfl, w⟩ := w
    show gw (gt_T c.1 c.2.1 c.2.2.1) c.2.2.2 d 231 (50, [some (.ref 48), some (.int x1), some (.int x2), some (.int x3)], [.int x_7, .ref 68, .int x2], h) _
    obtain ⟨b8, w⟩ := w
    refine gw_ald (hk _ _ rfl) (Or.inl ⟨rfl, rfl⟩) (RL_a (t := 0) (n := 252) hR rfl (by decide)) b8 ?_
    refine gw_pst hk 1 (st' := (52, [some (.ref 48), some (.int x1), some (.int x2), some (.int x3)], [.int x1, .int (gsA s_7 68 (x_7 : Int32).toNatClampNeg), .int x2], h)) rfl ?_
    refine gw_br (c := (gsA s_7 68 (x_7 : Int32).toNatClampNeg) = x1) (a := (55, [some (.ref 48), some (.int x1), some (.int x2), some (.int x3)], [.int x2], h)) (b := (61, [some (.ref 48), some (.int x1), some (.int x2), some (.int x3)], [.int x2], h)) (hk _ _ rfl) rfl ⟨fun z9 => ?_, fun z9 => ?_⟩
    · replace w := w.1 z9
      refine gw_pst hk 4 (st' := (62, [some (.ref 48), some (.int x1), some (.int x2), some (.int x3)], [.int (1 <<< (x3 &&& 31)), .int x2], h)) rfl ?_
      refine gw_le (L' := [some (.ref 48), some (.int x1), none, some (.int x3)]) (gm_le_k _ (gm_le_k _ (gm_le_n _ (gm_le_k _ gm_le_nil)))) ?_
      exact ok231_62 c d Post K31 hK31 _ _ _ _ _ w _ hR
    · replace w := w.2 z9
      refine gw_pst hk 1 (st' := (62, [some (.ref 48), some (.int x1), some (.int x2), some (.int x3)], [.int 0, .int x2], h)) rfl ?_
      refine gw_le (L' := [some (.ref 48), some (.int x1), none, some (.int x3)]) (gm_le_k _ (gm_le_k _ (gm_le_n _ (gm_le_k _ gm_le_nil)))) ?_
      exact ok231_62 c d Post K31 hK31 _ _ _ _ _ w _ hR
def wl231_31 (c : gx) (d : Nat) (Post : Option Value → gs → Prop) : Nat → Int32 → Int32 → Int32 → gs → Prop
  | 0 => fun _ _ _ _ => False
  | n + 1 => wb231_31 c d Post (wl231_31 c d Post n)
theorem okl231_31 (c : gx) (d : Nat) (Post : Option Value → gs → Prop) : ∀ (n : Nat) (x1 : Int32) (x2 : Int32) (x3 : Int32) (s : gs), wl231_31 c d Post n x1 x2 x3 s → tV c d 231 31 [some (.ref 48), some (.int x1), some (.int x2), some (.int x3)] [] s Post
  | 0, _, _, _, _, w => w.elim
  | n + 1, x1, x2, x3, s, w => okb231_31 c d Post (wl231_31 c d Post n) (okl231_31 c d Post n) x1 x2 x3 s w
/-- CommandByTurnsModel.safe(I)I -/
def wm231 (c : gx) (d : Nat) (Post : Option Value → gs → Prop) (x1 : Int32) (s : gs) : Prop :=
  ∀ s_1 : gs, s_1 = gs_V s 48 13 0 → tE c d 154 [.int x1, .int 1, .int 20] s_1 (fun v2 s_2 => ∃ x_2 : Int32, v2 = some (.int x_2) ∧ ((x_2 = 0 → Post (some (.int (-1))) s_2) ∧ (¬ (x_2 = 0) → ∀ s_4 : gs, s_4 = gs_V s_2 48 32 0 → tE c d 229 [.ref 48, .int x1] s_4 (fun v5 s_5 => v5 = none ∧ ∃ n, wl231_31 c d Post n x1 0 0 s_5))))
theorem okm231 (c : gx) (d : Nat) (Post : Option Value → gs → Prop) (x1 : Int32) (s : gs) (w : wm231 c d Post x1 s) : tE c (d + 1) 231 [.ref 48, .int x1] s Post := by
  intro h hR
  have hk : ∀ pc i, gm_find gk_231 pc = some i → gm_code (gt_T c.1 c.2.1 c.2.2.1) 231 pc = some i := fun _ _ z => z
  unfold wm231 at w
  refine ge_of (by decide) (Nat.le_of_ble_eq_true rfl) ?_
  show gw (gt_T c.1 c.2.1 c.2.2.1) c.2.2.2 d 231 (0, [some (.ref 48), some (.int x1), none, none], [], h) _
  refine gw_pst hk 2 (st' := (2, [some (.ref 48), some (.int x1), none, none], [.int 0, .ref 48], h)) rfl ?_
  obtain ⟨fs1, e1⟩ := RL_o hR (r := 48) (ci := 10) rfl
  obtain ⟨l1, hR1⟩ := RL_pI (k := 13) (x := 0) hR rfl e1
  refine gw_pf (hk _ _ rfl) e1 l1 rfl ?_
  generalize gm_put h _ _ = h at hR1 ⊢
  obtain ⟨s_1, es1⟩ : ∃ z, z = gs_V s 48 13 0 := ⟨_, rfl⟩
  rw [← es1] at hR1
  replace w := w s_1 es1
  replace hR := hR1
  refine gw_pst hk 3 (st' := (9, [some (.ref 48), some (.int x1), none, none], [.int 20, .int 1, .int x1], h)) rfl ?_
  refine gw_call (jj := 154) (As := [.int x1, .int 1, .int 20]) (rest := []) (hk _ _ rfl) (fun _ => rfl) rfl rfl (Nat.le_of_ble_eq_true rfl) rfl ?_
  refine ge_imp (w h hR) (fun v2 h w => ?_)
  obtain ⟨s_2, hR, x_2, rfl, w⟩ := w
  show gw (gt_T c.1 c.2.1 c.2.2.1) c.2.2.2 d 231 (12, [some (.ref 48), some (.int x1), none, none], [.int x_2], h) _
  refine gw_br (c := x_2 = 0) (a := (15, [some (.ref 48), some (.int x1), none, none], [], h)) (b := (17, [some (.ref 48), some (.int x1), none, none], [], h)) (hk _ _ rfl) rfl ⟨fun z3 => ?_, fun z3 => ?_⟩
  · replace w := w.1 z3
    refine gw_pst hk 1 (st' := (16, [some (.ref 48), some (.int x1), none, none], [.int (-1)], h)) rfl ?_
    exact gw_ret (hk _ _ rfl) rfl ⟨_, hR, w⟩
  · replace w := w.2 z3
    refine gw_pst hk 2 (st' := (19, [some (.ref 48), some (.int x1), none, none], [.int 0, .ref 48], h)) rfl ?_
    obtain ⟨fs4, e4⟩ := RL_o hR (r := 48) (ci := 10) rfl
    obtain ⟨l4, hR4⟩ := RL_pI (k := 32) (x := 0) hR rfl e4
    refine gw_pf (hk _ _ rfl) e4 l4 rfl ?_
    generalize gm_put h _ _ = h at hR4 ⊢
    obtain ⟨s_4, es4⟩ : ∃ z, z = gs_V s_2 48 32 0 := ⟨_, rfl⟩
    rw [← es4] at hR4
    replace w := w s_4 es4
    replace hR := hR4
    refine gw_pst hk 2 (st' := (24, [some (.ref 48), some (.int x1), none, none], [.int x1, .ref 48], h)) rfl ?_
    obtain ⟨fs5, e5⟩ := RL_o hR (r := 48) (ci := 10) rfl
    refine gw_call (jj := 229) (As := [.ref 48, .int x1]) (rest := []) (hk _ _ rfl) (fun _ => rfl) rfl rfl (Nat.le_of_ble_eq_true rfl) (gm_rcv_v rfl e5 rfl) ?_
    refine ge_imp (w h hR) (fun v5 h w => ?_)
    obtain ⟨s_5, hR, rfl, w⟩ := w
    show gw (gt_T c.1 c.2.1 c.2.2.1) c.2.2.2 d 231 (27, [some (.ref 48), some (.int x1), none, none], [], h) _
    refine gw_pst hk 4 (st' := (31, [some (.ref 48), some (.int x1), some (.int 0), some (.int 0)], [], h)) rfl ?_
    obtain ⟨n, w⟩ := w
    exact okl231_31 c d Post n _ _ _ _ w _ hR
def w232_53 (c : gx) (d : Nat) (Post : Option Value → gs → Prop) (K21 : Int32 → Int32 → Int32 → gs → Prop) (x1 : Int32) (x3 : Int32) (xs0 : Int32) (xs1 : Int32) (s : gs) : Prop :=
  K21 x1 (xs0 ||| xs1) (x3 + 1) s
theorem ok232_53 (c : gx) (d : Nat) (Post : Option Value → gs → Prop) (K21 : Int32 → Int32 → Int32 → gs → Prop)  (hK21 : ∀ (x1 : Int32) (x2 : Int32) (x3 : Int32) (s : gs), K21 x1 x2 x3 s → tV c d 232 21 [some (.ref 48), some (.int x1), some (.int x2), some (.int x3), none] [] s Post) (x1 : Int32) (x3 : Int32) (xs0 : Int32) (xs1 : Int32) (s : gs) (w : w232_53 c d Post K21 x1 x3 xs0 xs1 s) : tV c d 232 53 [some (.ref 48), some (.int x1), none, some (.int x3), none] [.int xs1, .int xs0] s Post := by
  intro h hR
  have hk : ∀ pc i, gm_find gk_232 pc = some i → gm_code (gt_T c.1 c.2.1 c.2.2.1) 232 pc = some i := fun _ _ z => z
  unfold w232_53 at w
  unfold gV
  refine gw_pst hk 4 (st' := (21, [some (.ref 48), some (.int x1), some (.int (xs0 ||| xs1)), some (.int (x3 + 1)), none], [], h)) rfl ?_
  exact hK21 _ _ _ _ w _ hR
def w232_135 (c : gx) (d : Nat) (Post : Option Value → gs → Prop) (K66 : Int32 → Int32 → Int32 → Int32 → gs → Prop) (x1 : Int32) (x2 : Int32) (x3 : Int32) (x4 : Int32) (s : gs) : Prop :=
  K66 x1 x2 x3 (x4 + 1) s
theorem ok232_135 (c : gx) (d : Nat) (Post : Option Value → gs → Prop) (K66 : Int32 → Int32 → Int32 → Int32 → gs → Prop)  (hK66 : ∀ (x1 : Int32) (x2 : Int32) (x3 : Int32) (x4 : Int32) (s : gs), K66 x1 x2 x3 x4 s → tV c d 232 66 [some (.ref 48), some (.int x1), some (.int x2), some (.int x3), some (.int x4)] [] s Post) (x1 : Int32) (x2 : Int32) (x3 : Int32) (x4 : Int32) (s : gs) (w : w232_135 c d Post K66 x1 x2 x3 x4 s) : tV c d 232 135 [some (.ref 48), some (.int x1), some (.int x2), some (.int x3), some (.int x4)] [] s Post := by
  intro h hR
  have hk : ∀ pc i, gm_find gk_232 pc = some i → gm_code (gt_T c.1 c.2.1 c.2.2.1) 232 pc = some i := fun _ _ z => z
  unfold w232_135 at w
  unfold gV
  refine gw_pst hk 2 (st' := (66, [some (.ref 48), some (.int x1), some (.int x2), some (.int x3), some (.int (x4 + 1))], [], h)) rfl ?_
  exact hK66 _ _ _ _ _ w _ hR
def w232_101 (c : gx) (d : Nat) (Post : Option Value → gs → Prop) (K66 : Int32 → Int32 → Int32 → Int32 → gs → Prop) (x1 : Int32) (x2 : Int32) (x3 : Int32) (x4 : Int32) (s : gs) : Prop :=
  ∀ s_1 : gs, s_1 = gs_V s 48 32 x4 → tE c d 229 [.ref 48, .int x1] s_1 (fun v2 s_2 => v2 = none ∧ vp_in 1 108 ∧ tE c d 227 [.ref 48, .int 0, .int (gsA s_2 49 (1 : Int32).toNatClampNeg)] s_2 (fun v6 s_6 => ∃ x_6 : Int32, v6 = some (.int x_6) ∧ vp_in x_6 252 ∧ ((x1 ≤ (gsA s_6 68 (x_6 : Int32).toNatClampNeg) → w232_135 c d Post K66 x1 x2 x3 x4 s_6) ∧ (¬ (x1 ≤ (gsA s_6 68 (x_6 : Int32).toNatClampNeg)) → w232_135 c d Post K66 x1 x2 x4 x4 s_6))))
theorem ok232_101 (c : gx) (d : Nat) (Post : Option Value → gs → Prop) (K66 : Int32 → Int32 → Int32 → Int32 → gs → Prop)  (hK66 : ∀ (x1 : Int32) (x2 : Int32) (x3 : Int32) (x4 : Int32) (s : gs), K66 x1 x2 x3 x4 s → tV c d 232 66 [some (.ref 48), some (.int x1), some (.int x2), some (.int x3), some (.int x4)] [] s Post) (x1 : Int32) (x2 : Int32) (x3 : Int32) (x4 : Int32) (s : gs) (w : w232_101 c d Post K66 x1 x2 x3 x4 s) : tV c d 232 101 [some (.ref 48), some (.int x1), some (.int x2), some (.int x3), some (.int x4)] [] s Post := by
  intro h hR
  have hk : ∀ pc i, gm_find gk_232 pc = some i → gm_code (gt_T c.1 c.2.1 c.2.2.1) 232 pc = some i := fun _ _ z => z
  unfold w232_101 at w
  unfold gV
  refine gw_pst hk 2 (st' := (104, [some (.ref 48), some (.int x1), some (.int x2), some (.int x3), some (.int x4)], [.int x4, .ref 48], h)) rfl ?_
  obtain ⟨fs1, e1⟩ := RL_o hR (r := 48) (ci := 10) rfl
  obtain ⟨l1, hR1⟩ := RL_pI (k := 32) (x := x4) hR rfl e1
  refine gw_pf (hk _ _ rfl) e1 l1 rfl ?_
  generalize gm_put h _ _ = h at hR1 ⊢
  obtain ⟨s_1, es1⟩ : ∃ z, z = gs_V s 48 32 x4 := ⟨_, rfl⟩
  rw [← es1] at hR1
  replace w := w s_1 es1
  replace hR := hR1
  refine gw_pst hk 2 (st' := (109, [some (.ref 48), some (.int x1), some (.int x2), some (.int x3), some (.int x4)], [.int x1, .ref 48], h)) rfl ?_
  obtain ⟨fs2, e2⟩ := RL_o hR (r := 48) (ci := 10) rfl
  refine gw_call (jj := 229) (As := [.ref 48, .int x1]) (rest := []) (hk _ _ rfl) (fun _ => rfl) rfl rfl (Nat.le_of_ble_eq_true rfl) (gm_rcv_v rfl e2 rfl) ?_
  refine ge_imp (w h hR) (fun v2 h w => ?_)
  obtain ⟨s_2, hR, rfl, w⟩ := w
  show gw (gt_T c.1 c.2.1 c.2.2.1) c.2.2.2 d 232 (112, [some (.ref 48), some (.int x1), some (.int x2), some (.int x3), some (.int x4)], [], h) _
  refine gw_pst hk 1 (st' := (113, [some (.ref 48), some (.int x1), some (.int x2), some (.int x3), some (.int x4)], [.ref 48], h)) rfl ?_
  refine gw_gf (hk _ _ rfl) (RL_fR (n := 68) hR rfl) ?_
  refine gw_pst hk 3 (st' := (119, [some (.ref 48), some (.int x1), some (.int x2), some (.int x3), some (.int x4)], [.ref 48, .int 0, .ref 48, .ref 68], h)) rfl ?_
  refine gw_gf (hk _ _ rfl) (RL_fR (n := 49) hR rfl) ?_
  refine gw_pst hk 1 (st' := (123, [some (.ref 48), some (.int x1), some (.int x2), some (.int x3), some (.int x4)], [.int 1, .ref 49, .int 0, .ref 48, .ref 68], h)) rfl ?_
  obtain ⟨b5, w⟩ := w
  refine gw_ald (hk _ _ rfl) (Or.inl ⟨rfl, rfl⟩) (RL_a (t := 0) (n := 108) hR rfl (by decide)) b5 ?_
  obtain ⟨fs6, e6⟩ := RL_o hR (r := 48) (ci := 10) rfl
  refine gw_call (jj := 227) (As := [.ref 48, .int 0, .int (gsA s_2 49 (1 : Int32).toNatClampNeg)]) (rest := [.ref 68]) (hk _ _ rfl) (fun _ => rfl) rfl rfl (Nat.le_of_ble_eq_true rfl) (gm_rcv_v rfl e6 rfl) ?_
  refine ge_imp (w h hR) (fun v6 h w => ?_)
  obtain ⟨s_6, hR, x_6, rfl, w⟩ := w
  show gw (gt_T c.1 c.2.1 c.2.2.1) c.2.2.2 d 232 (127, [some (.ref 48), some (.int x1), some (.int x2), some (.int x3), some (.int x4)], [.int x_6, .ref 68], h) _
  obtain ⟨b7, w⟩ := w
  refine gw_ald (hk _ _ rfl) (Or.inl ⟨rfl, rfl⟩) (RL_a (t := 0) (n := 252) hR rfl (by decide)) b7 ?_
  refine gw_pst hk 1 (st' := (129, [some (.ref 48), some (.int x1), some (.int x2), some (.int x3), some (.int x4)], [.int x1, .int (gsA s_6 68 (x_6 : Int32).toNatClampNeg)], h)) rfl ?_
  refine gw_br (c := x1 ≤ (gsA s_6 68 (x_6 : Int32).toNatClampNeg)) (a := (135, [some (.ref 48), some (.int x1), some (.int x2), some (.int x3), some (.int x4)], [], h)) (b := (132, [some (.ref 48), some (.int x1), some (.int x2), some (.int x3), some (.int x4)], [], h)) (hk _ _ rfl) rfl ⟨fun z8 => ?_, fun z8 => ?_⟩
  · replace w := w.1 z8
    exact ok232_135 c d Post K66 hK66 _ _ _ _ _ w _ hR
  · replace w := w.2 z8
    refine gw_pst hk 2 (st' := (135, [some (.ref 48), some (.int x1), some (.int x2), some (.int x4), some (.int x4)], [], h)) rfl ?_
    exact ok232_135 c d Post K66 hK66 _ _ _ _ _ w _ hR
def wb232_66 (c : gx) (d : Nat) (Post : Option Value → gs → Prop) (K66 : Int32 → Int32 → Int32 → Int32 → gs → Prop) (x1 : Int32) (x2 : Int32) (x3 : Int32) (x4 : Int32) (s : gs) : Prop :=
  ((x2 < x4 → ∀ s_2 : gs, s_2 = gs_V s 48 32 0 → ((x3 = (-1) → Post (some (.int (-2))) s_2) ∧ (¬ (x3 = (-1)) → ∀ s_4 : gs, s_4 = gs_V s_2 48 12 0 → tE c d 157 [.ref 48, .long ((x3 : Int32).toInt64)] s_4 (fun v5 s_5 => v5 = none ∧ tE c d 266 [.int x3] s_5 (fun v6 s_6 => ∃ x_6 : Int32, v6 = some (.int x_6) ∧ Post (some (.int x_6)) s_6))))) ∧ (¬ (x2 < x4) → (((x4 &&& (x2 ^^^ (-1))) = 0 → ((x3 = (-1) → w232_101 c d Post K66 x1 x2 x3 x4 s) ∧ (¬ (x3 = (-1)) → tE c d 266 [.int x4] s (fun v9 s_9 => ∃ x_9 : Int32, v9 = some (.int x_9) ∧ tE c d 266 [.int x3] s_9 (fun v10 s_10 => ∃ x_10 : Int32, v10 = some (.int x_10) ∧ ((x_9 < x_10 → w232_101 c d Post K66 x1 x2 x3 x4 s_10) ∧ (¬ (x_9 < x_10) → w232_135 c d Post K66 x1 x2 x3 x4 s_10))))))) ∧ (¬ ((x4 &&& (x2 ^^^ (-1))) = 0) → w232_135 c d Post K66 x1 x2 x3 x4 s))))
theorem okb232_66 (c : gx) (d : Nat) (Post : Option Value → gs → Prop) (K66 : Int32 → Int32 → Int32 → Int32 → gs → Prop)  (hK66 : ∀ (x1 : Int32) (x2 : Int32) (x3 : Int32) (x4 : Int32) (s : gs), K66 x1 x2 x3 x4 s → tV c d 232 66 [some (.ref 48), some (.int x1), some (.int x2), some (.int x3), some (.int x4)] [] s Post) (x1 : Int32) (x2 : Int32) (x3 : Int32) (x4 : Int32) (s : gs) (w : wb232_66 c d Post K66 x1 x2 x3 x4 s) : tV c d 232 66 [some (.ref 48), some (.int x1), some (.int x2), some (.int x3), some (.int x4)] [] s Post := by
  intro h hR
  have hk : ∀ pc i, gm_find gk_232 pc = some i → gm_code (gt_T c.1 c.2.1 c.2.2.1) 232 pc = some i := fun _ _ z => z
  unfold wb232_66 at w
  unfold gV
  refine gw_pst hk 2 (st' := (69, [some (.ref 48), some (.int x1), some (.int x2), some (.int x3), some (.int x4)], [.int x2, .int x4], h)) rfl ?_
  refine gw_br (c := x2 < x4) (a := (141, [some (.ref 48), some (.int x1), some (.int x2), some (.int x3), some (.int x4)], [], h)) (b := (72, [some (.ref 48), some (.int x1), some (.int x2), some (.int x3), some (.int x4)], [], h)) (hk _ _ rfl) rfl ⟨fun z1 => ?_, fun z1 => ?_⟩
  · replace w := w.1 z1
    refine gw_pst hk 2 (st' := (143, [some (.ref 48), some (.int x1), some (.int x2), some (.int x3), some (.int x4)], [.int 0, .ref 48], h)) rfl ?_
    obtain ⟨fs2, e2⟩ := RL_o hR (r := 48) (ci := 10) rfl
    obtain ⟨l2, hR2⟩ := RL_pI (k := 32) (x := 0) hR rfl e2
    refine gw_pf (hk _ _ rfl) e2 l2 rfl ?_
    generalize gm_put h _ _ = h at hR2 ⊢
    obtain ⟨s_2, es2⟩ : ∃ z, z = gs_V s 48 32 0 := ⟨_, rfl⟩
    rw [← es2] at hR2
    replace w := w s_2 es2
    replace hR := hR2
    refine gw_pst hk 2 (st' := (148, [some (.ref 48), some (.int x1), some (.int x2), some (.int x3), some (.int x4)], [.int (-1), .int x3], h)) rfl ?_
    refine gw_br (c := x3 = (-1)) (a := (151, [some (.ref 48), some (.int x1), some (.int x2), some (.int x3), some (.int x4)], [], h)) (b := (154, [some (.ref 48), some (.int x1), some (.int x2), some (.int x3), some (.int x4)], [], h)) (hk _ _ rfl) rfl ⟨fun z3 => ?_, fun z3 => ?_⟩
    · replace w := w.1 z3
      refine gw_pst hk 1 (st' := (153, [some (.ref 48), some (.int x1), some (.int x2), some (.int x3), some (.int x4)], [.int (-2)], h)) rfl ?_
      exact gw_ret (hk _ _ rfl) rfl ⟨_, hR, w⟩
    · replace w := w.2 z3
      refine gw_pst hk 2 (st' := (156, [some (.ref 48), some (.int x1), some (.int x2), some (.int x3), some (.int x4)], [.int 0, .ref 48], h)) rfl ?_
      obtain ⟨fs4, e4⟩ := RL_o hR (r := 48) (ci := 10) rfl
      obtain ⟨l4, hR4⟩ := RL_pI (k := 12) (x := 0) hR rfl e4
      refine gw_pf (hk _ _ rfl) e4 l4 rfl ?_
      generalize gm_put h _ _ = h at hR4 ⊢
      obtain ⟨s_4, es4⟩ : ∃ z, z = gs_V s_2 48 12 0 := ⟨_, rfl⟩
      rw [← es4] at hR4
      replace w := w s_4 es4
      replace hR := hR4
      refine gw_pst hk 3 (st' := (162, [some (.ref 48), some (.int x1), some (.int x2), some (.int x3), some (.int x4)], [.long ((x3 : Int32).toInt64), .ref 48], h)) rfl ?_
      obtain ⟨fs5, e5⟩ := RL_o hR (r := 48) (ci := 10) rfl
      refine gw_call (jj := 157) (As := [.ref 48, .long ((x3 : Int32).toInt64)]) (rest := []) (hk _ _ rfl) (fun _ => rfl) rfl rfl (Nat.le_of_ble_eq_true rfl) (gm_rcv_v rfl e5 rfl) ?_
      refine ge_imp (w h hR) (fun v5 h w => ?_)
      obtain ⟨s_5, hR, rfl, w⟩ := w
      show gw (gt_T c.1 c.2.1 c.2.2.1) c.2.2.2 d 232 (165, [some (.ref 48), some (.int x1), some (.int x2), some (.int x3), some (.int x4)], [], h) _
      refine gw_pst hk 1 (st' := (166, [some (.ref 48), some (.int x1), some (.int x2), some (.int x3), some (.int x4)], [.int x3], h)) rfl ?_
      refine gw_call (jj := 266) (As := [.int x3]) (rest := []) (hk _ _ rfl) (fun _ => rfl) rfl rfl (Nat.le_of_ble_eq_true rfl) rfl ?_
      refine ge_imp (w h hR) (fun v6 h w => ?_)
      obtain ⟨s_6, hR, x_6, rfl, w⟩ := w
      show gw (gt_T c.1 c.2.1 c.2.2.1) c.2.2.2 d 232 (169, [some (.ref 48), some (.int x1), some (.int x2), some (.int x3), some (.int x4)], [.int x_6], h) _
      exact gw_ret (hk _ _ rfl) rfl ⟨_, hR, w⟩
  · replace w := w.2 z1
    refine gw_pst hk 5 (st' := (78, [some (.ref 48), some (.int x1), some (.int x2), some (.int x3), some (.int x4)], [.int (x4 &&& (x2 ^^^ (-1)))], h)) rfl ?_
    refine gw_br (c := (x4 &&& (x2 ^^^ (-1))) = 0) (a := (81, [some (.ref 48), some (.int x1), some (.int x2), some (.int x3), some (.int x4)], [], h)) (b := (135, [some (.ref 48), some (.int x1), some (.int x2), some (.int x3), some (.int x4)], [], h)) (hk _ _ rfl) rfl ⟨fun z7 => ?_, fun z7 => ?_⟩
    · replace w := w.1 z7
      refine gw_pst hk 2 (st' := (83, [some (.ref 48), some (.int x1), some (.int x2), some (.int x3), some (.int x4)], [.int (-1), .int x3], h)) rfl ?_
      refine gw_br (c := x3 = (-1)) (a := (101, [some (.ref 48), some (.int x1), some (.int x2), some (.int x3), some (.int x4)], [], h)) (b := (86, [some (.ref 48), some (.int x1), some (.int x2), some (.int x3), some (.int x4)], [], h)) (hk _ _ rfl) rfl ⟨fun z8 => ?_, fun z8 => ?_⟩
      · replace w := w.1 z8
        exact ok232_101 c d Post K66 hK66 _ _ _ _ _ w _ hR
      · replace w := w.2 z8
        refine gw_pst hk 1 (st' := (88, [some (.ref 48), some (.int x1), some (.int x2), some (.int x3), some (.int x4)], [.int x4], h)) rfl ?_
        refine gw_call (jj := 266) (As := [.int x4]) (rest := []) (hk _ _ rfl) (fun _ => rfl) rfl rfl (Nat.le_of_ble_eq_true rfl) rfl ?_
        refine ge_imp (w h hR) (fun v9 h w => ?_)
        obtain ⟨s_9, hR, x_9, rfl, w⟩ := w
        show gw (gt_T c.1 c.2.1 c.2.2.1) c.2.2.2 d 232 (91, [some (.ref 48), some (.int x1), some (.int x2), some (.int x3), some (.int x4)], [.int x_9], h) _
        refine gw_pst hk 1 (st' := (92, [some (.ref 48), some (.int x1), some (.int x2), some (.int x3), some (.int x4)], [.int x3, .int x_9], h)) rfl ?_
        refine gw_call (jj := 266) (As := [.int x3]) (rest := [.int x_9]) (hk _ _ rfl) (fun _ => rfl) rfl rfl (Nat.le_of_ble_eq_true rfl) rfl ?_
        refine ge_imp (w h hR) (fun v10 h w => ?_)
        obtain ⟨s_10, hR, x_10, rfl, w⟩ := w
        show gw (gt_T c.1 c.2.1 c.2.2.1) c.2.2.2 d 232 (95, [some (.ref 48), some (.int x1), some (.int x2), some (.int x3), some (.int x4)], [.int x_10, .int x_9], h) _
        refine gw_br (c := x_9 < x_10) (a := (101, [some (.ref 48), some (.int x1), some (.int x2), some (.int x3), some (.int x4)], [], h)) (b := (98, [some (.ref 48), some (.int x1), some (.int x2), some (.int x3), some (.int x4)], [], h)) (hk _ _ rfl) rfl ⟨fun z11 => ?_, fun z11 => ?_⟩
        · replace w := w.1 z11
          exact ok232_101 c d Post K66 hK66 _ _ _ _ _ w _ hR
        · replace w := w.2 z11
          refine gw_pst hk 1 (st' := (135, [some (.ref 48), some (.int x1), some (.int x2), some (.int x3), some (.int x4)], [], h)) rfl ?_
          exact ok232_135 c d Post K66 hK66 _ _ _ _ _ w _ hR
    · replace w := w.2 z7
      exact ok232_135 c d Post K66 hK66 _ _ _ _ _ w _ hR
def wl232_66 (c : gx) (d : Nat) (Post : Option Value → gs → Prop) : Nat → Int32 → Int32 → Int32 → Int32 → gs → Prop
  | 0 => fun _ _ _ _ _ => False
  | n + 1 => wb232_66 c d Post (wl232_66 c d Post n)
theorem okl232_66 (c : gx) (d : Nat) (Post : Option Value → gs → Prop) : ∀ (n : Nat) (x1 : Int32) (x2 : Int32) (x3 : Int32) (x4 : Int32) (s : gs), wl232_66 c d Post n x1 x2 x3 x4 s → tV c d 232 66 [some (.ref 48), some (.int x1), some (.int x2), some (.int x3), some (.int x4)] [] s Post
  | 0, _, _, _, _, _, w => w.elim
  | n + 1, x1, x2, x3, x4, s, w => okb232_66 c d Post (wl232_66 c d Post n) (okl232_66 c d Post n) x1 x2 x3 x4 s w
def wb232_21 (c : gx) (d : Nat) (Post : Option Value → gs → Prop) (K21 : Int32 → Int32 → Int32 → gs → Prop) (x1 : Int32) (x2 : Int32) (x3 : Int32) (s : gs) : Prop :=
  ((x1 ≤ x3 → ∃ n, wl232_66 c d Post n x1 x2 (-1) 0 s) ∧ (¬ (x1 ≤ x3) → vp_in 0 108 ∧ tE c d 184 [.ref 49, .int ((gsA s 49 (0 : Int32).toNatClampNeg) + x3)] s (fun v5 s_5 => ∃ x_5 : Int32, v5 = some (.int x_5) ∧ ((x_5 = 1 → w232_53 c d Post K21 x1 x3 x2 (1 <<< (x3 &&& 31)) s_5) ∧ (¬ (x_5 = 1) → w232_53 c d Post K21 x1 x3 x2 0 s_5)))))
theorem okb232_21 (c : gx) (d : Nat) (Post : Option Value → gs → Prop) (K21 : Int32 → Int32 → Int32 → gs → Prop)  (hK21 : ∀ (x1 : Int32) (x2 : Int32) (x3 : Int32) (s : gs), K21 x1 x2 x3 s → tV c d 232 21 [some (.ref 48), some (.int x1), some (.int x2), some (.int x3), none] [] s Post) (x1 : Int32) (x2 : Int32) (x3 : Int32) (s : gs) (w : wb232_21 c d Post K21 x1 x2 x3 s) : tV c d 232 21 [some (.ref 48), some (.int x1), some (.int x2), some (.int x3), none] [] s Post := by
  intro h hR
  have hk : ∀ pc i, gm_find gk_232 pc = some i → gm_code (gt_T c.1 c.2.1 c.2.2.1) 232 pc = some i := fun _ _ z => z
  unfold wb232_21 at w
  unfold gV
  refine gw_pst hk 2 (st' := (23, [some (.ref 48), some (.int x1), some (.int x2), some (.int x3), none], [.int x1, .int x3], h)) rfl ?_
  refine gw_br (c := x1 ≤ x3) (a := (61, [some (.ref 48), some (.int x1), some (.int x2), some (.int x3), none], [], h)) (b := (26, [some (.ref 48), some (.int x1), some (.int x2), some (.int x3), none], [], h)) (hk _ _ rfl) rfl ⟨fun z1 => ?_, fun z1 => ?_⟩
  · replace w := w.1 z1
    refine gw_pst hk 4 (st' := (66, [some (.ref 48), some (.int x1), some (.int x2), some (.int (-1)), some (.int 0)], [], h)) rfl ?_
    obtain ⟨n, w⟩ := w
    exact okl232_66 c d Post n _ _ _ _ _ w _ hR
  · replace w := w.2 z1
    refine gw_pst hk 2 (st' := (28, [some (.ref 48), some (.int x1), some (.int x2), some (.int x3), none], [.ref 48, .int x2], h)) rfl ?_
    refine gw_gf (hk _ _ rfl) (RL_fR (n := 49) hR rfl) ?_
    refine gw_pst hk 1 (st' := (32, [some (.ref 48), some (.int x1), some (.int x2), some (.int x3), none], [.ref 48, .ref 49, .int x2], h)) rfl ?_
    refine gw_gf (hk _ _ rfl) (RL_fR (n := 49) hR rfl) ?_
    refine gw_pst hk 1 (st' := (36, [some (.ref 48), some (.int x1), some (.int x2), some (.int x3), none], [.int 0, .ref 49, .ref 49, .int x2], h)) rfl ?_
    obtain ⟨b4, w⟩ := w
    refine gw_ald (hk _ _ rfl) (Or.inl ⟨rfl, rfl⟩) (RL_a (t := 0) (n := 108) hR rfl (by decide)) b4 ?_
    refine gw_pst hk 2 (st' := (39, [some (.ref 48), some (.int x1), some (.int x2), some (.int x3), none], [.int ((gsA s 49 (0 : Int32).toNatClampNeg) + x3), .ref 49, .int x2], h)) rfl ?_
    refine gw_call (jj := 184) (As := [.ref 49, .int ((gsA s 49 (0 : Int32).toNatClampNeg) + x3)]) (rest := [.int x2]) (hk _ _ rfl) (fun _ => rfl) rfl rfl (Nat.le_of_ble_eq_true rfl) rfl ?_
    refine ge_imp (w h hR) (fun v5 h w => ?_)
    obtain ⟨s_5, hR, x_5, rfl, w⟩ := w
    show gw (gt_T c.1 c.2.1 c.2.2.1) c.2.2.2 d 232 (42, [some (.ref 48), some (.int x1), some (.int x2), some (.int x3), none], [.int x_5, .int x2], h) _
    refine gw_pst hk 1 (st' := (43, [some (.ref 48), some (.int x1), some (.int x2), some (.int x3), none], [.int 1, .int x_5, .int x2], h)) rfl ?_
    refine gw_br (c := x_5 = 1) (a := (46, [some (.ref 48), some (.int x1), some (.int x2), some (.int x3), none], [.int x2], h)) (b := (52, [some (.ref 48), some (.int x1), some (.int x2), some (.int x3), none], [.int x2], h)) (hk _ _ rfl) rfl ⟨fun z6 => ?_, fun z6 => ?_⟩
    · replace w := w.1 z6
      refine gw_pst hk 4 (st' := (53, [some (.ref 48), some (.int x1), some (.int x2), some (.int x3), none], [.int (1 <<< (x3 &&& 31)), .int x2], h)) rfl ?_
      refine gw_le (L' := [some (.ref 48), some (.int x1), none, some (.int x3), none]) (gm_le_k _ (gm_le_k _ (gm_le_n _ (gm_le_k _ (gm_le_k _ gm_le_nil))))) ?_
      exact ok232_53 c d Post K21 hK21 _ _ _ _ _ w _ hR
    · replace w := w.2 z6
      refine gw_pst hk 1 (st' := (53, [some (.ref 48), some (.int x1), some (.int x2), some (.int x3), none], [.int 0, .int x2], h)) rfl ?_
      refine gw_le (L' := [some (.ref 48), some (.int x1), none, some (.int x3), none]) (gm_le_k _ (gm_le_k _ (gm_le_n _ (gm_le_k _ (gm_le_k _ gm_le_nil))))) ?_
      exact ok232_53 c d Post K21 hK21 _ _ _ _ _ w _ hR
def wl232_21 (c : gx) (d : Nat) (Post : Option Value → gs → Prop) : Nat → Int32 → Int32 → Int32 → gs → Prop
  | 0 => fun _ _ _ _ => False
  | n + 1 => wb232_21 c d Post (wl232_21 c d Post n)
theorem okl232_21 (c : gx) (d : Nat) (Post : Option Value → gs → Prop) : ∀ (n : Nat) (x1 : Int32) (x2 : Int32) (x3 : Int32) (s : gs), wl232_21 c d Post n x1 x2 x3 s → tV c d 232 21 [some (.ref 48), some (.int x1), some (.int x2), some (.int x3), none] [] s Post
  | 0, _, _, _, _, w => w.elim
  | n + 1, x1, x2, x3, s, w => okb232_21 c d Post (wl232_21 c d Post n) (okl232_21 c d Post n) x1 x2 x3 s w
/-- CommandByTurnsModel.forces(I)I -/
def wm232 (c : gx) (d : Nat) (Post : Option Value → gs → Prop) (x1 : Int32) (s : gs) : Prop :=
  ∀ s_1 : gs, s_1 = gs_V s 48 13 0 → tE c d 154 [.int x1, .int 1, .int 10] s_1 (fun v2 s_2 => ∃ x_2 : Int32, v2 = some (.int x_2) ∧ ((x_2 = 0 → Post (some (.int (-1))) s_2) ∧ (¬ (x_2 = 0) → ∃ n, wl232_21 c d Post n x1 0 0 s_2)))
theorem okm232 (c : gx) (d : Nat) (Post : Option Value → gs → Prop) (x1 : Int32) (s : gs) (w : wm232 c d Post x1 s) : tE c (d + 1) 232 [.ref 48, .int x1] s Post := by
  intro h hR
  have hk : ∀ pc i, gm_find gk_232 pc = some i → gm_code (gt_T c.1 c.2.1 c.2.2.1) 232 pc = some i := fun _ _ z => z
  unfold wm232 at w
  refine ge_of (by decide) (Nat.le_of_ble_eq_true rfl) ?_
  show gw (gt_T c.1 c.2.1 c.2.2.1) c.2.2.2 d 232 (0, [some (.ref 48), some (.int x1), none, none, none], [], h) _
  refine gw_pst hk 2 (st' := (2, [some (.ref 48), some (.int x1), none, none, none], [.int 0, .ref 48], h)) rfl ?_
  obtain ⟨fs1, e1⟩ := RL_o hR (r := 48) (ci := 10) rfl
  obtain ⟨l1, hR1⟩ := RL_pI (k := 13) (x := 0) hR rfl e1
  refine gw_pf (hk _ _ rfl) e1 l1 rfl ?_
  generalize gm_put h _ _ = h at hR1 ⊢
  obtain ⟨s_1, es1⟩ : ∃ z, z = gs_V s 48 13 0 := ⟨_, rfl⟩
  rw [← es1] at hR1
  replace w := w s_1 es1
  replace hR := hR1
  refine gw_pst hk 3 (st' := (9, [some (.ref 48), some (.int x1), none, none, none], [.int 10, .int 1, .int x1], h)) rfl ?_
  refine gw_call (jj := 154) (As := [.int x1, .int 1, .int 10]) (rest := []) (hk _ _ rfl) (fun _ => rfl) rfl rfl (Nat.le_of_ble_eq_true rfl) rfl ?_
  refine ge_imp (w h hR) (fun v2 h w => ?_)
  obtain ⟨s_2, hR, x_2, rfl, w⟩ := w
  show gw (gt_T c.1 c.2.1 c.2.2.1) c.2.2.2 d 232 (12, [some (.ref 48), some (.int x1), none, none, none], [.int x_2], h) _
  refine gw_br (c := x_2 = 0) (a := (15, [some (.ref 48), some (.int x1), none, none, none], [], h)) (b := (17, [some (.ref 48), some (.int x1), none, none, none], [], h)) (hk _ _ rfl) rfl ⟨fun z3 => ?_, fun z3 => ?_⟩
  · replace w := w.1 z3
    refine gw_pst hk 1 (st' := (16, [some (.ref 48), some (.int x1), none, none, none], [.int (-1)], h)) rfl ?_
    exact gw_ret (hk _ _ rfl) rfl ⟨_, hR, w⟩
  · replace w := w.2 z3
    refine gw_pst hk 4 (st' := (21, [some (.ref 48), some (.int x1), some (.int 0), some (.int 0), none], [], h)) rfl ?_
    obtain ⟨n, w⟩ := w
    exact okl232_21 c d Post n _ _ _ _ w _ hR
def w233_130 (c : gx) (d : Nat) (Post : Option Value → gs → Prop) (K26 : Int32 → Int32 → Int32 → Int32 → gs → Prop) (x1 : Int32) (x2 : Int32) (x3 : Int32) (x4 : Int32) (s : gs) : Prop :=
  K26 x1 x2 x3 (x4 + 1) s
theorem ok233_130 (c : gx) (d : Nat) (Post : Option Value → gs → Prop) (K26 : Int32 → Int32 → Int32 → Int32 → gs → Prop)  (hK26 : ∀ (x1 : Int32) (x2 : Int32) (x3 : Int32) (x4 : Int32) (s : gs), K26 x1 x2 x3 x4 s → tV c d 233 26 [some (.ref 48), some (.int x1), some (.int x2), some (.int x3), some (.int x4), none, none, none] [] s Post) (x1 : Int32) (x2 : Int32) (x3 : Int32) (x4 : Int32) (s : gs) (w : w233_130 c d Post K26 x1 x2 x3 x4 s) : tV c d 233 130 [some (.ref 48), some (.int x1), some (.int x2), some (.int x3), some (.int x4), none, none, none] [] s Post := by
  intro h hR
  have hk : ∀ pc i, gm_find gk_233 pc = some i → gm_code (gt_T c.1 c.2.1 c.2.2.1) 233 pc = some i := fun _ _ z => z
  unfold w233_130 at w
  unfold gV
  refine gw_pst hk 2 (st' := (26, [some (.ref 48), some (.int x1), some (.int x2), some (.int x3), some (.int (x4 + 1)), none, none, none], [], h)) rfl ?_
  exact hK26 _ _ _ _ _ w _ hR
def wb233_26 (c : gx) (d : Nat) (Post : Option Value → gs → Prop) (K26 : Int32 → Int32 → Int32 → Int32 → gs → Prop) (x1 : Int32) (x2 : Int32) (x3 : Int32) (x4 : Int32) (s : gs) : Prop :=
  ((x1 ≤ x4 → ((x2 = (-1) → Post (some (.int (-2))) s) ∧ (¬ (x2 = (-1)) → ∀ s_3 : gs, s_3 = gs_V s 48 12 0 → tE c d 157 [.ref 48, .long ((501 + x3 : Int32).toInt64)] s_3 (fun v4 s_4 => v4 = none ∧ Post (some (.int x2)) s_4)))) ∧ (¬ (x1 ≤ x4) → vp_in 0 108 ∧ tE c d 184 [.ref 49, .int ((gsA s 49 (0 : Int32).toNatClampNeg) + x4)] s (fun v8 s_8 => ∃ x_8 : Int32, v8 = some (.int x_8) ∧ ((x_8 = (-1) → w233_130 c d Post K26 x1 x2 x3 x4 s_8) ∧ (¬ (x_8 = (-1)) → vp_in 1 108 ∧ vp_in (gsA s_8 49 (1 : Int32).toNatClampNeg) 12 ∧ vp_in 2 108 ∧ vp_in (gsA s_8 49 (2 : Int32).toNatClampNeg) 12 ∧ vp_in 3 108 ∧ vp_in 4 108 ∧ vp_in 5 108 ∧ tE c d 181 [.ref 48, .int x_8, .int ((gsA s_8 50 (gsA s_8 49 (1 : Int32).toNatClampNeg : Int32).toNatClampNeg) - (gsA s_8 50 (gsA s_8 49 (2 : Int32).toNatClampNeg : Int32).toNatClampNeg)), .int (gsA s_8 49 (3 : Int32).toNatClampNeg), .int (gsA s_8 49 (4 : Int32).toNatClampNeg), .int (gsA s_8 49 (5 : Int32).toNatClampNeg), .int ((gsA s 49 (0 : Int32).toNatClampNeg) + x4), .int 0] s_8 (fun v24 s_24 => ∃ x_24 : Int32, v24 = some (.int x_24) ∧ ((x_24 < x3 → w233_130 c d Post K26 x1 x4 x_24 x4 s_24) ∧ (¬ (x_24 < x3) → w233_130 c d Post K26 x1 x2 x3 x4 s_24))))))))
theorem okb233_26 (c : gx) (d : Nat) (Post : Option Value → gs → Prop) (K26 : Int32 → Int32 → Int32 → Int32 → gs → Prop)  (hK26 : ∀ (x1 : Int32) (x2 : Int32) (x3 : Int32) (x4 : Int32) (s : gs), K26 x1 x2 x3 x4 s → tV c d 233 26 [some (.ref 48), some (.int x1), some (.int x2), some (.int x3), some (.int x4), none, none, none] [] s Post) (x1 : Int32) (x2 : Int32) (x3 : Int32) (x4 : Int32) (s : gs) (w : wb233_26 c d Post K26 x1 x2 x3 x4 s) : tV c d 233 26 [some (.ref 48), some (.int x1), some (.int x2), some (.int x3), some (.int x4), none, none, none] [] s Post := by
  intro h hR
  have hk : ∀ pc i, gm_find gk_233 pc = some i → gm_code (gt_T c.1 c.2.1 c.2.2.1) 233 pc = some i := fun _ _ z => z
  unfold wb233_26 at w
  unfold gV
  refine gw_pst hk 2 (st' := (29, [some (.ref 48), some (.int x1), some (.int x2), some (.int x3), some (.int x4), none, none, none], [.int x1, .int x4], h)) rfl ?_
  refine gw_br (c := x1 ≤ x4) (a := (136, [some (.ref 48), some (.int x1), some (.int x2), some (.int x3), some (.int x4), none, none, none], [], h)) (b := (32, [some (.ref 48), some (.int x1), some (.int x2), some (.int x3), some (.int x4), none, none, none], [], h)) (hk _ _ rfl) rfl ⟨fun z1 => ?_, fun z1 => ?_⟩
  · replace w := w.1 z1
    refine gw_pst hk 2 (st' := (138, [some (.ref 48), some (.int x1), some (.int x2), some (.int x3), some (.int x4), none, none, none], [.int (-1), .int x2], h)) rfl ?_
    refine gw_br (c := x2 = (-1)) (a := (141, [some (.ref 48), some (.int x1), some (.int x2), some (.int x3), some (.int x4), none, none, none], [], h)) (b := (144, [some (.ref 48), some (.int x1), some (.int x2), some (.int x3), some (.int x4), none, none, none], [], h)) (hk _ _ rfl) rfl ⟨fun z2 => ?_, fun z2 => ?_⟩
    · replace w := w.1 z2
      refine gw_pst hk 1 (st' := (143, [some (.ref 48), some (.int x1), some (.int x2), some (.int x3), some (.int x4), none, none, none], [.int (-2)], h)) rfl ?_
      exact gw_ret (hk _ _ rfl) rfl ⟨_, hR, w⟩
    · replace w := w.2 z2
      refine gw_pst hk 2 (st' := (146, [some (.ref 48), some (.int x1), some (.int x2), some (.int x3), some (.int x4), none, none, none], [.int 0, .ref 48], h)) rfl ?_
      obtain ⟨fs3, e3⟩ := RL_o hR (r := 48) (ci := 10) rfl
      obtain ⟨l3, hR3⟩ := RL_pI (k := 12) (x := 0) hR rfl e3
      refine gw_pf (hk _ _ rfl) e3 l3 rfl ?_
      generalize gm_put h _ _ = h at hR3 ⊢
      obtain ⟨s_3, es3⟩ : ∃ z, z = gs_V s 48 12 0 := ⟨_, rfl⟩
      rw [← es3] at hR3
      replace w := w s_3 es3
      replace hR := hR3
      refine gw_pst hk 5 (st' := (156, [some (.ref 48), some (.int x1), some (.int x2), some (.int x3), some (.int x4), none, none, none], [.long ((501 + x3 : Int32).toInt64), .ref 48], h)) rfl ?_
      obtain ⟨fs4, e4⟩ := RL_o hR (r := 48) (ci := 10) rfl
      refine gw_call (jj := 157) (As := [.ref 48, .long ((501 + x3 : Int32).toInt64)]) (rest := []) (hk _ _ rfl) (fun _ => rfl) rfl rfl (Nat.le_of_ble_eq_true rfl) (gm_rcv_v rfl e4 rfl) ?_
      refine ge_imp (w h hR) (fun v4 h w => ?_)
      obtain ⟨s_4, hR, rfl, w⟩ := w
      show gw (gt_T c.1 c.2.1 c.2.2.1) c.2.2.2 d 233 (159, [some (.ref 48), some (.int x1), some (.int x2), some (.int x3), some (.int x4), none, none, none], [], h) _
      refine gw_pst hk 1 (st' := (160, [some (.ref 48), some (.int x1), some (.int x2), some (.int x3), some (.int x4), none, none, none], [.int x2], h)) rfl ?_
      exact gw_ret (hk _ _ rfl) rfl ⟨_, hR, w⟩
  · replace w := w.2 z1
    refine gw_pst hk 1 (st' := (33, [some (.ref 48), some (.int x1), some (.int x2), some (.int x3), some (.int x4), none, none, none], [.ref 48], h)) rfl ?_
    refine gw_gf (hk _ _ rfl) (RL_fR (n := 49) hR rfl) ?_
    refine gw_pst hk 1 (st' := (37, [some (.ref 48), some (.int x1), some (.int x2), some (.int x3), some (.int x4), none, none, none], [.int 0, .ref 49], h)) rfl ?_
    obtain ⟨b6, w⟩ := w
    refine gw_ald (hk _ _ rfl) (Or.inl ⟨rfl, rfl⟩) (RL_a (t := 0) (n := 108) hR rfl (by decide)) b6 ?_
    refine gw_pst hk 4 (st' := (44, [some (.ref 48), some (.int x1), some (.int x2), some (.int x3), some (.int x4), some (.int ((gsA s 49 (0 : Int32).toNatClampNeg) + x4)), none, none], [.ref 48], h)) rfl ?_
    refine gw_gf (hk _ _ rfl) (RL_fR (n := 49) hR rfl) ?_
    refine gw_pst hk 1 (st' := (49, [some (.ref 48), some (.int x1), some (.int x2), some (.int x3), some (.int x4), some (.int ((gsA s 49 (0 : Int32).toNatClampNeg) + x4)), none, none], [.int ((gsA s 49 (0 : Int32).toNatClampNeg) + x4), .ref 49], h)) rfl ?_
    refine gw_call (jj := 184) (As := [.ref 49, .int ((gsA s 49 (0 : Int32).toNatClampNeg) + x4)]) (rest := []) (hk _ _ rfl) (fun _ => rfl) rfl rfl (Nat.le_of_ble_eq_true rfl) rfl ?_
    refine ge_imp (w h hR) (fun v8 h w => ?_)
    obtain ⟨s_8, hR, x_8, rfl, w⟩ := w
    show gw (gt_T c.1 c.2.1 c.2.2.1) c.2.2.2 d 233 (52, [some (.ref 48), some (.int x1), some (.int x2), some (.int x3), some (.int x4), some (.int ((gsA s 49 (0 : Int32).toNatClampNeg) + x4)), none, none], [.int x_8], h) _
    refine gw_pst hk 3 (st' := (57, [some (.ref 48), some (.int x1), some (.int x2), some (.int x3), some (.int x4), some (.int ((gsA s 49 (0 : Int32).toNatClampNeg) + x4)), some (.int x_8), none], [.int (-1), .int x_8], h)) rfl ?_
    refine gw_br (c := x_8 = (-1)) (a := (60, [some (.ref 48), some (.int x1), some (.int x2), some (.int x3), some (.int x4), some (.int ((gsA s 49 (0 : Int32).toNatClampNeg) + x4)), some (.int x_8), none], [], h)) (b := (63, [some (.ref 48), some (.int x1), some (.int x2), some (.int x3), some (.int x4), some (.int ((gsA s 49 (0 : Int32).toNatClampNeg) + x4)), some (.int x_8), none], [], h)) (hk _ _ rfl) rfl ⟨fun z9 => ?_, fun z9 => ?_⟩
    · replace w := w.1 z9
      refine gw_pst hk 1 (st' := (130, [some (.ref 48), some (.int x1), some (.int x2), some (.int x3), some (.int x4), some (.int ((gsA s 49 (0 : Int32).toNatClampNeg) + x4)), some (.int x_8), none], [], h)) rfl ?_
      refine gw_le (L' := [some (.ref 48), some (.int x1), some (.int x2), some (.int x3), some (.int x4), none, none, none]) (gm_le_k _ (gm_le_k _ (gm_le_k _ (gm_le_k _ (gm_le_k _ (gm_le_n _ (gm_le_n _ (gm_le_k _ gm_le_nil)))))))) ?_
      exact ok233_130 c d Post K26 hK26 _ _ _ _ _ w _ hR
    · replace w := w.2 z9
      refine gw_pst hk 3 (st' := (67, [some (.ref 48), some (.int x1), some (.int x2), some (.int x3), some (.int x4), some (.int ((gsA s 49 (0 : Int32).toNatClampNeg) + x4)), some (.int x_8), none], [.ref 48, .int x_8, .ref 48], h)) rfl ?_
      refine gw_gf (hk _ _ rfl) (RL_fR (n := 50) hR rfl) ?_
      refine gw_pst hk 1 (st' := (71, [some (.ref 48), some (.int x1), some (.int x2), some (.int x3), some (.int x4), some (.int ((gsA s 49 (0 : Int32).toNatClampNeg) + x4)), some (.int x_8), none], [.ref 48, .ref 50, .int x_8, .ref 48], h)) rfl ?_
      refine gw_gf (hk _ _ rfl) (RL_fR (n := 49) hR rfl) ?_
      refine gw_pst hk 1 (st' := (75, [some (.ref 48), some (.int x1), some (.int x2), some (.int x3), some (.int x4), some (.int ((gsA s 49 (0 : Int32).toNatClampNeg) + x4)), some (.int x_8), none], [.int 1, .ref 49, .ref 50, .int x_8, .ref 48], h)) rfl ?_
      obtain ⟨b12, w⟩ := w
      refine gw_ald (hk _ _ rfl) (Or.inl ⟨rfl, rfl⟩) (RL_a (t := 0) (n := 108) hR rfl (by decide)) b12 ?_
      obtain ⟨b13, w⟩ := w
      refine gw_ald (hk _ _ rfl) (Or.inl ⟨rfl, rfl⟩) (RL_a (t := 0) (n := 12) hR rfl (by decide)) b13 ?_
      refine gw_pst hk 1 (st' := (78, [some (.ref 48), some (.int x1), some (.int x2), some (.int x3), some (.int x4), some (.int ((gsA s 49 (0 : Int32).toNatClampNeg) + x4)), some (.int x_8), none], [.ref 48, .int (gsA s_8 50 (gsA s_8 49 (1 : Int32).toNatClampNeg : Int32).toNatClampNeg), .int x_8, .ref 48], h)) rfl ?_
      refine gw_gf (hk _ _ rfl) (RL_fR (n := 50) hR rfl) ?_
      refine gw_pst hk 1 (st' := (82, [some (.ref 48), some (.int x1), some (.int x2), some (.int x3), some (.int x4), some (.int ((gsA s 49 (0 : Int32).toNatClampNeg) + x4)), some (.int x_8), none], [.ref 48, .ref 50, .int (gsA s_8 50 (gsA s_8 49 (1 : Int32).toNatClampNeg : Int32).toNatClampNeg), .int x_8, .ref 48], h)) rfl ?_
      refine gw_gf (hk _ _ rfl) (RL_fR (n := 49) hR rfl) ?_
      refine gw_pst hk 1 (st' := (86, [some (.ref 48), some (.int x1), some (.int x2), some (.int x3), some (.int x4), some (.int ((gsA s 49 (0 : Int32).toNatClampNeg) + x4)), some (.int x_8), none], [.int 2, .ref 49, .ref 50, .int (gsA s_8 50 (gsA s_8 49 (1 : Int32).toNatClampNeg : Int32).toNatClampNeg), .int x_8, .ref 48], h)) rfl ?_
      obtain ⟨b16, w⟩ := w
      refine gw_ald (hk _ _ rfl) (Or.inl ⟨rfl, rfl⟩) (RL_a (t := 0) (n := 108) hR rfl (by decide)) b16 ?_
      obtain ⟨b17, w⟩ := w
      refine gw_ald (hk _ _ rfl) (Or.inl ⟨rfl, rfl⟩) (RL_a (t := 0) (n := 12) hR rfl (by decide)) b17 ?_
      refine gw_pst hk 2 (st' := (90, [some (.ref 48), some (.int x1), some (.int x2), some (.int x3), some (.int x4), some (.int ((gsA s 49 (0 : Int32).toNatClampNeg) + x4)), some (.int x_8), none], [.ref 48, .int ((gsA s_8 50 (gsA s_8 49 (1 : Int32).toNatClampNeg : Int32).toNatClampNeg) - (gsA s_8 50 (gsA s_8 49 (2 : Int32).toNatClampNeg : Int32).toNatClampNeg)), .int x_8, .ref 48], h)) rfl ?_
      refine gw_gf (hk _ _ rfl) (RL_fR (n := 49) hR rfl) ?_
      refine gw_pst hk 1 (st' := (94, [some (.ref 48), some (.int x1), some (.int x2), some (.int x3), some (.int x4), some (.int ((gsA s 49 (0 : Int32).toNatClampNeg) + x4)), some (.int x_8), none], [.int 3, .ref 49, .int ((gsA s_8 50 (gsA s_8 49 (1 : Int32).toNatClampNeg : Int32).toNatClampNeg) - (gsA s_8 50 (gsA s_8 49 (2 : Int32).toNatClampNeg : Int32).toNatClampNeg)), .int x_8, .ref 48], h)) rfl ?_
      obtain ⟨b19, w⟩ := w
      refine gw_ald (hk _ _ rfl) (Or.inl ⟨rfl, rfl⟩) (RL_a (t := 0) (n := 108) hR rfl (by decide)) b19 ?_
      refine gw_pst hk 1 (st' := (96, [some (.ref 48), some (.int x1), some (.int x2), some (.int x3), some (.int x4), some (.int ((gsA s 49 (0 : Int32).toNatClampNeg) + x4)), some (.int x_8), none], [.ref 48, .int (gsA s_8 49 (3 : Int32).toNatClampNeg), .int ((gsA s_8 50 (gsA s_8 49 (1 : Int32).toNatClampNeg : Int32).toNatClampNeg) - (gsA s_8 50 (gsA s_8 49 (2 : Int32).toNatClampNeg : Int32).toNatClampNeg)), .int x_8, .ref 48], h)) rfl ?_
      refine gw_gf (hk _ _ rfl) (RL_fR (n := 49) hR rfl) ?_
      refine gw_pst hk 1 (st' := (100, [some (.ref 48), some (.int x1), some (.int x2), some (.int x3), some (.int x4), some (.int ((gsA s 49 (0 : Int32).toNatClampNeg) + x4)), some (.int x_8), none], [.int 4, .ref 49, .int (gsA s_8 49 (3 : Int32).toNatClampNeg), .int ((gsA s_8 50 (gsA s_8 49 (1 : Int32).toNatClampNeg : Int32).toNatClampNeg) - (gsA s_8 50 (gsA s_8 49 (2 : Int32).toNatClampNeg : Int32).toNatClampNeg)), .int x_8, .ref 48], h)) rfl ?_
      obtain ⟨b21, w⟩ := w
      refine gw_ald (hk _ _ rfl) (Or.inl ⟨rfl, rfl⟩) (RL_a (t := 0) (n := 108) hR rfl (by decide)) b21 ?_
      refine gw_pst hk 1 (st' := (102, [some (.ref 48), some (.int x1), some (.int x2), some (.int x3), some (.int x4), some (.int ((gsA s 49 (0 : Int32).toNatClampNeg) + x4)), some (.int x_8), none], [.ref 48, .int (gsA s_8 49 (4 : Int32).toNatClampNeg), .int (gsA s_8 49 (3 : Int32).toNatClampNeg), .int ((gsA s_8 50 (gsA s_8 49 (1 : Int32).toNatClampNeg : Int32).toNatClampNeg) - (gsA s_8 50 (gsA s_8 49 (2 : Int32).toNatClampNeg : Int32).toNatClampNeg)), .int x_8, .ref 48], h)) rfl ?_
      refine gw_gf (hk _ _ rfl) (RL_fR (n := 49) hR rfl) ?_
      refine gw_pst hk 1 (st' := (106, [some (.ref 48), some (.int x1), some (.int x2), some (.int x3), some (.int x4), some (.int ((gsA s 49 (0 : Int32).toNatClampNeg) + x4)), some (.int x_8), none], [.int 5, .ref 49, .int (gsA s_8 49 (4 : Int32).toNatClampNeg), .int (gsA s_8 49 (3 : Int32).toNatClampNeg), .int ((gsA s_8 50 (gsA s_8 49 (1 : Int32).toNatClampNeg : Int32).toNatClampNeg) - (gsA s_8 50 (gsA s_8 49 (2 : Int32).toNatClampNeg : Int32).toNatClampNeg)), .int x_8, .ref 48], h)) rfl ?_
      obtain ⟨b23, w⟩ := w
      refine gw_ald (hk _ _ rfl) (Or.inl ⟨rfl, rfl⟩) (RL_a (t := 0) (n := 108) hR rfl (by decide)) b23 ?_
      refine gw_pst hk 2 (st' := (110, [some (.ref 48), some (.int x1), some (.int x2), some (.int x3), some (.int x4), some (.int ((gsA s 49 (0 : Int32).toNatClampNeg) + x4)), some (.int x_8), none], [.int 0, .int ((gsA s 49 (0 : Int32).toNatClampNeg) + x4), .int (gsA s_8 49 (5 : Int32).toNatClampNeg), .int (gsA s_8 49 (4 : Int32).toNatClampNeg), .int (gsA s_8 49 (3 : Int32).toNatClampNeg), .int ((gsA s_8 50 (gsA s_8 49 (1 : Int32).toNatClampNeg : Int32).toNatClampNeg) - (gsA s_8 50 (gsA s_8 49 (2 : Int32).toNatClampNeg : Int32).toNatClampNeg)), .int x_8, .ref 48], h)) rfl ?_
      obtain ⟨fs24, e24⟩ := RL_o hR (r := 48) (ci := 10) rfl
      refine gw_call (jj := 181) (As := [.ref 48, .int x_8, .int ((gsA s_8 50 (gsA s_8 49 (1 : Int32).toNatClampNeg : Int32).toNatClampNeg) - (gsA s_8 50 (gsA s_8 49 (2 : Int32).toNatClampNeg : Int32).toNatClampNeg)), .int (gsA s_8 49 (3 : Int32).toNatClampNeg), .int (gsA s_8 49 (4 : Int32).toNatClampNeg), .int (gsA s_8 49 (5 : Int32).toNatClampNeg), .int ((gsA s 49 (0 : Int32).toNatClampNeg) + x4), .int 0]) (rest := []) (hk _ _ rfl) (fun _ => rfl) rfl rfl (Nat.le_of_ble_eq_true rfl) (gm_rcv_v rfl e24 rfl) ?_
      refine ge_imp (w h hR) (fun v24 h w => ?_)
      obtain ⟨s_24, hR, x_24, rfl, w⟩ := w
      show gw (gt_T c.1 c.2.1 c.2.2.1) c.2.2.2 d 233 (113, [some (.ref 48), some (.int x1), some (.int x2), some (.int x3), some (.int x4), some (.int ((gsA s 49 (0 : Int32).toNatClampNeg) + x4)), some (.int x_8), none], [.int x_24], h) _
      refine gw_pst hk 3 (st' := (118, [some (.ref 48), some (.int x1), some (.int x2), some (.int x3), some (.int x4), some (.int ((gsA s 49 (0 : Int32).toNatClampNeg) + x4)), some (.int x_8), some (.int x_24)], [.int x3, .int x_24], h)) rfl ?_
      refine gw_br (c := x_24 < x3) (a := (124, [some (.ref 48), some (.int x1), some (.int x2), some (.int x3), some (.int x4), some (.int ((gsA s 49 (0 : Int32).toNatClampNeg) + x4)), some (.int x_8), some (.int x_24)], [], h)) (b := (121, [some (.ref 48), some (.int x1), some (.int x2), some (.int x3), some (.int x4), some (.int ((gsA s 49 (0 : Int32).toNatClampNeg) + x4)), some (.int x_8), some (.int x_24)], [], h)) (hk _ _ rfl) rfl ⟨fun z25 => ?_, fun z25 => ?_⟩
      · replace w := w.1 z25
        refine gw_pst hk 4 (st' := (130, [some (.ref 48), some (.int x1), some (.int x4), some (.int x_24), some (.int x4), some (.int ((gsA s 49 (0 : Int32).toNatClampNeg) + x4)), some (.int x_8), some (.int x_24)], [], h)) rfl ?_
        refine gw_le (L' := [some (.ref 48), some (.int x1), some (.int x4), some (.int x_24), some (.int x4), none, none, none]) (gm_le_k _ (gm_le_k _ (gm_le_k _ (gm_le_k _ (gm_le_k _ (gm_le_n _ (gm_le_n _ (gm_le_n _ gm_le_nil)))))))) ?_
        exact ok233_130 c d Post K26 hK26 _ _ _ _ _ w _ hR
      · replace w := w.2 z25
        refine gw_pst hk 1 (st' := (130, [some (.ref 48), some (.int x1), some (.int x2), some (.int x3), some (.int x4), some (.int ((gsA s 49 (0 : Int32).toNatClampNeg) + x4)), some (.int x_8), some (.int x_24)], [], h)) rfl ?_
        refine gw_le (L' := [some (.ref 48), some (.int x1), some (.int x2), some (.int x3), some (.int x4), none, none, none]) (gm_le_k _ (gm_le_k _ (gm_le_k _ (gm_le_k _ (gm_le_k _ (gm_le_n _ (gm_le_n _ (gm_le_n _ gm_le_nil)))))))) ?_
        exact ok233_130 c d Post K26 hK26 _ _ _ _ _ w _ hR
def wl233_26 (c : gx) (d : Nat) (Post : Option Value → gs → Prop) : Nat → Int32 → Int32 → Int32 → Int32 → gs → Prop
  | 0 => fun _ _ _ _ _ => False
  | n + 1 => wb233_26 c d Post (wl233_26 c d Post n)
theorem okl233_26 (c : gx) (d : Nat) (Post : Option Value → gs → Prop) : ∀ (n : Nat) (x1 : Int32) (x2 : Int32) (x3 : Int32) (x4 : Int32) (s : gs), wl233_26 c d Post n x1 x2 x3 x4 s → tV c d 233 26 [some (.ref 48), some (.int x1), some (.int x2), some (.int x3), some (.int x4), none, none, none] [] s Post
  | 0, _, _, _, _, _, w => w.elim
  | n + 1, x1, x2, x3, x4, s, w => okb233_26 c d Post (wl233_26 c d Post n) (okl233_26 c d Post n) x1 x2 x3 x4 s w
/-- CommandByTurnsModel.offers(I)I -/
def wm233 (c : gx) (d : Nat) (Post : Option Value → gs → Prop) (x1 : Int32) (s : gs) : Prop :=
  ∀ s_1 : gs, s_1 = gs_V s 48 13 0 → tE c d 154 [.int x1, .int 1, .int 30] s_1 (fun v2 s_2 => ∃ x_2 : Int32, v2 = some (.int x_2) ∧ ((x_2 = 0 → Post (some (.int (-1))) s_2) ∧ (¬ (x_2 = 0) → ∃ n, wl233_26 c d Post n x1 (-1) 1000000 0 s_2)))
theorem okm233 (c : gx) (d : Nat) (Post : Option Value → gs → Prop) (x1 : Int32) (s : gs) (w : wm233 c d Post x1 s) : tE c (d + 1) 233 [.ref 48, .int x1] s Post := by
  intro h hR
  have hk : ∀ pc i, gm_find gk_233 pc = some i → gm_code (gt_T c.1 c.2.1 c.2.2.1) 233 pc = some i := fun _ _ z => z
  unfold wm233 at w
  refine ge_of (by decide) (Nat.le_of_ble_eq_true rfl) ?_
  show gw (gt_T c.1 c.2.1 c.2.2.1) c.2.2.2 d 233 (0, [some (.ref 48), some (.int x1), none, none, none, none, none, none], [], h) _
  refine gw_pst hk 2 (st' := (2, [some (.ref 48), some (.int x1), none, none, none, none, none, none], [.int 0, .ref 48], h)) rfl ?_
  obtain ⟨fs1, e1⟩ := RL_o hR (r := 48) (ci := 10) rfl
  obtain ⟨l1, hR1⟩ := RL_pI (k := 13) (x := 0) hR rfl e1
  refine gw_pf (hk _ _ rfl) e1 l1 rfl ?_
  generalize gm_put h _ _ = h at hR1 ⊢
  obtain ⟨s_1, es1⟩ : ∃ z, z = gs_V s 48 13 0 := ⟨_, rfl⟩
  rw [← es1] at hR1
  replace w := w s_1 es1
  replace hR := hR1
  refine gw_pst hk 3 (st' := (9, [some (.ref 48), some (.int x1), none, none, none, none, none, none], [.int 30, .int 1, .int x1], h)) rfl ?_
  refine gw_call (jj := 154) (As := [.int x1, .int 1, .int 30]) (rest := []) (hk _ _ rfl) (fun _ => rfl) rfl rfl (Nat.le_of_ble_eq_true rfl) rfl ?_
  refine ge_imp (w h hR) (fun v2 h w => ?_)
  obtain ⟨s_2, hR, x_2, rfl, w⟩ := w
  show gw (gt_T c.1 c.2.1 c.2.2.1) c.2.2.2 d 233 (12, [some (.ref 48), some (.int x1), none, none, none, none, none, none], [.int x_2], h) _
  refine gw_br (c := x_2 = 0) (a := (15, [some (.ref 48), some (.int x1), none, none, none, none, none, none], [], h)) (b := (17, [some (.ref 48), some (.int x1), none, none, none, none, none, none], [], h)) (hk _ _ rfl) rfl ⟨fun z3 => ?_, fun z3 => ?_⟩
  · replace w := w.1 z3
    refine gw_pst hk 1 (st' := (16, [some (.ref 48), some (.int x1), none, none, none, none, none, none], [.int (-1)], h)) rfl ?_
    exact gw_ret (hk _ _ rfl) rfl ⟨_, hR, w⟩
  · replace w := w.2 z3
    refine gw_pst hk 6 (st' := (26, [some (.ref 48), some (.int x1), some (.int (-1)), some (.int 1000000), some (.int 0), none, none, none], [], h)) rfl ?_
    obtain ⟨n, w⟩ := w
    exact okl233_26 c d Post n _ _ _ _ _ w _ hR
/-- CommandByTurnsModel.wishOn(II)I -/
def wm234 (c : gx) (d : Nat) (Post : Option Value → gs → Prop) (x1 : Int32) (x2 : Int32) (s : gs) : Prop :=
  vp_in 0 108 ∧ tE c d 174 [.ref 48, .int x1, .int ((gsA s 49 (0 : Int32).toNatClampNeg) + x2)] s (fun v3 s_3 => ∃ x_3 : Int32, v3 = some (.int x_3) ∧ Post (some (.int x_3)) s_3)
theorem okm234 (c : gx) (d : Nat) (Post : Option Value → gs → Prop) (x1 : Int32) (x2 : Int32) (s : gs) (w : wm234 c d Post x1 x2 s) : tE c (d + 1) 234 [.ref 48, .int x1, .int x2] s Post := by
  intro h hR
  have hk : ∀ pc i, gm_find gk_234 pc = some i → gm_code (gt_T c.1 c.2.1 c.2.2.1) 234 pc = some i := fun _ _ z => z
  unfold wm234 at w
  refine ge_of (by decide) (Nat.le_of_ble_eq_true rfl) ?_
  show gw (gt_T c.1 c.2.1 c.2.2.1) c.2.2.2 d 234 (0, [some (.ref 48), some (.int x1), some (.int x2)], [], h) _
  refine gw_pst hk 3 (st' := (3, [some (.ref 48), some (.int x1), some (.int x2)], [.ref 48, .int x1, .ref 48], h)) rfl ?_
  refine gw_gf (hk _ _ rfl) (RL_fR (n := 49) hR rfl) ?_
  refine gw_pst hk 1 (st' := (7, [some (.ref 48), some (.int x1), some (.int x2)], [.int 0, .ref 49, .int x1, .ref 48], h)) rfl ?_
  obtain ⟨b2, w⟩ := w
  refine gw_ald (hk _ _ rfl) (Or.inl ⟨rfl, rfl⟩) (RL_a (t := 0) (n := 108) hR rfl (by decide)) b2 ?_
  refine gw_pst hk 2 (st' := (10, [some (.ref 48), some (.int x1), some (.int x2)], [.int ((gsA s 49 (0 : Int32).toNatClampNeg) + x2), .int x1, .ref 48], h)) rfl ?_
  obtain ⟨fs3, e3⟩ := RL_o hR (r := 48) (ci := 10) rfl
  refine gw_call (jj := 174) (As := [.ref 48, .int x1, .int ((gsA s 49 (0 : Int32).toNatClampNeg) + x2)]) (rest := []) (hk _ _ rfl) (fun _ => rfl) rfl rfl (Nat.le_of_ble_eq_true rfl) (gm_rcv_v rfl e3 rfl) ?_
  refine ge_imp (w h hR) (fun v3 h w => ?_)
  obtain ⟨s_3, hR, x_3, rfl, w⟩ := w
  show gw (gt_T c.1 c.2.1 c.2.2.1) c.2.2.2 d 234 (13, [some (.ref 48), some (.int x1), some (.int x2)], [.int x_3], h) _
  exact gw_ret (hk _ _ rfl) rfl ⟨_, hR, w⟩
def w235_151 (c : gx) (d : Nat) (Post : Option Value → gs → Prop) (K17 : Int32 → Int32 → Int32 → Int32 → Int32 → gs → Prop) (K27 : Int32 → Int32 → Int32 → Int32 → Int32 → Int32 → gs → Prop) (x1 : Int32) (x2 : Int32) (x3 : Int32) (x4 : Int32) (x5 : Int32) (x6 : Int32) (s : gs) : Prop :=
  K27 x1 x2 x3 x4 x5 (x6 + 1) s
theorem ok235_151 (c : gx) (d : Nat) (Post : Option Value → gs → Prop) (K17 : Int32 → Int32 → Int32 → Int32 → Int32 → gs → Prop) (K27 : Int32 → Int32 → Int32 → Int32 → Int32 → Int32 → gs → Prop)  (hK17 : ∀ (x1 : Int32) (x2 : Int32) (x3 : Int32) (x4 : Int32) (x5 : Int32) (s : gs), K17 x1 x2 x3 x4 x5 s → tV c d 235 17 [some (.ref 48), some (.int x1), some (.int x2), some (.int x3), some (.int x4), some (.int x5), none, none, none] [] s Post) (hK27 : ∀ (x1 : Int32) (x2 : Int32) (x3 : Int32) (x4 : Int32) (x5 : Int32) (x6 : Int32) (s : gs), K27 x1 x2 x3 x4 x5 x6 s → tV c d 235 27 [some (.ref 48), some (.int x1), some (.int x2), some (.int x3), some (.int x4), some (.int x5), some (.int x6), none, none] [] s Post) (x1 : Int32) (x2 : Int32) (x3 : Int32) (x4 : Int32) (x5 : Int32) (x6 : Int32) (s : gs) (w : w235_151 c d Post K17 K27 x1 x2 x3 x4 x5 x6 s) : tV c d 235 151 [some (.ref 48), some (.int x1), some (.int x2), some (.int x3), some (.int x4), some (.int x5), some (.int x6), none, none] [] s Post := by
  intro h hR
  have hk : ∀ pc i, gm_find gk_235 pc = some i → gm_code (gt_T c.1 c.2.1 c.2.2.1) 235 pc = some i := fun _ _ z => z
  unfold w235_151 at w
  unfold gV
  refine gw_pst hk 2 (st' := (27, [some (.ref 48), some (.int x1), some (.int x2), some (.int x3), some (.int x4), some (.int x5), some (.int (x6 + 1)), none, none], [], h)) rfl ?_
  exact hK27 _ _ _ _ _ _ _ w _ hR
def wb235_27 (c : gx) (d : Nat) (Post : Option Value → gs → Prop) (K17 : Int32 → Int32 → Int32 → Int32 → Int32 → gs → Prop) (K27 : Int32 → Int32 → Int32 → Int32 → Int32 → Int32 → gs → Prop) (x1 : Int32) (x2 : Int32) (x3 : Int32) (x4 : Int32) (x5 : Int32) (x6 : Int32) (s : gs) : Prop :=
  ((20 ≤ x6 → K17 x1 x2 x3 x4 (x5 + 1) s) ∧ (¬ (20 ≤ x6) → vp_in 0 108 ∧ tE c d 184 [.ref 49, .int ((gsA s 49 (0 : Int32).toNatClampNeg) + x5)] s (fun v5 s_5 => ∃ x_5 : Int32, v5 = some (.int x_5) ∧ ((x_5 = 0 → vp_in 0 108 ∧ tE c d 184 [.ref 49, .int ((gsA s_5 49 (0 : Int32).toNatClampNeg) + x6)] s_5 (fun v10 s_10 => ∃ x_10 : Int32, v10 = some (.int x_10) ∧ ((x_10 = 1 → tE c d 234 [.ref 48, .int 0, .int x6] s_10 (fun v12 s_12 => ∃ x_12 : Int32, v12 = some (.int x_12) ∧ tE c d 234 [.ref 48, .int 0, .int x5] s_12 (fun v13 s_13 => ∃ x_13 : Int32, v13 = some (.int x_13) ∧ tE c d 234 [.ref 48, .int 1, .int x5] s_13 (fun v14 s_14 => ∃ x_14 : Int32, v14 = some (.int x_14) ∧ tE c d 234 [.ref 48, .int 1, .int x6] s_14 (fun v15 s_15 => ∃ x_15 : Int32, v15 = some (.int x_15) ∧ (((x_12 - x_13) ≤ 0 → w235_151 c d Post K17 K27 x1 x2 x3 x4 x5 x6 s_15) ∧ (¬ ((x_12 - x_13) ≤ 0) → ((0 < (x_14 - x_15) → ((x2 < ((x_12 - x_13) + (x_14 - x_15)) → w235_151 c d Post K17 K27 (x1 + 1) ((x_12 - x_13) + (x_14 - x_15)) x5 x6 x5 x6 s_15) ∧ (¬ (x2 < ((x_12 - x_13) + (x_14 - x_15))) → w235_151 c d Post K17 K27 (x1 + 1) x2 x3 x4 x5 x6 s_15))) ∧ (¬ (0 < (x_14 - x_15)) → w235_151 c d Post K17 K27 x1 x2 x3 x4 x5 x6 s_15))))))))) ∧ (¬ (x_10 = 1) → w235_151 c d Post K17 K27 x1 x2 x3 x4 x5 x6 s_10)))) ∧ (¬ (x_5 = 0) → w235_151 c d Post K17 K27 x1 x2 x3 x4 x5 x6 s_5)))))
theorem okb235_27 (c : gx) (d : Nat) (Post : Option Value → gs → Prop) (K17 : Int32 → Int32 → Int32 → Int32 → Int32 → gs → Prop) (K27 : Int32 → Int32 → Int32 → Int32 → Int32 → Int32 → gs → Prop)  (hK17 : ∀ (x1 : Int32) (x2 : Int32) (x3 : Int32) (x4 : Int32) (x5 : Int32) (s : gs), K17 x1 x2 x3 x4 x5 s → tV c d 235 17 [some (.ref 48), some (.int x1), some (.int x2), some (.int x3), some (.int x4), some (.int x5), none, none, none] [] s Post) (hK27 : ∀ (x1 : Int32) (x2 : Int32) (x3 : Int32) (x4 : Int32) (x5 : Int32) (x6 : Int32) (s : gs), K27 x1 x2 x3 x4 x5 x6 s → tV c d 235 27 [some (.ref 48), some (.int x1), some (.int x2), some (.int x3), some (.int x4), some (.int x5), some (.int x6), none, none] [] s Post) (x1 : Int32) (x2 : Int32) (x3 : Int32) (x4 : Int32) (x5 : Int32) (x6 : Int32) (s : gs) (w : wb235_27 c d Post K17 K27 x1 x2 x3 x4 x5 x6 s) : tV c d 235 27 [some (.ref 48), some (.int x1), some (.int x2), some (.int x3), some (.int x4), some (.int x5), some (.int x6), none, none] [] s Post := by
  intro h hR
  have hk : ∀ pc i, gm_find gk_235 pc = some i → gm_code (gt_T c.1 c.2.1 c.2.2.1) 235 pc = some i := fun _ _ z => z
  unfold wb235_27 at w
  unfold gV
  refine gw_pst hk 2 (st' := (31, [some (.ref 48), some (.int x1), some (.int x2), some (.int x3), some (.int x4), some (.int x5), some (.int x6), none, none], [.int 20, .int x6], h)) rfl ?_
  refine gw_br (c := 20 ≤ x6) (a := (157, [some (.ref 48), some (.int x1), some (.int x2), some (.int x3), some (.int x4), some (.int x5), some (.int x6), none, none], [], h)) (b := (34, [some (.ref 48), some (.int x1), some (.int x2), some (.int x3), some (.int x4), some (.int x5), some (.int x6), none, none], [], h)) (hk _ _ rfl) rfl ⟨fun z1 => ?_, fun z1 => ?_⟩
  · replace w := w.1 z1
    refine gw_pst hk 2 (st' := (17, [some (.ref 48), some (.int x1), some (.int x2), some (.int x3), some (.int x4), some (.int (x5 + 1)), some (.int x6), none, none], [], h)) rfl ?_
    refine gw_le (L' := [some (.ref 48), some (.int x1), some (.int x2), some (.int x3), some (.int x4), some (.int (x5 + 1)), none, none, none]) (gm_le_k _ (gm_le_k _ (gm_le_k _ (gm_le_k _ (gm_le_k _ (gm_le_k _ (gm_le_n _ (gm_le_k _ (gm_le_k _ gm_le_nil))))))))) ?_
    exact hK17 _ _ _ _ _ _ w _ hR
  · replace w := w.2 z1
    refine gw_pst hk 1 (st' := (35, [some (.ref 48), some (.int x1), some (.int x2), some (.int x3), some (.int x4), some (.int x5), some (.int x6), none, none], [.ref 48], h)) rfl ?_
    refine gw_gf (hk _ _ rfl) (RL_fR (n := 49) hR rfl) ?_
    refine gw_pst hk 1 (st' := (39, [some (.ref 48), some (.int x1), some (.int x2), some (.int x3), some (.int x4), some (.int x5), some (.int x6), none, none], [.ref 48, .ref 49], h)) rfl ?_
    refine gw_gf (hk _ _ rfl) (RL_fR (n := 49) hR rfl) ?_
    refine gw_pst hk 1 (st' := (43, [some (.ref 48), some (.int x1), some (.int x2), some (.int x3), some (.int x4), some (.int x5), some (.int x6), none, none], [.int 0, .ref 49, .ref 49], h)) rfl ?_
    obtain ⟨b4, w⟩ := w
    refine gw_ald (hk _ _ rfl) (Or.inl ⟨rfl, rfl⟩) (RL_a (t := 0) (n := 108) hR rfl (by decide)) b4 ?_
    refine gw_pst hk 2 (st' := (47, [some (.ref 48), some (.int x1), some (.int x2), some (.int x3), some (.int x4), some (.int x5), some (.int x6), none, none], [.int ((gsA s 49 (0 : Int32).toNatClampNeg) + x5), .ref 49], h)) rfl ?_
    refine gw_call (jj := 184) (As := [.ref 49, .int ((gsA s 49 (0 : Int32).toNatClampNeg) + x5)]) (rest := []) (hk _ _ rfl) (fun _ => rfl) rfl rfl (Nat.le_of_ble_eq_true rfl) rfl ?_
    refine ge_imp (w h hR) (fun v5 h w => ?_)
    obtain ⟨s_5, hR, x_5, rfl, w⟩ := w
    show gw (gt_T c.1 c.2.1 c.2.2.1) c.2.2.2 d 235 (50, [some (.ref 48), some (.int x1), some (.int x2), some (.int x3), some (.int x4), some (.int x5), some (.int x6), none, none], [.int x_5], h) _
    refine gw_br (c := x_5 = 0) (a := (53, [some (.ref 48), some (.int x1), some (.int x2), some (.int x3), some (.int x4), some (.int x5), some (.int x6), none, none], [], h)) (b := (151, [some (.ref 48), some (.int x1), some (.int x2), some (.int x3), some (.int x4), some (.int x5), some (.int x6), none, none], [], h)) (hk _ _ rfl) rfl ⟨fun z6 => ?_, fun z6 => ?_⟩
    · replace w := w.1 z6
      refine gw_pst hk 1 (st' := (54, [some (.ref 48), some (.int x1), some (.int x2), some (.int x3), some (.int x4), some (.int x5), some (.int x6), none, none], [.ref 48], h)) rfl ?_
      refine gw_gf (hk _ _ rfl) (RL_fR (n := 49) hR rfl) ?_
      refine gw_pst hk 1 (st' := (58, [some (.ref 48), some (.int x1), some (.int x2), some (.int x3), some (.int x4), some (.int x5), some (.int x6), none, none], [.ref 48, .ref 49], h)) rfl ?_
      refine gw_gf (hk _ _ rfl) (RL_fR (n := 49) hR rfl) ?_
      refine gw_pst hk 1 (st' := (62, [some (.ref 48), some (.int x1), some (.int x2), some (.int x3), some (.int x4), some (.int x5), some (.int x6), none, none], [.int 0, .ref 49, .ref 49], h)) rfl ?_
      obtain ⟨b9, w⟩ := w
      refine gw_ald (hk _ _ rfl) (Or.inl ⟨rfl, rfl⟩) (RL_a (t := 0) (n := 108) hR rfl (by decide)) b9 ?_
      refine gw_pst hk 2 (st' := (66, [some (.ref 48), some (.int x1), some (.int x2), some (.int x3), some (.int x4), some (.int x5), some (.int x6), none, none], [.int ((gsA s_5 49 (0 : Int32).toNatClampNeg) + x6), .ref 49], h)) rfl ?_
      refine gw_call (jj := 184) (As := [.ref 49, .int ((gsA s_5 49 (0 : Int32).toNatClampNeg) + x6)]) (rest := []) (hk _ _ rfl) (fun _ => rfl) rfl rfl (Nat.le_of_ble_eq_true rfl) rfl ?_
      refine ge_imp (w h hR) (fun v10 h w => ?_)
      obtain ⟨s_10, hR, x_10, rfl, w⟩ := w
      show gw (gt_T c.1 c.2.1 c.2.2.1) c.2.2.2 d 235 (69, [some (.ref 48), some (.int x1), some (.int x2), some (.int x3), some (.int x4), some (.int x5), some (.int x6), none, none], [.int x_10], h) _
      refine gw_pst hk 1 (st' := (70, [some (.ref 48), some (.int x1), some (.int x2), some (.int x3), some (.int x4), some (.int x5), some (.int x6), none, none], [.int 1, .int x_10], h)) rfl ?_
      refine gw_br (c := x_10 = 1) (a := (76, [some (.ref 48), some (.int x1), some (.int x2), some (.int x3), some (.int x4), some (.int x5), some (.int x6), none, none], [], h)) (b := (73, [some (.ref 48), some (.int x1), some (.int x2), some (.int x3), some (.int x4), some (.int x5), some (.int x6), none, none], [], h)) (hk _ _ rfl) rfl ⟨fun z11 => ?_, fun z11 => ?_⟩
      · replace w := w.1 z11
        refine gw_pst hk 3 (st' := (80, [some (.ref 48), some (.int x1), some (.int x2), some (.int x3), some (.int x4), some (.int x5), some (.int x6), none, none], [.int x6, .int 0, .ref 48], h)) rfl ?_
        obtain ⟨fs12, e12⟩ := RL_o hR (r := 48) (ci := 10) rfl
        refine gw_call (jj := 234) (As := [.ref 48, .int 0, .int x6]) (rest := []) (hk _ _ rfl) (fun _ => rfl) rfl rfl (Nat.le_of_ble_eq_true rfl) (gm_rcv_v rfl e12 rfl) ?_
        refine ge_imp (w h hR) (fun v12 h w => ?_)
        obtain ⟨s_12, hR, x_12, rfl, w⟩ := w
        show gw (gt_T c.1 c.2.1 c.2.2.1) c.2.2.2 d 235 (83, [some (.ref 48), some (.int x1), some (.int x2), some (.int x3), some (.int x4), some (.int x5), some (.int x6), none, none], [.int x_12], h) _
        refine gw_pst hk 3 (st' := (87, [some (.ref 48), some (.int x1), some (.int x2), some (.int x3), some (.int x4), some (.int x5), some (.int x6), none, none], [.int x5, .int 0, .ref 48, .int x_12], h)) rfl ?_
        obtain ⟨fs13, e13⟩ := RL_o hR (r := 48) (ci := 10) rfl
        refine gw_call (jj := 234) (As := [.ref 48, .int 0, .int x5]) (rest := [.int x_12]) (hk _ _ rfl) (fun _ => rfl) rfl rfl (Nat.le_of_ble_eq_true rfl) (gm_rcv_v rfl e13 rfl) ?_
        refine ge_imp (w h hR) (fun v13 h w => ?_)
        obtain ⟨s_13, hR, x_13, rfl, w⟩ := w
        show gw (gt_T c.1 c.2.1 c.2.2.1) c.2.2.2 d 235 (90, [some (.ref 48), some (.int x1), some (.int x2), some (.int x3), some (.int x4), some (.int x5), some (.int x6), none, none], [.int x_13, .int x_12], h) _
        refine gw_pst hk 5 (st' := (97, [some (.ref 48), some (.int x1), some (.int x2), some (.int x3), some (.int x4), some (.int x5), some (.int x6), some (.int (x_12 - x_13)), none], [.int x5, .int 1, .ref 48], h)) rfl ?_
        obtain ⟨fs14, e14⟩ := RL_o hR (r := 48) (ci := 10) rfl
        refine gw_call (jj := 234) (As := [.ref 48, .int 1, .int x5]) (rest := []) (hk _ _ rfl) (fun _ => rfl) rfl rfl (Nat.le_of_ble_eq_true rfl) (gm_rcv_v rfl e14 rfl) ?_
        refine ge_imp (w h hR) (fun v14 h w => ?_)
        obtain ⟨s_14, hR, x_14, rfl, w⟩ := w
        show gw (gt_T c.1 c.2.1 c.2.2.1) c.2.2.2 d 235 (100, [some (.ref 48), some (.int x1), some (.int x2), some (.int x3), some (.int x4), some (.int x5), some (.int x6), some (.int (x_12 - x_13)), none], [.int x_14], h) _
        refine gw_pst hk 3 (st' := (104, [some (.ref 48), some (.int x1), some (.int x2), some (.int x3), some (.int x4), some (.int x5), some (.int x6), some (.int (x_12 - x_13)), none], [.int x6, .int 1, .ref 48, .int x_14], h)) rfl ?_
        obtain ⟨fs15, e15⟩ := RL_o hR (r := 48) (ci := 10) rfl
        refine gw_call (jj := 234) (As := [.ref 48, .int 1, .int x6]) (rest := [.int x_14]) (hk _ _ rfl) (fun _ => rfl) rfl rfl (Nat.le_of_ble_eq_true rfl) (gm_rcv_v rfl e15 rfl) ?_
        refine ge_imp (w h hR) (fun v15 h w => ?_)
        obtain ⟨s_15, hR, x_15, rfl, w⟩ := w
        show gw (gt_T c.1 c.2.1 c.2.2.1) c.2.2.2 d 235 (107, [some (.ref 48), some (.int x1), some (.int x2), some (.int x3), some (.int x4), some (.int x5), some (.int x6), some (.int (x_12 - x_13)), none], [.int x_15, .int x_14], h) _
        refine gw_pst hk 3 (st' := (112, [some (.ref 48), some (.int x1), some (.int x2), some (.int x3), some (.int x4), some (.int x5), some (.int x6), some (.int (x_12 - x_13)), some (.int (x_14 - x_15))], [.int (x_12 - x_13)], h)) rfl ?_
        refine gw_br (c := (x_12 - x_13) ≤ 0) (a := (151, [some (.ref 48), some (.int x1), some (.int x2), some (.int x3), some (.int x4), some (.int x5), some (.int x6), some (.int (x_12 - x_13)), some (.int (x_14 - x_15))], [], h)) (b := (115, [some (.ref 48), some (.int x1), some (.int x2), some (.int x3), some (.int x4), some (.int x5), some (.int x6), some (.int (x_12 - x_13)), some (.int (x_14 - x_15))], [], h)) (hk _ _ rfl) rfl ⟨fun z16 => ?_, fun z16 => ?_⟩
        · replace w := w.1 z16
          refine gw_le (L' := [some (.ref 48), some (.int x1), some (.int x2), some (.int x3), some (.int x4), some (.int x5), some (.int x6), none, none]) (gm_le_k _ (gm_le_k _ (gm_le_k _ (gm_le_k _ (gm_le_k _ (gm_le_k _ (gm_le_k _ (gm_le_n _ (gm_le_n _ gm_le_nil))))))))) ?_
          exact ok235_151 c d Post K17 K27 hK17 hK27 _ _ _ _ _ _ _ w _ hR
        · replace w := w.2 z16
          refine gw_pst hk 1 (st' := (117, [some (.ref 48), some (.int x1), some (.int x2), some (.int x3), some (.int x4), some (.int x5), some (.int x6), some (.int (x_12 - x_13)), some (.int (x_14 - x_15))], [.int (x_14 - x_15)], h)) rfl ?_
          refine gw_br (c := 0 < (x_14 - x_15)) (a := (123, [some (.ref 48), some (.int x1), some (.int x2), some (.int x3), some (.int x4), some (.int x5), some (.int x6), some (.int (x_12 - x_13)), some (.int (x_14 - x_15))], [], h)) (b := (120, [some (.ref 48), some (.int x1), some (.int x2), some (.int x3), some (.int x4), some (.int x5), some (.int x6), some (.int (x_12 - x_13)), some (.int (x_14 - x_15))], [], h)) (hk _ _ rfl) rfl ⟨fun z17 => ?_, fun z17 => ?_⟩
          · replace w := w.1 z17
            refine gw_pst hk 5 (st' := (132, [some (.ref 48), some (.int (x1 + 1)), some (.int x2), some (.int x3), some (.int x4), some (.int x5), some (.int x6), some (.int (x_12 - x_13)), some (.int (x_14 - x_15))], [.int x2, .int ((x_12 - x_13) + (x_14 - x_15))], h)) rfl ?_
            refine gw_br (c := x2 < ((x_12 - x_13) + (x_14 - x_15))) (a := (138, [some (.ref 48), some (.int (x1 + 1)), some (.int x2), some (.int x3), some (.int x4), some (.int x5), some (.int x6), some (.int (x_12 - x_13)), some (.int (x_14 - x_15))], [], h)) (b := (135, [some (.ref 48), some (.int (x1 + 1)), some (.int x2), some (.int x3), some (.int x4), some (.int x5), some (.int x6), some (.int (x_12 - x_13)), some (.int (x_14 - x_15))], [], h)) (hk _ _ rfl) rfl ⟨fun z18 => ?_, fun z18 => ?_⟩
            · replace w := w.1 z18
              refine gw_pst hk 8 (st' := (151, [some (.ref 48), some (.int (x1 + 1)), some (.int ((x_12 - x_13) + (x_14 - x_15))), some (.int x5), some (.int x6), some (.int x5), some (.int x6), some (.int (x_12 - x_13)), some (.int (x_14 - x_15))], [], h)) rfl ?_
              refine gw_le (L' := [some (.ref 48), some (.int (x1 + 1)), some (.int ((x_12 - x_13) + (x_14 - x_15))), some (.int x5), some (.int x6), some (.int x5), some (.int x6), none, none]) (gm_le_k _ (gm_le_k _ (gm_le_k _ (gm_le_k _ (gm_le_k _ (gm_le_k _ (gm_le_k _ (gm_le_n _ (gm_le_n _ gm_le_nil))))))))) ?_
              exact ok235_151 c d Post K17 K27 hK17 hK27 _ _ _ _ _ _ _ w _ hR
            · replace w := w.2 z18
              refine gw_pst hk 1 (st' := (151, [some (.ref 48), some (.int (x1 + 1)), some (.int x2), some (.int x3), some (.int x4), some (.int x5), some (.int x6), some (.int (x_12 - x_13)), some (.int (x_14 - x_15))], [], h)) rfl ?_
              refine gw_le (L' := [some (.ref 48), some (.int (x1 + 1)), some (.int x2), some (.int x3), some (.int x4), some (.int x5), some (.int x6), none, none]) (gm_le_k _ (gm_le_k _ (gm_le_k _ (gm_le_k _ (gm_le_k _ (gm_le_k _ (gm_le_k _ (gm_le_n _ (gm_le_n _ gm_le_nil))))))))) ?_
              exact ok235_151 c d Post K17 K27 hK17 hK27 _ _ _ _ _ _ _ w _ hR
          · replace w := w.2 z17
            refine gw_pst hk 1 (st' := (151, [some (.ref 48), some (.int x1), some (.int x2), some (.int x3), some (.int x4), some (.int x5), some (.int x6), some (.int (x_12 - x_13)), some (.int (x_14 - x_15))], [], h)) rfl ?_
            refine gw_le (L' := [some (.ref 48), some (.int x1), some (.int x2), some (.int x3), some (.int x4), some (.int x5), some (.int x6), none, none]) (gm_le_k _ (gm_le_k _ (gm_le_k _ (gm_le_k _ (gm_le_k _ (gm_le_k _ (gm_le_k _ (gm_le_n _ (gm_le_n _ gm_le_nil))))))))) ?_
            exact ok235_151 c d Post K17 K27 hK17 hK27 _ _ _ _ _ _ _ w _ hR
      · replace w := w.2 z11
        refine gw_pst hk 1 (st' := (151, [some (.ref 48), some (.int x1), some (.int x2), some (.int x3), some (.int x4), some (.int x5), some (.int x6), none, none], [], h)) rfl ?_
        exact ok235_151 c d Post K17 K27 hK17 hK27 _ _ _ _ _ _ _ w _ hR
    · replace w := w.2 z6
      exact ok235_151 c d Post K17 K27 hK17 hK27 _ _ _ _ _ _ _ w _ hR
def wl235_27 (c : gx) (d : Nat) (Post : Option Value → gs → Prop) (K17 : Int32 → Int32 → Int32 → Int32 → Int32 → gs → Prop) : Nat → Int32 → Int32 → Int32 → Int32 → Int32 → Int32 → gs → Prop
  | 0 => fun _ _ _ _ _ _ _ => False
  | n + 1 => wb235_27 c d Post K17 (wl235_27 c d Post K17 n)
theorem okl235_27 (c : gx) (d : Nat) (Post : Option Value → gs → Prop) (K17 : Int32 → Int32 → Int32 → Int32 → Int32 → gs → Prop) (hK17 : ∀ (x1 : Int32) (x2 : Int32) (x3 : Int32) (x4 : Int32) (x5 : Int32) (s : gs), K17 x1 x2 x3 x4 x5 s → tV c d 235 17 [some (.ref 48), some (.int x1), some (.int x2), some (.int x3), some (.int x4), some (.int x5), none, none, none] [] s Post) : ∀ (n : Nat) (x1 : Int32) (x2 : Int32) (x3 : Int32) (x4 : Int32) (x5 : Int32) (x6 : Int32) (s : gs), wl235_27 c d Post K17 n x1 x2 x3 x4 x5 x6 s → tV c d 235 27 [some (.ref 48), some (.int x1), some (.int x2), some (.int x3), some (.int x4), some (.int x5), some (.int x6), none, none] [] s Post
  | 0, _, _, _, _, _, _, _, w => w.elim
  | n + 1, x1, x2, x3, x4, x5, x6, s, w => okb235_27 c d Post K17 (wl235_27 c d Post K17 n) hK17 (okl235_27 c d Post K17 hK17 n) x1 x2 x3 x4 x5 x6 s w
def w235_191 (c : gx) (d : Nat) (Post : Option Value → gs → Prop) (x1 : Int32) (s : gs) : Prop :=
  Post (some (.int x1)) s
theorem ok235_191 (c : gx) (d : Nat) (Post : Option Value → gs → Prop)  (x1 : Int32) (s : gs) (w : w235_191 c d Post x1 s) : tV c d 235 191 [none, some (.int x1), none, none, none, none, none, none, none] [] s Post := by
  intro h hR
  have hk : ∀ pc i, gm_find gk_235 pc = some i → gm_code (gt_T c.1 c.2.1 c.2.2.1) 235 pc = some i := fun _ _ z => z
  unfold w235_191 at w
  unfold gV
  refine gw_pst hk 1 (st' := (192, [none, some (.int x1), none, none, none, none, none, none, none], [.int x1], h)) rfl ?_
  exact gw_ret (hk _ _ rfl) rfl ⟨_, hR, w⟩
def wb235_17 (c : gx) (d : Nat) (Post : Option Value → gs → Prop) (K17 : Int32 → Int32 → Int32 → Int32 → Int32 → gs → Prop) (x1 : Int32) (x2 : Int32) (x3 : Int32) (x4 : Int32) (x5 : Int32) (s : gs) : Prop :=
  ((20 ≤ x5 → ∀ s_2 : gs, s_2 = gs_V s 48 12 0 → ((x1 ≤ 0 → w235_191 c d Post x1 s_2) ∧ (¬ (x1 ≤ 0) → tE c d 157 [.ref 48, .long ((x3 : Int32).toInt64)] s_2 (fun v4 s_4 => v4 = none ∧ tE c d 157 [.ref 48, .long ((x4 : Int32).toInt64)] s_4 (fun v5 s_5 => v5 = none ∧ tE c d 157 [.ref 48, .long ((x2 : Int32).toInt64)] s_5 (fun v6 s_6 => v6 = none ∧ w235_191 c d Post x1 s_6)))))) ∧ (¬ (20 ≤ x5) → ∃ n, wl235_27 c d Post K17 n x1 x2 x3 x4 x5 0 s))
theorem okb235_17 (c : gx) (d : Nat) (Post : Option Value → gs → Prop) (K17 : Int32 → Int32 → Int32 → Int32 → Int32 → gs → Prop)  (hK17 : ∀ (x1 : Int32) (x2 : Int32) (x3 : Int32) (x4 : Int32) (x5 : Int32) (s : gs), K17 x1 x2 x3 x4 x5 s → tV c d 235 17 [some (.ref 48), some (.int x1), some (.int x2), some (.int x3), some (.int x4), some (.int x5), none, none, none] [] s Post) (x1 : Int32) (x2 : Int32) (x3 : Int32) (x4 : Int32) (x5 : Int32) (s : gs) (w : wb235_17 c d Post K17 x1 x2 x3 x4 x5 s) : tV c d 235 17 [some (.ref 48), some (.int x1), some (.int x2), some (.int x3), some (.int x4), some (.int x5), none, none, none] [] s Post := by
  intro h hR
  have hk : ∀ pc i, gm_find gk_235 pc = some i → gm_code (gt_T c.1 c.2.1 c.2.2.1) 235 pc = some i := fun _ _ z => z
  unfold wb235_17 at w
  unfold gV
  refine gw_pst hk 2 (st' := (21, [some (.ref 48), some (.int x1), some (.int x2), some (.int x3), some (.int x4), some (.int x5), none, none, none], [.int 20, .int x5], h)) rfl ?_
  refine gw_br (c := 20 ≤ x5) (a := (163, [some (.ref 48), some (.int x1), some (.int x2), some (.int x3), some (.int x4), some (.int x5), none, none, none], [], h)) (b := (24, [some (.ref 48), some (.int x1), some (.int x2), some (.int x3), some (.int x4), some (.int x5), none, none, none], [], h)) (hk _ _ rfl) rfl ⟨fun z1 => ?_, fun z1 => ?_⟩
  · replace w := w.1 z1
    refine gw_pst hk 2 (st' := (165, [some (.ref 48), some (.int x1), some (.int x2), some (.int x3), some (.int x4), some (.int x5), none, none, none], [.int 0, .ref 48], h)) rfl ?_
    obtain ⟨fs2, e2⟩ := RL_o hR (r := 48) (ci := 10) rfl
    obtain ⟨l2, hR2⟩ := RL_pI (k := 12) (x := 0) hR rfl e2
    refine gw_pf (hk _ _ rfl) e2 l2 rfl ?_
    generalize gm_put h _ _ = h at hR2 ⊢
    obtain ⟨s_2, es2⟩ : ∃ z, z = gs_V s 48 12 0 := ⟨_, rfl⟩
    rw [← es2] at hR2
    replace w := w s_2 es2
    replace hR := hR2
    refine gw_pst hk 1 (st' := (169, [some (.ref 48), some (.int x1), some (.int x2), some (.int x3), some (.int x4), some (.int x5), none, none, none], [.int x1], h)) rfl ?_
    refine gw_br (c := x1 ≤ 0) (a := (191, [some (.ref 48), some (.int x1), some (.int x2), some (.int x3), some (.int x4), some (.int x5), none, none, none], [], h)) (b := (172, [some (.ref 48), some (.int x1), some (.int x2), some (.int x3), some (.int x4), some (.int x5), none, none, none], [], h)) (hk _ _ rfl) rfl ⟨fun z3 => ?_, fun z3 => ?_⟩
    · replace w := w.1 z3
      refine gw_le (L' := [none, some (.int x1), none, none, none, none, none, none, none]) (gm_le_n _ (gm_le_k _ (gm_le_n _ (gm_le_n _ (gm_le_n _ (gm_le_n _ (gm_le_k _ (gm_le_k _ (gm_le_k _ gm_le_nil))))))))) ?_
      exact ok235_191 c d Post _ _ w _ hR
    · replace w := w.2 z3
      refine gw_pst hk 3 (st' := (175, [some (.ref 48), some (.int x1), some (.int x2), some (.int x3), some (.int x4), some (.int x5), none, none, none], [.long ((x3 : Int32).toInt64), .ref 48], h)) rfl ?_
      obtain ⟨fs4, e4⟩ := RL_o hR (r := 48) (ci := 10) rfl
      refine gw_call (jj := 157) (As := [.ref 48, .long ((x3 : Int32).toInt64)]) (rest := []) (hk _ _ rfl) (fun _ => rfl) rfl rfl (Nat.le_of_ble_eq_true rfl) (gm_rcv_v rfl e4 rfl) ?_
      refine ge_imp (w h hR) (fun v4 h w => ?_)
      obtain ⟨s_4, hR, rfl, w⟩ := w
      show gw (gt_T c.1 c.2.1 c.2.2.1) c.2.2.2 d 235 (178, [some (.ref 48), some (.int x1), some (.int x2), some (.int x3), some (.int x4), some (.int x5), none, none, none], [], h) _
      refine gw_pst hk 3 (st' := (182, [some (.ref 48), some (.int x1), some (.int x2), some (.int x3), some (.int x4), some (.int x5), none, none, none], [.long ((x4 : Int32).toInt64), .ref 48], h)) rfl ?_
      obtain ⟨fs5, e5⟩ := RL_o hR (r := 48) (ci := 10) rfl
      refine gw_call (jj := 157) (As := [.ref 48, .long ((x4 : Int32).toInt64)]) (rest := []) (hk _ _ rfl) (fun _ => rfl) rfl rfl (Nat.le_of_ble_eq_true rfl) (gm_rcv_v rfl e5 rfl) ?_
      refine ge_imp (w h hR) (fun v5 h w => ?_)
      obtain ⟨s_5, hR, rfl, w⟩ := w
      show gw (gt_T c.1 c.2.1 c.2.2.1) c.2.2.2 d 235 (185, [some (.ref 48), some (.int x1), some (.int x2), some (.int x3), some (.int x4), some (.int x5), none, none, none], [], h) _
      refine gw_pst hk 3 (st' := (188, [some (.ref 48), some (.int x1), some (.int x2), some (.int x3), some (.int x4), some (.int x5), none, none, none], [.long ((x2 : Int32).toInt64), .ref 48], h)) rfl ?_
      obtain ⟨fs6, e6⟩ := RL_o hR (r := 48) (ci := 10) rfl
      refine gw_call (jj := 157) (As := [.ref 48, .long ((x2 : Int32).toInt64)]) (rest := []) (hk _ _ rfl) (fun _ => rfl) rfl rfl (Nat.le_of_ble_eq_true rfl) (gm_rcv_v rfl e6 rfl) ?_
      refine ge_imp (w h hR) (fun v6 h w => ?_)
      obtain ⟨s_6, hR, rfl, w⟩ := w
      show gw (gt_T c.1 c.2.1 c.2.2.1) c.2.2.2 d 235 (191, [some (.ref 48), some (.int x1), some (.int x2), some (.int x3), some (.int x4), some (.int x5), none, none, none], [], h) _
      refine gw_le (L' := [none, some (.int x1), none, none, none, none, none, none, none]) (gm_le_n _ (gm_le_k _ (gm_le_n _ (gm_le_n _ (gm_le_n _ (gm_le_n _ (gm_le_k _ (gm_le_k _ (gm_le_k _ gm_le_nil))))))))) ?_
      exact ok235_191 c d Post _ _ w _ hR
  · replace w := w.2 z1
    refine gw_pst hk 2 (st' := (27, [some (.ref 48), some (.int x1), some (.int x2), some (.int x3), some (.int x4), some (.int x5), some (.int 0), none, none], [], h)) rfl ?_
    obtain ⟨n, w⟩ := w
    exact okl235_27 c d Post K17 hK17 n _ _ _ _ _ _ _ w _ hR
def wl235_17 (c : gx) (d : Nat) (Post : Option Value → gs → Prop) : Nat → Int32 → Int32 → Int32 → Int32 → Int32 → gs → Prop
  | 0 => fun _ _ _ _ _ _ => False
  | n + 1 => wb235_17 c d Post (wl235_17 c d Post n)
theorem okl235_17 (c : gx) (d : Nat) (Post : Option Value → gs → Prop) : ∀ (n : Nat) (x1 : Int32) (x2 : Int32) (x3 : Int32) (x4 : Int32) (x5 : Int32) (s : gs), wl235_17 c d Post n x1 x2 x3 x4 x5 s → tV c d 235 17 [some (.ref 48), some (.int x1), some (.int x2), some (.int x3), some (.int x4), some (.int x5), none, none, none] [] s Post
  | 0, _, _, _, _, _, _, w => w.elim
  | n + 1, x1, x2, x3, x4, x5, s, w => okb235_17 c d Post (wl235_17 c d Post n) (okl235_17 c d Post n) x1 x2 x3 x4 x5 s w
/-- CommandByTurnsModel.bargain()I -/
def wm235 (c : gx) (d : Nat) (Post : Option Value → gs → Prop)  (s : gs) : Prop :=
  ∀ s_1 : gs, s_1 = gs_V s 48 13 0 → ∃ n, wl235_17 c d Post n 0 0 0 0 0 s_1
theorem okm235 (c : gx) (d : Nat) (Post : Option Value → gs → Prop)  (s : gs) (w : wm235 c d Post  s) : tE c (d + 1) 235 [.ref 48] s Post := by
  intro h hR
  have hk : ∀ pc i, gm_find gk_235 pc = some i → gm_code (gt_T c.1 c.2.1 c.2.2.1) 235 pc = some i := fun _ _ z => z
  unfold wm235 at w
  refine ge_of (by decide) (Nat.le_of_ble_eq_true rfl) ?_
  show gw (gt_T c.1 c.2.1 c.2.2.1) c.2.2.2 d 235 (0, [some (.ref 48), none, none, none, none, none, none, none, none], [], h) _
  refine gw_pst hk 2 (st' := (2, [some (.ref 48), none, none, none, none, none, none, none, none], [.int 0, .ref 48], h)) rfl ?_
  obtain ⟨fs1, e1⟩ := RL_o hR (r := 48) (ci := 10) rfl
  obtain ⟨l1, hR1⟩ := RL_pI (k := 13) (x := 0) hR rfl e1
  refine gw_pf (hk _ _ rfl) e1 l1 rfl ?_
  generalize gm_put h _ _ = h at hR1 ⊢
  obtain ⟨s_1, es1⟩ : ∃ z, z = gs_V s 48 13 0 := ⟨_, rfl⟩
  rw [← es1] at hR1
  replace w := w s_1 es1
  replace hR := hR1
  refine gw_pst hk 10 (st' := (17, [some (.ref 48), some (.int 0), some (.int 0), some (.int 0), some (.int 0), some (.int 0), none, none, none], [], h)) rfl ?_
  obtain ⟨n, w⟩ := w
  exact okl235_17 c d Post n _ _ _ _ _ _ w _ hR
def w236_93 (c : gx) (d : Nat) (Post : Option Value → gs → Prop) (K27 : Int32 → Int32 → Int32 → Int32 → Int32 → gs → Prop) (x1 : Int32) (x2 : Int32) (x3 : Int32) (x4 : Int32) (x5 : Int32) (s : gs) : Prop :=
  K27 x1 x2 x3 x4 (x5 + 1) s
theorem ok236_93 (c : gx) (d : Nat) (Post : Option Value → gs → Prop) (K27 : Int32 → Int32 → Int32 → Int32 → Int32 → gs → Prop)  (hK27 : ∀ (x1 : Int32) (x2 : Int32) (x3 : Int32) (x4 : Int32) (x5 : Int32) (s : gs), K27 x1 x2 x3 x4 x5 s → tV c d 236 27 [some (.ref 48), some (.int x1), some (.int x2), some (.int x3), some (.int x4), some (.int x5), none, none, none] [] s Post) (x1 : Int32) (x2 : Int32) (x3 : Int32) (x4 : Int32) (x5 : Int32) (s : gs) (w : w236_93 c d Post K27 x1 x2 x3 x4 x5 s) : tV c d 236 93 [some (.ref 48), some (.int x1), some (.int x2), some (.int x3), some (.int x4), some (.int x5), none, none, none] [] s Post := by
  intro h hR
  have hk : ∀ pc i, gm_find gk_236 pc = some i → gm_code (gt_T c.1 c.2.1 c.2.2.1) 236 pc = some i := fun _ _ z => z
  unfold w236_93 at w
  unfold gV
  refine gw_pst hk 2 (st' := (27, [some (.ref 48), some (.int x1), some (.int x2), some (.int x3), some (.int x4), some (.int (x5 + 1)), none, none, none], [], h)) rfl ?_
  exact hK27 _ _ _ _ _ _ w _ hR
def w236_78 (c : gx) (d : Nat) (Post : Option Value → gs → Prop) (K27 : Int32 → Int32 → Int32 → Int32 → Int32 → gs → Prop) (x1 : Int32) (x2 : Int32) (x4 : Int32) (x5 : Int32) (x6 : Int32) (xs0 : Int32) (xs1 : Int32) (s : gs) : Prop :=
  tE c d 234 [.ref 48, .int x6, .int x5] s (fun v1 s_1 => ∃ x_1 : Int32, v1 = some (.int x_1) ∧ w236_93 c d Post K27 x1 x2 (xs0 + xs1) (x4 + x_1) x5 s_1)
theorem ok236_78 (c : gx) (d : Nat) (Post : Option Value → gs → Prop) (K27 : Int32 → Int32 → Int32 → Int32 → Int32 → gs → Prop)  (hK27 : ∀ (x1 : Int32) (x2 : Int32) (x3 : Int32) (x4 : Int32) (x5 : Int32) (s : gs), K27 x1 x2 x3 x4 x5 s → tV c d 236 27 [some (.ref 48), some (.int x1), some (.int x2), some (.int x3), some (.int x4), some (.int x5), none, none, none] [] s Post) (x1 : Int32) (x2 : Int32) (x4 : Int32) (x5 : Int32) (x6 : Int32) (xs0 : Int32) (xs1 : Int32) (s : gs) (w : w236_78 c d Post K27 x1 x2 x4 x5 x6 xs0 xs1 s) : tV c d 236 78 [some (.ref 48), some (.int x1), some (.int x2), none, some (.int x4), some (.int x5), some (.int x6), none, none] [.int xs1, .int xs0] s Post := by
  intro h hR
  have hk : ∀ pc i, gm_find gk_236 pc = some i → gm_code (gt_T c.1 c.2.1 c.2.2.1) 236 pc = some i := fun _ _ z => z
  unfold w236_78 at w
  unfold gV
  refine gw_pst hk 6 (st' := (87, [some (.ref 48), some (.int x1), some (.int x2), some (.int (xs0 + xs1)), some (.int x4), some (.int x5), some (.int x6), none, none], [.int x5, .int x6, .ref 48, .int x4], h)) rfl ?_
  obtain ⟨fs1, e1⟩ := RL_o hR (r := 48) (ci := 10) rfl
  refine gw_call (jj := 234) (As := [.ref 48, .int x6, .int x5]) (rest := [.int x4]) (hk _ _ rfl) (fun _ => rfl) rfl rfl (Nat.le_of_ble_eq_true rfl) (gm_rcv_v rfl e1 rfl) ?_
  refine ge_imp (w h hR) (fun v1 h w => ?_)
  obtain ⟨s_1, hR, x_1, rfl, w⟩ := w
  show gw (gt_T c.1 c.2.1 c.2.2.1) c.2.2.2 d 236 (90, [some (.ref 48), some (.int x1), some (.int x2), some (.int (xs0 + xs1)), some (.int x4), some (.int x5), some (.int x6), none, none], [.int x_1, .int x4], h) _
  refine gw_pst hk 2 (st' := (93, [some (.ref 48), some (.int x1), some (.int x2), some (.int (xs0 + xs1)), some (.int (x4 + x_1)), some (.int x5), some (.int x6), none, none], [], h)) rfl ?_
  refine gw_le (L' := [some (.ref 48), some (.int x1), some (.int x2), some (.int (xs0 + xs1)), some (.int (x4 + x_1)), some (.int x5), none, none, none]) (gm_le_k _ (gm_le_k _ (gm_le_k _ (gm_le_k _ (gm_le_k _ (gm_le_k _ (gm_le_n _ (gm_le_k _ (gm_le_k _ gm_le_nil))))))))) ?_
  exact ok236_93 c d Post K27 hK27 _ _ _ _ _ _ w _ hR
def w236_180 (c : gx) (d : Nat) (Post : Option Value → gs → Prop) (K105 : Int32 → Int32 → Int32 → Int32 → Int32 → Int32 → gs → Prop) (K117 : Int32 → Int32 → Int32 → Int32 → Int32 → Int32 → Int32 → Int32 → gs → Prop) (x1 : Int32) (x2 : Int32) (x3 : Int32) (x4 : Int32) (x5 : Int32) (x6 : Int32) (x7 : Int32) (x8 : Int32) (s : gs) : Prop :=
  K117 x1 x2 x3 x4 x5 x6 x7 (x8 + 1) s
theorem ok236_180 (c : gx) (d : Nat) (Post : Option Value → gs → Prop) (K105 : Int32 → Int32 → Int32 → Int32 → Int32 → Int32 → gs → Prop) (K117 : Int32 → Int32 → Int32 → Int32 → Int32 → Int32 → Int32 → Int32 → gs → Prop)  (hK105 : ∀ (x1 : Int32) (x2 : Int32) (x3 : Int32) (x4 : Int32) (x5 : Int32) (x6 : Int32) (s : gs), K105 x1 x2 x3 x4 x5 x6 s → tV c d 236 105 [some (.ref 48), some (.int x1), some (.int x2), some (.int x3), some (.int x4), some (.int x5), some (.int x6), none, none] [] s Post) (hK117 : ∀ (x1 : Int32) (x2 : Int32) (x3 : Int32) (x4 : Int32) (x5 : Int32) (x6 : Int32) (x7 : Int32) (x8 : Int32) (s : gs), K117 x1 x2 x3 x4 x5 x6 x7 x8 s → tV c d 236 117 [some (.ref 48), some (.int x1), some (.int x2), some (.int x3), some (.int x4), some (.int x5), some (.int x6), some (.int x7), some (.int x8)] [] s Post) (x1 : Int32) (x2 : Int32) (x3 : Int32) (x4 : Int32) (x5 : Int32) (x6 : Int32) (x7 : Int32) (x8 : Int32) (s : gs) (w : w236_180 c d Post K105 K117 x1 x2 x3 x4 x5 x6 x7 x8 s) : tV c d 236 180 [some (.ref 48), some (.int x1), some (.int x2), some (.int x3), some (.int x4), some (.int x5), some (.int x6), some (.int x7), some (.int x8)] [] s Post := by
  intro h hR
  have hk : ∀ pc i, gm_find gk_236 pc = some i → gm_code (gt_T c.1 c.2.1 c.2.2.1) 236 pc = some i := fun _ _ z => z
  unfold w236_180 at w
  unfold gV
  refine gw_pst hk 2 (st' := (117, [some (.ref 48), some (.int x1), some (.int x2), some (.int x3), some (.int x4), some (.int x5), some (.int x6), some (.int x7), some (.int (x8 + 1))], [], h)) rfl ?_
  exact hK117 _ _ _ _ _ _ _ _ _ w _ hR
def w236_176 (c : gx) (d : Nat) (Post : Option Value → gs → Prop) (K105 : Int32 → Int32 → Int32 → Int32 → Int32 → Int32 → gs → Prop) (K117 : Int32 → Int32 → Int32 → Int32 → Int32 → Int32 → Int32 → Int32 → gs → Prop) (x1 : Int32) (x2 : Int32) (x3 : Int32) (x4 : Int32) (x5 : Int32) (x6 : Int32) (x8 : Int32) (s : gs) : Prop :=
  w236_180 c d Post K105 K117 x1 x2 x3 x4 x5 x6 x8 x8 s
theorem ok236_176 (c : gx) (d : Nat) (Post : Option Value → gs → Prop) (K105 : Int32 → Int32 → Int32 → Int32 → Int32 → Int32 → gs → Prop) (K117 : Int32 → Int32 → Int32 → Int32 → Int32 → Int32 → Int32 → Int32 → gs → Prop)  (hK105 : ∀ (x1 : Int32) (x2 : Int32) (x3 : Int32) (x4 : Int32) (x5 : Int32) (x6 : Int32) (s : gs), K105 x1 x2 x3 x4 x5 x6 s → tV c d 236 105 [some (.ref 48), some (.int x1), some (.int x2), some (.int x3), some (.int x4), some (.int x5), some (.int x6), none, none] [] s Post) (hK117 : ∀ (x1 : Int32) (x2 : Int32) (x3 : Int32) (x4 : Int32) (x5 : Int32) (x6 : Int32) (x7 : Int32) (x8 : Int32) (s : gs), K117 x1 x2 x3 x4 x5 x6 x7 x8 s → tV c d 236 117 [some (.ref 48), some (.int x1), some (.int x2), some (.int x3), some (.int x4), some (.int x5), some (.int x6), some (.int x7), some (.int x8)] [] s Post) (x1 : Int32) (x2 : Int32) (x3 : Int32) (x4 : Int32) (x5 : Int32) (x6 : Int32) (x8 : Int32) (s : gs) (w : w236_176 c d Post K105 K117 x1 x2 x3 x4 x5 x6 x8 s) : tV c d 236 176 [some (.ref 48), some (.int x1), some (.int x2), some (.int x3), some (.int x4), some (.int x5), some (.int x6), none, some (.int x8)] [] s Post := by
  intro h hR
  have hk : ∀ pc i, gm_find gk_236 pc = some i → gm_code (gt_T c.1 c.2.1 c.2.2.1) 236 pc = some i := fun _ _ z => z
  unfold w236_176 at w
  unfold gV
  refine gw_pst hk 2 (st' := (180, [some (.ref 48), some (.int x1), some (.int x2), some (.int x3), some (.int x4), some (.int x5), some (.int x6), some (.int x8), some (.int x8)], [], h)) rfl ?_
  exact ok236_180 c d Post K105 K117 hK105 hK117 _ _ _ _ _ _ _ _ _ w _ hR
def wb236_117 (c : gx) (d : Nat) (Post : Option Value → gs → Prop) (K105 : Int32 → Int32 → Int32 → Int32 → Int32 → Int32 → gs → Prop) (K117 : Int32 → Int32 → Int32 → Int32 → Int32 → Int32 → Int32 → Int32 → gs → Prop) (x1 : Int32) (x2 : Int32) (x3 : Int32) (x4 : Int32) (x5 : Int32) (x6 : Int32) (x7 : Int32) (x8 : Int32) (s : gs) : Prop :=
  ((x1 ≤ x8 → K105 x1 x2 x3 x4 (x5 ||| (1 <<< (x7 &&& 31))) (x6 + 1) s) ∧ (¬ (x1 ≤ x8) → tE c d 155 [.int (x2 &&& (x5 ^^^ (-1))), .int x8] s (fun v2 s_2 => ∃ x_2 : Int32, v2 = some (.int x_2) ∧ ((x_2 = 0 → w236_180 c d Post K105 K117 x1 x2 x3 x4 x5 x6 x7 x8 s_2) ∧ (¬ (x_2 = 0) → ((x7 = (-1) → w236_176 c d Post K105 K117 x1 x2 x3 x4 x5 x6 x8 s_2) ∧ (¬ (x7 = (-1)) → tE c d 234 [.ref 48, .int 0, .int x8] s_2 (fun v5 s_5 => ∃ x_5 : Int32, v5 = some (.int x_5) ∧ tE c d 234 [.ref 48, .int 1, .int x8] s_5 (fun v6 s_6 => ∃ x_6 : Int32, v6 = some (.int x_6) ∧ tE c d 234 [.ref 48, .int 0, .int x7] s_6 (fun v7 s_7 => ∃ x_7 : Int32, v7 = some (.int x_7) ∧ tE c d 234 [.ref 48, .int 1, .int x7] s_7 (fun v8 s_8 => ∃ x_8 : Int32, v8 = some (.int x_8) ∧ (((x_5 - x_6) ≤ (x_7 - x_8) → w236_180 c d Post K105 K117 x1 x2 x3 x4 x5 x6 x7 x8 s_8) ∧ (¬ ((x_5 - x_6) ≤ (x_7 - x_8)) → w236_176 c d Post K105 K117 x1 x2 x3 x4 x5 x6 x8 s_8)))))))))))))
theorem okb236_117 (c : gx) (d : Nat) (Post : Option Value → gs → Prop) (K105 : Int32 → Int32 → Int32 → Int32 → Int32 → Int32 → gs → Prop) (K117 : Int32 → Int32 → Int32 → Int32 → Int32 → Int32 → Int32 → Int32 → gs → Prop)  (hK105 : ∀ (x1 : Int32) (x2 : Int32) (x3 : Int32) (x4 : Int32) (x5 : Int32) (x6 : Int32) (s : gs), K105 x1 x2 x3 x4 x5 x6 s → tV c d 236 105 [some (.ref 48), some (.int x1), some (.int x2), some (.int x3), some (.int x4), some (.int x5), some (.int x6), none, none] [] s Post) (hK117 : ∀ (x1 : Int32) (x2 : Int32) (x3 : Int32) (x4 : Int32) (x5 : Int32) (x6 : Int32) (x7 : Int32) (x8 : Int32) (s : gs), K117 x1 x2 x3 x4 x5 x6 x7 x8 s → tV c d 236 117 [some (.ref 48), some (.int x1), some (.int x2), some (.int x3), some (.int x4), some (.int x5), some (.int x6), some (.int x7), some (.int x8)] [] s Post) (x1 : Int32) (x2 : Int32) (x3 : Int32) (x4 : Int32) (x5 : Int32) (x6 : Int32) (x7 : Int32) (x8 : Int32) (s : gs) (w : wb236_117 c d Post K105 K117 x1 x2 x3 x4 x5 x6 x7 x8 s) : tV c d 236 117 [some (.ref 48), some (.int x1), some (.int x2), some (.int x3), some (.int x4), some (.int x5), some (.int x6), some (.int x7), some (.int x8)] [] s Post := by
  intro h hR
  have hk : ∀ pc i, gm_find gk_236 pc = some i → gm_code (gt_T c.1 c.2.1 c.2.2.1) 236 pc = some i := fun _ _ z => z
  unfold wb236_117 at w
  unfold gV
  refine gw_pst hk 2 (st' := (120, [some (.ref 48), some (.int x1), some (.int x2), some (.int x3), some (.int x4), some (.int x5), some (.int x6), some (.int x7), some (.int x8)], [.int x1, .int x8], h)) rfl ?_
  refine gw_br (c := x1 ≤ x8) (a := (186, [some (.ref 48), some (.int x1), some (.int x2), some (.int x3), some (.int x4), some (.int x5), some (.int x6), some (.int x7), some (.int x8)], [], h)) (b := (123, [some (.ref 48), some (.int x1), some (.int x2), some (.int x3), some (.int x4), some (.int x5), some (.int x6), some (.int x7), some (.int x8)], [], h)) (hk _ _ rfl) rfl ⟨fun z1 => ?_, fun z1 => ?_⟩
  · replace w := w.1 z1
    refine gw_pst hk 8 (st' := (105, [some (.ref 48), some (.int x1), some (.int x2), some (.int x3), some (.int x4), some (.int (x5 ||| (1 <<< (x7 &&& 31)))), some (.int (x6 + 1)), some (.int x7), some (.int x8)], [], h)) rfl ?_
    refine gw_le (L' := [some (.ref 48), some (.int x1), some (.int x2), some (.int x3), some (.int x4), some (.int (x5 ||| (1 <<< (x7 &&& 31)))), some (.int (x6 + 1)), none, none]) (gm_le_k _ (gm_le_k _ (gm_le_k _ (gm_le_k _ (gm_le_k _ (gm_le_k _ (gm_le_k _ (gm_le_n _ (gm_le_n _ gm_le_nil))))))))) ?_
    exact hK105 _ _ _ _ _ _ _ w _ hR
  · replace w := w.2 z1
    refine gw_pst hk 6 (st' := (131, [some (.ref 48), some (.int x1), some (.int x2), some (.int x3), some (.int x4), some (.int x5), some (.int x6), some (.int x7), some (.int x8)], [.int x8, .int (x2 &&& (x5 ^^^ (-1)))], h)) rfl ?_
    refine gw_call (jj := 155) (As := [.int (x2 &&& (x5 ^^^ (-1))), .int x8]) (rest := []) (hk _ _ rfl) (fun _ => rfl) rfl rfl (Nat.le_of_ble_eq_true rfl) rfl ?_
    refine ge_imp (w h hR) (fun v2 h w => ?_)
    obtain ⟨s_2, hR, x_2, rfl, w⟩ := w
    show gw (gt_T c.1 c.2.1 c.2.2.1) c.2.2.2 d 236 (134, [some (.ref 48), some (.int x1), some (.int x2), some (.int x3), some (.int x4), some (.int x5), some (.int x6), some (.int x7), some (.int x8)], [.int x_2], h) _
    refine gw_br (c := x_2 = 0) (a := (180, [some (.ref 48), some (.int x1), some (.int x2), some (.int x3), some (.int x4), some (.int x5), some (.int x6), some (.int x7), some (.int x8)], [], h)) (b := (137, [some (.ref 48), some (.int x1), some (.int x2), some (.int x3), some (.int x4), some (.int x5), some (.int x6), some (.int x7), some (.int x8)], [], h)) (hk _ _ rfl) rfl ⟨fun z3 => ?_, fun z3 => ?_⟩
    · replace w := w.1 z3
      exact ok236_180 c d Post K105 K117 hK105 hK117 _ _ _ _ _ _ _ _ _ w _ hR
    · replace w := w.2 z3
      refine gw_pst hk 2 (st' := (140, [some (.ref 48), some (.int x1), some (.int x2), some (.int x3), some (.int x4), some (.int x5), some (.int x6), some (.int x7), some (.int x8)], [.int (-1), .int x7], h)) rfl ?_
      refine gw_br (c := x7 = (-1)) (a := (176, [some (.ref 48), some (.int x1), some (.int x2), some (.int x3), some (.int x4), some (.int x5), some (.int x6), some (.int x7), some (.int x8)], [], h)) (b := (143, [some (.ref 48), some (.int x1), some (.int x2), some (.int x3), some (.int x4), some (.int x5), some (.int x6), some (.int x7), some (.int x8)], [], h)) (hk _ _ rfl) rfl ⟨fun z4 => ?_, fun z4 => ?_⟩
      · replace w := w.1 z4
        refine gw_le (L' := [some (.ref 48), some (.int x1), some (.int x2), some (.int x3), some (.int x4), some (.int x5), some (.int x6), none, some (.int x8)]) (gm_le_k _ (gm_le_k _ (gm_le_k _ (gm_le_k _ (gm_le_k _ (gm_le_k _ (gm_le_k _ (gm_le_n _ (gm_le_k _ gm_le_nil))))))))) ?_
        exact ok236_176 c d Post K105 K117 hK105 hK117 _ _ _ _ _ _ _ _ w _ hR
      · replace w := w.2 z4
        refine gw_pst hk 3 (st' := (147, [some (.ref 48), some (.int x1), some (.int x2), some (.int x3), some (.int x4), some (.int x5), some (.int x6), some (.int x7), some (.int x8)], [.int x8, .int 0, .ref 48], h)) rfl ?_
        obtain ⟨fs5, e5⟩ := RL_o hR (r := 48) (ci := 10) rfl
        refine gw_call (jj := 234) (As := [.ref 48, .int 0, .int x8]) (rest := []) (hk _ _ rfl) (fun _ => rfl) rfl rfl (Nat.le_of_ble_eq_true rfl) (gm_rcv_v rfl e5 rfl) ?_
        refine ge_imp (w h hR) (fun v5 h w => ?_)
        obtain ⟨s_5, hR, x_5, rfl, w⟩ := w
        show gw (gt_T c.1 c.2.1 c.2.2.1) c.2.2.2 d 236 (150, [some (.ref 48), some (.int x1), some (.int x2), some (.int x3), some (.int x4), some (.int x5), some (.int x6), some (.int x7), some (.int x8)], [.int x_5], h) _
        refine gw_pst hk 3 (st' := (154, [some (.ref 48), some (.int x1), some (.int x2), some (.int x3), some (.int x4), some (.int x5), some (.int x6), some (.int x7), some (.int x8)], [.int x8, .int 1, .ref 48, .int x_5], h)) rfl ?_
        obtain ⟨fs6, e6⟩ := RL_o hR (r := 48) (ci := 10) rfl
        refine gw_call (jj := 234) (As := [.ref 48, .int 1, .int x8]) (rest := [.int x_5]) (hk _ _ rfl) (fun _ => rfl) rfl rfl (Nat.le_of_ble_eq_true rfl) (gm_rcv_v rfl e6 rfl) ?_
        refine ge_imp (w h hR) (fun v6 h w => ?_)
        obtain ⟨s_6, hR, x_6, rfl, w⟩ := w
        show gw (gt_T c.1 c.2.1 c.2.2.1) c.2.2.2 d 236 (157, [some (.ref 48), some (.int x1), some (.int x2), some (.int x3), some (.int x4), some (.int x5), some (.int x6), some (.int x7), some (.int x8)], [.int x_6, .int x_5], h) _
        refine gw_pst hk 4 (st' := (162, [some (.ref 48), some (.int x1), some (.int x2), some (.int x3), some (.int x4), some (.int x5), some (.int x6), some (.int x7), some (.int x8)], [.int x7, .int 0, .ref 48, .int (x_5 - x_6)], h)) rfl ?_
        obtain ⟨fs7, e7⟩ := RL_o hR (r := 48) (ci := 10) rfl
        refine gw_call (jj := 234) (As := [.ref 48, .int 0, .int x7]) (rest := [.int (x_5 - x_6)]) (hk _ _ rfl) (fun _ => rfl) rfl rfl (Nat.le_of_ble_eq_true rfl) (gm_rcv_v rfl e7 rfl) ?_
        refine ge_imp (w h hR) (fun v7 h w => ?_)
        obtain ⟨s_7, hR, x_7, rfl, w⟩ := w
        show gw (gt_T c.1 c.2.1 c.2.2.1) c.2.2.2 d 236 (165, [some (.ref 48), some (.int x1), some (.int x2), some (.int x3), some (.int x4), some (.int x5), some (.int x6), some (.int x7), some (.int x8)], [.int x_7, .int (x_5 - x_6)], h) _
        refine gw_pst hk 3 (st' := (169, [some (.ref 48), some (.int x1), some (.int x2), some (.int x3), some (.int x4), some (.int x5), some (.int x6), some (.int x7), some (.int x8)], [.int x7, .int 1, .ref 48, .int x_7, .int (x_5 - x_6)], h)) rfl ?_
        obtain ⟨fs8, e8⟩ := RL_o hR (r := 48) (ci := 10) rfl
        refine gw_call (jj := 234) (As := [.ref 48, .int 1, .int x7]) (rest := [.int x_7, .int (x_5 - x_6)]) (hk _ _ rfl) (fun _ => rfl) rfl rfl (Nat.le_of_ble_eq_true rfl) (gm_rcv_v rfl e8 rfl) ?_
        refine ge_imp (w h hR) (fun v8 h w => ?_)
        obtain ⟨s_8, hR, x_8, rfl, w⟩ := w
        show gw (gt_T c.1 c.2.1 c.2.2.1) c.2.2.2 d 236 (172, [some (.ref 48), some (.int x1), some (.int x2), some (.int x3), some (.int x4), some (.int x5), some (.int x6), some (.int x7), some (.int x8)], [.int x_8, .int x_7, .int (x_5 - x_6)], h) _
        refine gw_pst hk 1 (st' := (173, [some (.ref 48), some (.int x1), some (.int x2), some (.int x3), some (.int x4), some (.int x5), some (.int x6), some (.int x7), some (.int x8)], [.int (x_7 - x_8), .int (x_5 - x_6)], h)) rfl ?_
        refine gw_br (c := (x_5 - x_6) ≤ (x_7 - x_8)) (a := (180, [some (.ref 48), some (.int x1), some (.int x2), some (.int x3), some (.int x4), some (.int x5), some (.int x6), some (.int x7), some (.int x8)], [], h)) (b := (176, [some (.ref 48), some (.int x1), some (.int x2), some (.int x3), some (.int x4), some (.int x5), some (.int x6), some (.int x7), some (.int x8)], [], h)) (hk _ _ rfl) rfl ⟨fun z9 => ?_, fun z9 => ?_⟩
        · replace w := w.1 z9
          exact ok236_180 c d Post K105 K117 hK105 hK117 _ _ _ _ _ _ _ _ _ w _ hR
        · replace w := w.2 z9
          refine gw_le (L' := [some (.ref 48), some (.int x1), some (.int x2), some (.int x3), some (.int x4), some (.int x5), some (.int x6), none, some (.int x8)]) (gm_le_k _ (gm_le_k _ (gm_le_k _ (gm_le_k _ (gm_le_k _ (gm_le_k _ (gm_le_k _ (gm_le_n _ (gm_le_k _ gm_le_nil))))))))) ?_
          exact ok236_176 c d Post K105 K117 hK105 hK117 _ _ _ _ _ _ _ _ w _ hR
def wl236_117 (c : gx) (d : Nat) (Post : Option Value → gs → Prop) (K105 : Int32 → Int32 → Int32 → Int32 → Int32 → Int32 → gs → Prop) : Nat → Int32 → Int32 → Int32 → Int32 → Int32 → Int32 → Int32 → Int32 → gs → Prop
  | 0 => fun _ _ _ _ _ _ _ _ _ => False
  | n + 1 => wb236_117 c d Post K105 (wl236_117 c d Post K105 n)
theorem okl236_117 (c : gx) (d : Nat) (Post : Option Value → gs → Prop) (K105 : Int32 → Int32 → Int32 → Int32 → Int32 → Int32 → gs → Prop) (hK105 : ∀ (x1 : Int32) (x2 : Int32) (x3 : Int32) (x4 : Int32) (x5 : Int32) (x6 : Int32) (s : gs), K105 x1 x2 x3 x4 x5 x6 s → tV c d 236 105 [some (.ref 48), some (.int x1), some (.int x2), some (.int x3), some (.int x4), some (.int x5), some (.int x6), none, none] [] s Post) : ∀ (n : Nat) (x1 : Int32) (x2 : Int32) (x3 : Int32) (x4 : Int32) (x5 : Int32) (x6 : Int32) (x7 : Int32) (x8 : Int32) (s : gs), wl236_117 c d Post K105 n x1 x2 x3 x4 x5 x6 x7 x8 s → tV c d 236 117 [some (.ref 48), some (.int x1), some (.int x2), some (.int x3), some (.int x4), some (.int x5), some (.int x6), some (.int x7), some (.int x8)] [] s Post
  | 0, _, _, _, _, _, _, _, _, _, w => w.elim
  | n + 1, x1, x2, x3, x4, x5, x6, x7, x8, s, w => okb236_117 c d Post K105 (wl236_117 c d Post K105 n) hK105 (okl236_117 c d Post K105 hK105 n) x1 x2 x3 x4 x5 x6 x7 x8 s w
def w236_249 (c : gx) (d : Nat) (Post : Option Value → gs → Prop) (K207 : Int32 → Int32 → Int32 → Int32 → Int32 → Int32 → gs → Prop) (x1 : Int32) (x2 : Int32) (x4 : Int32) (x5 : Int32) (x7 : Int32) (xs0 : Int32) (xs1 : Int32) (s : gs) : Prop :=
  K207 x1 x2 x4 x5 (xs0 + xs1) (x7 + 1) s
theorem ok236_249 (c : gx) (d : Nat) (Post : Option Value → gs → Prop) (K207 : Int32 → Int32 → Int32 → Int32 → Int32 → Int32 → gs → Prop)  (hK207 : ∀ (x1 : Int32) (x2 : Int32) (x4 : Int32) (x5 : Int32) (x6 : Int32) (x7 : Int32) (s : gs), K207 x1 x2 x4 x5 x6 x7 s → tV c d 236 207 [some (.ref 48), some (.int x1), some (.int x2), none, some (.int x4), some (.int x5), some (.int x6), some (.int x7), none] [] s Post) (x1 : Int32) (x2 : Int32) (x4 : Int32) (x5 : Int32) (x7 : Int32) (xs0 : Int32) (xs1 : Int32) (s : gs) (w : w236_249 c d Post K207 x1 x2 x4 x5 x7 xs0 xs1 s) : tV c d 236 249 [some (.ref 48), some (.int x1), some (.int x2), none, some (.int x4), some (.int x5), none, some (.int x7), none] [.int xs1, .int xs0] s Post := by
  intro h hR
  have hk : ∀ pc i, gm_find gk_236 pc = some i → gm_code (gt_T c.1 c.2.1 c.2.2.1) 236 pc = some i := fun _ _ z => z
  unfold w236_249 at w
  unfold gV
  refine gw_pst hk 4 (st' := (207, [some (.ref 48), some (.int x1), some (.int x2), none, some (.int x4), some (.int x5), some (.int (xs0 + xs1)), some (.int (x7 + 1)), none], [], h)) rfl ?_
  exact hK207 _ _ _ _ _ _ _ w _ hR
def w236_244 (c : gx) (d : Nat) (Post : Option Value → gs → Prop) (K207 : Int32 → Int32 → Int32 → Int32 → Int32 → Int32 → gs → Prop) (x1 : Int32) (x2 : Int32) (x4 : Int32) (x5 : Int32) (x7 : Int32) (xs0 : Int32) (xs2 : Int32) (s : gs) : Prop :=
  tE c d 234 [.ref 48, .int xs2, .int x7] s (fun v1 s_1 => ∃ x_1 : Int32, v1 = some (.int x_1) ∧ w236_249 c d Post K207 x1 x2 x4 x5 x7 xs0 x_1 s_1)
theorem ok236_244 (c : gx) (d : Nat) (Post : Option Value → gs → Prop) (K207 : Int32 → Int32 → Int32 → Int32 → Int32 → Int32 → gs → Prop)  (hK207 : ∀ (x1 : Int32) (x2 : Int32) (x4 : Int32) (x5 : Int32) (x6 : Int32) (x7 : Int32) (s : gs), K207 x1 x2 x4 x5 x6 x7 s → tV c d 236 207 [some (.ref 48), some (.int x1), some (.int x2), none, some (.int x4), some (.int x5), some (.int x6), some (.int x7), none] [] s Post) (x1 : Int32) (x2 : Int32) (x4 : Int32) (x5 : Int32) (x7 : Int32) (xs0 : Int32) (xs2 : Int32) (s : gs) (w : w236_244 c d Post K207 x1 x2 x4 x5 x7 xs0 xs2 s) : tV c d 236 244 [some (.ref 48), some (.int x1), some (.int x2), none, some (.int x4), some (.int x5), none, some (.int x7), none] [.int xs2, .ref 48, .int xs0] s Post := by
  intro h hR
  have hk : ∀ pc i, gm_find gk_236 pc = some i → gm_code (gt_T c.1 c.2.1 c.2.2.1) 236 pc = some i := fun _ _ z => z
  unfold w236_244 at w
  unfold gV
  refine gw_pst hk 1 (st' := (246, [some (.ref 48), some (.int x1), some (.int x2), none, some (.int x4), some (.int x5), none, some (.int x7), none], [.int x7, .int xs2, .ref 48, .int xs0], h)) rfl ?_
  obtain ⟨fs1, e1⟩ := RL_o hR (r := 48) (ci := 10) rfl
  refine gw_call (jj := 234) (As := [.ref 48, .int xs2, .int x7]) (rest := [.int xs0]) (hk _ _ rfl) (fun _ => rfl) rfl rfl (Nat.le_of_ble_eq_true rfl) (gm_rcv_v rfl e1 rfl) ?_
  refine ge_imp (w h hR) (fun v1 h w => ?_)
  obtain ⟨s_1, hR, x_1, rfl, w⟩ := w
  show gw (gt_T c.1 c.2.1 c.2.2.1) c.2.2.2 d 236 (249, [some (.ref 48), some (.int x1), some (.int x2), none, some (.int x4), some (.int x5), none, some (.int x7), none], [.int x_1, .int xs0], h) _
  exact ok236_249 c d Post K207 hK207 _ _ _ _ _ _ _ _ w _ hR
def wb236_207 (c : gx) (d : Nat) (Post : Option Value → gs → Prop) (K207 : Int32 → Int32 → Int32 → Int32 → Int32 → Int32 → gs → Prop) (x1 : Int32) (x2 : Int32) (x4 : Int32) (x5 : Int32) (x6 : Int32) (x7 : Int32) (s : gs) : Prop :=
  ((x1 ≤ x7 → ∀ s_2 : gs, s_2 = gs_V s 48 12 0 → tE c d 157 [.ref 48, .long ((x5 : Int32).toInt64)] s_2 (fun v3 s_3 => v3 = none ∧ tE c d 157 [.ref 48, .long ((x4 : Int32).toInt64)] s_3 (fun v4 s_4 => v4 = none ∧ Post (some (.int x6)) s_4))) ∧ (¬ (x1 ≤ x7) → tE c d 155 [.int x2, .int x7] s (fun v5 s_5 => ∃ x_5 : Int32, v5 = some (.int x_5) ∧ ((x_5 = 0 → w236_249 c d Post K207 x1 x2 x4 x5 x7 x6 0 s_5) ∧ (¬ (x_5 = 0) → tE c d 155 [.int x5, .int x7] s_5 (fun v7 s_7 => ∃ x_7 : Int32, v7 = some (.int x_7) ∧ ((x_7 = 0 → w236_244 c d Post K207 x1 x2 x4 x5 x7 x6 1 s_7) ∧ (¬ (x_7 = 0) → w236_244 c d Post K207 x1 x2 x4 x5 x7 x6 0 s_7))))))))
theorem okb236_207 (c : gx) (d : Nat) (Post : Option Value → gs → Prop) (K207 : Int32 → Int32 → Int32 → Int32 → Int32 → Int32 → gs → Prop)  (hK207 : ∀ (x1 : Int32) (x2 : Int32) (x4 : Int32) (x5 : Int32) (x6 : Int32) (x7 : Int32) (s : gs), K207 x1 x2 x4 x5 x6 x7 s → tV c d 236 207 [some (.ref 48), some (.int x1), some (.int x2), none, some (.int x4), some (.int x5), some (.int x6), some (.int x7), none] [] s Post) (x1 : Int32) (x2 : Int32) (x4 : Int32) (x5 : Int32) (x6 : Int32) (x7 : Int32) (s : gs) (w : wb236_207 c d Post K207 x1 x2 x4 x5 x6 x7 s) : tV c d 236 207 [some (.ref 48), some (.int x1), some (.int x2), none, some (.int x4), some (.int x5), some (.int x6), some (.int x7), none] [] s Post := by
  intro h hR
  have hk : ∀ pc i, gm_find gk_236 pc = some i → gm_code (gt_T c.1 c.2.1 c.2.2.1) 236 pc = some i := fun _ _ z => z
  unfold wb236_207 at w
  unfold gV
  refine gw_pst hk 2 (st' := (210, [some (.ref 48), some (.int x1), some (.int x2), none, some (.int x4), some (.int x5), some (.int x6), some (.int x7), none], [.int x1, .int x7], h)) rfl ?_
  refine gw_br (c := x1 ≤ x7) (a := (258, [some (.ref 48), some (.int x1), some (.int x2), none, some (.int x4), some (.int x5), some (.int x6), some (.int x7), none], [], h)) (b := (213, [some (.ref 48), some (.int x1), some (.int x2), none, some (.int x4), some (.int x5), some (.int x6), some (.int x7), none], [], h)) (hk _ _ rfl) rfl ⟨fun z1 => ?_, fun z1 => ?_⟩
  · replace w := w.1 z1
    refine gw_pst hk 2 (st' := (260, [some (.ref 48), some (.int x1), some (.int x2), none, some (.int x4), some (.int x5), some (.int x6), some (.int x7), none], [.int 0, .ref 48], h)) rfl ?_
    obtain ⟨fs2, e2⟩ := RL_o hR (r := 48) (ci := 10) rfl
    obtain ⟨l2, hR2⟩ := RL_pI (k := 12) (x := 0) hR rfl e2
    refine gw_pf (hk _ _ rfl) e2 l2 rfl ?_
    generalize gm_put h _ _ = h at hR2 ⊢
    obtain ⟨s_2, es2⟩ : ∃ z, z = gs_V s 48 12 0 := ⟨_, rfl⟩
    rw [← es2] at hR2
    replace w := w s_2 es2
    replace hR := hR2
    refine gw_pst hk 3 (st' := (267, [some (.ref 48), some (.int x1), some (.int x2), none, some (.int x4), some (.int x5), some (.int x6), some (.int x7), none], [.long ((x5 : Int32).toInt64), .ref 48], h)) rfl ?_
    obtain ⟨fs3, e3⟩ := RL_o hR (r := 48) (ci := 10) rfl
    refine gw_call (jj := 157) (As := [.ref 48, .long ((x5 : Int32).toInt64)]) (rest := []) (hk _ _ rfl) (fun _ => rfl) rfl rfl (Nat.le_of_ble_eq_true rfl) (gm_rcv_v rfl e3 rfl) ?_
    refine ge_imp (w h hR) (fun v3 h w => ?_)
    obtain ⟨s_3, hR, rfl, w⟩ := w
    show gw (gt_T c.1 c.2.1 c.2.2.1) c.2.2.2 d 236 (270, [some (.ref 48), some (.int x1), some (.int x2), none, some (.int x4), some (.int x5), some (.int x6), some (.int x7), none], [], h) _
    refine gw_pst hk 3 (st' := (274, [some (.ref 48), some (.int x1), some (.int x2), none, some (.int x4), some (.int x5), some (.int x6), some (.int x7), none], [.long ((x4 : Int32).toInt64), .ref 48], h)) rfl ?_
    obtain ⟨fs4, e4⟩ := RL_o hR (r := 48) (ci := 10) rfl
    refine gw_call (jj := 157) (As := [.ref 48, .long ((x4 : Int32).toInt64)]) (rest := []) (hk _ _ rfl) (fun _ => rfl) rfl rfl (Nat.le_of_ble_eq_true rfl) (gm_rcv_v rfl e4 rfl) ?_
    refine ge_imp (w h hR) (fun v4 h w => ?_)
    obtain ⟨s_4, hR, rfl, w⟩ := w
    show gw (gt_T c.1 c.2.1 c.2.2.1) c.2.2.2 d 236 (277, [some (.ref 48), some (.int x1), some (.int x2), none, some (.int x4), some (.int x5), some (.int x6), some (.int x7), none], [], h) _
    refine gw_pst hk 1 (st' := (279, [some (.ref 48), some (.int x1), some (.int x2), none, some (.int x4), some (.int x5), some (.int x6), some (.int x7), none], [.int x6], h)) rfl ?_
    exact gw_ret (hk _ _ rfl) rfl ⟨_, hR, w⟩
  · replace w := w.2 z1
    refine gw_pst hk 3 (st' := (218, [some (.ref 48), some (.int x1), some (.int x2), none, some (.int x4), some (.int x5), some (.int x6), some (.int x7), none], [.int x7, .int x2, .int x6], h)) rfl ?_
    refine gw_call (jj := 155) (As := [.int x2, .int x7]) (rest := [.int x6]) (hk _ _ rfl) (fun _ => rfl) rfl rfl (Nat.le_of_ble_eq_true rfl) rfl ?_
    refine ge_imp (w h hR) (fun v5 h w => ?_)
    obtain ⟨s_5, hR, x_5, rfl, w⟩ := w
    show gw (gt_T c.1 c.2.1 c.2.2.1) c.2.2.2 d 236 (221, [some (.ref 48), some (.int x1), some (.int x2), none, some (.int x4), some (.int x5), some (.int x6), some (.int x7), none], [.int x_5, .int x6], h) _
    refine gw_br (c := x_5 = 0) (a := (224, [some (.ref 48), some (.int x1), some (.int x2), none, some (.int x4), some (.int x5), some (.int x6), some (.int x7), none], [.int x6], h)) (b := (228, [some (.ref 48), some (.int x1), some (.int x2), none, some (.int x4), some (.int x5), some (.int x6), some (.int x7), none], [.int x6], h)) (hk _ _ rfl) rfl ⟨fun z6 => ?_, fun z6 => ?_⟩
    · replace w := w.1 z6
      refine gw_pst hk 2 (st' := (249, [some (.ref 48), some (.int x1), some (.int x2), none, some (.int x4), some (.int x5), some (.int x6), some (.int x7), none], [.int 0, .int x6], h)) rfl ?_
      refine gw_le (L' := [some (.ref 48), some (.int x1), some (.int x2), none, some (.int x4), some (.int x5), none, some (.int x7), none]) (gm_le_k _ (gm_le_k _ (gm_le_k _ (gm_le_k _ (gm_le_k _ (gm_le_k _ (gm_le_n _ (gm_le_k _ (gm_le_k _ gm_le_nil))))))))) ?_
      exact ok236_249 c d Post K207 hK207 _ _ _ _ _ _ _ _ w _ hR
    · replace w := w.2 z6
      refine gw_pst hk 3 (st' := (233, [some (.ref 48), some (.int x1), some (.int x2), none, some (.int x4), some (.int x5), some (.int x6), some (.int x7), none], [.int x7, .int x5, .ref 48, .int x6], h)) rfl ?_
      refine gw_call (jj := 155) (As := [.int x5, .int x7]) (rest := [.ref 48, .int x6]) (hk _ _ rfl) (fun _ => rfl) rfl rfl (Nat.le_of_ble_eq_true rfl) rfl ?_
      refine ge_imp (w h hR) (fun v7 h w => ?_)
      obtain ⟨s_7, hR, x_7, rfl, w⟩ := w
      show gw (gt_T c.1 c.2.1 c.2.2.1) c.2.2.2 d 236 (236, [some (.ref 48), some (.int x1), some (.int x2), none, some (.int x4), some (.int x5), some (.int x6), some (.int x7), none], [.int x_7, .ref 48, .int x6], h) _
      refine gw_br (c := x_7 = 0) (a := (243, [some (.ref 48), some (.int x1), some (.int x2), none, some (.int x4), some (.int x5), some (.int x6), some (.int x7), none], [.ref 48, .int x6], h)) (b := (239, [some (.ref 48), some (.int x1), some (.int x2), none, some (.int x4), some (.int x5), some (.int x6), some (.int x7), none], [.ref 48, .int x6], h)) (hk _ _ rfl) rfl ⟨fun z8 => ?_, fun z8 => ?_⟩
      · replace w := w.1 z8
        refine gw_pst hk 1 (st' := (244, [some (.ref 48), some (.int x1), some (.int x2), none, some (.int x4), some (.int x5), some (.int x6), some (.int x7), none], [.int 1, .ref 48, .int x6], h)) rfl ?_
        refine gw_le (L' := [some (.ref 48), some (.int x1), some (.int x2), none, some (.int x4), some (.int x5), none, some (.int x7), none]) (gm_le_k _ (gm_le_k _ (gm_le_k _ (gm_le_k _ (gm_le_k _ (gm_le_k _ (gm_le_n _ (gm_le_k _ (gm_le_k _ gm_le_nil))))))))) ?_
        exact ok236_244 c d Post K207 hK207 _ _ _ _ _ _ _ _ w _ hR
      · replace w := w.2 z8
        refine gw_pst hk 2 (st' := (244, [some (.ref 48), some (.int x1), some (.int x2), none, some (.int x4), some (.int x5), some (.int x6), some (.int x7), none], [.int 0, .ref 48, .int x6], h)) rfl ?_
        refine gw_le (L' := [some (.ref 48), some (.int x1), some (.int x2), none, some (.int x4), some (.int x5), none, some (.int x7), none]) (gm_le_k _ (gm_le_k _ (gm_le_k _ (gm_le_k _ (gm_le_k _ (gm_le_k _ (gm_le_n _ (gm_le_k _ (gm_le_k _ gm_le_nil))))))))) ?_
        exact ok236_244 c d Post K207 hK207 _ _ _ _ _ _ _ _ w _ hR
def wl236_207 (c : gx) (d : Nat) (Post : Option Value → gs → Prop) : Nat → Int32 → Int32 → Int32 → Int32 → Int32 → Int32 → gs → Prop
  | 0 => fun _ _ _ _ _ _ _ => False
  | n + 1 => wb236_207 c d Post (wl236_207 c d Post n)
theorem okl236_207 (c : gx) (d : Nat) (Post : Option Value → gs → Prop) : ∀ (n : Nat) (x1 : Int32) (x2 : Int32) (x4 : Int32) (x5 : Int32) (x6 : Int32) (x7 : Int32) (s : gs), wl236_207 c d Post n x1 x2 x4 x5 x6 x7 s → tV c d 236 207 [some (.ref 48), some (.int x1), some (.int x2), none, some (.int x4), some (.int x5), some (.int x6), some (.int x7), none] [] s Post
  | 0, _, _, _, _, _, _, _, w => w.elim
  | n + 1, x1, x2, x4, x5, x6, x7, s, w => okb236_207 c d Post (wl236_207 c d Post n) (okl236_207 c d Post n) x1 x2 x4 x5 x6 x7 s w
def wb236_105 (c : gx) (d : Nat) (Post : Option Value → gs → Prop) (K105 : Int32 → Int32 → Int32 → Int32 → Int32 → Int32 → gs → Prop) (x1 : Int32) (x2 : Int32) (x3 : Int32) (x4 : Int32) (x5 : Int32) (x6 : Int32) (s : gs) : Prop :=
  ((x3 ≤ x6 → ∃ n, wl236_207 c d Post n x1 x2 x4 x5 0 0 s) ∧ (¬ (x3 ≤ x6) → ∃ n, wl236_117 c d Post K105 n x1 x2 x3 x4 x5 x6 (-1) 0 s))
theorem okb236_105 (c : gx) (d : Nat) (Post : Option Value → gs → Prop) (K105 : Int32 → Int32 → Int32 → Int32 → Int32 → Int32 → gs → Prop)  (hK105 : ∀ (x1 : Int32) (x2 : Int32) (x3 : Int32) (x4 : Int32) (x5 : Int32) (x6 : Int32) (s : gs), K105 x1 x2 x3 x4 x5 x6 s → tV c d 236 105 [some (.ref 48), some (.int x1), some (.int x2), some (.int x3), some (.int x4), some (.int x5), some (.int x6), none, none] [] s Post) (x1 : Int32) (x2 : Int32) (x3 : Int32) (x4 : Int32) (x5 : Int32) (x6 : Int32) (s : gs) (w : wb236_105 c d Post K105 x1 x2 x3 x4 x5 x6 s) : tV c d 236 105 [some (.ref 48), some (.int x1), some (.int x2), some (.int x3), some (.int x4), some (.int x5), some (.int x6), none, none] [] s Post := by
  intro h hR
  have hk : ∀ pc i, gm_find gk_236 pc = some i → gm_code (gt_T c.1 c.2.1 c.2.2.1) 236 pc = some i := fun _ _ z => z
  unfold wb236_105 at w
  unfold gV
  refine gw_pst hk 2 (st' := (108, [some (.ref 48), some (.int x1), some (.int x2), some (.int x3), some (.int x4), some (.int x5), some (.int x6), none, none], [.int x3, .int x6], h)) rfl ?_
  refine gw_br (c := x3 ≤ x6) (a := (201, [some (.ref 48), some (.int x1), some (.int x2), some (.int x3), some (.int x4), some (.int x5), some (.int x6), none, none], [], h)) (b := (111, [some (.ref 48), some (.int x1), some (.int x2), some (.int x3), some (.int x4), some (.int x5), some (.int x6), none, none], [], h)) (hk _ _ rfl) rfl ⟨fun z1 => ?_, fun z1 => ?_⟩
  · replace w := w.1 z1
    refine gw_pst hk 4 (st' := (207, [some (.ref 48), some (.int x1), some (.int x2), some (.int x3), some (.int x4), some (.int x5), some (.int 0), some (.int 0), none], [], h)) rfl ?_
    refine gw_le (L' := [some (.ref 48), some (.int x1), some (.int x2), none, some (.int x4), some (.int x5), some (.int 0), some (.int 0), none]) (gm_le_k _ (gm_le_k _ (gm_le_k _ (gm_le_n _ (gm_le_k _ (gm_le_k _ (gm_le_k _ (gm_le_k _ (gm_le_k _ gm_le_nil))))))))) ?_
    obtain ⟨n, w⟩ := w
    exact okl236_207 c d Post n _ _ _ _ _ _ _ w _ hR
  · replace w := w.2 z1
    refine gw_pst hk 4 (st' := (117, [some (.ref 48), some (.int x1), some (.int x2), some (.int x3), some (.int x4), some (.int x5), some (.int x6), some (.int (-1)), some (.int 0)], [], h)) rfl ?_
    obtain ⟨n, w⟩ := w
    exact okl236_117 c d Post K105 hK105 n _ _ _ _ _ _ _ _ _ w _ hR
def wl236_105 (c : gx) (d : Nat) (Post : Option Value → gs → Prop) : Nat → Int32 → Int32 → Int32 → Int32 → Int32 → Int32 → gs → Prop
  | 0 => fun _ _ _ _ _ _ _ => False
  | n + 1 => wb236_105 c d Post (wl236_105 c d Post n)
theorem okl236_105 (c : gx) (d : Nat) (Post : Option Value → gs → Prop) : ∀ (n : Nat) (x1 : Int32) (x2 : Int32) (x3 : Int32) (x4 : Int32) (x5 : Int32) (x6 : Int32) (s : gs), wl236_105 c d Post n x1 x2 x3 x4 x5 x6 s → tV c d 236 105 [some (.ref 48), some (.int x1), some (.int x2), some (.int x3), some (.int x4), some (.int x5), some (.int x6), none, none] [] s Post
  | 0, _, _, _, _, _, _, _, w => w.elim
  | n + 1, x1, x2, x3, x4, x5, x6, s, w => okb236_105 c d Post (wl236_105 c d Post n) (okl236_105 c d Post n) x1 x2 x3 x4 x5 x6 s w
def wb236_27 (c : gx) (d : Nat) (Post : Option Value → gs → Prop) (K27 : Int32 → Int32 → Int32 → Int32 → Int32 → gs → Prop) (x1 : Int32) (x2 : Int32) (x3 : Int32) (x4 : Int32) (x5 : Int32) (s : gs) : Prop :=
  ((x1 ≤ x5 → ∃ n, wl236_105 c d Post n x1 x2 x3 x4 0 0 s) ∧ (¬ (x1 ≤ x5) → vp_in 0 108 ∧ tE c d 184 [.ref 49, .int ((gsA s 49 (0 : Int32).toNatClampNeg) + x5)] s (fun v5 s_5 => ∃ x_5 : Int32, v5 = some (.int x_5) ∧ ((x_5 = (-1) → w236_93 c d Post K27 x1 x2 x3 x4 x5 s_5) ∧ (¬ (x_5 = (-1)) → ((x_5 = 0 → w236_78 c d Post K27 x1 (x2 ||| (1 <<< (x5 &&& 31))) x4 x5 x_5 x3 1 s_5) ∧ (¬ (x_5 = 0) → w236_78 c d Post K27 x1 (x2 ||| (1 <<< (x5 &&& 31))) x4 x5 x_5 x3 0 s_5)))))))
theorem okb236_27 (c : gx) (d : Nat) (Post : Option Value → gs → Prop) (K27 : Int32 → Int32 → Int32 → Int32 → Int32 → gs → Prop)  (hK27 : ∀ (x1 : Int32) (x2 : Int32) (x3 : Int32) (x4 : Int32) (x5 : Int32) (s : gs), K27 x1 x2 x3 x4 x5 s → tV c d 236 27 [some (.ref 48), some (.int x1), some (.int x2), some (.int x3), some (.int x4), some (.int x5), none, none, none] [] s Post) (x1 : Int32) (x2 : Int32) (x3 : Int32) (x4 : Int32) (x5 : Int32) (s : gs) (w : wb236_27 c d Post K27 x1 x2 x3 x4 x5 s) : tV c d 236 27 [some (.ref 48), some (.int x1), some (.int x2), some (.int x3), some (.int x4), some (.int x5), none, none, none] [] s Post := by
  intro h hR
  have hk : ∀ pc i, gm_find gk_236 pc = some i → gm_code (gt_T c.1 c.2.1 c.2.2.1) 236 pc = some i := fun _ _ z => z
  unfold wb236_27 at w
  unfold gV
  refine gw_pst hk 2 (st' := (30, [some (.ref 48), some (.int x1), some (.int x2), some (.int x3), some (.int x4), some (.int x5), none, none, none], [.int x1, .int x5], h)) rfl ?_
  refine gw_br (c := x1 ≤ x5) (a := (99, [some (.ref 48), some (.int x1), some (.int x2), some (.int x3), some (.int x4), some (.int x5), none, none, none], [], h)) (b := (33, [some (.ref 48), some (.int x1), some (.int x2), some (.int x3), some (.int x4), some (.int x5), none, none, none], [], h)) (hk _ _ rfl) rfl ⟨fun z1 => ?_, fun z1 => ?_⟩
  · replace w := w.1 z1
    refine gw_pst hk 4 (st' := (105, [some (.ref 48), some (.int x1), some (.int x2), some (.int x3), some (.int x4), some (.int 0), some (.int 0), none, none], [], h)) rfl ?_
    obtain ⟨n, w⟩ := w
    exact okl236_105 c d Post n _ _ _ _ _ _ _ w _ hR
  · replace w := w.2 z1
    refine gw_pst hk 1 (st' := (34, [some (.ref 48), some (.int x1), some (.int x2), some (.int x3), some (.int x4), some (.int x5), none, none, none], [.ref 48], h)) rfl ?_
    refine gw_gf (hk _ _ rfl) (RL_fR (n := 49) hR rfl) ?_
    refine gw_pst hk 1 (st' := (38, [some (.ref 48), some (.int x1), some (.int x2), some (.int x3), some (.int x4), some (.int x5), none, none, none], [.ref 48, .ref 49], h)) rfl ?_
    refine gw_gf (hk _ _ rfl) (RL_fR (n := 49) hR rfl) ?_
    refine gw_pst hk 1 (st' := (42, [some (.ref 48), some (.int x1), some (.int x2), some (.int x3), some (.int x4), some (.int x5), none, none, none], [.int 0, .ref 49, .ref 49], h)) rfl ?_
    obtain ⟨b4, w⟩ := w
    refine gw_ald (hk _ _ rfl) (Or.inl ⟨rfl, rfl⟩) (RL_a (t := 0) (n := 108) hR rfl (by decide)) b4 ?_
    refine gw_pst hk 2 (st' := (46, [some (.ref 48), some (.int x1), some (.int x2), some (.int x3), some (.int x4), some (.int x5), none, none, none], [.int ((gsA s 49 (0 : Int32).toNatClampNeg) + x5), .ref 49], h)) rfl ?_
    refine gw_call (jj := 184) (As := [.ref 49, .int ((gsA s 49 (0 : Int32).toNatClampNeg) + x5)]) (rest := []) (hk _ _ rfl) (fun _ => rfl) rfl rfl (Nat.le_of_ble_eq_true rfl) rfl ?_
    refine ge_imp (w h hR) (fun v5 h w => ?_)
    obtain ⟨s_5, hR, x_5, rfl, w⟩ := w
    show gw (gt_T c.1 c.2.1 c.2.2.1) c.2.2.2 d 236 (49, [some (.ref 48), some (.int x1), some (.int x2), some (.int x3), some (.int x4), some (.int x5), none, none, none], [.int x_5], h) _
    refine gw_pst hk 3 (st' := (54, [some (.ref 48), some (.int x1), some (.int x2), some (.int x3), some (.int x4), some (.int x5), some (.int x_5), none, none], [.int (-1), .int x_5], h)) rfl ?_
    refine gw_br (c := x_5 = (-1)) (a := (57, [some (.ref 48), some (.int x1), some (.int x2), some (.int x3), some (.int x4), some (.int x5), some (.int x_5), none, none], [], h)) (b := (60, [some (.ref 48), some (.int x1), some (.int x2), some (.int x3), some (.int x4), some (.int x5), some (.int x_5), none, none], [], h)) (hk _ _ rfl) rfl ⟨fun z6 => ?_, fun z6 => ?_⟩
    · replace w := w.1 z6
      refine gw_pst hk 1 (st' := (93, [some (.ref 48), some (.int x1), some (.int x2), some (.int x3), some (.int x4), some (.int x5), some (.int x_5), none, none], [], h)) rfl ?_
      refine gw_le (L' := [some (.ref 48), some (.int x1), some (.int x2), some (.int x3), some (.int x4), some (.int x5), none, none, none]) (gm_le_k _ (gm_le_k _ (gm_le_k _ (gm_le_k _ (gm_le_k _ (gm_le_k _ (gm_le_n _ (gm_le_k _ (gm_le_k _ gm_le_nil))))))))) ?_
      exact ok236_93 c d Post K27 hK27 _ _ _ _ _ _ w _ hR
    · replace w := w.2 z6
      refine gw_pst hk 8 (st' := (70, [some (.ref 48), some (.int x1), some (.int (x2 ||| (1 <<< (x5 &&& 31)))), some (.int x3), some (.int x4), some (.int x5), some (.int x_5), none, none], [.int x_5, .int x3], h)) rfl ?_
      refine gw_br (c := x_5 = 0) (a := (73, [some (.ref 48), some (.int x1), some (.int (x2 ||| (1 <<< (x5 &&& 31)))), some (.int x3), some (.int x4), some (.int x5), some (.int x_5), none, none], [.int x3], h)) (b := (77, [some (.ref 48), some (.int x1), some (.int (x2 ||| (1 <<< (x5 &&& 31)))), some (.int x3), some (.int x4), some (.int x5), some (.int x_5), none, none], [.int x3], h)) (hk _ _ rfl) rfl ⟨fun z7 => ?_, fun z7 => ?_⟩
      · replace w := w.1 z7
        refine gw_pst hk 2 (st' := (78, [some (.ref 48), some (.int x1), some (.int (x2 ||| (1 <<< (x5 &&& 31)))), some (.int x3), some (.int x4), some (.int x5), some (.int x_5), none, none], [.int 1, .int x3], h)) rfl ?_
        refine gw_le (L' := [some (.ref 48), some (.int x1), some (.int (x2 ||| (1 <<< (x5 &&& 31)))), none, some (.int x4), some (.int x5), some (.int x_5), none, none]) (gm_le_k _ (gm_le_k _ (gm_le_k _ (gm_le_n _ (gm_le_k _ (gm_le_k _ (gm_le_k _ (gm_le_k _ (gm_le_k _ gm_le_nil))))))))) ?_
        exact ok236_78 c d Post K27 hK27 _ _ _ _ _ _ _ _ w _ hR
      · replace w := w.2 z7
        refine gw_pst hk 1 (st' := (78, [some (.ref 48), some (.int x1), some (.int (x2 ||| (1 <<< (x5 &&& 31)))), some (.int x3), some (.int x4), some (.int x5), some (.int x_5), none, none], [.int 0, .int x3], h)) rfl ?_
        refine gw_le (L' := [some (.ref 48), some (.int x1), some (.int (x2 ||| (1 <<< (x5 &&& 31)))), none, some (.int x4), some (.int x5), some (.int x_5), none, none]) (gm_le_k _ (gm_le_k _ (gm_le_k _ (gm_le_n _ (gm_le_k _ (gm_le_k _ (gm_le_k _ (gm_le_k _ (gm_le_k _ gm_le_nil))))))))) ?_
        exact ok236_78 c d Post K27 hK27 _ _ _ _ _ _ _ _ w _ hR
def wl236_27 (c : gx) (d : Nat) (Post : Option Value → gs → Prop) : Nat → Int32 → Int32 → Int32 → Int32 → Int32 → gs → Prop
  | 0 => fun _ _ _ _ _ _ => False
  | n + 1 => wb236_27 c d Post (wl236_27 c d Post n)
theorem okl236_27 (c : gx) (d : Nat) (Post : Option Value → gs → Prop) : ∀ (n : Nat) (x1 : Int32) (x2 : Int32) (x3 : Int32) (x4 : Int32) (x5 : Int32) (s : gs), wl236_27 c d Post n x1 x2 x3 x4 x5 s → tV c d 236 27 [some (.ref 48), some (.int x1), some (.int x2), some (.int x3), some (.int x4), some (.int x5), none, none, none] [] s Post
  | 0, _, _, _, _, _, _, w => w.elim
  | n + 1, x1, x2, x3, x4, x5, s, w => okb236_27 c d Post (wl236_27 c d Post n) (okl236_27 c d Post n) x1 x2 x3 x4 x5 s w
/-- CommandByTurnsModel.share(I)I -/
def wm236 (c : gx) (d : Nat) (Post : Option Value → gs → Prop) (x1 : Int32) (s : gs) : Prop :=
  ∀ s_1 : gs, s_1 = gs_V s 48 13 0 → tE c d 154 [.int x1, .int 1, .int 20] s_1 (fun v2 s_2 => ∃ x_2 : Int32, v2 = some (.int x_2) ∧ ((x_2 = 0 → Post (some (.int (-1))) s_2) ∧ (¬ (x_2 = 0) → ∃ n, wl236_27 c d Post n x1 0 0 0 0 s_2)))
theorem okm236 (c : gx) (d : Nat) (Post : Option Value → gs → Prop) (x1 : Int32) (s : gs) (w : wm236 c d Post x1 s) : tE c (d + 1) 236 [.ref 48, .int x1] s Post := by
  intro h hR
  have hk : ∀ pc i, gm_find gk_236 pc = some i → gm_code (gt_T c.1 c.2.1 c.2.2.1) 236 pc = some i := fun _ _ z => z
  unfold wm236 at w
  refine ge_of (by decide) (Nat.le_of_ble_eq_true rfl) ?_
  show gw (gt_T c.1 c.2.1 c.2.2.1) c.2.2.2 d 236 (0, [some (.ref 48), some (.int x1), none, none, none, none, none, none, none], [], h) _
  refine gw_pst hk 2 (st' := (2, [some (.ref 48), some (.int x1), none, none, none, none, none, none, none], [.int 0, .ref 48], h)) rfl ?_
  obtain ⟨fs1, e1⟩ := RL_o hR (r := 48) (ci := 10) rfl
  obtain ⟨l1, hR1⟩ := RL_pI (k := 13) (x := 0) hR rfl e1
  refine gw_pf (hk _ _ rfl) e1 l1 rfl ?_
  generalize gm_put h _ _ = h at hR1 ⊢
  obtain ⟨s_1, es1⟩ : ∃ z, z = gs_V s 48 13 0 := ⟨_, rfl⟩
  rw [← es1] at hR1
  replace w := w s_1 es1
  replace hR := hR1
  refine gw_pst hk 3 (st' := (9, [some (.ref 48), some (.int x1), none, none, none, none, none, none, none], [.int 20, .int 1, .int x1], h)) rfl ?_
  refine gw_call (jj := 154) (As := [.int x1, .int 1, .int 20]) (rest := []) (hk _ _ rfl) (fun _ => rfl) rfl rfl (Nat.le_of_ble_eq_true rfl) rfl ?_
  refine ge_imp (w h hR) (fun v2 h w => ?_)
  obtain ⟨s_2, hR, x_2, rfl, w⟩ := w
  show gw (gt_T c.1 c.2.1 c.2.2.1) c.2.2.2 d 236 (12, [some (.ref 48), some (.int x1), none, none, none, none, none, none, none], [.int x_2], h) _
  refine gw_br (c := x_2 = 0) (a := (15, [some (.ref 48), some (.int x1), none, none, none, none, none, none, none], [], h)) (b := (17, [some (.ref 48), some (.int x1), none, none, none, none, none, none, none], [], h)) (hk _ _ rfl) rfl ⟨fun z3 => ?_, fun z3 => ?_⟩
  · replace w := w.1 z3
    refine gw_pst hk 1 (st' := (16, [some (.ref 48), some (.int x1), none, none, none, none, none, none, none], [.int (-1)], h)) rfl ?_
    exact gw_ret (hk _ _ rfl) rfl ⟨_, hR, w⟩
  · replace w := w.2 z3
    refine gw_pst hk 8 (st' := (27, [some (.ref 48), some (.int x1), some (.int 0), some (.int 0), some (.int 0), some (.int 0), none, none, none], [], h)) rfl ?_
    obtain ⟨n, w⟩ := w
    exact okl236_27 c d Post n _ _ _ _ _ _ w _ hR
def wb237_6 (c : gx) (d : Nat) (Post : Option Value → gs → Prop) (K6 : Int32 → Int32 → Int32 → Int32 → Int32 → gs → Prop) (x1 : Int32) (x2 : Int32) (x3 : Int32) (x4 : Int32) (x5 : Int32) (s : gs) : Prop :=
  ((x3 ≤ x5 → Post (some (.int x4)) s) ∧ (¬ (x3 ≤ x5) → ¬ x1 = 0 ∧ vp_in 1 108 ∧ vp_in 0 108 ∧ tE c d 182 [.ref 48, .ref 49, .int ((x2 >>> ((x5 - x5 / x1 * x1) &&& 31)) &&& 1), .int (gsA s 49 (1 : Int32).toNatClampNeg), .int ((gsA s 49 (0 : Int32).toNatClampNeg) + x5)] s (fun v8 s_8 => ∃ x_8 : Int32, v8 = some (.int x_8) ∧ K6 x1 x2 x3 (x4 + x_8) (x5 + 1) s_8)))
theorem okb237_6 (c : gx) (d : Nat) (Post : Option Value → gs → Prop) (K6 : Int32 → Int32 → Int32 → Int32 → Int32 → gs → Prop)  (hK6 : ∀ (x1 : Int32) (x2 : Int32) (x3 : Int32) (x4 : Int32) (x5 : Int32) (s : gs), K6 x1 x2 x3 x4 x5 s → tV c d 237 6 [some (.ref 48), some (.int x1), some (.int x2), some (.int x3), some (.int x4), some (.int x5)] [] s Post) (x1 : Int32) (x2 : Int32) (x3 : Int32) (x4 : Int32) (x5 : Int32) (s : gs) (w : wb237_6 c d Post K6 x1 x2 x3 x4 x5 s) : tV c d 237 6 [some (.ref 48), some (.int x1), some (.int x2), some (.int x3), some (.int x4), some (.int x5)] [] s Post := by
  intro h hR
  have hk : ∀ pc i, gm_find gk_237 pc = some i → gm_code (gt_T c.1 c.2.1 c.2.2.1) 237 pc = some i := fun _ _ z => z
  unfold wb237_6 at w
  unfold gV
  refine gw_pst hk 2 (st' := (9, [some (.ref 48), some (.int x1), some (.int x2), some (.int x3), some (.int x4), some (.int x5)], [.int x3, .int x5], h)) rfl ?_
  refine gw_br (c := x3 ≤ x5) (a := (54, [some (.ref 48), some (.int x1), some (.int x2), some (.int x3), some (.int x4), some (.int x5)], [], h)) (b := (12, [some (.ref 48), some (.int x1), some (.int x2), some (.int x3), some (.int x4), some (.int x5)], [], h)) (hk _ _ rfl) rfl ⟨fun z1 => ?_, fun z1 => ?_⟩
  · replace w := w.1 z1
    refine gw_pst hk 1 (st' := (56, [some (.ref 48), some (.int x1), some (.int x2), some (.int x3), some (.int x4), some (.int x5)], [.int x4], h)) rfl ?_
    exact gw_ret (hk _ _ rfl) rfl ⟨_, hR, w⟩
  · replace w := w.2 z1
    refine gw_pst hk 3 (st' := (16, [some (.ref 48), some (.int x1), some (.int x2), some (.int x3), some (.int x4), some (.int x5)], [.ref 48, .ref 48, .int x4], h)) rfl ?_
    refine gw_gf (hk _ _ rfl) (RL_fR (n := 49) hR rfl) ?_
    refine gw_pst hk 3 (st' := (23, [some (.ref 48), some (.int x1), some (.int x2), some (.int x3), some (.int x4), some (.int x5)], [.int x1, .int x5, .int x2, .ref 49, .ref 48, .int x4], h)) rfl ?_
    obtain ⟨z3, w⟩ := w
    refine gw_irem (hk _ _ rfl) z3 ?_ rfl
    refine gw_pst hk 4 (st' := (28, [some (.ref 48), some (.int x1), some (.int x2), some (.int x3), some (.int x4), some (.int x5)], [.ref 48, .int ((x2 >>> ((x5 - x5 / x1 * x1) &&& 31)) &&& 1), .ref 49, .ref 48, .int x4], h)) rfl ?_
    refine gw_gf (hk _ _ rfl) (RL_fR (n := 49) hR rfl) ?_
    refine gw_pst hk 1 (st' := (32, [some (.ref 48), some (.int x1), some (.int x2), some (.int x3), some (.int x4), some (.int x5)], [.int 1, .ref 49, .int ((x2 >>> ((x5 - x5 / x1 * x1) &&& 31)) &&& 1), .ref 49, .ref 48, .int x4], h)) rfl ?_
    obtain ⟨b5, w⟩ := w
    refine gw_ald (hk _ _ rfl) (Or.inl ⟨rfl, rfl⟩) (RL_a (t := 0) (n := 108) hR rfl (by decide)) b5 ?_
    refine gw_pst hk 1 (st' := (34, [some (.ref 48), some (.int x1), some (.int x2), some (.int x3), some (.int x4), some (.int x5)], [.ref 48, .int (gsA s 49 (1 : Int32).toNatClampNeg), .int ((x2 >>> ((x5 - x5 / x1 * x1) &&& 31)) &&& 1), .ref 49, .ref 48, .int x4], h)) rfl ?_
    refine gw_gf (hk _ _ rfl) (RL_fR (n := 49) hR rfl) ?_
    refine gw_pst hk 1 (st' := (38, [some (.ref 48), some (.int x1), some (.int x2), some (.int x3), some (.int x4), some (.int x5)], [.int 0, .ref 49, .int (gsA s 49 (1 : Int32).toNatClampNeg), .int ((x2 >>> ((x5 - x5 / x1 * x1) &&& 31)) &&& 1), .ref 49, .ref 48, .int x4], h)) rfl ?_
    obtain ⟨b7, w⟩ := w
    refine gw_ald (hk _ _ rfl) (Or.inl ⟨rfl, rfl⟩) (RL_a (t := 0) (n := 108) hR rfl (by decide)) b7 ?_
    refine gw_pst hk 2 (st' := (42, [some (.ref 48), some (.int x1), some (.int x2), some (.int x3), some (.int x4), some (.int x5)], [.int ((gsA s 49 (0 : Int32).toNatClampNeg) + x5), .int (gsA s 49 (1 : Int32).toNatClampNeg), .int ((x2 >>> ((x5 - x5 / x1 * x1) &&& 31)) &&& 1), .ref 49, .ref 48, .int x4], h)) rfl ?_
    obtain ⟨fs8, e8⟩ := RL_o hR (r := 48) (ci := 10) rfl
    refine gw_call (jj := 182) (As := [.ref 48, .ref 49, .int ((x2 >>> ((x5 - x5 / x1 * x1) &&& 31)) &&& 1), .int (gsA s 49 (1 : Int32).toNatClampNeg), .int ((gsA s 49 (0 : Int32).toNatClampNeg) + x5)]) (rest := [.int x4]) (hk _ _ rfl) (fun _ => rfl) rfl rfl (Nat.le_of_ble_eq_true rfl) (gm_rcv_v rfl e8 rfl) ?_
    refine ge_imp (w h hR) (fun v8 h w => ?_)
    obtain ⟨s_8, hR, x_8, rfl, w⟩ := w
    show gw (gt_T c.1 c.2.1 c.2.2.1) c.2.2.2 d 237 (45, [some (.ref 48), some (.int x1), some (.int x2), some (.int x3), some (.int x4), some (.int x5)], [.int x_8, .int x4], h) _
    refine gw_pst hk 4 (st' := (6, [some (.ref 48), some (.int x1), some (.int x2), some (.int x3), some (.int (x4 + x_8)), some (.int (x5 + 1))], [], h)) rfl ?_
    exact hK6 _ _ _ _ _ _ w _ hR
def wl237_6 (c : gx) (d : Nat) (Post : Option Value → gs → Prop) : Nat → Int32 → Int32 → Int32 → Int32 → Int32 → gs → Prop
  | 0 => fun _ _ _ _ _ _ => False
  | n + 1 => wb237_6 c d Post (wl237_6 c d Post n)
theorem okl237_6 (c : gx) (d : Nat) (Post : Option Value → gs → Prop) : ∀ (n : Nat) (x1 : Int32) (x2 : Int32) (x3 : Int32) (x4 : Int32) (x5 : Int32) (s : gs), wl237_6 c d Post n x1 x2 x3 x4 x5 s → tV c d 237 6 [some (.ref 48), some (.int x1), some (.int x2), some (.int x3), some (.int x4), some (.int x5)] [] s Post
  | 0, _, _, _, _, _, _, w => w.elim
  | n + 1, x1, x2, x3, x4, x5, s, w => okb237_6 c d Post (wl237_6 c d Post n) (okl237_6 c d Post n) x1 x2 x3 x4 x5 s w
/-- CommandByTurnsModel.issuesBy(III)I -/
def wm237 (c : gx) (d : Nat) (Post : Option Value → gs → Prop) (x1 : Int32) (x2 : Int32) (x3 : Int32) (s : gs) : Prop :=
  ∃ n, wl237_6 c d Post n x1 x2 x3 0 0 s
theorem okm237 (c : gx) (d : Nat) (Post : Option Value → gs → Prop) (x1 : Int32) (x2 : Int32) (x3 : Int32) (s : gs) (w : wm237 c d Post x1 x2 x3 s) : tE c (d + 1) 237 [.ref 48, .int x1, .int x2, .int x3] s Post := by
  intro h hR
  have hk : ∀ pc i, gm_find gk_237 pc = some i → gm_code (gt_T c.1 c.2.1 c.2.2.1) 237 pc = some i := fun _ _ z => z
  unfold wm237 at w
  refine ge_of (by decide) (Nat.le_of_ble_eq_true rfl) ?_
  show gw (gt_T c.1 c.2.1 c.2.2.1) c.2.2.2 d 237 (0, [some (.ref 48), some (.int x1), some (.int x2), some (.int x3), none, none], [], h) _
  refine gw_pst hk 4 (st' := (6, [some (.ref 48), some (.int x1), some (.int x2), some (.int x3), some (.int 0), some (.int 0)], [], h)) rfl ?_
  obtain ⟨n, w⟩ := w
  exact okl237_6 c d Post n _ _ _ _ _ _ w _ hR
def w238_102 (c : gx) (d : Nat) (Post : Option Value → gs → Prop) (K48 : Int32 → Int32 → Int32 → Int32 → Int32 → gs → Prop) (K57 : Int32 → Int32 → Int32 → Int32 → Int32 → Int32 → gs → Prop) (x1 : Int32) (x2 : Int32) (x3 : Int32) (x4 : Int32) (x5 : Int32) (x6 : Int32) (s : gs) : Prop :=
  K57 x1 x2 x3 x4 x5 (x6 + 1) s
theorem ok238_102 (c : gx) (d : Nat) (Post : Option Value → gs → Prop) (K48 : Int32 → Int32 → Int32 → Int32 → Int32 → gs → Prop) (K57 : Int32 → Int32 → Int32 → Int32 → Int32 → Int32 → gs → Prop)  (hK48 : ∀ (x1 : Int32) (x2 : Int32) (x3 : Int32) (x4 : Int32) (x5 : Int32) (s : gs), K48 x1 x2 x3 x4 x5 s → tV c d 238 48 [some (.ref 48), some (.int x1), some (.int x2), some (.int x3), some (.int x4), some (.int x5), none, none] [] s Post) (hK57 : ∀ (x1 : Int32) (x2 : Int32) (x3 : Int32) (x4 : Int32) (x5 : Int32) (x6 : Int32) (s : gs), K57 x1 x2 x3 x4 x5 x6 s → tV c d 238 57 [some (.ref 48), some (.int x1), some (.int x2), some (.int x3), some (.int x4), some (.int x5), some (.int x6), none] [] s Post) (x1 : Int32) (x2 : Int32) (x3 : Int32) (x4 : Int32) (x5 : Int32) (x6 : Int32) (s : gs) (w : w238_102 c d Post K48 K57 x1 x2 x3 x4 x5 x6 s) : tV c d 238 102 [some (.ref 48), some (.int x1), some (.int x2), some (.int x3), some (.int x4), some (.int x5), some (.int x6), none] [] s Post := by
  intro h hR
  have hk : ∀ pc i, gm_find gk_238 pc = some i → gm_code (gt_T c.1 c.2.1 c.2.2.1) 238 pc = some i := fun _ _ z => z
  unfold w238_102 at w
  unfold gV
  refine gw_pst hk 2 (st' := (57, [some (.ref 48), some (.int x1), some (.int x2), some (.int x3), some (.int x4), some (.int x5), some (.int (x6 + 1)), none], [], h)) rfl ?_
  exact hK57 _ _ _ _ _ _ _ w _ hR
def w238_92 (c : gx) (d : Nat) (Post : Option Value → gs → Prop) (K48 : Int32 → Int32 → Int32 → Int32 → Int32 → gs → Prop) (K57 : Int32 → Int32 → Int32 → Int32 → Int32 → Int32 → gs → Prop) (x1 : Int32) (x5 : Int32) (x6 : Int32) (x7 : Int32) (s : gs) : Prop :=
  w238_102 c d Post K48 K57 x1 x5 x6 x7 x5 x6 s
theorem ok238_92 (c : gx) (d : Nat) (Post : Option Value → gs → Prop) (K48 : Int32 → Int32 → Int32 → Int32 → Int32 → gs → Prop) (K57 : Int32 → Int32 → Int32 → Int32 → Int32 → Int32 → gs → Prop)  (hK48 : ∀ (x1 : Int32) (x2 : Int32) (x3 : Int32) (x4 : Int32) (x5 : Int32) (s : gs), K48 x1 x2 x3 x4 x5 s → tV c d 238 48 [some (.ref 48), some (.int x1), some (.int x2), some (.int x3), some (.int x4), some (.int x5), none, none] [] s Post) (hK57 : ∀ (x1 : Int32) (x2 : Int32) (x3 : Int32) (x4 : Int32) (x5 : Int32) (x6 : Int32) (s : gs), K57 x1 x2 x3 x4 x5 x6 s → tV c d 238 57 [some (.ref 48), some (.int x1), some (.int x2), some (.int x3), some (.int x4), some (.int x5), some (.int x6), none] [] s Post) (x1 : Int32) (x5 : Int32) (x6 : Int32) (x7 : Int32) (s : gs) (w : w238_92 c d Post K48 K57 x1 x5 x6 x7 s) : tV c d 238 92 [some (.ref 48), some (.int x1), none, none, none, some (.int x5), some (.int x6), some (.int x7)] [] s Post := by
  intro h hR
  have hk : ∀ pc i, gm_find gk_238 pc = some i → gm_code (gt_T c.1 c.2.1 c.2.2.1) 238 pc = some i := fun _ _ z => z
  unfold w238_92 at w
  unfold gV
  refine gw_pst hk 6 (st' := (102, [some (.ref 48), some (.int x1), some (.int x5), some (.int x6), some (.int x7), some (.int x5), some (.int x6), some (.int x7)], [], h)) rfl ?_
  refine gw_le (L' := [some (.ref 48), some (.int x1), some (.int x5), some (.int x6), some (.int x7), some (.int x5), some (.int x6), none]) (gm_le_k _ (gm_le_k _ (gm_le_k _ (gm_le_k _ (gm_le_k _ (gm_le_k _ (gm_le_k _ (gm_le_n _ gm_le_nil)))))))) ?_
  exact ok238_102 c d Post K48 K57 hK48 hK57 _ _ _ _ _ _ _ w _ hR
def wb238_57 (c : gx) (d : Nat) (Post : Option Value → gs → Prop) (K48 : Int32 → Int32 → Int32 → Int32 → Int32 → gs → Prop) (K57 : Int32 → Int32 → Int32 → Int32 → Int32 → Int32 → gs → Prop) (x1 : Int32) (x2 : Int32) (x3 : Int32) (x4 : Int32) (x5 : Int32) (x6 : Int32) (s : gs) : Prop :=
  (((1 <<< (x5 &&& 31)) ≤ x6 → K48 x1 x2 x3 x4 (x5 + 1) s) ∧ (¬ ((1 <<< (x5 &&& 31)) ≤ x6) → tE c d 237 [.ref 48, .int x5, .int x6, .int x1] s (fun v2 s_2 => ∃ x_2 : Int32, v2 = some (.int x_2) ∧ ((x2 = (-1) → w238_92 c d Post K48 K57 x1 x5 x6 x_2 s_2) ∧ (¬ (x2 = (-1)) → ((x4 < x_2 → w238_92 c d Post K48 K57 x1 x5 x6 x_2 s_2) ∧ (¬ (x4 < x_2) → w238_102 c d Post K48 K57 x1 x2 x3 x4 x5 x6 s_2)))))))
theorem okb238_57 (c : gx) (d : Nat) (Post : Option Value → gs → Prop) (K48 : Int32 → Int32 → Int32 → Int32 → Int32 → gs → Prop) (K57 : Int32 → Int32 → Int32 → Int32 → Int32 → Int32 → gs → Prop)  (hK48 : ∀ (x1 : Int32) (x2 : Int32) (x3 : Int32) (x4 : Int32) (x5 : Int32) (s : gs), K48 x1 x2 x3 x4 x5 s → tV c d 238 48 [some (.ref 48), some (.int x1), some (.int x2), some (.int x3), some (.int x4), some (.int x5), none, none] [] s Post) (hK57 : ∀ (x1 : Int32) (x2 : Int32) (x3 : Int32) (x4 : Int32) (x5 : Int32) (x6 : Int32) (s : gs), K57 x1 x2 x3 x4 x5 x6 s → tV c d 238 57 [some (.ref 48), some (.int x1), some (.int x2), some (.int x3), some (.int x4), some (.int x5), some (.int x6), none] [] s Post) (x1 : Int32) (x2 : Int32) (x3 : Int32) (x4 : Int32) (x5 : Int32) (x6 : Int32) (s : gs) (w : wb238_57 c d Post K48 K57 x1 x2 x3 x4 x5 x6 s) : tV c d 238 57 [some (.ref 48), some (.int x1), some (.int x2), some (.int x3), some (.int x4), some (.int x5), some (.int x6), none] [] s Post := by
  intro h hR
  have hk : ∀ pc i, gm_find gk_238 pc = some i → gm_code (gt_T c.1 c.2.1 c.2.2.1) 238 pc = some i := fun _ _ z => z
  unfold wb238_57 at w
  unfold gV
  refine gw_pst hk 4 (st' := (63, [some (.ref 48), some (.int x1), some (.int x2), some (.int x3), some (.int x4), some (.int x5), some (.int x6), none], [.int (1 <<< (x5 &&& 31)), .int x6], h)) rfl ?_
  refine gw_br (c := (1 <<< (x5 &&& 31)) ≤ x6) (a := (108, [some (.ref 48), some (.int x1), some (.int x2), some (.int x3), some (.int x4), some (.int x5), some (.int x6), none], [], h)) (b := (66, [some (.ref 48), some (.int x1), some (.int x2), some (.int x3), some (.int x4), some (.int x5), some (.int x6), none], [], h)) (hk _ _ rfl) rfl ⟨fun z1 => ?_, fun z1 => ?_⟩
  · replace w := w.1 z1
    refine gw_pst hk 2 (st' := (48, [some (.ref 48), some (.int x1), some (.int x2), some (.int x3), some (.int x4), some (.int (x5 + 1)), some (.int x6), none], [], h)) rfl ?_
    refine gw_le (L' := [some (.ref 48), some (.int x1), some (.int x2), some (.int x3), some (.int x4), some (.int (x5 + 1)), none, none]) (gm_le_k _ (gm_le_k _ (gm_le_k _ (gm_le_k _ (gm_le_k _ (gm_le_k _ (gm_le_n _ (gm_le_k _ gm_le_nil)))))))) ?_
    exact hK48 _ _ _ _ _ _ w _ hR
  · replace w := w.2 z1
    refine gw_pst hk 4 (st' := (72, [some (.ref 48), some (.int x1), some (.int x2), some (.int x3), some (.int x4), some (.int x5), some (.int x6), none], [.int x1, .int x6, .int x5, .ref 48], h)) rfl ?_
    obtain ⟨fs2, e2⟩ := RL_o hR (r := 48) (ci := 10) rfl
    refine gw_call (jj := 237) (As := [.ref 48, .int x5, .int x6, .int x1]) (rest := []) (hk _ _ rfl) (fun _ => rfl) rfl rfl (Nat.le_of_ble_eq_true rfl) (gm_rcv_v rfl e2 rfl) ?_
    refine ge_imp (w h hR) (fun v2 h w => ?_)
    obtain ⟨s_2, hR, x_2, rfl, w⟩ := w
    show gw (gt_T c.1 c.2.1 c.2.2.1) c.2.2.2 d 238 (75, [some (.ref 48), some (.int x1), some (.int x2), some (.int x3), some (.int x4), some (.int x5), some (.int x6), none], [.int x_2], h) _
    refine gw_pst hk 3 (st' := (79, [some (.ref 48), some (.int x1), some (.int x2), some (.int x3), some (.int x4), some (.int x5), some (.int x6), some (.int x_2)], [.int (-1), .int x2], h)) rfl ?_
    refine gw_br (c := x2 = (-1)) (a := (92, [some (.ref 48), some (.int x1), some (.int x2), some (.int x3), some (.int x4), some (.int x5), some (.int x6), some (.int x_2)], [], h)) (b := (82, [some (.ref 48), some (.int x1), some (.int x2), some (.int x3), some (.int x4), some (.int x5), some (.int x6), some (.int x_2)], [], h)) (hk _ _ rfl) rfl ⟨fun z3 => ?_, fun z3 => ?_⟩
    · replace w := w.1 z3
      refine gw_le (L' := [some (.ref 48), some (.int x1), none, none, none, some (.int x5), some (.int x6), some (.int x_2)]) (gm_le_k _ (gm_le_k _ (gm_le_n _ (gm_le_n _ (gm_le_n _ (gm_le_k _ (gm_le_k _ (gm_le_k _ gm_le_nil)))))))) ?_
      exact ok238_92 c d Post K48 K57 hK48 hK57 _ _ _ _ _ w _ hR
    · replace w := w.2 z3
      refine gw_pst hk 2 (st' := (86, [some (.ref 48), some (.int x1), some (.int x2), some (.int x3), some (.int x4), some (.int x5), some (.int x6), some (.int x_2)], [.int x4, .int x_2], h)) rfl ?_
      refine gw_br (c := x4 < x_2) (a := (92, [some (.ref 48), some (.int x1), some (.int x2), some (.int x3), some (.int x4), some (.int x5), some (.int x6), some (.int x_2)], [], h)) (b := (89, [some (.ref 48), some (.int x1), some (.int x2), some (.int x3), some (.int x4), some (.int x5), some (.int x6), some (.int x_2)], [], h)) (hk _ _ rfl) rfl ⟨fun z4 => ?_, fun z4 => ?_⟩
      · replace w := w.1 z4
        refine gw_le (L' := [some (.ref 48), some (.int x1), none, none, none, some (.int x5), some (.int x6), some (.int x_2)]) (gm_le_k _ (gm_le_k _ (gm_le_n _ (gm_le_n _ (gm_le_n _ (gm_le_k _ (gm_le_k _ (gm_le_k _ gm_le_nil)))))))) ?_
        exact ok238_92 c d Post K48 K57 hK48 hK57 _ _ _ _ _ w _ hR
      · replace w := w.2 z4
        refine gw_pst hk 1 (st' := (102, [some (.ref 48), some (.int x1), some (.int x2), some (.int x3), some (.int x4), some (.int x5), some (.int x6), some (.int x_2)], [], h)) rfl ?_
        refine gw_le (L' := [some (.ref 48), some (.int x1), some (.int x2), some (.int x3), some (.int x4), some (.int x5), some (.int x6), none]) (gm_le_k _ (gm_le_k _ (gm_le_k _ (gm_le_k _ (gm_le_k _ (gm_le_k _ (gm_le_k _ (gm_le_n _ gm_le_nil)))))))) ?_
        exact ok238_102 c d Post K48 K57 hK48 hK57 _ _ _ _ _ _ _ w _ hR
def wl238_57 (c : gx) (d : Nat) (Post : Option Value → gs → Prop) (K48 : Int32 → Int32 → Int32 → Int32 → Int32 → gs → Prop) : Nat → Int32 → Int32 → Int32 → Int32 → Int32 → Int32 → gs → Prop
  | 0 => fun _ _ _ _ _ _ _ => False
  | n + 1 => wb238_57 c d Post K48 (wl238_57 c d Post K48 n)
theorem okl238_57 (c : gx) (d : Nat) (Post : Option Value → gs → Prop) (K48 : Int32 → Int32 → Int32 → Int32 → Int32 → gs → Prop) (hK48 : ∀ (x1 : Int32) (x2 : Int32) (x3 : Int32) (x4 : Int32) (x5 : Int32) (s : gs), K48 x1 x2 x3 x4 x5 s → tV c d 238 48 [some (.ref 48), some (.int x1), some (.int x2), some (.int x3), some (.int x4), some (.int x5), none, none] [] s Post) : ∀ (n : Nat) (x1 : Int32) (x2 : Int32) (x3 : Int32) (x4 : Int32) (x5 : Int32) (x6 : Int32) (s : gs), wl238_57 c d Post K48 n x1 x2 x3 x4 x5 x6 s → tV c d 238 57 [some (.ref 48), some (.int x1), some (.int x2), some (.int x3), some (.int x4), some (.int x5), some (.int x6), none] [] s Post
  | 0, _, _, _, _, _, _, _, w => w.elim
  | n + 1, x1, x2, x3, x4, x5, x6, s, w => okb238_57 c d Post K48 (wl238_57 c d Post K48 n) hK48 (okl238_57 c d Post K48 hK48 n) x1 x2 x3 x4 x5 x6 s w
def wb238_48 (c : gx) (d : Nat) (Post : Option Value → gs → Prop) (K48 : Int32 → Int32 → Int32 → Int32 → Int32 → gs → Prop) (x1 : Int32) (x2 : Int32) (x3 : Int32) (x4 : Int32) (x5 : Int32) (s : gs) : Prop :=
  ((4 < x5 → ∀ s_2 : gs, s_2 = gs_V s 48 12 0 → tE c d 157 [.ref 48, .long ((x3 : Int32).toInt64)] s_2 (fun v3 s_3 => v3 = none ∧ tE c d 157 [.ref 48, .long ((x4 : Int32).toInt64)] s_3 (fun v4 s_4 => v4 = none ∧ Post (some (.int x2)) s_4))) ∧ (¬ (4 < x5) → ∃ n, wl238_57 c d Post K48 n x1 x2 x3 x4 x5 0 s))
theorem okb238_48 (c : gx) (d : Nat) (Post : Option Value → gs → Prop) (K48 : Int32 → Int32 → Int32 → Int32 → Int32 → gs → Prop)  (hK48 : ∀ (x1 : Int32) (x2 : Int32) (x3 : Int32) (x4 : Int32) (x5 : Int32) (s : gs), K48 x1 x2 x3 x4 x5 s → tV c d 238 48 [some (.ref 48), some (.int x1), some (.int x2), some (.int x3), some (.int x4), some (.int x5), none, none] [] s Post) (x1 : Int32) (x2 : Int32) (x3 : Int32) (x4 : Int32) (x5 : Int32) (s : gs) (w : wb238_48 c d Post K48 x1 x2 x3 x4 x5 s) : tV c d 238 48 [some (.ref 48), some (.int x1), some (.int x2), some (.int x3), some (.int x4), some (.int x5), none, none] [] s Post := by
  intro h hR
  have hk : ∀ pc i, gm_find gk_238 pc = some i → gm_code (gt_T c.1 c.2.1 c.2.2.1) 238 pc = some i := fun _ _ z => z
  unfold wb238_48 at w
  unfold gV
  refine gw_pst hk 2 (st' := (51, [some (.ref 48), some (.int x1), some (.int x2), some (.int x3), some (.int x4), some (.int x5), none, none], [.int 4, .int x5], h)) rfl ?_
  refine gw_br (c := 4 < x5) (a := (114, [some (.ref 48), some (.int x1), some (.int x2), some (.int x3), some (.int x4), some (.int x5), none, none], [], h)) (b := (54, [some (.ref 48), some (.int x1), some (.int x2), some (.int x3), some (.int x4), some (.int x5), none, none], [], h)) (hk _ _ rfl) rfl ⟨fun z1 => ?_, fun z1 => ?_⟩
  · replace w := w.1 z1
    refine gw_pst hk 2 (st' := (116, [some (.ref 48), some (.int x1), some (.int x2), some (.int x3), some (.int x4), some (.int x5), none, none], [.int 0, .ref 48], h)) rfl ?_
    obtain ⟨fs2, e2⟩ := RL_o hR (r := 48) (ci := 10) rfl
    obtain ⟨l2, hR2⟩ := RL_pI (k := 12) (x := 0) hR rfl e2
    refine gw_pf (hk _ _ rfl) e2 l2 rfl ?_
    generalize gm_put h _ _ = h at hR2 ⊢
    obtain ⟨s_2, es2⟩ : ∃ z, z = gs_V s 48 12 0 := ⟨_, rfl⟩
    rw [← es2] at hR2
    replace w := w s_2 es2
    replace hR := hR2
    refine gw_pst hk 3 (st' := (122, [some (.ref 48), some (.int x1), some (.int x2), some (.int x3), some (.int x4), some (.int x5), none, none], [.long ((x3 : Int32).toInt64), .ref 48], h)) rfl ?_
    obtain ⟨fs3, e3⟩ := RL_o hR (r := 48) (ci := 10) rfl
    refine gw_call (jj := 157) (As := [.ref 48, .long ((x3 : Int32).toInt64)]) (rest := []) (hk _ _ rfl) (fun _ => rfl) rfl rfl (Nat.le_of_ble_eq_true rfl) (gm_rcv_v rfl e3 rfl) ?_
    refine ge_imp (w h hR) (fun v3 h w => ?_)
    obtain ⟨s_3, hR, rfl, w⟩ := w
    show gw (gt_T c.1 c.2.1 c.2.2.1) c.2.2.2 d 238 (125, [some (.ref 48), some (.int x1), some (.int x2), some (.int x3), some (.int x4), some (.int x5), none, none], [], h) _
    refine gw_pst hk 3 (st' := (129, [some (.ref 48), some (.int x1), some (.int x2), some (.int x3), some (.int x4), some (.int x5), none, none], [.long ((x4 : Int32).toInt64), .ref 48], h)) rfl ?_
    obtain ⟨fs4, e4⟩ := RL_o hR (r := 48) (ci := 10) rfl
    refine gw_call (jj := 157) (As := [.ref 48, .long ((x4 : Int32).toInt64)]) (rest := []) (hk _ _ rfl) (fun _ => rfl) rfl rfl (Nat.le_of_ble_eq_true rfl) (gm_rcv_v rfl e4 rfl) ?_
    refine ge_imp (w h hR) (fun v4 h w => ?_)
    obtain ⟨s_4, hR, rfl, w⟩ := w
    show gw (gt_T c.1 c.2.1 c.2.2.1) c.2.2.2 d 238 (132, [some (.ref 48), some (.int x1), some (.int x2), some (.int x3), some (.int x4), some (.int x5), none, none], [], h) _
    refine gw_pst hk 1 (st' := (133, [some (.ref 48), some (.int x1), some (.int x2), some (.int x3), some (.int x4), some (.int x5), none, none], [.int x2], h)) rfl ?_
    exact gw_ret (hk _ _ rfl) rfl ⟨_, hR, w⟩
  · replace w := w.2 z1
    refine gw_pst hk 2 (st' := (57, [some (.ref 48), some (.int x1), some (.int x2), some (.int x3), some (.int x4), some (.int x5), some (.int 0), none], [], h)) rfl ?_
    obtain ⟨n, w⟩ := w
    exact okl238_57 c d Post K48 hK48 n _ _ _ _ _ _ _ w _ hR
def wl238_48 (c : gx) (d : Nat) (Post : Option Value → gs → Prop) : Nat → Int32 → Int32 → Int32 → Int32 → Int32 → gs → Prop
  | 0 => fun _ _ _ _ _ _ => False
  | n + 1 => wb238_48 c d Post (wl238_48 c d Post n)
theorem okl238_48 (c : gx) (d : Nat) (Post : Option Value → gs → Prop) : ∀ (n : Nat) (x1 : Int32) (x2 : Int32) (x3 : Int32) (x4 : Int32) (x5 : Int32) (s : gs), wl238_48 c d Post n x1 x2 x3 x4 x5 s → tV c d 238 48 [some (.ref 48), some (.int x1), some (.int x2), some (.int x3), some (.int x4), some (.int x5), none, none] [] s Post
  | 0, _, _, _, _, _, _, w => w.elim
  | n + 1, x1, x2, x3, x4, x5, s, w => okb238_48 c d Post (wl238_48 c d Post n) (okl238_48 c d Post n) x1 x2 x3 x4 x5 s w
/-- CommandByTurnsModel.command(I)I -/
def wm238 (c : gx) (d : Nat) (Post : Option Value → gs → Prop) (x1 : Int32) (s : gs) : Prop :=
  ∀ s_1 : gs, s_1 = gs_V s 48 13 0 → tE c d 154 [.int x1, .int 1, .int 30] s_1 (fun v2 s_2 => ∃ x_2 : Int32, v2 = some (.int x_2) ∧ ((x_2 = 0 → Post (some (.int (-1))) s_2) ∧ (¬ (x_2 = 0) → vp_in 1 108 ∧ vp_in 2 108 ∧ tE c d 185 [.int (gsA s_2 49 (1 : Int32).toNatClampNeg), .int (gsA s_2 49 (2 : Int32).toNatClampNeg)] s_2 (fun v8 s_8 => ∃ x_8 : Int32, v8 = some (.int x_8) ∧ ((x_8 = 0 → Post (some (.int (-2))) s_8) ∧ (¬ (x_8 = 0) → ∃ n, wl238_48 c d Post n x1 (-1) 0 0 2 s_8))))))
theorem okm238 (c : gx) (d : Nat) (Post : Option Value → gs → Prop) (x1 : Int32) (s : gs) (w : wm238 c d Post x1 s) : tE c (d + 1) 238 [.ref 48, .int x1] s Post := by
  intro h hR
  have hk : ∀ pc i, gm_find gk_238 pc = some i → gm_code (gt_T c.1 c.2.1 c.2.2.1) 238 pc = some i := fun _ _ z => z
  unfold wm238 at w
  refine ge_of (by decide) (Nat.le_of_ble_eq_true rfl) ?_
  show gw (gt_T c.1 c.2.1 c.2.2.1) c.2.2.2 d 238 (0, [some (.ref 48), some (.int x1), none, none, none, none, none, none], [], h) _
  refine gw_pst hk 2 (st' := (2, [some (.ref 48), some (.int x1), none, none, none, none, none, none], [.int 0, .ref 48], h)) rfl ?_
  obtain ⟨fs1, e1⟩ := RL_o hR (r := 48) (ci := 10) rfl
  obtain ⟨l1, hR1⟩ := RL_pI (k := 13) (x := 0) hR rfl e1
  refine gw_pf (hk _ _ rfl) e1 l1 rfl ?_
  generalize gm_put h _ _ = h at hR1 ⊢
  obtain ⟨s_1, es1⟩ : ∃ z, z = gs_V s 48 13 0 := ⟨_, rfl⟩
  rw [← es1] at hR1
  replace w := w s_1 es1
  replace hR := hR1
  refine gw_pst hk 3 (st' := (9, [some (.ref 48), some (.int x1), none, none, none, none, none, none], [.int 30, .int 1, .int x1], h)) rfl ?_
  refine gw_call (jj := 154) (As := [.int x1, .int 1, .int 30]) (rest := []) (hk _ _ rfl) (fun _ => rfl) rfl rfl (Nat.le_of_ble_eq_true rfl) rfl ?_
  refine ge_imp (w h hR) (fun v2 h w => ?_)
  obtain ⟨s_2, hR, x_2, rfl, w⟩ := w
  show gw (gt_T c.1 c.2.1 c.2.2.1) c.2.2.2 d 238 (12, [some (.ref 48), some (.int x1), none, none, none, none, none, none], [.int x_2], h) _
  refine gw_br (c := x_2 = 0) (a := (15, [some (.ref 48), some (.int x1), none, none, none, none, none, none], [], h)) (b := (17, [some (.ref 48), some (.int x1), none, none, none, none, none, none], [], h)) (hk _ _ rfl) rfl ⟨fun z3 => ?_, fun z3 => ?_⟩
  · replace w := w.1 z3
    refine gw_pst hk 1 (st' := (16, [some (.ref 48), some (.int x1), none, none, none, none, none, none], [.int (-1)], h)) rfl ?_
    exact gw_ret (hk _ _ rfl) rfl ⟨_, hR, w⟩
  · replace w := w.2 z3
    refine gw_pst hk 1 (st' := (18, [some (.ref 48), some (.int x1), none, none, none, none, none, none], [.ref 48], h)) rfl ?_
    refine gw_gf (hk _ _ rfl) (RL_fR (n := 49) hR rfl) ?_
    refine gw_pst hk 1 (st' := (22, [some (.ref 48), some (.int x1), none, none, none, none, none, none], [.int 1, .ref 49], h)) rfl ?_
    obtain ⟨b5, w⟩ := w
    refine gw_ald (hk _ _ rfl) (Or.inl ⟨rfl, rfl⟩) (RL_a (t := 0) (n := 108) hR rfl (by decide)) b5 ?_
    refine gw_pst hk 1 (st' := (24, [some (.ref 48), some (.int x1), none, none, none, none, none, none], [.ref 48, .int (gsA s_2 49 (1 : Int32).toNatClampNeg)], h)) rfl ?_
    refine gw_gf (hk _ _ rfl) (RL_fR (n := 49) hR rfl) ?_
    refine gw_pst hk 1 (st' := (28, [some (.ref 48), some (.int x1), none, none, none, none, none, none], [.int 2, .ref 49, .int (gsA s_2 49 (1 : Int32).toNatClampNeg)], h)) rfl ?_
    obtain ⟨b7, w⟩ := w
    refine gw_ald (hk _ _ rfl) (Or.inl ⟨rfl, rfl⟩) (RL_a (t := 0) (n := 108) hR rfl (by decide)) b7 ?_
    refine gw_call (jj := 185) (As := [.int (gsA s_2 49 (1 : Int32).toNatClampNeg), .int (gsA s_2 49 (2 : Int32).toNatClampNeg)]) (rest := []) (hk _ _ rfl) (fun _ => rfl) rfl rfl (Nat.le_of_ble_eq_true rfl) rfl ?_
    refine ge_imp (w h hR) (fun v8 h w => ?_)
    obtain ⟨s_8, hR, x_8, rfl, w⟩ := w
    show gw (gt_T c.1 c.2.1 c.2.2.1) c.2.2.2 d 238 (32, [some (.ref 48), some (.int x1), none, none, none, none, none, none], [.int x_8], h) _
    refine gw_br (c := x_8 = 0) (a := (35, [some (.ref 48), some (.int x1), none, none, none, none, none, none], [], h)) (b := (38, [some (.ref 48), some (.int x1), none, none, none, none, none, none], [], h)) (hk _ _ rfl) rfl ⟨fun z9 => ?_, fun z9 => ?_⟩
    · replace w := w.1 z9
      refine gw_pst hk 1 (st' := (37, [some (.ref 48), some (.int x1), none, none, none, none, none, none], [.int (-2)], h)) rfl ?_
      exact gw_ret (hk _ _ rfl) rfl ⟨_, hR, w⟩
    · replace w := w.2 z9
      refine gw_pst hk 8 (st' := (48, [some (.ref 48), some (.int x1), some (.int (-1)), some (.int 0), some (.int 0), some (.int 2), none, none], [], h)) rfl ?_
      obtain ⟨n, w⟩ := w
      exact okl238_48 c d Post n _ _ _ _ _ _ w _ hR
/-- CommandByTurnsModel.partBy(II)I -/
def wm239 (c : gx) (d : Nat) (Post : Option Value → gs → Prop) (x1 : Int32) (x2 : Int32) (s : gs) : Prop :=
  vp_in 1 108 ∧ vp_in (gsA s 49 (1 : Int32).toNatClampNeg) 12 ∧ vp_in 2 108 ∧ vp_in (gsA s 49 (2 : Int32).toNatClampNeg) 12 ∧ vp_in 4 108 ∧ vp_in 5 108 ∧ vp_in 0 108 ∧ tE c d 181 [.ref 48, .int x1, .int ((gsA s 50 (gsA s 49 (1 : Int32).toNatClampNeg : Int32).toNatClampNeg) - (gsA s 50 (gsA s 49 (2 : Int32).toNatClampNeg : Int32).toNatClampNeg)), .int x2, .int ((gsA s 49 (4 : Int32).toNatClampNeg) / 2), .int (gsA s 49 (5 : Int32).toNatClampNeg), .int (gsA s 49 (0 : Int32).toNatClampNeg), .int 0] s (fun v15 s_15 => ∃ x_15 : Int32, v15 = some (.int x_15) ∧ Post (some (.int x_15)) s_15)
theorem okm239 (c : gx) (d : Nat) (Post : Option Value → gs → Prop) (x1 : Int32) (x2 : Int32) (s : gs) (w : wm239 c d Post x1 x2 s) : tE c (d + 1) 239 [.ref 48, .int x1, .int x2] s Post := by
  intro h hR
  have hk : ∀ pc i, gm_find gk_239 pc = some i → gm_code (gt_T c.1 c.2.1 c.2.2.1) 239 pc = some i := fun _ _ z => z
  unfold wm239 at w
  refine ge_of (by decide) (Nat.le_of_ble_eq_true rfl) ?_
  show gw (gt_T c.1 c.2.1 c.2.2.1) c.2.2.2 d 239 (0, [some (.ref 48), some (.int x1), some (.int x2)], [], h) _
  refine gw_pst hk 3 (st' := (3, [some (.ref 48), some (.int x1), some (.int x2)], [.ref 48, .int x1, .ref 48], h)) rfl ?_
  refine gw_gf (hk _ _ rfl) (RL_fR (n := 50) hR rfl) ?_
  refine gw_pst hk 1 (st' := (7, [some (.ref 48), some (.int x1), some (.int x2)], [.ref 48, .ref 50, .int x1, .ref 48], h)) rfl ?_
  refine gw_gf (hk _ _ rfl) (RL_fR (n := 49) hR rfl) ?_
  refine gw_pst hk 1 (st' := (11, [some (.ref 48), some (.int x1), some (.int x2)], [.int 1, .ref 49, .ref 50, .int x1, .ref 48], h)) rfl ?_
  obtain ⟨b3, w⟩ := w
  refine gw_ald (hk _ _ rfl) (Or.inl ⟨rfl, rfl⟩) (RL_a (t := 0) (n := 108) hR rfl (by decide)) b3 ?_
  obtain ⟨b4, w⟩ := w
  refine gw_ald (hk _ _ rfl) (Or.inl ⟨rfl, rfl⟩) (RL_a (t := 0) (n := 12) hR rfl (by decide)) b4 ?_
  refine gw_pst hk 1 (st' := (14, [some (.ref 48), some (.int x1), some (.int x2)], [.ref 48, .int (gsA s 50 (gsA s 49 (1 : Int32).toNatClampNeg : Int32).toNatClampNeg), .int x1, .ref 48], h)) rfl ?_
  refine gw_gf (hk _ _ rfl) (RL_fR (n := 50) hR rfl) ?_
  refine gw_pst hk 1 (st' := (18, [some (.ref 48), some (.int x1), some (.int x2)], [.ref 48, .ref 50, .int (gsA s 50 (gsA s 49 (1 : Int32).toNatClampNeg : Int32).toNatClampNeg), .int x1, .ref 48], h)) rfl ?_
  refine gw_gf (hk _ _ rfl) (RL_fR (n := 49) hR rfl) ?_
  refine gw_pst hk 1 (st' := (22, [some (.ref 48), some (.int x1), some (.int x2)], [.int 2, .ref 49, .ref 50, .int (gsA s 50 (gsA s 49 (1 : Int32).toNatClampNeg : Int32).toNatClampNeg), .int x1, .ref 48], h)) rfl ?_
  obtain ⟨b7, w⟩ := w
  refine gw_ald (hk _ _ rfl) (Or.inl ⟨rfl, rfl⟩) (RL_a (t := 0) (n := 108) hR rfl (by decide)) b7 ?_
  obtain ⟨b8, w⟩ := w
  refine gw_ald (hk _ _ rfl) (Or.inl ⟨rfl, rfl⟩) (RL_a (t := 0) (n := 12) hR rfl (by decide)) b8 ?_
  refine gw_pst hk 3 (st' := (27, [some (.ref 48), some (.int x1), some (.int x2)], [.ref 48, .int x2, .int ((gsA s 50 (gsA s 49 (1 : Int32).toNatClampNeg : Int32).toNatClampNeg) - (gsA s 50 (gsA s 49 (2 : Int32).toNatClampNeg : Int32).toNatClampNeg)), .int x1, .ref 48], h)) rfl ?_
  refine gw_gf (hk _ _ rfl) (RL_fR (n := 49) hR rfl) ?_
  refine gw_pst hk 1 (st' := (31, [some (.ref 48), some (.int x1), some (.int x2)], [.int 4, .ref 49, .int x2, .int ((gsA s 50 (gsA s 49 (1 : Int32).toNatClampNeg : Int32).toNatClampNeg) - (gsA s 50 (gsA s 49 (2 : Int32).toNatClampNeg : Int32).toNatClampNeg)), .int x1, .ref 48], h)) rfl ?_
  obtain ⟨b10, w⟩ := w
  refine gw_ald (hk _ _ rfl) (Or.inl ⟨rfl, rfl⟩) (RL_a (t := 0) (n := 108) hR rfl (by decide)) b10 ?_
  refine gw_pst hk 1 (st' := (33, [some (.ref 48), some (.int x1), some (.int x2)], [.int 2, .int (gsA s 49 (4 : Int32).toNatClampNeg), .int x2, .int ((gsA s 50 (gsA s 49 (1 : Int32).toNatClampNeg : Int32).toNatClampNeg) - (gsA s 50 (gsA s 49 (2 : Int32).toNatClampNeg : Int32).toNatClampNeg)), .int x1, .ref 48], h)) rfl ?_
  refine gw_idiv (hk _ _ rfl) (by decide) ?_ rfl
  refine gw_pst hk 1 (st' := (35, [some (.ref 48), some (.int x1), some (.int x2)], [.ref 48, .int ((gsA s 49 (4 : Int32).toNatClampNeg) / 2), .int x2, .int ((gsA s 50 (gsA s 49 (1 : Int32).toNatClampNeg : Int32).toNatClampNeg) - (gsA s 50 (gsA s 49 (2 : Int32).toNatClampNeg : Int32).toNatClampNeg)), .int x1, .ref 48], h)) rfl ?_
  refine gw_gf (hk _ _ rfl) (RL_fR (n := 49) hR rfl) ?_
  refine gw_pst hk 1 (st' := (39, [some (.ref 48), some (.int x1), some (.int x2)], [.int 5, .ref 49, .int ((gsA s 49 (4 : Int32).toNatClampNeg) / 2), .int x2, .int ((gsA s 50 (gsA s 49 (1 : Int32).toNatClampNeg : Int32).toNatClampNeg) - (gsA s 50 (gsA s 49 (2 : Int32).toNatClampNeg : Int32).toNatClampNeg)), .int x1, .ref 48], h)) rfl ?_
  obtain ⟨b12, w⟩ := w
  refine gw_ald (hk _ _ rfl) (Or.inl ⟨rfl, rfl⟩) (RL_a (t := 0) (n := 108) hR rfl (by decide)) b12 ?_
  refine gw_pst hk 1 (st' := (41, [some (.ref 48), some (.int x1), some (.int x2)], [.ref 48, .int (gsA s 49 (5 : Int32).toNatClampNeg), .int ((gsA s 49 (4 : Int32).toNatClampNeg) / 2), .int x2, .int ((gsA s 50 (gsA s 49 (1 : Int32).toNatClampNeg : Int32).toNatClampNeg) - (gsA s 50 (gsA s 49 (2 : Int32).toNatClampNeg : Int32).toNatClampNeg)), .int x1, .ref 48], h)) rfl ?_
  refine gw_gf (hk _ _ rfl) (RL_fR (n := 49) hR rfl) ?_
  refine gw_pst hk 1 (st' := (45, [some (.ref 48), some (.int x1), some (.int x2)], [.int 0, .ref 49, .int (gsA s 49 (5 : Int32).toNatClampNeg), .int ((gsA s 49 (4 : Int32).toNatClampNeg) / 2), .int x2, .int ((gsA s 50 (gsA s 49 (1 : Int32).toNatClampNeg : Int32).toNatClampNeg) - (gsA s 50 (gsA s 49 (2 : Int32).toNatClampNeg : Int32).toNatClampNeg)), .int x1, .ref 48], h)) rfl ?_
  obtain ⟨b14, w⟩ := w
  refine gw_ald (hk _ _ rfl) (Or.inl ⟨rfl, rfl⟩) (RL_a (t := 0) (n := 108) hR rfl (by decide)) b14 ?_
  refine gw_pst hk 1 (st' := (47, [some (.ref 48), some (.int x1), some (.int x2)], [.int 0, .int (gsA s 49 (0 : Int32).toNatClampNeg), .int (gsA s 49 (5 : Int32).toNatClampNeg), .int ((gsA s 49 (4 : Int32).toNatClampNeg) / 2), .int x2, .int ((gsA s 50 (gsA s 49 (1 : Int32).toNatClampNeg : Int32).toNatClampNeg) - (gsA s 50 (gsA s 49 (2 : Int32).toNatClampNeg : Int32).toNatClampNeg)), .int x1, .ref 48], h)) rfl ?_
  obtain ⟨fs15, e15⟩ := RL_o hR (r := 48) (ci := 10) rfl
  refine gw_call (jj := 181) (As := [.ref 48, .int x1, .int ((gsA s 50 (gsA s 49 (1 : Int32).toNatClampNeg : Int32).toNatClampNeg) - (gsA s 50 (gsA s 49 (2 : Int32).toNatClampNeg : Int32).toNatClampNeg)), .int x2, .int ((gsA s 49 (4 : Int32).toNatClampNeg) / 2), .int (gsA s 49 (5 : Int32).toNatClampNeg), .int (gsA s 49 (0 : Int32).toNatClampNeg), .int 0]) (rest := []) (hk _ _ rfl) (fun _ => rfl) rfl rfl (Nat.le_of_ble_eq_true rfl) (gm_rcv_v rfl e15 rfl) ?_
  refine ge_imp (w h hR) (fun v15 h w => ?_)
  obtain ⟨s_15, hR, x_15, rfl, w⟩ := w
  show gw (gt_T c.1 c.2.1 c.2.2.1) c.2.2.2 d 239 (50, [some (.ref 48), some (.int x1), some (.int x2)], [.int x_15], h) _
  exact gw_ret (hk _ _ rfl) rfl ⟨_, hR, w⟩
def w240_68 (c : gx) (d : Nat) (Post : Option Value → gs → Prop) (K13 : Int32 → Int32 → Int32 → gs → Prop) (x1 : Int32) (x2 : Int32) (x3 : Int32) (s : gs) : Prop :=
  K13 x1 x2 (x3 + 1) s
theorem ok240_68 (c : gx) (d : Nat) (Post : Option Value → gs → Prop) (K13 : Int32 → Int32 → Int32 → gs → Prop)  (hK13 : ∀ (x1 : Int32) (x2 : Int32) (x3 : Int32) (s : gs), K13 x1 x2 x3 s → tV c d 240 13 [some (.ref 48), some (.int x1), some (.int x2), some (.int x3), none] [] s Post) (x1 : Int32) (x2 : Int32) (x3 : Int32) (s : gs) (w : w240_68 c d Post K13 x1 x2 x3 s) : tV c d 240 68 [some (.ref 48), some (.int x1), some (.int x2), some (.int x3), none] [] s Post := by
  intro h hR
  have hk : ∀ pc i, gm_find gk_240 pc = some i → gm_code (gt_T c.1 c.2.1 c.2.2.1) 240 pc = some i := fun _ _ z => z
  unfold w240_68 at w
  unfold gV
  refine gw_pst hk 2 (st' := (13, [some (.ref 48), some (.int x1), some (.int x2), some (.int (x3 + 1)), none], [], h)) rfl ?_
  exact hK13 _ _ _ _ w _ hR
def wb240_13 (c : gx) (d : Nat) (Post : Option Value → gs → Prop) (K13 : Int32 → Int32 → Int32 → gs → Prop) (x1 : Int32) (x2 : Int32) (x3 : Int32) (s : gs) : Prop :=
  vp_in 3 108 ∧ ((((gsA s 49 (3 : Int32).toNatClampNeg) / 100) < x3 → ∀ s_4 : gs, s_4 = gs_V s 48 12 0 → tE c d 157 [.ref 48, .long ((x2 : Int32).toInt64)] s_4 (fun v5 s_5 => v5 = none ∧ tE c d 239 [.ref 48, .int 0, .int (100 * x1)] s_5 (fun v6 s_6 => ∃ x_6 : Int32, v6 = some (.int x_6) ∧ tE c d 157 [.ref 48, .long ((x_6 : Int32).toInt64)] s_6 (fun v7 s_7 => v7 = none ∧ Post (some (.int x1)) s_7)))) ∧ (¬ (((gsA s 49 (3 : Int32).toNatClampNeg) / 100) < x3) → tE c d 239 [.ref 48, .int 0, .int (100 * x3)] s (fun v8 s_8 => ∃ x_8 : Int32, v8 = some (.int x_8) ∧ vp_in 3 108 ∧ tE c d 239 [.ref 48, .int 1, .int ((gsA s_8 49 (3 : Int32).toNatClampNeg) - (100 * x3))] s_8 (fun v11 s_11 => ∃ x_11 : Int32, v11 = some (.int x_11) ∧ ((x2 < (x_8 + x_11) → w240_68 c d Post K13 x3 (x_8 + x_11) x3 s_11) ∧ (¬ (x2 < (x_8 + x_11)) → w240_68 c d Post K13 x1 x2 x3 s_11))))))
theorem okb240_13 (c : gx) (d : Nat) (Post : Option Value → gs → Prop) (K13 : Int32 → Int32 → Int32 → gs → Prop)  (hK13 : ∀ (x1 : Int32) (x2 : Int32) (x3 : Int32) (s : gs), K13 x1 x2 x3 s → tV c d 240 13 [some (.ref 48), some (.int x1), some (.int x2), some (.int x3), none] [] s Post) (x1 : Int32) (x2 : Int32) (x3 : Int32) (s : gs) (w : wb240_13 c d Post K13 x1 x2 x3 s) : tV c d 240 13 [some (.ref 48), some (.int x1), some (.int x2), some (.int x3), none] [] s Post := by
  intro h hR
  have hk : ∀ pc i, gm_find gk_240 pc = some i → gm_code (gt_T c.1 c.2.1 c.2.2.1) 240 pc = some i := fun _ _ z => z
  unfold wb240_13 at w
  unfold gV
  refine gw_pst hk 2 (st' := (15, [some (.ref 48), some (.int x1), some (.int x2), some (.int x3), none], [.ref 48, .int x3], h)) rfl ?_
  refine gw_gf (hk _ _ rfl) (RL_fR (n := 49) hR rfl) ?_
  refine gw_pst hk 1 (st' := (19, [some (.ref 48), some (.int x1), some (.int x2), some (.int x3), none], [.int 3, .ref 49, .int x3], h)) rfl ?_
  obtain ⟨b2, w⟩ := w
  refine gw_ald (hk _ _ rfl) (Or.inl ⟨rfl, rfl⟩) (RL_a (t := 0) (n := 108) hR rfl (by decide)) b2 ?_
  refine gw_pst hk 1 (st' := (22, [some (.ref 48), some (.int x1), some (.int x2), some (.int x3), none], [.int 100, .int (gsA s 49 (3 : Int32).toNatClampNeg), .int x3], h)) rfl ?_
  refine gw_idiv (hk _ _ rfl) (by decide) ?_ rfl
  refine gw_br (c := ((gsA s 49 (3 : Int32).toNatClampNeg) / 100) < x3) (a := (74, [some (.ref 48), some (.int x1), some (.int x2), some (.int x3), none], [], h)) (b := (26, [some (.ref 48), some (.int x1), some (.int x2), some (.int x3), none], [], h)) (hk _ _ rfl) rfl ⟨fun z3 => ?_, fun z3 => ?_⟩
  · replace w := w.1 z3
    refine gw_pst hk 2 (st' := (76, [some (.ref 48), some (.int x1), some (.int x2), some (.int x3), none], [.int 0, .ref 48], h)) rfl ?_
    obtain ⟨fs4, e4⟩ := RL_o hR (r := 48) (ci := 10) rfl
    obtain ⟨l4, hR4⟩ := RL_pI (k := 12) (x := 0) hR rfl e4
    refine gw_pf (hk _ _ rfl) e4 l4 rfl ?_
    generalize gm_put h _ _ = h at hR4 ⊢
    obtain ⟨s_4, es4⟩ : ∃ z, z = gs_V s 48 12 0 := ⟨_, rfl⟩
    rw [← es4] at hR4
    replace w := w s_4 es4
    replace hR := hR4
    refine gw_pst hk 3 (st' := (82, [some (.ref 48), some (.int x1), some (.int x2), some (.int x3), none], [.long ((x2 : Int32).toInt64), .ref 48], h)) rfl ?_
    obtain ⟨fs5, e5⟩ := RL_o hR (r := 48) (ci := 10) rfl
    refine gw_call (jj := 157) (As := [.ref 48, .long ((x2 : Int32).toInt64)]) (rest := []) (hk _ _ rfl) (fun _ => rfl) rfl rfl (Nat.le_of_ble_eq_true rfl) (gm_rcv_v rfl e5 rfl) ?_
    refine ge_imp (w h hR) (fun v5 h w => ?_)
    obtain ⟨s_5, hR, rfl, w⟩ := w
    show gw (gt_T c.1 c.2.1 c.2.2.1) c.2.2.2 d 240 (85, [some (.ref 48), some (.int x1), some (.int x2), some (.int x3), none], [], h) _
    refine gw_pst hk 6 (st' := (92, [some (.ref 48), some (.int x1), some (.int x2), some (.int x3), none], [.int (100 * x1), .int 0, .ref 48, .ref 48], h)) rfl ?_
    obtain ⟨fs6, e6⟩ := RL_o hR (r := 48) (ci := 10) rfl
    refine gw_call (jj := 239) (As := [.ref 48, .int 0, .int (100 * x1)]) (rest := [.ref 48]) (hk _ _ rfl) (fun _ => rfl) rfl rfl (Nat.le_of_ble_eq_true rfl) (gm_rcv_v rfl e6 rfl) ?_
    refine ge_imp (w h hR) (fun v6 h w => ?_)
    obtain ⟨s_6, hR, x_6, rfl, w⟩ := w
    show gw (gt_T c.1 c.2.1 c.2.2.1) c.2.2.2 d 240 (95, [some (.ref 48), some (.int x1), some (.int x2), some (.int x3), none], [.int x_6, .ref 48], h) _
    refine gw_pst hk 1 (st' := (96, [some (.ref 48), some (.int x1), some (.int x2), some (.int x3), none], [.long ((x_6 : Int32).toInt64), .ref 48], h)) rfl ?_
    obtain ⟨fs7, e7⟩ := RL_o hR (r := 48) (ci := 10) rfl
    refine gw_call (jj := 157) (As := [.ref 48, .long ((x_6 : Int32).toInt64)]) (rest := []) (hk _ _ rfl) (fun _ => rfl) rfl rfl (Nat.le_of_ble_eq_true rfl) (gm_rcv_v rfl e7 rfl) ?_
    refine ge_imp (w h hR) (fun v7 h w => ?_)
    obtain ⟨s_7, hR, rfl, w⟩ := w
    show gw (gt_T c.1 c.2.1 c.2.2.1) c.2.2.2 d 240 (99, [some (.ref 48), some (.int x1), some (.int x2), some (.int x3), none], [], h) _
    refine gw_pst hk 1 (st' := (100, [some (.ref 48), some (.int x1), some (.int x2), some (.int x3), none], [.int x1], h)) rfl ?_
    exact gw_ret (hk _ _ rfl) rfl ⟨_, hR, w⟩
  · replace w := w.2 z3
    refine gw_pst hk 5 (st' := (32, [some (.ref 48), some (.int x1), some (.int x2), some (.int x3), none], [.int (100 * x3), .int 0, .ref 48], h)) rfl ?_
    obtain ⟨fs8, e8⟩ := RL_o hR (r := 48) (ci := 10) rfl
    refine gw_call (jj := 239) (As := [.ref 48, .int 0, .int (100 * x3)]) (rest := []) (hk _ _ rfl) (fun _ => rfl) rfl rfl (Nat.le_of_ble_eq_true rfl) (gm_rcv_v rfl e8 rfl) ?_
    refine ge_imp (w h hR) (fun v8 h w => ?_)
    obtain ⟨s_8, hR, x_8, rfl, w⟩ := w
    show gw (gt_T c.1 c.2.1 c.2.2.1) c.2.2.2 d 240 (35, [some (.ref 48), some (.int x1), some (.int x2), some (.int x3), none], [.int x_8], h) _
    refine gw_pst hk 3 (st' := (38, [some (.ref 48), some (.int x1), some (.int x2), some (.int x3), none], [.ref 48, .int 1, .ref 48, .int x_8], h)) rfl ?_
    refine gw_gf (hk _ _ rfl) (RL_fR (n := 49) hR rfl) ?_
    refine gw_pst hk 1 (st' := (42, [some (.ref 48), some (.int x1), some (.int x2), some (.int x3), none], [.int 3, .ref 49, .int 1, .ref 48, .int x_8], h)) rfl ?_
    obtain ⟨b10, w⟩ := w
    refine gw_ald (hk _ _ rfl) (Or.inl ⟨rfl, rfl⟩) (RL_a (t := 0) (n := 108) hR rfl (by decide)) b10 ?_
    refine gw_pst hk 4 (st' := (48, [some (.ref 48), some (.int x1), some (.int x2), some (.int x3), none], [.int ((gsA s_8 49 (3 : Int32).toNatClampNeg) - (100 * x3)), .int 1, .ref 48, .int x_8], h)) rfl ?_
    obtain ⟨fs11, e11⟩ := RL_o hR (r := 48) (ci := 10) rfl
    refine gw_call (jj := 239) (As := [.ref 48, .int 1, .int ((gsA s_8 49 (3 : Int32).toNatClampNeg) - (100 * x3))]) (rest := [.int x_8]) (hk _ _ rfl) (fun _ => rfl) rfl rfl (Nat.le_of_ble_eq_true rfl) (gm_rcv_v rfl e11 rfl) ?_
    refine ge_imp (w h hR) (fun v11 h w => ?_)
    obtain ⟨s_11, hR, x_11, rfl, w⟩ := w
    show gw (gt_T c.1 c.2.1 c.2.2.1) c.2.2.2 d 240 (51, [some (.ref 48), some (.int x1), some (.int x2), some (.int x3), none], [.int x_11, .int x_8], h) _
    refine gw_pst hk 4 (st' := (57, [some (.ref 48), some (.int x1), some (.int x2), some (.int x3), some (.int (x_8 + x_11))], [.int x2, .int (x_8 + x_11)], h)) rfl ?_
    refine gw_br (c := x2 < (x_8 + x_11)) (a := (63, [some (.ref 48), some (.int x1), some (.int x2), some (.int x3), some (.int (x_8 + x_11))], [], h)) (b := (60, [some (.ref 48), some (.int x1), some (.int x2), some (.int x3), some (.int (x_8 + x_11))], [], h)) (hk _ _ rfl) rfl ⟨fun z12 => ?_, fun z12 => ?_⟩
    · replace w := w.1 z12
      refine gw_pst hk 4 (st' := (68, [some (.ref 48), some (.int x3), some (.int (x_8 + x_11)), some (.int x3), some (.int (x_8 + x_11))], [], h)) rfl ?_
      refine gw_le (L' := [some (.ref 48), some (.int x3), some (.int (x_8 + x_11)), some (.int x3), none]) (gm_le_k _ (gm_le_k _ (gm_le_k _ (gm_le_k _ (gm_le_n _ gm_le_nil))))) ?_
      exact ok240_68 c d Post K13 hK13 _ _ _ _ w _ hR
    · replace w := w.2 z12
      refine gw_pst hk 1 (st' := (68, [some (.ref 48), some (.int x1), some (.int x2), some (.int x3), some (.int (x_8 + x_11))], [], h)) rfl ?_
      refine gw_le (L' := [some (.ref 48), some (.int x1), some (.int x2), some (.int x3), none]) (gm_le_k _ (gm_le_k _ (gm_le_k _ (gm_le_k _ (gm_le_n _ gm_le_nil))))) ?_
      exact ok240_68 c d Post K13 hK13 _ _ _ _ w _ hR
def wl240_13 (c : gx) (d : Nat) (Post : Option Value → gs → Prop) : Nat → Int32 → Int32 → Int32 → gs → Prop
  | 0 => fun _ _ _ _ => False
  | n + 1 => wb240_13 c d Post (wl240_13 c d Post n)
theorem okl240_13 (c : gx) (d : Nat) (Post : Option Value → gs → Prop) : ∀ (n : Nat) (x1 : Int32) (x2 : Int32) (x3 : Int32) (s : gs), wl240_13 c d Post n x1 x2 x3 s → tV c d 240 13 [some (.ref 48), some (.int x1), some (.int x2), some (.int x3), none] [] s Post
  | 0, _, _, _, _, w => w.elim
  | n + 1, x1, x2, x3, s, w => okb240_13 c d Post (wl240_13 c d Post n) (okl240_13 c d Post n) x1 x2 x3 s w
/-- CommandByTurnsModel.halves()I -/
def wm240 (c : gx) (d : Nat) (Post : Option Value → gs → Prop)  (s : gs) : Prop :=
  ∀ s_1 : gs, s_1 = gs_V s 48 13 0 → ∃ n, wl240_13 c d Post n 0 (-1000000) 0 s_1
theorem okm240 (c : gx) (d : Nat) (Post : Option Value → gs → Prop)  (s : gs) (w : wm240 c d Post  s) : tE c (d + 1) 240 [.ref 48] s Post := by
  intro h hR
  have hk : ∀ pc i, gm_find gk_240 pc = some i → gm_code (gt_T c.1 c.2.1 c.2.2.1) 240 pc = some i := fun _ _ z => z
  unfold wm240 at w
  refine ge_of (by decide) (Nat.le_of_ble_eq_true rfl) ?_
  show gw (gt_T c.1 c.2.1 c.2.2.1) c.2.2.2 d 240 (0, [some (.ref 48), none, none, none, none], [], h) _
  refine gw_pst hk 2 (st' := (2, [some (.ref 48), none, none, none, none], [.int 0, .ref 48], h)) rfl ?_
  obtain ⟨fs1, e1⟩ := RL_o hR (r := 48) (ci := 10) rfl
  obtain ⟨l1, hR1⟩ := RL_pI (k := 13) (x := 0) hR rfl e1
  refine gw_pf (hk _ _ rfl) e1 l1 rfl ?_
  generalize gm_put h _ _ = h at hR1 ⊢
  obtain ⟨s_1, es1⟩ : ∃ z, z = gs_V s 48 13 0 := ⟨_, rfl⟩
  rw [← es1] at hR1
  replace w := w s_1 es1
  replace hR := hR1
  refine gw_pst hk 6 (st' := (13, [some (.ref 48), some (.int 0), some (.int (-1000000)), some (.int 0), none], [], h)) rfl ?_
  obtain ⟨n, w⟩ := w
  exact okl240_13 c d Post n _ _ _ _ w _ hR
