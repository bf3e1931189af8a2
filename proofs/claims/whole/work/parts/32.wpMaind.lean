/-! What must hold for a run to end with Post: by program (wip/whole/gen_wp.py). -/
def w131_84 (c : gx) (d : Nat) (Post : Option Value → gs → Prop) (K33 : Int32 → Int32 → Int32 → Int32 → Int32 → Int32 → gs → Prop) (x1 : Int32) (x2 : Int32) (x3 : Int32) (x4 : Int32) (x5 : Int32) (x6 : Int32) (s : gs) : Prop :=
  K33 x1 x2 x3 x4 x5 (x6 + 1) s
theorem ok131_84 (c : gx) (d : Nat) (Post : Option Value → gs → Prop) (K33 : Int32 → Int32 → Int32 → Int32 → Int32 → Int32 → gs → Prop)  (hK33 : ∀ (x1 : Int32) (x2 : Int32) (x3 : Int32) (x4 : Int32) (x5 : Int32) (x6 : Int32) (s : gs), K33 x1 x2 x3 x4 x5 x6 s → tV c d 131 33 [some (.ref 0), some (.int x1), some (.int x2), some (.int x3), some (.int x4), some (.int x5), some (.int x6), none, none] [] s Post) (x1 : Int32) (x2 : Int32) (x3 : Int32) (x4 : Int32) (x5 : Int32) (x6 : Int32) (s : gs) (w : w131_84 c d Post K33 x1 x2 x3 x4 x5 x6 s) : tV c d 131 84 [some (.ref 0), some (.int x1), some (.int x2), some (.int x3), some (.int x4), some (.int x5), some (.int x6), none, none] [] s Post := by
  intro h hR
  have hk : ∀ pc i, gm_find gk_131 pc = some i → gm_code (gt_T c.1 c.2.1 c.2.2.1) 131 pc = some i := fun _ _ z => z
  unfold w131_84 at w
  unfold gV
  refine gw_pst hk 2 (st' := (33, [some (.ref 0), some (.int x1), some (.int x2), some (.int x3), some (.int x4), some (.int x5), some (.int (x6 + 1)), none, none], [], h)) rfl ?_
  exact hK33 _ _ _ _ _ _ _ w _ hR
def w131_76 (c : gx) (d : Nat) (Post : Option Value → gs → Prop) (K33 : Int32 → Int32 → Int32 → Int32 → Int32 → Int32 → gs → Prop) (x1 : Int32) (x2 : Int32) (x3 : Int32) (x6 : Int32) (x8 : Int32) (s : gs) : Prop :=
  w131_84 c d Post K33 x1 x2 x3 x6 x8 x6 s
theorem ok131_76 (c : gx) (d : Nat) (Post : Option Value → gs → Prop) (K33 : Int32 → Int32 → Int32 → Int32 → Int32 → Int32 → gs → Prop)  (hK33 : ∀ (x1 : Int32) (x2 : Int32) (x3 : Int32) (x4 : Int32) (x5 : Int32) (x6 : Int32) (s : gs), K33 x1 x2 x3 x4 x5 x6 s → tV c d 131 33 [some (.ref 0), some (.int x1), some (.int x2), some (.int x3), some (.int x4), some (.int x5), some (.int x6), none, none] [] s Post) (x1 : Int32) (x2 : Int32) (x3 : Int32) (x6 : Int32) (x8 : Int32) (s : gs) (w : w131_76 c d Post K33 x1 x2 x3 x6 x8 s) : tV c d 131 76 [some (.ref 0), some (.int x1), some (.int x2), some (.int x3), none, none, some (.int x6), none, some (.int x8)] [] s Post := by
  intro h hR
  have hk : ∀ pc i, gm_find gk_131 pc = some i → gm_code (gt_T c.1 c.2.1 c.2.2.1) 131 pc = some i := fun _ _ z => z
  unfold w131_76 at w
  unfold gV
  refine gw_pst hk 4 (st' := (84, [some (.ref 0), some (.int x1), some (.int x2), some (.int x3), some (.int x6), some (.int x8), some (.int x6), none, some (.int x8)], [], h)) rfl ?_
  refine gw_le (L' := [some (.ref 0), some (.int x1), some (.int x2), some (.int x3), some (.int x6), some (.int x8), some (.int x6), none, none]) (gm_le_k _ (gm_le_k _ (gm_le_k _ (gm_le_k _ (gm_le_k _ (gm_le_k _ (gm_le_k _ (gm_le_k _ (gm_le_n _ gm_le_nil))))))))) ?_
  exact ok131_84 c d Post K33 hK33 _ _ _ _ _ _ _ w _ hR
def wb131_33 (c : gx) (d : Nat) (Post : Option Value → gs → Prop) (K33 : Int32 → Int32 → Int32 → Int32 → Int32 → Int32 → gs → Prop) (x1 : Int32) (x2 : Int32) (x3 : Int32) (x4 : Int32) (x5 : Int32) (x6 : Int32) (s : gs) : Prop :=
  ((x1 ≤ x6 → tE c d 45 [.ref 34, .long ((x5 : Int32).toInt64)] s (fun v3 s_3 => v3 = none ∧ Post (some (.int x4)) s_3)) ∧ (¬ (x1 ≤ x6) → tE c d 35 [.ref 41, .int x1, .int x2, .int x6] s (fun v5 s_5 => ∃ x_5 : Int32, v5 = some (.int x_5) ∧ ((x4 = (-1) → w131_76 c d Post K33 x1 x2 x3 x6 (if x_5 < (x3 - x_5) then (x3 - x_5) else x_5) s_5) ∧ (¬ (x4 = (-1)) → ((x5 ≤ (if x_5 < (x3 - x_5) then (x3 - x_5) else x_5) → w131_84 c d Post K33 x1 x2 x3 x4 x5 x6 s_5) ∧ (¬ (x5 ≤ (if x_5 < (x3 - x_5) then (x3 - x_5) else x_5)) → w131_76 c d Post K33 x1 x2 x3 x6 (if x_5 < (x3 - x_5) then (x3 - x_5) else x_5) s_5)))))))
theorem okb131_33 (c : gx) (d : Nat) (Post : Option Value → gs → Prop) (K33 : Int32 → Int32 → Int32 → Int32 → Int32 → Int32 → gs → Prop)  (hK33 : ∀ (x1 : Int32) (x2 : Int32) (x3 : Int32) (x4 : Int32) (x5 : Int32) (x6 : Int32) (s : gs), K33 x1 x2 x3 x4 x5 x6 s → tV c d 131 33 [some (.ref 0), some (.int x1), some (.int x2), some (.int x3), some (.int x4), some (.int x5), some (.int x6), none, none] [] s Post) (x1 : Int32) (x2 : Int32) (x3 : Int32) (x4 : Int32) (x5 : Int32) (x6 : Int32) (s : gs) (w : wb131_33 c d Post K33 x1 x2 x3 x4 x5 x6 s) : tV c d 131 33 [some (.ref 0), some (.int x1), some (.int x2), some (.int x3), some (.int x4), some (.int x5), some (.int x6), none, none] [] s Post := by
  intro h hR
  have hk : ∀ pc i, gm_find gk_131 pc = some i → gm_code (gt_T c.1 c.2.1 c.2.2.1) 131 pc = some i := fun _ _ z => z
  unfold wb131_33 at w
  unfold gV
  refine gw_pst hk 2 (st' := (36, [some (.ref 0), some (.int x1), some (.int x2), some (.int x3), some (.int x4), some (.int x5), some (.int x6), none, none], [.int x1, .int x6], h)) rfl ?_
  refine gw_br (c := x1 ≤ x6) (a := (90, [some (.ref 0), some (.int x1), some (.int x2), some (.int x3), some (.int x4), some (.int x5), some (.int x6), none, none], [], h)) (b := (39, [some (.ref 0), some (.int x1), some (.int x2), some (.int x3), some (.int x4), some (.int x5), some (.int x6), none, none], [], h)) (hk _ _ rfl) rfl ⟨fun z1 => ?_, fun z1 => ?_⟩
  · replace w := w.1 z1
    refine gw_pst hk 1 (st' := (91, [some (.ref 0), some (.int x1), some (.int x2), some (.int x3), some (.int x4), some (.int x5), some (.int x6), none, none], [.ref 0], h)) rfl ?_
    refine gw_gf (hk _ _ rfl) (RL_fR (n := 34) hR rfl) ?_
    refine gw_pst hk 2 (st' := (97, [some (.ref 0), some (.int x1), some (.int x2), some (.int x3), some (.int x4), some (.int x5), some (.int x6), none, none], [.long ((x5 : Int32).toInt64), .ref 34], h)) rfl ?_
    obtain ⟨fs3, e3⟩ := RL_o hR (r := 34) (ci := 5) rfl
    refine gw_call (jj := 45) (As := [.ref 34, .long ((x5 : Int32).toInt64)]) (rest := []) (hk _ _ rfl) (fun _ => rfl) rfl rfl (Nat.le_of_ble_eq_true rfl) (gm_rcv_v rfl e3 rfl) ?_
    refine ge_imp (w h hR) (fun v3 h w => ?_)
    obtain ⟨s_3, hR, rfl, w⟩ := w
    show gw (gt_T c.1 c.2.1 c.2.2.1) c.2.2.2 d 131 (100, [some (.ref 0), some (.int x1), some (.int x2), some (.int x3), some (.int x4), some (.int x5), some (.int x6), none, none], [], h) _
    refine gw_pst hk 1 (st' := (102, [some (.ref 0), some (.int x1), some (.int x2), some (.int x3), some (.int x4), some (.int x5), some (.int x6), none, none], [.int x4], h)) rfl ?_
    exact gw_ret (hk _ _ rfl) rfl ⟨_, hR, w⟩
  · replace w := w.2 z1
    refine gw_pst hk 1 (st' := (40, [some (.ref 0), some (.int x1), some (.int x2), some (.int x3), some (.int x4), some (.int x5), some (.int x6), none, none], [.ref 0], h)) rfl ?_
    refine gw_gf (hk _ _ rfl) (RL_fR (n := 41) hR rfl) ?_
    refine gw_pst hk 3 (st' := (47, [some (.ref 0), some (.int x1), some (.int x2), some (.int x3), some (.int x4), some (.int x5), some (.int x6), none, none], [.int x6, .int x2, .int x1, .ref 41], h)) rfl ?_
    obtain ⟨fs5, e5⟩ := RL_o hR (r := 41) (ci := 3) rfl
    refine gw_call (jj := 35) (As := [.ref 41, .int x1, .int x2, .int x6]) (rest := []) (hk _ _ rfl) (fun _ => rfl) rfl rfl (Nat.le_of_ble_eq_true rfl) (gm_rcv_v rfl e5 rfl) ?_
    refine ge_imp (w h hR) (fun v5 h w => ?_)
    obtain ⟨s_5, hR, x_5, rfl, w⟩ := w
    show gw (gt_T c.1 c.2.1 c.2.2.1) c.2.2.2 d 131 (50, [some (.ref 0), some (.int x1), some (.int x2), some (.int x3), some (.int x4), some (.int x5), some (.int x6), none, none], [.int x_5], h) _
    refine gw_pst hk 9 (st' := (66, [some (.ref 0), some (.int x1), some (.int x2), some (.int x3), some (.int x4), some (.int x5), some (.int x6), some (.int x_5), some (.int (if x_5 < (x3 - x_5) then (x3 - x_5) else x_5))], [.int (-1), .int x4], h)) rfl ?_
    refine gw_br (c := x4 = (-1)) (a := (76, [some (.ref 0), some (.int x1), some (.int x2), some (.int x3), some (.int x4), some (.int x5), some (.int x6), some (.int x_5), some (.int (if x_5 < (x3 - x_5) then (x3 - x_5) else x_5))], [], h)) (b := (69, [some (.ref 0), some (.int x1), some (.int x2), some (.int x3), some (.int x4), some (.int x5), some (.int x6), some (.int x_5), some (.int (if x_5 < (x3 - x_5) then (x3 - x_5) else x_5))], [], h)) (hk _ _ rfl) rfl ⟨fun z6 => ?_, fun z6 => ?_⟩
    · replace w := w.1 z6
      refine gw_le (L' := [some (.ref 0), some (.int x1), some (.int x2), some (.int x3), none, none, some (.int x6), none, some (.int (if x_5 < (x3 - x_5) then (x3 - x_5) else x_5))]) (gm_le_k _ (gm_le_k _ (gm_le_k _ (gm_le_k _ (gm_le_n _ (gm_le_n _ (gm_le_k _ (gm_le_n _ (gm_le_k _ gm_le_nil))))))))) ?_
      exact ok131_76 c d Post K33 hK33 _ _ _ _ _ _ w _ hR
    · replace w := w.2 z6
      refine gw_pst hk 2 (st' := (73, [some (.ref 0), some (.int x1), some (.int x2), some (.int x3), some (.int x4), some (.int x5), some (.int x6), some (.int x_5), some (.int (if x_5 < (x3 - x_5) then (x3 - x_5) else x_5))], [.int x5, .int (if x_5 < (x3 - x_5) then (x3 - x_5) else x_5)], h)) rfl ?_
      refine gw_br (c := x5 ≤ (if x_5 < (x3 - x_5) then (x3 - x_5) else x_5)) (a := (84, [some (.ref 0), some (.int x1), some (.int x2), some (.int x3), some (.int x4), some (.int x5), some (.int x6), some (.int x_5), some (.int (if x_5 < (x3 - x_5) then (x3 - x_5) else x_5))], [], h)) (b := (76, [some (.ref 0), some (.int x1), some (.int x2), some (.int x3), some (.int x4), some (.int x5), some (.int x6), some (.int x_5), some (.int (if x_5 < (x3 - x_5) then (x3 - x_5) else x_5))], [], h)) (hk _ _ rfl) rfl ⟨fun z7 => ?_, fun z7 => ?_⟩
      · replace w := w.1 z7
        refine gw_le (L' := [some (.ref 0), some (.int x1), some (.int x2), some (.int x3), some (.int x4), some (.int x5), some (.int x6), none, none]) (gm_le_k _ (gm_le_k _ (gm_le_k _ (gm_le_k _ (gm_le_k _ (gm_le_k _ (gm_le_k _ (gm_le_n _ (gm_le_n _ gm_le_nil))))))))) ?_
        exact ok131_84 c d Post K33 hK33 _ _ _ _ _ _ _ w _ hR
      · replace w := w.2 z7
        refine gw_le (L' := [some (.ref 0), some (.int x1), some (.int x2), some (.int x3), none, none, some (.int x6), none, some (.int (if x_5 < (x3 - x_5) then (x3 - x_5) else x_5))]) (gm_le_k _ (gm_le_k _ (gm_le_k _ (gm_le_k _ (gm_le_n _ (gm_le_n _ (gm_le_k _ (gm_le_n _ (gm_le_k _ gm_le_nil))))))))) ?_
        exact ok131_76 c d Post K33 hK33 _ _ _ _ _ _ w _ hR
def wl131_33 (c : gx) (d : Nat) (Post : Option Value → gs → Prop) : Nat → Int32 → Int32 → Int32 → Int32 → Int32 → Int32 → gs → Prop
  | 0 => fun _ _ _ _ _ _ _ => False
  | n + 1 => wb131_33 c d Post (wl131_33 c d Post n)
theorem okl131_33 (c : gx) (d : Nat) (Post : Option Value → gs → Prop) : ∀ (n : Nat) (x1 : Int32) (x2 : Int32) (x3 : Int32) (x4 : Int32) (x5 : Int32) (x6 : Int32) (s : gs), wl131_33 c d Post n x1 x2 x3 x4 x5 x6 s → tV c d 131 33 [some (.ref 0), some (.int x1), some (.int x2), some (.int x3), some (.int x4), some (.int x5), some (.int x6), none, none] [] s Post
  | 0, _, _, _, _, _, _, _, w => w.elim
  | n + 1, x1, x2, x3, x4, x5, x6, s, w => okb131_33 c d Post (wl131_33 c d Post n) (okl131_33 c d Post n) x1 x2 x3 x4 x5 x6 s w
/-- CommandByTurns.ask(II)I -/
def wm131 (c : gx) (d : Nat) (Post : Option Value → gs → Prop) (x1 : Int32) (x2 : Int32) (s : gs) : Prop :=
  tE c d 132 [.int x1, .int x2] s (fun v1 s_1 => ∃ x_1 : Int32, v1 = some (.int x_1) ∧ ((x_1 = 0 → Post (some (.int (-1))) s_1) ∧ (¬ (x_1 = 0) → tE c d 133 [.ref 0, .int x1, .int x2] s_1 (fun v3 s_3 => ∃ x_3 : Int32, v3 = some (.int x_3) ∧ ((x_3 = 0 → Post (some (.int (-2))) s_3) ∧ (¬ (x_3 = 0) → ∃ n, wl131_33 c d Post n x1 x2 x_3 (-1) 0 0 s_3))))))
theorem okm131 (c : gx) (d : Nat) (Post : Option Value → gs → Prop) (x1 : Int32) (x2 : Int32) (s : gs) (w : wm131 c d Post x1 x2 s) : tE c (d + 1) 131 [.ref 0, .int x1, .int x2] s Post := by
  intro h hR
  have hk : ∀ pc i, gm_find gk_131 pc = some i → gm_code (gt_T c.1 c.2.1 c.2.2.1) 131 pc = some i := fun _ _ z => z
  unfold wm131 at w
  refine ge_of (by decide) (Nat.le_of_ble_eq_true rfl) ?_
  show gw (gt_T c.1 c.2.1 c.2.2.1) c.2.2.2 d 131 (0, [some (.ref 0), some (.int x1), some (.int x2), none, none, none, none, none, none], [], h) _
  refine gw_pst hk 2 (st' := (2, [some (.ref 0), some (.int x1), some (.int x2), none, none, none, none, none, none], [.int x2, .int x1], h)) rfl ?_
  refine gw_call (jj := 132) (As := [.int x1, .int x2]) (rest := []) (hk _ _ rfl) (fun _ => rfl) rfl rfl (Nat.le_of_ble_eq_true rfl) rfl ?_
  refine ge_imp (w h hR) (fun v1 h w => ?_)
  obtain ⟨s_1, hR, x_1, rfl, w⟩ := w
  show gw (gt_T c.1 c.2.1 c.2.2.1) c.2.2.2 d 131 (5, [some (.ref 0), some (.int x1), some (.int x2), none, none, none, none, none, none], [.int x_1], h) _
  refine gw_br (c := x_1 = 0) (a := (8, [some (.ref 0), some (.int x1), some (.int x2), none, none, none, none, none, none], [], h)) (b := (10, [some (.ref 0), some (.int x1), some (.int x2), none, none, none, none, none, none], [], h)) (hk _ _ rfl) rfl ⟨fun z2 => ?_, fun z2 => ?_⟩
  · replace w := w.1 z2
    refine gw_pst hk 1 (st' := (9, [some (.ref 0), some (.int x1), some (.int x2), none, none, none, none, none, none], [.int (-1)], h)) rfl ?_
    exact gw_ret (hk _ _ rfl) rfl ⟨_, hR, w⟩
  · replace w := w.2 z2
    refine gw_pst hk 3 (st' := (13, [some (.ref 0), some (.int x1), some (.int x2), none, none, none, none, none, none], [.int x2, .int x1, .ref 0], h)) rfl ?_
    obtain ⟨fs3, e3⟩ := RL_o hR (r := 0) (ci := 9) rfl
    refine gw_call (jj := 133) (As := [.ref 0, .int x1, .int x2]) (rest := []) (hk _ _ rfl) (fun _ => rfl) rfl rfl (Nat.le_of_ble_eq_true rfl) (gm_rcv_v rfl e3 rfl) ?_
    refine ge_imp (w h hR) (fun v3 h w => ?_)
    obtain ⟨s_3, hR, x_3, rfl, w⟩ := w
    show gw (gt_T c.1 c.2.1 c.2.2.1) c.2.2.2 d 131 (16, [some (.ref 0), some (.int x1), some (.int x2), none, none, none, none, none, none], [.int x_3], h) _
    refine gw_pst hk 2 (st' := (18, [some (.ref 0), some (.int x1), some (.int x2), some (.int x_3), none, none, none, none, none], [.int x_3], h)) rfl ?_
    refine gw_br (c := x_3 = 0) (a := (21, [some (.ref 0), some (.int x1), some (.int x2), some (.int x_3), none, none, none, none, none], [], h)) (b := (24, [some (.ref 0), some (.int x1), some (.int x2), some (.int x_3), none, none, none, none, none], [], h)) (hk _ _ rfl) rfl ⟨fun z4 => ?_, fun z4 => ?_⟩
    · replace w := w.1 z4
      refine gw_pst hk 1 (st' := (23, [some (.ref 0), some (.int x1), some (.int x2), some (.int x_3), none, none, none, none, none], [.int (-2)], h)) rfl ?_
      exact gw_ret (hk _ _ rfl) rfl ⟨_, hR, w⟩
    · replace w := w.2 z4
      refine gw_pst hk 6 (st' := (33, [some (.ref 0), some (.int x1), some (.int x2), some (.int x_3), some (.int (-1)), some (.int 0), some (.int 0), none, none], [], h)) rfl ?_
      obtain ⟨n, w⟩ := w
      exact okl131_33 c d Post n _ _ _ _ _ _ _ w _ hR
def w132_26 (c : gx) (d : Nat) (Post : Option Value → gs → Prop) (xs0 : Int32) (s : gs) : Prop :=
  ((xs0 = 0 ∨ xs0 = 1) ∧ Post (some (.int xs0)) s)
theorem ok132_26 (c : gx) (d : Nat) (Post : Option Value → gs → Prop)  (xs0 : Int32) (s : gs) (w : w132_26 c d Post xs0 s) : tV c d 132 26 [none, none] [.int xs0] s Post := by
  intro h hR
  have hk : ∀ pc i, gm_find gk_132 pc = some i → gm_code (gt_T c.1 c.2.1 c.2.2.1) 132 pc = some i := fun _ _ z => z
  unfold w132_26 at w
  unfold gV
  exact gw_retZ (hk _ _ rfl) rfl w.1 ⟨_, hR, w.2⟩
def w132_25 (c : gx) (d : Nat) (Post : Option Value → gs → Prop)  (s : gs) : Prop :=
  w132_26 c d Post 0 s
theorem ok132_25 (c : gx) (d : Nat) (Post : Option Value → gs → Prop)   (s : gs) (w : w132_25 c d Post  s) : tV c d 132 25 [none, none] [] s Post := by
  intro h hR
  have hk : ∀ pc i, gm_find gk_132 pc = some i → gm_code (gt_T c.1 c.2.1 c.2.2.1) 132 pc = some i := fun _ _ z => z
  unfold w132_25 at w
  unfold gV
  refine gw_pst hk 1 (st' := (26, [none, none], [.int 0], h)) rfl ?_
  exact ok132_26 c d Post _ _ w _ hR
/-- CommandByTurns.isOldWar(II)Z -/
def wm132 (c : gx) (d : Nat) (Post : Option Value → gs → Prop) (x0 : Int32) (x1 : Int32) (s : gs) : Prop :=
  ((x0 < 1 → w132_25 c d Post s) ∧ (¬ (x0 < 1) → ((20 < x0 → w132_25 c d Post s) ∧ (¬ (20 < x0) → ((x1 < 1 → w132_25 c d Post s) ∧ (¬ (x1 < 1) → ((3 < x1 → w132_25 c d Post s) ∧ (¬ (3 < x1) → w132_26 c d Post 1 s))))))))
theorem okm132 (c : gx) (d : Nat) (Post : Option Value → gs → Prop) (x0 : Int32) (x1 : Int32) (s : gs) (w : wm132 c d Post x0 x1 s) : tE c (d + 1) 132 [.int x0, .int x1] s Post := by
  intro h hR
  have hk : ∀ pc i, gm_find gk_132 pc = some i → gm_code (gt_T c.1 c.2.1 c.2.2.1) 132 pc = some i := fun _ _ z => z
  unfold wm132 at w
  refine ge_of (by decide) (Nat.le_of_ble_eq_true rfl) ?_
  show gw (gt_T c.1 c.2.1 c.2.2.1) c.2.2.2 d 132 (0, [some (.int x0), some (.int x1)], [], h) _
  refine gw_pst hk 2 (st' := (2, [some (.int x0), some (.int x1)], [.int 1, .int x0], h)) rfl ?_
  refine gw_br (c := x0 < 1) (a := (25, [some (.int x0), some (.int x1)], [], h)) (b := (5, [some (.int x0), some (.int x1)], [], h)) (hk _ _ rfl) rfl ⟨fun z1 => ?_, fun z1 => ?_⟩
  · replace w := w.1 z1
    refine gw_le (L' := [none, none]) (gm_le_n _ (gm_le_n _ gm_le_nil)) ?_
    exact ok132_25 c d Post _ w _ hR
  · replace w := w.2 z1
    refine gw_pst hk 2 (st' := (8, [some (.int x0), some (.int x1)], [.int 20, .int x0], h)) rfl ?_
    refine gw_br (c := 20 < x0) (a := (25, [some (.int x0), some (.int x1)], [], h)) (b := (11, [some (.int x0), some (.int x1)], [], h)) (hk _ _ rfl) rfl ⟨fun z2 => ?_, fun z2 => ?_⟩
    · replace w := w.1 z2
      refine gw_le (L' := [none, none]) (gm_le_n _ (gm_le_n _ gm_le_nil)) ?_
      exact ok132_25 c d Post _ w _ hR
    · replace w := w.2 z2
      refine gw_pst hk 2 (st' := (13, [some (.int x0), some (.int x1)], [.int 1, .int x1], h)) rfl ?_
      refine gw_br (c := x1 < 1) (a := (25, [some (.int x0), some (.int x1)], [], h)) (b := (16, [some (.int x0), some (.int x1)], [], h)) (hk _ _ rfl) rfl ⟨fun z3 => ?_, fun z3 => ?_⟩
      · replace w := w.1 z3
        refine gw_le (L' := [none, none]) (gm_le_n _ (gm_le_n _ gm_le_nil)) ?_
        exact ok132_25 c d Post _ w _ hR
      · replace w := w.2 z3
        refine gw_pst hk 2 (st' := (18, [some (.int x0), some (.int x1)], [.int 3, .int x1], h)) rfl ?_
        refine gw_br (c := 3 < x1) (a := (25, [some (.int x0), some (.int x1)], [], h)) (b := (21, [some (.int x0), some (.int x1)], [], h)) (hk _ _ rfl) rfl ⟨fun z4 => ?_, fun z4 => ?_⟩
        · replace w := w.1 z4
          refine gw_le (L' := [none, none]) (gm_le_n _ (gm_le_n _ gm_le_nil)) ?_
          exact ok132_25 c d Post _ w _ hR
        · replace w := w.2 z4
          refine gw_pst hk 2 (st' := (26, [some (.int x0), some (.int x1)], [.int 1], h)) rfl ?_
          refine gw_le (L' := [none, none]) (gm_le_n _ (gm_le_n _ gm_le_nil)) ?_
          exact ok132_26 c d Post _ _ w _ hR
/-- CommandByTurns.waysThatFit(II)I -/
def wm133 (c : gx) (d : Nat) (Post : Option Value → gs → Prop) (x1 : Int32) (x2 : Int32) (s : gs) : Prop :=
  tE c d 31 [.ref 10] s (fun v3 s_3 => ∃ x_3 : Int32, v3 = some (.int x_3) ∧ tE c d 31 [.ref 12] s_3 (fun v5 s_5 => ∃ x_5 : Int32, v5 = some (.int x_5) ∧ tE c d 34 [.ref 41, .int x_3, .int x_5] s_5 (fun v6 s_6 => v6 = none ∧ tE c d 36 [.ref 41, .int x1, .int x2] s_6 (fun v8 s_8 => ∃ x_8 : Int32, v8 = some (.int x_8) ∧ Post (some (.int x_8)) s_8))))
theorem okm133 (c : gx) (d : Nat) (Post : Option Value → gs → Prop) (x1 : Int32) (x2 : Int32) (s : gs) (w : wm133 c d Post x1 x2 s) : tE c (d + 1) 133 [.ref 0, .int x1, .int x2] s Post := by
  intro h hR
  have hk : ∀ pc i, gm_find gk_133 pc = some i → gm_code (gt_T c.1 c.2.1 c.2.2.1) 133 pc = some i := fun _ _ z => z
  unfold wm133 at w
  refine ge_of (by decide) (Nat.le_of_ble_eq_true rfl) ?_
  show gw (gt_T c.1 c.2.1 c.2.2.1) c.2.2.2 d 133 (0, [some (.ref 0), some (.int x1), some (.int x2)], [], h) _
  refine gw_pst hk 1 (st' := (1, [some (.ref 0), some (.int x1), some (.int x2)], [.ref 0], h)) rfl ?_
  refine gw_gf (hk _ _ rfl) (RL_fR (n := 41) hR rfl) ?_
  refine gw_pst hk 1 (st' := (5, [some (.ref 0), some (.int x1), some (.int x2)], [.ref 0, .ref 41], h)) rfl ?_
  refine gw_gf (hk _ _ rfl) (RL_fR (n := 10) hR rfl) ?_
  obtain ⟨fs3, e3⟩ := RL_o hR (r := 10) (ci := 2) rfl
  refine gw_call (jj := 31) (As := [.ref 10]) (rest := [.ref 41]) (hk _ _ rfl) (fun _ => rfl) rfl rfl (Nat.le_of_ble_eq_true rfl) (gm_rcv_v rfl e3 rfl) ?_
  refine ge_imp (w h hR) (fun v3 h w => ?_)
  obtain ⟨s_3, hR, x_3, rfl, w⟩ := w
  show gw (gt_T c.1 c.2.1 c.2.2.1) c.2.2.2 d 133 (11, [some (.ref 0), some (.int x1), some (.int x2)], [.int x_3, .ref 41], h) _
  refine gw_pst hk 1 (st' := (12, [some (.ref 0), some (.int x1), some (.int x2)], [.ref 0, .int x_3, .ref 41], h)) rfl ?_
  refine gw_gf (hk _ _ rfl) (RL_fR (n := 12) hR rfl) ?_
  obtain ⟨fs5, e5⟩ := RL_o hR (r := 12) (ci := 2) rfl
  refine gw_call (jj := 31) (As := [.ref 12]) (rest := [.int x_3, .ref 41]) (hk _ _ rfl) (fun _ => rfl) rfl rfl (Nat.le_of_ble_eq_true rfl) (gm_rcv_v rfl e5 rfl) ?_
  refine ge_imp (w h hR) (fun v5 h w => ?_)
  obtain ⟨s_5, hR, x_5, rfl, w⟩ := w
  show gw (gt_T c.1 c.2.1 c.2.2.1) c.2.2.2 d 133 (18, [some (.ref 0), some (.int x1), some (.int x2)], [.int x_5, .int x_3, .ref 41], h) _
  obtain ⟨fs6, e6⟩ := RL_o hR (r := 41) (ci := 3) rfl
  refine gw_call (jj := 34) (As := [.ref 41, .int x_3, .int x_5]) (rest := []) (hk _ _ rfl) (fun _ => rfl) rfl rfl (Nat.le_of_ble_eq_true rfl) (gm_rcv_v rfl e6 rfl) ?_
  refine ge_imp (w h hR) (fun v6 h w => ?_)
  obtain ⟨s_6, hR, rfl, w⟩ := w
  show gw (gt_T c.1 c.2.1 c.2.2.1) c.2.2.2 d 133 (21, [some (.ref 0), some (.int x1), some (.int x2)], [], h) _
  refine gw_pst hk 1 (st' := (22, [some (.ref 0), some (.int x1), some (.int x2)], [.ref 0], h)) rfl ?_
  refine gw_gf (hk _ _ rfl) (RL_fR (n := 41) hR rfl) ?_
  refine gw_pst hk 2 (st' := (27, [some (.ref 0), some (.int x1), some (.int x2)], [.int x2, .int x1, .ref 41], h)) rfl ?_
  obtain ⟨fs8, e8⟩ := RL_o hR (r := 41) (ci := 3) rfl
  refine gw_call (jj := 36) (As := [.ref 41, .int x1, .int x2]) (rest := []) (hk _ _ rfl) (fun _ => rfl) rfl rfl (Nat.le_of_ble_eq_true rfl) (gm_rcv_v rfl e8 rfl) ?_
  refine ge_imp (w h hR) (fun v8 h w => ?_)
  obtain ⟨s_8, hR, x_8, rfl, w⟩ := w
  show gw (gt_T c.1 c.2.1 c.2.2.1) c.2.2.2 d 133 (30, [some (.ref 0), some (.int x1), some (.int x2)], [.int x_8], h) _
  exact gw_ret (hk _ _ rfl) rfl ⟨_, hR, w⟩
def w134_20 (c : gx) (d : Nat) (Post : Option Value → gs → Prop)  (s : gs) : Prop :=
  Post (some (.int (-1))) s
theorem ok134_20 (c : gx) (d : Nat) (Post : Option Value → gs → Prop)   (s : gs) (w : w134_20 c d Post  s) : tV c d 134 20 [none, none, none, none, none, none, none, none, none] [] s Post := by
  intro h hR
  have hk : ∀ pc i, gm_find gk_134 pc = some i → gm_code (gt_T c.1 c.2.1 c.2.2.1) 134 pc = some i := fun _ _ z => z
  unfold w134_20 at w
  unfold gV
  refine gw_pst hk 1 (st' := (21, [none, none, none, none, none, none, none, none, none], [.int (-1)], h)) rfl ?_
  exact gw_ret (hk _ _ rfl) rfl ⟨_, hR, w⟩
def w134_97 (c : gx) (d : Nat) (Post : Option Value → gs → Prop)  (s : gs) : Prop :=
  Post (some (.int 0)) s
theorem ok134_97 (c : gx) (d : Nat) (Post : Option Value → gs → Prop)   (s : gs) (w : w134_97 c d Post  s) : tV c d 134 97 [none, none, none, none, none, none, none, none, none] [] s Post := by
  intro h hR
  have hk : ∀ pc i, gm_find gk_134 pc = some i → gm_code (gt_T c.1 c.2.1 c.2.2.1) 134 pc = some i := fun _ _ z => z
  unfold w134_97 at w
  unfold gV
  refine gw_pst hk 1 (st' := (98, [none, none, none, none, none, none, none, none, none], [.int 0], h)) rfl ?_
  exact gw_ret (hk _ _ rfl) rfl ⟨_, hR, w⟩
def wb134_30 (c : gx) (d : Nat) (Post : Option Value → gs → Prop) (K30 : Int32 → Int32 → Int64 → Int64 → Int32 → gs → Prop) (x1 : Int32) (x2 : Int32) (x3 : Int64) (x5 : Int64) (x7 : Int32) (s : gs) : Prop :=
  ((x1 ≤ x7 → tE c d 135 [.long x3, .long x5] s (fun v2 s_2 => ∃ y_2 : Int64, v2 = some (.long y_2) ∧ (((lg_cmp y_2 0) ≤ 0 → w134_97 c d Post s_2) ∧ (¬ ((lg_cmp y_2 0) ≤ 0) → ¬ y_2 = 0 ∧ ¬ y_2 = 0 ∧ tE c d 46 [.ref 34, .long (x3 / y_2), .long (x5 / y_2)] s_2 (fun v7 s_7 => v7 = none ∧ w134_97 c d Post s_7))))) ∧ (¬ (x1 ≤ x7) → K30 x1 x2 ((x3 * ((x2 : Int32).toInt64)) + ((x5 - x3) * ((10 - x2 : Int32).toInt64))) (x5 * 10) (x7 + 1) s))
theorem okb134_30 (c : gx) (d : Nat) (Post : Option Value → gs → Prop) (K30 : Int32 → Int32 → Int64 → Int64 → Int32 → gs → Prop)  (hK30 : ∀ (x1 : Int32) (x2 : Int32) (x3 : Int64) (x5 : Int64) (x7 : Int32) (s : gs), K30 x1 x2 x3 x5 x7 s → tV c d 134 30 [some (.ref 0), some (.int x1), some (.int x2), some (.long x3), none, some (.long x5), none, some (.int x7), none] [] s Post) (x1 : Int32) (x2 : Int32) (x3 : Int64) (x5 : Int64) (x7 : Int32) (s : gs) (w : wb134_30 c d Post K30 x1 x2 x3 x5 x7 s) : tV c d 134 30 [some (.ref 0), some (.int x1), some (.int x2), some (.long x3), none, some (.long x5), none, some (.int x7), none] [] s Post := by
  intro h hR
  have hk : ∀ pc i, gm_find gk_134 pc = some i → gm_code (gt_T c.1 c.2.1 c.2.2.1) 134 pc = some i := fun _ _ z => z
  unfold wb134_30 at w
  unfold gV
  refine gw_pst hk 2 (st' := (33, [some (.ref 0), some (.int x1), some (.int x2), some (.long x3), none, some (.long x5), none, some (.int x7), none], [.int x1, .int x7], h)) rfl ?_
  refine gw_br (c := x1 ≤ x7) (a := (66, [some (.ref 0), some (.int x1), some (.int x2), some (.long x3), none, some (.long x5), none, some (.int x7), none], [], h)) (b := (36, [some (.ref 0), some (.int x1), some (.int x2), some (.long x3), none, some (.long x5), none, some (.int x7), none], [], h)) (hk _ _ rfl) rfl ⟨fun z1 => ?_, fun z1 => ?_⟩
  · replace w := w.1 z1
    refine gw_pst hk 2 (st' := (69, [some (.ref 0), some (.int x1), some (.int x2), some (.long x3), none, some (.long x5), none, some (.int x7), none], [.long x5, .long x3], h)) rfl ?_
    refine gw_call (jj := 135) (As := [.long x3, .long x5]) (rest := []) (hk _ _ rfl) (fun _ => rfl) rfl rfl (Nat.le_of_ble_eq_true rfl) rfl ?_
    refine ge_imp (w h hR) (fun v2 h w => ?_)
    obtain ⟨s_2, hR, y_2, rfl, w⟩ := w
    show gw (gt_T c.1 c.2.1 c.2.2.1) c.2.2.2 d 134 (72, [some (.ref 0), some (.int x1), some (.int x2), some (.long x3), none, some (.long x5), none, some (.int x7), none], [.long y_2], h) _
    refine gw_pst hk 4 (st' := (78, [some (.ref 0), some (.int x1), some (.int x2), some (.long x3), none, some (.long x5), none, some (.long y_2), none], [.int (lg_cmp y_2 0)], h)) rfl ?_
    refine gw_br (c := (lg_cmp y_2 0) ≤ 0) (a := (97, [some (.ref 0), some (.int x1), some (.int x2), some (.long x3), none, some (.long x5), none, some (.long y_2), none], [], h)) (b := (81, [some (.ref 0), some (.int x1), some (.int x2), some (.long x3), none, some (.long x5), none, some (.long y_2), none], [], h)) (hk _ _ rfl) rfl ⟨fun z3 => ?_, fun z3 => ?_⟩
    · replace w := w.1 z3
      refine gw_le (L' := [none, none, none, none, none, none, none, none, none]) (gm_le_n _ (gm_le_n _ (gm_le_n _ (gm_le_n _ (gm_le_k _ (gm_le_n _ (gm_le_k _ (gm_le_n _ (gm_le_k _ gm_le_nil))))))))) ?_
      exact ok134_97 c d Post _ w _ hR
    · replace w := w.2 z3
      refine gw_pst hk 1 (st' := (82, [some (.ref 0), some (.int x1), some (.int x2), some (.long x3), none, some (.long x5), none, some (.long y_2), none], [.ref 0], h)) rfl ?_
      refine gw_gf (hk _ _ rfl) (RL_fR (n := 34) hR rfl) ?_
      refine gw_pst hk 2 (st' := (88, [some (.ref 0), some (.int x1), some (.int x2), some (.long x3), none, some (.long x5), none, some (.long y_2), none], [.long y_2, .long x3, .ref 34], h)) rfl ?_
      obtain ⟨z5, w⟩ := w
      refine gw_ldiv (hk _ _ rfl) z5 ?_ rfl
      refine gw_pst hk 2 (st' := (93, [some (.ref 0), some (.int x1), some (.int x2), some (.long x3), none, some (.long x5), none, some (.long y_2), none], [.long y_2, .long x5, .long (x3 / y_2), .ref 34], h)) rfl ?_
      obtain ⟨z6, w⟩ := w
      refine gw_ldiv (hk _ _ rfl) z6 ?_ rfl
      obtain ⟨fs7, e7⟩ := RL_o hR (r := 34) (ci := 5) rfl
      refine gw_call (jj := 46) (As := [.ref 34, .long (x3 / y_2), .long (x5 / y_2)]) (rest := []) (hk _ _ rfl) (fun _ => rfl) rfl rfl (Nat.le_of_ble_eq_true rfl) (gm_rcv_v rfl e7 rfl) ?_
      refine ge_imp (w h hR) (fun v7 h w => ?_)
      obtain ⟨s_7, hR, rfl, w⟩ := w
      show gw (gt_T c.1 c.2.1 c.2.2.1) c.2.2.2 d 134 (97, [some (.ref 0), some (.int x1), some (.int x2), some (.long x3), none, some (.long x5), none, some (.long y_2), none], [], h) _
      refine gw_le (L' := [none, none, none, none, none, none, none, none, none]) (gm_le_n _ (gm_le_n _ (gm_le_n _ (gm_le_n _ (gm_le_k _ (gm_le_n _ (gm_le_k _ (gm_le_n _ (gm_le_k _ gm_le_nil))))))))) ?_
      exact ok134_97 c d Post _ w _ hR
  · replace w := w.2 z1
    refine gw_pst hk 20 (st' := (30, [some (.ref 0), some (.int x1), some (.int x2), some (.long ((x3 * ((x2 : Int32).toInt64)) + ((x5 - x3) * ((10 - x2 : Int32).toInt64)))), none, some (.long (x5 * 10)), none, some (.int (x7 + 1)), none], [], h)) rfl ?_
    exact hK30 _ _ _ _ _ _ w _ hR
def wl134_30 (c : gx) (d : Nat) (Post : Option Value → gs → Prop) : Nat → Int32 → Int32 → Int64 → Int64 → Int32 → gs → Prop
  | 0 => fun _ _ _ _ _ _ => False
  | n + 1 => wb134_30 c d Post (wl134_30 c d Post n)
theorem okl134_30 (c : gx) (d : Nat) (Post : Option Value → gs → Prop) : ∀ (n : Nat) (x1 : Int32) (x2 : Int32) (x3 : Int64) (x5 : Int64) (x7 : Int32) (s : gs), wl134_30 c d Post n x1 x2 x3 x5 x7 s → tV c d 134 30 [some (.ref 0), some (.int x1), some (.int x2), some (.long x3), none, some (.long x5), none, some (.int x7), none] [] s Post
  | 0, _, _, _, _, _, _, w => w.elim
  | n + 1, x1, x2, x3, x5, x7, s, w => okb134_30 c d Post (wl134_30 c d Post n) (okl134_30 c d Post n) x1 x2 x3 x5 x7 s w
/-- CommandByTurns.rain(II)I -/
def wm134 (c : gx) (d : Nat) (Post : Option Value → gs → Prop) (x1 : Int32) (x2 : Int32) (s : gs) : Prop :=
  ((x1 < 0 → w134_20 c d Post s) ∧ (¬ (x1 < 0) → ((12 < x1 → w134_20 c d Post s) ∧ (¬ (12 < x1) → ((x2 < 0 → w134_20 c d Post s) ∧ (¬ (x2 < 0) → ((x2 ≤ 10 → ∃ n, wl134_30 c d Post n x1 x2 1 1 0 s) ∧ (¬ (x2 ≤ 10) → w134_20 c d Post s))))))))
theorem okm134 (c : gx) (d : Nat) (Post : Option Value → gs → Prop) (x1 : Int32) (x2 : Int32) (s : gs) (w : wm134 c d Post x1 x2 s) : tE c (d + 1) 134 [.ref 0, .int x1, .int x2] s Post := by
  intro h hR
  have hk : ∀ pc i, gm_find gk_134 pc = some i → gm_code (gt_T c.1 c.2.1 c.2.2.1) 134 pc = some i := fun _ _ z => z
  unfold wm134 at w
  refine ge_of (by decide) (Nat.le_of_ble_eq_true rfl) ?_
  show gw (gt_T c.1 c.2.1 c.2.2.1) c.2.2.2 d 134 (0, [some (.ref 0), some (.int x1), some (.int x2), none, none, none, none, none, none], [], h) _
  refine gw_pst hk 1 (st' := (1, [some (.ref 0), some (.int x1), some (.int x2), none, none, none, none, none, none], [.int x1], h)) rfl ?_
  refine gw_br (c := x1 < 0) (a := (20, [some (.ref 0), some (.int x1), some (.int x2), none, none, none, none, none, none], [], h)) (b := (4, [some (.ref 0), some (.int x1), some (.int x2), none, none, none, none, none, none], [], h)) (hk _ _ rfl) rfl ⟨fun z1 => ?_, fun z1 => ?_⟩
  · replace w := w.1 z1
    refine gw_le (L' := [none, none, none, none, none, none, none, none, none]) (gm_le_n _ (gm_le_n _ (gm_le_n _ (gm_le_k _ (gm_le_k _ (gm_le_k _ (gm_le_k _ (gm_le_k _ (gm_le_k _ gm_le_nil))))))))) ?_
    exact ok134_20 c d Post _ w _ hR
  · replace w := w.2 z1
    refine gw_pst hk 2 (st' := (7, [some (.ref 0), some (.int x1), some (.int x2), none, none, none, none, none, none], [.int 12, .int x1], h)) rfl ?_
    refine gw_br (c := 12 < x1) (a := (20, [some (.ref 0), some (.int x1), some (.int x2), none, none, none, none, none, none], [], h)) (b := (10, [some (.ref 0), some (.int x1), some (.int x2), none, none, none, none, none, none], [], h)) (hk _ _ rfl) rfl ⟨fun z2 => ?_, fun z2 => ?_⟩
    · replace w := w.1 z2
      refine gw_le (L' := [none, none, none, none, none, none, none, none, none]) (gm_le_n _ (gm_le_n _ (gm_le_n _ (gm_le_k _ (gm_le_k _ (gm_le_k _ (gm_le_k _ (gm_le_k _ (gm_le_k _ gm_le_nil))))))))) ?_
      exact ok134_20 c d Post _ w _ hR
    · replace w := w.2 z2
      refine gw_pst hk 1 (st' := (11, [some (.ref 0), some (.int x1), some (.int x2), none, none, none, none, none, none], [.int x2], h)) rfl ?_
      refine gw_br (c := x2 < 0) (a := (20, [some (.ref 0), some (.int x1), some (.int x2), none, none, none, none, none, none], [], h)) (b := (14, [some (.ref 0), some (.int x1), some (.int x2), none, none, none, none, none, none], [], h)) (hk _ _ rfl) rfl ⟨fun z3 => ?_, fun z3 => ?_⟩
      · replace w := w.1 z3
        refine gw_le (L' := [none, none, none, none, none, none, none, none, none]) (gm_le_n _ (gm_le_n _ (gm_le_n _ (gm_le_k _ (gm_le_k _ (gm_le_k _ (gm_le_k _ (gm_le_k _ (gm_le_k _ gm_le_nil))))))))) ?_
        exact ok134_20 c d Post _ w _ hR
      · replace w := w.2 z3
        refine gw_pst hk 2 (st' := (17, [some (.ref 0), some (.int x1), some (.int x2), none, none, none, none, none, none], [.int 10, .int x2], h)) rfl ?_
        refine gw_br (c := x2 ≤ 10) (a := (22, [some (.ref 0), some (.int x1), some (.int x2), none, none, none, none, none, none], [], h)) (b := (20, [some (.ref 0), some (.int x1), some (.int x2), none, none, none, none, none, none], [], h)) (hk _ _ rfl) rfl ⟨fun z4 => ?_, fun z4 => ?_⟩
        · replace w := w.1 z4
          refine gw_pst hk 6 (st' := (30, [some (.ref 0), some (.int x1), some (.int x2), some (.long 1), none, some (.long 1), none, some (.int 0), none], [], h)) rfl ?_
          obtain ⟨n, w⟩ := w
          exact okl134_30 c d Post n _ _ _ _ _ _ w _ hR
        · replace w := w.2 z4
          refine gw_le (L' := [none, none, none, none, none, none, none, none, none]) (gm_le_n _ (gm_le_n _ (gm_le_n _ (gm_le_k _ (gm_le_k _ (gm_le_k _ (gm_le_k _ (gm_le_k _ (gm_le_k _ gm_le_nil))))))))) ?_
          exact ok134_20 c d Post _ w _ hR
def w135_45 (c : gx) (d : Nat) (Post : Option Value → gs → Prop) (x4 : Int64) (s : gs) : Prop :=
  Post (some (.long x4)) s
theorem ok135_45 (c : gx) (d : Nat) (Post : Option Value → gs → Prop)  (x4 : Int64) (s : gs) (w : w135_45 c d Post x4 s) : tV c d 135 45 [none, none, none, none, some (.long x4), none, none, none, none, none, none] [] s Post := by
  intro h hR
  have hk : ∀ pc i, gm_find gk_135 pc = some i → gm_code (gt_T c.1 c.2.1 c.2.2.1) 135 pc = some i := fun _ _ z => z
  unfold w135_45 at w
  unfold gV
  refine gw_pst hk 1 (st' := (47, [none, none, none, none, some (.long x4), none, none, none, none, none, none], [.long x4], h)) rfl ?_
  exact gw_ret (hk _ _ rfl) rfl ⟨_, hR, w⟩
def wb135_9 (c : gx) (d : Nat) (Post : Option Value → gs → Prop) (K9 : Int64 → Int64 → Int32 → gs → Prop) (x4 : Int64) (x6 : Int64) (x8 : Int32) (s : gs) : Prop :=
  ((1000 ≤ x8 → w135_45 c d Post x4 s) ∧ (¬ (1000 ≤ x8) → (((lg_cmp x6 0) = 0 → w135_45 c d Post x4 s) ∧ (¬ ((lg_cmp x6 0) = 0) → ¬ x6 = 0 ∧ K9 x6 (x4 - x4 / x6 * x6) (x8 + 1) s))))
theorem okb135_9 (c : gx) (d : Nat) (Post : Option Value → gs → Prop) (K9 : Int64 → Int64 → Int32 → gs → Prop)  (hK9 : ∀ (x4 : Int64) (x6 : Int64) (x8 : Int32) (s : gs), K9 x4 x6 x8 s → tV c d 135 9 [none, none, none, none, some (.long x4), none, some (.long x6), none, some (.int x8), none, none] [] s Post) (x4 : Int64) (x6 : Int64) (x8 : Int32) (s : gs) (w : wb135_9 c d Post K9 x4 x6 x8 s) : tV c d 135 9 [none, none, none, none, some (.long x4), none, some (.long x6), none, some (.int x8), none, none] [] s Post := by
  intro h hR
  have hk : ∀ pc i, gm_find gk_135 pc = some i → gm_code (gt_T c.1 c.2.1 c.2.2.1) 135 pc = some i := fun _ _ z => z
  unfold wb135_9 at w
  unfold gV
  refine gw_pst hk 2 (st' := (14, [none, none, none, none, some (.long x4), none, some (.long x6), none, some (.int x8), none, none], [.int 1000, .int x8], h)) rfl ?_
  refine gw_br (c := 1000 ≤ x8) (a := (45, [none, none, none, none, some (.long x4), none, some (.long x6), none, some (.int x8), none, none], [], h)) (b := (17, [none, none, none, none, some (.long x4), none, some (.long x6), none, some (.int x8), none, none], [], h)) (hk _ _ rfl) rfl ⟨fun z1 => ?_, fun z1 => ?_⟩
  · replace w := w.1 z1
    refine gw_le (L' := [none, none, none, none, some (.long x4), none, none, none, none, none, none]) (gm_le_k _ (gm_le_k _ (gm_le_k _ (gm_le_k _ (gm_le_k _ (gm_le_k _ (gm_le_n _ (gm_le_k _ (gm_le_n _ (gm_le_k _ (gm_le_k _ gm_le_nil))))))))))) ?_
    exact ok135_45 c d Post _ _ w _ hR
  · replace w := w.2 z1
    refine gw_pst hk 3 (st' := (21, [none, none, none, none, some (.long x4), none, some (.long x6), none, some (.int x8), none, none], [.int (lg_cmp x6 0)], h)) rfl ?_
    refine gw_br (c := (lg_cmp x6 0) = 0) (a := (45, [none, none, none, none, some (.long x4), none, some (.long x6), none, some (.int x8), none, none], [], h)) (b := (24, [none, none, none, none, some (.long x4), none, some (.long x6), none, some (.int x8), none, none], [], h)) (hk _ _ rfl) rfl ⟨fun z2 => ?_, fun z2 => ?_⟩
    · replace w := w.1 z2
      refine gw_le (L' := [none, none, none, none, some (.long x4), none, none, none, none, none, none]) (gm_le_k _ (gm_le_k _ (gm_le_k _ (gm_le_k _ (gm_le_k _ (gm_le_k _ (gm_le_n _ (gm_le_k _ (gm_le_n _ (gm_le_k _ (gm_le_k _ gm_le_nil))))))))))) ?_
      exact ok135_45 c d Post _ _ w _ hR
    · replace w := w.2 z2
      refine gw_pst hk 2 (st' := (28, [none, none, none, none, some (.long x4), none, some (.long x6), none, some (.int x8), none, none], [.long x6, .long x4], h)) rfl ?_
      obtain ⟨z3, w⟩ := w
      refine gw_lrem (hk _ _ rfl) z3 ?_ rfl
      refine gw_pst hk 7 (st' := (9, [none, none, none, none, some (.long x6), none, some (.long (x4 - x4 / x6 * x6)), none, some (.int (x8 + 1)), some (.long (x4 - x4 / x6 * x6)), none], [], h)) rfl ?_
      refine gw_le (L' := [none, none, none, none, some (.long x6), none, some (.long (x4 - x4 / x6 * x6)), none, some (.int (x8 + 1)), none, none]) (gm_le_k _ (gm_le_k _ (gm_le_k _ (gm_le_k _ (gm_le_k _ (gm_le_k _ (gm_le_k _ (gm_le_k _ (gm_le_k _ (gm_le_n _ (gm_le_k _ gm_le_nil))))))))))) ?_
      exact hK9 _ _ _ _ w _ hR
def wl135_9 (c : gx) (d : Nat) (Post : Option Value → gs → Prop) : Nat → Int64 → Int64 → Int32 → gs → Prop
  | 0 => fun _ _ _ _ => False
  | n + 1 => wb135_9 c d Post (wl135_9 c d Post n)
theorem okl135_9 (c : gx) (d : Nat) (Post : Option Value → gs → Prop) : ∀ (n : Nat) (x4 : Int64) (x6 : Int64) (x8 : Int32) (s : gs), wl135_9 c d Post n x4 x6 x8 s → tV c d 135 9 [none, none, none, none, some (.long x4), none, some (.long x6), none, some (.int x8), none, none] [] s Post
  | 0, _, _, _, _, w => w.elim
  | n + 1, x4, x6, x8, s, w => okb135_9 c d Post (wl135_9 c d Post n) (okl135_9 c d Post n) x4 x6 x8 s w
/-- CommandByTurns.commonDivisor(JJ)J -/
def wm135 (c : gx) (d : Nat) (Post : Option Value → gs → Prop) (x0 : Int64) (x2 : Int64) (s : gs) : Prop :=
  ∃ n, wl135_9 c d Post n x2 x0 0 s
theorem okm135 (c : gx) (d : Nat) (Post : Option Value → gs → Prop) (x0 : Int64) (x2 : Int64) (s : gs) (w : wm135 c d Post x0 x2 s) : tE c (d + 1) 135 [.long x0, .long x2] s Post := by
  intro h hR
  have hk : ∀ pc i, gm_find gk_135 pc = some i → gm_code (gt_T c.1 c.2.1 c.2.2.1) 135 pc = some i := fun _ _ z => z
  unfold wm135 at w
  refine ge_of (by decide) (Nat.le_of_ble_eq_true rfl) ?_
  show gw (gt_T c.1 c.2.1 c.2.2.1) c.2.2.2 d 135 (0, [some (.long x0), none, some (.long x2), none, none, none, none, none, none, none, none], [], h) _
  refine gw_pst hk 6 (st' := (9, [some (.long x0), none, some (.long x2), none, some (.long x2), none, some (.long x0), none, some (.int 0), none, none], [], h)) rfl ?_
  refine gw_le (L' := [none, none, none, none, some (.long x2), none, some (.long x0), none, some (.int 0), none, none]) (gm_le_n _ (gm_le_k _ (gm_le_n _ (gm_le_k _ (gm_le_k _ (gm_le_k _ (gm_le_k _ (gm_le_k _ (gm_le_k _ (gm_le_k _ (gm_le_k _ gm_le_nil))))))))))) ?_
  obtain ⟨n, w⟩ := w
  exact okl135_9 c d Post n _ _ _ _ w _ hR
def w136_21 (c : gx) (d : Nat) (Post : Option Value → gs → Prop)  (s : gs) : Prop :=
  Post (some (.int (-1))) s
theorem ok136_21 (c : gx) (d : Nat) (Post : Option Value → gs → Prop)   (s : gs) (w : w136_21 c d Post  s) : tV c d 136 21 [none, none, none, none, none, none, none, none] [] s Post := by
  intro h hR
  have hk : ∀ pc i, gm_find gk_136 pc = some i → gm_code (gt_T c.1 c.2.1 c.2.2.1) 136 pc = some i := fun _ _ z => z
  unfold w136_21 at w
  unfold gV
  refine gw_pst hk 1 (st' := (22, [none, none, none, none, none, none, none, none], [.int (-1)], h)) rfl ?_
  exact gw_ret (hk _ _ rfl) rfl ⟨_, hR, w⟩
def w136_69 (c : gx) (d : Nat) (Post : Option Value → gs → Prop) (K31 : Int32 → Int32 → Int64 → Int64 → Int32 → gs → Prop) (x1 : Int32) (x2 : Int32) (x3 : Int64) (x5 : Int64) (x7 : Int32) (s : gs) : Prop :=
  ¬ ((x7 + 1 : Int32).toInt64) = 0 ∧ K31 x1 x2 x3 ((x5 * ((x1 - x7 : Int32).toInt64)) / ((x7 + 1 : Int32).toInt64)) (x7 + 1) s
theorem ok136_69 (c : gx) (d : Nat) (Post : Option Value → gs → Prop) (K31 : Int32 → Int32 → Int64 → Int64 → Int32 → gs → Prop)  (hK31 : ∀ (x1 : Int32) (x2 : Int32) (x3 : Int64) (x5 : Int64) (x7 : Int32) (s : gs), K31 x1 x2 x3 x5 x7 s → tV c d 136 31 [none, some (.int x1), some (.int x2), some (.long x3), none, some (.long x5), none, some (.int x7)] [] s Post) (x1 : Int32) (x2 : Int32) (x3 : Int64) (x5 : Int64) (x7 : Int32) (s : gs) (w : w136_69 c d Post K31 x1 x2 x3 x5 x7 s) : tV c d 136 69 [none, some (.int x1), some (.int x2), some (.long x3), none, some (.long x5), none, some (.int x7)] [] s Post := by
  intro h hR
  have hk : ∀ pc i, gm_find gk_136 pc = some i → gm_code (gt_T c.1 c.2.1 c.2.2.1) 136 pc = some i := fun _ _ z => z
  unfold w136_69 at w
  unfold gV
  refine gw_pst hk 10 (st' := (82, [none, some (.int x1), some (.int x2), some (.long x3), none, some (.long x5), none, some (.int x7)], [.long ((x7 + 1 : Int32).toInt64), .long (x5 * ((x1 - x7 : Int32).toInt64))], h)) rfl ?_
  obtain ⟨z1, w⟩ := w
  refine gw_ldiv (hk _ _ rfl) z1 ?_ rfl
  refine gw_pst hk 3 (st' := (31, [none, some (.int x1), some (.int x2), some (.long x3), none, some (.long ((x5 * ((x1 - x7 : Int32).toInt64)) / ((x7 + 1 : Int32).toInt64))), none, some (.int (x7 + 1))], [], h)) rfl ?_
  exact hK31 _ _ _ _ _ _ w _ hR
def w136_126 (c : gx) (d : Nat) (Post : Option Value → gs → Prop) (xs0 : Int64) (s : gs) : Prop :=
  Post (some (.int ((xs0).toInt32))) s
theorem ok136_126 (c : gx) (d : Nat) (Post : Option Value → gs → Prop)  (xs0 : Int64) (s : gs) (w : w136_126 c d Post xs0 s) : tV c d 136 126 [none, none, none, none, none, none, none, none] [.long xs0] s Post := by
  intro h hR
  have hk : ∀ pc i, gm_find gk_136 pc = some i → gm_code (gt_T c.1 c.2.1 c.2.2.1) 136 pc = some i := fun _ _ z => z
  unfold w136_126 at w
  unfold gV
  refine gw_pst hk 1 (st' := (127, [none, none, none, none, none, none, none, none], [.int ((xs0).toInt32)], h)) rfl ?_
  exact gw_ret (hk _ _ rfl) rfl ⟨_, hR, w⟩
def wb136_31 (c : gx) (d : Nat) (Post : Option Value → gs → Prop) (K31 : Int32 → Int32 → Int64 → Int64 → Int32 → gs → Prop) (x1 : Int32) (x2 : Int32) (x3 : Int64) (x5 : Int64) (x7 : Int32) (s : gs) : Prop :=
  ((x1 < x7 → ((6 < x1 → tE c d 137 [.int 10, .int (x1 - 6)] s (fun v3 s_3 => ∃ y_3 : Int64, v3 = some (.long y_3) ∧ ¬ (if y_3 < 1 then 1 else y_3) = 0 ∧ w136_126 c d Post (x3 / (if y_3 < 1 then 1 else y_3)) s_3)) ∧ (¬ (6 < x1) → tE c d 137 [.int 10, .int (6 - x1)] s (fun v5 s_5 => ∃ y_5 : Int64, v5 = some (.long y_5) ∧ w136_126 c d Post (x3 * y_5) s_5)))) ∧ (¬ (x1 < x7) → (((3 * x7) < x1 → w136_69 c d Post K31 x1 x2 x3 x5 x7 s) ∧ (¬ ((3 * x7) < x1) → tE c d 137 [.int x2, .int x7] s (fun v7 s_7 => ∃ y_7 : Int64, v7 = some (.long y_7) ∧ tE c d 137 [.int (10 - x2), .int (x1 - x7)] s_7 (fun v8 s_8 => ∃ y_8 : Int64, v8 = some (.long y_8) ∧ w136_69 c d Post K31 x1 x2 (x3 + ((x5 * y_7) * y_8)) x5 x7 s_8))))))
theorem okb136_31 (c : gx) (d : Nat) (Post : Option Value → gs → Prop) (K31 : Int32 → Int32 → Int64 → Int64 → Int32 → gs → Prop)  (hK31 : ∀ (x1 : Int32) (x2 : Int32) (x3 : Int64) (x5 : Int64) (x7 : Int32) (s : gs), K31 x1 x2 x3 x5 x7 s → tV c d 136 31 [none, some (.int x1), some (.int x2), some (.long x3), none, some (.long x5), none, some (.int x7)] [] s Post) (x1 : Int32) (x2 : Int32) (x3 : Int64) (x5 : Int64) (x7 : Int32) (s : gs) (w : wb136_31 c d Post K31 x1 x2 x3 x5 x7 s) : tV c d 136 31 [none, some (.int x1), some (.int x2), some (.long x3), none, some (.long x5), none, some (.int x7)] [] s Post := by
  intro h hR
  have hk : ∀ pc i, gm_find gk_136 pc = some i → gm_code (gt_T c.1 c.2.1 c.2.2.1) 136 pc = some i := fun _ _ z => z
  unfold wb136_31 at w
  unfold gV
  refine gw_pst hk 2 (st' := (34, [none, some (.int x1), some (.int x2), some (.long x3), none, some (.long x5), none, some (.int x7)], [.int x1, .int x7], h)) rfl ?_
  refine gw_br (c := x1 < x7) (a := (91, [none, some (.int x1), some (.int x2), some (.long x3), none, some (.long x5), none, some (.int x7)], [], h)) (b := (37, [none, some (.int x1), some (.int x2), some (.long x3), none, some (.long x5), none, some (.int x7)], [], h)) (hk _ _ rfl) rfl ⟨fun z1 => ?_, fun z1 => ?_⟩
  · replace w := w.1 z1
    refine gw_pst hk 2 (st' := (94, [none, some (.int x1), some (.int x2), some (.long x3), none, some (.long x5), none, some (.int x7)], [.int 6, .int x1], h)) rfl ?_
    refine gw_br (c := 6 < x1) (a := (111, [none, some (.int x1), some (.int x2), some (.long x3), none, some (.long x5), none, some (.int x7)], [], h)) (b := (97, [none, some (.int x1), some (.int x2), some (.long x3), none, some (.long x5), none, some (.int x7)], [], h)) (hk _ _ rfl) rfl ⟨fun z2 => ?_, fun z2 => ?_⟩
    · replace w := w.1 z2
      refine gw_pst hk 6 (st' := (119, [none, some (.int x1), some (.int x2), some (.long x3), none, some (.long x5), none, some (.int x7)], [.int (x1 - 6), .int 10, .long 1, .long x3], h)) rfl ?_
      refine gw_call (jj := 137) (As := [.int 10, .int (x1 - 6)]) (rest := [.long 1, .long x3]) (hk _ _ rfl) (fun _ => rfl) rfl rfl (Nat.le_of_ble_eq_true rfl) rfl ?_
      refine ge_imp (w h hR) (fun v3 h w => ?_)
      obtain ⟨s_3, hR, y_3, rfl, w⟩ := w
      show gw (gt_T c.1 c.2.1 c.2.2.1) c.2.2.2 d 136 (122, [none, some (.int x1), some (.int x2), some (.long x3), none, some (.long x5), none, some (.int x7)], [.long y_3, .long 1, .long x3], h) _
      refine gw_pst hk 1 (st' := (125, [none, some (.int x1), some (.int x2), some (.long x3), none, some (.long x5), none, some (.int x7)], [.long (if y_3 < 1 then 1 else y_3), .long x3], h)) rfl ?_
      obtain ⟨z4, w⟩ := w
      refine gw_ldiv (hk _ _ rfl) z4 ?_ rfl
      refine gw_le (L' := [none, none, none, none, none, none, none, none]) (gm_le_k _ (gm_le_n _ (gm_le_n _ (gm_le_n _ (gm_le_k _ (gm_le_n _ (gm_le_k _ (gm_le_n _ gm_le_nil)))))))) ?_
      exact ok136_126 c d Post _ _ w _ hR
    · replace w := w.2 z2
      refine gw_pst hk 5 (st' := (104, [none, some (.int x1), some (.int x2), some (.long x3), none, some (.long x5), none, some (.int x7)], [.int (6 - x1), .int 10, .long x3], h)) rfl ?_
      refine gw_call (jj := 137) (As := [.int 10, .int (6 - x1)]) (rest := [.long x3]) (hk _ _ rfl) (fun _ => rfl) rfl rfl (Nat.le_of_ble_eq_true rfl) rfl ?_
      refine ge_imp (w h hR) (fun v5 h w => ?_)
      obtain ⟨s_5, hR, y_5, rfl, w⟩ := w
      show gw (gt_T c.1 c.2.1 c.2.2.1) c.2.2.2 d 136 (107, [none, some (.int x1), some (.int x2), some (.long x3), none, some (.long x5), none, some (.int x7)], [.long y_5, .long x3], h) _
      refine gw_pst hk 2 (st' := (126, [none, some (.int x1), some (.int x2), some (.long x3), none, some (.long x5), none, some (.int x7)], [.long (x3 * y_5)], h)) rfl ?_
      refine gw_le (L' := [none, none, none, none, none, none, none, none]) (gm_le_k _ (gm_le_n _ (gm_le_n _ (gm_le_n _ (gm_le_k _ (gm_le_n _ (gm_le_k _ (gm_le_n _ gm_le_nil)))))))) ?_
      exact ok136_126 c d Post _ _ w _ hR
  · replace w := w.2 z1
    refine gw_pst hk 4 (st' := (42, [none, some (.int x1), some (.int x2), some (.long x3), none, some (.long x5), none, some (.int x7)], [.int x1, .int (3 * x7)], h)) rfl ?_
    refine gw_br (c := (3 * x7) < x1) (a := (69, [none, some (.int x1), some (.int x2), some (.long x3), none, some (.long x5), none, some (.int x7)], [], h)) (b := (45, [none, some (.int x1), some (.int x2), some (.long x3), none, some (.long x5), none, some (.int x7)], [], h)) (hk _ _ rfl) rfl ⟨fun z6 => ?_, fun z6 => ?_⟩
    · replace w := w.1 z6
      exact ok136_69 c d Post K31 hK31 _ _ _ _ _ _ w _ hR
    · replace w := w.2 z6
      refine gw_pst hk 4 (st' := (51, [none, some (.int x1), some (.int x2), some (.long x3), none, some (.long x5), none, some (.int x7)], [.int x7, .int x2, .long x5, .long x3], h)) rfl ?_
      refine gw_call (jj := 137) (As := [.int x2, .int x7]) (rest := [.long x5, .long x3]) (hk _ _ rfl) (fun _ => rfl) rfl rfl (Nat.le_of_ble_eq_true rfl) rfl ?_
      refine ge_imp (w h hR) (fun v7 h w => ?_)
      obtain ⟨s_7, hR, y_7, rfl, w⟩ := w
      show gw (gt_T c.1 c.2.1 c.2.2.1) c.2.2.2 d 136 (54, [none, some (.int x1), some (.int x2), some (.long x3), none, some (.long x5), none, some (.int x7)], [.long y_7, .long x5, .long x3], h) _
      refine gw_pst hk 7 (st' := (63, [none, some (.int x1), some (.int x2), some (.long x3), none, some (.long x5), none, some (.int x7)], [.int (x1 - x7), .int (10 - x2), .long (x5 * y_7), .long x3], h)) rfl ?_
      refine gw_call (jj := 137) (As := [.int (10 - x2), .int (x1 - x7)]) (rest := [.long (x5 * y_7), .long x3]) (hk _ _ rfl) (fun _ => rfl) rfl rfl (Nat.le_of_ble_eq_true rfl) rfl ?_
      refine ge_imp (w h hR) (fun v8 h w => ?_)
      obtain ⟨s_8, hR, y_8, rfl, w⟩ := w
      show gw (gt_T c.1 c.2.1 c.2.2.1) c.2.2.2 d 136 (66, [none, some (.int x1), some (.int x2), some (.long x3), none, some (.long x5), none, some (.int x7)], [.long y_8, .long (x5 * y_7), .long x3], h) _
      refine gw_pst hk 3 (st' := (69, [none, some (.int x1), some (.int x2), some (.long (x3 + ((x5 * y_7) * y_8))), none, some (.long x5), none, some (.int x7)], [], h)) rfl ?_
      exact ok136_69 c d Post K31 hK31 _ _ _ _ _ _ w _ hR
def wl136_31 (c : gx) (d : Nat) (Post : Option Value → gs → Prop) : Nat → Int32 → Int32 → Int64 → Int64 → Int32 → gs → Prop
  | 0 => fun _ _ _ _ _ _ => False
  | n + 1 => wb136_31 c d Post (wl136_31 c d Post n)
theorem okl136_31 (c : gx) (d : Nat) (Post : Option Value → gs → Prop) : ∀ (n : Nat) (x1 : Int32) (x2 : Int32) (x3 : Int64) (x5 : Int64) (x7 : Int32) (s : gs), wl136_31 c d Post n x1 x2 x3 x5 x7 s → tV c d 136 31 [none, some (.int x1), some (.int x2), some (.long x3), none, some (.long x5), none, some (.int x7)] [] s Post
  | 0, _, _, _, _, _, _, w => w.elim
  | n + 1, x1, x2, x3, x5, x7, s, w => okb136_31 c d Post (wl136_31 c d Post n) (okl136_31 c d Post n) x1 x2 x3 x5 x7 s w
/-- CommandByTurns.stops(II)I -/
def wm136 (c : gx) (d : Nat) (Post : Option Value → gs → Prop) (x1 : Int32) (x2 : Int32) (s : gs) : Prop :=
  ((x1 < 1 → w136_21 c d Post s) ∧ (¬ (x1 < 1) → ((15 < x1 → w136_21 c d Post s) ∧ (¬ (15 < x1) → ((x2 < 0 → w136_21 c d Post s) ∧ (¬ (x2 < 0) → ((x2 ≤ 10 → ∃ n, wl136_31 c d Post n x1 x2 0 1 0 s) ∧ (¬ (x2 ≤ 10) → w136_21 c d Post s))))))))
theorem okm136 (c : gx) (d : Nat) (Post : Option Value → gs → Prop) (x1 : Int32) (x2 : Int32) (s : gs) (w : wm136 c d Post x1 x2 s) : tE c (d + 1) 136 [.ref 0, .int x1, .int x2] s Post := by
  intro h hR
  have hk : ∀ pc i, gm_find gk_136 pc = some i → gm_code (gt_T c.1 c.2.1 c.2.2.1) 136 pc = some i := fun _ _ z => z
  unfold wm136 at w
  refine ge_of (by decide) (Nat.le_of_ble_eq_true rfl) ?_
  show gw (gt_T c.1 c.2.1 c.2.2.1) c.2.2.2 d 136 (0, [some (.ref 0), some (.int x1), some (.int x2), none, none, none, none, none], [], h) _
  refine gw_pst hk 2 (st' := (2, [some (.ref 0), some (.int x1), some (.int x2), none, none, none, none, none], [.int 1, .int x1], h)) rfl ?_
  refine gw_br (c := x1 < 1) (a := (21, [some (.ref 0), some (.int x1), some (.int x2), none, none, none, none, none], [], h)) (b := (5, [some (.ref 0), some (.int x1), some (.int x2), none, none, none, none, none], [], h)) (hk _ _ rfl) rfl ⟨fun z1 => ?_, fun z1 => ?_⟩
  · replace w := w.1 z1
    refine gw_le (L' := [none, none, none, none, none, none, none, none]) (gm_le_n _ (gm_le_n _ (gm_le_n _ (gm_le_k _ (gm_le_k _ (gm_le_k _ (gm_le_k _ (gm_le_k _ gm_le_nil)))))))) ?_
    exact ok136_21 c d Post _ w _ hR
  · replace w := w.2 z1
    refine gw_pst hk 2 (st' := (8, [some (.ref 0), some (.int x1), some (.int x2), none, none, none, none, none], [.int 15, .int x1], h)) rfl ?_
    refine gw_br (c := 15 < x1) (a := (21, [some (.ref 0), some (.int x1), some (.int x2), none, none, none, none, none], [], h)) (b := (11, [some (.ref 0), some (.int x1), some (.int x2), none, none, none, none, none], [], h)) (hk _ _ rfl) rfl ⟨fun z2 => ?_, fun z2 => ?_⟩
    · replace w := w.1 z2
      refine gw_le (L' := [none, none, none, none, none, none, none, none]) (gm_le_n _ (gm_le_n _ (gm_le_n _ (gm_le_k _ (gm_le_k _ (gm_le_k _ (gm_le_k _ (gm_le_k _ gm_le_nil)))))))) ?_
      exact ok136_21 c d Post _ w _ hR
    · replace w := w.2 z2
      refine gw_pst hk 1 (st' := (12, [some (.ref 0), some (.int x1), some (.int x2), none, none, none, none, none], [.int x2], h)) rfl ?_
      refine gw_br (c := x2 < 0) (a := (21, [some (.ref 0), some (.int x1), some (.int x2), none, none, none, none, none], [], h)) (b := (15, [some (.ref 0), some (.int x1), some (.int x2), none, none, none, none, none], [], h)) (hk _ _ rfl) rfl ⟨fun z3 => ?_, fun z3 => ?_⟩
      · replace w := w.1 z3
        refine gw_le (L' := [none, none, none, none, none, none, none, none]) (gm_le_n _ (gm_le_n _ (gm_le_n _ (gm_le_k _ (gm_le_k _ (gm_le_k _ (gm_le_k _ (gm_le_k _ gm_le_nil)))))))) ?_
        exact ok136_21 c d Post _ w _ hR
      · replace w := w.2 z3
        refine gw_pst hk 2 (st' := (18, [some (.ref 0), some (.int x1), some (.int x2), none, none, none, none, none], [.int 10, .int x2], h)) rfl ?_
        refine gw_br (c := x2 ≤ 10) (a := (23, [some (.ref 0), some (.int x1), some (.int x2), none, none, none, none, none], [], h)) (b := (21, [some (.ref 0), some (.int x1), some (.int x2), none, none, none, none, none], [], h)) (hk _ _ rfl) rfl ⟨fun z4 => ?_, fun z4 => ?_⟩
        · replace w := w.1 z4
          refine gw_pst hk 6 (st' := (31, [some (.ref 0), some (.int x1), some (.int x2), some (.long 0), none, some (.long 1), none, some (.int 0)], [], h)) rfl ?_
          refine gw_le (L' := [none, some (.int x1), some (.int x2), some (.long 0), none, some (.long 1), none, some (.int 0)]) (gm_le_n _ (gm_le_k _ (gm_le_k _ (gm_le_k _ (gm_le_k _ (gm_le_k _ (gm_le_k _ (gm_le_k _ gm_le_nil)))))))) ?_
          obtain ⟨n, w⟩ := w
          exact okl136_31 c d Post n _ _ _ _ _ _ w _ hR
        · replace w := w.2 z4
          refine gw_le (L' := [none, none, none, none, none, none, none, none]) (gm_le_n _ (gm_le_n _ (gm_le_n _ (gm_le_k _ (gm_le_k _ (gm_le_k _ (gm_le_k _ (gm_le_k _ gm_le_nil)))))))) ?_
          exact ok136_21 c d Post _ w _ hR
def wb137_5 (c : gx) (d : Nat) (Post : Option Value → gs → Prop) (K5 : Int32 → Int32 → Int64 → Int32 → gs → Prop) (x0 : Int32) (x1 : Int32) (x2 : Int64) (x4 : Int32) (s : gs) : Prop :=
  ((x1 ≤ x4 → Post (some (.long x2)) s) ∧ (¬ (x1 ≤ x4) → K5 x0 x1 (x2 * ((x0 : Int32).toInt64)) (x4 + 1) s))
theorem okb137_5 (c : gx) (d : Nat) (Post : Option Value → gs → Prop) (K5 : Int32 → Int32 → Int64 → Int32 → gs → Prop)  (hK5 : ∀ (x0 : Int32) (x1 : Int32) (x2 : Int64) (x4 : Int32) (s : gs), K5 x0 x1 x2 x4 s → tV c d 137 5 [some (.int x0), some (.int x1), some (.long x2), none, some (.int x4)] [] s Post) (x0 : Int32) (x1 : Int32) (x2 : Int64) (x4 : Int32) (s : gs) (w : wb137_5 c d Post K5 x0 x1 x2 x4 s) : tV c d 137 5 [some (.int x0), some (.int x1), some (.long x2), none, some (.int x4)] [] s Post := by
  intro h hR
  have hk : ∀ pc i, gm_find gk_137 pc = some i → gm_code (gt_T c.1 c.2.1 c.2.2.1) 137 pc = some i := fun _ _ z => z
  unfold wb137_5 at w
  unfold gV
  refine gw_pst hk 2 (st' := (8, [some (.int x0), some (.int x1), some (.long x2), none, some (.int x4)], [.int x1, .int x4], h)) rfl ?_
  refine gw_br (c := x1 ≤ x4) (a := (22, [some (.int x0), some (.int x1), some (.long x2), none, some (.int x4)], [], h)) (b := (11, [some (.int x0), some (.int x1), some (.long x2), none, some (.int x4)], [], h)) (hk _ _ rfl) rfl ⟨fun z1 => ?_, fun z1 => ?_⟩
  · replace w := w.1 z1
    refine gw_pst hk 1 (st' := (23, [some (.int x0), some (.int x1), some (.long x2), none, some (.int x4)], [.long x2], h)) rfl ?_
    exact gw_ret (hk _ _ rfl) rfl ⟨_, hR, w⟩
  · replace w := w.2 z1
    refine gw_pst hk 7 (st' := (5, [some (.int x0), some (.int x1), some (.long (x2 * ((x0 : Int32).toInt64))), none, some (.int (x4 + 1))], [], h)) rfl ?_
    exact hK5 _ _ _ _ _ w _ hR
def wl137_5 (c : gx) (d : Nat) (Post : Option Value → gs → Prop) : Nat → Int32 → Int32 → Int64 → Int32 → gs → Prop
  | 0 => fun _ _ _ _ _ => False
  | n + 1 => wb137_5 c d Post (wl137_5 c d Post n)
theorem okl137_5 (c : gx) (d : Nat) (Post : Option Value → gs → Prop) : ∀ (n : Nat) (x0 : Int32) (x1 : Int32) (x2 : Int64) (x4 : Int32) (s : gs), wl137_5 c d Post n x0 x1 x2 x4 s → tV c d 137 5 [some (.int x0), some (.int x1), some (.long x2), none, some (.int x4)] [] s Post
  | 0, _, _, _, _, _, w => w.elim
  | n + 1, x0, x1, x2, x4, s, w => okb137_5 c d Post (wl137_5 c d Post n) (okl137_5 c d Post n) x0 x1 x2 x4 s w
/-- CommandByTurns.power(II)J -/
def wm137 (c : gx) (d : Nat) (Post : Option Value → gs → Prop) (x0 : Int32) (x1 : Int32) (s : gs) : Prop :=
  ∃ n, wl137_5 c d Post n x0 x1 1 0 s
theorem okm137 (c : gx) (d : Nat) (Post : Option Value → gs → Prop) (x0 : Int32) (x1 : Int32) (s : gs) (w : wm137 c d Post x0 x1 s) : tE c (d + 1) 137 [.int x0, .int x1] s Post := by
  intro h hR
  have hk : ∀ pc i, gm_find gk_137 pc = some i → gm_code (gt_T c.1 c.2.1 c.2.2.1) 137 pc = some i := fun _ _ z => z
  unfold wm137 at w
  refine ge_of (by decide) (Nat.le_of_ble_eq_true rfl) ?_
  show gw (gt_T c.1 c.2.1 c.2.2.1) c.2.2.2 d 137 (0, [some (.int x0), some (.int x1), none, none, none], [], h) _
  refine gw_pst hk 4 (st' := (5, [some (.int x0), some (.int x1), some (.long 1), none, some (.int 0)], [], h)) rfl ?_
  obtain ⟨n, w⟩ := w
  exact okl137_5 c d Post n _ _ _ _ _ w _ hR
def w138_60 (c : gx) (d : Nat) (Post : Option Value → gs → Prop) (K12 : Int32 → Int32 → gs → Prop) (K20 : Int32 → Int32 → Int32 → gs → Prop) (x1 : Int32) (x2 : Int32) (x3 : Int32) (s : gs) : Prop :=
  K20 x1 x2 (x3 + 1) s
theorem ok138_60 (c : gx) (d : Nat) (Post : Option Value → gs → Prop) (K12 : Int32 → Int32 → gs → Prop) (K20 : Int32 → Int32 → Int32 → gs → Prop)  (hK12 : ∀ (x1 : Int32) (x2 : Int32) (s : gs), K12 x1 x2 s → tV c d 138 12 [some (.ref 0), some (.int x1), some (.int x2), none] [] s Post) (hK20 : ∀ (x1 : Int32) (x2 : Int32) (x3 : Int32) (s : gs), K20 x1 x2 x3 s → tV c d 138 20 [some (.ref 0), some (.int x1), some (.int x2), some (.int x3)] [] s Post) (x1 : Int32) (x2 : Int32) (x3 : Int32) (s : gs) (w : w138_60 c d Post K12 K20 x1 x2 x3 s) : tV c d 138 60 [some (.ref 0), some (.int x1), some (.int x2), some (.int x3)] [] s Post := by
  intro h hR
  have hk : ∀ pc i, gm_find gk_138 pc = some i → gm_code (gt_T c.1 c.2.1 c.2.2.1) 138 pc = some i := fun _ _ z => z
  unfold w138_60 at w
  unfold gV
  refine gw_pst hk 2 (st' := (20, [some (.ref 0), some (.int x1), some (.int x2), some (.int (x3 + 1))], [], h)) rfl ?_
  exact hK20 _ _ _ _ w _ hR
def w138_57 (c : gx) (d : Nat) (Post : Option Value → gs → Prop) (K12 : Int32 → Int32 → gs → Prop) (K20 : Int32 → Int32 → Int32 → gs → Prop) (x1 : Int32) (x2 : Int32) (x3 : Int32) (s : gs) : Prop :=
  w138_60 c d Post K12 K20 (x1 + 1) x2 x3 s
theorem ok138_57 (c : gx) (d : Nat) (Post : Option Value → gs → Prop) (K12 : Int32 → Int32 → gs → Prop) (K20 : Int32 → Int32 → Int32 → gs → Prop)  (hK12 : ∀ (x1 : Int32) (x2 : Int32) (s : gs), K12 x1 x2 s → tV c d 138 12 [some (.ref 0), some (.int x1), some (.int x2), none] [] s Post) (hK20 : ∀ (x1 : Int32) (x2 : Int32) (x3 : Int32) (s : gs), K20 x1 x2 x3 s → tV c d 138 20 [some (.ref 0), some (.int x1), some (.int x2), some (.int x3)] [] s Post) (x1 : Int32) (x2 : Int32) (x3 : Int32) (s : gs) (w : w138_57 c d Post K12 K20 x1 x2 x3 s) : tV c d 138 57 [some (.ref 0), some (.int x1), some (.int x2), some (.int x3)] [] s Post := by
  intro h hR
  have hk : ∀ pc i, gm_find gk_138 pc = some i → gm_code (gt_T c.1 c.2.1 c.2.2.1) 138 pc = some i := fun _ _ z => z
  unfold w138_57 at w
  unfold gV
  refine gw_pst hk 1 (st' := (60, [some (.ref 0), some (.int (x1 + 1)), some (.int x2), some (.int x3)], [], h)) rfl ?_
  exact ok138_60 c d Post K12 K20 hK12 hK20 _ _ _ _ w _ hR
def wb138_20 (c : gx) (d : Nat) (Post : Option Value → gs → Prop) (K12 : Int32 → Int32 → gs → Prop) (K20 : Int32 → Int32 → Int32 → gs → Prop) (x1 : Int32) (x2 : Int32) (x3 : Int32) (s : gs) : Prop :=
  ((9 < x3 → K12 x1 (x2 + 1) s) ∧ (¬ (9 < x3) → tE c d 139 [.int x2, .int x3] s (fun v2 s_2 => ∃ x_2 : Int32, v2 = some (.int x_2) ∧ ((x_2 = 0 → w138_60 c d Post K12 K20 x1 x2 x3 s_2) ∧ (¬ (x_2 = 0) → tE c d 139 [.int x3, .int x2] s_2 (fun v4 s_4 => ∃ x_4 : Int32, v4 = some (.int x_4) ∧ ((x_4 = 0 → w138_60 c d Post K12 K20 x1 x2 x3 s_4) ∧ (¬ (x_4 = 0) → ((x1 = 0 → tE c d 46 [.ref 34, .long ((x2 : Int32).toInt64), .long ((x3 : Int32).toInt64)] s_4 (fun v8 s_8 => v8 = none ∧ w138_57 c d Post K12 K20 x1 x2 x3 s_8)) ∧ (¬ (x1 = 0) → w138_57 c d Post K12 K20 x1 x2 x3 s_4))))))))))
theorem okb138_20 (c : gx) (d : Nat) (Post : Option Value → gs → Prop) (K12 : Int32 → Int32 → gs → Prop) (K20 : Int32 → Int32 → Int32 → gs → Prop)  (hK12 : ∀ (x1 : Int32) (x2 : Int32) (s : gs), K12 x1 x2 s → tV c d 138 12 [some (.ref 0), some (.int x1), some (.int x2), none] [] s Post) (hK20 : ∀ (x1 : Int32) (x2 : Int32) (x3 : Int32) (s : gs), K20 x1 x2 x3 s → tV c d 138 20 [some (.ref 0), some (.int x1), some (.int x2), some (.int x3)] [] s Post) (x1 : Int32) (x2 : Int32) (x3 : Int32) (s : gs) (w : wb138_20 c d Post K12 K20 x1 x2 x3 s) : tV c d 138 20 [some (.ref 0), some (.int x1), some (.int x2), some (.int x3)] [] s Post := by
  intro h hR
  have hk : ∀ pc i, gm_find gk_138 pc = some i → gm_code (gt_T c.1 c.2.1 c.2.2.1) 138 pc = some i := fun _ _ z => z
  unfold wb138_20 at w
  unfold gV
  refine gw_pst hk 2 (st' := (23, [some (.ref 0), some (.int x1), some (.int x2), some (.int x3)], [.int 9, .int x3], h)) rfl ?_
  refine gw_br (c := 9 < x3) (a := (66, [some (.ref 0), some (.int x1), some (.int x2), some (.int x3)], [], h)) (b := (26, [some (.ref 0), some (.int x1), some (.int x2), some (.int x3)], [], h)) (hk _ _ rfl) rfl ⟨fun z1 => ?_, fun z1 => ?_⟩
  · replace w := w.1 z1
    refine gw_pst hk 2 (st' := (12, [some (.ref 0), some (.int x1), some (.int (x2 + 1)), some (.int x3)], [], h)) rfl ?_
    refine gw_le (L' := [some (.ref 0), some (.int x1), some (.int (x2 + 1)), none]) (gm_le_k _ (gm_le_k _ (gm_le_k _ (gm_le_n _ gm_le_nil)))) ?_
    exact hK12 _ _ _ w _ hR
  · replace w := w.2 z1
    refine gw_pst hk 2 (st' := (28, [some (.ref 0), some (.int x1), some (.int x2), some (.int x3)], [.int x3, .int x2], h)) rfl ?_
    refine gw_call (jj := 139) (As := [.int x2, .int x3]) (rest := []) (hk _ _ rfl) (fun _ => rfl) rfl rfl (Nat.le_of_ble_eq_true rfl) rfl ?_
    refine ge_imp (w h hR) (fun v2 h w => ?_)
    obtain ⟨s_2, hR, x_2, rfl, w⟩ := w
    show gw (gt_T c.1 c.2.1 c.2.2.1) c.2.2.2 d 138 (31, [some (.ref 0), some (.int x1), some (.int x2), some (.int x3)], [.int x_2], h) _
    refine gw_br (c := x_2 = 0) (a := (60, [some (.ref 0), some (.int x1), some (.int x2), some (.int x3)], [], h)) (b := (34, [some (.ref 0), some (.int x1), some (.int x2), some (.int x3)], [], h)) (hk _ _ rfl) rfl ⟨fun z3 => ?_, fun z3 => ?_⟩
    · replace w := w.1 z3
      exact ok138_60 c d Post K12 K20 hK12 hK20 _ _ _ _ w _ hR
    · replace w := w.2 z3
      refine gw_pst hk 2 (st' := (36, [some (.ref 0), some (.int x1), some (.int x2), some (.int x3)], [.int x2, .int x3], h)) rfl ?_
      refine gw_call (jj := 139) (As := [.int x3, .int x2]) (rest := []) (hk _ _ rfl) (fun _ => rfl) rfl rfl (Nat.le_of_ble_eq_true rfl) rfl ?_
      refine ge_imp (w h hR) (fun v4 h w => ?_)
      obtain ⟨s_4, hR, x_4, rfl, w⟩ := w
      show gw (gt_T c.1 c.2.1 c.2.2.1) c.2.2.2 d 138 (39, [some (.ref 0), some (.int x1), some (.int x2), some (.int x3)], [.int x_4], h) _
      refine gw_br (c := x_4 = 0) (a := (60, [some (.ref 0), some (.int x1), some (.int x2), some (.int x3)], [], h)) (b := (42, [some (.ref 0), some (.int x1), some (.int x2), some (.int x3)], [], h)) (hk _ _ rfl) rfl ⟨fun z5 => ?_, fun z5 => ?_⟩
      · replace w := w.1 z5
        exact ok138_60 c d Post K12 K20 hK12 hK20 _ _ _ _ w _ hR
      · replace w := w.2 z5
        refine gw_pst hk 1 (st' := (43, [some (.ref 0), some (.int x1), some (.int x2), some (.int x3)], [.int x1], h)) rfl ?_
        refine gw_br (c := x1 = 0) (a := (46, [some (.ref 0), some (.int x1), some (.int x2), some (.int x3)], [], h)) (b := (57, [some (.ref 0), some (.int x1), some (.int x2), some (.int x3)], [], h)) (hk _ _ rfl) rfl ⟨fun z6 => ?_, fun z6 => ?_⟩
        · replace w := w.1 z6
          refine gw_pst hk 1 (st' := (47, [some (.ref 0), some (.int x1), some (.int x2), some (.int x3)], [.ref 0], h)) rfl ?_
          refine gw_gf (hk _ _ rfl) (RL_fR (n := 34) hR rfl) ?_
          refine gw_pst hk 4 (st' := (54, [some (.ref 0), some (.int x1), some (.int x2), some (.int x3)], [.long ((x3 : Int32).toInt64), .long ((x2 : Int32).toInt64), .ref 34], h)) rfl ?_
          obtain ⟨fs8, e8⟩ := RL_o hR (r := 34) (ci := 5) rfl
          refine gw_call (jj := 46) (As := [.ref 34, .long ((x2 : Int32).toInt64), .long ((x3 : Int32).toInt64)]) (rest := []) (hk _ _ rfl) (fun _ => rfl) rfl rfl (Nat.le_of_ble_eq_true rfl) (gm_rcv_v rfl e8 rfl) ?_
          refine ge_imp (w h hR) (fun v8 h w => ?_)
          obtain ⟨s_8, hR, rfl, w⟩ := w
          show gw (gt_T c.1 c.2.1 c.2.2.1) c.2.2.2 d 138 (57, [some (.ref 0), some (.int x1), some (.int x2), some (.int x3)], [], h) _
          exact ok138_57 c d Post K12 K20 hK12 hK20 _ _ _ _ w _ hR
        · replace w := w.2 z6
          exact ok138_57 c d Post K12 K20 hK12 hK20 _ _ _ _ w _ hR
def wl138_20 (c : gx) (d : Nat) (Post : Option Value → gs → Prop) (K12 : Int32 → Int32 → gs → Prop) : Nat → Int32 → Int32 → Int32 → gs → Prop
  | 0 => fun _ _ _ _ => False
  | n + 1 => wb138_20 c d Post K12 (wl138_20 c d Post K12 n)
theorem okl138_20 (c : gx) (d : Nat) (Post : Option Value → gs → Prop) (K12 : Int32 → Int32 → gs → Prop) (hK12 : ∀ (x1 : Int32) (x2 : Int32) (s : gs), K12 x1 x2 s → tV c d 138 12 [some (.ref 0), some (.int x1), some (.int x2), none] [] s Post) : ∀ (n : Nat) (x1 : Int32) (x2 : Int32) (x3 : Int32) (s : gs), wl138_20 c d Post K12 n x1 x2 x3 s → tV c d 138 20 [some (.ref 0), some (.int x1), some (.int x2), some (.int x3)] [] s Post
  | 0, _, _, _, _, w => w.elim
  | n + 1, x1, x2, x3, s, w => okb138_20 c d Post K12 (wl138_20 c d Post K12 n) hK12 (okl138_20 c d Post K12 hK12 n) x1 x2 x3 s w
def wb138_12 (c : gx) (d : Nat) (Post : Option Value → gs → Prop) (K12 : Int32 → Int32 → gs → Prop) (x1 : Int32) (x2 : Int32) (s : gs) : Prop :=
  ((9 < x2 → Post (some (.int x1)) s) ∧ (¬ (9 < x2) → ∃ n, wl138_20 c d Post K12 n x1 x2 0 s))
theorem okb138_12 (c : gx) (d : Nat) (Post : Option Value → gs → Prop) (K12 : Int32 → Int32 → gs → Prop)  (hK12 : ∀ (x1 : Int32) (x2 : Int32) (s : gs), K12 x1 x2 s → tV c d 138 12 [some (.ref 0), some (.int x1), some (.int x2), none] [] s Post) (x1 : Int32) (x2 : Int32) (s : gs) (w : wb138_12 c d Post K12 x1 x2 s) : tV c d 138 12 [some (.ref 0), some (.int x1), some (.int x2), none] [] s Post := by
  intro h hR
  have hk : ∀ pc i, gm_find gk_138 pc = some i → gm_code (gt_T c.1 c.2.1 c.2.2.1) 138 pc = some i := fun _ _ z => z
  unfold wb138_12 at w
  unfold gV
  refine gw_pst hk 2 (st' := (15, [some (.ref 0), some (.int x1), some (.int x2), none], [.int 9, .int x2], h)) rfl ?_
  refine gw_br (c := 9 < x2) (a := (72, [some (.ref 0), some (.int x1), some (.int x2), none], [], h)) (b := (18, [some (.ref 0), some (.int x1), some (.int x2), none], [], h)) (hk _ _ rfl) rfl ⟨fun z1 => ?_, fun z1 => ?_⟩
  · replace w := w.1 z1
    refine gw_pst hk 1 (st' := (73, [some (.ref 0), some (.int x1), some (.int x2), none], [.int x1], h)) rfl ?_
    exact gw_ret (hk _ _ rfl) rfl ⟨_, hR, w⟩
  · replace w := w.2 z1
    refine gw_pst hk 2 (st' := (20, [some (.ref 0), some (.int x1), some (.int x2), some (.int 0)], [], h)) rfl ?_
    obtain ⟨n, w⟩ := w
    exact okl138_20 c d Post K12 hK12 n _ _ _ _ w _ hR
def wl138_12 (c : gx) (d : Nat) (Post : Option Value → gs → Prop) : Nat → Int32 → Int32 → gs → Prop
  | 0 => fun _ _ _ => False
  | n + 1 => wb138_12 c d Post (wl138_12 c d Post n)
theorem okl138_12 (c : gx) (d : Nat) (Post : Option Value → gs → Prop) : ∀ (n : Nat) (x1 : Int32) (x2 : Int32) (s : gs), wl138_12 c d Post n x1 x2 s → tV c d 138 12 [some (.ref 0), some (.int x1), some (.int x2), none] [] s Post
  | 0, _, _, _, w => w.elim
  | n + 1, x1, x2, s, w => okb138_12 c d Post (wl138_12 c d Post n) (okl138_12 c d Post n) x1 x2 s w
/-- CommandByTurns.rests()I -/
def wm138 (c : gx) (d : Nat) (Post : Option Value → gs → Prop)  (s : gs) : Prop :=
  ∀ s_2 : gs, s_2 = gs_V s 34 1 0 → ∃ n, wl138_12 c d Post n 0 0 s_2
theorem okm138 (c : gx) (d : Nat) (Post : Option Value → gs → Prop)  (s : gs) (w : wm138 c d Post  s) : tE c (d + 1) 138 [.ref 0] s Post := by
  intro h hR
  have hk : ∀ pc i, gm_find gk_138 pc = some i → gm_code (gt_T c.1 c.2.1 c.2.2.1) 138 pc = some i := fun _ _ z => z
  unfold wm138 at w
  refine ge_of (by decide) (Nat.le_of_ble_eq_true rfl) ?_
  show gw (gt_T c.1 c.2.1 c.2.2.1) c.2.2.2 d 138 (0, [some (.ref 0), none, none, none], [], h) _
  refine gw_pst hk 3 (st' := (3, [some (.ref 0), some (.int 0), none, none], [.ref 0], h)) rfl ?_
  refine gw_gf (hk _ _ rfl) (RL_fR (n := 34) hR rfl) ?_
  refine gw_pst hk 1 (st' := (7, [some (.ref 0), some (.int 0), none, none], [.int 0, .ref 34], h)) rfl ?_
  obtain ⟨fs2, e2⟩ := RL_o hR (r := 34) (ci := 5) rfl
  obtain ⟨l2, hR2⟩ := RL_pI (k := 1) (x := 0) hR rfl e2
  refine gw_pf (hk _ _ rfl) e2 l2 rfl ?_
  generalize gm_put h _ _ = h at hR2 ⊢
  obtain ⟨s_2, es2⟩ : ∃ z, z = gs_V s 34 1 0 := ⟨_, rfl⟩
  rw [← es2] at hR2
  replace w := w s_2 es2
  replace hR := hR2
  refine gw_pst hk 2 (st' := (12, [some (.ref 0), some (.int 0), some (.int 0), none], [], h)) rfl ?_
  obtain ⟨n, w⟩ := w
  exact okl138_12 c d Post n _ _ _ w _ hR
def wb139_2 (c : gx) (d : Nat) (Post : Option Value → gs → Prop) (K2 : Int32 → Int32 → Int32 → gs → Prop) (x0 : Int32) (x1 : Int32) (x2 : Int32) (s : gs) : Prop :=
  ((9 < x2 → Post (some (.int 1)) s) ∧ (¬ (9 < x2) → tE c d 140 [.int x2, .int x1] s (fun v2 s_2 => ∃ x_2 : Int32, v2 = some (.int x_2) ∧ tE c d 140 [.int x0, .int x1] s_2 (fun v3 s_3 => ∃ x_3 : Int32, v3 = some (.int x_3) ∧ ((x_2 ≤ x_3 → K2 x0 x1 (x2 + 1) s_3) ∧ (¬ (x_2 ≤ x_3) → Post (some (.int 0)) s_3))))))
theorem okb139_2 (c : gx) (d : Nat) (Post : Option Value → gs → Prop) (K2 : Int32 → Int32 → Int32 → gs → Prop)  (hK2 : ∀ (x0 : Int32) (x1 : Int32) (x2 : Int32) (s : gs), K2 x0 x1 x2 s → tV c d 139 2 [some (.int x0), some (.int x1), some (.int x2)] [] s Post) (x0 : Int32) (x1 : Int32) (x2 : Int32) (s : gs) (w : wb139_2 c d Post K2 x0 x1 x2 s) : tV c d 139 2 [some (.int x0), some (.int x1), some (.int x2)] [] s Post := by
  intro h hR
  have hk : ∀ pc i, gm_find gk_139 pc = some i → gm_code (gt_T c.1 c.2.1 c.2.2.1) 139 pc = some i := fun _ _ z => z
  unfold wb139_2 at w
  unfold gV
  refine gw_pst hk 2 (st' := (5, [some (.int x0), some (.int x1), some (.int x2)], [.int 9, .int x2], h)) rfl ?_
  refine gw_br (c := 9 < x2) (a := (29, [some (.int x0), some (.int x1), some (.int x2)], [], h)) (b := (8, [some (.int x0), some (.int x1), some (.int x2)], [], h)) (hk _ _ rfl) rfl ⟨fun z1 => ?_, fun z1 => ?_⟩
  · replace w := w.1 z1
    refine gw_pst hk 1 (st' := (30, [some (.int x0), some (.int x1), some (.int x2)], [.int 1], h)) rfl ?_
    exact gw_ret (hk _ _ rfl) rfl ⟨_, hR, w⟩
  · replace w := w.2 z1
    refine gw_pst hk 2 (st' := (10, [some (.int x0), some (.int x1), some (.int x2)], [.int x1, .int x2], h)) rfl ?_
    refine gw_call (jj := 140) (As := [.int x2, .int x1]) (rest := []) (hk _ _ rfl) (fun _ => rfl) rfl rfl (Nat.le_of_ble_eq_true rfl) rfl ?_
    refine ge_imp (w h hR) (fun v2 h w => ?_)
    obtain ⟨s_2, hR, x_2, rfl, w⟩ := w
    show gw (gt_T c.1 c.2.1 c.2.2.1) c.2.2.2 d 139 (13, [some (.int x0), some (.int x1), some (.int x2)], [.int x_2], h) _
    refine gw_pst hk 2 (st' := (15, [some (.int x0), some (.int x1), some (.int x2)], [.int x1, .int x0, .int x_2], h)) rfl ?_
    refine gw_call (jj := 140) (As := [.int x0, .int x1]) (rest := [.int x_2]) (hk _ _ rfl) (fun _ => rfl) rfl rfl (Nat.le_of_ble_eq_true rfl) rfl ?_
    refine ge_imp (w h hR) (fun v3 h w => ?_)
    obtain ⟨s_3, hR, x_3, rfl, w⟩ := w
    show gw (gt_T c.1 c.2.1 c.2.2.1) c.2.2.2 d 139 (18, [some (.int x0), some (.int x1), some (.int x2)], [.int x_3, .int x_2], h) _
    refine gw_br (c := x_2 ≤ x_3) (a := (23, [some (.int x0), some (.int x1), some (.int x2)], [], h)) (b := (21, [some (.int x0), some (.int x1), some (.int x2)], [], h)) (hk _ _ rfl) rfl ⟨fun z4 => ?_, fun z4 => ?_⟩
    · replace w := w.1 z4
      refine gw_pst hk 2 (st' := (2, [some (.int x0), some (.int x1), some (.int (x2 + 1))], [], h)) rfl ?_
      exact hK2 _ _ _ _ w _ hR
    · replace w := w.2 z4
      refine gw_pst hk 1 (st' := (22, [some (.int x0), some (.int x1), some (.int x2)], [.int 0], h)) rfl ?_
      exact gw_ret (hk _ _ rfl) rfl ⟨_, hR, w⟩
def wl139_2 (c : gx) (d : Nat) (Post : Option Value → gs → Prop) : Nat → Int32 → Int32 → Int32 → gs → Prop
  | 0 => fun _ _ _ _ => False
  | n + 1 => wb139_2 c d Post (wl139_2 c d Post n)
theorem okl139_2 (c : gx) (d : Nat) (Post : Option Value → gs → Prop) : ∀ (n : Nat) (x0 : Int32) (x1 : Int32) (x2 : Int32) (s : gs), wl139_2 c d Post n x0 x1 x2 s → tV c d 139 2 [some (.int x0), some (.int x1), some (.int x2)] [] s Post
  | 0, _, _, _, _, w => w.elim
  | n + 1, x0, x1, x2, s, w => okb139_2 c d Post (wl139_2 c d Post n) (okl139_2 c d Post n) x0 x1 x2 s w
/-- CommandByTurns.isBestAgainst(II)Z -/
def wm139 (c : gx) (d : Nat) (Post : Option Value → gs → Prop) (x0 : Int32) (x1 : Int32) (s : gs) : Prop :=
  ∃ n, wl139_2 c d Post n x0 x1 0 s
theorem okm139 (c : gx) (d : Nat) (Post : Option Value → gs → Prop) (x0 : Int32) (x1 : Int32) (s : gs) (w : wm139 c d Post x0 x1 s) : tE c (d + 1) 139 [.int x0, .int x1] s Post := by
  intro h hR
  have hk : ∀ pc i, gm_find gk_139 pc = some i → gm_code (gt_T c.1 c.2.1 c.2.2.1) 139 pc = some i := fun _ _ z => z
  unfold wm139 at w
  refine ge_of (by decide) (Nat.le_of_ble_eq_true rfl) ?_
  show gw (gt_T c.1 c.2.1 c.2.2.1) c.2.2.2 d 139 (0, [some (.int x0), some (.int x1), none], [], h) _
  refine gw_pst hk 2 (st' := (2, [some (.int x0), some (.int x1), some (.int 0)], [], h)) rfl ?_
  obtain ⟨n, w⟩ := w
  exact okl139_2 c d Post n _ _ _ _ w _ hR
def w140_35 (c : gx) (d : Nat) (Post : Option Value → gs → Prop) (xs0 : Int32) (s : gs) : Prop :=
  Post (some (.int xs0)) s
theorem ok140_35 (c : gx) (d : Nat) (Post : Option Value → gs → Prop)  (xs0 : Int32) (s : gs) (w : w140_35 c d Post xs0 s) : tV c d 140 35 [none, none, none] [.int xs0] s Post := by
  intro h hR
  have hk : ∀ pc i, gm_find gk_140 pc = some i → gm_code (gt_T c.1 c.2.1 c.2.2.1) 140 pc = some i := fun _ _ z => z
  unfold w140_35 at w
  unfold gV
  exact gw_ret (hk _ _ rfl) rfl ⟨_, hR, w⟩
/-- CommandByTurns.legions(II)I -/
def wm140 (c : gx) (d : Nat) (Post : Option Value → gs → Prop) (x0 : Int32) (x1 : Int32) (s : gs) : Prop :=
  ((9 < (x0 + x1) → ((x0 = x1 → w140_35 c d Post (if 0 < ((if 0 < (9 - x1) then (9 - x1) else 0) - 1) then ((if 0 < (9 - x1) then (9 - x1) else 0) - 1) else 0) s) ∧ (¬ (x0 = x1) → w140_35 c d Post (if 0 < (9 - x1) then (9 - x1) else 0) s))) ∧ (¬ (9 < (x0 + x1)) → Post (some (.int x0)) s))
theorem okm140 (c : gx) (d : Nat) (Post : Option Value → gs → Prop) (x0 : Int32) (x1 : Int32) (s : gs) (w : wm140 c d Post x0 x1 s) : tE c (d + 1) 140 [.int x0, .int x1] s Post := by
  intro h hR
  have hk : ∀ pc i, gm_find gk_140 pc = some i → gm_code (gt_T c.1 c.2.1 c.2.2.1) 140 pc = some i := fun _ _ z => z
  unfold wm140 at w
  refine ge_of (by decide) (Nat.le_of_ble_eq_true rfl) ?_
  show gw (gt_T c.1 c.2.1 c.2.2.1) c.2.2.2 d 140 (0, [some (.int x0), some (.int x1), none], [], h) _
  refine gw_pst hk 4 (st' := (5, [some (.int x0), some (.int x1), none], [.int 9, .int (x0 + x1)], h)) rfl ?_
  refine gw_br (c := 9 < (x0 + x1)) (a := (10, [some (.int x0), some (.int x1), none], [], h)) (b := (8, [some (.int x0), some (.int x1), none], [], h)) (hk _ _ rfl) rfl ⟨fun z1 => ?_, fun z1 => ?_⟩
  · replace w := w.1 z1
    refine gw_pst hk 8 (st' := (21, [some (.int x0), some (.int x1), some (.int (if 0 < (9 - x1) then (9 - x1) else 0))], [.int x1, .int x0], h)) rfl ?_
    refine gw_br (c := x0 = x1) (a := (24, [some (.int x0), some (.int x1), some (.int (if 0 < (9 - x1) then (9 - x1) else 0))], [], h)) (b := (34, [some (.int x0), some (.int x1), some (.int (if 0 < (9 - x1) then (9 - x1) else 0))], [], h)) (hk _ _ rfl) rfl ⟨fun z2 => ?_, fun z2 => ?_⟩
    · replace w := w.1 z2
      refine gw_pst hk 6 (st' := (35, [some (.int x0), some (.int x1), some (.int (if 0 < (9 - x1) then (9 - x1) else 0))], [.int (if 0 < ((if 0 < (9 - x1) then (9 - x1) else 0) - 1) then ((if 0 < (9 - x1) then (9 - x1) else 0) - 1) else 0)], h)) rfl ?_
      refine gw_le (L' := [none, none, none]) (gm_le_n _ (gm_le_n _ (gm_le_n _ gm_le_nil))) ?_
      exact ok140_35 c d Post _ _ w _ hR
    · replace w := w.2 z2
      refine gw_pst hk 1 (st' := (35, [some (.int x0), some (.int x1), some (.int (if 0 < (9 - x1) then (9 - x1) else 0))], [.int (if 0 < (9 - x1) then (9 - x1) else 0)], h)) rfl ?_
      refine gw_le (L' := [none, none, none]) (gm_le_n _ (gm_le_n _ (gm_le_n _ gm_le_nil))) ?_
      exact ok140_35 c d Post _ _ w _ hR
  · replace w := w.2 z1
    refine gw_pst hk 1 (st' := (9, [some (.int x0), some (.int x1), none], [.int x0], h)) rfl ?_
    exact gw_ret (hk _ _ rfl) rfl ⟨_, hR, w⟩
def w141_11 (c : gx) (d : Nat) (Post : Option Value → gs → Prop)  (s : gs) : Prop :=
  Post (some (.int (-1))) s
theorem ok141_11 (c : gx) (d : Nat) (Post : Option Value → gs → Prop)   (s : gs) (w : w141_11 c d Post  s) : tV c d 141 11 [none, none, none, none, none, none, none, none] [] s Post := by
  intro h hR
  have hk : ∀ pc i, gm_find gk_141 pc = some i → gm_code (gt_T c.1 c.2.1 c.2.2.1) 141 pc = some i := fun _ _ z => z
  unfold w141_11 at w
  unfold gV
  refine gw_pst hk 1 (st' := (12, [none, none, none, none, none, none, none, none], [.int (-1)], h)) rfl ?_
  exact gw_ret (hk _ _ rfl) rfl ⟨_, hR, w⟩
def w141_92 (c : gx) (d : Nat) (Post : Option Value → gs → Prop) (K32 : Int32 → Int32 → Int32 → Int32 → gs → Prop) (x2 : Int32) (x3 : Int32) (x4 : Int32) (x5 : Int32) (s : gs) : Prop :=
  tE c d 58 [.ref 16] s (fun v2 s_2 => v2 = none ∧ K32 x2 x3 x4 (x5 + 1) s_2)
theorem ok141_92 (c : gx) (d : Nat) (Post : Option Value → gs → Prop) (K32 : Int32 → Int32 → Int32 → Int32 → gs → Prop)  (hK32 : ∀ (x2 : Int32) (x3 : Int32) (x4 : Int32) (x5 : Int32) (s : gs), K32 x2 x3 x4 x5 s → tV c d 141 32 [some (.ref 0), none, some (.int x2), some (.int x3), some (.int x4), some (.int x5), none, none] [] s Post) (x2 : Int32) (x3 : Int32) (x4 : Int32) (x5 : Int32) (s : gs) (w : w141_92 c d Post K32 x2 x3 x4 x5 s) : tV c d 141 92 [some (.ref 0), none, some (.int x2), some (.int x3), some (.int x4), some (.int x5), none, none] [] s Post := by
  intro h hR
  have hk : ∀ pc i, gm_find gk_141 pc = some i → gm_code (gt_T c.1 c.2.1 c.2.2.1) 141 pc = some i := fun _ _ z => z
  unfold w141_92 at w
  unfold gV
  refine gw_pst hk 1 (st' := (93, [some (.ref 0), none, some (.int x2), some (.int x3), some (.int x4), some (.int x5), none, none], [.ref 0], h)) rfl ?_
  refine gw_gf (hk _ _ rfl) (RL_fR (n := 16) hR rfl) ?_
  obtain ⟨fs2, e2⟩ := RL_o hR (r := 16) (ci := 6) rfl
  refine gw_call (jj := 58) (As := [.ref 16]) (rest := []) (hk _ _ rfl) (fun _ => rfl) rfl rfl (Nat.le_of_ble_eq_true rfl) (gm_rcv_v rfl e2 rfl) ?_
  refine ge_imp (w h hR) (fun v2 h w => ?_)
  obtain ⟨s_2, hR, rfl, w⟩ := w
  show gw (gt_T c.1 c.2.1 c.2.2.1) c.2.2.2 d 141 (99, [some (.ref 0), none, some (.int x2), some (.int x3), some (.int x4), some (.int x5), none, none], [], h) _
  refine gw_pst hk 2 (st' := (32, [some (.ref 0), none, some (.int x2), some (.int x3), some (.int x4), some (.int (x5 + 1)), none, none], [], h)) rfl ?_
  exact hK32 _ _ _ _ _ w _ hR
def wb141_32 (c : gx) (d : Nat) (Post : Option Value → gs → Prop) (K32 : Int32 → Int32 → Int32 → Int32 → gs → Prop) (x2 : Int32) (x3 : Int32) (x4 : Int32) (x5 : Int32) (s : gs) : Prop :=
  ((x2 ≤ x5 → ∀ s_3 : gs, s_3 = gs_V s 34 1 0 → tE c d 44 [.ref 34, .long ((gsV s_3 16 3 : Int32).toInt64)] s_3 (fun v7 s_7 => v7 = none ∧ tE c d 44 [.ref 34, .long ((gsV s_7 16 4 : Int32).toInt64)] s_7 (fun v11 s_11 => v11 = none ∧ tE c d 44 [.ref 34, .long ((gsV s_11 16 5 : Int32).toInt64)] s_11 (fun v15 s_15 => v15 = none ∧ Post (some (.int x3)) s_15)))) ∧ (¬ (x2 ≤ x5) → tE c d 51 [.ref 16, .int (gsV s 16 0)] s (fun v19 s_19 => ∃ x_19 : Int32, v19 = some (.int x_19) ∧ ((x_19 = (-1) → w141_92 c d Post K32 x2 x3 ((x4 * 1103515245) + 12345) x5 s_19) ∧ (¬ (x_19 = (-1)) → tE c d 142 [.ref 0, .int ((((((x4 * 1103515245) + 12345)).toUInt32 >>> ((16 : Int32).toUInt32 &&& Int32.toUInt32 31)).toInt32) - (((((x4 * 1103515245) + 12345)).toUInt32 >>> ((16 : Int32).toUInt32 &&& Int32.toUInt32 31)).toInt32) / 4 * 4), .int x_19] s_19 (fun v21 s_21 => ∃ x_21 : Int32, v21 = some (.int x_21) ∧ w141_92 c d Post K32 x2 (x3 + x_21) ((x4 * 1103515245) + 12345) x5 s_21))))))
theorem okb141_32 (c : gx) (d : Nat) (Post : Option Value → gs → Prop) (K32 : Int32 → Int32 → Int32 → Int32 → gs → Prop)  (hK32 : ∀ (x2 : Int32) (x3 : Int32) (x4 : Int32) (x5 : Int32) (s : gs), K32 x2 x3 x4 x5 s → tV c d 141 32 [some (.ref 0), none, some (.int x2), some (.int x3), some (.int x4), some (.int x5), none, none] [] s Post) (x2 : Int32) (x3 : Int32) (x4 : Int32) (x5 : Int32) (s : gs) (w : wb141_32 c d Post K32 x2 x3 x4 x5 s) : tV c d 141 32 [some (.ref 0), none, some (.int x2), some (.int x3), some (.int x4), some (.int x5), none, none] [] s Post := by
  intro h hR
  have hk : ∀ pc i, gm_find gk_141 pc = some i → gm_code (gt_T c.1 c.2.1 c.2.2.1) 141 pc = some i := fun _ _ z => z
  unfold wb141_32 at w
  unfold gV
  refine gw_pst hk 2 (st' := (35, [some (.ref 0), none, some (.int x2), some (.int x3), some (.int x4), some (.int x5), none, none], [.int x2, .int x5], h)) rfl ?_
  refine gw_br (c := x2 ≤ x5) (a := (105, [some (.ref 0), none, some (.int x2), some (.int x3), some (.int x4), some (.int x5), none, none], [], h)) (b := (38, [some (.ref 0), none, some (.int x2), some (.int x3), some (.int x4), some (.int x5), none, none], [], h)) (hk _ _ rfl) rfl ⟨fun z1 => ?_, fun z1 => ?_⟩
  · replace w := w.1 z1
    refine gw_pst hk 1 (st' := (106, [some (.ref 0), none, some (.int x2), some (.int x3), some (.int x4), some (.int x5), none, none], [.ref 0], h)) rfl ?_
    refine gw_gf (hk _ _ rfl) (RL_fR (n := 34) hR rfl) ?_
    refine gw_pst hk 1 (st' := (110, [some (.ref 0), none, some (.int x2), some (.int x3), some (.int x4), some (.int x5), none, none], [.int 0, .ref 34], h)) rfl ?_
    obtain ⟨fs3, e3⟩ := RL_o hR (r := 34) (ci := 5) rfl
    obtain ⟨l3, hR3⟩ := RL_pI (k := 1) (x := 0) hR rfl e3
    refine gw_pf (hk _ _ rfl) e3 l3 rfl ?_
    generalize gm_put h _ _ = h at hR3 ⊢
    obtain ⟨s_3, es3⟩ : ∃ z, z = gs_V s 34 1 0 := ⟨_, rfl⟩
    rw [← es3] at hR3
    replace w := w s_3 es3
    replace hR := hR3
    refine gw_pst hk 1 (st' := (114, [some (.ref 0), none, some (.int x2), some (.int x3), some (.int x4), some (.int x5), none, none], [.ref 0], h)) rfl ?_
    refine gw_gf (hk _ _ rfl) (RL_fR (n := 34) hR rfl) ?_
    refine gw_pst hk 1 (st' := (118, [some (.ref 0), none, some (.int x2), some (.int x3), some (.int x4), some (.int x5), none, none], [.ref 0, .ref 34], h)) rfl ?_
    refine gw_gf (hk _ _ rfl) (RL_fR (n := 16) hR rfl) ?_
    refine gw_gf (hk _ _ rfl) (RL_fI hR rfl) ?_
    refine gw_pst hk 1 (st' := (125, [some (.ref 0), none, some (.int x2), some (.int x3), some (.int x4), some (.int x5), none, none], [.long ((gsV s_3 16 3 : Int32).toInt64), .ref 34], h)) rfl ?_
    obtain ⟨fs7, e7⟩ := RL_o hR (r := 34) (ci := 5) rfl
    refine gw_call (jj := 44) (As := [.ref 34, .long ((gsV s_3 16 3 : Int32).toInt64)]) (rest := []) (hk _ _ rfl) (fun _ => rfl) rfl rfl (Nat.le_of_ble_eq_true rfl) (gm_rcv_v rfl e7 rfl) ?_
    refine ge_imp (w h hR) (fun v7 h w => ?_)
    obtain ⟨s_7, hR, rfl, w⟩ := w
    show gw (gt_T c.1 c.2.1 c.2.2.1) c.2.2.2 d 141 (128, [some (.ref 0), none, some (.int x2), some (.int x3), some (.int x4), some (.int x5), none, none], [], h) _
    refine gw_pst hk 1 (st' := (129, [some (.ref 0), none, some (.int x2), some (.int x3), some (.int x4), some (.int x5), none, none], [.ref 0], h)) rfl ?_
    refine gw_gf (hk _ _ rfl) (RL_fR (n := 34) hR rfl) ?_
    refine gw_pst hk 1 (st' := (133, [some (.ref 0), none, some (.int x2), some (.int x3), some (.int x4), some (.int x5), none, none], [.ref 0, .ref 34], h)) rfl ?_
    refine gw_gf (hk _ _ rfl) (RL_fR (n := 16) hR rfl) ?_
    refine gw_gf (hk _ _ rfl) (RL_fI hR rfl) ?_
    refine gw_pst hk 1 (st' := (140, [some (.ref 0), none, some (.int x2), some (.int x3), some (.int x4), some (.int x5), none, none], [.long ((gsV s_7 16 4 : Int32).toInt64), .ref 34], h)) rfl ?_
    obtain ⟨fs11, e11⟩ := RL_o hR (r := 34) (ci := 5) rfl
    refine gw_call (jj := 44) (As := [.ref 34, .long ((gsV s_7 16 4 : Int32).toInt64)]) (rest := []) (hk _ _ rfl) (fun _ => rfl) rfl rfl (Nat.le_of_ble_eq_true rfl) (gm_rcv_v rfl e11 rfl) ?_
    refine ge_imp (w h hR) (fun v11 h w => ?_)
    obtain ⟨s_11, hR, rfl, w⟩ := w
    show gw (gt_T c.1 c.2.1 c.2.2.1) c.2.2.2 d 141 (143, [some (.ref 0), none, some (.int x2), some (.int x3), some (.int x4), some (.int x5), none, none], [], h) _
    refine gw_pst hk 1 (st' := (144, [some (.ref 0), none, some (.int x2), some (.int x3), some (.int x4), some (.int x5), none, none], [.ref 0], h)) rfl ?_
    refine gw_gf (hk _ _ rfl) (RL_fR (n := 34) hR rfl) ?_
    refine gw_pst hk 1 (st' := (148, [some (.ref 0), none, some (.int x2), some (.int x3), some (.int x4), some (.int x5), none, none], [.ref 0, .ref 34], h)) rfl ?_
    refine gw_gf (hk _ _ rfl) (RL_fR (n := 16) hR rfl) ?_
    refine gw_gf (hk _ _ rfl) (RL_fI hR rfl) ?_
    refine gw_pst hk 1 (st' := (155, [some (.ref 0), none, some (.int x2), some (.int x3), some (.int x4), some (.int x5), none, none], [.long ((gsV s_11 16 5 : Int32).toInt64), .ref 34], h)) rfl ?_
    obtain ⟨fs15, e15⟩ := RL_o hR (r := 34) (ci := 5) rfl
    refine gw_call (jj := 44) (As := [.ref 34, .long ((gsV s_11 16 5 : Int32).toInt64)]) (rest := []) (hk _ _ rfl) (fun _ => rfl) rfl rfl (Nat.le_of_ble_eq_true rfl) (gm_rcv_v rfl e15 rfl) ?_
    refine ge_imp (w h hR) (fun v15 h w => ?_)
    obtain ⟨s_15, hR, rfl, w⟩ := w
    show gw (gt_T c.1 c.2.1 c.2.2.1) c.2.2.2 d 141 (158, [some (.ref 0), none, some (.int x2), some (.int x3), some (.int x4), some (.int x5), none, none], [], h) _
    refine gw_pst hk 1 (st' := (159, [some (.ref 0), none, some (.int x2), some (.int x3), some (.int x4), some (.int x5), none, none], [.int x3], h)) rfl ?_
    exact gw_ret (hk _ _ rfl) rfl ⟨_, hR, w⟩
  · replace w := w.2 z1
    refine gw_pst hk 10 (st' := (56, [some (.ref 0), none, some (.int x2), some (.int x3), some (.int ((x4 * 1103515245) + 12345)), some (.int x5), none, none], [.int 4, .int (((((x4 * 1103515245) + 12345)).toUInt32 >>> ((16 : Int32).toUInt32 &&& Int32.toUInt32 31)).toInt32)], h)) rfl ?_
    refine gw_irem (hk _ _ rfl) (by decide) ?_ rfl
    refine gw_pst hk 2 (st' := (60, [some (.ref 0), none, some (.int x2), some (.int x3), some (.int ((x4 * 1103515245) + 12345)), some (.int x5), some (.int ((((((x4 * 1103515245) + 12345)).toUInt32 >>> ((16 : Int32).toUInt32 &&& Int32.toUInt32 31)).toInt32) - (((((x4 * 1103515245) + 12345)).toUInt32 >>> ((16 : Int32).toUInt32 &&& Int32.toUInt32 31)).toInt32) / 4 * 4)), none], [.ref 0], h)) rfl ?_
    refine gw_gf (hk _ _ rfl) (RL_fR (n := 16) hR rfl) ?_
    refine gw_pst hk 1 (st' := (64, [some (.ref 0), none, some (.int x2), some (.int x3), some (.int ((x4 * 1103515245) + 12345)), some (.int x5), some (.int ((((((x4 * 1103515245) + 12345)).toUInt32 >>> ((16 : Int32).toUInt32 &&& Int32.toUInt32 31)).toInt32) - (((((x4 * 1103515245) + 12345)).toUInt32 >>> ((16 : Int32).toUInt32 &&& Int32.toUInt32 31)).toInt32) / 4 * 4)), none], [.ref 0, .ref 16], h)) rfl ?_
    refine gw_gf (hk _ _ rfl) (RL_fR (n := 16) hR rfl) ?_
    refine gw_gf (hk _ _ rfl) (RL_fI hR rfl) ?_
    obtain ⟨fs19, e19⟩ := RL_o hR (r := 16) (ci := 6) rfl
    refine gw_call (jj := 51) (As := [.ref 16, .int (gsV s 16 0)]) (rest := []) (hk _ _ rfl) (fun _ => rfl) rfl rfl (Nat.le_of_ble_eq_true rfl) (gm_rcv_v rfl e19 rfl) ?_
    refine ge_imp (w h hR) (fun v19 h w => ?_)
    obtain ⟨s_19, hR, x_19, rfl, w⟩ := w
    show gw (gt_T c.1 c.2.1 c.2.2.1) c.2.2.2 d 141 (73, [some (.ref 0), none, some (.int x2), some (.int x3), some (.int ((x4 * 1103515245) + 12345)), some (.int x5), some (.int ((((((x4 * 1103515245) + 12345)).toUInt32 >>> ((16 : Int32).toUInt32 &&& Int32.toUInt32 31)).toInt32) - (((((x4 * 1103515245) + 12345)).toUInt32 >>> ((16 : Int32).toUInt32 &&& Int32.toUInt32 31)).toInt32) / 4 * 4)), none], [.int x_19], h) _
    refine gw_pst hk 3 (st' := (78, [some (.ref 0), none, some (.int x2), some (.int x3), some (.int ((x4 * 1103515245) + 12345)), some (.int x5), some (.int ((((((x4 * 1103515245) + 12345)).toUInt32 >>> ((16 : Int32).toUInt32 &&& Int32.toUInt32 31)).toInt32) - (((((x4 * 1103515245) + 12345)).toUInt32 >>> ((16 : Int32).toUInt32 &&& Int32.toUInt32 31)).toInt32) / 4 * 4)), some (.int x_19)], [.int (-1), .int x_19], h)) rfl ?_
    refine gw_br (c := x_19 = (-1)) (a := (92, [some (.ref 0), none, some (.int x2), some (.int x3), some (.int ((x4 * 1103515245) + 12345)), some (.int x5), some (.int ((((((x4 * 1103515245) + 12345)).toUInt32 >>> ((16 : Int32).toUInt32 &&& Int32.toUInt32 31)).toInt32) - (((((x4 * 1103515245) + 12345)).toUInt32 >>> ((16 : Int32).toUInt32 &&& Int32.toUInt32 31)).toInt32) / 4 * 4)), some (.int x_19)], [], h)) (b := (81, [some (.ref 0), none, some (.int x2), some (.int x3), some (.int ((x4 * 1103515245) + 12345)), some (.int x5), some (.int ((((((x4 * 1103515245) + 12345)).toUInt32 >>> ((16 : Int32).toUInt32 &&& Int32.toUInt32 31)).toInt32) - (((((x4 * 1103515245) + 12345)).toUInt32 >>> ((16 : Int32).toUInt32 &&& Int32.toUInt32 31)).toInt32) / 4 * 4)), some (.int x_19)], [], h)) (hk _ _ rfl) rfl ⟨fun z20 => ?_, fun z20 => ?_⟩
    · replace w := w.1 z20
      refine gw_le (L' := [some (.ref 0), none, some (.int x2), some (.int x3), some (.int ((x4 * 1103515245) + 12345)), some (.int x5), none, none]) (gm_le_k _ (gm_le_k _ (gm_le_k _ (gm_le_k _ (gm_le_k _ (gm_le_k _ (gm_le_n _ (gm_le_n _ gm_le_nil)))))))) ?_
      exact ok141_92 c d Post K32 hK32 _ _ _ _ _ w _ hR
    · replace w := w.2 z20
      refine gw_pst hk 4 (st' := (87, [some (.ref 0), none, some (.int x2), some (.int x3), some (.int ((x4 * 1103515245) + 12345)), some (.int x5), some (.int ((((((x4 * 1103515245) + 12345)).toUInt32 >>> ((16 : Int32).toUInt32 &&& Int32.toUInt32 31)).toInt32) - (((((x4 * 1103515245) + 12345)).toUInt32 >>> ((16 : Int32).toUInt32 &&& Int32.toUInt32 31)).toInt32) / 4 * 4)), some (.int x_19)], [.int x_19, .int ((((((x4 * 1103515245) + 12345)).toUInt32 >>> ((16 : Int32).toUInt32 &&& Int32.toUInt32 31)).toInt32) - (((((x4 * 1103515245) + 12345)).toUInt32 >>> ((16 : Int32).toUInt32 &&& Int32.toUInt32 31)).toInt32) / 4 * 4), .ref 0, .int x3], h)) rfl ?_
      obtain ⟨fs21, e21⟩ := RL_o hR (r := 0) (ci := 9) rfl
      refine gw_call (jj := 142) (As := [.ref 0, .int ((((((x4 * 1103515245) + 12345)).toUInt32 >>> ((16 : Int32).toUInt32 &&& Int32.toUInt32 31)).toInt32) - (((((x4 * 1103515245) + 12345)).toUInt32 >>> ((16 : Int32).toUInt32 &&& Int32.toUInt32 31)).toInt32) / 4 * 4), .int x_19]) (rest := [.int x3]) (hk _ _ rfl) (fun _ => rfl) rfl rfl (Nat.le_of_ble_eq_true rfl) (gm_rcv_v rfl e21 rfl) ?_
      refine ge_imp (w h hR) (fun v21 h w => ?_)
      obtain ⟨s_21, hR, x_21, rfl, w⟩ := w
      show gw (gt_T c.1 c.2.1 c.2.2.1) c.2.2.2 d 141 (90, [some (.ref 0), none, some (.int x2), some (.int x3), some (.int ((x4 * 1103515245) + 12345)), some (.int x5), some (.int ((((((x4 * 1103515245) + 12345)).toUInt32 >>> ((16 : Int32).toUInt32 &&& Int32.toUInt32 31)).toInt32) - (((((x4 * 1103515245) + 12345)).toUInt32 >>> ((16 : Int32).toUInt32 &&& Int32.toUInt32 31)).toInt32) / 4 * 4)), some (.int x_19)], [.int x_21, .int x3], h) _
      refine gw_pst hk 2 (st' := (92, [some (.ref 0), none, some (.int x2), some (.int (x3 + x_21)), some (.int ((x4 * 1103515245) + 12345)), some (.int x5), some (.int ((((((x4 * 1103515245) + 12345)).toUInt32 >>> ((16 : Int32).toUInt32 &&& Int32.toUInt32 31)).toInt32) - (((((x4 * 1103515245) + 12345)).toUInt32 >>> ((16 : Int32).toUInt32 &&& Int32.toUInt32 31)).toInt32) / 4 * 4)), some (.int x_19)], [], h)) rfl ?_
      refine gw_le (L' := [some (.ref 0), none, some (.int x2), some (.int (x3 + x_21)), some (.int ((x4 * 1103515245) + 12345)), some (.int x5), none, none]) (gm_le_k _ (gm_le_k _ (gm_le_k _ (gm_le_k _ (gm_le_k _ (gm_le_k _ (gm_le_n _ (gm_le_n _ gm_le_nil)))))))) ?_
      exact ok141_92 c d Post K32 hK32 _ _ _ _ _ w _ hR
def wl141_32 (c : gx) (d : Nat) (Post : Option Value → gs → Prop) : Nat → Int32 → Int32 → Int32 → Int32 → gs → Prop
  | 0 => fun _ _ _ _ _ => False
  | n + 1 => wb141_32 c d Post (wl141_32 c d Post n)
theorem okl141_32 (c : gx) (d : Nat) (Post : Option Value → gs → Prop) : ∀ (n : Nat) (x2 : Int32) (x3 : Int32) (x4 : Int32) (x5 : Int32) (s : gs), wl141_32 c d Post n x2 x3 x4 x5 s → tV c d 141 32 [some (.ref 0), none, some (.int x2), some (.int x3), some (.int x4), some (.int x5), none, none] [] s Post
  | 0, _, _, _, _, _, w => w.elim
  | n + 1, x2, x3, x4, x5, s, w => okb141_32 c d Post (wl141_32 c d Post n) (okl141_32 c d Post n) x2 x3 x4 x5 s w
/-- CommandByTurns.years(II)I -/
def wm141 (c : gx) (d : Nat) (Post : Option Value → gs → Prop) (x1 : Int32) (x2 : Int32) (s : gs) : Prop :=
  ((x2 < 1 → w141_11 c d Post s) ∧ (¬ (x2 < 1) → ((x2 ≤ 60 → tE c d 48 [.ref 16, .ref 14] s (fun v5 s_5 => v5 = none ∧ ∃ n, wl141_32 c d Post n x2 0 x1 0 s_5)) ∧ (¬ (x2 ≤ 60) → w141_11 c d Post s))))
theorem okm141 (c : gx) (d : Nat) (Post : Option Value → gs → Prop) (x1 : Int32) (x2 : Int32) (s : gs) (w : wm141 c d Post x1 x2 s) : tE c (d + 1) 141 [.ref 0, .int x1, .int x2] s Post := by
  intro h hR
  have hk : ∀ pc i, gm_find gk_141 pc = some i → gm_code (gt_T c.1 c.2.1 c.2.2.1) 141 pc = some i := fun _ _ z => z
  unfold wm141 at w
  refine ge_of (by decide) (Nat.le_of_ble_eq_true rfl) ?_
  show gw (gt_T c.1 c.2.1 c.2.2.1) c.2.2.2 d 141 (0, [some (.ref 0), some (.int x1), some (.int x2), none, none, none, none, none], [], h) _
  refine gw_pst hk 2 (st' := (2, [some (.ref 0), some (.int x1), some (.int x2), none, none, none, none, none], [.int 1, .int x2], h)) rfl ?_
  refine gw_br (c := x2 < 1) (a := (11, [some (.ref 0), some (.int x1), some (.int x2), none, none, none, none, none], [], h)) (b := (5, [some (.ref 0), some (.int x1), some (.int x2), none, none, none, none, none], [], h)) (hk _ _ rfl) rfl ⟨fun z1 => ?_, fun z1 => ?_⟩
  · replace w := w.1 z1
    refine gw_le (L' := [none, none, none, none, none, none, none, none]) (gm_le_n _ (gm_le_n _ (gm_le_n _ (gm_le_k _ (gm_le_k _ (gm_le_k _ (gm_le_k _ (gm_le_k _ gm_le_nil)))))))) ?_
    exact ok141_11 c d Post _ w _ hR
  · replace w := w.2 z1
    refine gw_pst hk 2 (st' := (8, [some (.ref 0), some (.int x1), some (.int x2), none, none, none, none, none], [.int 60, .int x2], h)) rfl ?_
    refine gw_br (c := x2 ≤ 60) (a := (13, [some (.ref 0), some (.int x1), some (.int x2), none, none, none, none, none], [], h)) (b := (11, [some (.ref 0), some (.int x1), some (.int x2), none, none, none, none, none], [], h)) (hk _ _ rfl) rfl ⟨fun z2 => ?_, fun z2 => ?_⟩
    · replace w := w.1 z2
      refine gw_pst hk 1 (st' := (14, [some (.ref 0), some (.int x1), some (.int x2), none, none, none, none, none], [.ref 0], h)) rfl ?_
      refine gw_gf (hk _ _ rfl) (RL_fR (n := 16) hR rfl) ?_
      refine gw_pst hk 1 (st' := (18, [some (.ref 0), some (.int x1), some (.int x2), none, none, none, none, none], [.ref 0, .ref 16], h)) rfl ?_
      refine gw_gf (hk _ _ rfl) (RL_fR (n := 14) hR rfl) ?_
      obtain ⟨fs5, e5⟩ := RL_o hR (r := 16) (ci := 6) rfl
      refine gw_call (jj := 48) (As := [.ref 16, .ref 14]) (rest := []) (hk _ _ rfl) (fun _ => rfl) rfl rfl (Nat.le_of_ble_eq_true rfl) (gm_rcv_v rfl e5 rfl) ?_
      refine ge_imp (w h hR) (fun v5 h w => ?_)
      obtain ⟨s_5, hR, rfl, w⟩ := w
      show gw (gt_T c.1 c.2.1 c.2.2.1) c.2.2.2 d 141 (24, [some (.ref 0), some (.int x1), some (.int x2), none, none, none, none, none], [], h) _
      refine gw_pst hk 6 (st' := (32, [some (.ref 0), some (.int x1), some (.int x2), some (.int 0), some (.int x1), some (.int 0), none, none], [], h)) rfl ?_
      refine gw_le (L' := [some (.ref 0), none, some (.int x2), some (.int 0), some (.int x1), some (.int 0), none, none]) (gm_le_k _ (gm_le_n _ (gm_le_k _ (gm_le_k _ (gm_le_k _ (gm_le_k _ (gm_le_k _ (gm_le_k _ gm_le_nil)))))))) ?_
      obtain ⟨n, w⟩ := w
      exact okl141_32 c d Post n _ _ _ _ _ w _ hR
    · replace w := w.2 z2
      refine gw_le (L' := [none, none, none, none, none, none, none, none]) (gm_le_n _ (gm_le_n _ (gm_le_n _ (gm_le_k _ (gm_le_k _ (gm_le_k _ (gm_le_k _ (gm_le_k _ gm_le_nil)))))))) ?_
      exact ok141_11 c d Post _ w _ hR
def w142_204 (c : gx) (d : Nat) (Post : Option Value → gs → Prop)  (s : gs) : Prop :=
  Post (some (.int 0)) s
theorem ok142_204 (c : gx) (d : Nat) (Post : Option Value → gs → Prop)   (s : gs) (w : w142_204 c d Post  s) : tV c d 142 204 [none, none, none, none, none] [] s Post := by
  intro h hR
  have hk : ∀ pc i, gm_find gk_142 pc = some i → gm_code (gt_T c.1 c.2.1 c.2.2.1) 142 pc = some i := fun _ _ z => z
  unfold w142_204 at w
  unfold gV
  refine gw_pst hk 1 (st' := (205, [none, none, none, none, none], [.int 0], h)) rfl ?_
  exact gw_ret (hk _ _ rfl) rfl ⟨_, hR, w⟩
def w142_124 (c : gx) (d : Nat) (Post : Option Value → gs → Prop)  (s : gs) : Prop :=
  w142_204 c d Post s
theorem ok142_124 (c : gx) (d : Nat) (Post : Option Value → gs → Prop)   (s : gs) (w : w142_124 c d Post  s) : tV c d 142 124 [none, none, none, none, none] [] s Post := by
  intro h hR
  have hk : ∀ pc i, gm_find gk_142 pc = some i → gm_code (gt_T c.1 c.2.1 c.2.2.1) 142 pc = some i := fun _ _ z => z
  unfold w142_124 at w
  unfold gV
  refine gw_pst hk 1 (st' := (204, [none, none, none, none, none], [], h)) rfl ?_
  exact ok142_204 c d Post _ w _ hR
def w142_88 (c : gx) (d : Nat) (Post : Option Value → gs → Prop) (xs0 : Int32) (s : gs) : Prop :=
  tE c d 14 [.ref 3, .int ((gsV s 16 1) + xs0)] s (fun v4 s_4 => ∃ x_4 : Int32, v4 = some (.int x_4) ∧ ((x_4 = 0 → w142_124 c d Post s_4) ∧ (¬ (x_4 = 0) → ∀ s_8 : gs, s_8 = gs_V s_4 16 1 ((gsV s_4 16 1) + xs0) → w142_124 c d Post s_8)))
theorem ok142_88 (c : gx) (d : Nat) (Post : Option Value → gs → Prop)  (xs0 : Int32) (s : gs) (w : w142_88 c d Post xs0 s) : tV c d 142 88 [some (.ref 0), none, none, none, none] [.int xs0] s Post := by
  intro h hR
  have hk : ∀ pc i, gm_find gk_142 pc = some i → gm_code (gt_T c.1 c.2.1 c.2.2.1) 142 pc = some i := fun _ _ z => z
  unfold w142_88 at w
  unfold gV
  refine gw_pst hk 2 (st' := (91, [some (.ref 0), none, none, none, some (.int xs0)], [.ref 0], h)) rfl ?_
  refine gw_gf (hk _ _ rfl) (RL_fR (n := 3) hR rfl) ?_
  refine gw_pst hk 1 (st' := (95, [some (.ref 0), none, none, none, some (.int xs0)], [.ref 0, .ref 3], h)) rfl ?_
  refine gw_gf (hk _ _ rfl) (RL_fR (n := 16) hR rfl) ?_
  refine gw_gf (hk _ _ rfl) (RL_fI hR rfl) ?_
  refine gw_pst hk 2 (st' := (104, [some (.ref 0), none, none, none, some (.int xs0)], [.int ((gsV s 16 1) + xs0), .ref 3], h)) rfl ?_
  obtain ⟨fs4, e4⟩ := RL_o hR (r := 3) (ci := 1) rfl
  refine gw_call (jj := 14) (As := [.ref 3, .int ((gsV s 16 1) + xs0)]) (rest := []) (hk _ _ rfl) (fun _ => rfl) rfl rfl (Nat.le_of_ble_eq_true rfl) (gm_rcv_v rfl e4 rfl) ?_
  refine ge_imp (w h hR) (fun v4 h w => ?_)
  obtain ⟨s_4, hR, x_4, rfl, w⟩ := w
  show gw (gt_T c.1 c.2.1 c.2.2.1) c.2.2.2 d 142 (107, [some (.ref 0), none, none, none, some (.int xs0)], [.int x_4], h) _
  refine gw_br (c := x_4 = 0) (a := (124, [some (.ref 0), none, none, none, some (.int xs0)], [], h)) (b := (110, [some (.ref 0), none, none, none, some (.int xs0)], [], h)) (hk _ _ rfl) rfl ⟨fun z5 => ?_, fun z5 => ?_⟩
  · replace w := w.1 z5
    refine gw_le (L' := [none, none, none, none, none]) (gm_le_n _ (gm_le_k _ (gm_le_k _ (gm_le_k _ (gm_le_n _ gm_le_nil))))) ?_
    exact ok142_124 c d Post _ w _ hR
  · replace w := w.2 z5
    refine gw_pst hk 1 (st' := (111, [some (.ref 0), none, none, none, some (.int xs0)], [.ref 0], h)) rfl ?_
    refine gw_gf (hk _ _ rfl) (RL_fR (n := 16) hR rfl) ?_
    refine gw_pst hk 1 (st' := (115, [some (.ref 0), none, none, none, some (.int xs0)], [.ref 16, .ref 16], h)) rfl ?_
    refine gw_gf (hk _ _ rfl) (RL_fI hR rfl) ?_
    refine gw_pst hk 2 (st' := (121, [some (.ref 0), none, none, none, some (.int xs0)], [.int ((gsV s_4 16 1) + xs0), .ref 16], h)) rfl ?_
    obtain ⟨fs8, e8⟩ := RL_o hR (r := 16) (ci := 6) rfl
    obtain ⟨l8, hR8⟩ := RL_pI (k := 1) (x := (gsV s_4 16 1) + xs0) hR rfl e8
    refine gw_pf (hk _ _ rfl) e8 l8 rfl ?_
    generalize gm_put h _ _ = h at hR8 ⊢
    obtain ⟨s_8, es8⟩ : ∃ z, z = gs_V s_4 16 1 ((gsV s_4 16 1) + xs0) := ⟨_, rfl⟩
    rw [← es8] at hR8
    replace w := w s_8 es8
    replace hR := hR8
    refine gw_le (L' := [none, none, none, none, none]) (gm_le_n _ (gm_le_k _ (gm_le_k _ (gm_le_k _ (gm_le_n _ gm_le_nil))))) ?_
    exact ok142_124 c d Post _ w _ hR
def w142_60 (c : gx) (d : Nat) (Post : Option Value → gs → Prop) (x1 : Int32) (x2 : Int32) (x3 : Int32) (s : gs) : Prop :=
  ((x1 = 1 → (((gsV s 16 1) = (gsV s 16 2) → w142_88 c d Post (-1) s) ∧ (¬ ((gsV s 16 1) = (gsV s 16 2)) → w142_88 c d Post (-x3) s))) ∧ (¬ (x1 = 1) → ((x1 = 2 → tE c d 16 [.int (gsV s 16 1), .int (gsV s 16 2)] s (fun v12 s_12 => ∃ x_12 : Int32, v12 = some (.int x_12) ∧ ((x_12 = 0 → w142_204 c d Post s_12) ∧ (¬ (x_12 = 0) → (((gsV s_12 16 3) ≤ 0 → w142_204 c d Post s_12) ∧ (¬ ((gsV s_12 16 3) ≤ 0) → (((gsV s_12 16 4) ≤ 0 → w142_204 c d Post s_12) ∧ (¬ ((gsV s_12 16 4) ≤ 0) → tE c d 150 [.ref 0, .ref 16, .int (gsV s_12 16 1), .int x2, .int (gsV s_12 16 0)] s_12 (fun v26 s_26 => ∃ x_26 : Int32, v26 = some (.int x_26) ∧ tE c d 56 [.ref 16, .int x_26] s_26 (fun v27 s_27 => v27 = none ∧ Post (some (.int 1)) s_27)))))))))) ∧ (¬ (x1 = 2) → w142_204 c d Post s))))
theorem ok142_60 (c : gx) (d : Nat) (Post : Option Value → gs → Prop)  (x1 : Int32) (x2 : Int32) (x3 : Int32) (s : gs) (w : w142_60 c d Post x1 x2 x3 s) : tV c d 142 60 [some (.ref 0), some (.int x1), some (.int x2), some (.int x3), none] [] s Post := by
  intro h hR
  have hk : ∀ pc i, gm_find gk_142 pc = some i → gm_code (gt_T c.1 c.2.1 c.2.2.1) 142 pc = some i := fun _ _ z => z
  unfold w142_60 at w
  unfold gV
  refine gw_pst hk 2 (st' := (62, [some (.ref 0), some (.int x1), some (.int x2), some (.int x3), none], [.int 1, .int x1], h)) rfl ?_
  refine gw_br (c := x1 = 1) (a := (65, [some (.ref 0), some (.int x1), some (.int x2), some (.int x3), none], [], h)) (b := (127, [some (.ref 0), some (.int x1), some (.int x2), some (.int x3), none], [], h)) (hk _ _ rfl) rfl ⟨fun z1 => ?_, fun z1 => ?_⟩
  · replace w := w.1 z1
    refine gw_pst hk 1 (st' := (66, [some (.ref 0), some (.int x1), some (.int x2), some (.int x3), none], [.ref 0], h)) rfl ?_
    refine gw_gf (hk _ _ rfl) (RL_fR (n := 16) hR rfl) ?_
    refine gw_gf (hk _ _ rfl) (RL_fI hR rfl) ?_
    refine gw_pst hk 1 (st' := (73, [some (.ref 0), some (.int x1), some (.int x2), some (.int x3), none], [.ref 0, .int (gsV s 16 1)], h)) rfl ?_
    refine gw_gf (hk _ _ rfl) (RL_fR (n := 16) hR rfl) ?_
    refine gw_gf (hk _ _ rfl) (RL_fI hR rfl) ?_
    refine gw_br (c := (gsV s 16 1) = (gsV s 16 2)) (a := (82, [some (.ref 0), some (.int x1), some (.int x2), some (.int x3), none], [], h)) (b := (86, [some (.ref 0), some (.int x1), some (.int x2), some (.int x3), none], [], h)) (hk _ _ rfl) rfl ⟨fun z6 => ?_, fun z6 => ?_⟩
    · replace w := w.1 z6
      refine gw_pst hk 2 (st' := (88, [some (.ref 0), some (.int x1), some (.int x2), some (.int x3), none], [.int (-1)], h)) rfl ?_
      refine gw_le (L' := [some (.ref 0), none, none, none, none]) (gm_le_k _ (gm_le_n _ (gm_le_n _ (gm_le_n _ (gm_le_k _ gm_le_nil))))) ?_
      exact ok142_88 c d Post _ _ w _ hR
    · replace w := w.2 z6
      refine gw_pst hk 2 (st' := (88, [some (.ref 0), some (.int x1), some (.int x2), some (.int x3), none], [.int (-x3)], h)) rfl ?_
      refine gw_le (L' := [some (.ref 0), none, none, none, none]) (gm_le_k _ (gm_le_n _ (gm_le_n _ (gm_le_n _ (gm_le_k _ gm_le_nil))))) ?_
      exact ok142_88 c d Post _ _ w _ hR
  · replace w := w.2 z1
    refine gw_pst hk 2 (st' := (129, [some (.ref 0), some (.int x1), some (.int x2), some (.int x3), none], [.int 2, .int x1], h)) rfl ?_
    refine gw_br (c := x1 = 2) (a := (132, [some (.ref 0), some (.int x1), some (.int x2), some (.int x3), none], [], h)) (b := (204, [some (.ref 0), some (.int x1), some (.int x2), some (.int x3), none], [], h)) (hk _ _ rfl) rfl ⟨fun z7 => ?_, fun z7 => ?_⟩
    · replace w := w.1 z7
      refine gw_pst hk 1 (st' := (133, [some (.ref 0), some (.int x1), some (.int x2), some (.int x3), none], [.ref 0], h)) rfl ?_
      refine gw_gf (hk _ _ rfl) (RL_fR (n := 16) hR rfl) ?_
      refine gw_gf (hk _ _ rfl) (RL_fI hR rfl) ?_
      refine gw_pst hk 1 (st' := (140, [some (.ref 0), some (.int x1), some (.int x2), some (.int x3), none], [.ref 0, .int (gsV s 16 1)], h)) rfl ?_
      refine gw_gf (hk _ _ rfl) (RL_fR (n := 16) hR rfl) ?_
      refine gw_gf (hk _ _ rfl) (RL_fI hR rfl) ?_
      refine gw_call (jj := 16) (As := [.int (gsV s 16 1), .int (gsV s 16 2)]) (rest := []) (hk _ _ rfl) (fun _ => rfl) rfl rfl (Nat.le_of_ble_eq_true rfl) rfl ?_
      refine ge_imp (w h hR) (fun v12 h w => ?_)
      obtain ⟨s_12, hR, x_12, rfl, w⟩ := w
      show gw (gt_T c.1 c.2.1 c.2.2.1) c.2.2.2 d 142 (149, [some (.ref 0), some (.int x1), some (.int x2), some (.int x3), none], [.int x_12], h) _
      refine gw_br (c := x_12 = 0) (a := (204, [some (.ref 0), some (.int x1), some (.int x2), some (.int x3), none], [], h)) (b := (152, [some (.ref 0), some (.int x1), some (.int x2), some (.int x3), none], [], h)) (hk _ _ rfl) rfl ⟨fun z13 => ?_, fun z13 => ?_⟩
      · replace w := w.1 z13
        refine gw_le (L' := [none, none, none, none, none]) (gm_le_n _ (gm_le_n _ (gm_le_n _ (gm_le_n _ (gm_le_k _ gm_le_nil))))) ?_
        exact ok142_204 c d Post _ w _ hR
      · replace w := w.2 z13
        refine gw_pst hk 1 (st' := (153, [some (.ref 0), some (.int x1), some (.int x2), some (.int x3), none], [.ref 0], h)) rfl ?_
        refine gw_gf (hk _ _ rfl) (RL_fR (n := 16) hR rfl) ?_
        refine gw_gf (hk _ _ rfl) (RL_fI hR rfl) ?_
        refine gw_br (c := (gsV s_12 16 3) ≤ 0) (a := (204, [some (.ref 0), some (.int x1), some (.int x2), some (.int x3), none], [], h)) (b := (162, [some (.ref 0), some (.int x1), some (.int x2), some (.int x3), none], [], h)) (hk _ _ rfl) rfl ⟨fun z16 => ?_, fun z16 => ?_⟩
        · replace w := w.1 z16
          refine gw_le (L' := [none, none, none, none, none]) (gm_le_n _ (gm_le_n _ (gm_le_n _ (gm_le_n _ (gm_le_k _ gm_le_nil))))) ?_
          exact ok142_204 c d Post _ w _ hR
        · replace w := w.2 z16
          refine gw_pst hk 1 (st' := (163, [some (.ref 0), some (.int x1), some (.int x2), some (.int x3), none], [.ref 0], h)) rfl ?_
          refine gw_gf (hk _ _ rfl) (RL_fR (n := 16) hR rfl) ?_
          refine gw_gf (hk _ _ rfl) (RL_fI hR rfl) ?_
          refine gw_br (c := (gsV s_12 16 4) ≤ 0) (a := (204, [some (.ref 0), some (.int x1), some (.int x2), some (.int x3), none], [], h)) (b := (172, [some (.ref 0), some (.int x1), some (.int x2), some (.int x3), none], [], h)) (hk _ _ rfl) rfl ⟨fun z19 => ?_, fun z19 => ?_⟩
          · replace w := w.1 z19
            refine gw_le (L' := [none, none, none, none, none]) (gm_le_n _ (gm_le_n _ (gm_le_n _ (gm_le_n _ (gm_le_k _ gm_le_nil))))) ?_
            exact ok142_204 c d Post _ w _ hR
          · replace w := w.2 z19
            refine gw_pst hk 1 (st' := (173, [some (.ref 0), some (.int x1), some (.int x2), some (.int x3), none], [.ref 0], h)) rfl ?_
            refine gw_gf (hk _ _ rfl) (RL_fR (n := 16) hR rfl) ?_
            refine gw_pst hk 2 (st' := (178, [some (.ref 0), some (.int x1), some (.int x2), some (.int x3), none], [.ref 0, .ref 0, .ref 16], h)) rfl ?_
            refine gw_gf (hk _ _ rfl) (RL_fR (n := 16) hR rfl) ?_
            refine gw_pst hk 1 (st' := (182, [some (.ref 0), some (.int x1), some (.int x2), some (.int x3), none], [.ref 0, .ref 16, .ref 0, .ref 16], h)) rfl ?_
            refine gw_gf (hk _ _ rfl) (RL_fR (n := 16) hR rfl) ?_
            refine gw_gf (hk _ _ rfl) (RL_fI hR rfl) ?_
            refine gw_pst hk 2 (st' := (190, [some (.ref 0), some (.int x1), some (.int x2), some (.int x3), none], [.ref 0, .int x2, .int (gsV s_12 16 1), .ref 16, .ref 0, .ref 16], h)) rfl ?_
            refine gw_gf (hk _ _ rfl) (RL_fR (n := 16) hR rfl) ?_
            refine gw_gf (hk _ _ rfl) (RL_fI hR rfl) ?_
            obtain ⟨fs26, e26⟩ := RL_o hR (r := 0) (ci := 9) rfl
            refine gw_call (jj := 150) (As := [.ref 0, .ref 16, .int (gsV s_12 16 1), .int x2, .int (gsV s_12 16 0)]) (rest := [.ref 16]) (hk _ _ rfl) (fun _ => rfl) rfl rfl (Nat.le_of_ble_eq_true rfl) (gm_rcv_v rfl e26 rfl) ?_
            refine ge_imp (w h hR) (fun v26 h w => ?_)
            obtain ⟨s_26, hR, x_26, rfl, w⟩ := w
            show gw (gt_T c.1 c.2.1 c.2.2.1) c.2.2.2 d 142 (199, [some (.ref 0), some (.int x1), some (.int x2), some (.int x3), none], [.int x_26, .ref 16], h) _
            obtain ⟨fs27, e27⟩ := RL_o hR (r := 16) (ci := 6) rfl
            refine gw_call (jj := 56) (As := [.ref 16, .int x_26]) (rest := []) (hk _ _ rfl) (fun _ => rfl) rfl rfl (Nat.le_of_ble_eq_true rfl) (gm_rcv_v rfl e27 rfl) ?_
            refine ge_imp (w h hR) (fun v27 h w => ?_)
            obtain ⟨s_27, hR, rfl, w⟩ := w
            show gw (gt_T c.1 c.2.1 c.2.2.1) c.2.2.2 d 142 (202, [some (.ref 0), some (.int x1), some (.int x2), some (.int x3), none], [], h) _
            refine gw_pst hk 1 (st' := (203, [some (.ref 0), some (.int x1), some (.int x2), some (.int x3), none], [.int 1], h)) rfl ?_
            exact gw_ret (hk _ _ rfl) rfl ⟨_, hR, w⟩
    · replace w := w.2 z7
      refine gw_le (L' := [none, none, none, none, none]) (gm_le_n _ (gm_le_n _ (gm_le_n _ (gm_le_n _ (gm_le_k _ gm_le_nil))))) ?_
      exact ok142_204 c d Post _ w _ hR
def w142_22 (c : gx) (d : Nat) (Post : Option Value → gs → Prop) (x1 : Int32) (x2 : Int32) (xs0 : Int32) (s : gs) : Prop :=
  ((x1 = 0 → (((gsV s 16 1) = (gsV s 16 2) → w142_60 c d Post x1 x2 xs0 s) ∧ (¬ ((gsV s 16 1) = (gsV s 16 2)) → ∀ s_9 : gs, s_9 = gs_V s 16 1 ((gsV s 16 1) + xs0) → w142_204 c d Post s_9))) ∧ (¬ (x1 = 0) → w142_60 c d Post x1 x2 xs0 s))
theorem ok142_22 (c : gx) (d : Nat) (Post : Option Value → gs → Prop)  (x1 : Int32) (x2 : Int32) (xs0 : Int32) (s : gs) (w : w142_22 c d Post x1 x2 xs0 s) : tV c d 142 22 [some (.ref 0), some (.int x1), some (.int x2), none, none] [.int xs0] s Post := by
  intro h hR
  have hk : ∀ pc i, gm_find gk_142 pc = some i → gm_code (gt_T c.1 c.2.1 c.2.2.1) 142 pc = some i := fun _ _ z => z
  unfold w142_22 at w
  unfold gV
  refine gw_pst hk 2 (st' := (24, [some (.ref 0), some (.int x1), some (.int x2), some (.int xs0), none], [.int x1], h)) rfl ?_
  refine gw_br (c := x1 = 0) (a := (27, [some (.ref 0), some (.int x1), some (.int x2), some (.int xs0), none], [], h)) (b := (60, [some (.ref 0), some (.int x1), some (.int x2), some (.int xs0), none], [], h)) (hk _ _ rfl) rfl ⟨fun z1 => ?_, fun z1 => ?_⟩
  · replace w := w.1 z1
    refine gw_pst hk 1 (st' := (28, [some (.ref 0), some (.int x1), some (.int x2), some (.int xs0), none], [.ref 0], h)) rfl ?_
    refine gw_gf (hk _ _ rfl) (RL_fR (n := 16) hR rfl) ?_
    refine gw_gf (hk _ _ rfl) (RL_fI hR rfl) ?_
    refine gw_pst hk 1 (st' := (35, [some (.ref 0), some (.int x1), some (.int x2), some (.int xs0), none], [.ref 0, .int (gsV s 16 1)], h)) rfl ?_
    refine gw_gf (hk _ _ rfl) (RL_fR (n := 16) hR rfl) ?_
    refine gw_gf (hk _ _ rfl) (RL_fI hR rfl) ?_
    refine gw_br (c := (gsV s 16 1) = (gsV s 16 2)) (a := (60, [some (.ref 0), some (.int x1), some (.int x2), some (.int xs0), none], [], h)) (b := (44, [some (.ref 0), some (.int x1), some (.int x2), some (.int xs0), none], [], h)) (hk _ _ rfl) rfl ⟨fun z6 => ?_, fun z6 => ?_⟩
    · replace w := w.1 z6
      exact ok142_60 c d Post _ _ _ _ w _ hR
    · replace w := w.2 z6
      refine gw_pst hk 1 (st' := (45, [some (.ref 0), some (.int x1), some (.int x2), some (.int xs0), none], [.ref 0], h)) rfl ?_
      refine gw_gf (hk _ _ rfl) (RL_fR (n := 16) hR rfl) ?_
      refine gw_pst hk 1 (st' := (49, [some (.ref 0), some (.int x1), some (.int x2), some (.int xs0), none], [.ref 16, .ref 16], h)) rfl ?_
      refine gw_gf (hk _ _ rfl) (RL_fI hR rfl) ?_
      refine gw_pst hk 2 (st' := (54, [some (.ref 0), some (.int x1), some (.int x2), some (.int xs0), none], [.int ((gsV s 16 1) + xs0), .ref 16], h)) rfl ?_
      obtain ⟨fs9, e9⟩ := RL_o hR (r := 16) (ci := 6) rfl
      obtain ⟨l9, hR9⟩ := RL_pI (k := 1) (x := (gsV s 16 1) + xs0) hR rfl e9
      refine gw_pf (hk _ _ rfl) e9 l9 rfl ?_
      generalize gm_put h _ _ = h at hR9 ⊢
      obtain ⟨s_9, es9⟩ : ∃ z, z = gs_V s 16 1 ((gsV s 16 1) + xs0) := ⟨_, rfl⟩
      rw [← es9] at hR9
      replace w := w s_9 es9
      replace hR := hR9
      refine gw_pst hk 1 (st' := (204, [some (.ref 0), some (.int x1), some (.int x2), some (.int xs0), none], [], h)) rfl ?_
      refine gw_le (L' := [none, none, none, none, none]) (gm_le_n _ (gm_le_n _ (gm_le_n _ (gm_le_n _ (gm_le_k _ gm_le_nil))))) ?_
      exact ok142_204 c d Post _ w _ hR
  · replace w := w.2 z1
    exact ok142_60 c d Post _ _ _ _ w _ hR
/-- CommandByTurns.liveDay(II)I -/
def wm142 (c : gx) (d : Nat) (Post : Option Value → gs → Prop) (x1 : Int32) (x2 : Int32) (s : gs) : Prop :=
  (((gsV s 16 2) ≤ (gsV s 16 1) → w142_22 c d Post x1 x2 (-1) s) ∧ (¬ ((gsV s 16 2) ≤ (gsV s 16 1)) → w142_22 c d Post x1 x2 1 s))
theorem okm142 (c : gx) (d : Nat) (Post : Option Value → gs → Prop) (x1 : Int32) (x2 : Int32) (s : gs) (w : wm142 c d Post x1 x2 s) : tE c (d + 1) 142 [.ref 0, .int x1, .int x2] s Post := by
  intro h hR
  have hk : ∀ pc i, gm_find gk_142 pc = some i → gm_code (gt_T c.1 c.2.1 c.2.2.1) 142 pc = some i := fun _ _ z => z
  unfold wm142 at w
  refine ge_of (by decide) (Nat.le_of_ble_eq_true rfl) ?_
  show gw (gt_T c.1 c.2.1 c.2.2.1) c.2.2.2 d 142 (0, [some (.ref 0), some (.int x1), some (.int x2), none, none], [], h) _
  refine gw_pst hk 1 (st' := (1, [some (.ref 0), some (.int x1), some (.int x2), none, none], [.ref 0], h)) rfl ?_
  refine gw_gf (hk _ _ rfl) (RL_fR (n := 16) hR rfl) ?_
  refine gw_gf (hk _ _ rfl) (RL_fI hR rfl) ?_
  refine gw_pst hk 1 (st' := (8, [some (.ref 0), some (.int x1), some (.int x2), none, none], [.ref 0, .int (gsV s 16 2)], h)) rfl ?_
  refine gw_gf (hk _ _ rfl) (RL_fR (n := 16) hR rfl) ?_
  refine gw_gf (hk _ _ rfl) (RL_fI hR rfl) ?_
  refine gw_br (c := (gsV s 16 2) ≤ (gsV s 16 1)) (a := (21, [some (.ref 0), some (.int x1), some (.int x2), none, none], [], h)) (b := (17, [some (.ref 0), some (.int x1), some (.int x2), none, none], [], h)) (hk _ _ rfl) rfl ⟨fun z5 => ?_, fun z5 => ?_⟩
  · replace w := w.1 z5
    refine gw_pst hk 1 (st' := (22, [some (.ref 0), some (.int x1), some (.int x2), none, none], [.int (-1)], h)) rfl ?_
    exact ok142_22 c d Post _ _ _ _ w _ hR
  · replace w := w.2 z5
    refine gw_pst hk 2 (st' := (22, [some (.ref 0), some (.int x1), some (.int x2), none, none], [.int 1], h)) rfl ?_
    exact ok142_22 c d Post _ _ _ _ w _ hR
def w143_13 (c : gx) (d : Nat) (Post : Option Value → gs → Prop)  (s : gs) : Prop :=
  Post (some (.int 0)) s
theorem ok143_13 (c : gx) (d : Nat) (Post : Option Value → gs → Prop)   (s : gs) (w : w143_13 c d Post  s) : tV c d 143 13 [none, none] [] s Post := by
  intro h hR
  have hk : ∀ pc i, gm_find gk_143 pc = some i → gm_code (gt_T c.1 c.2.1 c.2.2.1) 143 pc = some i := fun _ _ z => z
  unfold w143_13 at w
  unfold gV
  refine gw_pst hk 1 (st' := (14, [none, none], [.int 0], h)) rfl ?_
  exact gw_ret (hk _ _ rfl) rfl ⟨_, hR, w⟩
/-- CommandByTurns.keep(I)Z -/
def wm143 (c : gx) (d : Nat) (Post : Option Value → gs → Prop) (x1 : Int32) (s : gs) : Prop :=
  ((x1 < 0 → w143_13 c d Post s) ∧ (¬ (x1 < 0) → ((x1 < 2 → vp_in x1 2 ∧ gs_isC (31 + 1 + (x1 : Int32).toNatClampNeg) 6 = true ∧ tE c d 48 [.ref (31 + 1 + (x1 : Int32).toNatClampNeg), .ref 14] s (fun v8 s_8 => v8 = none ∧ ∀ s_10 : gs, s_10 = gs_V s_8 0 10 ((gsV s_8 0 10) ||| (1 <<< (x1 &&& 31))) → Post (some (.int 1)) s_10)) ∧ (¬ (x1 < 2) → w143_13 c d Post s))))
theorem okm143 (c : gx) (d : Nat) (Post : Option Value → gs → Prop) (x1 : Int32) (s : gs) (w : wm143 c d Post x1 s) : tE c (d + 1) 143 [.ref 0, .int x1] s Post := by
  intro h hR
  have hk : ∀ pc i, gm_find gk_143 pc = some i → gm_code (gt_T c.1 c.2.1 c.2.2.1) 143 pc = some i := fun _ _ z => z
  unfold wm143 at w
  refine ge_of (by decide) (Nat.le_of_ble_eq_true rfl) ?_
  show gw (gt_T c.1 c.2.1 c.2.2.1) c.2.2.2 d 143 (0, [some (.ref 0), some (.int x1)], [], h) _
  refine gw_pst hk 1 (st' := (1, [some (.ref 0), some (.int x1)], [.int x1], h)) rfl ?_
  refine gw_br (c := x1 < 0) (a := (13, [some (.ref 0), some (.int x1)], [], h)) (b := (4, [some (.ref 0), some (.int x1)], [], h)) (hk _ _ rfl) rfl ⟨fun z1 => ?_, fun z1 => ?_⟩
  · replace w := w.1 z1
    refine gw_le (L' := [none, none]) (gm_le_n _ (gm_le_n _ gm_le_nil)) ?_
    exact ok143_13 c d Post _ w _ hR
  · replace w := w.2 z1
    refine gw_pst hk 2 (st' := (6, [some (.ref 0), some (.int x1)], [.ref 0, .int x1], h)) rfl ?_
    refine gw_gf (hk _ _ rfl) (RL_fR (n := 31) hR rfl) ?_
    refine gw_alen (hk _ _ rfl) (RL_aR (n := 2) hR rfl) (by decide) ?_
    refine gw_br (c := x1 < 2) (a := (15, [some (.ref 0), some (.int x1)], [], h)) (b := (13, [some (.ref 0), some (.int x1)], [], h)) (hk _ _ rfl) rfl ⟨fun z4 => ?_, fun z4 => ?_⟩
    · replace w := w.1 z4
      refine gw_pst hk 1 (st' := (16, [some (.ref 0), some (.int x1)], [.ref 0], h)) rfl ?_
      refine gw_gf (hk _ _ rfl) (RL_fR (n := 31) hR rfl) ?_
      refine gw_pst hk 1 (st' := (20, [some (.ref 0), some (.int x1)], [.int x1, .ref 31], h)) rfl ?_
      obtain ⟨b6, w⟩ := w
      refine gw_aald (hk _ _ rfl) (RL_aR (n := 2) hR rfl) b6 rfl ?_
      refine gw_pst hk 1 (st' := (22, [some (.ref 0), some (.int x1)], [.ref 0, .ref (31 + 1 + (x1 : Int32).toNatClampNeg)], h)) rfl ?_
      refine gw_gf (hk _ _ rfl) (RL_fR (n := 14) hR rfl) ?_
      obtain ⟨z8, w⟩ := w
      obtain ⟨fs8, e8⟩ := RL_o hR (r := (31 + 1 + (x1 : Int32).toNatClampNeg)) (ci := 6) z8
      refine gw_call (jj := 48) (As := [.ref (31 + 1 + (x1 : Int32).toNatClampNeg), .ref 14]) (rest := []) (hk _ _ rfl) (fun _ => rfl) rfl rfl (Nat.le_of_ble_eq_true rfl) (gm_rcv_v rfl e8 rfl) ?_
      refine ge_imp (w h hR) (fun v8 h w => ?_)
      obtain ⟨s_8, hR, rfl, w⟩ := w
      show gw (gt_T c.1 c.2.1 c.2.2.1) c.2.2.2 d 143 (28, [some (.ref 0), some (.int x1)], [], h) _
      refine gw_pst hk 2 (st' := (30, [some (.ref 0), some (.int x1)], [.ref 0, .ref 0], h)) rfl ?_
      refine gw_gf (hk _ _ rfl) (RL_fI hR rfl) ?_
      refine gw_pst hk 4 (st' := (37, [some (.ref 0), some (.int x1)], [.int ((gsV s_8 0 10) ||| (1 <<< (x1 &&& 31))), .ref 0], h)) rfl ?_
      obtain ⟨fs10, e10⟩ := RL_o hR (r := 0) (ci := 9) rfl
      obtain ⟨l10, hR10⟩ := RL_pI (k := 10) (x := (gsV s_8 0 10) ||| (1 <<< (x1 &&& 31))) hR rfl e10
      refine gw_pf (hk _ _ rfl) e10 l10 rfl ?_
      generalize gm_put h _ _ = h at hR10 ⊢
      obtain ⟨s_10, es10⟩ : ∃ z, z = gs_V s_8 0 10 ((gsV s_8 0 10) ||| (1 <<< (x1 &&& 31))) := ⟨_, rfl⟩
      rw [← es10] at hR10
      replace w := w s_10 es10
      replace hR := hR10
      refine gw_pst hk 1 (st' := (41, [some (.ref 0), some (.int x1)], [.int 1], h)) rfl ?_
      exact gw_ret (hk _ _ rfl) rfl ⟨_, hR, w⟩
    · replace w := w.2 z4
      refine gw_le (L' := [none, none]) (gm_le_n _ (gm_le_n _ gm_le_nil)) ?_
      exact ok143_13 c d Post _ w _ hR
def w144_24 (c : gx) (d : Nat) (Post : Option Value → gs → Prop)  (s : gs) : Prop :=
  Post (some (.int 0)) s
theorem ok144_24 (c : gx) (d : Nat) (Post : Option Value → gs → Prop)   (s : gs) (w : w144_24 c d Post  s) : tV c d 144 24 [none, none] [] s Post := by
  intro h hR
  have hk : ∀ pc i, gm_find gk_144 pc = some i → gm_code (gt_T c.1 c.2.1 c.2.2.1) 144 pc = some i := fun _ _ z => z
  unfold w144_24 at w
  unfold gV
  refine gw_pst hk 1 (st' := (25, [none, none], [.int 0], h)) rfl ?_
  exact gw_ret (hk _ _ rfl) rfl ⟨_, hR, w⟩
/-- CommandByTurns.again(I)Z -/
def wm144 (c : gx) (d : Nat) (Post : Option Value → gs → Prop) (x1 : Int32) (s : gs) : Prop :=
  ((x1 < 0 → w144_24 c d Post s) ∧ (¬ (x1 < 0) → ((2 ≤ x1 → w144_24 c d Post s) ∧ (¬ (2 ≤ x1) → ((((gsV s 0 10) &&& (1 <<< (x1 &&& 31))) = 0 → w144_24 c d Post s) ∧ (¬ (((gsV s 0 10) &&& (1 <<< (x1 &&& 31))) = 0) → vp_in x1 2 ∧ tE c d 48 [.ref 14, .ref (31 + 1 + (x1 : Int32).toNatClampNeg)] s (fun v10 s_10 => v10 = none ∧ ∀ s_12 : gs, s_12 = gs_V s_10 17 2 0 → Post (some (.int 1)) s_12)))))))
theorem okm144 (c : gx) (d : Nat) (Post : Option Value → gs → Prop) (x1 : Int32) (s : gs) (w : wm144 c d Post x1 s) : tE c (d + 1) 144 [.ref 0, .int x1] s Post := by
  intro h hR
  have hk : ∀ pc i, gm_find gk_144 pc = some i → gm_code (gt_T c.1 c.2.1 c.2.2.1) 144 pc = some i := fun _ _ z => z
  unfold wm144 at w
  refine ge_of (by decide) (Nat.le_of_ble_eq_true rfl) ?_
  show gw (gt_T c.1 c.2.1 c.2.2.1) c.2.2.2 d 144 (0, [some (.ref 0), some (.int x1)], [], h) _
  refine gw_pst hk 1 (st' := (1, [some (.ref 0), some (.int x1)], [.int x1], h)) rfl ?_
  refine gw_br (c := x1 < 0) (a := (24, [some (.ref 0), some (.int x1)], [], h)) (b := (4, [some (.ref 0), some (.int x1)], [], h)) (hk _ _ rfl) rfl ⟨fun z1 => ?_, fun z1 => ?_⟩
  · replace w := w.1 z1
    refine gw_le (L' := [none, none]) (gm_le_n _ (gm_le_n _ gm_le_nil)) ?_
    exact ok144_24 c d Post _ w _ hR
  · replace w := w.2 z1
    refine gw_pst hk 2 (st' := (6, [some (.ref 0), some (.int x1)], [.ref 0, .int x1], h)) rfl ?_
    refine gw_gf (hk _ _ rfl) (RL_fR (n := 31) hR rfl) ?_
    refine gw_alen (hk _ _ rfl) (RL_aR (n := 2) hR rfl) (by decide) ?_
    refine gw_br (c := 2 ≤ x1) (a := (24, [some (.ref 0), some (.int x1)], [], h)) (b := (13, [some (.ref 0), some (.int x1)], [], h)) (hk _ _ rfl) rfl ⟨fun z4 => ?_, fun z4 => ?_⟩
    · replace w := w.1 z4
      refine gw_le (L' := [none, none]) (gm_le_n _ (gm_le_n _ gm_le_nil)) ?_
      exact ok144_24 c d Post _ w _ hR
    · replace w := w.2 z4
      refine gw_pst hk 1 (st' := (14, [some (.ref 0), some (.int x1)], [.ref 0], h)) rfl ?_
      refine gw_gf (hk _ _ rfl) (RL_fI hR rfl) ?_
      refine gw_pst hk 4 (st' := (21, [some (.ref 0), some (.int x1)], [.int ((gsV s 0 10) &&& (1 <<< (x1 &&& 31)))], h)) rfl ?_
      refine gw_br (c := ((gsV s 0 10) &&& (1 <<< (x1 &&& 31))) = 0) (a := (24, [some (.ref 0), some (.int x1)], [], h)) (b := (26, [some (.ref 0), some (.int x1)], [], h)) (hk _ _ rfl) rfl ⟨fun z6 => ?_, fun z6 => ?_⟩
      · replace w := w.1 z6
        refine gw_le (L' := [none, none]) (gm_le_n _ (gm_le_n _ gm_le_nil)) ?_
        exact ok144_24 c d Post _ w _ hR
      · replace w := w.2 z6
        refine gw_pst hk 1 (st' := (27, [some (.ref 0), some (.int x1)], [.ref 0], h)) rfl ?_
        refine gw_gf (hk _ _ rfl) (RL_fR (n := 14) hR rfl) ?_
        refine gw_pst hk 1 (st' := (31, [some (.ref 0), some (.int x1)], [.ref 0, .ref 14], h)) rfl ?_
        refine gw_gf (hk _ _ rfl) (RL_fR (n := 31) hR rfl) ?_
        refine gw_pst hk 1 (st' := (35, [some (.ref 0), some (.int x1)], [.int x1, .ref 31, .ref 14], h)) rfl ?_
        obtain ⟨b9, w⟩ := w
        refine gw_aald (hk _ _ rfl) (RL_aR (n := 2) hR rfl) b9 rfl ?_
        obtain ⟨fs10, e10⟩ := RL_o hR (r := 14) (ci := 6) rfl
        refine gw_call (jj := 48) (As := [.ref 14, .ref (31 + 1 + (x1 : Int32).toNatClampNeg)]) (rest := []) (hk _ _ rfl) (fun _ => rfl) rfl rfl (Nat.le_of_ble_eq_true rfl) (gm_rcv_v rfl e10 rfl) ?_
        refine ge_imp (w h hR) (fun v10 h w => ?_)
        obtain ⟨s_10, hR, rfl, w⟩ := w
        show gw (gt_T c.1 c.2.1 c.2.2.1) c.2.2.2 d 144 (39, [some (.ref 0), some (.int x1)], [], h) _
        refine gw_pst hk 1 (st' := (40, [some (.ref 0), some (.int x1)], [.ref 0], h)) rfl ?_
        refine gw_gf (hk _ _ rfl) (RL_fR (n := 17) hR rfl) ?_
        refine gw_pst hk 1 (st' := (44, [some (.ref 0), some (.int x1)], [.int 0, .ref 17], h)) rfl ?_
        obtain ⟨fs12, e12⟩ := RL_o hR (r := 17) (ci := 4) rfl
        obtain ⟨l12, hR12⟩ := RL_pI (k := 2) (x := 0) hR rfl e12
        refine gw_pf (hk _ _ rfl) e12 l12 rfl ?_
        generalize gm_put h _ _ = h at hR12 ⊢
        obtain ⟨s_12, es12⟩ : ∃ z, z = gs_V s_10 17 2 0 := ⟨_, rfl⟩
        rw [← es12] at hR12
        replace w := w s_12 es12
        replace hR := hR12
        refine gw_pst hk 1 (st' := (48, [some (.ref 0), some (.int x1)], [.int 1], h)) rfl ?_
        exact gw_ret (hk _ _ rfl) rfl ⟨_, hR, w⟩
def w145_164 (c : gx) (d : Nat) (Post : Option Value → gs → Prop) (xs0 : Int32) (s : gs) : Prop :=
  Post (some (.int xs0)) s
theorem ok145_164 (c : gx) (d : Nat) (Post : Option Value → gs → Prop)  (xs0 : Int32) (s : gs) (w : w145_164 c d Post xs0 s) : tV c d 145 164 [none, none] [.int xs0] s Post := by
  intro h hR
  have hk : ∀ pc i, gm_find gk_145 pc = some i → gm_code (gt_T c.1 c.2.1 c.2.2.1) 145 pc = some i := fun _ _ z => z
  unfold w145_164 at w
  unfold gV
  exact gw_ret (hk _ _ rfl) rfl ⟨_, hR, w⟩
/-- CommandByTurns.count(I)I -/
def wm145 (c : gx) (d : Nat) (Post : Option Value → gs → Prop) (x1 : Int32) (s : gs) : Prop :=
  ((x1 = 0 → Post (some (.int (gsV s 3 2))) s) ∧ (x1 = 1 → Post (some (.int (gsV s 14 0))) s) ∧ (x1 = 2 → Post (some (.int (gsV s 14 1))) s) ∧ (x1 = 3 → Post (some (.int (gsV s 14 2))) s) ∧ (x1 = 4 → Post (some (.int (gsV s 14 3))) s) ∧ (x1 = 5 → Post (some (.int (gsV s 14 4))) s) ∧ (x1 = 6 → Post (some (.int (gsV s 14 5))) s) ∧ (x1 = 7 → tE c d 54 [.ref 14, .int (gsV s 14 0)] s (fun v19 s_19 => ∃ x_19 : Int32, v19 = some (.int x_19) ∧ Post (some (.int x_19)) s_19)) ∧ (x1 = 8 → tE c d 16 [.int (gsV s 14 1), .int (gsV s 14 2)] s (fun v24 s_24 => ∃ x_24 : Int32, v24 = some (.int x_24) ∧ ((x_24 = 0 → w145_164 c d Post 0 s_24) ∧ (¬ (x_24 = 0) → w145_164 c d Post 1 s_24)))) ∧ (x1 = 9 → Post (some (.int (gsV s 41 1))) s) ∧ (x1 = 10 → Post (some (.int (gsV s 17 2))) s) ∧ (x1 = 11 → Post (some (.int (gsV s 34 1))) s) ∧ (x1 = 12 → Post (some (.int (gsV s 1 1))) s) ∧ ((x1 : Int32).toInt < 0 ∨ 12 < (x1 : Int32).toInt → Post (some (.int (-1))) s))
theorem okm145 (c : gx) (d : Nat) (Post : Option Value → gs → Prop) (x1 : Int32) (s : gs) (w : wm145 c d Post x1 s) : tE c (d + 1) 145 [.ref 0, .int x1] s Post := by
  intro h hR
  have hk : ∀ pc i, gm_find gk_145 pc = some i → gm_code (gt_T c.1 c.2.1 c.2.2.1) 145 pc = some i := fun _ _ z => z
  unfold wm145 at w
  refine ge_of (by decide) (Nat.le_of_ble_eq_true rfl) ?_
  show gw (gt_T c.1 c.2.1 c.2.2.1) c.2.2.2 d 145 (0, [some (.ref 0), some (.int x1)], [], h) _
  refine gw_pst hk 1 (st' := (1, [some (.ref 0), some (.int x1)], [.int x1], h)) rfl ?_
  by_cases z1_0 : x1 = 0
  · replace w := w.1 z1_0
    refine gw_swk (st' := (68, [some (.ref 0), some (.int x1)], [], h)) (hk _ _ rfl) z1_0 rfl ?_
    refine gw_pst hk 1 (st' := (69, [some (.ref 0), some (.int x1)], [.ref 0], h)) rfl ?_
    refine gw_gf (hk _ _ rfl) (RL_fR (n := 3) hR rfl) ?_
    refine gw_gf (hk _ _ rfl) (RL_fI hR rfl) ?_
    exact gw_ret (hk _ _ rfl) rfl ⟨_, hR, w⟩
  by_cases z1_1 : x1 = 1
  · replace w := w.2.1 z1_1
    refine gw_swk (st' := (76, [some (.ref 0), some (.int x1)], [], h)) (hk _ _ rfl) z1_1 rfl ?_
    refine gw_pst hk 1 (st' := (77, [some (.ref 0), some (.int x1)], [.ref 0], h)) rfl ?_
    refine gw_gf (hk _ _ rfl) (RL_fR (n := 14) hR rfl) ?_
    refine gw_gf (hk _ _ rfl) (RL_fI hR rfl) ?_
    exact gw_ret (hk _ _ rfl) rfl ⟨_, hR, w⟩
  by_cases z1_2 : x1 = 2
  · replace w := w.2.2.1 z1_2
    refine gw_swk (st' := (84, [some (.ref 0), some (.int x1)], [], h)) (hk _ _ rfl) z1_2 rfl ?_
    refine gw_pst hk 1 (st' := (85, [some (.ref 0), some (.int x1)], [.ref 0], h)) rfl ?_
    refine gw_gf (hk _ _ rfl) (RL_fR (n := 14) hR rfl) ?_
    refine gw_gf (hk _ _ rfl) (RL_fI hR rfl) ?_
    exact gw_ret (hk _ _ rfl) rfl ⟨_, hR, w⟩
  by_cases z1_3 : x1 = 3
  · replace w := w.2.2.2.1 z1_3
    refine gw_swk (st' := (92, [some (.ref 0), some (.int x1)], [], h)) (hk _ _ rfl) z1_3 rfl ?_
    refine gw_pst hk 1 (st' := (93, [some (.ref 0), some (.int x1)], [.ref 0], h)) rfl ?_
    refine gw_gf (hk _ _ rfl) (RL_fR (n := 14) hR rfl) ?_
    refine gw_gf (hk _ _ rfl) (RL_fI hR rfl) ?_
    exact gw_ret (hk _ _ rfl) rfl ⟨_, hR, w⟩
  by_cases z1_4 : x1 = 4
  · replace w := w.2.2.2.2.1 z1_4
    refine gw_swk (st' := (100, [some (.ref 0), some (.int x1)], [], h)) (hk _ _ rfl) z1_4 rfl ?_
    refine gw_pst hk 1 (st' := (101, [some (.ref 0), some (.int x1)], [.ref 0], h)) rfl ?_
    refine gw_gf (hk _ _ rfl) (RL_fR (n := 14) hR rfl) ?_
    refine gw_gf (hk _ _ rfl) (RL_fI hR rfl) ?_
    exact gw_ret (hk _ _ rfl) rfl ⟨_, hR, w⟩
  by_cases z1_5 : x1 = 5
  · replace w := w.2.2.2.2.2.1 z1_5
    refine gw_swk (st' := (108, [some (.ref 0), some (.int x1)], [], h)) (hk _ _ rfl) z1_5 rfl ?_
    refine gw_pst hk 1 (st' := (109, [some (.ref 0), some (.int x1)], [.ref 0], h)) rfl ?_
    refine gw_gf (hk _ _ rfl) (RL_fR (n := 14) hR rfl) ?_
    refine gw_gf (hk _ _ rfl) (RL_fI hR rfl) ?_
    exact gw_ret (hk _ _ rfl) rfl ⟨_, hR, w⟩
  by_cases z1_6 : x1 = 6
  · replace w := w.2.2.2.2.2.2.1 z1_6
    refine gw_swk (st' := (116, [some (.ref 0), some (.int x1)], [], h)) (hk _ _ rfl) z1_6 rfl ?_
    refine gw_pst hk 1 (st' := (117, [some (.ref 0), some (.int x1)], [.ref 0], h)) rfl ?_
    refine gw_gf (hk _ _ rfl) (RL_fR (n := 14) hR rfl) ?_
    refine gw_gf (hk _ _ rfl) (RL_fI hR rfl) ?_
    exact gw_ret (hk _ _ rfl) rfl ⟨_, hR, w⟩
  by_cases z1_7 : x1 = 7
  · replace w := w.2.2.2.2.2.2.2.1 z1_7
    refine gw_swk (st' := (124, [some (.ref 0), some (.int x1)], [], h)) (hk _ _ rfl) z1_7 rfl ?_
    refine gw_pst hk 1 (st' := (125, [some (.ref 0), some (.int x1)], [.ref 0], h)) rfl ?_
    refine gw_gf (hk _ _ rfl) (RL_fR (n := 14) hR rfl) ?_
    refine gw_pst hk 1 (st' := (129, [some (.ref 0), some (.int x1)], [.ref 0, .ref 14], h)) rfl ?_
    refine gw_gf (hk _ _ rfl) (RL_fR (n := 14) hR rfl) ?_
    refine gw_gf (hk _ _ rfl) (RL_fI hR rfl) ?_
    obtain ⟨fs19, e19⟩ := RL_o hR (r := 14) (ci := 6) rfl
    refine gw_call (jj := 54) (As := [.ref 14, .int (gsV s 14 0)]) (rest := []) (hk _ _ rfl) (fun _ => rfl) rfl rfl (Nat.le_of_ble_eq_true rfl) (gm_rcv_v rfl e19 rfl) ?_
    refine ge_imp (w h hR) (fun v19 h w => ?_)
    obtain ⟨s_19, hR, x_19, rfl, w⟩ := w
    show gw (gt_T c.1 c.2.1 c.2.2.1) c.2.2.2 d 145 (138, [some (.ref 0), some (.int x1)], [.int x_19], h) _
    exact gw_ret (hk _ _ rfl) rfl ⟨_, hR, w⟩
  by_cases z1_8 : x1 = 8
  · replace w := w.2.2.2.2.2.2.2.2.1 z1_8
    refine gw_swk (st' := (139, [some (.ref 0), some (.int x1)], [], h)) (hk _ _ rfl) z1_8 rfl ?_
    refine gw_pst hk 1 (st' := (140, [some (.ref 0), some (.int x1)], [.ref 0], h)) rfl ?_
    refine gw_gf (hk _ _ rfl) (RL_fR (n := 14) hR rfl) ?_
    refine gw_gf (hk _ _ rfl) (RL_fI hR rfl) ?_
    refine gw_pst hk 1 (st' := (147, [some (.ref 0), some (.int x1)], [.ref 0, .int (gsV s 14 1)], h)) rfl ?_
    refine gw_gf (hk _ _ rfl) (RL_fR (n := 14) hR rfl) ?_
    refine gw_gf (hk _ _ rfl) (RL_fI hR rfl) ?_
    refine gw_call (jj := 16) (As := [.int (gsV s 14 1), .int (gsV s 14 2)]) (rest := []) (hk _ _ rfl) (fun _ => rfl) rfl rfl (Nat.le_of_ble_eq_true rfl) rfl ?_
    refine ge_imp (w h hR) (fun v24 h w => ?_)
    obtain ⟨s_24, hR, x_24, rfl, w⟩ := w
    show gw (gt_T c.1 c.2.1 c.2.2.1) c.2.2.2 d 145 (156, [some (.ref 0), some (.int x1)], [.int x_24], h) _
    refine gw_br (c := x_24 = 0) (a := (163, [some (.ref 0), some (.int x1)], [], h)) (b := (159, [some (.ref 0), some (.int x1)], [], h)) (hk _ _ rfl) rfl ⟨fun z25 => ?_, fun z25 => ?_⟩
    · replace w := w.1 z25
      refine gw_pst hk 1 (st' := (164, [some (.ref 0), some (.int x1)], [.int 0], h)) rfl ?_
      refine gw_le (L' := [none, none]) (gm_le_n _ (gm_le_n _ gm_le_nil)) ?_
      exact ok145_164 c d Post _ _ w _ hR
    · replace w := w.2 z25
      refine gw_pst hk 2 (st' := (164, [some (.ref 0), some (.int x1)], [.int 1], h)) rfl ?_
      refine gw_le (L' := [none, none]) (gm_le_n _ (gm_le_n _ gm_le_nil)) ?_
      exact ok145_164 c d Post _ _ w _ hR
  by_cases z1_9 : x1 = 9
  · replace w := w.2.2.2.2.2.2.2.2.2.1 z1_9
    refine gw_swk (st' := (165, [some (.ref 0), some (.int x1)], [], h)) (hk _ _ rfl) z1_9 rfl ?_
    refine gw_pst hk 1 (st' := (166, [some (.ref 0), some (.int x1)], [.ref 0], h)) rfl ?_
    refine gw_gf (hk _ _ rfl) (RL_fR (n := 41) hR rfl) ?_
    refine gw_gf (hk _ _ rfl) (RL_fI hR rfl) ?_
    exact gw_ret (hk _ _ rfl) rfl ⟨_, hR, w⟩
  by_cases z1_10 : x1 = 10
  · replace w := w.2.2.2.2.2.2.2.2.2.2.1 z1_10
    refine gw_swk (st' := (173, [some (.ref 0), some (.int x1)], [], h)) (hk _ _ rfl) z1_10 rfl ?_
    refine gw_pst hk 1 (st' := (174, [some (.ref 0), some (.int x1)], [.ref 0], h)) rfl ?_
    refine gw_gf (hk _ _ rfl) (RL_fR (n := 17) hR rfl) ?_
    refine gw_gf (hk _ _ rfl) (RL_fI hR rfl) ?_
    exact gw_ret (hk _ _ rfl) rfl ⟨_, hR, w⟩
  by_cases z1_11 : x1 = 11
  · replace w := w.2.2.2.2.2.2.2.2.2.2.2.1 z1_11
    refine gw_swk (st' := (181, [some (.ref 0), some (.int x1)], [], h)) (hk _ _ rfl) z1_11 rfl ?_
    refine gw_pst hk 1 (st' := (182, [some (.ref 0), some (.int x1)], [.ref 0], h)) rfl ?_
    refine gw_gf (hk _ _ rfl) (RL_fR (n := 34) hR rfl) ?_
    refine gw_gf (hk _ _ rfl) (RL_fI hR rfl) ?_
    exact gw_ret (hk _ _ rfl) rfl ⟨_, hR, w⟩
  by_cases z1_12 : x1 = 12
  · replace w := w.2.2.2.2.2.2.2.2.2.2.2.2.1 z1_12
    refine gw_swk (st' := (189, [some (.ref 0), some (.int x1)], [], h)) (hk _ _ rfl) z1_12 rfl ?_
    refine gw_pst hk 1 (st' := (190, [some (.ref 0), some (.int x1)], [.ref 0], h)) rfl ?_
    refine gw_gf (hk _ _ rfl) (RL_fR (n := 1) hR rfl) ?_
    refine gw_gf (hk _ _ rfl) (RL_fI hR rfl) ?_
    exact gw_ret (hk _ _ rfl) rfl ⟨_, hR, w⟩
  have zd1 : (x1 : Int32).toInt < 0 ∨ 12 < (x1 : Int32).toInt := by
    have y0 : (x1 : Int32).toInt ≠ 0 := fun z => z1_0 (Int32.toInt_inj.mp z)
    have y1 : (x1 : Int32).toInt ≠ 1 := fun z => z1_1 (Int32.toInt_inj.mp z)
    have y2 : (x1 : Int32).toInt ≠ 2 := fun z => z1_2 (Int32.toInt_inj.mp z)
    have y3 : (x1 : Int32).toInt ≠ 3 := fun z => z1_3 (Int32.toInt_inj.mp z)
    have y4 : (x1 : Int32).toInt ≠ 4 := fun z => z1_4 (Int32.toInt_inj.mp z)
    have y5 : (x1 : Int32).toInt ≠ 5 := fun z => z1_5 (Int32.toInt_inj.mp z)
    have y6 : (x1 : Int32).toInt ≠ 6 := fun z => z1_6 (Int32.toInt_inj.mp z)
    have y7 : (x1 : Int32).toInt ≠ 7 := fun z => z1_7 (Int32.toInt_inj.mp z)
    have y8 : (x1 : Int32).toInt ≠ 8 := fun z => z1_8 (Int32.toInt_inj.mp z)
    have y9 : (x1 : Int32).toInt ≠ 9 := fun z => z1_9 (Int32.toInt_inj.mp z)
    have y10 : (x1 : Int32).toInt ≠ 10 := fun z => z1_10 (Int32.toInt_inj.mp z)
    have y11 : (x1 : Int32).toInt ≠ 11 := fun z => z1_11 (Int32.toInt_inj.mp z)
    have y12 : (x1 : Int32).toInt ≠ 12 := fun z => z1_12 (Int32.toInt_inj.mp z)
    omega
  replace w := w.2.2.2.2.2.2.2.2.2.2.2.2.2 zd1
  refine gw_tsd (st' := (197, [some (.ref 0), some (.int x1)], [], h)) (hk _ _ rfl) zd1 rfl ?_
  refine gw_pst hk 1 (st' := (198, [some (.ref 0), some (.int x1)], [.int (-1)], h)) rfl ?_
  exact gw_ret (hk _ _ rfl) rfl ⟨_, hR, w⟩
/-- CommandByTurns.row(I)J -/
def wm146 (c : gx) (d : Nat) (Post : Option Value → gs → Prop) (x1 : Int32) (s : gs) : Prop :=
  ((x1 < 0 → False) ∧ (¬ (x1 < 0) → (((gsV s 34 1) ≤ x1 → False) ∧ (¬ ((gsV s 34 1) ≤ x1) → ((x1 < 32 → vp_in x1 32 ∧ Post (some (.long (gsR s 35 (x1 : Int32).toNatClampNeg))) s) ∧ (¬ (x1 < 32) → False))))))
theorem okm146 (c : gx) (d : Nat) (Post : Option Value → gs → Prop) (x1 : Int32) (s : gs) (w : wm146 c d Post x1 s) : tE c (d + 1) 146 [.ref 0, .int x1] s Post := by
  intro h hR
  have hk : ∀ pc i, gm_find gk_146 pc = some i → gm_code (gt_T c.1 c.2.1 c.2.2.1) 146 pc = some i := fun _ _ z => z
  unfold wm146 at w
  refine ge_of (by decide) (Nat.le_of_ble_eq_true rfl) ?_
  show gw (gt_T c.1 c.2.1 c.2.2.1) c.2.2.2 d 146 (0, [some (.ref 0), some (.int x1)], [], h) _
  refine gw_pst hk 1 (st' := (1, [some (.ref 0), some (.int x1)], [.int x1], h)) rfl ?_
  refine gw_br (c := x1 < 0) (a := (27, [some (.ref 0), some (.int x1)], [], h)) (b := (4, [some (.ref 0), some (.int x1)], [], h)) (hk _ _ rfl) rfl ⟨fun z1 => ?_, fun z1 => ?_⟩
  · replace w := w.1 z1
    exact w.elim
  · replace w := w.2 z1
    refine gw_pst hk 2 (st' := (6, [some (.ref 0), some (.int x1)], [.ref 0, .int x1], h)) rfl ?_
    refine gw_gf (hk _ _ rfl) (RL_fR (n := 34) hR rfl) ?_
    refine gw_gf (hk _ _ rfl) (RL_fI hR rfl) ?_
    refine gw_br (c := (gsV s 34 1) ≤ x1) (a := (27, [some (.ref 0), some (.int x1)], [], h)) (b := (15, [some (.ref 0), some (.int x1)], [], h)) (hk _ _ rfl) rfl ⟨fun z4 => ?_, fun z4 => ?_⟩
    · replace w := w.1 z4
      exact w.elim
    · replace w := w.2 z4
      refine gw_pst hk 2 (st' := (17, [some (.ref 0), some (.int x1)], [.ref 0, .int x1], h)) rfl ?_
      refine gw_gf (hk _ _ rfl) (RL_fR (n := 34) hR rfl) ?_
      refine gw_gf (hk _ _ rfl) (RL_fR (n := 35) hR rfl) ?_
      refine gw_alen (hk _ _ rfl) (RL_aJ (n := 32) hR rfl) (by decide) ?_
      refine gw_br (c := x1 < 32) (a := (38, [some (.ref 0), some (.int x1)], [], h)) (b := (27, [some (.ref 0), some (.int x1)], [], h)) (hk _ _ rfl) rfl ⟨fun z8 => ?_, fun z8 => ?_⟩
      · replace w := w.1 z8
        refine gw_pst hk 1 (st' := (39, [some (.ref 0), some (.int x1)], [.ref 0], h)) rfl ?_
        refine gw_gf (hk _ _ rfl) (RL_fR (n := 34) hR rfl) ?_
        refine gw_gf (hk _ _ rfl) (RL_fR (n := 35) hR rfl) ?_
        refine gw_pst hk 1 (st' := (46, [some (.ref 0), some (.int x1)], [.int x1, .ref 35], h)) rfl ?_
        obtain ⟨b11, w⟩ := w
        refine gw_lald (hk _ _ rfl) (RL_aJ (n := 32) hR rfl) b11 ?_
        exact gw_ret (hk _ _ rfl) rfl ⟨_, hR, w⟩
      · replace w := w.2 z8
        exact w.elim
def w147_14 (c : gx) (d : Nat) (Post : Option Value → gs → Prop) (xs0 : Int32) (s : gs) : Prop :=
  ((xs0 = 0 ∨ xs0 = 1) ∧ Post (some (.int xs0)) s)
theorem ok147_14 (c : gx) (d : Nat) (Post : Option Value → gs → Prop)  (xs0 : Int32) (s : gs) (w : w147_14 c d Post xs0 s) : tV c d 147 14 [none] [.int xs0] s Post := by
  intro h hR
  have hk : ∀ pc i, gm_find gk_147 pc = some i → gm_code (gt_T c.1 c.2.1 c.2.2.1) 147 pc = some i := fun _ _ z => z
  unfold w147_14 at w
  unfold gV
  exact gw_retZ (hk _ _ rfl) rfl w.1 ⟨_, hR, w.2⟩
def w147_9 (c : gx) (d : Nat) (Post : Option Value → gs → Prop)  (s : gs) : Prop :=
  w147_14 c d Post 1 s
theorem ok147_9 (c : gx) (d : Nat) (Post : Option Value → gs → Prop)   (s : gs) (w : w147_9 c d Post  s) : tV c d 147 9 [none] [] s Post := by
  intro h hR
  have hk : ∀ pc i, gm_find gk_147 pc = some i → gm_code (gt_T c.1 c.2.1 c.2.2.1) 147 pc = some i := fun _ _ z => z
  unfold w147_9 at w
  unfold gV
  refine gw_pst hk 2 (st' := (14, [none], [.int 1], h)) rfl ?_
  exact ok147_14 c d Post _ _ w _ hR
/-- CommandByTurns.isConsul(I)Z -/
def wm147 (c : gx) (d : Nat) (Post : Option Value → gs → Prop) (x0 : Int32) (s : gs) : Prop :=
  ((x0 = 0 → w147_9 c d Post s) ∧ (¬ (x0 = 0) → ((x0 = 1 → w147_9 c d Post s) ∧ (¬ (x0 = 1) → w147_14 c d Post 0 s))))
theorem okm147 (c : gx) (d : Nat) (Post : Option Value → gs → Prop) (x0 : Int32) (s : gs) (w : wm147 c d Post x0 s) : tE c (d + 1) 147 [.int x0] s Post := by
  intro h hR
  have hk : ∀ pc i, gm_find gk_147 pc = some i → gm_code (gt_T c.1 c.2.1 c.2.2.1) 147 pc = some i := fun _ _ z => z
  unfold wm147 at w
  refine ge_of (by decide) (Nat.le_of_ble_eq_true rfl) ?_
  show gw (gt_T c.1 c.2.1 c.2.2.1) c.2.2.2 d 147 (0, [some (.int x0)], [], h) _
  refine gw_pst hk 1 (st' := (1, [some (.int x0)], [.int x0], h)) rfl ?_
  refine gw_br (c := x0 = 0) (a := (9, [some (.int x0)], [], h)) (b := (4, [some (.int x0)], [], h)) (hk _ _ rfl) rfl ⟨fun z1 => ?_, fun z1 => ?_⟩
  · replace w := w.1 z1
    refine gw_le (L' := [none]) (gm_le_n _ gm_le_nil) ?_
    exact ok147_9 c d Post _ w _ hR
  · replace w := w.2 z1
    refine gw_pst hk 2 (st' := (6, [some (.int x0)], [.int 1, .int x0], h)) rfl ?_
    refine gw_br (c := x0 = 1) (a := (9, [some (.int x0)], [], h)) (b := (13, [some (.int x0)], [], h)) (hk _ _ rfl) rfl ⟨fun z2 => ?_, fun z2 => ?_⟩
    · replace w := w.1 z2
      refine gw_le (L' := [none]) (gm_le_n _ gm_le_nil) ?_
      exact ok147_9 c d Post _ w _ hR
    · replace w := w.2 z2
      refine gw_pst hk 1 (st' := (14, [some (.int x0)], [.int 0], h)) rfl ?_
      refine gw_le (L' := [none]) (gm_le_n _ gm_le_nil) ?_
      exact ok147_14 c d Post _ _ w _ hR
def w148_16 (c : gx) (d : Nat) (Post : Option Value → gs → Prop) (rs0 : Nat) (s : gs) : Prop :=
  Post (some (.ref rs0)) s
theorem ok148_16 (c : gx) (d : Nat) (Post : Option Value → gs → Prop)  (rs0 : Nat) (s : gs) (w : w148_16 c d Post rs0 s) : tV c d 148 16 [none, none] [.ref rs0] s Post := by
  intro h hR
  have hk : ∀ pc i, gm_find gk_148 pc = some i → gm_code (gt_T c.1 c.2.1 c.2.2.1) 148 pc = some i := fun _ _ z => z
  unfold w148_16 at w
  unfold gV
  exact gw_ret (hk _ _ rfl) rfl ⟨_, hR, w⟩
/-- CommandByTurns.leader(I)LCommandByTurns$Leader; -/
def wm148 (c : gx) (d : Nat) (Post : Option Value → gs → Prop) (x1 : Int32) (s : gs) : Prop :=
  ((x1 = 1 → w148_16 c d Post 12 s) ∧ (¬ (x1 = 1) → w148_16 c d Post 10 s))
theorem okm148 (c : gx) (d : Nat) (Post : Option Value → gs → Prop) (x1 : Int32) (s : gs) (w : wm148 c d Post x1 s) : tE c (d + 1) 148 [.ref 0, .int x1] s Post := by
  intro h hR
  have hk : ∀ pc i, gm_find gk_148 pc = some i → gm_code (gt_T c.1 c.2.1 c.2.2.1) 148 pc = some i := fun _ _ z => z
  unfold wm148 at w
  refine ge_of (by decide) (Nat.le_of_ble_eq_true rfl) ?_
  show gw (gt_T c.1 c.2.1 c.2.2.1) c.2.2.2 d 148 (0, [some (.ref 0), some (.int x1)], [], h) _
  refine gw_pst hk 2 (st' := (2, [some (.ref 0), some (.int x1)], [.int 1, .int x1], h)) rfl ?_
  refine gw_br (c := x1 = 1) (a := (5, [some (.ref 0), some (.int x1)], [], h)) (b := (12, [some (.ref 0), some (.int x1)], [], h)) (hk _ _ rfl) rfl ⟨fun z1 => ?_, fun z1 => ?_⟩
  · replace w := w.1 z1
    refine gw_pst hk 1 (st' := (6, [some (.ref 0), some (.int x1)], [.ref 0], h)) rfl ?_
    refine gw_gf (hk _ _ rfl) (RL_fR (n := 12) hR rfl) ?_
    refine gw_pst hk 1 (st' := (16, [some (.ref 0), some (.int x1)], [.ref 12], h)) rfl ?_
    refine gw_le (L' := [none, none]) (gm_le_n _ (gm_le_n _ gm_le_nil)) ?_
    exact ok148_16 c d Post _ _ w _ hR
  · replace w := w.2 z1
    refine gw_pst hk 1 (st' := (13, [some (.ref 0), some (.int x1)], [.ref 0], h)) rfl ?_
    refine gw_gf (hk _ _ rfl) (RL_fR (n := 10) hR rfl) ?_
    refine gw_le (L' := [none, none]) (gm_le_n _ (gm_le_n _ gm_le_nil)) ?_
    exact ok148_16 c d Post _ _ w _ hR
/-- CommandByTurns.gap(II)I -/
def wm149 (c : gx) (d : Nat) (Post : Option Value → gs → Prop) (x1 : Int32) (x2 : Int32) (s : gs) : Prop :=
  tE c d 15 [.ref 3, .int x1] s (fun v2 s_2 => ∃ x_2 : Int32, v2 = some (.int x_2) ∧ tE c d 15 [.ref 3, .int x2] s_2 (fun v4 s_4 => ∃ x_4 : Int32, v4 = some (.int x_4) ∧ Post (some (.int (x_2 - x_4))) s_4))
theorem okm149 (c : gx) (d : Nat) (Post : Option Value → gs → Prop) (x1 : Int32) (x2 : Int32) (s : gs) (w : wm149 c d Post x1 x2 s) : tE c (d + 1) 149 [.ref 0, .int x1, .int x2] s Post := by
  intro h hR
  have hk : ∀ pc i, gm_find gk_149 pc = some i → gm_code (gt_T c.1 c.2.1 c.2.2.1) 149 pc = some i := fun _ _ z => z
  unfold wm149 at w
  refine ge_of (by decide) (Nat.le_of_ble_eq_true rfl) ?_
  show gw (gt_T c.1 c.2.1 c.2.2.1) c.2.2.2 d 149 (0, [some (.ref 0), some (.int x1), some (.int x2)], [], h) _
  refine gw_pst hk 1 (st' := (1, [some (.ref 0), some (.int x1), some (.int x2)], [.ref 0], h)) rfl ?_
  refine gw_gf (hk _ _ rfl) (RL_fR (n := 3) hR rfl) ?_
  refine gw_pst hk 1 (st' := (5, [some (.ref 0), some (.int x1), some (.int x2)], [.int x1, .ref 3], h)) rfl ?_
  obtain ⟨fs2, e2⟩ := RL_o hR (r := 3) (ci := 1) rfl
  refine gw_call (jj := 15) (As := [.ref 3, .int x1]) (rest := []) (hk _ _ rfl) (fun _ => rfl) rfl rfl (Nat.le_of_ble_eq_true rfl) (gm_rcv_v rfl e2 rfl) ?_
  refine ge_imp (w h hR) (fun v2 h w => ?_)
  obtain ⟨s_2, hR, x_2, rfl, w⟩ := w
  show gw (gt_T c.1 c.2.1 c.2.2.1) c.2.2.2 d 149 (8, [some (.ref 0), some (.int x1), some (.int x2)], [.int x_2], h) _
  refine gw_pst hk 1 (st' := (9, [some (.ref 0), some (.int x1), some (.int x2)], [.ref 0, .int x_2], h)) rfl ?_
  refine gw_gf (hk _ _ rfl) (RL_fR (n := 3) hR rfl) ?_
  refine gw_pst hk 1 (st' := (13, [some (.ref 0), some (.int x1), some (.int x2)], [.int x2, .ref 3, .int x_2], h)) rfl ?_
  obtain ⟨fs4, e4⟩ := RL_o hR (r := 3) (ci := 1) rfl
  refine gw_call (jj := 15) (As := [.ref 3, .int x2]) (rest := [.int x_2]) (hk _ _ rfl) (fun _ => rfl) rfl rfl (Nat.le_of_ble_eq_true rfl) (gm_rcv_v rfl e4 rfl) ?_
  refine ge_imp (w h hR) (fun v4 h w => ?_)
  obtain ⟨s_4, hR, x_4, rfl, w⟩ := w
  show gw (gt_T c.1 c.2.1 c.2.2.1) c.2.2.2 d 149 (16, [some (.ref 0), some (.int x1), some (.int x2)], [.int x_4, .int x_2], h) _
  refine gw_pst hk 1 (st' := (17, [some (.ref 0), some (.int x1), some (.int x2)], [.int (x_2 - x_4)], h)) rfl ?_
  exact gw_ret (hk _ _ rfl) rfl ⟨_, hR, w⟩
