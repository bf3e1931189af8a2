/-! What must hold for a run to end with Post: by program (wip/whole/gen_wp.py). -/
def w65_10 (c : gx) (d : Nat) (Post : Option Value → gs → Prop)  (s : gs) : Prop :=
  Post (some (.int 0)) s
theorem ok65_10 (c : gx) (d : Nat) (Post : Option Value → gs → Prop)   (s : gs) (w : w65_10 c d Post  s) : tV c d 65 10 [none, none, none] [] s Post := by
  intro h hR
  have hk : ∀ pc i, gm_find gk_65 pc = some i → gm_code (gt_T c.1 c.2.1 c.2.2.1) 65 pc = some i := fun _ _ z => z
  unfold w65_10 at w
  unfold gV
  refine gw_pst hk 1 (st' := (11, [none, none, none], [.int 0], h)) rfl ?_
  exact gw_ret (hk _ _ rfl) rfl ⟨_, hR, w⟩
def w65_40 (c : gx) (d : Nat) (Post : Option Value → gs → Prop) (xs0 : Int32) (s : gs) : Prop :=
  Post (some (.int xs0)) s
theorem ok65_40 (c : gx) (d : Nat) (Post : Option Value → gs → Prop)  (xs0 : Int32) (s : gs) (w : w65_40 c d Post xs0 s) : tV c d 65 40 [none, none, none] [.int xs0] s Post := by
  intro h hR
  have hk : ∀ pc i, gm_find gk_65 pc = some i → gm_code (gt_T c.1 c.2.1 c.2.2.1) 65 pc = some i := fun _ _ z => z
  unfold w65_40 at w
  unfold gV
  exact gw_ret (hk _ _ rfl) rfl ⟨_, hR, w⟩
/-- CommandByTurns$Walk.movesFrom(II)I -/
def wm65 (c : gx) (d : Nat) (Post : Option Value → gs → Prop) (x1 : Int32) (x2 : Int32) (s : gs) : Prop :=
  ((x2 < 0 → w65_10 c d Post s) ∧ (¬ (x2 < 0) → ((x2 < 12 → ((x1 = (-1) → Post (some (.int (1 <<< (x2 &&& 31)))) s) ∧ (¬ (x1 = (-1)) → ((x1 = 0 → vp_in x2 12 ∧ w65_40 c d Post (gsA s 37 (x2 : Int32).toNatClampNeg) s) ∧ (¬ (x1 = 0) → vp_in x2 12 ∧ w65_40 c d Post (gsA s 38 (x2 : Int32).toNatClampNeg) s))))) ∧ (¬ (x2 < 12) → w65_10 c d Post s))))
theorem okm65 (c : gx) (d : Nat) (Post : Option Value → gs → Prop) (x1 : Int32) (x2 : Int32) (s : gs) (w : wm65 c d Post x1 x2 s) : tE c (d + 1) 65 [.ref 36, .int x1, .int x2] s Post := by
  intro h hR
  have hk : ∀ pc i, gm_find gk_65 pc = some i → gm_code (gt_T c.1 c.2.1 c.2.2.1) 65 pc = some i := fun _ _ z => z
  unfold wm65 at w
  refine ge_of (by decide) (Nat.le_of_ble_eq_true rfl) ?_
  show gw (gt_T c.1 c.2.1 c.2.2.1) c.2.2.2 d 65 (0, [some (.ref 36), some (.int x1), some (.int x2)], [], h) _
  refine gw_pst hk 1 (st' := (1, [some (.ref 36), some (.int x1), some (.int x2)], [.int x2], h)) rfl ?_
  refine gw_br (c := x2 < 0) (a := (10, [some (.ref 36), some (.int x1), some (.int x2)], [], h)) (b := (4, [some (.ref 36), some (.int x1), some (.int x2)], [], h)) (hk _ _ rfl) rfl ⟨fun z1 => ?_, fun z1 => ?_⟩
  · replace w := w.1 z1
    refine gw_le (L' := [none, none, none]) (gm_le_n _ (gm_le_n _ (gm_le_n _ gm_le_nil))) ?_
    exact ok65_10 c d Post _ w _ hR
  · replace w := w.2 z1
    refine gw_pst hk 2 (st' := (7, [some (.ref 36), some (.int x1), some (.int x2)], [.int 12, .int x2], h)) rfl ?_
    refine gw_br (c := x2 < 12) (a := (12, [some (.ref 36), some (.int x1), some (.int x2)], [], h)) (b := (10, [some (.ref 36), some (.int x1), some (.int x2)], [], h)) (hk _ _ rfl) rfl ⟨fun z2 => ?_, fun z2 => ?_⟩
    · replace w := w.1 z2
      refine gw_pst hk 2 (st' := (14, [some (.ref 36), some (.int x1), some (.int x2)], [.int (-1), .int x1], h)) rfl ?_
      refine gw_br (c := x1 = (-1)) (a := (17, [some (.ref 36), some (.int x1), some (.int x2)], [], h)) (b := (21, [some (.ref 36), some (.int x1), some (.int x2)], [], h)) (hk _ _ rfl) rfl ⟨fun z3 => ?_, fun z3 => ?_⟩
      · replace w := w.1 z3
        refine gw_pst hk 3 (st' := (20, [some (.ref 36), some (.int x1), some (.int x2)], [.int (1 <<< (x2 &&& 31))], h)) rfl ?_
        exact gw_ret (hk _ _ rfl) rfl ⟨_, hR, w⟩
      · replace w := w.2 z3
        refine gw_pst hk 1 (st' := (22, [some (.ref 36), some (.int x1), some (.int x2)], [.int x1], h)) rfl ?_
        refine gw_br (c := x1 = 0) (a := (25, [some (.ref 36), some (.int x1), some (.int x2)], [], h)) (b := (34, [some (.ref 36), some (.int x1), some (.int x2)], [], h)) (hk _ _ rfl) rfl ⟨fun z4 => ?_, fun z4 => ?_⟩
        · replace w := w.1 z4
          refine gw_pst hk 1 (st' := (26, [some (.ref 36), some (.int x1), some (.int x2)], [.ref 36], h)) rfl ?_
          refine gw_gf (hk _ _ rfl) (RL_fR (n := 37) hR rfl) ?_
          refine gw_pst hk 1 (st' := (30, [some (.ref 36), some (.int x1), some (.int x2)], [.int x2, .ref 37], h)) rfl ?_
          obtain ⟨b6, w⟩ := w
          refine gw_ald (hk _ _ rfl) (Or.inl ⟨rfl, rfl⟩) (RL_a (t := 0) (n := 12) hR rfl (by decide)) b6 ?_
          refine gw_pst hk 1 (st' := (40, [some (.ref 36), some (.int x1), some (.int x2)], [.int (gsA s 37 (x2 : Int32).toNatClampNeg)], h)) rfl ?_
          refine gw_le (L' := [none, none, none]) (gm_le_n _ (gm_le_n _ (gm_le_n _ gm_le_nil))) ?_
          exact ok65_40 c d Post _ _ w _ hR
        · replace w := w.2 z4
          refine gw_pst hk 1 (st' := (35, [some (.ref 36), some (.int x1), some (.int x2)], [.ref 36], h)) rfl ?_
          refine gw_gf (hk _ _ rfl) (RL_fR (n := 38) hR rfl) ?_
          refine gw_pst hk 1 (st' := (39, [some (.ref 36), some (.int x1), some (.int x2)], [.int x2, .ref 38], h)) rfl ?_
          obtain ⟨b8, w⟩ := w
          refine gw_ald (hk _ _ rfl) (Or.inl ⟨rfl, rfl⟩) (RL_a (t := 0) (n := 12) hR rfl (by decide)) b8 ?_
          refine gw_le (L' := [none, none, none]) (gm_le_n _ (gm_le_n _ (gm_le_n _ gm_le_nil))) ?_
          exact ok65_40 c d Post _ _ w _ hR
    · replace w := w.2 z2
      refine gw_le (L' := [none, none, none]) (gm_le_n _ (gm_le_n _ (gm_le_n _ gm_le_nil))) ?_
      exact ok65_10 c d Post _ w _ hR
def w66_32 (c : gx) (d : Nat) (Post : Option Value → gs → Prop) (K5 : Int32 → Int32 → Int32 → Int32 → gs → Prop) (x1 : Int32) (x2 : Int32) (x3 : Int32) (x4 : Int32) (s : gs) : Prop :=
  K5 x1 x2 x3 (x4 + 1) s
theorem ok66_32 (c : gx) (d : Nat) (Post : Option Value → gs → Prop) (K5 : Int32 → Int32 → Int32 → Int32 → gs → Prop)  (hK5 : ∀ (x1 : Int32) (x2 : Int32) (x3 : Int32) (x4 : Int32) (s : gs), K5 x1 x2 x3 x4 s → tV c d 66 5 [some (.ref 36), some (.int x1), some (.int x2), some (.int x3), some (.int x4)] [] s Post) (x1 : Int32) (x2 : Int32) (x3 : Int32) (x4 : Int32) (s : gs) (w : w66_32 c d Post K5 x1 x2 x3 x4 s) : tV c d 66 32 [some (.ref 36), some (.int x1), some (.int x2), some (.int x3), some (.int x4)] [] s Post := by
  intro h hR
  have hk : ∀ pc i, gm_find gk_66 pc = some i → gm_code (gt_T c.1 c.2.1 c.2.2.1) 66 pc = some i := fun _ _ z => z
  unfold w66_32 at w
  unfold gV
  refine gw_pst hk 2 (st' := (5, [some (.ref 36), some (.int x1), some (.int x2), some (.int x3), some (.int (x4 + 1))], [], h)) rfl ?_
  exact hK5 _ _ _ _ _ w _ hR
def wb66_5 (c : gx) (d : Nat) (Post : Option Value → gs → Prop) (K5 : Int32 → Int32 → Int32 → Int32 → gs → Prop) (x1 : Int32) (x2 : Int32) (x3 : Int32) (x4 : Int32) (s : gs) : Prop :=
  ((12 ≤ x4 → Post (some (.int x3)) s) ∧ (¬ (12 ≤ x4) → ((((x2 >>> (x4 &&& 31)) &&& 1) = 1 → tE c d 65 [.ref 36, .int x1, .int x4] s (fun v3 s_3 => ∃ x_3 : Int32, v3 = some (.int x_3) ∧ w66_32 c d Post K5 x1 x2 (x3 ||| x_3) x4 s_3)) ∧ (¬ (((x2 >>> (x4 &&& 31)) &&& 1) = 1) → w66_32 c d Post K5 x1 x2 x3 x4 s))))
theorem okb66_5 (c : gx) (d : Nat) (Post : Option Value → gs → Prop) (K5 : Int32 → Int32 → Int32 → Int32 → gs → Prop)  (hK5 : ∀ (x1 : Int32) (x2 : Int32) (x3 : Int32) (x4 : Int32) (s : gs), K5 x1 x2 x3 x4 s → tV c d 66 5 [some (.ref 36), some (.int x1), some (.int x2), some (.int x3), some (.int x4)] [] s Post) (x1 : Int32) (x2 : Int32) (x3 : Int32) (x4 : Int32) (s : gs) (w : wb66_5 c d Post K5 x1 x2 x3 x4 s) : tV c d 66 5 [some (.ref 36), some (.int x1), some (.int x2), some (.int x3), some (.int x4)] [] s Post := by
  intro h hR
  have hk : ∀ pc i, gm_find gk_66 pc = some i → gm_code (gt_T c.1 c.2.1 c.2.2.1) 66 pc = some i := fun _ _ z => z
  unfold wb66_5 at w
  unfold gV
  refine gw_pst hk 2 (st' := (9, [some (.ref 36), some (.int x1), some (.int x2), some (.int x3), some (.int x4)], [.int 12, .int x4], h)) rfl ?_
  refine gw_br (c := 12 ≤ x4) (a := (38, [some (.ref 36), some (.int x1), some (.int x2), some (.int x3), some (.int x4)], [], h)) (b := (12, [some (.ref 36), some (.int x1), some (.int x2), some (.int x3), some (.int x4)], [], h)) (hk _ _ rfl) rfl ⟨fun z1 => ?_, fun z1 => ?_⟩
  · replace w := w.1 z1
    refine gw_pst hk 1 (st' := (39, [some (.ref 36), some (.int x1), some (.int x2), some (.int x3), some (.int x4)], [.int x3], h)) rfl ?_
    exact gw_ret (hk _ _ rfl) rfl ⟨_, hR, w⟩
  · replace w := w.2 z1
    refine gw_pst hk 6 (st' := (19, [some (.ref 36), some (.int x1), some (.int x2), some (.int x3), some (.int x4)], [.int 1, .int ((x2 >>> (x4 &&& 31)) &&& 1)], h)) rfl ?_
    refine gw_br (c := ((x2 >>> (x4 &&& 31)) &&& 1) = 1) (a := (22, [some (.ref 36), some (.int x1), some (.int x2), some (.int x3), some (.int x4)], [], h)) (b := (32, [some (.ref 36), some (.int x1), some (.int x2), some (.int x3), some (.int x4)], [], h)) (hk _ _ rfl) rfl ⟨fun z2 => ?_, fun z2 => ?_⟩
    · replace w := w.1 z2
      refine gw_pst hk 4 (st' := (27, [some (.ref 36), some (.int x1), some (.int x2), some (.int x3), some (.int x4)], [.int x4, .int x1, .ref 36, .int x3], h)) rfl ?_
      obtain ⟨fs3, e3⟩ := RL_o hR (r := 36) (ci := 8) rfl
      refine gw_call (jj := 65) (As := [.ref 36, .int x1, .int x4]) (rest := [.int x3]) (hk _ _ rfl) (fun _ => rfl) rfl rfl (Nat.le_of_ble_eq_true rfl) (gm_rcv_v rfl e3 rfl) ?_
      refine ge_imp (w h hR) (fun v3 h w => ?_)
      obtain ⟨s_3, hR, x_3, rfl, w⟩ := w
      show gw (gt_T c.1 c.2.1 c.2.2.1) c.2.2.2 d 66 (30, [some (.ref 36), some (.int x1), some (.int x2), some (.int x3), some (.int x4)], [.int x_3, .int x3], h) _
      refine gw_pst hk 2 (st' := (32, [some (.ref 36), some (.int x1), some (.int x2), some (.int (x3 ||| x_3)), some (.int x4)], [], h)) rfl ?_
      exact ok66_32 c d Post K5 hK5 _ _ _ _ _ w _ hR
    · replace w := w.2 z2
      exact ok66_32 c d Post K5 hK5 _ _ _ _ _ w _ hR
def wl66_5 (c : gx) (d : Nat) (Post : Option Value → gs → Prop) : Nat → Int32 → Int32 → Int32 → Int32 → gs → Prop
  | 0 => fun _ _ _ _ _ => False
  | n + 1 => wb66_5 c d Post (wl66_5 c d Post n)
theorem okl66_5 (c : gx) (d : Nat) (Post : Option Value → gs → Prop) : ∀ (n : Nat) (x1 : Int32) (x2 : Int32) (x3 : Int32) (x4 : Int32) (s : gs), wl66_5 c d Post n x1 x2 x3 x4 s → tV c d 66 5 [some (.ref 36), some (.int x1), some (.int x2), some (.int x3), some (.int x4)] [] s Post
  | 0, _, _, _, _, _, w => w.elim
  | n + 1, x1, x2, x3, x4, s, w => okb66_5 c d Post (wl66_5 c d Post n) (okl66_5 c d Post n) x1 x2 x3 x4 s w
/-- CommandByTurns$Walk.movesFromAny(II)I -/
def wm66 (c : gx) (d : Nat) (Post : Option Value → gs → Prop) (x1 : Int32) (x2 : Int32) (s : gs) : Prop :=
  ∃ n, wl66_5 c d Post n x1 x2 0 0 s
theorem okm66 (c : gx) (d : Nat) (Post : Option Value → gs → Prop) (x1 : Int32) (x2 : Int32) (s : gs) (w : wm66 c d Post x1 x2 s) : tE c (d + 1) 66 [.ref 36, .int x1, .int x2] s Post := by
  intro h hR
  have hk : ∀ pc i, gm_find gk_66 pc = some i → gm_code (gt_T c.1 c.2.1 c.2.2.1) 66 pc = some i := fun _ _ z => z
  unfold wm66 at w
  refine ge_of (by decide) (Nat.le_of_ble_eq_true rfl) ?_
  show gw (gt_T c.1 c.2.1 c.2.2.1) c.2.2.2 d 66 (0, [some (.ref 36), some (.int x1), some (.int x2), none, none], [], h) _
  refine gw_pst hk 4 (st' := (5, [some (.ref 36), some (.int x1), some (.int x2), some (.int 0), some (.int 0)], [], h)) rfl ?_
  obtain ⟨n, w⟩ := w
  exact okl66_5 c d Post n _ _ _ _ _ w _ hR
def w67_60 (c : gx) (d : Nat) (Post : Option Value → gs → Prop) (xs0 : Int32) (s : gs) : Prop :=
  Post (some (.int xs0)) s
theorem ok67_60 (c : gx) (d : Nat) (Post : Option Value → gs → Prop)  (xs0 : Int32) (s : gs) (w : w67_60 c d Post xs0 s) : tV c d 67 60 [none, none, none, none, none] [.int xs0] s Post := by
  intro h hR
  have hk : ∀ pc i, gm_find gk_67 pc = some i → gm_code (gt_T c.1 c.2.1 c.2.2.1) 67 pc = some i := fun _ _ z => z
  unfold w67_60 at w
  unfold gV
  exact gw_ret (hk _ _ rfl) rfl ⟨_, hR, w⟩
def wb67_7 (c : gx) (d : Nat) (Post : Option Value → gs → Prop) (K7 : Int32 → Int32 → Int32 → gs → Prop) (x2 : Int32) (x3 : Int32) (x4 : Int32) (s : gs) : Prop :=
  ((20 ≤ x4 → ((((x3 >>> (x2 &&& 31)) &&& 1) = 1 → w67_60 c d Post 20 s) ∧ (¬ (((x3 >>> (x2 &&& 31)) &&& 1) = 1) → w67_60 c d Post (-1) s))) ∧ (¬ (20 ≤ x4) → ((((x3 >>> (x2 &&& 31)) &&& 1) = 1 → Post (some (.int x4)) s) ∧ (¬ (((x3 >>> (x2 &&& 31)) &&& 1) = 1) → vp_in x4 20 ∧ tE c d 66 [.ref 36, .int (gsA s 39 (x4 : Int32).toNatClampNeg), .int x3] s (fun v6 s_6 => ∃ x_6 : Int32, v6 = some (.int x_6) ∧ K7 x2 x_6 (x4 + 1) s_6)))))
theorem okb67_7 (c : gx) (d : Nat) (Post : Option Value → gs → Prop) (K7 : Int32 → Int32 → Int32 → gs → Prop)  (hK7 : ∀ (x2 : Int32) (x3 : Int32) (x4 : Int32) (s : gs), K7 x2 x3 x4 s → tV c d 67 7 [some (.ref 36), none, some (.int x2), some (.int x3), some (.int x4)] [] s Post) (x2 : Int32) (x3 : Int32) (x4 : Int32) (s : gs) (w : wb67_7 c d Post K7 x2 x3 x4 s) : tV c d 67 7 [some (.ref 36), none, some (.int x2), some (.int x3), some (.int x4)] [] s Post := by
  intro h hR
  have hk : ∀ pc i, gm_find gk_67 pc = some i → gm_code (gt_T c.1 c.2.1 c.2.2.1) 67 pc = some i := fun _ _ z => z
  unfold wb67_7 at w
  unfold gV
  refine gw_pst hk 2 (st' := (11, [some (.ref 36), none, some (.int x2), some (.int x3), some (.int x4)], [.int 20, .int x4], h)) rfl ?_
  refine gw_br (c := 20 ≤ x4) (a := (45, [some (.ref 36), none, some (.int x2), some (.int x3), some (.int x4)], [], h)) (b := (14, [some (.ref 36), none, some (.int x2), some (.int x3), some (.int x4)], [], h)) (hk _ _ rfl) rfl ⟨fun z1 => ?_, fun z1 => ?_⟩
  · replace w := w.1 z1
    refine gw_pst hk 6 (st' := (51, [some (.ref 36), none, some (.int x2), some (.int x3), some (.int x4)], [.int 1, .int ((x3 >>> (x2 &&& 31)) &&& 1)], h)) rfl ?_
    refine gw_br (c := ((x3 >>> (x2 &&& 31)) &&& 1) = 1) (a := (54, [some (.ref 36), none, some (.int x2), some (.int x3), some (.int x4)], [], h)) (b := (59, [some (.ref 36), none, some (.int x2), some (.int x3), some (.int x4)], [], h)) (hk _ _ rfl) rfl ⟨fun z2 => ?_, fun z2 => ?_⟩
    · replace w := w.1 z2
      refine gw_pst hk 2 (st' := (60, [some (.ref 36), none, some (.int x2), some (.int x3), some (.int x4)], [.int 20], h)) rfl ?_
      refine gw_le (L' := [none, none, none, none, none]) (gm_le_n _ (gm_le_k _ (gm_le_n _ (gm_le_n _ (gm_le_n _ gm_le_nil))))) ?_
      exact ok67_60 c d Post _ _ w _ hR
    · replace w := w.2 z2
      refine gw_pst hk 1 (st' := (60, [some (.ref 36), none, some (.int x2), some (.int x3), some (.int x4)], [.int (-1)], h)) rfl ?_
      refine gw_le (L' := [none, none, none, none, none]) (gm_le_n _ (gm_le_k _ (gm_le_n _ (gm_le_n _ (gm_le_n _ gm_le_nil))))) ?_
      exact ok67_60 c d Post _ _ w _ hR
  · replace w := w.2 z1
    refine gw_pst hk 6 (st' := (20, [some (.ref 36), none, some (.int x2), some (.int x3), some (.int x4)], [.int 1, .int ((x3 >>> (x2 &&& 31)) &&& 1)], h)) rfl ?_
    refine gw_br (c := ((x3 >>> (x2 &&& 31)) &&& 1) = 1) (a := (23, [some (.ref 36), none, some (.int x2), some (.int x3), some (.int x4)], [], h)) (b := (26, [some (.ref 36), none, some (.int x2), some (.int x3), some (.int x4)], [], h)) (hk _ _ rfl) rfl ⟨fun z3 => ?_, fun z3 => ?_⟩
    · replace w := w.1 z3
      refine gw_pst hk 1 (st' := (25, [some (.ref 36), none, some (.int x2), some (.int x3), some (.int x4)], [.int x4], h)) rfl ?_
      exact gw_ret (hk _ _ rfl) rfl ⟨_, hR, w⟩
    · replace w := w.2 z3
      refine gw_pst hk 2 (st' := (28, [some (.ref 36), none, some (.int x2), some (.int x3), some (.int x4)], [.ref 36, .ref 36], h)) rfl ?_
      refine gw_gf (hk _ _ rfl) (RL_fR (n := 39) hR rfl) ?_
      refine gw_pst hk 1 (st' := (33, [some (.ref 36), none, some (.int x2), some (.int x3), some (.int x4)], [.int x4, .ref 39, .ref 36], h)) rfl ?_
      obtain ⟨b5, w⟩ := w
      refine gw_ald (hk _ _ rfl) (Or.inl ⟨rfl, rfl⟩) (RL_a (t := 0) (n := 20) hR rfl (by decide)) b5 ?_
      refine gw_pst hk 1 (st' := (35, [some (.ref 36), none, some (.int x2), some (.int x3), some (.int x4)], [.int x3, .int (gsA s 39 (x4 : Int32).toNatClampNeg), .ref 36], h)) rfl ?_
      obtain ⟨fs6, e6⟩ := RL_o hR (r := 36) (ci := 8) rfl
      refine gw_call (jj := 66) (As := [.ref 36, .int (gsA s 39 (x4 : Int32).toNatClampNeg), .int x3]) (rest := []) (hk _ _ rfl) (fun _ => rfl) rfl rfl (Nat.le_of_ble_eq_true rfl) (gm_rcv_v rfl e6 rfl) ?_
      refine ge_imp (w h hR) (fun v6 h w => ?_)
      obtain ⟨s_6, hR, x_6, rfl, w⟩ := w
      show gw (gt_T c.1 c.2.1 c.2.2.1) c.2.2.2 d 67 (38, [some (.ref 36), none, some (.int x2), some (.int x3), some (.int x4)], [.int x_6], h) _
      refine gw_pst hk 3 (st' := (7, [some (.ref 36), none, some (.int x2), some (.int x_6), some (.int (x4 + 1))], [], h)) rfl ?_
      exact hK7 _ _ _ _ w _ hR
def wl67_7 (c : gx) (d : Nat) (Post : Option Value → gs → Prop) : Nat → Int32 → Int32 → Int32 → gs → Prop
  | 0 => fun _ _ _ _ => False
  | n + 1 => wb67_7 c d Post (wl67_7 c d Post n)
theorem okl67_7 (c : gx) (d : Nat) (Post : Option Value → gs → Prop) : ∀ (n : Nat) (x2 : Int32) (x3 : Int32) (x4 : Int32) (s : gs), wl67_7 c d Post n x2 x3 x4 s → tV c d 67 7 [some (.ref 36), none, some (.int x2), some (.int x3), some (.int x4)] [] s Post
  | 0, _, _, _, _, w => w.elim
  | n + 1, x2, x3, x4, s, w => okb67_7 c d Post (wl67_7 c d Post n) (okl67_7 c d Post n) x2 x3 x4 s w
/-- CommandByTurns$Walk.daysTill(II)I -/
def wm67 (c : gx) (d : Nat) (Post : Option Value → gs → Prop) (x1 : Int32) (x2 : Int32) (s : gs) : Prop :=
  ∃ n, wl67_7 c d Post n x2 (1 <<< (x1 &&& 31)) 0 s
theorem okm67 (c : gx) (d : Nat) (Post : Option Value → gs → Prop) (x1 : Int32) (x2 : Int32) (s : gs) (w : wm67 c d Post x1 x2 s) : tE c (d + 1) 67 [.ref 36, .int x1, .int x2] s Post := by
  intro h hR
  have hk : ∀ pc i, gm_find gk_67 pc = some i → gm_code (gt_T c.1 c.2.1 c.2.2.1) 67 pc = some i := fun _ _ z => z
  unfold wm67 at w
  refine ge_of (by decide) (Nat.le_of_ble_eq_true rfl) ?_
  show gw (gt_T c.1 c.2.1 c.2.2.1) c.2.2.2 d 67 (0, [some (.ref 36), some (.int x1), some (.int x2), none, none], [], h) _
  refine gw_pst hk 6 (st' := (7, [some (.ref 36), some (.int x1), some (.int x2), some (.int (1 <<< (x1 &&& 31))), some (.int 0)], [], h)) rfl ?_
  refine gw_le (L' := [some (.ref 36), none, some (.int x2), some (.int (1 <<< (x1 &&& 31))), some (.int 0)]) (gm_le_k _ (gm_le_n _ (gm_le_k _ (gm_le_k _ (gm_le_k _ gm_le_nil))))) ?_
  obtain ⟨n, w⟩ := w
  exact okl67_7 c d Post n _ _ _ _ w _ hR
def w68_46 (c : gx) (d : Nat) (Post : Option Value → gs → Prop) (x2 : Int32) (s : gs) : Prop :=
  Post (some (.int x2)) s
theorem ok68_46 (c : gx) (d : Nat) (Post : Option Value → gs → Prop)  (x2 : Int32) (s : gs) (w : w68_46 c d Post x2 s) : tV c d 68 46 [none, none, some (.int x2), none, none] [] s Post := by
  intro h hR
  have hk : ∀ pc i, gm_find gk_68 pc = some i → gm_code (gt_T c.1 c.2.1 c.2.2.1) 68 pc = some i := fun _ _ z => z
  unfold w68_46 at w
  unfold gV
  refine gw_pst hk 1 (st' := (47, [none, none, some (.int x2), none, none], [.int x2], h)) rfl ?_
  exact gw_ret (hk _ _ rfl) rfl ⟨_, hR, w⟩
def wb68_7 (c : gx) (d : Nat) (Post : Option Value → gs → Prop) (K7 : Int32 → Int32 → Int32 → gs → Prop) (x2 : Int32) (x3 : Int32) (x4 : Int32) (s : gs) : Prop :=
  ((x2 ≤ x4 → w68_46 c d Post x2 s) ∧ (¬ (x2 ≤ x4) → ((20 ≤ x4 → w68_46 c d Post x2 s) ∧ (¬ (20 ≤ x4) → vp_in x4 20 ∧ tE c d 66 [.ref 36, .int (gsA s 39 (x4 : Int32).toNatClampNeg), .int x3] s (fun v5 s_5 => ∃ x_5 : Int32, v5 = some (.int x_5) ∧ ((x_5 = 0 → Post (some (.int x4)) s_5) ∧ (¬ (x_5 = 0) → K7 x2 x_5 (x4 + 1) s_5)))))))
theorem okb68_7 (c : gx) (d : Nat) (Post : Option Value → gs → Prop) (K7 : Int32 → Int32 → Int32 → gs → Prop)  (hK7 : ∀ (x2 : Int32) (x3 : Int32) (x4 : Int32) (s : gs), K7 x2 x3 x4 s → tV c d 68 7 [some (.ref 36), none, some (.int x2), some (.int x3), some (.int x4)] [] s Post) (x2 : Int32) (x3 : Int32) (x4 : Int32) (s : gs) (w : wb68_7 c d Post K7 x2 x3 x4 s) : tV c d 68 7 [some (.ref 36), none, some (.int x2), some (.int x3), some (.int x4)] [] s Post := by
  intro h hR
  have hk : ∀ pc i, gm_find gk_68 pc = some i → gm_code (gt_T c.1 c.2.1 c.2.2.1) 68 pc = some i := fun _ _ z => z
  unfold wb68_7 at w
  unfold gV
  refine gw_pst hk 2 (st' := (10, [some (.ref 36), none, some (.int x2), some (.int x3), some (.int x4)], [.int x2, .int x4], h)) rfl ?_
  refine gw_br (c := x2 ≤ x4) (a := (46, [some (.ref 36), none, some (.int x2), some (.int x3), some (.int x4)], [], h)) (b := (13, [some (.ref 36), none, some (.int x2), some (.int x3), some (.int x4)], [], h)) (hk _ _ rfl) rfl ⟨fun z1 => ?_, fun z1 => ?_⟩
  · replace w := w.1 z1
    refine gw_le (L' := [none, none, some (.int x2), none, none]) (gm_le_n _ (gm_le_k _ (gm_le_k _ (gm_le_n _ (gm_le_n _ gm_le_nil))))) ?_
    exact ok68_46 c d Post _ _ w _ hR
  · replace w := w.2 z1
    refine gw_pst hk 2 (st' := (17, [some (.ref 36), none, some (.int x2), some (.int x3), some (.int x4)], [.int 20, .int x4], h)) rfl ?_
    refine gw_br (c := 20 ≤ x4) (a := (46, [some (.ref 36), none, some (.int x2), some (.int x3), some (.int x4)], [], h)) (b := (20, [some (.ref 36), none, some (.int x2), some (.int x3), some (.int x4)], [], h)) (hk _ _ rfl) rfl ⟨fun z2 => ?_, fun z2 => ?_⟩
    · replace w := w.1 z2
      refine gw_le (L' := [none, none, some (.int x2), none, none]) (gm_le_n _ (gm_le_k _ (gm_le_k _ (gm_le_n _ (gm_le_n _ gm_le_nil))))) ?_
      exact ok68_46 c d Post _ _ w _ hR
    · replace w := w.2 z2
      refine gw_pst hk 2 (st' := (22, [some (.ref 36), none, some (.int x2), some (.int x3), some (.int x4)], [.ref 36, .ref 36], h)) rfl ?_
      refine gw_gf (hk _ _ rfl) (RL_fR (n := 39) hR rfl) ?_
      refine gw_pst hk 1 (st' := (27, [some (.ref 36), none, some (.int x2), some (.int x3), some (.int x4)], [.int x4, .ref 39, .ref 36], h)) rfl ?_
      obtain ⟨b4, w⟩ := w
      refine gw_ald (hk _ _ rfl) (Or.inl ⟨rfl, rfl⟩) (RL_a (t := 0) (n := 20) hR rfl (by decide)) b4 ?_
      refine gw_pst hk 1 (st' := (29, [some (.ref 36), none, some (.int x2), some (.int x3), some (.int x4)], [.int x3, .int (gsA s 39 (x4 : Int32).toNatClampNeg), .ref 36], h)) rfl ?_
      obtain ⟨fs5, e5⟩ := RL_o hR (r := 36) (ci := 8) rfl
      refine gw_call (jj := 66) (As := [.ref 36, .int (gsA s 39 (x4 : Int32).toNatClampNeg), .int x3]) (rest := []) (hk _ _ rfl) (fun _ => rfl) rfl rfl (Nat.le_of_ble_eq_true rfl) (gm_rcv_v rfl e5 rfl) ?_
      refine ge_imp (w h hR) (fun v5 h w => ?_)
      obtain ⟨s_5, hR, x_5, rfl, w⟩ := w
      show gw (gt_T c.1 c.2.1 c.2.2.1) c.2.2.2 d 68 (32, [some (.ref 36), none, some (.int x2), some (.int x3), some (.int x4)], [.int x_5], h) _
      refine gw_pst hk 2 (st' := (34, [some (.ref 36), none, some (.int x2), some (.int x_5), some (.int x4)], [.int x_5], h)) rfl ?_
      refine gw_br (c := x_5 = 0) (a := (37, [some (.ref 36), none, some (.int x2), some (.int x_5), some (.int x4)], [], h)) (b := (40, [some (.ref 36), none, some (.int x2), some (.int x_5), some (.int x4)], [], h)) (hk _ _ rfl) rfl ⟨fun z6 => ?_, fun z6 => ?_⟩
      · replace w := w.1 z6
        refine gw_pst hk 1 (st' := (39, [some (.ref 36), none, some (.int x2), some (.int x_5), some (.int x4)], [.int x4], h)) rfl ?_
        exact gw_ret (hk _ _ rfl) rfl ⟨_, hR, w⟩
      · replace w := w.2 z6
        refine gw_pst hk 2 (st' := (7, [some (.ref 36), none, some (.int x2), some (.int x_5), some (.int (x4 + 1))], [], h)) rfl ?_
        exact hK7 _ _ _ _ w _ hR
def wl68_7 (c : gx) (d : Nat) (Post : Option Value → gs → Prop) : Nat → Int32 → Int32 → Int32 → gs → Prop
  | 0 => fun _ _ _ _ => False
  | n + 1 => wb68_7 c d Post (wl68_7 c d Post n)
theorem okl68_7 (c : gx) (d : Nat) (Post : Option Value → gs → Prop) : ∀ (n : Nat) (x2 : Int32) (x3 : Int32) (x4 : Int32) (s : gs), wl68_7 c d Post n x2 x3 x4 s → tV c d 68 7 [some (.ref 36), none, some (.int x2), some (.int x3), some (.int x4)] [] s Post
  | 0, _, _, _, _, w => w.elim
  | n + 1, x2, x3, x4, s, w => okb68_7 c d Post (wl68_7 c d Post n) (okl68_7 c d Post n) x2 x3 x4 s w
/-- CommandByTurns$Walk.daysKeptOff(II)I -/
def wm68 (c : gx) (d : Nat) (Post : Option Value → gs → Prop) (x1 : Int32) (x2 : Int32) (s : gs) : Prop :=
  ∃ n, wl68_7 c d Post n x2 (1 <<< (x1 &&& 31)) 0 s
theorem okm68 (c : gx) (d : Nat) (Post : Option Value → gs → Prop) (x1 : Int32) (x2 : Int32) (s : gs) (w : wm68 c d Post x1 x2 s) : tE c (d + 1) 68 [.ref 36, .int x1, .int x2] s Post := by
  intro h hR
  have hk : ∀ pc i, gm_find gk_68 pc = some i → gm_code (gt_T c.1 c.2.1 c.2.2.1) 68 pc = some i := fun _ _ z => z
  unfold wm68 at w
  refine ge_of (by decide) (Nat.le_of_ble_eq_true rfl) ?_
  show gw (gt_T c.1 c.2.1 c.2.2.1) c.2.2.2 d 68 (0, [some (.ref 36), some (.int x1), some (.int x2), none, none], [], h) _
  refine gw_pst hk 6 (st' := (7, [some (.ref 36), some (.int x1), some (.int x2), some (.int (1 <<< (x1 &&& 31))), some (.int 0)], [], h)) rfl ?_
  refine gw_le (L' := [some (.ref 36), none, some (.int x2), some (.int (1 <<< (x1 &&& 31))), some (.int 0)]) (gm_le_k _ (gm_le_n _ (gm_le_k _ (gm_le_k _ (gm_le_k _ gm_le_nil))))) ?_
  obtain ⟨n, w⟩ := w
  exact okl68_7 c d Post n _ _ _ _ w _ hR
def w69_46 (c : gx) (d : Nat) (Post : Option Value → gs → Prop) (K10 : Int32 → Int32 → gs → Prop) (x4 : Int32) (xs0 : Int32) (s : gs) : Prop :=
  K10 xs0 (x4 + (-1)) s
theorem ok69_46 (c : gx) (d : Nat) (Post : Option Value → gs → Prop) (K10 : Int32 → Int32 → gs → Prop)  (hK10 : ∀ (x3 : Int32) (x4 : Int32) (s : gs), K10 x3 x4 s → tV c d 69 10 [some (.ref 36), none, none, some (.int x3), some (.int x4)] [] s Post) (x4 : Int32) (xs0 : Int32) (s : gs) (w : w69_46 c d Post K10 x4 xs0 s) : tV c d 69 46 [some (.ref 36), none, none, none, some (.int x4)] [.int xs0] s Post := by
  intro h hR
  have hk : ∀ pc i, gm_find gk_69 pc = some i → gm_code (gt_T c.1 c.2.1 c.2.2.1) 69 pc = some i := fun _ _ z => z
  unfold w69_46 at w
  unfold gV
  refine gw_pst hk 3 (st' := (10, [some (.ref 36), none, none, some (.int xs0), some (.int (x4 + (-1)))], [], h)) rfl ?_
  exact hK10 _ _ _ w _ hR
def wb69_10 (c : gx) (d : Nat) (Post : Option Value → gs → Prop) (K10 : Int32 → Int32 → gs → Prop) (x3 : Int32) (x4 : Int32) (s : gs) : Prop :=
  ((x4 < 0 → Post (some (.int x3)) s) ∧ (¬ (x4 < 0) → vp_in x4 21 ∧ ∀ s_3 : gs, s_3 = gs_A s 40 (x4 : Int32).toNatClampNeg (vp_nar .int x3) → ((x4 = 0 → w69_46 c d Post K10 x4 x3 s_3) ∧ (¬ (x4 = 0) → vp_in (x4 - 1) 20 ∧ tE c d 70 [.ref 36, .int (gsA s_3 39 (x4 - 1 : Int32).toNatClampNeg), .int x3] s_3 (fun v7 s_7 => ∃ x_7 : Int32, v7 = some (.int x_7) ∧ w69_46 c d Post K10 x4 x_7 s_7)))))
theorem okb69_10 (c : gx) (d : Nat) (Post : Option Value → gs → Prop) (K10 : Int32 → Int32 → gs → Prop)  (hK10 : ∀ (x3 : Int32) (x4 : Int32) (s : gs), K10 x3 x4 s → tV c d 69 10 [some (.ref 36), none, none, some (.int x3), some (.int x4)] [] s Post) (x3 : Int32) (x4 : Int32) (s : gs) (w : wb69_10 c d Post K10 x3 x4 s) : tV c d 69 10 [some (.ref 36), none, none, some (.int x3), some (.int x4)] [] s Post := by
  intro h hR
  have hk : ∀ pc i, gm_find gk_69 pc = some i → gm_code (gt_T c.1 c.2.1 c.2.2.1) 69 pc = some i := fun _ _ z => z
  unfold wb69_10 at w
  unfold gV
  refine gw_pst hk 1 (st' := (12, [some (.ref 36), none, none, some (.int x3), some (.int x4)], [.int x4], h)) rfl ?_
  refine gw_br (c := x4 < 0) (a := (53, [some (.ref 36), none, none, some (.int x3), some (.int x4)], [], h)) (b := (15, [some (.ref 36), none, none, some (.int x3), some (.int x4)], [], h)) (hk _ _ rfl) rfl ⟨fun z1 => ?_, fun z1 => ?_⟩
  · replace w := w.1 z1
    refine gw_pst hk 1 (st' := (54, [some (.ref 36), none, none, some (.int x3), some (.int x4)], [.int x3], h)) rfl ?_
    exact gw_ret (hk _ _ rfl) rfl ⟨_, hR, w⟩
  · replace w := w.2 z1
    refine gw_pst hk 1 (st' := (16, [some (.ref 36), none, none, some (.int x3), some (.int x4)], [.ref 36], h)) rfl ?_
    refine gw_gf (hk _ _ rfl) (RL_fR (n := 40) hR rfl) ?_
    refine gw_pst hk 2 (st' := (22, [some (.ref 36), none, none, some (.int x3), some (.int x4)], [.int x3, .int x4, .ref 40], h)) rfl ?_
    obtain ⟨b3, w⟩ := w
    have hR3 := RL_pA (a := 40) (t := 0) (n := 21) (k := (x4 : Int32).toNatClampNeg) (x := (vp_nar .int x3)) hR rfl (by decide)
    refine gw_ast (hk _ _ rfl) (Or.inl ⟨rfl, rfl, rfl⟩) (RL_a (t := 0) (n := 21) hR rfl (by decide)) b3 ?_
    generalize gm_put h _ _ = h at hR3 ⊢
    obtain ⟨s_3, es3⟩ : ∃ z, z = gs_A s 40 (x4 : Int32).toNatClampNeg (vp_nar .int x3) := ⟨_, rfl⟩
    rw [← es3] at hR3
    replace w := w s_3 es3
    replace hR := hR3
    refine gw_pst hk 1 (st' := (25, [some (.ref 36), none, none, some (.int x3), some (.int x4)], [.int x4], h)) rfl ?_
    refine gw_br (c := x4 = 0) (a := (28, [some (.ref 36), none, none, some (.int x3), some (.int x4)], [], h)) (b := (32, [some (.ref 36), none, none, some (.int x3), some (.int x4)], [], h)) (hk _ _ rfl) rfl ⟨fun z4 => ?_, fun z4 => ?_⟩
    · replace w := w.1 z4
      refine gw_pst hk 2 (st' := (46, [some (.ref 36), none, none, some (.int x3), some (.int x4)], [.int x3], h)) rfl ?_
      refine gw_le (L' := [some (.ref 36), none, none, none, some (.int x4)]) (gm_le_k _ (gm_le_k _ (gm_le_k _ (gm_le_n _ (gm_le_k _ gm_le_nil))))) ?_
      exact ok69_46 c d Post K10 hK10 _ _ _ w _ hR
    · replace w := w.2 z4
      refine gw_pst hk 2 (st' := (34, [some (.ref 36), none, none, some (.int x3), some (.int x4)], [.ref 36, .ref 36], h)) rfl ?_
      refine gw_gf (hk _ _ rfl) (RL_fR (n := 39) hR rfl) ?_
      refine gw_pst hk 3 (st' := (41, [some (.ref 36), none, none, some (.int x3), some (.int x4)], [.int (x4 - 1), .ref 39, .ref 36], h)) rfl ?_
      obtain ⟨b6, w⟩ := w
      refine gw_ald (hk _ _ rfl) (Or.inl ⟨rfl, rfl⟩) (RL_a (t := 0) (n := 20) hR rfl (by decide)) b6 ?_
      refine gw_pst hk 1 (st' := (43, [some (.ref 36), none, none, some (.int x3), some (.int x4)], [.int x3, .int (gsA s_3 39 (x4 - 1 : Int32).toNatClampNeg), .ref 36], h)) rfl ?_
      obtain ⟨fs7, e7⟩ := RL_o hR (r := 36) (ci := 8) rfl
      refine gw_call (jj := 70) (As := [.ref 36, .int (gsA s_3 39 (x4 - 1 : Int32).toNatClampNeg), .int x3]) (rest := []) (hk _ _ rfl) (fun _ => rfl) rfl rfl (Nat.le_of_ble_eq_true rfl) (gm_rcv_v rfl e7 rfl) ?_
      refine ge_imp (w h hR) (fun v7 h w => ?_)
      obtain ⟨s_7, hR, x_7, rfl, w⟩ := w
      show gw (gt_T c.1 c.2.1 c.2.2.1) c.2.2.2 d 69 (46, [some (.ref 36), none, none, some (.int x3), some (.int x4)], [.int x_7], h) _
      refine gw_le (L' := [some (.ref 36), none, none, none, some (.int x4)]) (gm_le_k _ (gm_le_k _ (gm_le_k _ (gm_le_n _ (gm_le_k _ gm_le_nil))))) ?_
      exact ok69_46 c d Post K10 hK10 _ _ _ w _ hR
def wl69_10 (c : gx) (d : Nat) (Post : Option Value → gs → Prop) : Nat → Int32 → Int32 → gs → Prop
  | 0 => fun _ _ _ => False
  | n + 1 => wb69_10 c d Post (wl69_10 c d Post n)
theorem okl69_10 (c : gx) (d : Nat) (Post : Option Value → gs → Prop) : ∀ (n : Nat) (x3 : Int32) (x4 : Int32) (s : gs), wl69_10 c d Post n x3 x4 s → tV c d 69 10 [some (.ref 36), none, none, some (.int x3), some (.int x4)] [] s Post
  | 0, _, _, _, w => w.elim
  | n + 1, x3, x4, s, w => okb69_10 c d Post (wl69_10 c d Post n) (okl69_10 c d Post n) x3 x4 s w
/-- CommandByTurns$Walk.lookBack(II)I -/
def wm69 (c : gx) (d : Nat) (Post : Option Value → gs → Prop) (x1 : Int32) (x2 : Int32) (s : gs) : Prop :=
  ∃ n, wl69_10 c d Post n x2 (if 20 < x1 then 20 else x1) s
theorem okm69 (c : gx) (d : Nat) (Post : Option Value → gs → Prop) (x1 : Int32) (x2 : Int32) (s : gs) (w : wm69 c d Post x1 x2 s) : tE c (d + 1) 69 [.ref 36, .int x1, .int x2] s Post := by
  intro h hR
  have hk : ∀ pc i, gm_find gk_69 pc = some i → gm_code (gt_T c.1 c.2.1 c.2.2.1) 69 pc = some i := fun _ _ z => z
  unfold wm69 at w
  refine ge_of (by decide) (Nat.le_of_ble_eq_true rfl) ?_
  show gw (gt_T c.1 c.2.1 c.2.2.1) c.2.2.2 d 69 (0, [some (.ref 36), some (.int x1), some (.int x2), none, none], [], h) _
  refine gw_pst hk 6 (st' := (10, [some (.ref 36), some (.int x1), some (.int x2), some (.int x2), some (.int (if 20 < x1 then 20 else x1))], [], h)) rfl ?_
  refine gw_le (L' := [some (.ref 36), none, none, some (.int x2), some (.int (if 20 < x1 then 20 else x1))]) (gm_le_k _ (gm_le_n _ (gm_le_n _ (gm_le_k _ (gm_le_k _ gm_le_nil))))) ?_
  obtain ⟨n, w⟩ := w
  exact okl69_10 c d Post n _ _ _ w _ hR
def w70_31 (c : gx) (d : Nat) (Post : Option Value → gs → Prop) (K5 : Int32 → Int32 → Int32 → Int32 → gs → Prop) (x1 : Int32) (x2 : Int32) (x3 : Int32) (x4 : Int32) (s : gs) : Prop :=
  K5 x1 x2 x3 (x4 + 1) s
theorem ok70_31 (c : gx) (d : Nat) (Post : Option Value → gs → Prop) (K5 : Int32 → Int32 → Int32 → Int32 → gs → Prop)  (hK5 : ∀ (x1 : Int32) (x2 : Int32) (x3 : Int32) (x4 : Int32) (s : gs), K5 x1 x2 x3 x4 s → tV c d 70 5 [some (.ref 36), some (.int x1), some (.int x2), some (.int x3), some (.int x4)] [] s Post) (x1 : Int32) (x2 : Int32) (x3 : Int32) (x4 : Int32) (s : gs) (w : w70_31 c d Post K5 x1 x2 x3 x4 s) : tV c d 70 31 [some (.ref 36), some (.int x1), some (.int x2), some (.int x3), some (.int x4)] [] s Post := by
  intro h hR
  have hk : ∀ pc i, gm_find gk_70 pc = some i → gm_code (gt_T c.1 c.2.1 c.2.2.1) 70 pc = some i := fun _ _ z => z
  unfold w70_31 at w
  unfold gV
  refine gw_pst hk 2 (st' := (5, [some (.ref 36), some (.int x1), some (.int x2), some (.int x3), some (.int (x4 + 1))], [], h)) rfl ?_
  exact hK5 _ _ _ _ _ w _ hR
def wb70_5 (c : gx) (d : Nat) (Post : Option Value → gs → Prop) (K5 : Int32 → Int32 → Int32 → Int32 → gs → Prop) (x1 : Int32) (x2 : Int32) (x3 : Int32) (x4 : Int32) (s : gs) : Prop :=
  ((12 ≤ x4 → Post (some (.int x3)) s) ∧ (¬ (12 ≤ x4) → tE c d 65 [.ref 36, .int x1, .int x4] s (fun v2 s_2 => ∃ x_2 : Int32, v2 = some (.int x_2) ∧ (((x_2 &&& x2) = 0 → w70_31 c d Post K5 x1 x2 x3 x4 s_2) ∧ (¬ ((x_2 &&& x2) = 0) → w70_31 c d Post K5 x1 x2 (x3 ||| (1 <<< (x4 &&& 31))) x4 s_2)))))
theorem okb70_5 (c : gx) (d : Nat) (Post : Option Value → gs → Prop) (K5 : Int32 → Int32 → Int32 → Int32 → gs → Prop)  (hK5 : ∀ (x1 : Int32) (x2 : Int32) (x3 : Int32) (x4 : Int32) (s : gs), K5 x1 x2 x3 x4 s → tV c d 70 5 [some (.ref 36), some (.int x1), some (.int x2), some (.int x3), some (.int x4)] [] s Post) (x1 : Int32) (x2 : Int32) (x3 : Int32) (x4 : Int32) (s : gs) (w : wb70_5 c d Post K5 x1 x2 x3 x4 s) : tV c d 70 5 [some (.ref 36), some (.int x1), some (.int x2), some (.int x3), some (.int x4)] [] s Post := by
  intro h hR
  have hk : ∀ pc i, gm_find gk_70 pc = some i → gm_code (gt_T c.1 c.2.1 c.2.2.1) 70 pc = some i := fun _ _ z => z
  unfold wb70_5 at w
  unfold gV
  refine gw_pst hk 2 (st' := (9, [some (.ref 36), some (.int x1), some (.int x2), some (.int x3), some (.int x4)], [.int 12, .int x4], h)) rfl ?_
  refine gw_br (c := 12 ≤ x4) (a := (37, [some (.ref 36), some (.int x1), some (.int x2), some (.int x3), some (.int x4)], [], h)) (b := (12, [some (.ref 36), some (.int x1), some (.int x2), some (.int x3), some (.int x4)], [], h)) (hk _ _ rfl) rfl ⟨fun z1 => ?_, fun z1 => ?_⟩
  · replace w := w.1 z1
    refine gw_pst hk 1 (st' := (38, [some (.ref 36), some (.int x1), some (.int x2), some (.int x3), some (.int x4)], [.int x3], h)) rfl ?_
    exact gw_ret (hk _ _ rfl) rfl ⟨_, hR, w⟩
  · replace w := w.2 z1
    refine gw_pst hk 3 (st' := (16, [some (.ref 36), some (.int x1), some (.int x2), some (.int x3), some (.int x4)], [.int x4, .int x1, .ref 36], h)) rfl ?_
    obtain ⟨fs2, e2⟩ := RL_o hR (r := 36) (ci := 8) rfl
    refine gw_call (jj := 65) (As := [.ref 36, .int x1, .int x4]) (rest := []) (hk _ _ rfl) (fun _ => rfl) rfl rfl (Nat.le_of_ble_eq_true rfl) (gm_rcv_v rfl e2 rfl) ?_
    refine ge_imp (w h hR) (fun v2 h w => ?_)
    obtain ⟨s_2, hR, x_2, rfl, w⟩ := w
    show gw (gt_T c.1 c.2.1 c.2.2.1) c.2.2.2 d 70 (19, [some (.ref 36), some (.int x1), some (.int x2), some (.int x3), some (.int x4)], [.int x_2], h) _
    refine gw_pst hk 2 (st' := (21, [some (.ref 36), some (.int x1), some (.int x2), some (.int x3), some (.int x4)], [.int (x_2 &&& x2)], h)) rfl ?_
    refine gw_br (c := (x_2 &&& x2) = 0) (a := (31, [some (.ref 36), some (.int x1), some (.int x2), some (.int x3), some (.int x4)], [], h)) (b := (24, [some (.ref 36), some (.int x1), some (.int x2), some (.int x3), some (.int x4)], [], h)) (hk _ _ rfl) rfl ⟨fun z3 => ?_, fun z3 => ?_⟩
    · replace w := w.1 z3
      exact ok70_31 c d Post K5 hK5 _ _ _ _ _ w _ hR
    · replace w := w.2 z3
      refine gw_pst hk 6 (st' := (31, [some (.ref 36), some (.int x1), some (.int x2), some (.int (x3 ||| (1 <<< (x4 &&& 31)))), some (.int x4)], [], h)) rfl ?_
      exact ok70_31 c d Post K5 hK5 _ _ _ _ _ w _ hR
def wl70_5 (c : gx) (d : Nat) (Post : Option Value → gs → Prop) : Nat → Int32 → Int32 → Int32 → Int32 → gs → Prop
  | 0 => fun _ _ _ _ _ => False
  | n + 1 => wb70_5 c d Post (wl70_5 c d Post n)
theorem okl70_5 (c : gx) (d : Nat) (Post : Option Value → gs → Prop) : ∀ (n : Nat) (x1 : Int32) (x2 : Int32) (x3 : Int32) (x4 : Int32) (s : gs), wl70_5 c d Post n x1 x2 x3 x4 s → tV c d 70 5 [some (.ref 36), some (.int x1), some (.int x2), some (.int x3), some (.int x4)] [] s Post
  | 0, _, _, _, _, _, w => w.elim
  | n + 1, x1, x2, x3, x4, s, w => okb70_5 c d Post (wl70_5 c d Post n) (okl70_5 c d Post n) x1 x2 x3 x4 s w
/-- CommandByTurns$Walk.sourcesOf(II)I -/
def wm70 (c : gx) (d : Nat) (Post : Option Value → gs → Prop) (x1 : Int32) (x2 : Int32) (s : gs) : Prop :=
  ∃ n, wl70_5 c d Post n x1 x2 0 0 s
theorem okm70 (c : gx) (d : Nat) (Post : Option Value → gs → Prop) (x1 : Int32) (x2 : Int32) (s : gs) (w : wm70 c d Post x1 x2 s) : tE c (d + 1) 70 [.ref 36, .int x1, .int x2] s Post := by
  intro h hR
  have hk : ∀ pc i, gm_find gk_70 pc = some i → gm_code (gt_T c.1 c.2.1 c.2.2.1) 70 pc = some i := fun _ _ z => z
  unfold wm70 at w
  refine ge_of (by decide) (Nat.le_of_ble_eq_true rfl) ?_
  show gw (gt_T c.1 c.2.1 c.2.2.1) c.2.2.2 d 70 (0, [some (.ref 36), some (.int x1), some (.int x2), none, none], [], h) _
  refine gw_pst hk 4 (st' := (5, [some (.ref 36), some (.int x1), some (.int x2), some (.int 0), some (.int 0)], [], h)) rfl ?_
  obtain ⟨n, w⟩ := w
  exact okl70_5 c d Post n _ _ _ _ _ w _ hR
def w71_10 (c : gx) (d : Nat) (Post : Option Value → gs → Prop) (x2 : Int32) (s : gs) : Prop :=
  Post (some (.int x2)) s
theorem ok71_10 (c : gx) (d : Nat) (Post : Option Value → gs → Prop)  (x2 : Int32) (s : gs) (w : w71_10 c d Post x2 s) : tV c d 71 10 [none, none, some (.int x2)] [] s Post := by
  intro h hR
  have hk : ∀ pc i, gm_find gk_71 pc = some i → gm_code (gt_T c.1 c.2.1 c.2.2.1) 71 pc = some i := fun _ _ z => z
  unfold w71_10 at w
  unfold gV
  refine gw_pst hk 1 (st' := (11, [none, none, some (.int x2)], [.int x2], h)) rfl ?_
  exact gw_ret (hk _ _ rfl) rfl ⟨_, hR, w⟩
/-- CommandByTurns$Walk.leastStep(II)I -/
def wm71 (c : gx) (d : Nat) (Post : Option Value → gs → Prop) (x1 : Int32) (x2 : Int32) (s : gs) : Prop :=
  ((x1 < 0 → w71_10 c d Post x2 s) ∧ (¬ (x1 < 0) → ((x1 < 20 → vp_in x1 20 ∧ tE c d 65 [.ref 36, .int (gsA s 39 (x1 : Int32).toNatClampNeg), .int x2] s (fun v5 s_5 => ∃ x_5 : Int32, v5 = some (.int x_5) ∧ vp_in (x1 + 1) 21 ∧ tE c d 265 [.int (x_5 &&& (gsA s_5 40 (x1 + 1 : Int32).toNatClampNeg))] s_5 (fun v8 s_8 => ∃ x_8 : Int32, v8 = some (.int x_8) ∧ Post (some (.int x_8)) s_8))) ∧ (¬ (x1 < 20) → w71_10 c d Post x2 s))))
theorem okm71 (c : gx) (d : Nat) (Post : Option Value → gs → Prop) (x1 : Int32) (x2 : Int32) (s : gs) (w : wm71 c d Post x1 x2 s) : tE c (d + 1) 71 [.ref 36, .int x1, .int x2] s Post := by
  intro h hR
  have hk : ∀ pc i, gm_find gk_71 pc = some i → gm_code (gt_T c.1 c.2.1 c.2.2.1) 71 pc = some i := fun _ _ z => z
  unfold wm71 at w
  refine ge_of (by decide) (Nat.le_of_ble_eq_true rfl) ?_
  show gw (gt_T c.1 c.2.1 c.2.2.1) c.2.2.2 d 71 (0, [some (.ref 36), some (.int x1), some (.int x2)], [], h) _
  refine gw_pst hk 1 (st' := (1, [some (.ref 36), some (.int x1), some (.int x2)], [.int x1], h)) rfl ?_
  refine gw_br (c := x1 < 0) (a := (10, [some (.ref 36), some (.int x1), some (.int x2)], [], h)) (b := (4, [some (.ref 36), some (.int x1), some (.int x2)], [], h)) (hk _ _ rfl) rfl ⟨fun z1 => ?_, fun z1 => ?_⟩
  · replace w := w.1 z1
    refine gw_le (L' := [none, none, some (.int x2)]) (gm_le_n _ (gm_le_n _ (gm_le_k _ gm_le_nil))) ?_
    exact ok71_10 c d Post _ _ w _ hR
  · replace w := w.2 z1
    refine gw_pst hk 2 (st' := (7, [some (.ref 36), some (.int x1), some (.int x2)], [.int 20, .int x1], h)) rfl ?_
    refine gw_br (c := x1 < 20) (a := (12, [some (.ref 36), some (.int x1), some (.int x2)], [], h)) (b := (10, [some (.ref 36), some (.int x1), some (.int x2)], [], h)) (hk _ _ rfl) rfl ⟨fun z2 => ?_, fun z2 => ?_⟩
    · replace w := w.1 z2
      refine gw_pst hk 2 (st' := (14, [some (.ref 36), some (.int x1), some (.int x2)], [.ref 36, .ref 36], h)) rfl ?_
      refine gw_gf (hk _ _ rfl) (RL_fR (n := 39) hR rfl) ?_
      refine gw_pst hk 1 (st' := (18, [some (.ref 36), some (.int x1), some (.int x2)], [.int x1, .ref 39, .ref 36], h)) rfl ?_
      obtain ⟨b4, w⟩ := w
      refine gw_ald (hk _ _ rfl) (Or.inl ⟨rfl, rfl⟩) (RL_a (t := 0) (n := 20) hR rfl (by decide)) b4 ?_
      refine gw_pst hk 1 (st' := (20, [some (.ref 36), some (.int x1), some (.int x2)], [.int x2, .int (gsA s 39 (x1 : Int32).toNatClampNeg), .ref 36], h)) rfl ?_
      obtain ⟨fs5, e5⟩ := RL_o hR (r := 36) (ci := 8) rfl
      refine gw_call (jj := 65) (As := [.ref 36, .int (gsA s 39 (x1 : Int32).toNatClampNeg), .int x2]) (rest := []) (hk _ _ rfl) (fun _ => rfl) rfl rfl (Nat.le_of_ble_eq_true rfl) (gm_rcv_v rfl e5 rfl) ?_
      refine ge_imp (w h hR) (fun v5 h w => ?_)
      obtain ⟨s_5, hR, x_5, rfl, w⟩ := w
      show gw (gt_T c.1 c.2.1 c.2.2.1) c.2.2.2 d 71 (23, [some (.ref 36), some (.int x1), some (.int x2)], [.int x_5], h) _
      refine gw_pst hk 1 (st' := (24, [some (.ref 36), some (.int x1), some (.int x2)], [.ref 36, .int x_5], h)) rfl ?_
      refine gw_gf (hk _ _ rfl) (RL_fR (n := 40) hR rfl) ?_
      refine gw_pst hk 3 (st' := (30, [some (.ref 36), some (.int x1), some (.int x2)], [.int (x1 + 1), .ref 40, .int x_5], h)) rfl ?_
      obtain ⟨b7, w⟩ := w
      refine gw_ald (hk _ _ rfl) (Or.inl ⟨rfl, rfl⟩) (RL_a (t := 0) (n := 21) hR rfl (by decide)) b7 ?_
      refine gw_pst hk 1 (st' := (32, [some (.ref 36), some (.int x1), some (.int x2)], [.int (x_5 &&& (gsA s_5 40 (x1 + 1 : Int32).toNatClampNeg))], h)) rfl ?_
      refine gw_call (jj := 265) (As := [.int (x_5 &&& (gsA s_5 40 (x1 + 1 : Int32).toNatClampNeg))]) (rest := []) (hk _ _ rfl) (fun _ => rfl) rfl rfl (Nat.le_of_ble_eq_true rfl) rfl ?_
      refine ge_imp (w h hR) (fun v8 h w => ?_)
      obtain ⟨s_8, hR, x_8, rfl, w⟩ := w
      show gw (gt_T c.1 c.2.1 c.2.2.1) c.2.2.2 d 71 (35, [some (.ref 36), some (.int x1), some (.int x2)], [.int x_8], h) _
      exact gw_ret (hk _ _ rfl) rfl ⟨_, hR, w⟩
    · replace w := w.2 z2
      refine gw_le (L' := [none, none, some (.int x2)]) (gm_le_n _ (gm_le_n _ (gm_le_k _ gm_le_nil))) ?_
      exact ok71_10 c d Post _ _ w _ hR
def w72_40 (c : gx) (d : Nat) (Post : Option Value → gs → Prop) (xs0 : Int32) (s : gs) : Prop :=
  ((xs0 = 0 ∨ xs0 = 1) ∧ Post (some (.int xs0)) s)
theorem ok72_40 (c : gx) (d : Nat) (Post : Option Value → gs → Prop)  (xs0 : Int32) (s : gs) (w : w72_40 c d Post xs0 s) : tV c d 72 40 [none, none, none] [.int xs0] s Post := by
  intro h hR
  have hk : ∀ pc i, gm_find gk_72 pc = some i → gm_code (gt_T c.1 c.2.1 c.2.2.1) 72 pc = some i := fun _ _ z => z
  unfold w72_40 at w
  unfold gV
  exact gw_retZ (hk _ _ rfl) rfl w.1 ⟨_, hR, w.2⟩
/-- CommandByTurns$Walk.findFewest(II)Z -/
def wm72 (c : gx) (d : Nat) (Post : Option Value → gs → Prop) (x1 : Int32) (x2 : Int32) (s : gs) : Prop :=
  ∀ s_1 : gs, s_1 = gs_V s 36 4 (x2 + 1) → ∀ s_2 : gs, s_2 = gs_V s_1 36 5 0 → tE c d 73 [.ref 36, .int 0, .int (if 20 < x2 then 20 else x2), .int (1 <<< (x1 &&& 31)), .int 0] s_2 (fun v3 s_3 => v3 = none ∧ ((x2 < (gsV s_3 36 4) → w72_40 c d Post 0 s_3) ∧ (¬ (x2 < (gsV s_3 36 4)) → w72_40 c d Post 1 s_3)))
theorem okm72 (c : gx) (d : Nat) (Post : Option Value → gs → Prop) (x1 : Int32) (x2 : Int32) (s : gs) (w : wm72 c d Post x1 x2 s) : tE c (d + 1) 72 [.ref 36, .int x1, .int x2] s Post := by
  intro h hR
  have hk : ∀ pc i, gm_find gk_72 pc = some i → gm_code (gt_T c.1 c.2.1 c.2.2.1) 72 pc = some i := fun _ _ z => z
  unfold wm72 at w
  refine ge_of (by decide) (Nat.le_of_ble_eq_true rfl) ?_
  show gw (gt_T c.1 c.2.1 c.2.2.1) c.2.2.2 d 72 (0, [some (.ref 36), some (.int x1), some (.int x2)], [], h) _
  refine gw_pst hk 4 (st' := (4, [some (.ref 36), some (.int x1), some (.int x2)], [.int (x2 + 1), .ref 36], h)) rfl ?_
  obtain ⟨fs1, e1⟩ := RL_o hR (r := 36) (ci := 8) rfl
  obtain ⟨l1, hR1⟩ := RL_pI (k := 4) (x := x2 + 1) hR rfl e1
  refine gw_pf (hk _ _ rfl) e1 l1 rfl ?_
  generalize gm_put h _ _ = h at hR1 ⊢
  obtain ⟨s_1, es1⟩ : ∃ z, z = gs_V s 36 4 (x2 + 1) := ⟨_, rfl⟩
  rw [← es1] at hR1
  replace w := w s_1 es1
  replace hR := hR1
  refine gw_pst hk 2 (st' := (9, [some (.ref 36), some (.int x1), some (.int x2)], [.int 0, .ref 36], h)) rfl ?_
  obtain ⟨fs2, e2⟩ := RL_o hR (r := 36) (ci := 8) rfl
  obtain ⟨l2, hR2⟩ := RL_pI (k := 5) (x := 0) hR rfl e2
  refine gw_pf (hk _ _ rfl) e2 l2 rfl ?_
  generalize gm_put h _ _ = h at hR2 ⊢
  obtain ⟨s_2, es2⟩ : ∃ z, z = gs_V s_1 36 5 0 := ⟨_, rfl⟩
  rw [← es2] at hR2
  replace w := w s_2 es2
  replace hR := hR2
  refine gw_pst hk 9 (st' := (24, [some (.ref 36), some (.int x1), some (.int x2)], [.int 0, .int (1 <<< (x1 &&& 31)), .int (if 20 < x2 then 20 else x2), .int 0, .ref 36], h)) rfl ?_
  obtain ⟨fs3, e3⟩ := RL_o hR (r := 36) (ci := 8) rfl
  refine gw_call (jj := 73) (As := [.ref 36, .int 0, .int (if 20 < x2 then 20 else x2), .int (1 <<< (x1 &&& 31)), .int 0]) (rest := []) (hk _ _ rfl) (fun _ => rfl) rfl rfl (Nat.le_of_ble_eq_true rfl) (gm_rcv_v rfl e3 rfl) ?_
  refine ge_imp (w h hR) (fun v3 h w => ?_)
  obtain ⟨s_3, hR, rfl, w⟩ := w
  show gw (gt_T c.1 c.2.1 c.2.2.1) c.2.2.2 d 72 (27, [some (.ref 36), some (.int x1), some (.int x2)], [], h) _
  refine gw_pst hk 1 (st' := (28, [some (.ref 36), some (.int x1), some (.int x2)], [.ref 36], h)) rfl ?_
  refine gw_gf (hk _ _ rfl) (RL_fI hR rfl) ?_
  refine gw_pst hk 1 (st' := (32, [some (.ref 36), some (.int x1), some (.int x2)], [.int x2, .int (gsV s_3 36 4)], h)) rfl ?_
  refine gw_br (c := x2 < (gsV s_3 36 4)) (a := (39, [some (.ref 36), some (.int x1), some (.int x2)], [], h)) (b := (35, [some (.ref 36), some (.int x1), some (.int x2)], [], h)) (hk _ _ rfl) rfl ⟨fun z5 => ?_, fun z5 => ?_⟩
  · replace w := w.1 z5
    refine gw_pst hk 1 (st' := (40, [some (.ref 36), some (.int x1), some (.int x2)], [.int 0], h)) rfl ?_
    refine gw_le (L' := [none, none, none]) (gm_le_n _ (gm_le_n _ (gm_le_n _ gm_le_nil))) ?_
    exact ok72_40 c d Post _ _ w _ hR
  · replace w := w.2 z5
    refine gw_pst hk 2 (st' := (40, [some (.ref 36), some (.int x1), some (.int x2)], [.int 1], h)) rfl ?_
    refine gw_le (L' := [none, none, none]) (gm_le_n _ (gm_le_n _ (gm_le_n _ gm_le_nil))) ?_
    exact ok72_40 c d Post _ _ w _ hR
def w73_50 (c : gx) (d : Nat) (Post : Option Value → gs → Prop)  (s : gs) : Prop :=
  Post none s
theorem ok73_50 (c : gx) (d : Nat) (Post : Option Value → gs → Prop)   (s : gs) (w : w73_50 c d Post  s) : tV c d 73 50 [none, none, none, none, none, none] [] s Post := by
  intro h hR
  have hk : ∀ pc i, gm_find gk_73 pc = some i → gm_code (gt_T c.1 c.2.1 c.2.2.1) 73 pc = some i := fun _ _ z => z
  unfold w73_50 at w
  unfold gV
  exact gw_ret (hk _ _ rfl) rfl ⟨_, hR, w⟩
def w73_38 (c : gx) (d : Nat) (Post : Option Value → gs → Prop) (x4 : Int32) (x5 : Int32) (s : gs) : Prop :=
  ∀ s_1 : gs, s_1 = gs_V s 36 4 x5 → ∀ s_2 : gs, s_2 = gs_V s_1 36 5 x4 → w73_50 c d Post s_2
theorem ok73_38 (c : gx) (d : Nat) (Post : Option Value → gs → Prop)  (x4 : Int32) (x5 : Int32) (s : gs) (w : w73_38 c d Post x4 x5 s) : tV c d 73 38 [some (.ref 36), none, none, none, some (.int x4), some (.int x5)] [] s Post := by
  intro h hR
  have hk : ∀ pc i, gm_find gk_73 pc = some i → gm_code (gt_T c.1 c.2.1 c.2.2.1) 73 pc = some i := fun _ _ z => z
  unfold w73_38 at w
  unfold gV
  refine gw_pst hk 2 (st' := (41, [some (.ref 36), none, none, none, some (.int x4), some (.int x5)], [.int x5, .ref 36], h)) rfl ?_
  obtain ⟨fs1, e1⟩ := RL_o hR (r := 36) (ci := 8) rfl
  obtain ⟨l1, hR1⟩ := RL_pI (k := 4) (x := x5) hR rfl e1
  refine gw_pf (hk _ _ rfl) e1 l1 rfl ?_
  generalize gm_put h _ _ = h at hR1 ⊢
  obtain ⟨s_1, es1⟩ : ∃ z, z = gs_V s 36 4 x5 := ⟨_, rfl⟩
  rw [← es1] at hR1
  replace w := w s_1 es1
  replace hR := hR1
  refine gw_pst hk 2 (st' := (47, [some (.ref 36), none, none, none, some (.int x4), some (.int x5)], [.int x4, .ref 36], h)) rfl ?_
  obtain ⟨fs2, e2⟩ := RL_o hR (r := 36) (ci := 8) rfl
  obtain ⟨l2, hR2⟩ := RL_pI (k := 5) (x := x4) hR rfl e2
  refine gw_pf (hk _ _ rfl) e2 l2 rfl ?_
  generalize gm_put h _ _ = h at hR2 ⊢
  obtain ⟨s_2, es2⟩ : ∃ z, z = gs_V s_1 36 5 x4 := ⟨_, rfl⟩
  rw [← es2] at hR2
  replace w := w s_2 es2
  replace hR := hR2
  refine gw_le (L' := [none, none, none, none, none, none]) (gm_le_n _ (gm_le_k _ (gm_le_k _ (gm_le_k _ (gm_le_n _ (gm_le_n _ gm_le_nil)))))) ?_
  exact ok73_50 c d Post _ w _ hR
def w73_69 (c : gx) (d : Nat) (Post : Option Value → gs → Prop)  (s : gs) : Prop :=
  Post none s
theorem ok73_69 (c : gx) (d : Nat) (Post : Option Value → gs → Prop)   (s : gs) (w : w73_69 c d Post  s) : tV c d 73 69 [none, none, none, none, none, none] [] s Post := by
  intro h hR
  have hk : ∀ pc i, gm_find gk_73 pc = some i → gm_code (gt_T c.1 c.2.1 c.2.2.1) 73 pc = some i := fun _ _ z => z
  unfold w73_69 at w
  unfold gV
  exact gw_ret (hk _ _ rfl) rfl ⟨_, hR, w⟩
def w73_121 (c : gx) (d : Nat) (Post : Option Value → gs → Prop)  (s : gs) : Prop :=
  Post none s
theorem ok73_121 (c : gx) (d : Nat) (Post : Option Value → gs → Prop)   (s : gs) (w : w73_121 c d Post  s) : tV c d 73 121 [none, none, none, none, none, none] [] s Post := by
  intro h hR
  have hk : ∀ pc i, gm_find gk_73 pc = some i → gm_code (gt_T c.1 c.2.1 c.2.2.1) 73 pc = some i := fun _ _ z => z
  unfold w73_121 at w
  unfold gV
  exact gw_ret (hk _ _ rfl) rfl ⟨_, hR, w⟩
/-- CommandByTurns$Walk.give(IIII)V -/
def wm73 (c : gx) (d : Nat) (Post : Option Value → gs → Prop) (x1 : Int32) (x2 : Int32) (x3 : Int32) (x4 : Int32) (s : gs) : Prop :=
  tE c d 266 [.int x4] s (fun v1 s_1 => ∃ x_1 : Int32, v1 = some (.int x_1) ∧ ((x3 = 0 → ((x_1 < (gsV s_1 36 4) → w73_38 c d Post x4 x_1 s_1) ∧ (¬ (x_1 < (gsV s_1 36 4)) → ((x_1 = (gsV s_1 36 4) → (((gsV s_1 36 5) ≤ x4 → w73_50 c d Post s_1) ∧ (¬ ((gsV s_1 36 5) ≤ x4) → w73_38 c d Post x4 x_1 s_1))) ∧ (¬ (x_1 = (gsV s_1 36 4)) → w73_50 c d Post s_1))))) ∧ (¬ (x3 = 0) → ((x1 < 0 → w73_69 c d Post s_1) ∧ (¬ (x1 < 0) → ((x2 ≤ x1 → w73_69 c d Post s_1) ∧ (¬ (x2 ≤ x1) → ((x_1 ≤ (gsV s_1 36 4) → vp_in x1 20 ∧ tE c d 66 [.ref 36, .int (gsA s_1 39 (x1 : Int32).toNatClampNeg), .int x3] s_1 (fun v15 s_15 => ∃ x_15 : Int32, v15 = some (.int x_15) ∧ tE c d 73 [.ref 36, .int (x1 + 1), .int x2, .int x_15, .int x4] s_15 (fun v16 s_16 => v16 = none ∧ vp_in x1 20 ∧ (((gsA s_16 39 (x1 : Int32).toNatClampNeg) = 1 → tE c d 66 [.ref 36, .int 0, .int x3] s_16 (fun v20 s_20 => ∃ x_20 : Int32, v20 = some (.int x_20) ∧ tE c d 73 [.ref 36, .int (x1 + 1), .int x2, .int x_20, .int (x4 ||| (1 <<< (x1 &&& 31)))] s_20 (fun v21 s_21 => v21 = none ∧ w73_121 c d Post s_21))) ∧ (¬ ((gsA s_16 39 (x1 : Int32).toNatClampNeg) = 1) → w73_121 c d Post s_16))))) ∧ (¬ (x_1 ≤ (gsV s_1 36 4)) → w73_69 c d Post s_1)))))))))
theorem okm73 (c : gx) (d : Nat) (Post : Option Value → gs → Prop) (x1 : Int32) (x2 : Int32) (x3 : Int32) (x4 : Int32) (s : gs) (w : wm73 c d Post x1 x2 x3 x4 s) : tE c (d + 1) 73 [.ref 36, .int x1, .int x2, .int x3, .int x4] s Post := by
  intro h hR
  have hk : ∀ pc i, gm_find gk_73 pc = some i → gm_code (gt_T c.1 c.2.1 c.2.2.1) 73 pc = some i := fun _ _ z => z
  unfold wm73 at w
  refine ge_of (by decide) (Nat.le_of_ble_eq_true rfl) ?_
  show gw (gt_T c.1 c.2.1 c.2.2.1) c.2.2.2 d 73 (0, [some (.ref 36), some (.int x1), some (.int x2), some (.int x3), some (.int x4), none], [], h) _
  refine gw_pst hk 1 (st' := (2, [some (.ref 36), some (.int x1), some (.int x2), some (.int x3), some (.int x4), none], [.int x4], h)) rfl ?_
  refine gw_call (jj := 266) (As := [.int x4]) (rest := []) (hk _ _ rfl) (fun _ => rfl) rfl rfl (Nat.le_of_ble_eq_true rfl) rfl ?_
  refine ge_imp (w h hR) (fun v1 h w => ?_)
  obtain ⟨s_1, hR, x_1, rfl, w⟩ := w
  show gw (gt_T c.1 c.2.1 c.2.2.1) c.2.2.2 d 73 (5, [some (.ref 36), some (.int x1), some (.int x2), some (.int x3), some (.int x4), none], [.int x_1], h) _
  refine gw_pst hk 2 (st' := (8, [some (.ref 36), some (.int x1), some (.int x2), some (.int x3), some (.int x4), some (.int x_1)], [.int x3], h)) rfl ?_
  refine gw_br (c := x3 = 0) (a := (11, [some (.ref 36), some (.int x1), some (.int x2), some (.int x3), some (.int x4), some (.int x_1)], [], h)) (b := (51, [some (.ref 36), some (.int x1), some (.int x2), some (.int x3), some (.int x4), some (.int x_1)], [], h)) (hk _ _ rfl) rfl ⟨fun z2 => ?_, fun z2 => ?_⟩
  · replace w := w.1 z2
    refine gw_pst hk 2 (st' := (14, [some (.ref 36), some (.int x1), some (.int x2), some (.int x3), some (.int x4), some (.int x_1)], [.ref 36, .int x_1], h)) rfl ?_
    refine gw_gf (hk _ _ rfl) (RL_fI hR rfl) ?_
    refine gw_br (c := x_1 < (gsV s_1 36 4)) (a := (38, [some (.ref 36), some (.int x1), some (.int x2), some (.int x3), some (.int x4), some (.int x_1)], [], h)) (b := (20, [some (.ref 36), some (.int x1), some (.int x2), some (.int x3), some (.int x4), some (.int x_1)], [], h)) (hk _ _ rfl) rfl ⟨fun z4 => ?_, fun z4 => ?_⟩
    · replace w := w.1 z4
      refine gw_le (L' := [some (.ref 36), none, none, none, some (.int x4), some (.int x_1)]) (gm_le_k _ (gm_le_n _ (gm_le_n _ (gm_le_n _ (gm_le_k _ (gm_le_k _ gm_le_nil)))))) ?_
      exact ok73_38 c d Post _ _ _ w _ hR
    · replace w := w.2 z4
      refine gw_pst hk 2 (st' := (23, [some (.ref 36), some (.int x1), some (.int x2), some (.int x3), some (.int x4), some (.int x_1)], [.ref 36, .int x_1], h)) rfl ?_
      refine gw_gf (hk _ _ rfl) (RL_fI hR rfl) ?_
      refine gw_br (c := x_1 = (gsV s_1 36 4)) (a := (29, [some (.ref 36), some (.int x1), some (.int x2), some (.int x3), some (.int x4), some (.int x_1)], [], h)) (b := (50, [some (.ref 36), some (.int x1), some (.int x2), some (.int x3), some (.int x4), some (.int x_1)], [], h)) (hk _ _ rfl) rfl ⟨fun z6 => ?_, fun z6 => ?_⟩
      · replace w := w.1 z6
        refine gw_pst hk 2 (st' := (32, [some (.ref 36), some (.int x1), some (.int x2), some (.int x3), some (.int x4), some (.int x_1)], [.ref 36, .int x4], h)) rfl ?_
        refine gw_gf (hk _ _ rfl) (RL_fI hR rfl) ?_
        refine gw_br (c := (gsV s_1 36 5) ≤ x4) (a := (50, [some (.ref 36), some (.int x1), some (.int x2), some (.int x3), some (.int x4), some (.int x_1)], [], h)) (b := (38, [some (.ref 36), some (.int x1), some (.int x2), some (.int x3), some (.int x4), some (.int x_1)], [], h)) (hk _ _ rfl) rfl ⟨fun z8 => ?_, fun z8 => ?_⟩
        · replace w := w.1 z8
          refine gw_le (L' := [none, none, none, none, none, none]) (gm_le_n _ (gm_le_n _ (gm_le_n _ (gm_le_n _ (gm_le_n _ (gm_le_n _ gm_le_nil)))))) ?_
          exact ok73_50 c d Post _ w _ hR
        · replace w := w.2 z8
          refine gw_le (L' := [some (.ref 36), none, none, none, some (.int x4), some (.int x_1)]) (gm_le_k _ (gm_le_n _ (gm_le_n _ (gm_le_n _ (gm_le_k _ (gm_le_k _ gm_le_nil)))))) ?_
          exact ok73_38 c d Post _ _ _ w _ hR
      · replace w := w.2 z6
        refine gw_le (L' := [none, none, none, none, none, none]) (gm_le_n _ (gm_le_n _ (gm_le_n _ (gm_le_n _ (gm_le_n _ (gm_le_n _ gm_le_nil)))))) ?_
        exact ok73_50 c d Post _ w _ hR
  · replace w := w.2 z2
    refine gw_pst hk 1 (st' := (52, [some (.ref 36), some (.int x1), some (.int x2), some (.int x3), some (.int x4), some (.int x_1)], [.int x1], h)) rfl ?_
    refine gw_br (c := x1 < 0) (a := (69, [some (.ref 36), some (.int x1), some (.int x2), some (.int x3), some (.int x4), some (.int x_1)], [], h)) (b := (55, [some (.ref 36), some (.int x1), some (.int x2), some (.int x3), some (.int x4), some (.int x_1)], [], h)) (hk _ _ rfl) rfl ⟨fun z9 => ?_, fun z9 => ?_⟩
    · replace w := w.1 z9
      refine gw_le (L' := [none, none, none, none, none, none]) (gm_le_n _ (gm_le_n _ (gm_le_n _ (gm_le_n _ (gm_le_n _ (gm_le_n _ gm_le_nil)))))) ?_
      exact ok73_69 c d Post _ w _ hR
    · replace w := w.2 z9
      refine gw_pst hk 2 (st' := (57, [some (.ref 36), some (.int x1), some (.int x2), some (.int x3), some (.int x4), some (.int x_1)], [.int x2, .int x1], h)) rfl ?_
      refine gw_br (c := x2 ≤ x1) (a := (69, [some (.ref 36), some (.int x1), some (.int x2), some (.int x3), some (.int x4), some (.int x_1)], [], h)) (b := (60, [some (.ref 36), some (.int x1), some (.int x2), some (.int x3), some (.int x4), some (.int x_1)], [], h)) (hk _ _ rfl) rfl ⟨fun z10 => ?_, fun z10 => ?_⟩
      · replace w := w.1 z10
        refine gw_le (L' := [none, none, none, none, none, none]) (gm_le_n _ (gm_le_n _ (gm_le_n _ (gm_le_n _ (gm_le_n _ (gm_le_n _ gm_le_nil)))))) ?_
        exact ok73_69 c d Post _ w _ hR
      · replace w := w.2 z10
        refine gw_pst hk 2 (st' := (63, [some (.ref 36), some (.int x1), some (.int x2), some (.int x3), some (.int x4), some (.int x_1)], [.ref 36, .int x_1], h)) rfl ?_
        refine gw_gf (hk _ _ rfl) (RL_fI hR rfl) ?_
        refine gw_br (c := x_1 ≤ (gsV s_1 36 4)) (a := (70, [some (.ref 36), some (.int x1), some (.int x2), some (.int x3), some (.int x4), some (.int x_1)], [], h)) (b := (69, [some (.ref 36), some (.int x1), some (.int x2), some (.int x3), some (.int x4), some (.int x_1)], [], h)) (hk _ _ rfl) rfl ⟨fun z12 => ?_, fun z12 => ?_⟩
        · replace w := w.1 z12
          refine gw_pst hk 7 (st' := (77, [some (.ref 36), some (.int x1), some (.int x2), some (.int x3), some (.int x4), some (.int x_1)], [.ref 36, .ref 36, .int x2, .int (x1 + 1), .ref 36], h)) rfl ?_
          refine gw_gf (hk _ _ rfl) (RL_fR (n := 39) hR rfl) ?_
          refine gw_pst hk 1 (st' := (81, [some (.ref 36), some (.int x1), some (.int x2), some (.int x3), some (.int x4), some (.int x_1)], [.int x1, .ref 39, .ref 36, .int x2, .int (x1 + 1), .ref 36], h)) rfl ?_
          obtain ⟨b14, w⟩ := w
          refine gw_ald (hk _ _ rfl) (Or.inl ⟨rfl, rfl⟩) (RL_a (t := 0) (n := 20) hR rfl (by decide)) b14 ?_
          refine gw_pst hk 1 (st' := (83, [some (.ref 36), some (.int x1), some (.int x2), some (.int x3), some (.int x4), some (.int x_1)], [.int x3, .int (gsA s_1 39 (x1 : Int32).toNatClampNeg), .ref 36, .int x2, .int (x1 + 1), .ref 36], h)) rfl ?_
          obtain ⟨fs15, e15⟩ := RL_o hR (r := 36) (ci := 8) rfl
          refine gw_call (jj := 66) (As := [.ref 36, .int (gsA s_1 39 (x1 : Int32).toNatClampNeg), .int x3]) (rest := [.int x2, .int (x1 + 1), .ref 36]) (hk _ _ rfl) (fun _ => rfl) rfl rfl (Nat.le_of_ble_eq_true rfl) (gm_rcv_v rfl e15 rfl) ?_
          refine ge_imp (w h hR) (fun v15 h w => ?_)
          obtain ⟨s_15, hR, x_15, rfl, w⟩ := w
          show gw (gt_T c.1 c.2.1 c.2.2.1) c.2.2.2 d 73 (86, [some (.ref 36), some (.int x1), some (.int x2), some (.int x3), some (.int x4), some (.int x_1)], [.int x_15, .int x2, .int (x1 + 1), .ref 36], h) _
          refine gw_pst hk 1 (st' := (88, [some (.ref 36), some (.int x1), some (.int x2), some (.int x3), some (.int x4), some (.int x_1)], [.int x4, .int x_15, .int x2, .int (x1 + 1), .ref 36], h)) rfl ?_
          obtain ⟨fs16, e16⟩ := RL_o hR (r := 36) (ci := 8) rfl
          refine gw_call (jj := 73) (As := [.ref 36, .int (x1 + 1), .int x2, .int x_15, .int x4]) (rest := []) (hk _ _ rfl) (fun _ => rfl) rfl rfl (Nat.le_of_ble_eq_true rfl) (gm_rcv_v rfl e16 rfl) ?_
          refine ge_imp (w h hR) (fun v16 h w => ?_)
          obtain ⟨s_16, hR, rfl, w⟩ := w
          show gw (gt_T c.1 c.2.1 c.2.2.1) c.2.2.2 d 73 (91, [some (.ref 36), some (.int x1), some (.int x2), some (.int x3), some (.int x4), some (.int x_1)], [], h) _
          refine gw_pst hk 1 (st' := (92, [some (.ref 36), some (.int x1), some (.int x2), some (.int x3), some (.int x4), some (.int x_1)], [.ref 36], h)) rfl ?_
          refine gw_gf (hk _ _ rfl) (RL_fR (n := 39) hR rfl) ?_
          refine gw_pst hk 1 (st' := (96, [some (.ref 36), some (.int x1), some (.int x2), some (.int x3), some (.int x4), some (.int x_1)], [.int x1, .ref 39], h)) rfl ?_
          obtain ⟨b18, w⟩ := w
          refine gw_ald (hk _ _ rfl) (Or.inl ⟨rfl, rfl⟩) (RL_a (t := 0) (n := 20) hR rfl (by decide)) b18 ?_
          refine gw_pst hk 1 (st' := (98, [some (.ref 36), some (.int x1), some (.int x2), some (.int x3), some (.int x4), some (.int x_1)], [.int 1, .int (gsA s_16 39 (x1 : Int32).toNatClampNeg)], h)) rfl ?_
          refine gw_br (c := (gsA s_16 39 (x1 : Int32).toNatClampNeg) = 1) (a := (101, [some (.ref 36), some (.int x1), some (.int x2), some (.int x3), some (.int x4), some (.int x_1)], [], h)) (b := (121, [some (.ref 36), some (.int x1), some (.int x2), some (.int x3), some (.int x4), some (.int x_1)], [], h)) (hk _ _ rfl) rfl ⟨fun z19 => ?_, fun z19 => ?_⟩
          · replace w := w.1 z19
            refine gw_pst hk 8 (st' := (109, [some (.ref 36), some (.int x1), some (.int x2), some (.int x3), some (.int x4), some (.int x_1)], [.int x3, .int 0, .ref 36, .int x2, .int (x1 + 1), .ref 36], h)) rfl ?_
            obtain ⟨fs20, e20⟩ := RL_o hR (r := 36) (ci := 8) rfl
            refine gw_call (jj := 66) (As := [.ref 36, .int 0, .int x3]) (rest := [.int x2, .int (x1 + 1), .ref 36]) (hk _ _ rfl) (fun _ => rfl) rfl rfl (Nat.le_of_ble_eq_true rfl) (gm_rcv_v rfl e20 rfl) ?_
            refine ge_imp (w h hR) (fun v20 h w => ?_)
            obtain ⟨s_20, hR, x_20, rfl, w⟩ := w
            show gw (gt_T c.1 c.2.1 c.2.2.1) c.2.2.2 d 73 (112, [some (.ref 36), some (.int x1), some (.int x2), some (.int x3), some (.int x4), some (.int x_1)], [.int x_20, .int x2, .int (x1 + 1), .ref 36], h) _
            refine gw_pst hk 5 (st' := (118, [some (.ref 36), some (.int x1), some (.int x2), some (.int x3), some (.int x4), some (.int x_1)], [.int (x4 ||| (1 <<< (x1 &&& 31))), .int x_20, .int x2, .int (x1 + 1), .ref 36], h)) rfl ?_
            obtain ⟨fs21, e21⟩ := RL_o hR (r := 36) (ci := 8) rfl
            refine gw_call (jj := 73) (As := [.ref 36, .int (x1 + 1), .int x2, .int x_20, .int (x4 ||| (1 <<< (x1 &&& 31)))]) (rest := []) (hk _ _ rfl) (fun _ => rfl) rfl rfl (Nat.le_of_ble_eq_true rfl) (gm_rcv_v rfl e21 rfl) ?_
            refine ge_imp (w h hR) (fun v21 h w => ?_)
            obtain ⟨s_21, hR, rfl, w⟩ := w
            show gw (gt_T c.1 c.2.1 c.2.2.1) c.2.2.2 d 73 (121, [some (.ref 36), some (.int x1), some (.int x2), some (.int x3), some (.int x4), some (.int x_1)], [], h) _
            refine gw_le (L' := [none, none, none, none, none, none]) (gm_le_n _ (gm_le_n _ (gm_le_n _ (gm_le_n _ (gm_le_n _ (gm_le_n _ gm_le_nil)))))) ?_
            exact ok73_121 c d Post _ w _ hR
          · replace w := w.2 z19
            refine gw_le (L' := [none, none, none, none, none, none]) (gm_le_n _ (gm_le_n _ (gm_le_n _ (gm_le_n _ (gm_le_n _ (gm_le_n _ gm_le_nil)))))) ?_
            exact ok73_121 c d Post _ w _ hR
        · replace w := w.2 z12
          refine gw_le (L' := [none, none, none, none, none, none]) (gm_le_n _ (gm_le_n _ (gm_le_n _ (gm_le_n _ (gm_le_n _ (gm_le_n _ gm_le_nil)))))) ?_
          exact ok73_69 c d Post _ w _ hR
