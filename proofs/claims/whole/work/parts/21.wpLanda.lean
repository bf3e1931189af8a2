/-! What must hold for a run to end with Post: by program (wip/whole/gen_wp.py). -/
def w14_26 (c : gx) (d : Nat) (Post : Option Value → gs → Prop) (xs0 : Int32) (s : gs) : Prop :=
  ((xs0 = 0 ∨ xs0 = 1) ∧ Post (some (.int xs0)) s)
theorem ok14_26 (c : gx) (d : Nat) (Post : Option Value → gs → Prop)  (xs0 : Int32) (s : gs) (w : w14_26 c d Post xs0 s) : tV c d 14 26 [none, none] [.int xs0] s Post := by
  intro h hR
  have hk : ∀ pc i, gm_find gk_14 pc = some i → gm_code (gt_T c.1 c.2.1 c.2.2.1) 14 pc = some i := fun _ _ z => z
  unfold w14_26 at w
  unfold gV
  exact gw_retZ (hk _ _ rfl) rfl w.1 ⟨_, hR, w.2⟩
def w14_25 (c : gx) (d : Nat) (Post : Option Value → gs → Prop)  (s : gs) : Prop :=
  w14_26 c d Post 0 s
theorem ok14_25 (c : gx) (d : Nat) (Post : Option Value → gs → Prop)   (s : gs) (w : w14_25 c d Post  s) : tV c d 14 25 [none, none] [] s Post := by
  intro h hR
  have hk : ∀ pc i, gm_find gk_14 pc = some i → gm_code (gt_T c.1 c.2.1 c.2.2.1) 14 pc = some i := fun _ _ z => z
  unfold w14_25 at w
  unfold gV
  refine gw_pst hk 1 (st' := (26, [none, none], [.int 0], h)) rfl ?_
  exact ok14_26 c d Post _ _ w _ hR
/-- CommandByTurns$Land.has(I)Z -/
def wm14 (c : gx) (d : Nat) (Post : Option Value → gs → Prop) (x1 : Int32) (s : gs) : Prop :=
  ((x1 < 0 → w14_25 c d Post s) ∧ (¬ (x1 < 0) → (((gsV s 3 2) ≤ x1 → w14_25 c d Post s) ∧ (¬ ((gsV s 3 2) ≤ x1) → ((12 ≤ x1 → w14_25 c d Post s) ∧ (¬ (12 ≤ x1) → w14_26 c d Post 1 s))))))
theorem okm14 (c : gx) (d : Nat) (Post : Option Value → gs → Prop) (x1 : Int32) (s : gs) (w : wm14 c d Post x1 s) : tE c (d + 1) 14 [.ref 3, .int x1] s Post := by
  intro h hR
  have hk : ∀ pc i, gm_find gk_14 pc = some i → gm_code (gt_T c.1 c.2.1 c.2.2.1) 14 pc = some i := fun _ _ z => z
  unfold wm14 at w
  refine ge_of (by decide) (Nat.le_of_ble_eq_true rfl) ?_
  show gw (gt_T c.1 c.2.1 c.2.2.1) c.2.2.2 d 14 (0, [some (.ref 3), some (.int x1)], [], h) _
  refine gw_pst hk 1 (st' := (1, [some (.ref 3), some (.int x1)], [.int x1], h)) rfl ?_
  refine gw_br (c := x1 < 0) (a := (25, [some (.ref 3), some (.int x1)], [], h)) (b := (4, [some (.ref 3), some (.int x1)], [], h)) (hk _ _ rfl) rfl ⟨fun z1 => ?_, fun z1 => ?_⟩
  · replace w := w.1 z1
    refine gw_le (L' := [none, none]) (gm_le_n _ (gm_le_n _ gm_le_nil)) ?_
    exact ok14_25 c d Post _ w _ hR
  · replace w := w.2 z1
    refine gw_pst hk 2 (st' := (6, [some (.ref 3), some (.int x1)], [.ref 3, .int x1], h)) rfl ?_
    refine gw_gf (hk _ _ rfl) (RL_fI hR rfl) ?_
    refine gw_br (c := (gsV s 3 2) ≤ x1) (a := (25, [some (.ref 3), some (.int x1)], [], h)) (b := (12, [some (.ref 3), some (.int x1)], [], h)) (hk _ _ rfl) rfl ⟨fun z3 => ?_, fun z3 => ?_⟩
    · replace w := w.1 z3
      refine gw_le (L' := [none, none]) (gm_le_n _ (gm_le_n _ gm_le_nil)) ?_
      exact ok14_25 c d Post _ w _ hR
    · replace w := w.2 z3
      refine gw_pst hk 2 (st' := (14, [some (.ref 3), some (.int x1)], [.ref 3, .int x1], h)) rfl ?_
      refine gw_gf (hk _ _ rfl) (RL_fR (n := 4) hR rfl) ?_
      refine gw_alen (hk _ _ rfl) (RL_a (t := 0) (n := 12) hR rfl (by decide)) (by decide) ?_
      refine gw_br (c := 12 ≤ x1) (a := (25, [some (.ref 3), some (.int x1)], [], h)) (b := (21, [some (.ref 3), some (.int x1)], [], h)) (hk _ _ rfl) rfl ⟨fun z6 => ?_, fun z6 => ?_⟩
      · replace w := w.1 z6
        refine gw_le (L' := [none, none]) (gm_le_n _ (gm_le_n _ gm_le_nil)) ?_
        exact ok14_25 c d Post _ w _ hR
      · replace w := w.2 z6
        refine gw_pst hk 2 (st' := (26, [some (.ref 3), some (.int x1)], [.int 1], h)) rfl ?_
        refine gw_le (L' := [none, none]) (gm_le_n _ (gm_le_n _ gm_le_nil)) ?_
        exact ok14_26 c d Post _ _ w _ hR
def w15_18 (c : gx) (d : Nat) (Post : Option Value → gs → Prop) (xs0 : Int32) (s : gs) : Prop :=
  Post (some (.int xs0)) s
theorem ok15_18 (c : gx) (d : Nat) (Post : Option Value → gs → Prop)  (xs0 : Int32) (s : gs) (w : w15_18 c d Post xs0 s) : tV c d 15 18 [none, none] [.int xs0] s Post := by
  intro h hR
  have hk : ∀ pc i, gm_find gk_15 pc = some i → gm_code (gt_T c.1 c.2.1 c.2.2.1) 15 pc = some i := fun _ _ z => z
  unfold w15_18 at w
  unfold gV
  exact gw_ret (hk _ _ rfl) rfl ⟨_, hR, w⟩
/-- CommandByTurns$Land.heightOf(I)I -/
def wm15 (c : gx) (d : Nat) (Post : Option Value → gs → Prop) (x1 : Int32) (s : gs) : Prop :=
  tE c d 14 [.ref 3, .int x1] s (fun v1 s_1 => ∃ x_1 : Int32, v1 = some (.int x_1) ∧ ((x_1 = 0 → w15_18 c d Post 0 s_1) ∧ (¬ (x_1 = 0) → vp_in x1 12 ∧ w15_18 c d Post (gsA s_1 4 (x1 : Int32).toNatClampNeg) s_1)))
theorem okm15 (c : gx) (d : Nat) (Post : Option Value → gs → Prop) (x1 : Int32) (s : gs) (w : wm15 c d Post x1 s) : tE c (d + 1) 15 [.ref 3, .int x1] s Post := by
  intro h hR
  have hk : ∀ pc i, gm_find gk_15 pc = some i → gm_code (gt_T c.1 c.2.1 c.2.2.1) 15 pc = some i := fun _ _ z => z
  unfold wm15 at w
  refine ge_of (by decide) (Nat.le_of_ble_eq_true rfl) ?_
  show gw (gt_T c.1 c.2.1 c.2.2.1) c.2.2.2 d 15 (0, [some (.ref 3), some (.int x1)], [], h) _
  refine gw_pst hk 2 (st' := (2, [some (.ref 3), some (.int x1)], [.int x1, .ref 3], h)) rfl ?_
  obtain ⟨fs1, e1⟩ := RL_o hR (r := 3) (ci := 1) rfl
  refine gw_call (jj := 14) (As := [.ref 3, .int x1]) (rest := []) (hk _ _ rfl) (fun _ => rfl) rfl rfl (Nat.le_of_ble_eq_true rfl) (gm_rcv_v rfl e1 rfl) ?_
  refine ge_imp (w h hR) (fun v1 h w => ?_)
  obtain ⟨s_1, hR, x_1, rfl, w⟩ := w
  show gw (gt_T c.1 c.2.1 c.2.2.1) c.2.2.2 d 15 (5, [some (.ref 3), some (.int x1)], [.int x_1], h) _
  refine gw_br (c := x_1 = 0) (a := (17, [some (.ref 3), some (.int x1)], [], h)) (b := (8, [some (.ref 3), some (.int x1)], [], h)) (hk _ _ rfl) rfl ⟨fun z2 => ?_, fun z2 => ?_⟩
  · replace w := w.1 z2
    refine gw_pst hk 1 (st' := (18, [some (.ref 3), some (.int x1)], [.int 0], h)) rfl ?_
    refine gw_le (L' := [none, none]) (gm_le_n _ (gm_le_n _ gm_le_nil)) ?_
    exact ok15_18 c d Post _ _ w _ hR
  · replace w := w.2 z2
    refine gw_pst hk 1 (st' := (9, [some (.ref 3), some (.int x1)], [.ref 3], h)) rfl ?_
    refine gw_gf (hk _ _ rfl) (RL_fR (n := 4) hR rfl) ?_
    refine gw_pst hk 1 (st' := (13, [some (.ref 3), some (.int x1)], [.int x1, .ref 4], h)) rfl ?_
    obtain ⟨b4, w⟩ := w
    refine gw_ald (hk _ _ rfl) (Or.inl ⟨rfl, rfl⟩) (RL_a (t := 0) (n := 12) hR rfl (by decide)) b4 ?_
    refine gw_pst hk 1 (st' := (18, [some (.ref 3), some (.int x1)], [.int (gsA s_1 4 (x1 : Int32).toNatClampNeg)], h)) rfl ?_
    refine gw_le (L' := [none, none]) (gm_le_n _ (gm_le_n _ gm_le_nil)) ?_
    exact ok15_18 c d Post _ _ w _ hR
def w16_19 (c : gx) (d : Nat) (Post : Option Value → gs → Prop) (xs0 : Int32) (s : gs) : Prop :=
  ((xs0 = 0 ∨ xs0 = 1) ∧ Post (some (.int xs0)) s)
theorem ok16_19 (c : gx) (d : Nat) (Post : Option Value → gs → Prop)  (xs0 : Int32) (s : gs) (w : w16_19 c d Post xs0 s) : tV c d 16 19 [none, none] [.int xs0] s Post := by
  intro h hR
  have hk : ∀ pc i, gm_find gk_16 pc = some i → gm_code (gt_T c.1 c.2.1 c.2.2.1) 16 pc = some i := fun _ _ z => z
  unfold w16_19 at w
  unfold gV
  exact gw_retZ (hk _ _ rfl) rfl w.1 ⟨_, hR, w.2⟩
def w16_18 (c : gx) (d : Nat) (Post : Option Value → gs → Prop)  (s : gs) : Prop :=
  w16_19 c d Post 0 s
theorem ok16_18 (c : gx) (d : Nat) (Post : Option Value → gs → Prop)   (s : gs) (w : w16_18 c d Post  s) : tV c d 16 18 [none, none] [] s Post := by
  intro h hR
  have hk : ∀ pc i, gm_find gk_16 pc = some i → gm_code (gt_T c.1 c.2.1 c.2.2.1) 16 pc = some i := fun _ _ z => z
  unfold w16_18 at w
  unfold gV
  refine gw_pst hk 1 (st' := (19, [none, none], [.int 0], h)) rfl ?_
  exact ok16_19 c d Post _ _ w _ hR
/-- CommandByTurns$Land.isNear(II)Z -/
def wm16 (c : gx) (d : Nat) (Post : Option Value → gs → Prop) (x0 : Int32) (x1 : Int32) (s : gs) : Prop :=
  (((x0 - x1) < (-1) → w16_18 c d Post s) ∧ (¬ ((x0 - x1) < (-1)) → ((1 < (x0 - x1) → w16_18 c d Post s) ∧ (¬ (1 < (x0 - x1)) → w16_19 c d Post 1 s))))
theorem okm16 (c : gx) (d : Nat) (Post : Option Value → gs → Prop) (x0 : Int32) (x1 : Int32) (s : gs) (w : wm16 c d Post x0 x1 s) : tE c (d + 1) 16 [.int x0, .int x1] s Post := by
  intro h hR
  have hk : ∀ pc i, gm_find gk_16 pc = some i → gm_code (gt_T c.1 c.2.1 c.2.2.1) 16 pc = some i := fun _ _ z => z
  unfold wm16 at w
  refine ge_of (by decide) (Nat.le_of_ble_eq_true rfl) ?_
  show gw (gt_T c.1 c.2.1 c.2.2.1) c.2.2.2 d 16 (0, [some (.int x0), some (.int x1)], [], h) _
  refine gw_pst hk 4 (st' := (4, [some (.int x0), some (.int x1)], [.int (-1), .int (x0 - x1)], h)) rfl ?_
  refine gw_br (c := (x0 - x1) < (-1)) (a := (18, [some (.int x0), some (.int x1)], [], h)) (b := (7, [some (.int x0), some (.int x1)], [], h)) (hk _ _ rfl) rfl ⟨fun z1 => ?_, fun z1 => ?_⟩
  · replace w := w.1 z1
    refine gw_le (L' := [none, none]) (gm_le_n _ (gm_le_n _ gm_le_nil)) ?_
    exact ok16_18 c d Post _ w _ hR
  · replace w := w.2 z1
    refine gw_pst hk 4 (st' := (11, [some (.int x0), some (.int x1)], [.int 1, .int (x0 - x1)], h)) rfl ?_
    refine gw_br (c := 1 < (x0 - x1)) (a := (18, [some (.int x0), some (.int x1)], [], h)) (b := (14, [some (.int x0), some (.int x1)], [], h)) (hk _ _ rfl) rfl ⟨fun z2 => ?_, fun z2 => ?_⟩
    · replace w := w.1 z2
      refine gw_le (L' := [none, none]) (gm_le_n _ (gm_le_n _ gm_le_nil)) ?_
      exact ok16_18 c d Post _ w _ hR
    · replace w := w.2 z2
      refine gw_pst hk 2 (st' := (19, [some (.int x0), some (.int x1)], [.int 1], h)) rfl ?_
      refine gw_le (L' := [none, none]) (gm_le_n _ (gm_le_n _ gm_le_nil)) ?_
      exact ok16_19 c d Post _ _ w _ hR
def w17_25 (c : gx) (d : Nat) (Post : Option Value → gs → Prop) (xs0 : Int32) (s : gs) : Prop :=
  ((xs0 = 0 ∨ xs0 = 1) ∧ Post (some (.int xs0)) s)
theorem ok17_25 (c : gx) (d : Nat) (Post : Option Value → gs → Prop)  (xs0 : Int32) (s : gs) (w : w17_25 c d Post xs0 s) : tV c d 17 25 [none, none, none] [.int xs0] s Post := by
  intro h hR
  have hk : ∀ pc i, gm_find gk_17 pc = some i → gm_code (gt_T c.1 c.2.1 c.2.2.1) 17 pc = some i := fun _ _ z => z
  unfold w17_25 at w
  unfold gV
  exact gw_retZ (hk _ _ rfl) rfl w.1 ⟨_, hR, w.2⟩
def w17_20 (c : gx) (d : Nat) (Post : Option Value → gs → Prop)  (s : gs) : Prop :=
  w17_25 c d Post 1 s
theorem ok17_20 (c : gx) (d : Nat) (Post : Option Value → gs → Prop)   (s : gs) (w : w17_20 c d Post  s) : tV c d 17 20 [none, none, none] [] s Post := by
  intro h hR
  have hk : ∀ pc i, gm_find gk_17 pc = some i → gm_code (gt_T c.1 c.2.1 c.2.2.1) 17 pc = some i := fun _ _ z => z
  unfold w17_20 at w
  unfold gV
  refine gw_pst hk 2 (st' := (25, [none, none, none], [.int 1], h)) rfl ?_
  exact ok17_25 c d Post _ _ w _ hR
def w17_24 (c : gx) (d : Nat) (Post : Option Value → gs → Prop)  (s : gs) : Prop :=
  w17_25 c d Post 0 s
theorem ok17_24 (c : gx) (d : Nat) (Post : Option Value → gs → Prop)   (s : gs) (w : w17_24 c d Post  s) : tV c d 17 24 [none, none, none] [] s Post := by
  intro h hR
  have hk : ∀ pc i, gm_find gk_17 pc = some i → gm_code (gt_T c.1 c.2.1 c.2.2.1) 17 pc = some i := fun _ _ z => z
  unfold w17_24 at w
  unfold gV
  refine gw_pst hk 1 (st' := (25, [none, none, none], [.int 0], h)) rfl ?_
  exact ok17_25 c d Post _ _ w _ hR
def w17_10 (c : gx) (d : Nat) (Post : Option Value → gs → Prop) (x0 : Int32) (x1 : Int32) (x2 : Int32) (s : gs) : Prop :=
  ((x1 ≤ x2 → w17_24 c d Post s) ∧ (¬ (x1 ≤ x2) → ((x0 ≤ x1 → w17_24 c d Post s) ∧ (¬ (x0 ≤ x1) → w17_20 c d Post s))))
theorem ok17_10 (c : gx) (d : Nat) (Post : Option Value → gs → Prop)  (x0 : Int32) (x1 : Int32) (x2 : Int32) (s : gs) (w : w17_10 c d Post x0 x1 x2 s) : tV c d 17 10 [some (.int x0), some (.int x1), some (.int x2)] [] s Post := by
  intro h hR
  have hk : ∀ pc i, gm_find gk_17 pc = some i → gm_code (gt_T c.1 c.2.1 c.2.2.1) 17 pc = some i := fun _ _ z => z
  unfold w17_10 at w
  unfold gV
  refine gw_pst hk 2 (st' := (12, [some (.int x0), some (.int x1), some (.int x2)], [.int x1, .int x2], h)) rfl ?_
  refine gw_br (c := x1 ≤ x2) (a := (24, [some (.int x0), some (.int x1), some (.int x2)], [], h)) (b := (15, [some (.int x0), some (.int x1), some (.int x2)], [], h)) (hk _ _ rfl) rfl ⟨fun z1 => ?_, fun z1 => ?_⟩
  · replace w := w.1 z1
    refine gw_le (L' := [none, none, none]) (gm_le_n _ (gm_le_n _ (gm_le_n _ gm_le_nil))) ?_
    exact ok17_24 c d Post _ w _ hR
  · replace w := w.2 z1
    refine gw_pst hk 2 (st' := (17, [some (.int x0), some (.int x1), some (.int x2)], [.int x0, .int x1], h)) rfl ?_
    refine gw_br (c := x0 ≤ x1) (a := (24, [some (.int x0), some (.int x1), some (.int x2)], [], h)) (b := (20, [some (.int x0), some (.int x1), some (.int x2)], [], h)) (hk _ _ rfl) rfl ⟨fun z2 => ?_, fun z2 => ?_⟩
    · replace w := w.1 z2
      refine gw_le (L' := [none, none, none]) (gm_le_n _ (gm_le_n _ (gm_le_n _ gm_le_nil))) ?_
      exact ok17_24 c d Post _ w _ hR
    · replace w := w.2 z2
      refine gw_le (L' := [none, none, none]) (gm_le_n _ (gm_le_n _ (gm_le_n _ gm_le_nil))) ?_
      exact ok17_20 c d Post _ w _ hR
/-- CommandByTurns$Land.isPast(III)Z -/
def wm17 (c : gx) (d : Nat) (Post : Option Value → gs → Prop) (x0 : Int32) (x1 : Int32) (x2 : Int32) (s : gs) : Prop :=
  ((x1 ≤ x0 → w17_10 c d Post x0 x1 x2 s) ∧ (¬ (x1 ≤ x0) → ((x1 < x2 → w17_20 c d Post s) ∧ (¬ (x1 < x2) → w17_10 c d Post x0 x1 x2 s))))
theorem okm17 (c : gx) (d : Nat) (Post : Option Value → gs → Prop) (x0 : Int32) (x1 : Int32) (x2 : Int32) (s : gs) (w : wm17 c d Post x0 x1 x2 s) : tE c (d + 1) 17 [.int x0, .int x1, .int x2] s Post := by
  intro h hR
  have hk : ∀ pc i, gm_find gk_17 pc = some i → gm_code (gt_T c.1 c.2.1 c.2.2.1) 17 pc = some i := fun _ _ z => z
  unfold wm17 at w
  refine ge_of (by decide) (Nat.le_of_ble_eq_true rfl) ?_
  show gw (gt_T c.1 c.2.1 c.2.2.1) c.2.2.2 d 17 (0, [some (.int x0), some (.int x1), some (.int x2)], [], h) _
  refine gw_pst hk 2 (st' := (2, [some (.int x0), some (.int x1), some (.int x2)], [.int x1, .int x0], h)) rfl ?_
  refine gw_br (c := x1 ≤ x0) (a := (10, [some (.int x0), some (.int x1), some (.int x2)], [], h)) (b := (5, [some (.int x0), some (.int x1), some (.int x2)], [], h)) (hk _ _ rfl) rfl ⟨fun z1 => ?_, fun z1 => ?_⟩
  · replace w := w.1 z1
    exact ok17_10 c d Post _ _ _ _ w _ hR
  · replace w := w.2 z1
    refine gw_pst hk 2 (st' := (7, [some (.int x0), some (.int x1), some (.int x2)], [.int x2, .int x1], h)) rfl ?_
    refine gw_br (c := x1 < x2) (a := (20, [some (.int x0), some (.int x1), some (.int x2)], [], h)) (b := (10, [some (.int x0), some (.int x1), some (.int x2)], [], h)) (hk _ _ rfl) rfl ⟨fun z2 => ?_, fun z2 => ?_⟩
    · replace w := w.1 z2
      refine gw_le (L' := [none, none, none]) (gm_le_n _ (gm_le_n _ (gm_le_n _ gm_le_nil))) ?_
      exact ok17_20 c d Post _ w _ hR
    · replace w := w.2 z2
      exact ok17_10 c d Post _ _ _ _ w _ hR
def w18_56 (c : gx) (d : Nat) (Post : Option Value → gs → Prop) (xs0 : Int32) (s : gs) : Prop :=
  Post (some (.int xs0)) s
theorem ok18_56 (c : gx) (d : Nat) (Post : Option Value → gs → Prop)  (xs0 : Int32) (s : gs) (w : w18_56 c d Post xs0 s) : tV c d 18 56 [none, none, none, none] [.int xs0] s Post := by
  intro h hR
  have hk : ∀ pc i, gm_find gk_18 pc = some i → gm_code (gt_T c.1 c.2.1 c.2.2.1) 18 pc = some i := fun _ _ z => z
  unfold w18_56 at w
  unfold gV
  exact gw_ret (hk _ _ rfl) rfl ⟨_, hR, w⟩
def w18_35 (c : gx) (d : Nat) (Post : Option Value → gs → Prop) (x1 : Int32) (x2 : Int32) (xs0 : Int32) (s : gs) : Prop :=
  ((xs0 = 0 → w18_56 c d Post 0 s) ∧ (¬ (xs0 = 0) → w18_56 c d Post (((gsV s 3 1) >>> ((if x2 < x1 then x2 else x1) &&& 31)) &&& 1) s))
theorem ok18_35 (c : gx) (d : Nat) (Post : Option Value → gs → Prop)  (x1 : Int32) (x2 : Int32) (xs0 : Int32) (s : gs) (w : w18_35 c d Post x1 x2 xs0 s) : tV c d 18 35 [some (.ref 3), some (.int x1), some (.int x2), none] [.int xs0] s Post := by
  intro h hR
  have hk : ∀ pc i, gm_find gk_18 pc = some i → gm_code (gt_T c.1 c.2.1 c.2.2.1) 18 pc = some i := fun _ _ z => z
  unfold w18_35 at w
  unfold gV
  refine gw_pst hk 2 (st' := (37, [some (.ref 3), some (.int x1), some (.int x2), some (.int xs0)], [.int xs0], h)) rfl ?_
  refine gw_br (c := xs0 = 0) (a := (55, [some (.ref 3), some (.int x1), some (.int x2), some (.int xs0)], [], h)) (b := (40, [some (.ref 3), some (.int x1), some (.int x2), some (.int xs0)], [], h)) (hk _ _ rfl) rfl ⟨fun z1 => ?_, fun z1 => ?_⟩
  · replace w := w.1 z1
    refine gw_pst hk 1 (st' := (56, [some (.ref 3), some (.int x1), some (.int x2), some (.int xs0)], [.int 0], h)) rfl ?_
    refine gw_le (L' := [none, none, none, none]) (gm_le_n _ (gm_le_n _ (gm_le_n _ (gm_le_n _ gm_le_nil)))) ?_
    exact ok18_56 c d Post _ _ w _ hR
  · replace w := w.2 z1
    refine gw_pst hk 1 (st' := (41, [some (.ref 3), some (.int x1), some (.int x2), some (.int xs0)], [.ref 3], h)) rfl ?_
    refine gw_gf (hk _ _ rfl) (RL_fI hR rfl) ?_
    refine gw_pst hk 7 (st' := (56, [some (.ref 3), some (.int x1), some (.int x2), some (.int xs0)], [.int (((gsV s 3 1) >>> ((if x2 < x1 then x2 else x1) &&& 31)) &&& 1)], h)) rfl ?_
    refine gw_le (L' := [none, none, none, none]) (gm_le_n _ (gm_le_n _ (gm_le_n _ (gm_le_n _ gm_le_nil)))) ?_
    exact ok18_56 c d Post _ _ w _ hR
def w18_30 (c : gx) (d : Nat) (Post : Option Value → gs → Prop) (x1 : Int32) (x2 : Int32) (s : gs) : Prop :=
  w18_35 c d Post x1 x2 1 s
theorem ok18_30 (c : gx) (d : Nat) (Post : Option Value → gs → Prop)  (x1 : Int32) (x2 : Int32) (s : gs) (w : w18_30 c d Post x1 x2 s) : tV c d 18 30 [some (.ref 3), some (.int x1), some (.int x2), none] [] s Post := by
  intro h hR
  have hk : ∀ pc i, gm_find gk_18 pc = some i → gm_code (gt_T c.1 c.2.1 c.2.2.1) 18 pc = some i := fun _ _ z => z
  unfold w18_30 at w
  unfold gV
  refine gw_pst hk 2 (st' := (35, [some (.ref 3), some (.int x1), some (.int x2), none], [.int 1], h)) rfl ?_
  exact ok18_35 c d Post _ _ _ _ w _ hR
def w18_34 (c : gx) (d : Nat) (Post : Option Value → gs → Prop) (x1 : Int32) (x2 : Int32) (s : gs) : Prop :=
  w18_35 c d Post x1 x2 0 s
theorem ok18_34 (c : gx) (d : Nat) (Post : Option Value → gs → Prop)  (x1 : Int32) (x2 : Int32) (s : gs) (w : w18_34 c d Post x1 x2 s) : tV c d 18 34 [some (.ref 3), some (.int x1), some (.int x2), none] [] s Post := by
  intro h hR
  have hk : ∀ pc i, gm_find gk_18 pc = some i → gm_code (gt_T c.1 c.2.1 c.2.2.1) 18 pc = some i := fun _ _ z => z
  unfold w18_34 at w
  unfold gV
  refine gw_pst hk 1 (st' := (35, [some (.ref 3), some (.int x1), some (.int x2), none], [.int 0], h)) rfl ?_
  exact ok18_35 c d Post _ _ _ _ w _ hR
/-- CommandByTurns$Land.riverBetween(II)I -/
def wm18 (c : gx) (d : Nat) (Post : Option Value → gs → Prop) (x1 : Int32) (x2 : Int32) (s : gs) : Prop :=
  tE c d 14 [.ref 3, .int x1] s (fun v1 s_1 => ∃ x_1 : Int32, v1 = some (.int x_1) ∧ ((x_1 = 0 → w18_34 c d Post x1 x2 s_1) ∧ (¬ (x_1 = 0) → tE c d 14 [.ref 3, .int x2] s_1 (fun v3 s_3 => ∃ x_3 : Int32, v3 = some (.int x_3) ∧ ((x_3 = 0 → w18_34 c d Post x1 x2 s_3) ∧ (¬ (x_3 = 0) → (((x1 - x2) = 1 → w18_30 c d Post x1 x2 s_3) ∧ (¬ ((x1 - x2) = 1) → (((x2 - x1) = 1 → w18_30 c d Post x1 x2 s_3) ∧ (¬ ((x2 - x1) = 1) → w18_34 c d Post x1 x2 s_3))))))))))
theorem okm18 (c : gx) (d : Nat) (Post : Option Value → gs → Prop) (x1 : Int32) (x2 : Int32) (s : gs) (w : wm18 c d Post x1 x2 s) : tE c (d + 1) 18 [.ref 3, .int x1, .int x2] s Post := by
  intro h hR
  have hk : ∀ pc i, gm_find gk_18 pc = some i → gm_code (gt_T c.1 c.2.1 c.2.2.1) 18 pc = some i := fun _ _ z => z
  unfold wm18 at w
  refine ge_of (by decide) (Nat.le_of_ble_eq_true rfl) ?_
  show gw (gt_T c.1 c.2.1 c.2.2.1) c.2.2.2 d 18 (0, [some (.ref 3), some (.int x1), some (.int x2), none], [], h) _
  refine gw_pst hk 2 (st' := (2, [some (.ref 3), some (.int x1), some (.int x2), none], [.int x1, .ref 3], h)) rfl ?_
  obtain ⟨fs1, e1⟩ := RL_o hR (r := 3) (ci := 1) rfl
  refine gw_call (jj := 14) (As := [.ref 3, .int x1]) (rest := []) (hk _ _ rfl) (fun _ => rfl) rfl rfl (Nat.le_of_ble_eq_true rfl) (gm_rcv_v rfl e1 rfl) ?_
  refine ge_imp (w h hR) (fun v1 h w => ?_)
  obtain ⟨s_1, hR, x_1, rfl, w⟩ := w
  show gw (gt_T c.1 c.2.1 c.2.2.1) c.2.2.2 d 18 (5, [some (.ref 3), some (.int x1), some (.int x2), none], [.int x_1], h) _
  refine gw_br (c := x_1 = 0) (a := (34, [some (.ref 3), some (.int x1), some (.int x2), none], [], h)) (b := (8, [some (.ref 3), some (.int x1), some (.int x2), none], [], h)) (hk _ _ rfl) rfl ⟨fun z2 => ?_, fun z2 => ?_⟩
  · replace w := w.1 z2
    exact ok18_34 c d Post _ _ _ w _ hR
  · replace w := w.2 z2
    refine gw_pst hk 2 (st' := (10, [some (.ref 3), some (.int x1), some (.int x2), none], [.int x2, .ref 3], h)) rfl ?_
    obtain ⟨fs3, e3⟩ := RL_o hR (r := 3) (ci := 1) rfl
    refine gw_call (jj := 14) (As := [.ref 3, .int x2]) (rest := []) (hk _ _ rfl) (fun _ => rfl) rfl rfl (Nat.le_of_ble_eq_true rfl) (gm_rcv_v rfl e3 rfl) ?_
    refine ge_imp (w h hR) (fun v3 h w => ?_)
    obtain ⟨s_3, hR, x_3, rfl, w⟩ := w
    show gw (gt_T c.1 c.2.1 c.2.2.1) c.2.2.2 d 18 (13, [some (.ref 3), some (.int x1), some (.int x2), none], [.int x_3], h) _
    refine gw_br (c := x_3 = 0) (a := (34, [some (.ref 3), some (.int x1), some (.int x2), none], [], h)) (b := (16, [some (.ref 3), some (.int x1), some (.int x2), none], [], h)) (hk _ _ rfl) rfl ⟨fun z4 => ?_, fun z4 => ?_⟩
    · replace w := w.1 z4
      exact ok18_34 c d Post _ _ _ w _ hR
    · replace w := w.2 z4
      refine gw_pst hk 4 (st' := (20, [some (.ref 3), some (.int x1), some (.int x2), none], [.int 1, .int (x1 - x2)], h)) rfl ?_
      refine gw_br (c := (x1 - x2) = 1) (a := (30, [some (.ref 3), some (.int x1), some (.int x2), none], [], h)) (b := (23, [some (.ref 3), some (.int x1), some (.int x2), none], [], h)) (hk _ _ rfl) rfl ⟨fun z5 => ?_, fun z5 => ?_⟩
      · replace w := w.1 z5
        exact ok18_30 c d Post _ _ _ w _ hR
      · replace w := w.2 z5
        refine gw_pst hk 4 (st' := (27, [some (.ref 3), some (.int x1), some (.int x2), none], [.int 1, .int (x2 - x1)], h)) rfl ?_
        refine gw_br (c := (x2 - x1) = 1) (a := (30, [some (.ref 3), some (.int x1), some (.int x2), none], [], h)) (b := (34, [some (.ref 3), some (.int x1), some (.int x2), none], [], h)) (hk _ _ rfl) rfl ⟨fun z6 => ?_, fun z6 => ?_⟩
        · replace w := w.1 z6
          exact ok18_30 c d Post _ _ _ w _ hR
        · replace w := w.2 z6
          exact ok18_34 c d Post _ _ _ w _ hR
/-- CommandByTurns$Land.wayBetween(II)I -/
def wm19 (c : gx) (d : Nat) (Post : Option Value → gs → Prop) (x1 : Int32) (x2 : Int32) (s : gs) : Prop :=
  tE c d 266 [.int ((gsV s 3 1) &&& ((1 <<< ((if x1 < x2 then x2 else x1) &&& 31)) - (1 <<< ((if x2 < x1 then x2 else x1) &&& 31))))] s (fun v2 s_2 => ∃ x_2 : Int32, v2 = some (.int x_2) ∧ Post (some (.int (((if x1 < x2 then x2 else x1) - (if x2 < x1 then x2 else x1)) + x_2))) s_2)
theorem okm19 (c : gx) (d : Nat) (Post : Option Value → gs → Prop) (x1 : Int32) (x2 : Int32) (s : gs) (w : wm19 c d Post x1 x2 s) : tE c (d + 1) 19 [.ref 3, .int x1, .int x2] s Post := by
  intro h hR
  have hk : ∀ pc i, gm_find gk_19 pc = some i → gm_code (gt_T c.1 c.2.1 c.2.2.1) 19 pc = some i := fun _ _ z => z
  unfold wm19 at w
  refine ge_of (by decide) (Nat.le_of_ble_eq_true rfl) ?_
  show gw (gt_T c.1 c.2.1 c.2.2.1) c.2.2.2 d 19 (0, [some (.ref 3), some (.int x1), some (.int x2), none, none, none], [], h) _
  refine gw_pst hk 20 (st' := (28, [some (.ref 3), some (.int x1), some (.int x2), some (.int (if x2 < x1 then x2 else x1)), some (.int (if x1 < x2 then x2 else x1)), some (.int ((1 <<< ((if x1 < x2 then x2 else x1) &&& 31)) - (1 <<< ((if x2 < x1 then x2 else x1) &&& 31))))], [.ref 3, .int ((if x1 < x2 then x2 else x1) - (if x2 < x1 then x2 else x1))], h)) rfl ?_
  refine gw_gf (hk _ _ rfl) (RL_fI hR rfl) ?_
  refine gw_pst hk 2 (st' := (34, [some (.ref 3), some (.int x1), some (.int x2), some (.int (if x2 < x1 then x2 else x1)), some (.int (if x1 < x2 then x2 else x1)), some (.int ((1 <<< ((if x1 < x2 then x2 else x1) &&& 31)) - (1 <<< ((if x2 < x1 then x2 else x1) &&& 31))))], [.int ((gsV s 3 1) &&& ((1 <<< ((if x1 < x2 then x2 else x1) &&& 31)) - (1 <<< ((if x2 < x1 then x2 else x1) &&& 31)))), .int ((if x1 < x2 then x2 else x1) - (if x2 < x1 then x2 else x1))], h)) rfl ?_
  refine gw_call (jj := 266) (As := [.int ((gsV s 3 1) &&& ((1 <<< ((if x1 < x2 then x2 else x1) &&& 31)) - (1 <<< ((if x2 < x1 then x2 else x1) &&& 31))))]) (rest := [.int ((if x1 < x2 then x2 else x1) - (if x2 < x1 then x2 else x1))]) (hk _ _ rfl) (fun _ => rfl) rfl rfl (Nat.le_of_ble_eq_true rfl) rfl ?_
  refine ge_imp (w h hR) (fun v2 h w => ?_)
  obtain ⟨s_2, hR, x_2, rfl, w⟩ := w
  show gw (gt_T c.1 c.2.1 c.2.2.1) c.2.2.2 d 19 (37, [some (.ref 3), some (.int x1), some (.int x2), some (.int (if x2 < x1 then x2 else x1)), some (.int (if x1 < x2 then x2 else x1)), some (.int ((1 <<< ((if x1 < x2 then x2 else x1) &&& 31)) - (1 <<< ((if x2 < x1 then x2 else x1) &&& 31))))], [.int x_2, .int ((if x1 < x2 then x2 else x1) - (if x2 < x1 then x2 else x1))], h) _
  refine gw_pst hk 1 (st' := (38, [some (.ref 3), some (.int x1), some (.int x2), some (.int (if x2 < x1 then x2 else x1)), some (.int (if x1 < x2 then x2 else x1)), some (.int ((1 <<< ((if x1 < x2 then x2 else x1) &&& 31)) - (1 <<< ((if x2 < x1 then x2 else x1) &&& 31))))], [.int (((if x1 < x2 then x2 else x1) - (if x2 < x1 then x2 else x1)) + x_2)], h)) rfl ?_
  exact gw_ret (hk _ _ rfl) rfl ⟨_, hR, w⟩
/-- CommandByTurns$Land.allFields()I -/
def wm20 (c : gx) (d : Nat) (Post : Option Value → gs → Prop)  (s : gs) : Prop :=
  Post (some (.int ((1 <<< ((gsV s 3 2) &&& 31)) - 1))) s
theorem okm20 (c : gx) (d : Nat) (Post : Option Value → gs → Prop)  (s : gs) (w : wm20 c d Post  s) : tE c (d + 1) 20 [.ref 3] s Post := by
  intro h hR
  have hk : ∀ pc i, gm_find gk_20 pc = some i → gm_code (gt_T c.1 c.2.1 c.2.2.1) 20 pc = some i := fun _ _ z => z
  unfold wm20 at w
  refine ge_of (by decide) (Nat.le_of_ble_eq_true rfl) ?_
  show gw (gt_T c.1 c.2.1 c.2.2.1) c.2.2.2 d 20 (0, [some (.ref 3)], [], h) _
  refine gw_pst hk 2 (st' := (2, [some (.ref 3)], [.ref 3, .int 1], h)) rfl ?_
  refine gw_gf (hk _ _ rfl) (RL_fI hR rfl) ?_
  refine gw_pst hk 3 (st' := (8, [some (.ref 3)], [.int ((1 <<< ((gsV s 3 2) &&& 31)) - 1)], h)) rfl ?_
  exact gw_ret (hk _ _ rfl) rfl ⟨_, hR, w⟩
def w21_45 (c : gx) (d : Nat) (Post : Option Value → gs → Prop) (K6 : Int32 → Int32 → Int32 → Int32 → Int32 → gs → Prop) (x1 : Int32) (x2 : Int32) (x3 : Int32) (x4 : Int32) (x5 : Int32) (s : gs) : Prop :=
  K6 x1 x2 x3 x4 (x5 + 1) s
theorem ok21_45 (c : gx) (d : Nat) (Post : Option Value → gs → Prop) (K6 : Int32 → Int32 → Int32 → Int32 → Int32 → gs → Prop)  (hK6 : ∀ (x1 : Int32) (x2 : Int32) (x3 : Int32) (x4 : Int32) (x5 : Int32) (s : gs), K6 x1 x2 x3 x4 x5 s → tV c d 21 6 [some (.ref 3), some (.int x1), some (.int x2), some (.int x3), some (.int x4), some (.int x5)] [] s Post) (x1 : Int32) (x2 : Int32) (x3 : Int32) (x4 : Int32) (x5 : Int32) (s : gs) (w : w21_45 c d Post K6 x1 x2 x3 x4 x5 s) : tV c d 21 45 [some (.ref 3), some (.int x1), some (.int x2), some (.int x3), some (.int x4), some (.int x5)] [] s Post := by
  intro h hR
  have hk : ∀ pc i, gm_find gk_21 pc = some i → gm_code (gt_T c.1 c.2.1 c.2.2.1) 21 pc = some i := fun _ _ z => z
  unfold w21_45 at w
  unfold gV
  refine gw_pst hk 2 (st' := (6, [some (.ref 3), some (.int x1), some (.int x2), some (.int x3), some (.int x4), some (.int (x5 + 1))], [], h)) rfl ?_
  exact hK6 _ _ _ _ _ _ w _ hR
def wb21_6 (c : gx) (d : Nat) (Post : Option Value → gs → Prop) (K6 : Int32 → Int32 → Int32 → Int32 → Int32 → gs → Prop) (x1 : Int32) (x2 : Int32) (x3 : Int32) (x4 : Int32) (x5 : Int32) (s : gs) : Prop :=
  (((gsV s 3 2) ≤ x5 → Post (some (.int x4)) s) ∧ (¬ ((gsV s 3 2) ≤ x5) → tE c d 19 [.ref 3, .int x1, .int x5] s (fun v3 s_3 => ∃ x_3 : Int32, v3 = some (.int x_3) ∧ ((x3 < x_3 → w21_45 c d Post K6 x1 x2 x3 x4 x5 s_3) ∧ (¬ (x3 < x_3) → tE c d 17 [.int x1, .int x2, .int x5] s_3 (fun v5 s_5 => ∃ x_5 : Int32, v5 = some (.int x_5) ∧ ((x_5 = 0 → w21_45 c d Post K6 x1 x2 x3 (x4 ||| (1 <<< (x5 &&& 31))) x5 s_5) ∧ (¬ (x_5 = 0) → w21_45 c d Post K6 x1 x2 x3 x4 x5 s_5))))))))
theorem okb21_6 (c : gx) (d : Nat) (Post : Option Value → gs → Prop) (K6 : Int32 → Int32 → Int32 → Int32 → Int32 → gs → Prop)  (hK6 : ∀ (x1 : Int32) (x2 : Int32) (x3 : Int32) (x4 : Int32) (x5 : Int32) (s : gs), K6 x1 x2 x3 x4 x5 s → tV c d 21 6 [some (.ref 3), some (.int x1), some (.int x2), some (.int x3), some (.int x4), some (.int x5)] [] s Post) (x1 : Int32) (x2 : Int32) (x3 : Int32) (x4 : Int32) (x5 : Int32) (s : gs) (w : wb21_6 c d Post K6 x1 x2 x3 x4 x5 s) : tV c d 21 6 [some (.ref 3), some (.int x1), some (.int x2), some (.int x3), some (.int x4), some (.int x5)] [] s Post := by
  intro h hR
  have hk : ∀ pc i, gm_find gk_21 pc = some i → gm_code (gt_T c.1 c.2.1 c.2.2.1) 21 pc = some i := fun _ _ z => z
  unfold wb21_6 at w
  unfold gV
  refine gw_pst hk 2 (st' := (9, [some (.ref 3), some (.int x1), some (.int x2), some (.int x3), some (.int x4), some (.int x5)], [.ref 3, .int x5], h)) rfl ?_
  refine gw_gf (hk _ _ rfl) (RL_fI hR rfl) ?_
  refine gw_br (c := (gsV s 3 2) ≤ x5) (a := (51, [some (.ref 3), some (.int x1), some (.int x2), some (.int x3), some (.int x4), some (.int x5)], [], h)) (b := (15, [some (.ref 3), some (.int x1), some (.int x2), some (.int x3), some (.int x4), some (.int x5)], [], h)) (hk _ _ rfl) rfl ⟨fun z2 => ?_, fun z2 => ?_⟩
  · replace w := w.1 z2
    refine gw_pst hk 1 (st' := (53, [some (.ref 3), some (.int x1), some (.int x2), some (.int x3), some (.int x4), some (.int x5)], [.int x4], h)) rfl ?_
    exact gw_ret (hk _ _ rfl) rfl ⟨_, hR, w⟩
  · replace w := w.2 z2
    refine gw_pst hk 3 (st' := (19, [some (.ref 3), some (.int x1), some (.int x2), some (.int x3), some (.int x4), some (.int x5)], [.int x5, .int x1, .ref 3], h)) rfl ?_
    obtain ⟨fs3, e3⟩ := RL_o hR (r := 3) (ci := 1) rfl
    refine gw_call (jj := 19) (As := [.ref 3, .int x1, .int x5]) (rest := []) (hk _ _ rfl) (fun _ => rfl) rfl rfl (Nat.le_of_ble_eq_true rfl) (gm_rcv_v rfl e3 rfl) ?_
    refine ge_imp (w h hR) (fun v3 h w => ?_)
    obtain ⟨s_3, hR, x_3, rfl, w⟩ := w
    show gw (gt_T c.1 c.2.1 c.2.2.1) c.2.2.2 d 21 (22, [some (.ref 3), some (.int x1), some (.int x2), some (.int x3), some (.int x4), some (.int x5)], [.int x_3], h) _
    refine gw_pst hk 1 (st' := (23, [some (.ref 3), some (.int x1), some (.int x2), some (.int x3), some (.int x4), some (.int x5)], [.int x3, .int x_3], h)) rfl ?_
    refine gw_br (c := x3 < x_3) (a := (45, [some (.ref 3), some (.int x1), some (.int x2), some (.int x3), some (.int x4), some (.int x5)], [], h)) (b := (26, [some (.ref 3), some (.int x1), some (.int x2), some (.int x3), some (.int x4), some (.int x5)], [], h)) (hk _ _ rfl) rfl ⟨fun z4 => ?_, fun z4 => ?_⟩
    · replace w := w.1 z4
      exact ok21_45 c d Post K6 hK6 _ _ _ _ _ _ w _ hR
    · replace w := w.2 z4
      refine gw_pst hk 3 (st' := (30, [some (.ref 3), some (.int x1), some (.int x2), some (.int x3), some (.int x4), some (.int x5)], [.int x5, .int x2, .int x1], h)) rfl ?_
      refine gw_call (jj := 17) (As := [.int x1, .int x2, .int x5]) (rest := []) (hk _ _ rfl) (fun _ => rfl) rfl rfl (Nat.le_of_ble_eq_true rfl) rfl ?_
      refine ge_imp (w h hR) (fun v5 h w => ?_)
      obtain ⟨s_5, hR, x_5, rfl, w⟩ := w
      show gw (gt_T c.1 c.2.1 c.2.2.1) c.2.2.2 d 21 (33, [some (.ref 3), some (.int x1), some (.int x2), some (.int x3), some (.int x4), some (.int x5)], [.int x_5], h) _
      refine gw_br (c := x_5 = 0) (a := (36, [some (.ref 3), some (.int x1), some (.int x2), some (.int x3), some (.int x4), some (.int x5)], [], h)) (b := (45, [some (.ref 3), some (.int x1), some (.int x2), some (.int x3), some (.int x4), some (.int x5)], [], h)) (hk _ _ rfl) rfl ⟨fun z6 => ?_, fun z6 => ?_⟩
      · replace w := w.1 z6
        refine gw_pst hk 6 (st' := (45, [some (.ref 3), some (.int x1), some (.int x2), some (.int x3), some (.int (x4 ||| (1 <<< (x5 &&& 31)))), some (.int x5)], [], h)) rfl ?_
        exact ok21_45 c d Post K6 hK6 _ _ _ _ _ _ w _ hR
      · replace w := w.2 z6
        exact ok21_45 c d Post K6 hK6 _ _ _ _ _ _ w _ hR
def wl21_6 (c : gx) (d : Nat) (Post : Option Value → gs → Prop) : Nat → Int32 → Int32 → Int32 → Int32 → Int32 → gs → Prop
  | 0 => fun _ _ _ _ _ _ => False
  | n + 1 => wb21_6 c d Post (wl21_6 c d Post n)
theorem okl21_6 (c : gx) (d : Nat) (Post : Option Value → gs → Prop) : ∀ (n : Nat) (x1 : Int32) (x2 : Int32) (x3 : Int32) (x4 : Int32) (x5 : Int32) (s : gs), wl21_6 c d Post n x1 x2 x3 x4 x5 s → tV c d 21 6 [some (.ref 3), some (.int x1), some (.int x2), some (.int x3), some (.int x4), some (.int x5)] [] s Post
  | 0, _, _, _, _, _, _, w => w.elim
  | n + 1, x1, x2, x3, x4, x5, s, w => okb21_6 c d Post (wl21_6 c d Post n) (okl21_6 c d Post n) x1 x2 x3 x4 x5 s w
/-- CommandByTurns$Land.goals(III)I -/
def wm21 (c : gx) (d : Nat) (Post : Option Value → gs → Prop) (x1 : Int32) (x2 : Int32) (x3 : Int32) (s : gs) : Prop :=
  ∃ n, wl21_6 c d Post n x1 x2 x3 0 0 s
theorem okm21 (c : gx) (d : Nat) (Post : Option Value → gs → Prop) (x1 : Int32) (x2 : Int32) (x3 : Int32) (s : gs) (w : wm21 c d Post x1 x2 x3 s) : tE c (d + 1) 21 [.ref 3, .int x1, .int x2, .int x3] s Post := by
  intro h hR
  have hk : ∀ pc i, gm_find gk_21 pc = some i → gm_code (gt_T c.1 c.2.1 c.2.2.1) 21 pc = some i := fun _ _ z => z
  unfold wm21 at w
  refine ge_of (by decide) (Nat.le_of_ble_eq_true rfl) ?_
  show gw (gt_T c.1 c.2.1 c.2.2.1) c.2.2.2 d 21 (0, [some (.ref 3), some (.int x1), some (.int x2), some (.int x3), none, none], [], h) _
  refine gw_pst hk 4 (st' := (6, [some (.ref 3), some (.int x1), some (.int x2), some (.int x3), some (.int 0), some (.int 0)], [], h)) rfl ?_
  obtain ⟨n, w⟩ := w
  exact okl21_6 c d Post n _ _ _ _ _ _ w _ hR
def w22_60 (c : gx) (d : Nat) (Post : Option Value → gs → Prop) (K5 : Int32 → Int32 → Int32 → Int32 → gs → Prop) (x1 : Int32) (x2 : Int32) (x3 : Int32) (x4 : Int32) (s : gs) : Prop :=
  K5 x1 x2 x3 (x4 + 1) s
theorem ok22_60 (c : gx) (d : Nat) (Post : Option Value → gs → Prop) (K5 : Int32 → Int32 → Int32 → Int32 → gs → Prop)  (hK5 : ∀ (x1 : Int32) (x2 : Int32) (x3 : Int32) (x4 : Int32) (s : gs), K5 x1 x2 x3 x4 s → tV c d 22 5 [some (.ref 3), some (.int x1), some (.int x2), some (.int x3), some (.int x4), none] [] s Post) (x1 : Int32) (x2 : Int32) (x3 : Int32) (x4 : Int32) (s : gs) (w : w22_60 c d Post K5 x1 x2 x3 x4 s) : tV c d 22 60 [some (.ref 3), some (.int x1), some (.int x2), some (.int x3), some (.int x4), none] [] s Post := by
  intro h hR
  have hk : ∀ pc i, gm_find gk_22 pc = some i → gm_code (gt_T c.1 c.2.1 c.2.2.1) 22 pc = some i := fun _ _ z => z
  unfold w22_60 at w
  unfold gV
  refine gw_pst hk 2 (st' := (5, [some (.ref 3), some (.int x1), some (.int x2), some (.int x3), some (.int (x4 + 1)), none], [], h)) rfl ?_
  exact hK5 _ _ _ _ _ w _ hR
def w22_57 (c : gx) (d : Nat) (Post : Option Value → gs → Prop) (K5 : Int32 → Int32 → Int32 → Int32 → gs → Prop) (x1 : Int32) (x2 : Int32) (x4 : Int32) (s : gs) : Prop :=
  w22_60 c d Post K5 x1 x2 x4 x4 s
theorem ok22_57 (c : gx) (d : Nat) (Post : Option Value → gs → Prop) (K5 : Int32 → Int32 → Int32 → Int32 → gs → Prop)  (hK5 : ∀ (x1 : Int32) (x2 : Int32) (x3 : Int32) (x4 : Int32) (s : gs), K5 x1 x2 x3 x4 s → tV c d 22 5 [some (.ref 3), some (.int x1), some (.int x2), some (.int x3), some (.int x4), none] [] s Post) (x1 : Int32) (x2 : Int32) (x4 : Int32) (s : gs) (w : w22_57 c d Post K5 x1 x2 x4 s) : tV c d 22 57 [some (.ref 3), some (.int x1), some (.int x2), none, some (.int x4), none] [] s Post := by
  intro h hR
  have hk : ∀ pc i, gm_find gk_22 pc = some i → gm_code (gt_T c.1 c.2.1 c.2.2.1) 22 pc = some i := fun _ _ z => z
  unfold w22_57 at w
  unfold gV
  refine gw_pst hk 2 (st' := (60, [some (.ref 3), some (.int x1), some (.int x2), some (.int x4), some (.int x4), none], [], h)) rfl ?_
  exact ok22_60 c d Post K5 hK5 _ _ _ _ _ w _ hR
def w22_29 (c : gx) (d : Nat) (Post : Option Value → gs → Prop) (K5 : Int32 → Int32 → Int32 → Int32 → gs → Prop) (x1 : Int32) (x2 : Int32) (x3 : Int32) (x4 : Int32) (xs0 : Int32) (s : gs) : Prop :=
  ((xs0 = 0 → w22_60 c d Post K5 x1 x2 x3 x4 s) ∧ (¬ (xs0 = 0) → ((x3 = (-1) → w22_57 c d Post K5 x1 x2 x4 s) ∧ (¬ (x3 = (-1)) → (((if 0 ≤ (x3 - x2) then (x3 - x2) else 0 - (x3 - x2)) ≤ (if 0 ≤ (x4 - x2) then (x4 - x2) else 0 - (x4 - x2)) → w22_60 c d Post K5 x1 x2 x3 x4 s) ∧ (¬ ((if 0 ≤ (x3 - x2) then (x3 - x2) else 0 - (x3 - x2)) ≤ (if 0 ≤ (x4 - x2) then (x4 - x2) else 0 - (x4 - x2))) → w22_57 c d Post K5 x1 x2 x4 s))))))
theorem ok22_29 (c : gx) (d : Nat) (Post : Option Value → gs → Prop) (K5 : Int32 → Int32 → Int32 → Int32 → gs → Prop)  (hK5 : ∀ (x1 : Int32) (x2 : Int32) (x3 : Int32) (x4 : Int32) (s : gs), K5 x1 x2 x3 x4 s → tV c d 22 5 [some (.ref 3), some (.int x1), some (.int x2), some (.int x3), some (.int x4), none] [] s Post) (x1 : Int32) (x2 : Int32) (x3 : Int32) (x4 : Int32) (xs0 : Int32) (s : gs) (w : w22_29 c d Post K5 x1 x2 x3 x4 xs0 s) : tV c d 22 29 [some (.ref 3), some (.int x1), some (.int x2), some (.int x3), some (.int x4), none] [.int xs0] s Post := by
  intro h hR
  have hk : ∀ pc i, gm_find gk_22 pc = some i → gm_code (gt_T c.1 c.2.1 c.2.2.1) 22 pc = some i := fun _ _ z => z
  unfold w22_29 at w
  unfold gV
  refine gw_pst hk 2 (st' := (33, [some (.ref 3), some (.int x1), some (.int x2), some (.int x3), some (.int x4), some (.int xs0)], [.int xs0], h)) rfl ?_
  refine gw_br (c := xs0 = 0) (a := (60, [some (.ref 3), some (.int x1), some (.int x2), some (.int x3), some (.int x4), some (.int xs0)], [], h)) (b := (36, [some (.ref 3), some (.int x1), some (.int x2), some (.int x3), some (.int x4), some (.int xs0)], [], h)) (hk _ _ rfl) rfl ⟨fun z1 => ?_, fun z1 => ?_⟩
  · replace w := w.1 z1
    refine gw_le (L' := [some (.ref 3), some (.int x1), some (.int x2), some (.int x3), some (.int x4), none]) (gm_le_k _ (gm_le_k _ (gm_le_k _ (gm_le_k _ (gm_le_k _ (gm_le_n _ gm_le_nil)))))) ?_
    exact ok22_60 c d Post K5 hK5 _ _ _ _ _ w _ hR
  · replace w := w.2 z1
    refine gw_pst hk 2 (st' := (38, [some (.ref 3), some (.int x1), some (.int x2), some (.int x3), some (.int x4), some (.int xs0)], [.int (-1), .int x3], h)) rfl ?_
    refine gw_br (c := x3 = (-1)) (a := (57, [some (.ref 3), some (.int x1), some (.int x2), some (.int x3), some (.int x4), some (.int xs0)], [], h)) (b := (41, [some (.ref 3), some (.int x1), some (.int x2), some (.int x3), some (.int x4), some (.int xs0)], [], h)) (hk _ _ rfl) rfl ⟨fun z2 => ?_, fun z2 => ?_⟩
    · replace w := w.1 z2
      refine gw_le (L' := [some (.ref 3), some (.int x1), some (.int x2), none, some (.int x4), none]) (gm_le_k _ (gm_le_k _ (gm_le_k _ (gm_le_n _ (gm_le_k _ (gm_le_n _ gm_le_nil)))))) ?_
      exact ok22_57 c d Post K5 hK5 _ _ _ _ w _ hR
    · replace w := w.2 z2
      refine gw_pst hk 8 (st' := (54, [some (.ref 3), some (.int x1), some (.int x2), some (.int x3), some (.int x4), some (.int xs0)], [.int (if 0 ≤ (x3 - x2) then (x3 - x2) else 0 - (x3 - x2)), .int (if 0 ≤ (x4 - x2) then (x4 - x2) else 0 - (x4 - x2))], h)) rfl ?_
      refine gw_br (c := (if 0 ≤ (x3 - x2) then (x3 - x2) else 0 - (x3 - x2)) ≤ (if 0 ≤ (x4 - x2) then (x4 - x2) else 0 - (x4 - x2))) (a := (60, [some (.ref 3), some (.int x1), some (.int x2), some (.int x3), some (.int x4), some (.int xs0)], [], h)) (b := (57, [some (.ref 3), some (.int x1), some (.int x2), some (.int x3), some (.int x4), some (.int xs0)], [], h)) (hk _ _ rfl) rfl ⟨fun z3 => ?_, fun z3 => ?_⟩
      · replace w := w.1 z3
        refine gw_le (L' := [some (.ref 3), some (.int x1), some (.int x2), some (.int x3), some (.int x4), none]) (gm_le_k _ (gm_le_k _ (gm_le_k _ (gm_le_k _ (gm_le_k _ (gm_le_n _ gm_le_nil)))))) ?_
        exact ok22_60 c d Post K5 hK5 _ _ _ _ _ w _ hR
      · replace w := w.2 z3
        refine gw_le (L' := [some (.ref 3), some (.int x1), some (.int x2), none, some (.int x4), none]) (gm_le_k _ (gm_le_k _ (gm_le_k _ (gm_le_n _ (gm_le_k _ (gm_le_n _ gm_le_nil)))))) ?_
        exact ok22_57 c d Post K5 hK5 _ _ _ _ w _ hR
def wb22_5 (c : gx) (d : Nat) (Post : Option Value → gs → Prop) (K5 : Int32 → Int32 → Int32 → Int32 → gs → Prop) (x1 : Int32) (x2 : Int32) (x3 : Int32) (x4 : Int32) (s : gs) : Prop :=
  (((gsV s 3 2) ≤ x4 → Post (some (.int x3)) s) ∧ (¬ ((gsV s 3 2) ≤ x4) → ((((x1 >>> (x4 &&& 31)) &&& 1) = 1 → w22_29 c d Post K5 x1 x2 x3 x4 1 s) ∧ (¬ (((x1 >>> (x4 &&& 31)) &&& 1) = 1) → w22_29 c d Post K5 x1 x2 x3 x4 0 s))))
theorem okb22_5 (c : gx) (d : Nat) (Post : Option Value → gs → Prop) (K5 : Int32 → Int32 → Int32 → Int32 → gs → Prop)  (hK5 : ∀ (x1 : Int32) (x2 : Int32) (x3 : Int32) (x4 : Int32) (s : gs), K5 x1 x2 x3 x4 s → tV c d 22 5 [some (.ref 3), some (.int x1), some (.int x2), some (.int x3), some (.int x4), none] [] s Post) (x1 : Int32) (x2 : Int32) (x3 : Int32) (x4 : Int32) (s : gs) (w : wb22_5 c d Post K5 x1 x2 x3 x4 s) : tV c d 22 5 [some (.ref 3), some (.int x1), some (.int x2), some (.int x3), some (.int x4), none] [] s Post := by
  intro h hR
  have hk : ∀ pc i, gm_find gk_22 pc = some i → gm_code (gt_T c.1 c.2.1 c.2.2.1) 22 pc = some i := fun _ _ z => z
  unfold wb22_5 at w
  unfold gV
  refine gw_pst hk 2 (st' := (8, [some (.ref 3), some (.int x1), some (.int x2), some (.int x3), some (.int x4), none], [.ref 3, .int x4], h)) rfl ?_
  refine gw_gf (hk _ _ rfl) (RL_fI hR rfl) ?_
  refine gw_br (c := (gsV s 3 2) ≤ x4) (a := (66, [some (.ref 3), some (.int x1), some (.int x2), some (.int x3), some (.int x4), none], [], h)) (b := (14, [some (.ref 3), some (.int x1), some (.int x2), some (.int x3), some (.int x4), none], [], h)) (hk _ _ rfl) rfl ⟨fun z2 => ?_, fun z2 => ?_⟩
  · replace w := w.1 z2
    refine gw_pst hk 1 (st' := (67, [some (.ref 3), some (.int x1), some (.int x2), some (.int x3), some (.int x4), none], [.int x3], h)) rfl ?_
    exact gw_ret (hk _ _ rfl) rfl ⟨_, hR, w⟩
  · replace w := w.2 z2
    refine gw_pst hk 6 (st' := (21, [some (.ref 3), some (.int x1), some (.int x2), some (.int x3), some (.int x4), none], [.int 1, .int ((x1 >>> (x4 &&& 31)) &&& 1)], h)) rfl ?_
    refine gw_br (c := ((x1 >>> (x4 &&& 31)) &&& 1) = 1) (a := (24, [some (.ref 3), some (.int x1), some (.int x2), some (.int x3), some (.int x4), none], [], h)) (b := (28, [some (.ref 3), some (.int x1), some (.int x2), some (.int x3), some (.int x4), none], [], h)) (hk _ _ rfl) rfl ⟨fun z3 => ?_, fun z3 => ?_⟩
    · replace w := w.1 z3
      refine gw_pst hk 2 (st' := (29, [some (.ref 3), some (.int x1), some (.int x2), some (.int x3), some (.int x4), none], [.int 1], h)) rfl ?_
      exact ok22_29 c d Post K5 hK5 _ _ _ _ _ _ w _ hR
    · replace w := w.2 z3
      refine gw_pst hk 1 (st' := (29, [some (.ref 3), some (.int x1), some (.int x2), some (.int x3), some (.int x4), none], [.int 0], h)) rfl ?_
      exact ok22_29 c d Post K5 hK5 _ _ _ _ _ _ w _ hR
def wl22_5 (c : gx) (d : Nat) (Post : Option Value → gs → Prop) : Nat → Int32 → Int32 → Int32 → Int32 → gs → Prop
  | 0 => fun _ _ _ _ _ => False
  | n + 1 => wb22_5 c d Post (wl22_5 c d Post n)
theorem okl22_5 (c : gx) (d : Nat) (Post : Option Value → gs → Prop) : ∀ (n : Nat) (x1 : Int32) (x2 : Int32) (x3 : Int32) (x4 : Int32) (s : gs), wl22_5 c d Post n x1 x2 x3 x4 s → tV c d 22 5 [some (.ref 3), some (.int x1), some (.int x2), some (.int x3), some (.int x4), none] [] s Post
  | 0, _, _, _, _, _, w => w.elim
  | n + 1, x1, x2, x3, x4, s, w => okb22_5 c d Post (wl22_5 c d Post n) (okl22_5 c d Post n) x1 x2 x3 x4 s w
/-- CommandByTurns$Land.nearestGoal(II)I -/
def wm22 (c : gx) (d : Nat) (Post : Option Value → gs → Prop) (x1 : Int32) (x2 : Int32) (s : gs) : Prop :=
  ∃ n, wl22_5 c d Post n x1 x2 (-1) 0 s
theorem okm22 (c : gx) (d : Nat) (Post : Option Value → gs → Prop) (x1 : Int32) (x2 : Int32) (s : gs) (w : wm22 c d Post x1 x2 s) : tE c (d + 1) 22 [.ref 3, .int x1, .int x2] s Post := by
  intro h hR
  have hk : ∀ pc i, gm_find gk_22 pc = some i → gm_code (gt_T c.1 c.2.1 c.2.2.1) 22 pc = some i := fun _ _ z => z
  unfold wm22 at w
  refine ge_of (by decide) (Nat.le_of_ble_eq_true rfl) ?_
  show gw (gt_T c.1 c.2.1 c.2.2.1) c.2.2.2 d 22 (0, [some (.ref 3), some (.int x1), some (.int x2), none, none, none], [], h) _
  refine gw_pst hk 4 (st' := (5, [some (.ref 3), some (.int x1), some (.int x2), some (.int (-1)), some (.int 0), none], [], h)) rfl ?_
  obtain ⟨n, w⟩ := w
  exact okl22_5 c d Post n _ _ _ _ _ w _ hR
def w23_59 (c : gx) (d : Nat) (Post : Option Value → gs → Prop) (x3 : Int32) (s : gs) : Prop :=
  Post (some (.int x3)) s
theorem ok23_59 (c : gx) (d : Nat) (Post : Option Value → gs → Prop)  (x3 : Int32) (s : gs) (w : w23_59 c d Post x3 s) : tV c d 23 59 [none, none, none, some (.int x3), none] [] s Post := by
  intro h hR
  have hk : ∀ pc i, gm_find gk_23 pc = some i → gm_code (gt_T c.1 c.2.1 c.2.2.1) 23 pc = some i := fun _ _ z => z
  unfold w23_59 at w
  unfold gV
  refine gw_pst hk 1 (st' := (60, [none, none, none, some (.int x3), none], [.int x3], h)) rfl ?_
  exact gw_ret (hk _ _ rfl) rfl ⟨_, hR, w⟩
def w23_61 (c : gx) (d : Nat) (Post : Option Value → gs → Prop) (K6 : Int32 → Int32 → Int32 → gs → Prop) (x1 : Int32) (x2 : Int32) (x3 : Int32) (s : gs) : Prop :=
  K6 x1 x2 (x3 + 1) s
theorem ok23_61 (c : gx) (d : Nat) (Post : Option Value → gs → Prop) (K6 : Int32 → Int32 → Int32 → gs → Prop)  (hK6 : ∀ (x1 : Int32) (x2 : Int32) (x3 : Int32) (s : gs), K6 x1 x2 x3 s → tV c d 23 6 [some (.ref 1), some (.int x1), some (.int x2), some (.int x3), none] [] s Post) (x1 : Int32) (x2 : Int32) (x3 : Int32) (s : gs) (w : w23_61 c d Post K6 x1 x2 x3 s) : tV c d 23 61 [some (.ref 1), some (.int x1), some (.int x2), some (.int x3), none] [] s Post := by
  intro h hR
  have hk : ∀ pc i, gm_find gk_23 pc = some i → gm_code (gt_T c.1 c.2.1 c.2.2.1) 23 pc = some i := fun _ _ z => z
  unfold w23_61 at w
  unfold gV
  refine gw_pst hk 2 (st' := (6, [some (.ref 1), some (.int x1), some (.int x2), some (.int (x3 + 1)), none], [], h)) rfl ?_
  exact hK6 _ _ _ _ w _ hR
def w23_43 (c : gx) (d : Nat) (Post : Option Value → gs → Prop) (K6 : Int32 → Int32 → Int32 → gs → Prop) (x1 : Int32) (x2 : Int32) (x3 : Int32) (x4 : Int32) (s : gs) : Prop :=
  ((x4 = 126 → ((x2 = 0 → w23_61 c d Post K6 x1 1 x3 s) ∧ (¬ (x2 = 0) → w23_59 c d Post x3 s))) ∧ (¬ (x4 = 126) → w23_59 c d Post x3 s))
theorem ok23_43 (c : gx) (d : Nat) (Post : Option Value → gs → Prop) (K6 : Int32 → Int32 → Int32 → gs → Prop)  (hK6 : ∀ (x1 : Int32) (x2 : Int32) (x3 : Int32) (s : gs), K6 x1 x2 x3 s → tV c d 23 6 [some (.ref 1), some (.int x1), some (.int x2), some (.int x3), none] [] s Post) (x1 : Int32) (x2 : Int32) (x3 : Int32) (x4 : Int32) (s : gs) (w : w23_43 c d Post K6 x1 x2 x3 x4 s) : tV c d 23 43 [some (.ref 1), some (.int x1), some (.int x2), some (.int x3), some (.int x4)] [] s Post := by
  intro h hR
  have hk : ∀ pc i, gm_find gk_23 pc = some i → gm_code (gt_T c.1 c.2.1 c.2.2.1) 23 pc = some i := fun _ _ z => z
  unfold w23_43 at w
  unfold gV
  refine gw_pst hk 2 (st' := (47, [some (.ref 1), some (.int x1), some (.int x2), some (.int x3), some (.int x4)], [.int 126, .int x4], h)) rfl ?_
  refine gw_br (c := x4 = 126) (a := (50, [some (.ref 1), some (.int x1), some (.int x2), some (.int x3), some (.int x4)], [], h)) (b := (59, [some (.ref 1), some (.int x1), some (.int x2), some (.int x3), some (.int x4)], [], h)) (hk _ _ rfl) rfl ⟨fun z1 => ?_, fun z1 => ?_⟩
  · replace w := w.1 z1
    refine gw_pst hk 1 (st' := (51, [some (.ref 1), some (.int x1), some (.int x2), some (.int x3), some (.int x4)], [.int x2], h)) rfl ?_
    refine gw_br (c := x2 = 0) (a := (54, [some (.ref 1), some (.int x1), some (.int x2), some (.int x3), some (.int x4)], [], h)) (b := (59, [some (.ref 1), some (.int x1), some (.int x2), some (.int x3), some (.int x4)], [], h)) (hk _ _ rfl) rfl ⟨fun z2 => ?_, fun z2 => ?_⟩
    · replace w := w.1 z2
      refine gw_pst hk 3 (st' := (61, [some (.ref 1), some (.int x1), some (.int 1), some (.int x3), some (.int x4)], [], h)) rfl ?_
      refine gw_le (L' := [some (.ref 1), some (.int x1), some (.int 1), some (.int x3), none]) (gm_le_k _ (gm_le_k _ (gm_le_k _ (gm_le_k _ (gm_le_n _ gm_le_nil))))) ?_
      exact ok23_61 c d Post K6 hK6 _ _ _ _ w _ hR
    · replace w := w.2 z2
      refine gw_le (L' := [none, none, none, some (.int x3), none]) (gm_le_n _ (gm_le_n _ (gm_le_n _ (gm_le_k _ (gm_le_n _ gm_le_nil))))) ?_
      exact ok23_59 c d Post _ _ w _ hR
  · replace w := w.2 z1
    refine gw_le (L' := [none, none, none, some (.int x3), none]) (gm_le_n _ (gm_le_n _ (gm_le_n _ (gm_le_k _ (gm_le_n _ gm_le_nil))))) ?_
    exact ok23_59 c d Post _ _ w _ hR
def w23_84 (c : gx) (d : Nat) (Post : Option Value → gs → Prop) (xs0 : Int32) (s : gs) : Prop :=
  Post (some (.int xs0)) s
theorem ok23_84 (c : gx) (d : Nat) (Post : Option Value → gs → Prop)  (xs0 : Int32) (s : gs) (w : w23_84 c d Post xs0 s) : tV c d 23 84 [none, none, none, none, none] [.int xs0] s Post := by
  intro h hR
  have hk : ∀ pc i, gm_find gk_23 pc = some i → gm_code (gt_T c.1 c.2.1 c.2.2.1) 23 pc = some i := fun _ _ z => z
  unfold w23_84 at w
  unfold gV
  exact gw_ret (hk _ _ rfl) rfl ⟨_, hR, w⟩
def w23_76 (c : gx) (d : Nat) (Post : Option Value → gs → Prop)  (s : gs) : Prop :=
  w23_84 c d Post (gsV s 1 1) s
theorem ok23_76 (c : gx) (d : Nat) (Post : Option Value → gs → Prop)   (s : gs) (w : w23_76 c d Post  s) : tV c d 23 76 [some (.ref 1), none, none, none, none] [] s Post := by
  intro h hR
  have hk : ∀ pc i, gm_find gk_23 pc = some i → gm_code (gt_T c.1 c.2.1 c.2.2.1) 23 pc = some i := fun _ _ z => z
  unfold w23_76 at w
  unfold gV
  refine gw_pst hk 1 (st' := (77, [some (.ref 1), none, none, none, none], [.ref 1], h)) rfl ?_
  refine gw_gf (hk _ _ rfl) (RL_fI hR rfl) ?_
  refine gw_pst hk 1 (st' := (84, [some (.ref 1), none, none, none, none], [.int (gsV s 1 1)], h)) rfl ?_
  refine gw_le (L' := [none, none, none, none, none]) (gm_le_n _ (gm_le_k _ (gm_le_k _ (gm_le_k _ (gm_le_k _ gm_le_nil))))) ?_
  exact ok23_84 c d Post _ _ w _ hR
def wb23_6 (c : gx) (d : Nat) (Post : Option Value → gs → Prop) (K6 : Int32 → Int32 → Int32 → gs → Prop) (x1 : Int32) (x2 : Int32) (x3 : Int32) (s : gs) : Prop :=
  (((gsV s 1 1) ≤ x3 → ((x1 < 2 → w23_76 c d Post s) ∧ (¬ (x1 < 2) → ((x2 = 0 → w23_84 c d Post (-1) s) ∧ (¬ (x2 = 0) → w23_76 c d Post s))))) ∧ (¬ ((gsV s 1 1) ≤ x3) → tE c d 61 [.ref 1, .int x3] s (fun v5 s_5 => ∃ x_5 : Int32, v5 = some (.int x_5) ∧ tE c d 60 [.int x_5] s_5 (fun v6 s_6 => ∃ x_6 : Int32, v6 = some (.int x_6) ∧ ((x_6 = 0 → w23_43 c d Post K6 x1 x2 x3 x_5 s_6) ∧ (¬ (x_6 = 0) → ((12 ≤ x1 → w23_43 c d Post K6 x1 x2 x3 x_5 s_6) ∧ (¬ (12 ≤ x1) → w23_61 c d Post K6 (x1 + 1) 0 x3 s_6))))))))
theorem okb23_6 (c : gx) (d : Nat) (Post : Option Value → gs → Prop) (K6 : Int32 → Int32 → Int32 → gs → Prop)  (hK6 : ∀ (x1 : Int32) (x2 : Int32) (x3 : Int32) (s : gs), K6 x1 x2 x3 s → tV c d 23 6 [some (.ref 1), some (.int x1), some (.int x2), some (.int x3), none] [] s Post) (x1 : Int32) (x2 : Int32) (x3 : Int32) (s : gs) (w : wb23_6 c d Post K6 x1 x2 x3 s) : tV c d 23 6 [some (.ref 1), some (.int x1), some (.int x2), some (.int x3), none] [] s Post := by
  intro h hR
  have hk : ∀ pc i, gm_find gk_23 pc = some i → gm_code (gt_T c.1 c.2.1 c.2.2.1) 23 pc = some i := fun _ _ z => z
  unfold wb23_6 at w
  unfold gV
  refine gw_pst hk 2 (st' := (8, [some (.ref 1), some (.int x1), some (.int x2), some (.int x3), none], [.ref 1, .int x3], h)) rfl ?_
  refine gw_gf (hk _ _ rfl) (RL_fI hR rfl) ?_
  refine gw_br (c := (gsV s 1 1) ≤ x3) (a := (67, [some (.ref 1), some (.int x1), some (.int x2), some (.int x3), none], [], h)) (b := (14, [some (.ref 1), some (.int x1), some (.int x2), some (.int x3), none], [], h)) (hk _ _ rfl) rfl ⟨fun z2 => ?_, fun z2 => ?_⟩
  · replace w := w.1 z2
    refine gw_pst hk 2 (st' := (69, [some (.ref 1), some (.int x1), some (.int x2), some (.int x3), none], [.int 2, .int x1], h)) rfl ?_
    refine gw_br (c := x1 < 2) (a := (76, [some (.ref 1), some (.int x1), some (.int x2), some (.int x3), none], [], h)) (b := (72, [some (.ref 1), some (.int x1), some (.int x2), some (.int x3), none], [], h)) (hk _ _ rfl) rfl ⟨fun z3 => ?_, fun z3 => ?_⟩
    · replace w := w.1 z3
      refine gw_le (L' := [some (.ref 1), none, none, none, none]) (gm_le_k _ (gm_le_n _ (gm_le_n _ (gm_le_n _ (gm_le_k _ gm_le_nil))))) ?_
      exact ok23_76 c d Post _ w _ hR
    · replace w := w.2 z3
      refine gw_pst hk 1 (st' := (73, [some (.ref 1), some (.int x1), some (.int x2), some (.int x3), none], [.int x2], h)) rfl ?_
      refine gw_br (c := x2 = 0) (a := (83, [some (.ref 1), some (.int x1), some (.int x2), some (.int x3), none], [], h)) (b := (76, [some (.ref 1), some (.int x1), some (.int x2), some (.int x3), none], [], h)) (hk _ _ rfl) rfl ⟨fun z4 => ?_, fun z4 => ?_⟩
      · replace w := w.1 z4
        refine gw_pst hk 1 (st' := (84, [some (.ref 1), some (.int x1), some (.int x2), some (.int x3), none], [.int (-1)], h)) rfl ?_
        refine gw_le (L' := [none, none, none, none, none]) (gm_le_n _ (gm_le_n _ (gm_le_n _ (gm_le_n _ (gm_le_k _ gm_le_nil))))) ?_
        exact ok23_84 c d Post _ _ w _ hR
      · replace w := w.2 z4
        refine gw_le (L' := [some (.ref 1), none, none, none, none]) (gm_le_k _ (gm_le_n _ (gm_le_n _ (gm_le_n _ (gm_le_k _ gm_le_nil))))) ?_
        exact ok23_76 c d Post _ w _ hR
  · replace w := w.2 z2
    refine gw_pst hk 2 (st' := (16, [some (.ref 1), some (.int x1), some (.int x2), some (.int x3), none], [.int x3, .ref 1], h)) rfl ?_
    obtain ⟨fs5, e5⟩ := RL_o hR (r := 1) (ci := 7) rfl
    refine gw_call (jj := 61) (As := [.ref 1, .int x3]) (rest := []) (hk _ _ rfl) (fun _ => rfl) rfl rfl (Nat.le_of_ble_eq_true rfl) (gm_rcv_v rfl e5 rfl) ?_
    refine ge_imp (w h hR) (fun v5 h w => ?_)
    obtain ⟨s_5, hR, x_5, rfl, w⟩ := w
    show gw (gt_T c.1 c.2.1 c.2.2.1) c.2.2.2 d 23 (19, [some (.ref 1), some (.int x1), some (.int x2), some (.int x3), none], [.int x_5], h) _
    refine gw_pst hk 2 (st' := (23, [some (.ref 1), some (.int x1), some (.int x2), some (.int x3), some (.int x_5)], [.int x_5], h)) rfl ?_
    refine gw_call (jj := 60) (As := [.int x_5]) (rest := []) (hk _ _ rfl) (fun _ => rfl) rfl rfl (Nat.le_of_ble_eq_true rfl) rfl ?_
    refine ge_imp (w h hR) (fun v6 h w => ?_)
    obtain ⟨s_6, hR, x_6, rfl, w⟩ := w
    show gw (gt_T c.1 c.2.1 c.2.2.1) c.2.2.2 d 23 (26, [some (.ref 1), some (.int x1), some (.int x2), some (.int x3), some (.int x_5)], [.int x_6], h) _
    refine gw_br (c := x_6 = 0) (a := (43, [some (.ref 1), some (.int x1), some (.int x2), some (.int x3), some (.int x_5)], [], h)) (b := (29, [some (.ref 1), some (.int x1), some (.int x2), some (.int x3), some (.int x_5)], [], h)) (hk _ _ rfl) rfl ⟨fun z7 => ?_, fun z7 => ?_⟩
    · replace w := w.1 z7
      exact ok23_43 c d Post K6 hK6 _ _ _ _ _ w _ hR
    · replace w := w.2 z7
      refine gw_pst hk 2 (st' := (32, [some (.ref 1), some (.int x1), some (.int x2), some (.int x3), some (.int x_5)], [.int 12, .int x1], h)) rfl ?_
      refine gw_br (c := 12 ≤ x1) (a := (43, [some (.ref 1), some (.int x1), some (.int x2), some (.int x3), some (.int x_5)], [], h)) (b := (35, [some (.ref 1), some (.int x1), some (.int x2), some (.int x3), some (.int x_5)], [], h)) (hk _ _ rfl) rfl ⟨fun z8 => ?_, fun z8 => ?_⟩
      · replace w := w.1 z8
        exact ok23_43 c d Post K6 hK6 _ _ _ _ _ w _ hR
      · replace w := w.2 z8
        refine gw_pst hk 4 (st' := (61, [some (.ref 1), some (.int (x1 + 1)), some (.int 0), some (.int x3), some (.int x_5)], [], h)) rfl ?_
        refine gw_le (L' := [some (.ref 1), some (.int (x1 + 1)), some (.int 0), some (.int x3), none]) (gm_le_k _ (gm_le_k _ (gm_le_k _ (gm_le_k _ (gm_le_n _ gm_le_nil))))) ?_
        exact ok23_61 c d Post K6 hK6 _ _ _ _ w _ hR
def wl23_6 (c : gx) (d : Nat) (Post : Option Value → gs → Prop) : Nat → Int32 → Int32 → Int32 → gs → Prop
  | 0 => fun _ _ _ _ => False
  | n + 1 => wb23_6 c d Post (wl23_6 c d Post n)
theorem okl23_6 (c : gx) (d : Nat) (Post : Option Value → gs → Prop) : ∀ (n : Nat) (x1 : Int32) (x2 : Int32) (x3 : Int32) (s : gs), wl23_6 c d Post n x1 x2 x3 s → tV c d 23 6 [some (.ref 1), some (.int x1), some (.int x2), some (.int x3), none] [] s Post
  | 0, _, _, _, _, w => w.elim
  | n + 1, x1, x2, x3, s, w => okb23_6 c d Post (wl23_6 c d Post n) (okl23_6 c d Post n) x1 x2 x3 s w
/-- CommandByTurns$Land.misreadAt(LCommandByTurns$Text;)I -/
def wm23 (c : gx) (d : Nat) (Post : Option Value → gs → Prop)  (s : gs) : Prop :=
  ∃ n, wl23_6 c d Post n 0 1 0 s
theorem okm23 (c : gx) (d : Nat) (Post : Option Value → gs → Prop)  (s : gs) (w : wm23 c d Post  s) : tE c (d + 1) 23 [.ref 1] s Post := by
  intro h hR
  have hk : ∀ pc i, gm_find gk_23 pc = some i → gm_code (gt_T c.1 c.2.1 c.2.2.1) 23 pc = some i := fun _ _ z => z
  unfold wm23 at w
  refine ge_of (by decide) (Nat.le_of_ble_eq_true rfl) ?_
  show gw (gt_T c.1 c.2.1 c.2.2.1) c.2.2.2 d 23 (0, [some (.ref 1), none, none, none, none], [], h) _
  refine gw_pst hk 6 (st' := (6, [some (.ref 1), some (.int 0), some (.int 1), some (.int 0), none], [], h)) rfl ?_
  obtain ⟨n, w⟩ := w
  exact okl23_6 c d Post n _ _ _ _ w _ hR
def w24_87 (c : gx) (d : Nat) (Post : Option Value → gs → Prop) (K12 : Int32 → gs → Prop) (x2 : Int32) (s : gs) : Prop :=
  K12 (x2 + 1) s
theorem ok24_87 (c : gx) (d : Nat) (Post : Option Value → gs → Prop) (K12 : Int32 → gs → Prop)  (hK12 : ∀ (x2 : Int32) (s : gs), K12 x2 s → tV c d 24 12 [some (.ref 3), some (.ref 1), some (.int x2), none] [] s Post) (x2 : Int32) (s : gs) (w : w24_87 c d Post K12 x2 s) : tV c d 24 87 [some (.ref 3), some (.ref 1), some (.int x2), none] [] s Post := by
  intro h hR
  have hk : ∀ pc i, gm_find gk_24 pc = some i → gm_code (gt_T c.1 c.2.1 c.2.2.1) 24 pc = some i := fun _ _ z => z
  unfold w24_87 at w
  unfold gV
  refine gw_pst hk 2 (st' := (12, [some (.ref 3), some (.ref 1), some (.int (x2 + 1)), none], [], h)) rfl ?_
  exact hK12 _ _ w _ hR
def wb24_12 (c : gx) (d : Nat) (Post : Option Value → gs → Prop) (K12 : Int32 → gs → Prop) (x2 : Int32) (s : gs) : Prop :=
  (((gsV s 1 1) ≤ x2 → Post none s) ∧ (¬ ((gsV s 1 1) ≤ x2) → tE c d 61 [.ref 1, .int x2] s (fun v3 s_3 => ∃ x_3 : Int32, v3 = some (.int x_3) ∧ ((x_3 = 126 → ∀ s_7 : gs, s_7 = gs_V s_3 3 1 ((gsV s_3 3 1) ||| (1 <<< (((gsV s_3 3 2) - 1) &&& 31))) → w24_87 c d Post K12 x2 s_7) ∧ (¬ (x_3 = 126) → ((12 ≤ (gsV s_3 3 2) → w24_87 c d Post K12 x2 s_3) ∧ (¬ (12 ≤ (gsV s_3 3 2)) → vp_in (gsV s_3 3 2) 12 ∧ ∀ s_14 : gs, s_14 = gs_A s_3 4 (gsV s_3 3 2 : Int32).toNatClampNeg (vp_nar .int (x_3 - 48)) → ∀ s_16 : gs, s_16 = gs_V s_14 3 2 ((gsV s_14 3 2) + 1) → w24_87 c d Post K12 x2 s_16)))))))
theorem okb24_12 (c : gx) (d : Nat) (Post : Option Value → gs → Prop) (K12 : Int32 → gs → Prop)  (hK12 : ∀ (x2 : Int32) (s : gs), K12 x2 s → tV c d 24 12 [some (.ref 3), some (.ref 1), some (.int x2), none] [] s Post) (x2 : Int32) (s : gs) (w : wb24_12 c d Post K12 x2 s) : tV c d 24 12 [some (.ref 3), some (.ref 1), some (.int x2), none] [] s Post := by
  intro h hR
  have hk : ∀ pc i, gm_find gk_24 pc = some i → gm_code (gt_T c.1 c.2.1 c.2.2.1) 24 pc = some i := fun _ _ z => z
  unfold wb24_12 at w
  unfold gV
  refine gw_pst hk 2 (st' := (14, [some (.ref 3), some (.ref 1), some (.int x2), none], [.ref 1, .int x2], h)) rfl ?_
  refine gw_gf (hk _ _ rfl) (RL_fI hR rfl) ?_
  refine gw_br (c := (gsV s 1 1) ≤ x2) (a := (93, [some (.ref 3), some (.ref 1), some (.int x2), none], [], h)) (b := (20, [some (.ref 3), some (.ref 1), some (.int x2), none], [], h)) (hk _ _ rfl) rfl ⟨fun z2 => ?_, fun z2 => ?_⟩
  · replace w := w.1 z2
    exact gw_ret (hk _ _ rfl) rfl ⟨_, hR, w⟩
  · replace w := w.2 z2
    refine gw_pst hk 2 (st' := (22, [some (.ref 3), some (.ref 1), some (.int x2), none], [.int x2, .ref 1], h)) rfl ?_
    obtain ⟨fs3, e3⟩ := RL_o hR (r := 1) (ci := 7) rfl
    refine gw_call (jj := 61) (As := [.ref 1, .int x2]) (rest := []) (hk _ _ rfl) (fun _ => rfl) rfl rfl (Nat.le_of_ble_eq_true rfl) (gm_rcv_v rfl e3 rfl) ?_
    refine ge_imp (w h hR) (fun v3 h w => ?_)
    obtain ⟨s_3, hR, x_3, rfl, w⟩ := w
    show gw (gt_T c.1 c.2.1 c.2.2.1) c.2.2.2 d 24 (25, [some (.ref 3), some (.ref 1), some (.int x2), none], [.int x_3], h) _
    refine gw_pst hk 3 (st' := (29, [some (.ref 3), some (.ref 1), some (.int x2), some (.int x_3)], [.int 126, .int x_3], h)) rfl ?_
    refine gw_br (c := x_3 = 126) (a := (32, [some (.ref 3), some (.ref 1), some (.int x2), some (.int x_3)], [], h)) (b := (52, [some (.ref 3), some (.ref 1), some (.int x2), some (.int x_3)], [], h)) (hk _ _ rfl) rfl ⟨fun z4 => ?_, fun z4 => ?_⟩
    · replace w := w.1 z4
      refine gw_pst hk 2 (st' := (34, [some (.ref 3), some (.ref 1), some (.int x2), some (.int x_3)], [.ref 3, .ref 3], h)) rfl ?_
      refine gw_gf (hk _ _ rfl) (RL_fI hR rfl) ?_
      refine gw_pst hk 2 (st' := (39, [some (.ref 3), some (.ref 1), some (.int x2), some (.int x_3)], [.ref 3, .int 1, .int (gsV s_3 3 1), .ref 3], h)) rfl ?_
      refine gw_gf (hk _ _ rfl) (RL_fI hR rfl) ?_
      refine gw_pst hk 4 (st' := (46, [some (.ref 3), some (.ref 1), some (.int x2), some (.int x_3)], [.int ((gsV s_3 3 1) ||| (1 <<< (((gsV s_3 3 2) - 1) &&& 31))), .ref 3], h)) rfl ?_
      obtain ⟨fs7, e7⟩ := RL_o hR (r := 3) (ci := 1) rfl
      obtain ⟨l7, hR7⟩ := RL_pI (k := 1) (x := (gsV s_3 3 1) ||| (1 <<< (((gsV s_3 3 2) - 1) &&& 31))) hR rfl e7
      refine gw_pf (hk _ _ rfl) e7 l7 rfl ?_
      generalize gm_put h _ _ = h at hR7 ⊢
      obtain ⟨s_7, es7⟩ : ∃ z, z = gs_V s_3 3 1 ((gsV s_3 3 1) ||| (1 <<< (((gsV s_3 3 2) - 1) &&& 31))) := ⟨_, rfl⟩
      rw [← es7] at hR7
      replace w := w s_7 es7
      replace hR := hR7
      refine gw_pst hk 1 (st' := (87, [some (.ref 3), some (.ref 1), some (.int x2), some (.int x_3)], [], h)) rfl ?_
      refine gw_le (L' := [some (.ref 3), some (.ref 1), some (.int x2), none]) (gm_le_k _ (gm_le_k _ (gm_le_k _ (gm_le_n _ gm_le_nil)))) ?_
      exact ok24_87 c d Post K12 hK12 _ _ w _ hR
    · replace w := w.2 z4
      refine gw_pst hk 1 (st' := (53, [some (.ref 3), some (.ref 1), some (.int x2), some (.int x_3)], [.ref 3], h)) rfl ?_
      refine gw_gf (hk _ _ rfl) (RL_fI hR rfl) ?_
      refine gw_pst hk 1 (st' := (57, [some (.ref 3), some (.ref 1), some (.int x2), some (.int x_3)], [.ref 3, .int (gsV s_3 3 2)], h)) rfl ?_
      refine gw_gf (hk _ _ rfl) (RL_fR (n := 4) hR rfl) ?_
      refine gw_alen (hk _ _ rfl) (RL_a (t := 0) (n := 12) hR rfl (by decide)) (by decide) ?_
      refine gw_br (c := 12 ≤ (gsV s_3 3 2)) (a := (87, [some (.ref 3), some (.ref 1), some (.int x2), some (.int x_3)], [], h)) (b := (64, [some (.ref 3), some (.ref 1), some (.int x2), some (.int x_3)], [], h)) (hk _ _ rfl) rfl ⟨fun z11 => ?_, fun z11 => ?_⟩
      · replace w := w.1 z11
        refine gw_le (L' := [some (.ref 3), some (.ref 1), some (.int x2), none]) (gm_le_k _ (gm_le_k _ (gm_le_k _ (gm_le_n _ gm_le_nil)))) ?_
        exact ok24_87 c d Post K12 hK12 _ _ w _ hR
      · replace w := w.2 z11
        refine gw_pst hk 1 (st' := (65, [some (.ref 3), some (.ref 1), some (.int x2), some (.int x_3)], [.ref 3], h)) rfl ?_
        refine gw_gf (hk _ _ rfl) (RL_fR (n := 4) hR rfl) ?_
        refine gw_pst hk 1 (st' := (69, [some (.ref 3), some (.ref 1), some (.int x2), some (.int x_3)], [.ref 3, .ref 4], h)) rfl ?_
        refine gw_gf (hk _ _ rfl) (RL_fI hR rfl) ?_
        refine gw_pst hk 3 (st' := (76, [some (.ref 3), some (.ref 1), some (.int x2), some (.int x_3)], [.int (x_3 - 48), .int (gsV s_3 3 2), .ref 4], h)) rfl ?_
        obtain ⟨b14, w⟩ := w
        have hR14 := RL_pA (a := 4) (t := 0) (n := 12) (k := (gsV s_3 3 2 : Int32).toNatClampNeg) (x := (vp_nar .int (x_3 - 48))) hR rfl (by decide)
        refine gw_ast (hk _ _ rfl) (Or.inl ⟨rfl, rfl, rfl⟩) (RL_a (t := 0) (n := 12) hR rfl (by decide)) b14 ?_
        generalize gm_put h _ _ = h at hR14 ⊢
        obtain ⟨s_14, es14⟩ : ∃ z, z = gs_A s_3 4 (gsV s_3 3 2 : Int32).toNatClampNeg (vp_nar .int (x_3 - 48)) := ⟨_, rfl⟩
        rw [← es14] at hR14
        replace w := w s_14 es14
        replace hR := hR14
        refine gw_pst hk 2 (st' := (79, [some (.ref 3), some (.ref 1), some (.int x2), some (.int x_3)], [.ref 3, .ref 3], h)) rfl ?_
        refine gw_gf (hk _ _ rfl) (RL_fI hR rfl) ?_
        refine gw_pst hk 2 (st' := (84, [some (.ref 3), some (.ref 1), some (.int x2), some (.int x_3)], [.int ((gsV s_14 3 2) + 1), .ref 3], h)) rfl ?_
        obtain ⟨fs16, e16⟩ := RL_o hR (r := 3) (ci := 1) rfl
        obtain ⟨l16, hR16⟩ := RL_pI (k := 2) (x := (gsV s_14 3 2) + 1) hR rfl e16
        refine gw_pf (hk _ _ rfl) e16 l16 rfl ?_
        generalize gm_put h _ _ = h at hR16 ⊢
        obtain ⟨s_16, es16⟩ : ∃ z, z = gs_V s_14 3 2 ((gsV s_14 3 2) + 1) := ⟨_, rfl⟩
        rw [← es16] at hR16
        replace w := w s_16 es16
        replace hR := hR16
        refine gw_le (L' := [some (.ref 3), some (.ref 1), some (.int x2), none]) (gm_le_k _ (gm_le_k _ (gm_le_k _ (gm_le_n _ gm_le_nil)))) ?_
        exact ok24_87 c d Post K12 hK12 _ _ w _ hR
def wl24_12 (c : gx) (d : Nat) (Post : Option Value → gs → Prop) : Nat → Int32 → gs → Prop
  | 0 => fun _ _ => False
  | n + 1 => wb24_12 c d Post (wl24_12 c d Post n)
theorem okl24_12 (c : gx) (d : Nat) (Post : Option Value → gs → Prop) : ∀ (n : Nat) (x2 : Int32) (s : gs), wl24_12 c d Post n x2 s → tV c d 24 12 [some (.ref 3), some (.ref 1), some (.int x2), none] [] s Post
  | 0, _, _, w => w.elim
  | n + 1, x2, s, w => okb24_12 c d Post (wl24_12 c d Post n) (okl24_12 c d Post n) x2 s w
/-- CommandByTurns$Land.read(LCommandByTurns$Text;)V -/
def wm24 (c : gx) (d : Nat) (Post : Option Value → gs → Prop)  (s : gs) : Prop :=
  ∀ s_1 : gs, s_1 = gs_V s 3 2 0 → ∀ s_2 : gs, s_2 = gs_V s_1 3 1 0 → ∃ n, wl24_12 c d Post n 0 s_2
theorem okm24 (c : gx) (d : Nat) (Post : Option Value → gs → Prop)  (s : gs) (w : wm24 c d Post  s) : tE c (d + 1) 24 [.ref 3, .ref 1] s Post := by
  intro h hR
  have hk : ∀ pc i, gm_find gk_24 pc = some i → gm_code (gt_T c.1 c.2.1 c.2.2.1) 24 pc = some i := fun _ _ z => z
  unfold wm24 at w
  refine ge_of (by decide) (Nat.le_of_ble_eq_true rfl) ?_
  show gw (gt_T c.1 c.2.1 c.2.2.1) c.2.2.2 d 24 (0, [some (.ref 3), some (.ref 1), none, none], [], h) _
  refine gw_pst hk 2 (st' := (2, [some (.ref 3), some (.ref 1), none, none], [.int 0, .ref 3], h)) rfl ?_
  obtain ⟨fs1, e1⟩ := RL_o hR (r := 3) (ci := 1) rfl
  obtain ⟨l1, hR1⟩ := RL_pI (k := 2) (x := 0) hR rfl e1
  refine gw_pf (hk _ _ rfl) e1 l1 rfl ?_
  generalize gm_put h _ _ = h at hR1 ⊢
  obtain ⟨s_1, es1⟩ : ∃ z, z = gs_V s 3 2 0 := ⟨_, rfl⟩
  rw [← es1] at hR1
  replace w := w s_1 es1
  replace hR := hR1
  refine gw_pst hk 2 (st' := (7, [some (.ref 3), some (.ref 1), none, none], [.int 0, .ref 3], h)) rfl ?_
  obtain ⟨fs2, e2⟩ := RL_o hR (r := 3) (ci := 1) rfl
  obtain ⟨l2, hR2⟩ := RL_pI (k := 1) (x := 0) hR rfl e2
  refine gw_pf (hk _ _ rfl) e2 l2 rfl ?_
  generalize gm_put h _ _ = h at hR2 ⊢
  obtain ⟨s_2, es2⟩ : ∃ z, z = gs_V s_1 3 1 0 := ⟨_, rfl⟩
  rw [← es2] at hR2
  replace w := w s_2 es2
  replace hR := hR2
  refine gw_pst hk 2 (st' := (12, [some (.ref 3), some (.ref 1), some (.int 0), none], [], h)) rfl ?_
  obtain ⟨n, w⟩ := w
  exact okl24_12 c d Post n _ _ w _ hR
def w25_52 (c : gx) (d : Nat) (Post : Option Value → gs → Prop) (K6 : Int32 → Int32 → Int32 → Int32 → Int32 → Int32 → gs → Prop) (x1 : Int32) (x2 : Int32) (x3 : Int32) (x4 : Int32) (x5 : Int32) (x6 : Int32) (rs0 : Nat) (xs1 : Int32) (xs2 : Int32) (s : gs) : Prop :=
  ∃ n1, gs_isA rs0 0 n1 = true ∧ vp_in xs1 n1 ∧ ∀ s_1 : gs, s_1 = gs_A s rs0 (xs1 : Int32).toNatClampNeg (vp_nar .int xs2) → vp_in x6 12 ∧ K6 x1 x2 x3 x4 (x5 + (gsA s_1 4 (x6 : Int32).toNatClampNeg)) (x6 + 1) s_1
theorem ok25_52 (c : gx) (d : Nat) (Post : Option Value → gs → Prop) (K6 : Int32 → Int32 → Int32 → Int32 → Int32 → Int32 → gs → Prop)  (hK6 : ∀ (x1 : Int32) (x2 : Int32) (x3 : Int32) (x4 : Int32) (x5 : Int32) (x6 : Int32) (s : gs), K6 x1 x2 x3 x4 x5 x6 s → tV c d 25 6 [some (.ref 3), some (.int x1), some (.int x2), some (.int x3), some (.int x4), some (.int x5), some (.int x6)] [] s Post) (x1 : Int32) (x2 : Int32) (x3 : Int32) (x4 : Int32) (x5 : Int32) (x6 : Int32) (rs0 : Nat) (xs1 : Int32) (xs2 : Int32) (s : gs) (w : w25_52 c d Post K6 x1 x2 x3 x4 x5 x6 rs0 xs1 xs2 s) : tV c d 25 52 [some (.ref 3), some (.int x1), some (.int x2), some (.int x3), some (.int x4), some (.int x5), some (.int x6)] [.int xs2, .int xs1, .ref rs0] s Post := by
  intro h hR
  have hk : ∀ pc i, gm_find gk_25 pc = some i → gm_code (gt_T c.1 c.2.1 c.2.2.1) 25 pc = some i := fun _ _ z => z
  unfold w25_52 at w
  unfold gV
  obtain ⟨n1, a1, b1, w⟩ := w
  have hR1 := RL_pA (a := rs0) (t := 0) (n := n1) (k := (xs1 : Int32).toNatClampNeg) (x := (vp_nar .int xs2)) hR a1 (by decide)
  refine gw_ast (hk _ _ rfl) (Or.inl ⟨rfl, rfl, rfl⟩) (RL_a (t := 0) (n := n1) hR a1 (by decide)) b1 ?_
  generalize gm_put h _ _ = h at hR1 ⊢
  obtain ⟨s_1, es1⟩ : ∃ z, z = gs_A s rs0 (xs1 : Int32).toNatClampNeg (vp_nar .int xs2) := ⟨_, rfl⟩
  rw [← es1] at hR1
  replace w := w s_1 es1
  replace hR := hR1
  refine gw_pst hk 2 (st' := (56, [some (.ref 3), some (.int x1), some (.int x2), some (.int x3), some (.int x4), some (.int x5), some (.int x6)], [.ref 3, .int x5], h)) rfl ?_
  refine gw_gf (hk _ _ rfl) (RL_fR (n := 4) hR rfl) ?_
  refine gw_pst hk 1 (st' := (61, [some (.ref 3), some (.int x1), some (.int x2), some (.int x3), some (.int x4), some (.int x5), some (.int x6)], [.int x6, .ref 4, .int x5], h)) rfl ?_
  obtain ⟨b3, w⟩ := w
  refine gw_ald (hk _ _ rfl) (Or.inl ⟨rfl, rfl⟩) (RL_a (t := 0) (n := 12) hR rfl (by decide)) b3 ?_
  refine gw_pst hk 4 (st' := (6, [some (.ref 3), some (.int x1), some (.int x2), some (.int x3), some (.int x4), some (.int (x5 + (gsA s_1 4 (x6 : Int32).toNatClampNeg))), some (.int (x6 + 1))], [], h)) rfl ?_
  exact hK6 _ _ _ _ _ _ _ w _ hR
def w25_71 (c : gx) (d : Nat) (Post : Option Value → gs → Prop) (x5 : Int32) (s : gs) : Prop :=
  Post (some (.int x5)) s
theorem ok25_71 (c : gx) (d : Nat) (Post : Option Value → gs → Prop)  (x5 : Int32) (s : gs) (w : w25_71 c d Post x5 s) : tV c d 25 71 [none, none, none, none, none, some (.int x5), none] [] s Post := by
  intro h hR
  have hk : ∀ pc i, gm_find gk_25 pc = some i → gm_code (gt_T c.1 c.2.1 c.2.2.1) 25 pc = some i := fun _ _ z => z
  unfold w25_71 at w
  unfold gV
  refine gw_pst hk 1 (st' := (73, [none, none, none, none, none, some (.int x5), none], [.int x5], h)) rfl ?_
  exact gw_ret (hk _ _ rfl) rfl ⟨_, hR, w⟩
def wb25_6 (c : gx) (d : Nat) (Post : Option Value → gs → Prop) (K6 : Int32 → Int32 → Int32 → Int32 → Int32 → Int32 → gs → Prop) (x1 : Int32) (x2 : Int32) (x3 : Int32) (x4 : Int32) (x5 : Int32) (x6 : Int32) (s : gs) : Prop :=
  (((gsV s 3 2) ≤ x6 → w25_71 c d Post x5 s) ∧ (¬ ((gsV s 3 2) ≤ x6) → ((12 ≤ x6 → w25_71 c d Post x5 s) ∧ (¬ (12 ≤ x6) → ((x2 ≤ x6 → w25_52 c d Post K6 x1 x2 x3 x4 x5 x6 4 x6 0 s) ∧ (¬ (x2 ≤ x6) → tE c d 26 [.int x1, .int (x3 + (x6 * x4))] s (fun v8 s_8 => ∃ x_8 : Int32, v8 = some (.int x_8) ∧ w25_52 c d Post K6 x1 x2 x3 x4 x5 x6 4 x6 x_8 s_8)))))))
theorem okb25_6 (c : gx) (d : Nat) (Post : Option Value → gs → Prop) (K6 : Int32 → Int32 → Int32 → Int32 → Int32 → Int32 → gs → Prop)  (hK6 : ∀ (x1 : Int32) (x2 : Int32) (x3 : Int32) (x4 : Int32) (x5 : Int32) (x6 : Int32) (s : gs), K6 x1 x2 x3 x4 x5 x6 s → tV c d 25 6 [some (.ref 3), some (.int x1), some (.int x2), some (.int x3), some (.int x4), some (.int x5), some (.int x6)] [] s Post) (x1 : Int32) (x2 : Int32) (x3 : Int32) (x4 : Int32) (x5 : Int32) (x6 : Int32) (s : gs) (w : wb25_6 c d Post K6 x1 x2 x3 x4 x5 x6 s) : tV c d 25 6 [some (.ref 3), some (.int x1), some (.int x2), some (.int x3), some (.int x4), some (.int x5), some (.int x6)] [] s Post := by
  intro h hR
  have hk : ∀ pc i, gm_find gk_25 pc = some i → gm_code (gt_T c.1 c.2.1 c.2.2.1) 25 pc = some i := fun _ _ z => z
  unfold wb25_6 at w
  unfold gV
  refine gw_pst hk 2 (st' := (9, [some (.ref 3), some (.int x1), some (.int x2), some (.int x3), some (.int x4), some (.int x5), some (.int x6)], [.ref 3, .int x6], h)) rfl ?_
  refine gw_gf (hk _ _ rfl) (RL_fI hR rfl) ?_
  refine gw_br (c := (gsV s 3 2) ≤ x6) (a := (71, [some (.ref 3), some (.int x1), some (.int x2), some (.int x3), some (.int x4), some (.int x5), some (.int x6)], [], h)) (b := (15, [some (.ref 3), some (.int x1), some (.int x2), some (.int x3), some (.int x4), some (.int x5), some (.int x6)], [], h)) (hk _ _ rfl) rfl ⟨fun z2 => ?_, fun z2 => ?_⟩
  · replace w := w.1 z2
    refine gw_le (L' := [none, none, none, none, none, some (.int x5), none]) (gm_le_n _ (gm_le_n _ (gm_le_n _ (gm_le_n _ (gm_le_n _ (gm_le_k _ (gm_le_n _ gm_le_nil))))))) ?_
    exact ok25_71 c d Post _ _ w _ hR
  · replace w := w.2 z2
    refine gw_pst hk 2 (st' := (18, [some (.ref 3), some (.int x1), some (.int x2), some (.int x3), some (.int x4), some (.int x5), some (.int x6)], [.ref 3, .int x6], h)) rfl ?_
    refine gw_gf (hk _ _ rfl) (RL_fR (n := 4) hR rfl) ?_
    refine gw_alen (hk _ _ rfl) (RL_a (t := 0) (n := 12) hR rfl (by decide)) (by decide) ?_
    refine gw_br (c := 12 ≤ x6) (a := (71, [some (.ref 3), some (.int x1), some (.int x2), some (.int x3), some (.int x4), some (.int x5), some (.int x6)], [], h)) (b := (25, [some (.ref 3), some (.int x1), some (.int x2), some (.int x3), some (.int x4), some (.int x5), some (.int x6)], [], h)) (hk _ _ rfl) rfl ⟨fun z5 => ?_, fun z5 => ?_⟩
    · replace w := w.1 z5
      refine gw_le (L' := [none, none, none, none, none, some (.int x5), none]) (gm_le_n _ (gm_le_n _ (gm_le_n _ (gm_le_n _ (gm_le_n _ (gm_le_k _ (gm_le_n _ gm_le_nil))))))) ?_
      exact ok25_71 c d Post _ _ w _ hR
    · replace w := w.2 z5
      refine gw_pst hk 1 (st' := (26, [some (.ref 3), some (.int x1), some (.int x2), some (.int x3), some (.int x4), some (.int x5), some (.int x6)], [.ref 3], h)) rfl ?_
      refine gw_gf (hk _ _ rfl) (RL_fR (n := 4) hR rfl) ?_
      refine gw_pst hk 3 (st' := (34, [some (.ref 3), some (.int x1), some (.int x2), some (.int x3), some (.int x4), some (.int x5), some (.int x6)], [.int x2, .int x6, .int x6, .ref 4], h)) rfl ?_
      refine gw_br (c := x2 ≤ x6) (a := (51, [some (.ref 3), some (.int x1), some (.int x2), some (.int x3), some (.int x4), some (.int x5), some (.int x6)], [.int x6, .ref 4], h)) (b := (37, [some (.ref 3), some (.int x1), some (.int x2), some (.int x3), some (.int x4), some (.int x5), some (.int x6)], [.int x6, .ref 4], h)) (hk _ _ rfl) rfl ⟨fun z7 => ?_, fun z7 => ?_⟩
      · replace w := w.1 z7
        refine gw_pst hk 1 (st' := (52, [some (.ref 3), some (.int x1), some (.int x2), some (.int x3), some (.int x4), some (.int x5), some (.int x6)], [.int 0, .int x6, .ref 4], h)) rfl ?_
        exact ok25_52 c d Post K6 hK6 _ _ _ _ _ _ _ _ _ _ w _ hR
      · replace w := w.2 z7
        refine gw_pst hk 6 (st' := (45, [some (.ref 3), some (.int x1), some (.int x2), some (.int x3), some (.int x4), some (.int x5), some (.int x6)], [.int (x3 + (x6 * x4)), .int x1, .int x6, .ref 4], h)) rfl ?_
        refine gw_call (jj := 26) (As := [.int x1, .int (x3 + (x6 * x4))]) (rest := [.int x6, .ref 4]) (hk _ _ rfl) (fun _ => rfl) rfl rfl (Nat.le_of_ble_eq_true rfl) rfl ?_
        refine ge_imp (w h hR) (fun v8 h w => ?_)
        obtain ⟨s_8, hR, x_8, rfl, w⟩ := w
        show gw (gt_T c.1 c.2.1 c.2.2.1) c.2.2.2 d 25 (48, [some (.ref 3), some (.int x1), some (.int x2), some (.int x3), some (.int x4), some (.int x5), some (.int x6)], [.int x_8, .int x6, .ref 4], h) _
        refine gw_pst hk 1 (st' := (52, [some (.ref 3), some (.int x1), some (.int x2), some (.int x3), some (.int x4), some (.int x5), some (.int x6)], [.int x_8, .int x6, .ref 4], h)) rfl ?_
        exact ok25_52 c d Post K6 hK6 _ _ _ _ _ _ _ _ _ _ w _ hR
def wl25_6 (c : gx) (d : Nat) (Post : Option Value → gs → Prop) : Nat → Int32 → Int32 → Int32 → Int32 → Int32 → Int32 → gs → Prop
  | 0 => fun _ _ _ _ _ _ _ => False
  | n + 1 => wb25_6 c d Post (wl25_6 c d Post n)
theorem okl25_6 (c : gx) (d : Nat) (Post : Option Value → gs → Prop) : ∀ (n : Nat) (x1 : Int32) (x2 : Int32) (x3 : Int32) (x4 : Int32) (x5 : Int32) (x6 : Int32) (s : gs), wl25_6 c d Post n x1 x2 x3 x4 x5 x6 s → tV c d 25 6 [some (.ref 3), some (.int x1), some (.int x2), some (.int x3), some (.int x4), some (.int x5), some (.int x6)] [] s Post
  | 0, _, _, _, _, _, _, _, w => w.elim
  | n + 1, x1, x2, x3, x4, x5, x6, s, w => okb25_6 c d Post (wl25_6 c d Post n) (okl25_6 c d Post n) x1 x2 x3 x4 x5 x6 s w
/-- CommandByTurns$Land.raise(IIII)I -/
def wm25 (c : gx) (d : Nat) (Post : Option Value → gs → Prop) (x1 : Int32) (x2 : Int32) (x3 : Int32) (x4 : Int32) (s : gs) : Prop :=
  ∃ n, wl25_6 c d Post n x1 x2 x3 x4 0 0 s
theorem okm25 (c : gx) (d : Nat) (Post : Option Value → gs → Prop) (x1 : Int32) (x2 : Int32) (x3 : Int32) (x4 : Int32) (s : gs) (w : wm25 c d Post x1 x2 x3 x4 s) : tE c (d + 1) 25 [.ref 3, .int x1, .int x2, .int x3, .int x4] s Post := by
  intro h hR
  have hk : ∀ pc i, gm_find gk_25 pc = some i → gm_code (gt_T c.1 c.2.1 c.2.2.1) 25 pc = some i := fun _ _ z => z
  unfold wm25 at w
  refine ge_of (by decide) (Nat.le_of_ble_eq_true rfl) ?_
  show gw (gt_T c.1 c.2.1 c.2.2.1) c.2.2.2 d 25 (0, [some (.ref 3), some (.int x1), some (.int x2), some (.int x3), some (.int x4), none, none], [], h) _
  refine gw_pst hk 4 (st' := (6, [some (.ref 3), some (.int x1), some (.int x2), some (.int x3), some (.int x4), some (.int 0), some (.int 0)], [], h)) rfl ?_
  obtain ⟨n, w⟩ := w
  exact okl25_6 c d Post n _ _ _ _ _ _ _ w _ hR
def w26_20 (c : gx) (d : Nat) (Post : Option Value → gs → Prop) (x2 : Int32) (s : gs) : Prop :=
  Post (some (.int (if 0 < (if x2 < 9 then x2 else 9) then (if x2 < 9 then x2 else 9) else 0))) s
theorem ok26_20 (c : gx) (d : Nat) (Post : Option Value → gs → Prop)  (x2 : Int32) (s : gs) (w : w26_20 c d Post x2 s) : tV c d 26 20 [none, none, some (.int x2)] [] s Post := by
  intro h hR
  have hk : ∀ pc i, gm_find gk_26 pc = some i → gm_code (gt_T c.1 c.2.1 c.2.2.1) 26 pc = some i := fun _ _ z => z
  unfold w26_20 at w
  unfold gV
  refine gw_pst hk 5 (st' := (30, [none, none, some (.int x2)], [.int (if 0 < (if x2 < 9 then x2 else 9) then (if x2 < 9 then x2 else 9) else 0)], h)) rfl ?_
  exact gw_ret (hk _ _ rfl) rfl ⟨_, hR, w⟩
/-- CommandByTurns$Land.asHeight(II)I -/
def wm26 (c : gx) (d : Nat) (Post : Option Value → gs → Prop) (x0 : Int32) (x1 : Int32) (s : gs) : Prop :=
  ((x0 = 0 → w26_20 c d Post ((x1).toInt8.toInt32) s) ∧ (¬ (x0 = 0) → ((x0 = 1 → w26_20 c d Post ((x1).toInt16.toInt32) s) ∧ (¬ (x0 = 1) → w26_20 c d Post x1 s))))
theorem okm26 (c : gx) (d : Nat) (Post : Option Value → gs → Prop) (x0 : Int32) (x1 : Int32) (s : gs) (w : wm26 c d Post x0 x1 s) : tE c (d + 1) 26 [.int x0, .int x1] s Post := by
  intro h hR
  have hk : ∀ pc i, gm_find gk_26 pc = some i → gm_code (gt_T c.1 c.2.1 c.2.2.1) 26 pc = some i := fun _ _ z => z
  unfold wm26 at w
  refine ge_of (by decide) (Nat.le_of_ble_eq_true rfl) ?_
  show gw (gt_T c.1 c.2.1 c.2.2.1) c.2.2.2 d 26 (0, [some (.int x0), some (.int x1), none], [], h) _
  refine gw_pst hk 3 (st' := (3, [some (.int x0), some (.int x1), some (.int x1)], [.int x0], h)) rfl ?_
  refine gw_br (c := x0 = 0) (a := (6, [some (.int x0), some (.int x1), some (.int x1)], [], h)) (b := (12, [some (.int x0), some (.int x1), some (.int x1)], [], h)) (hk _ _ rfl) rfl ⟨fun z1 => ?_, fun z1 => ?_⟩
  · replace w := w.1 z1
    refine gw_pst hk 4 (st' := (20, [some (.int x0), some (.int x1), some (.int ((x1).toInt8.toInt32))], [], h)) rfl ?_
    refine gw_le (L' := [none, none, some (.int ((x1).toInt8.toInt32))]) (gm_le_n _ (gm_le_n _ (gm_le_k _ gm_le_nil))) ?_
    exact ok26_20 c d Post _ _ w _ hR
  · replace w := w.2 z1
    refine gw_pst hk 2 (st' := (14, [some (.int x0), some (.int x1), some (.int x1)], [.int 1, .int x0], h)) rfl ?_
    refine gw_br (c := x0 = 1) (a := (17, [some (.int x0), some (.int x1), some (.int x1)], [], h)) (b := (20, [some (.int x0), some (.int x1), some (.int x1)], [], h)) (hk _ _ rfl) rfl ⟨fun z2 => ?_, fun z2 => ?_⟩
    · replace w := w.1 z2
      refine gw_pst hk 3 (st' := (20, [some (.int x0), some (.int x1), some (.int ((x1).toInt16.toInt32))], [], h)) rfl ?_
      refine gw_le (L' := [none, none, some (.int ((x1).toInt16.toInt32))]) (gm_le_n _ (gm_le_n _ (gm_le_k _ gm_le_nil))) ?_
      exact ok26_20 c d Post _ _ w _ hR
    · replace w := w.2 z2
      refine gw_le (L' := [none, none, some (.int x1)]) (gm_le_n _ (gm_le_n _ (gm_le_k _ gm_le_nil))) ?_
      exact ok26_20 c d Post _ _ w _ hR
