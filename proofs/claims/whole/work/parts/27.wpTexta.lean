/-! What must hold for a run to end with Post: by program (wip/whole/gen_wp.py). -/
def w60_17 (c : gx) (d : Nat) (Post : Option Value → gs → Prop) (xs0 : Int32) (s : gs) : Prop :=
  ((xs0 = 0 ∨ xs0 = 1) ∧ Post (some (.int xs0)) s)
theorem ok60_17 (c : gx) (d : Nat) (Post : Option Value → gs → Prop)  (xs0 : Int32) (s : gs) (w : w60_17 c d Post xs0 s) : tV c d 60 17 [none] [.int xs0] s Post := by
  intro h hR
  have hk : ∀ pc i, gm_find gk_60 pc = some i → gm_code (gt_T c.1 c.2.1 c.2.2.1) 60 pc = some i := fun _ _ z => z
  unfold w60_17 at w
  unfold gV
  exact gw_retZ (hk _ _ rfl) rfl w.1 ⟨_, hR, w.2⟩
def w60_16 (c : gx) (d : Nat) (Post : Option Value → gs → Prop)  (s : gs) : Prop :=
  w60_17 c d Post 0 s
theorem ok60_16 (c : gx) (d : Nat) (Post : Option Value → gs → Prop)   (s : gs) (w : w60_16 c d Post  s) : tV c d 60 16 [none] [] s Post := by
  intro h hR
  have hk : ∀ pc i, gm_find gk_60 pc = some i → gm_code (gt_T c.1 c.2.1 c.2.2.1) 60 pc = some i := fun _ _ z => z
  unfold w60_16 at w
  unfold gV
  refine gw_pst hk 1 (st' := (17, [none], [.int 0], h)) rfl ?_
  exact ok60_17 c d Post _ _ w _ hR
/-- CommandByTurns$Text.isDigit(C)Z -/
def wm60 (c : gx) (d : Nat) (Post : Option Value → gs → Prop) (x0 : Int32) (s : gs) : Prop :=
  ((x0 < 48 → w60_16 c d Post s) ∧ (¬ (x0 < 48) → ((57 < x0 → w60_16 c d Post s) ∧ (¬ (57 < x0) → w60_17 c d Post 1 s))))
theorem okm60 (c : gx) (d : Nat) (Post : Option Value → gs → Prop) (x0 : Int32) (s : gs) (w : wm60 c d Post x0 s) : tE c (d + 1) 60 [.int x0] s Post := by
  intro h hR
  have hk : ∀ pc i, gm_find gk_60 pc = some i → gm_code (gt_T c.1 c.2.1 c.2.2.1) 60 pc = some i := fun _ _ z => z
  unfold wm60 at w
  refine ge_of (by decide) (Nat.le_of_ble_eq_true rfl) ?_
  show gw (gt_T c.1 c.2.1 c.2.2.1) c.2.2.2 d 60 (0, [some (.int x0)], [], h) _
  refine gw_pst hk 2 (st' := (3, [some (.int x0)], [.int 48, .int x0], h)) rfl ?_
  refine gw_br (c := x0 < 48) (a := (16, [some (.int x0)], [], h)) (b := (6, [some (.int x0)], [], h)) (hk _ _ rfl) rfl ⟨fun z1 => ?_, fun z1 => ?_⟩
  · replace w := w.1 z1
    refine gw_le (L' := [none]) (gm_le_n _ gm_le_nil) ?_
    exact ok60_16 c d Post _ w _ hR
  · replace w := w.2 z1
    refine gw_pst hk 2 (st' := (9, [some (.int x0)], [.int 57, .int x0], h)) rfl ?_
    refine gw_br (c := 57 < x0) (a := (16, [some (.int x0)], [], h)) (b := (12, [some (.int x0)], [], h)) (hk _ _ rfl) rfl ⟨fun z2 => ?_, fun z2 => ?_⟩
    · replace w := w.1 z2
      refine gw_le (L' := [none]) (gm_le_n _ gm_le_nil) ?_
      exact ok60_16 c d Post _ w _ hR
    · replace w := w.2 z2
      refine gw_pst hk 2 (st' := (17, [some (.int x0)], [.int 1], h)) rfl ?_
      refine gw_le (L' := [none]) (gm_le_n _ gm_le_nil) ?_
      exact ok60_17 c d Post _ _ w _ hR
def w61_31 (c : gx) (d : Nat) (Post : Option Value → gs → Prop) (xs0 : Int32) (s : gs) : Prop :=
  (vp_nar .char xs0 = xs0 ∧ Post (some (.int xs0)) s)
theorem ok61_31 (c : gx) (d : Nat) (Post : Option Value → gs → Prop)  (xs0 : Int32) (s : gs) (w : w61_31 c d Post xs0 s) : tV c d 61 31 [none, none] [.int xs0] s Post := by
  intro h hR
  have hk : ∀ pc i, gm_find gk_61 pc = some i → gm_code (gt_T c.1 c.2.1 c.2.2.1) 61 pc = some i := fun _ _ z => z
  unfold w61_31 at w
  unfold gV
  exact gw_retC (hk _ _ rfl) rfl w.1 ⟨_, hR, w.2⟩
def w61_30 (c : gx) (d : Nat) (Post : Option Value → gs → Prop)  (s : gs) : Prop :=
  w61_31 c d Post 0 s
theorem ok61_30 (c : gx) (d : Nat) (Post : Option Value → gs → Prop)   (s : gs) (w : w61_30 c d Post  s) : tV c d 61 30 [none, none] [] s Post := by
  intro h hR
  have hk : ∀ pc i, gm_find gk_61 pc = some i → gm_code (gt_T c.1 c.2.1 c.2.2.1) 61 pc = some i := fun _ _ z => z
  unfold w61_30 at w
  unfold gV
  refine gw_pst hk 1 (st' := (31, [none, none], [.int 0], h)) rfl ?_
  exact ok61_31 c d Post _ _ w _ hR
/-- CommandByTurns$Text.at(I)C -/
def wm61 (c : gx) (d : Nat) (Post : Option Value → gs → Prop) (x1 : Int32) (s : gs) : Prop :=
  ((x1 < 0 → w61_30 c d Post s) ∧ (¬ (x1 < 0) → (((gsV s 1 1) ≤ x1 → w61_30 c d Post s) ∧ (¬ ((gsV s 1 1) ≤ x1) → ((80 ≤ x1 → w61_30 c d Post s) ∧ (¬ (80 ≤ x1) → vp_in x1 80 ∧ w61_31 c d Post (gsA s 2 (x1 : Int32).toNatClampNeg) s))))))
theorem okm61 (c : gx) (d : Nat) (Post : Option Value → gs → Prop) (x1 : Int32) (s : gs) (w : wm61 c d Post x1 s) : tE c (d + 1) 61 [.ref 1, .int x1] s Post := by
  intro h hR
  have hk : ∀ pc i, gm_find gk_61 pc = some i → gm_code (gt_T c.1 c.2.1 c.2.2.1) 61 pc = some i := fun _ _ z => z
  unfold wm61 at w
  refine ge_of (by decide) (Nat.le_of_ble_eq_true rfl) ?_
  show gw (gt_T c.1 c.2.1 c.2.2.1) c.2.2.2 d 61 (0, [some (.ref 1), some (.int x1)], [], h) _
  refine gw_pst hk 1 (st' := (1, [some (.ref 1), some (.int x1)], [.int x1], h)) rfl ?_
  refine gw_br (c := x1 < 0) (a := (30, [some (.ref 1), some (.int x1)], [], h)) (b := (4, [some (.ref 1), some (.int x1)], [], h)) (hk _ _ rfl) rfl ⟨fun z1 => ?_, fun z1 => ?_⟩
  · replace w := w.1 z1
    refine gw_le (L' := [none, none]) (gm_le_n _ (gm_le_n _ gm_le_nil)) ?_
    exact ok61_30 c d Post _ w _ hR
  · replace w := w.2 z1
    refine gw_pst hk 2 (st' := (6, [some (.ref 1), some (.int x1)], [.ref 1, .int x1], h)) rfl ?_
    refine gw_gf (hk _ _ rfl) (RL_fI hR rfl) ?_
    refine gw_br (c := (gsV s 1 1) ≤ x1) (a := (30, [some (.ref 1), some (.int x1)], [], h)) (b := (12, [some (.ref 1), some (.int x1)], [], h)) (hk _ _ rfl) rfl ⟨fun z3 => ?_, fun z3 => ?_⟩
    · replace w := w.1 z3
      refine gw_le (L' := [none, none]) (gm_le_n _ (gm_le_n _ gm_le_nil)) ?_
      exact ok61_30 c d Post _ w _ hR
    · replace w := w.2 z3
      refine gw_pst hk 2 (st' := (14, [some (.ref 1), some (.int x1)], [.ref 1, .int x1], h)) rfl ?_
      refine gw_gf (hk _ _ rfl) (RL_fR (n := 2) hR rfl) ?_
      refine gw_alen (hk _ _ rfl) (RL_a (t := 1) (n := 80) hR rfl (by decide)) (by decide) ?_
      refine gw_br (c := 80 ≤ x1) (a := (30, [some (.ref 1), some (.int x1)], [], h)) (b := (21, [some (.ref 1), some (.int x1)], [], h)) (hk _ _ rfl) rfl ⟨fun z6 => ?_, fun z6 => ?_⟩
      · replace w := w.1 z6
        refine gw_le (L' := [none, none]) (gm_le_n _ (gm_le_n _ gm_le_nil)) ?_
        exact ok61_30 c d Post _ w _ hR
      · replace w := w.2 z6
        refine gw_pst hk 1 (st' := (22, [some (.ref 1), some (.int x1)], [.ref 1], h)) rfl ?_
        refine gw_gf (hk _ _ rfl) (RL_fR (n := 2) hR rfl) ?_
        refine gw_pst hk 1 (st' := (26, [some (.ref 1), some (.int x1)], [.int x1, .ref 2], h)) rfl ?_
        obtain ⟨b8, w⟩ := w
        refine gw_ald (hk _ _ rfl) (Or.inr (Or.inl ⟨rfl, rfl⟩)) (RL_a (t := 1) (n := 80) hR rfl (by decide)) b8 ?_
        refine gw_pst hk 1 (st' := (31, [some (.ref 1), some (.int x1)], [.int (gsA s 2 (x1 : Int32).toNatClampNeg)], h)) rfl ?_
        refine gw_le (L' := [none, none]) (gm_le_n _ (gm_le_n _ gm_le_nil)) ?_
        exact ok61_31 c d Post _ _ w _ hR
def wb62_19 (c : gx) (d : Nat) (Post : Option Value → gs → Prop) (K19 : Int32 → Int32 → gs → Prop) (x1 : Int32) (x2 : Int32) (s : gs) : Prop :=
  ((x2 < 0 → Post (some (.int 1)) s) ∧ (¬ (x2 < 0) → tE c d 63 [.ref 1, .int ((((((x1).toUInt32 >>> ((x2 : Int32).toUInt32 &&& Int32.toUInt32 31)).toInt32) &&& 255).toUInt32 % 65536).toInt32)] s (fun v2 s_2 => v2 = none ∧ K19 x1 (x2 + (-8)) s_2)))
theorem okb62_19 (c : gx) (d : Nat) (Post : Option Value → gs → Prop) (K19 : Int32 → Int32 → gs → Prop)  (hK19 : ∀ (x1 : Int32) (x2 : Int32) (s : gs), K19 x1 x2 s → tV c d 62 19 [some (.ref 1), some (.int x1), some (.int x2)] [] s Post) (x1 : Int32) (x2 : Int32) (s : gs) (w : wb62_19 c d Post K19 x1 x2 s) : tV c d 62 19 [some (.ref 1), some (.int x1), some (.int x2)] [] s Post := by
  intro h hR
  have hk : ∀ pc i, gm_find gk_62 pc = some i → gm_code (gt_T c.1 c.2.1 c.2.2.1) 62 pc = some i := fun _ _ z => z
  unfold wb62_19 at w
  unfold gV
  refine gw_pst hk 1 (st' := (20, [some (.ref 1), some (.int x1), some (.int x2)], [.int x2], h)) rfl ?_
  refine gw_br (c := x2 < 0) (a := (41, [some (.ref 1), some (.int x1), some (.int x2)], [], h)) (b := (23, [some (.ref 1), some (.int x1), some (.int x2)], [], h)) (hk _ _ rfl) rfl ⟨fun z1 => ?_, fun z1 => ?_⟩
  · replace w := w.1 z1
    refine gw_pst hk 1 (st' := (42, [some (.ref 1), some (.int x1), some (.int x2)], [.int 1], h)) rfl ?_
    exact gw_ret (hk _ _ rfl) rfl ⟨_, hR, w⟩
  · replace w := w.2 z1
    refine gw_pst hk 7 (st' := (32, [some (.ref 1), some (.int x1), some (.int x2)], [.int ((((((x1).toUInt32 >>> ((x2 : Int32).toUInt32 &&& Int32.toUInt32 31)).toInt32) &&& 255).toUInt32 % 65536).toInt32), .ref 1], h)) rfl ?_
    obtain ⟨fs2, e2⟩ := RL_o hR (r := 1) (ci := 7) rfl
    refine gw_call (jj := 63) (As := [.ref 1, .int ((((((x1).toUInt32 >>> ((x2 : Int32).toUInt32 &&& Int32.toUInt32 31)).toInt32) &&& 255).toUInt32 % 65536).toInt32)]) (rest := []) (hk _ _ rfl) (fun _ => rfl) rfl rfl (Nat.le_of_ble_eq_true rfl) (gm_rcv_v rfl e2 rfl) ?_
    refine ge_imp (w h hR) (fun v2 h w => ?_)
    obtain ⟨s_2, hR, rfl, w⟩ := w
    show gw (gt_T c.1 c.2.1 c.2.2.1) c.2.2.2 d 62 (35, [some (.ref 1), some (.int x1), some (.int x2)], [], h) _
    refine gw_pst hk 2 (st' := (19, [some (.ref 1), some (.int x1), some (.int (x2 + (-8)))], [], h)) rfl ?_
    exact hK19 _ _ _ w _ hR
def wl62_19 (c : gx) (d : Nat) (Post : Option Value → gs → Prop) : Nat → Int32 → Int32 → gs → Prop
  | 0 => fun _ _ _ => False
  | n + 1 => wb62_19 c d Post (wl62_19 c d Post n)
theorem okl62_19 (c : gx) (d : Nat) (Post : Option Value → gs → Prop) : ∀ (n : Nat) (x1 : Int32) (x2 : Int32) (s : gs), wl62_19 c d Post n x1 x2 s → tV c d 62 19 [some (.ref 1), some (.int x1), some (.int x2)] [] s Post
  | 0, _, _, _, w => w.elim
  | n + 1, x1, x2, s, w => okb62_19 c d Post (wl62_19 c d Post n) (okl62_19 c d Post n) x1 x2 s w
/-- CommandByTurns$Text.addFour(I)Z -/
def wm62 (c : gx) (d : Nat) (Post : Option Value → gs → Prop) (x1 : Int32) (s : gs) : Prop :=
  ((((gsV s 1 1) + 4) ≤ 80 → ∃ n, wl62_19 c d Post n x1 24 s) ∧ (¬ (((gsV s 1 1) + 4) ≤ 80) → Post (some (.int 0)) s))
theorem okm62 (c : gx) (d : Nat) (Post : Option Value → gs → Prop) (x1 : Int32) (s : gs) (w : wm62 c d Post x1 s) : tE c (d + 1) 62 [.ref 1, .int x1] s Post := by
  intro h hR
  have hk : ∀ pc i, gm_find gk_62 pc = some i → gm_code (gt_T c.1 c.2.1 c.2.2.1) 62 pc = some i := fun _ _ z => z
  unfold wm62 at w
  refine ge_of (by decide) (Nat.le_of_ble_eq_true rfl) ?_
  show gw (gt_T c.1 c.2.1 c.2.2.1) c.2.2.2 d 62 (0, [some (.ref 1), some (.int x1), none], [], h) _
  refine gw_pst hk 1 (st' := (1, [some (.ref 1), some (.int x1), none], [.ref 1], h)) rfl ?_
  refine gw_gf (hk _ _ rfl) (RL_fI hR rfl) ?_
  refine gw_pst hk 3 (st' := (7, [some (.ref 1), some (.int x1), none], [.ref 1, .int ((gsV s 1 1) + 4)], h)) rfl ?_
  refine gw_gf (hk _ _ rfl) (RL_fR (n := 2) hR rfl) ?_
  refine gw_alen (hk _ _ rfl) (RL_a (t := 1) (n := 80) hR rfl (by decide)) (by decide) ?_
  refine gw_br (c := ((gsV s 1 1) + 4) ≤ 80) (a := (16, [some (.ref 1), some (.int x1), none], [], h)) (b := (14, [some (.ref 1), some (.int x1), none], [], h)) (hk _ _ rfl) rfl ⟨fun z4 => ?_, fun z4 => ?_⟩
  · replace w := w.1 z4
    refine gw_pst hk 2 (st' := (19, [some (.ref 1), some (.int x1), some (.int 24)], [], h)) rfl ?_
    obtain ⟨n, w⟩ := w
    exact okl62_19 c d Post n _ _ _ w _ hR
  · replace w := w.2 z4
    refine gw_pst hk 1 (st' := (15, [some (.ref 1), some (.int x1), none], [.int 0], h)) rfl ?_
    exact gw_ret (hk _ _ rfl) rfl ⟨_, hR, w⟩
def w63_39 (c : gx) (d : Nat) (Post : Option Value → gs → Prop)  (s : gs) : Prop :=
  Post none s
theorem ok63_39 (c : gx) (d : Nat) (Post : Option Value → gs → Prop)   (s : gs) (w : w63_39 c d Post  s) : tV c d 63 39 [none, none] [] s Post := by
  intro h hR
  have hk : ∀ pc i, gm_find gk_63 pc = some i → gm_code (gt_T c.1 c.2.1 c.2.2.1) 63 pc = some i := fun _ _ z => z
  unfold w63_39 at w
  unfold gV
  exact gw_ret (hk _ _ rfl) rfl ⟨_, hR, w⟩
/-- CommandByTurns$Text.add(C)V -/
def wm63 (c : gx) (d : Nat) (Post : Option Value → gs → Prop) (x1 : Int32) (s : gs) : Prop :=
  (((gsV s 1 1) < 0 → w63_39 c d Post s) ∧ (¬ ((gsV s 1 1) < 0) → ((80 ≤ (gsV s 1 1) → w63_39 c d Post s) ∧ (¬ (80 ≤ (gsV s 1 1)) → vp_in (gsV s 1 1) 80 ∧ ∀ s_9 : gs, s_9 = gs_A s 2 (gsV s 1 1 : Int32).toNatClampNeg (vp_nar .char x1) → ∀ s_11 : gs, s_11 = gs_V s_9 1 1 ((gsV s_9 1 1) + 1) → w63_39 c d Post s_11))))
theorem okm63 (c : gx) (d : Nat) (Post : Option Value → gs → Prop) (x1 : Int32) (s : gs) (w : wm63 c d Post x1 s) : tE c (d + 1) 63 [.ref 1, .int x1] s Post := by
  intro h hR
  have hk : ∀ pc i, gm_find gk_63 pc = some i → gm_code (gt_T c.1 c.2.1 c.2.2.1) 63 pc = some i := fun _ _ z => z
  unfold wm63 at w
  refine ge_of (by decide) (Nat.le_of_ble_eq_true rfl) ?_
  show gw (gt_T c.1 c.2.1 c.2.2.1) c.2.2.2 d 63 (0, [some (.ref 1), some (.int x1)], [], h) _
  refine gw_pst hk 1 (st' := (1, [some (.ref 1), some (.int x1)], [.ref 1], h)) rfl ?_
  refine gw_gf (hk _ _ rfl) (RL_fI hR rfl) ?_
  refine gw_br (c := (gsV s 1 1) < 0) (a := (39, [some (.ref 1), some (.int x1)], [], h)) (b := (7, [some (.ref 1), some (.int x1)], [], h)) (hk _ _ rfl) rfl ⟨fun z2 => ?_, fun z2 => ?_⟩
  · replace w := w.1 z2
    refine gw_le (L' := [none, none]) (gm_le_n _ (gm_le_n _ gm_le_nil)) ?_
    exact ok63_39 c d Post _ w _ hR
  · replace w := w.2 z2
    refine gw_pst hk 1 (st' := (8, [some (.ref 1), some (.int x1)], [.ref 1], h)) rfl ?_
    refine gw_gf (hk _ _ rfl) (RL_fI hR rfl) ?_
    refine gw_pst hk 1 (st' := (12, [some (.ref 1), some (.int x1)], [.ref 1, .int (gsV s 1 1)], h)) rfl ?_
    refine gw_gf (hk _ _ rfl) (RL_fR (n := 2) hR rfl) ?_
    refine gw_alen (hk _ _ rfl) (RL_a (t := 1) (n := 80) hR rfl (by decide)) (by decide) ?_
    refine gw_br (c := 80 ≤ (gsV s 1 1)) (a := (39, [some (.ref 1), some (.int x1)], [], h)) (b := (19, [some (.ref 1), some (.int x1)], [], h)) (hk _ _ rfl) rfl ⟨fun z6 => ?_, fun z6 => ?_⟩
    · replace w := w.1 z6
      refine gw_le (L' := [none, none]) (gm_le_n _ (gm_le_n _ gm_le_nil)) ?_
      exact ok63_39 c d Post _ w _ hR
    · replace w := w.2 z6
      refine gw_pst hk 1 (st' := (20, [some (.ref 1), some (.int x1)], [.ref 1], h)) rfl ?_
      refine gw_gf (hk _ _ rfl) (RL_fR (n := 2) hR rfl) ?_
      refine gw_pst hk 1 (st' := (24, [some (.ref 1), some (.int x1)], [.ref 1, .ref 2], h)) rfl ?_
      refine gw_gf (hk _ _ rfl) (RL_fI hR rfl) ?_
      refine gw_pst hk 1 (st' := (28, [some (.ref 1), some (.int x1)], [.int x1, .int (gsV s 1 1), .ref 2], h)) rfl ?_
      obtain ⟨b9, w⟩ := w
      have hR9 := RL_pA (a := 2) (t := 1) (n := 80) (k := (gsV s 1 1 : Int32).toNatClampNeg) (x := (vp_nar .char x1)) hR rfl (by decide)
      refine gw_ast (hk _ _ rfl) (Or.inr (Or.inl ⟨rfl, rfl, rfl⟩)) (RL_a (t := 1) (n := 80) hR rfl (by decide)) b9 ?_
      generalize gm_put h _ _ = h at hR9 ⊢
      obtain ⟨s_9, es9⟩ : ∃ z, z = gs_A s 2 (gsV s 1 1 : Int32).toNatClampNeg (vp_nar .char x1) := ⟨_, rfl⟩
      rw [← es9] at hR9
      replace w := w s_9 es9
      replace hR := hR9
      refine gw_pst hk 2 (st' := (31, [some (.ref 1), some (.int x1)], [.ref 1, .ref 1], h)) rfl ?_
      refine gw_gf (hk _ _ rfl) (RL_fI hR rfl) ?_
      refine gw_pst hk 2 (st' := (36, [some (.ref 1), some (.int x1)], [.int ((gsV s_9 1 1) + 1), .ref 1], h)) rfl ?_
      obtain ⟨fs11, e11⟩ := RL_o hR (r := 1) (ci := 7) rfl
      obtain ⟨l11, hR11⟩ := RL_pI (k := 1) (x := (gsV s_9 1 1) + 1) hR rfl e11
      refine gw_pf (hk _ _ rfl) e11 l11 rfl ?_
      generalize gm_put h _ _ = h at hR11 ⊢
      obtain ⟨s_11, es11⟩ : ∃ z, z = gs_V s_9 1 1 ((gsV s_9 1 1) + 1) := ⟨_, rfl⟩
      rw [← es11] at hR11
      replace w := w s_11 es11
      replace hR := hR11
      refine gw_le (L' := [none, none]) (gm_le_n _ (gm_le_n _ gm_le_nil)) ?_
      exact ok63_39 c d Post _ w _ hR
