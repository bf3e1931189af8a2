/-! What must hold for a run to end with Post: by program (wip/whole/gen_wp.py). -/
def w14_26 (c : gx) (d : Nat) (Post : Option Value → gm_H → Prop) (xs0 : Int32) (h : gm_H) : Prop :=
  ((xs0 = 0 ∨ xs0 = 1) ∧ Post (some (.int xs0)) h)
theorem ok14_26 (c : gx) (d : Nat) (Post : Option Value → gm_H → Prop)  (xs0 : Int32) (h : gm_H) (w : w14_26 c d Post xs0 h) : gV c d 14 (26, [none, none], [.int xs0], h) Post := by
  have hk : ∀ pc i, gm_find gk_14 pc = some i → gm_code (gt_T c.1 c.2.1 c.2.2.1) 14 pc = some i := fun _ _ z => z
  unfold w14_26 at w
  unfold gV
  exact gw_retZ (hk _ _ rfl) rfl w.1 w.2
def w14_25 (c : gx) (d : Nat) (Post : Option Value → gm_H → Prop)  (h : gm_H) : Prop :=
  w14_26 c d Post 0 h
theorem ok14_25 (c : gx) (d : Nat) (Post : Option Value → gm_H → Prop)   (h : gm_H) (w : w14_25 c d Post  h) : gV c d 14 (25, [none, none], [], h) Post := by
  have hk : ∀ pc i, gm_find gk_14 pc = some i → gm_code (gt_T c.1 c.2.1 c.2.2.1) 14 pc = some i := fun _ _ z => z
  unfold w14_25 at w
  unfold gV
  refine gw_pst hk 1 (st' := (26, [none, none], [.int 0], h)) rfl ?_
  exact ok14_26 c d Post _ _ w
/-- CommandByTurns$Land.has(I)Z -/
def wm14 (c : gx) (d : Nat) (Post : Option Value → gm_H → Prop) (r0 : Nat) (x1 : Int32) (h : gm_H) : Prop :=
  ((x1 < 0 → w14_25 c d Post h) ∧ (¬ (x1 < 0) → ∃ x_2 : Int32, gm_fld h r0 1 2 = some (.int x_2) ∧ ((x_2 ≤ x1 → w14_25 c d Post h) ∧ (¬ (x_2 ≤ x1) → ∃ q_4 : Nat, gm_fld h r0 1 0 = some (.ref q_4) ∧ ∃ (n5 : Nat) (f5 : Nat → Int32), gm_get h q_4 = some (.inl (0, n5, .inl f5)) ∧ (((Int32.ofNat n5) ≤ x1 → w14_25 c d Post h) ∧ (¬ ((Int32.ofNat n5) ≤ x1) → w14_26 c d Post 1 h))))))
theorem okm14 (c : gx) (d : Nat) (Post : Option Value → gm_H → Prop) (r0 : Nat) (x1 : Int32) (h : gm_H) (w : wm14 c d Post r0 x1 h) : gE c (d + 1) 14 [.ref r0, .int x1] h Post := by
  have hk : ∀ pc i, gm_find gk_14 pc = some i → gm_code (gt_T c.1 c.2.1 c.2.2.1) 14 pc = some i := fun _ _ z => z
  unfold wm14 at w
  refine ge_of (by decide) (Nat.le_of_ble_eq_true rfl) ?_
  show gV c d 14 (0, [some (.ref r0), some (.int x1)], [], h) Post
  unfold gV
  refine gw_pst hk 1 (st' := (1, [some (.ref r0), some (.int x1)], [.int x1], h)) rfl ?_
  refine gw_br (c := x1 < 0) (a := (25, [some (.ref r0), some (.int x1)], [], h)) (b := (4, [some (.ref r0), some (.int x1)], [], h)) (hk _ _ rfl) rfl ⟨fun z1 => ?_, fun z1 => ?_⟩
  · replace w := w.1 z1
    refine gw_le (L' := [none, none]) (gm_le_n _ (gm_le_n _ gm_le_nil)) ?_
    exact ok14_25 c d Post _ w
  · replace w := w.2 z1
    refine gw_pst hk 2 (st' := (6, [some (.ref r0), some (.int x1)], [.ref r0, .int x1], h)) rfl ?_
    obtain ⟨x_2, e2, w⟩ := w
    refine gw_gf (hk _ _ rfl) e2 ?_
    refine gw_br (c := x_2 ≤ x1) (a := (25, [some (.ref r0), some (.int x1)], [], h)) (b := (12, [some (.ref r0), some (.int x1)], [], h)) (hk _ _ rfl) rfl ⟨fun z3 => ?_, fun z3 => ?_⟩
    · replace w := w.1 z3
      refine gw_le (L' := [none, none]) (gm_le_n _ (gm_le_n _ gm_le_nil)) ?_
      exact ok14_25 c d Post _ w
    · replace w := w.2 z3
      refine gw_pst hk 2 (st' := (14, [some (.ref r0), some (.int x1)], [.ref r0, .int x1], h)) rfl ?_
      obtain ⟨q_4, e4, w⟩ := w
      refine gw_gf (hk _ _ rfl) e4 ?_
      obtain ⟨n5, f5, e5, w⟩ := w
      refine gw_alen (hk _ _ rfl) e5 (by decide) ?_
      refine gw_br (c := (Int32.ofNat n5) ≤ x1) (a := (25, [some (.ref r0), some (.int x1)], [], h)) (b := (21, [some (.ref r0), some (.int x1)], [], h)) (hk _ _ rfl) rfl ⟨fun z6 => ?_, fun z6 => ?_⟩
      · replace w := w.1 z6
        refine gw_le (L' := [none, none]) (gm_le_n _ (gm_le_n _ gm_le_nil)) ?_
        exact ok14_25 c d Post _ w
      · replace w := w.2 z6
        refine gw_pst hk 2 (st' := (26, [some (.ref r0), some (.int x1)], [.int 1], h)) rfl ?_
        refine gw_le (L' := [none, none]) (gm_le_n _ (gm_le_n _ gm_le_nil)) ?_
        exact ok14_26 c d Post _ _ w
def w15_18 (c : gx) (d : Nat) (Post : Option Value → gm_H → Prop) (xs0 : Int32) (h : gm_H) : Prop :=
  Post (some (.int xs0)) h
theorem ok15_18 (c : gx) (d : Nat) (Post : Option Value → gm_H → Prop)  (xs0 : Int32) (h : gm_H) (w : w15_18 c d Post xs0 h) : gV c d 15 (18, [none, none], [.int xs0], h) Post := by
  have hk : ∀ pc i, gm_find gk_15 pc = some i → gm_code (gt_T c.1 c.2.1 c.2.2.1) 15 pc = some i := fun _ _ z => z
  unfold w15_18 at w
  unfold gV
  exact gw_ret (hk _ _ rfl) rfl w
/-- CommandByTurns$Land.heightOf(I)I -/
def wm15 (c : gx) (d : Nat) (Post : Option Value → gm_H → Prop) (r0 : Nat) (x1 : Int32) (h : gm_H) : Prop :=
  (∃ fs1, gm_get h r0 = some (.inr (1, fs1))) ∧ gE c d 14 [.ref r0, .int x1] h (fun v1 h_1 => ∃ x_1 : Int32, v1 = some (.int x_1) ∧ ((x_1 = 0 → w15_18 c d Post 0 h_1) ∧ (¬ (x_1 = 0) → ∃ q_3 : Nat, gm_fld h_1 r0 1 0 = some (.ref q_3) ∧ ∃ (n4 : Nat) (f4 : Nat → Int32), gm_get h_1 q_3 = some (.inl (0, n4, .inl f4)) ∧ vp_in x1 n4 ∧ w15_18 c d Post (f4 (x1 : Int32).toNatClampNeg) h_1)))
theorem okm15 (c : gx) (d : Nat) (Post : Option Value → gm_H → Prop) (r0 : Nat) (x1 : Int32) (h : gm_H) (w : wm15 c d Post r0 x1 h) : gE c (d + 1) 15 [.ref r0, .int x1] h Post := by
  have hk : ∀ pc i, gm_find gk_15 pc = some i → gm_code (gt_T c.1 c.2.1 c.2.2.1) 15 pc = some i := fun _ _ z => z
  unfold wm15 at w
  refine ge_of (by decide) (Nat.le_of_ble_eq_true rfl) ?_
  show gV c d 15 (0, [some (.ref r0), some (.int x1)], [], h) Post
  unfold gV
  refine gw_pst hk 2 (st' := (2, [some (.ref r0), some (.int x1)], [.int x1, .ref r0], h)) rfl ?_
  obtain ⟨⟨fs1, e1⟩, w⟩ := w
  refine gw_call (jj := 14) (As := [.ref r0, .int x1]) (rest := []) (hk _ _ rfl) (fun _ => rfl) rfl rfl (Nat.le_of_ble_eq_true rfl) (gm_rcv_v rfl e1 rfl) ?_
  refine ge_imp w (fun v1 h_1 w => ?_)
  obtain ⟨x_1, rfl, w⟩ := w
  show gV c d 15 (5, [some (.ref r0), some (.int x1)], [.int x_1], h_1) Post
  refine gw_br (c := x_1 = 0) (a := (17, [some (.ref r0), some (.int x1)], [], h_1)) (b := (8, [some (.ref r0), some (.int x1)], [], h_1)) (hk _ _ rfl) rfl ⟨fun z2 => ?_, fun z2 => ?_⟩
  · replace w := w.1 z2
    refine gw_pst hk 1 (st' := (18, [some (.ref r0), some (.int x1)], [.int 0], h_1)) rfl ?_
    refine gw_le (L' := [none, none]) (gm_le_n _ (gm_le_n _ gm_le_nil)) ?_
    exact ok15_18 c d Post _ _ w
  · replace w := w.2 z2
    refine gw_pst hk 1 (st' := (9, [some (.ref r0), some (.int x1)], [.ref r0], h_1)) rfl ?_
    obtain ⟨q_3, e3, w⟩ := w
    refine gw_gf (hk _ _ rfl) e3 ?_
    refine gw_pst hk 1 (st' := (13, [some (.ref r0), some (.int x1)], [.int x1, .ref q_3], h_1)) rfl ?_
    obtain ⟨n4, f4, e4, b4, w⟩ := w
    refine gw_ald (hk _ _ rfl) (Or.inl ⟨rfl, rfl⟩) e4 b4 ?_
    refine gw_pst hk 1 (st' := (18, [some (.ref r0), some (.int x1)], [.int (f4 (x1 : Int32).toNatClampNeg)], h_1)) rfl ?_
    refine gw_le (L' := [none, none]) (gm_le_n _ (gm_le_n _ gm_le_nil)) ?_
    exact ok15_18 c d Post _ _ w
def w16_19 (c : gx) (d : Nat) (Post : Option Value → gm_H → Prop) (xs0 : Int32) (h : gm_H) : Prop :=
  ((xs0 = 0 ∨ xs0 = 1) ∧ Post (some (.int xs0)) h)
theorem ok16_19 (c : gx) (d : Nat) (Post : Option Value → gm_H → Prop)  (xs0 : Int32) (h : gm_H) (w : w16_19 c d Post xs0 h) : gV c d 16 (19, [none, none], [.int xs0], h) Post := by
  have hk : ∀ pc i, gm_find gk_16 pc = some i → gm_code (gt_T c.1 c.2.1 c.2.2.1) 16 pc = some i := fun _ _ z => z
  unfold w16_19 at w
  unfold gV
  exact gw_retZ (hk _ _ rfl) rfl w.1 w.2
def w16_18 (c : gx) (d : Nat) (Post : Option Value → gm_H → Prop)  (h : gm_H) : Prop :=
  w16_19 c d Post 0 h
theorem ok16_18 (c : gx) (d : Nat) (Post : Option Value → gm_H → Prop)   (h : gm_H) (w : w16_18 c d Post  h) : gV c d 16 (18, [none, none], [], h) Post := by
  have hk : ∀ pc i, gm_find gk_16 pc = some i → gm_code (gt_T c.1 c.2.1 c.2.2.1) 16 pc = some i := fun _ _ z => z
  unfold w16_18 at w
  unfold gV
  refine gw_pst hk 1 (st' := (19, [none, none], [.int 0], h)) rfl ?_
  exact ok16_19 c d Post _ _ w
/-- CommandByTurns$Land.isNear(II)Z -/
def wm16 (c : gx) (d : Nat) (Post : Option Value → gm_H → Prop) (x0 : Int32) (x1 : Int32) (h : gm_H) : Prop :=
  (((x0 - x1) < (-1) → w16_18 c d Post h) ∧ (¬ ((x0 - x1) < (-1)) → ((1 < (x0 - x1) → w16_18 c d Post h) ∧ (¬ (1 < (x0 - x1)) → w16_19 c d Post 1 h))))
theorem okm16 (c : gx) (d : Nat) (Post : Option Value → gm_H → Prop) (x0 : Int32) (x1 : Int32) (h : gm_H) (w : wm16 c d Post x0 x1 h) : gE c (d + 1) 16 [.int x0, .int x1] h Post := by
  have hk : ∀ pc i, gm_find gk_16 pc = some i → gm_code (gt_T c.1 c.2.1 c.2.2.1) 16 pc = some i := fun _ _ z => z
  unfold wm16 at w
  refine ge_of (by decide) (Nat.le_of_ble_eq_true rfl) ?_
  show gV c d 16 (0, [some (.int x0), some (.int x1)], [], h) Post
  unfold gV
  refine gw_pst hk 4 (st' := (4, [some (.int x0), some (.int x1)], [.int (-1), .int (x0 - x1)], h)) rfl ?_
  refine gw_br (c := (x0 - x1) < (-1)) (a := (18, [some (.int x0), some (.int x1)], [], h)) (b := (7, [some (.int x0), some (.int x1)], [], h)) (hk _ _ rfl) rfl ⟨fun z1 => ?_, fun z1 => ?_⟩
  · replace w := w.1 z1
    refine gw_le (L' := [none, none]) (gm_le_n _ (gm_le_n _ gm_le_nil)) ?_
    exact ok16_18 c d Post _ w
  · replace w := w.2 z1
    refine gw_pst hk 4 (st' := (11, [some (.int x0), some (.int x1)], [.int 1, .int (x0 - x1)], h)) rfl ?_
    refine gw_br (c := 1 < (x0 - x1)) (a := (18, [some (.int x0), some (.int x1)], [], h)) (b := (14, [some (.int x0), some (.int x1)], [], h)) (hk _ _ rfl) rfl ⟨fun z2 => ?_, fun z2 => ?_⟩
    · replace w := w.1 z2
      refine gw_le (L' := [none, none]) (gm_le_n _ (gm_le_n _ gm_le_nil)) ?_
      exact ok16_18 c d Post _ w
    · replace w := w.2 z2
      refine gw_pst hk 2 (st' := (19, [some (.int x0), some (.int x1)], [.int 1], h)) rfl ?_
      refine gw_le (L' := [none, none]) (gm_le_n _ (gm_le_n _ gm_le_nil)) ?_
      exact ok16_19 c d Post _ _ w
def w17_25 (c : gx) (d : Nat) (Post : Option Value → gm_H → Prop) (xs0 : Int32) (h : gm_H) : Prop :=
  ((xs0 = 0 ∨ xs0 = 1) ∧ Post (some (.int xs0)) h)
theorem ok17_25 (c : gx) (d : Nat) (Post : Option Value → gm_H → Prop)  (xs0 : Int32) (h : gm_H) (w : w17_25 c d Post xs0 h) : gV c d 17 (25, [none, none, none], [.int xs0], h) Post := by
  have hk : ∀ pc i, gm_find gk_17 pc = some i → gm_code (gt_T c.1 c.2.1 c.2.2.1) 17 pc = some i := fun _ _ z => z
  unfold w17_25 at w
  unfold gV
  exact gw_retZ (hk _ _ rfl) rfl w.1 w.2
def w17_20 (c : gx) (d : Nat) (Post : Option Value → gm_H → Prop)  (h : gm_H) : Prop :=
  w17_25 c d Post 1 h
theorem ok17_20 (c : gx) (d : Nat) (Post : Option Value → gm_H → Prop)   (h : gm_H) (w : w17_20 c d Post  h) : gV c d 17 (20, [none, none, none], [], h) Post := by
  have hk : ∀ pc i, gm_find gk_17 pc = some i → gm_code (gt_T c.1 c.2.1 c.2.2.1) 17 pc = some i := fun _ _ z => z
  unfold w17_20 at w
  unfold gV
  refine gw_pst hk 2 (st' := (25, [none, none, none], [.int 1], h)) rfl ?_
  exact ok17_25 c d Post _ _ w
def w17_24 (c : gx) (d : Nat) (Post : Option Value → gm_H → Prop)  (h : gm_H) : Prop :=
  w17_25 c d Post 0 h
theorem ok17_24 (c : gx) (d : Nat) (Post : Option Value → gm_H → Prop)   (h : gm_H) (w : w17_24 c d Post  h) : gV c d 17 (24, [none, none, none], [], h) Post := by
  have hk : ∀ pc i, gm_find gk_17 pc = some i → gm_code (gt_T c.1 c.2.1 c.2.2.1) 17 pc = some i := fun _ _ z => z
  unfold w17_24 at w
  unfold gV
  refine gw_pst hk 1 (st' := (25, [none, none, none], [.int 0], h)) rfl ?_
  exact ok17_25 c d Post _ _ w
def w17_10 (c : gx) (d : Nat) (Post : Option Value → gm_H → Prop) (x0 : Int32) (x1 : Int32) (x2 : Int32) (h : gm_H) : Prop :=
  ((x1 ≤ x2 → w17_24 c d Post h) ∧ (¬ (x1 ≤ x2) → ((x0 ≤ x1 → w17_24 c d Post h) ∧ (¬ (x0 ≤ x1) → w17_20 c d Post h))))
theorem ok17_10 (c : gx) (d : Nat) (Post : Option Value → gm_H → Prop)  (x0 : Int32) (x1 : Int32) (x2 : Int32) (h : gm_H) (w : w17_10 c d Post x0 x1 x2 h) : gV c d 17 (10, [some (.int x0), some (.int x1), some (.int x2)], [], h) Post := by
  have hk : ∀ pc i, gm_find gk_17 pc = some i → gm_code (gt_T c.1 c.2.1 c.2.2.1) 17 pc = some i := fun _ _ z => z
  unfold w17_10 at w
  unfold gV
  refine gw_pst hk 2 (st' := (12, [some (.int x0), some (.int x1), some (.int x2)], [.int x1, .int x2], h)) rfl ?_
  refine gw_br (c := x1 ≤ x2) (a := (24, [some (.int x0), some (.int x1), some (.int x2)], [], h)) (b := (15, [some (.int x0), some (.int x1), some (.int x2)], [], h)) (hk _ _ rfl) rfl ⟨fun z1 => ?_, fun z1 => ?_⟩
  · replace w := w.1 z1
    refine gw_le (L' := [none, none, none]) (gm_le_n _ (gm_le_n _ (gm_le_n _ gm_le_nil))) ?_
    exact ok17_24 c d Post _ w
  · replace w := w.2 z1
    refine gw_pst hk 2 (st' := (17, [some (.int x0), some (.int x1), some (.int x2)], [.int x0, .int x1], h)) rfl ?_
    refine gw_br (c := x0 ≤ x1) (a := (24, [some (.int x0), some (.int x1), some (.int x2)], [], h)) (b := (20, [some (.int x0), some (.int x1), some (.int x2)], [], h)) (hk _ _ rfl) rfl ⟨fun z2 => ?_, fun z2 => ?_⟩
    · replace w := w.1 z2
      refine gw_le (L' := [none, none, none]) (gm_le_n _ (gm_le_n _ (gm_le_n _ gm_le_nil))) ?_
      exact ok17_24 c d Post _ w
    · replace w := w.2 z2
      refine gw_le (L' := [none, none, none]) (gm_le_n _ (gm_le_n _ (gm_le_n _ gm_le_nil))) ?_
      exact ok17_20 c d Post _ w
/-- CommandByTurns$Land.isPast(III)Z -/
def wm17 (c : gx) (d : Nat) (Post : Option Value → gm_H → Prop) (x0 : Int32) (x1 : Int32) (x2 : Int32) (h : gm_H) : Prop :=
  ((x1 ≤ x0 → w17_10 c d Post x0 x1 x2 h) ∧ (¬ (x1 ≤ x0) → ((x1 < x2 → w17_20 c d Post h) ∧ (¬ (x1 < x2) → w17_10 c d Post x0 x1 x2 h))))
theorem okm17 (c : gx) (d : Nat) (Post : Option Value → gm_H → Prop) (x0 : Int32) (x1 : Int32) (x2 : Int32) (h : gm_H) (w : wm17 c d Post x0 x1 x2 h) : gE c (d + 1) 17 [.int x0, .int x1, .int x2] h Post := by
  have hk : ∀ pc i, gm_find gk_17 pc = some i → gm_code (gt_T c.1 c.2.1 c.2.2.1) 17 pc = some i := fun _ _ z => z
  unfold wm17 at w
  refine ge_of (by decide) (Nat.le_of_ble_eq_true rfl) ?_
  show gV c d 17 (0, [some (.int x0), some (.int x1), some (.int x2)], [], h) Post
  unfold gV
  refine gw_pst hk 2 (st' := (2, [some (.int x0), some (.int x1), some (.int x2)], [.int x1, .int x0], h)) rfl ?_
  refine gw_br (c := x1 ≤ x0) (a := (10, [some (.int x0), some (.int x1), some (.int x2)], [], h)) (b := (5, [some (.int x0), some (.int x1), some (.int x2)], [], h)) (hk _ _ rfl) rfl ⟨fun z1 => ?_, fun z1 => ?_⟩
  · replace w := w.1 z1
    exact ok17_10 c d Post _ _ _ _ w
  · replace w := w.2 z1
    refine gw_pst hk 2 (st' := (7, [some (.int x0), some (.int x1), some (.int x2)], [.int x2, .int x1], h)) rfl ?_
    refine gw_br (c := x1 < x2) (a := (20, [some (.int x0), some (.int x1), some (.int x2)], [], h)) (b := (10, [some (.int x0), some (.int x1), some (.int x2)], [], h)) (hk _ _ rfl) rfl ⟨fun z2 => ?_, fun z2 => ?_⟩
    · replace w := w.1 z2
      refine gw_le (L' := [none, none, none]) (gm_le_n _ (gm_le_n _ (gm_le_n _ gm_le_nil))) ?_
      exact ok17_20 c d Post _ w
    · replace w := w.2 z2
      exact ok17_10 c d Post _ _ _ _ w
def w18_56 (c : gx) (d : Nat) (Post : Option Value → gm_H → Prop) (xs0 : Int32) (h : gm_H) : Prop :=
  Post (some (.int xs0)) h
theorem ok18_56 (c : gx) (d : Nat) (Post : Option Value → gm_H → Prop)  (xs0 : Int32) (h : gm_H) (w : w18_56 c d Post xs0 h) : gV c d 18 (56, [none, none, none, none], [.int xs0], h) Post := by
  have hk : ∀ pc i, gm_find gk_18 pc = some i → gm_code (gt_T c.1 c.2.1 c.2.2.1) 18 pc = some i := fun _ _ z => z
  unfold w18_56 at w
  unfold gV
  exact gw_ret (hk _ _ rfl) rfl w
def w18_35 (c : gx) (d : Nat) (Post : Option Value → gm_H → Prop) (r0 : Nat) (x1 : Int32) (x2 : Int32) (xs0 : Int32) (h : gm_H) : Prop :=
  ((xs0 = 0 → w18_56 c d Post 0 h) ∧ (¬ (xs0 = 0) → ∃ x_2 : Int32, gm_fld h r0 1 1 = some (.int x_2) ∧ w18_56 c d Post ((x_2 >>> ((if x2 < x1 then x2 else x1) &&& 31)) &&& 1) h))
theorem ok18_35 (c : gx) (d : Nat) (Post : Option Value → gm_H → Prop)  (r0 : Nat) (x1 : Int32) (x2 : Int32) (xs0 : Int32) (h : gm_H) (w : w18_35 c d Post r0 x1 x2 xs0 h) : gV c d 18 (35, [some (.ref r0), some (.int x1), some (.int x2), none], [.int xs0], h) Post := by
  have hk : ∀ pc i, gm_find gk_18 pc = some i → gm_code (gt_T c.1 c.2.1 c.2.2.1) 18 pc = some i := fun _ _ z => z
  unfold w18_35 at w
  unfold gV
  refine gw_pst hk 2 (st' := (37, [some (.ref r0), some (.int x1), some (.int x2), some (.int xs0)], [.int xs0], h)) rfl ?_
  refine gw_br (c := xs0 = 0) (a := (55, [some (.ref r0), some (.int x1), some (.int x2), some (.int xs0)], [], h)) (b := (40, [some (.ref r0), some (.int x1), some (.int x2), some (.int xs0)], [], h)) (hk _ _ rfl) rfl ⟨fun z1 => ?_, fun z1 => ?_⟩
  · replace w := w.1 z1
    refine gw_pst hk 1 (st' := (56, [some (.ref r0), some (.int x1), some (.int x2), some (.int xs0)], [.int 0], h)) rfl ?_
    refine gw_le (L' := [none, none, none, none]) (gm_le_n _ (gm_le_n _ (gm_le_n _ (gm_le_n _ gm_le_nil)))) ?_
    exact ok18_56 c d Post _ _ w
  · replace w := w.2 z1
    refine gw_pst hk 1 (st' := (41, [some (.ref r0), some (.int x1), some (.int x2), some (.int xs0)], [.ref r0], h)) rfl ?_
    obtain ⟨x_2, e2, w⟩ := w
    refine gw_gf (hk _ _ rfl) e2 ?_
    refine gw_pst hk 7 (st' := (56, [some (.ref r0), some (.int x1), some (.int x2), some (.int xs0)], [.int ((x_2 >>> ((if x2 < x1 then x2 else x1) &&& 31)) &&& 1)], h)) rfl ?_
    refine gw_le (L' := [none, none, none, none]) (gm_le_n _ (gm_le_n _ (gm_le_n _ (gm_le_n _ gm_le_nil)))) ?_
    exact ok18_56 c d Post _ _ w
def w18_30 (c : gx) (d : Nat) (Post : Option Value → gm_H → Prop) (r0 : Nat) (x1 : Int32) (x2 : Int32) (h : gm_H) : Prop :=
  w18_35 c d Post r0 x1 x2 1 h
theorem ok18_30 (c : gx) (d : Nat) (Post : Option Value → gm_H → Prop)  (r0 : Nat) (x1 : Int32) (x2 : Int32) (h : gm_H) (w : w18_30 c d Post r0 x1 x2 h) : gV c d 18 (30, [some (.ref r0), some (.int x1), some (.int x2), none], [], h) Post := by
  have hk : ∀ pc i, gm_find gk_18 pc = some i → gm_code (gt_T c.1 c.2.1 c.2.2.1) 18 pc = some i := fun _ _ z => z
  unfold w18_30 at w
  unfold gV
  refine gw_pst hk 2 (st' := (35, [some (.ref r0), some (.int x1), some (.int x2), none], [.int 1], h)) rfl ?_
  exact ok18_35 c d Post _ _ _ _ _ w
def w18_34 (c : gx) (d : Nat) (Post : Option Value → gm_H → Prop) (r0 : Nat) (x1 : Int32) (x2 : Int32) (h : gm_H) : Prop :=
  w18_35 c d Post r0 x1 x2 0 h
theorem ok18_34 (c : gx) (d : Nat) (Post : Option Value → gm_H → Prop)  (r0 : Nat) (x1 : Int32) (x2 : Int32) (h : gm_H) (w : w18_34 c d Post r0 x1 x2 h) : gV c d 18 (34, [some (.ref r0), some (.int x1), some (.int x2), none], [], h) Post := by
  have hk : ∀ pc i, gm_find gk_18 pc = some i → gm_code (gt_T c.1 c.2.1 c.2.2.1) 18 pc = some i := fun _ _ z => z
  unfold w18_34 at w
  unfold gV
  refine gw_pst hk 1 (st' := (35, [some (.ref r0), some (.int x1), some (.int x2), none], [.int 0], h)) rfl ?_
  exact ok18_35 c d Post _ _ _ _ _ w
/-- CommandByTurns$Land.riverBetween(II)I -/
def wm18 (c : gx) (d : Nat) (Post : Option Value → gm_H → Prop) (r0 : Nat) (x1 : Int32) (x2 : Int32) (h : gm_H) : Prop :=
  (∃ fs1, gm_get h r0 = some (.inr (1, fs1))) ∧ gE c d 14 [.ref r0, .int x1] h (fun v1 h_1 => ∃ x_1 : Int32, v1 = some (.int x_1) ∧ ((x_1 = 0 → w18_34 c d Post r0 x1 x2 h_1) ∧ (¬ (x_1 = 0) → (∃ fs3, gm_get h_1 r0 = some (.inr (1, fs3))) ∧ gE c d 14 [.ref r0, .int x2] h_1 (fun v3 h_3 => ∃ x_3 : Int32, v3 = some (.int x_3) ∧ ((x_3 = 0 → w18_34 c d Post r0 x1 x2 h_3) ∧ (¬ (x_3 = 0) → (((x1 - x2) = 1 → w18_30 c d Post r0 x1 x2 h_3) ∧ (¬ ((x1 - x2) = 1) → (((x2 - x1) = 1 → w18_30 c d Post r0 x1 x2 h_3) ∧ (¬ ((x2 - x1) = 1) → w18_34 c d Post r0 x1 x2 h_3))))))))))
theorem okm18 (c : gx) (d : Nat) (Post : Option Value → gm_H → Prop) (r0 : Nat) (x1 : Int32) (x2 : Int32) (h : gm_H) (w : wm18 c d Post r0 x1 x2 h) : gE c (d + 1) 18 [.ref r0, .int x1, .int x2] h Post := by
  have hk : ∀ pc i, gm_find gk_18 pc = some i → gm_code (gt_T c.1 c.2.1 c.2.2.1) 18 pc = some i := fun _ _ z => z
  unfold wm18 at w
  refine ge_of (by decide) (Nat.le_of_ble_eq_true rfl) ?_
  show gV c d 18 (0, [some (.ref r0), some (.int x1), some (.int x2), none], [], h) Post
  unfold gV
  refine gw_pst hk 2 (st' := (2, [some (.ref r0), some (.int x1), some (.int x2), none], [.int x1, .ref r0], h)) rfl ?_
  obtain ⟨⟨fs1, e1⟩, w⟩ := w
  refine gw_call (jj := 14) (As := [.ref r0, .int x1]) (rest := []) (hk _ _ rfl) (fun _ => rfl) rfl rfl (Nat.le_of_ble_eq_true rfl) (gm_rcv_v rfl e1 rfl) ?_
  refine ge_imp w (fun v1 h_1 w => ?_)
  obtain ⟨x_1, rfl, w⟩ := w
  show gV c d 18 (5, [some (.ref r0), some (.int x1), some (.int x2), none], [.int x_1], h_1) Post
  refine gw_br (c := x_1 = 0) (a := (34, [some (.ref r0), some (.int x1), some (.int x2), none], [], h_1)) (b := (8, [some (.ref r0), some (.int x1), some (.int x2), none], [], h_1)) (hk _ _ rfl) rfl ⟨fun z2 => ?_, fun z2 => ?_⟩
  · replace w := w.1 z2
    exact ok18_34 c d Post _ _ _ _ w
  · replace w := w.2 z2
    refine gw_pst hk 2 (st' := (10, [some (.ref r0), some (.int x1), some (.int x2), none], [.int x2, .ref r0], h_1)) rfl ?_
    obtain ⟨⟨fs3, e3⟩, w⟩ := w
    refine gw_call (jj := 14) (As := [.ref r0, .int x2]) (rest := []) (hk _ _ rfl) (fun _ => rfl) rfl rfl (Nat.le_of_ble_eq_true rfl) (gm_rcv_v rfl e3 rfl) ?_
    refine ge_imp w (fun v3 h_3 w => ?_)
    obtain ⟨x_3, rfl, w⟩ := w
    show gV c d 18 (13, [some (.ref r0), some (.int x1), some (.int x2), none], [.int x_3], h_3) Post
    refine gw_br (c := x_3 = 0) (a := (34, [some (.ref r0), some (.int x1), some (.int x2), none], [], h_3)) (b := (16, [some (.ref r0), some (.int x1), some (.int x2), none], [], h_3)) (hk _ _ rfl) rfl ⟨fun z4 => ?_, fun z4 => ?_⟩
    · replace w := w.1 z4
      exact ok18_34 c d Post _ _ _ _ w
    · replace w := w.2 z4
      refine gw_pst hk 4 (st' := (20, [some (.ref r0), some (.int x1), some (.int x2), none], [.int 1, .int (x1 - x2)], h_3)) rfl ?_
      refine gw_br (c := (x1 - x2) = 1) (a := (30, [some (.ref r0), some (.int x1), some (.int x2), none], [], h_3)) (b := (23, [some (.ref r0), some (.int x1), some (.int x2), none], [], h_3)) (hk _ _ rfl) rfl ⟨fun z5 => ?_, fun z5 => ?_⟩
      · replace w := w.1 z5
        exact ok18_30 c d Post _ _ _ _ w
      · replace w := w.2 z5
        refine gw_pst hk 4 (st' := (27, [some (.ref r0), some (.int x1), some (.int x2), none], [.int 1, .int (x2 - x1)], h_3)) rfl ?_
        refine gw_br (c := (x2 - x1) = 1) (a := (30, [some (.ref r0), some (.int x1), some (.int x2), none], [], h_3)) (b := (34, [some (.ref r0), some (.int x1), some (.int x2), none], [], h_3)) (hk _ _ rfl) rfl ⟨fun z6 => ?_, fun z6 => ?_⟩
        · replace w := w.1 z6
          exact ok18_30 c d Post _ _ _ _ w
        · replace w := w.2 z6
          exact ok18_34 c d Post _ _ _ _ w
/-- CommandByTurns$Land.wayBetween(II)I -/
def wm19 (c : gx) (d : Nat) (Post : Option Value → gm_H → Prop) (r0 : Nat) (x1 : Int32) (x2 : Int32) (h : gm_H) : Prop :=
  ∃ x_1 : Int32, gm_fld h r0 1 1 = some (.int x_1) ∧ gE c d 266 [.int (x_1 &&& ((1 <<< ((if x1 < x2 then x2 else x1) &&& 31)) - (1 <<< ((if x2 < x1 then x2 else x1) &&& 31))))] h (fun v2 h_2 => ∃ x_2 : Int32, v2 = some (.int x_2) ∧ Post (some (.int (((if x1 < x2 then x2 else x1) - (if x2 < x1 then x2 else x1)) + x_2))) h_2)
theorem okm19 (c : gx) (d : Nat) (Post : Option Value → gm_H → Prop) (r0 : Nat) (x1 : Int32) (x2 : Int32) (h : gm_H) (w : wm19 c d Post r0 x1 x2 h) : gE c (d + 1) 19 [.ref r0, .int x1, .int x2] h Post := by
  have hk : ∀ pc i, gm_find gk_19 pc = some i → gm_code (gt_T c.1 c.2.1 c.2.2.1) 19 pc = some i := fun _ _ z => z
  unfold wm19 at w
  refine ge_of (by decide) (Nat.le_of_ble_eq_true rfl) ?_
  show gV c d 19 (0, [some (.ref r0), some (.int x1), some (.int x2), none, none, none], [], h) Post
  unfold gV
  refine gw_pst hk 20 (st' := (28, [some (.ref r0), some (.int x1), some (.int x2), some (.int (if x2 < x1 then x2 else x1)), some (.int (if x1 < x2 then x2 else x1)), some (.int ((1 <<< ((if x1 < x2 then x2 else x1) &&& 31)) - (1 <<< ((if x2 < x1 then x2 else x1) &&& 31))))], [.ref r0, .int ((if x1 < x2 then x2 else x1) - (if x2 < x1 then x2 else x1))], h)) rfl ?_
  obtain ⟨x_1, e1, w⟩ := w
  refine gw_gf (hk _ _ rfl) e1 ?_
  refine gw_pst hk 2 (st' := (34, [some (.ref r0), some (.int x1), some (.int x2), some (.int (if x2 < x1 then x2 else x1)), some (.int (if x1 < x2 then x2 else x1)), some (.int ((1 <<< ((if x1 < x2 then x2 else x1) &&& 31)) - (1 <<< ((if x2 < x1 then x2 else x1) &&& 31))))], [.int (x_1 &&& ((1 <<< ((if x1 < x2 then x2 else x1) &&& 31)) - (1 <<< ((if x2 < x1 then x2 else x1) &&& 31)))), .int ((if x1 < x2 then x2 else x1) - (if x2 < x1 then x2 else x1))], h)) rfl ?_
  refine gw_call (jj := 266) (As := [.int (x_1 &&& ((1 <<< ((if x1 < x2 then x2 else x1) &&& 31)) - (1 <<< ((if x2 < x1 then x2 else x1) &&& 31))))]) (rest := [.int ((if x1 < x2 then x2 else x1) - (if x2 < x1 then x2 else x1))]) (hk _ _ rfl) (fun _ => rfl) rfl rfl (Nat.le_of_ble_eq_true rfl) rfl ?_
  refine ge_imp w (fun v2 h_2 w => ?_)
  obtain ⟨x_2, rfl, w⟩ := w
  show gV c d 19 (37, [some (.ref r0), some (.int x1), some (.int x2), some (.int (if x2 < x1 then x2 else x1)), some (.int (if x1 < x2 then x2 else x1)), some (.int ((1 <<< ((if x1 < x2 then x2 else x1) &&& 31)) - (1 <<< ((if x2 < x1 then x2 else x1) &&& 31))))], [.int x_2, .int ((if x1 < x2 then x2 else x1) - (if x2 < x1 then x2 else x1))], h_2) Post
  refine gw_pst hk 1 (st' := (38, [some (.ref r0), some (.int x1), some (.int x2), some (.int (if x2 < x1 then x2 else x1)), some (.int (if x1 < x2 then x2 else x1)), some (.int ((1 <<< ((if x1 < x2 then x2 else x1) &&& 31)) - (1 <<< ((if x2 < x1 then x2 else x1) &&& 31))))], [.int (((if x1 < x2 then x2 else x1) - (if x2 < x1 then x2 else x1)) + x_2)], h_2)) rfl ?_
  exact gw_ret (hk _ _ rfl) rfl w
/-- CommandByTurns$Land.allFields()I -/
def wm20 (c : gx) (d : Nat) (Post : Option Value → gm_H → Prop) (r0 : Nat) (h : gm_H) : Prop :=
  ∃ x_1 : Int32, gm_fld h r0 1 2 = some (.int x_1) ∧ Post (some (.int ((1 <<< (x_1 &&& 31)) - 1))) h
theorem okm20 (c : gx) (d : Nat) (Post : Option Value → gm_H → Prop) (r0 : Nat) (h : gm_H) (w : wm20 c d Post r0 h) : gE c (d + 1) 20 [.ref r0] h Post := by
  have hk : ∀ pc i, gm_find gk_20 pc = some i → gm_code (gt_T c.1 c.2.1 c.2.2.1) 20 pc = some i := fun _ _ z => z
  unfold wm20 at w
  refine ge_of (by decide) (Nat.le_of_ble_eq_true rfl) ?_
  show gV c d 20 (0, [some (.ref r0)], [], h) Post
  unfold gV
  refine gw_pst hk 2 (st' := (2, [some (.ref r0)], [.ref r0, .int 1], h)) rfl ?_
  obtain ⟨x_1, e1, w⟩ := w
  refine gw_gf (hk _ _ rfl) e1 ?_
  refine gw_pst hk 3 (st' := (8, [some (.ref r0)], [.int ((1 <<< (x_1 &&& 31)) - 1)], h)) rfl ?_
  exact gw_ret (hk _ _ rfl) rfl w
def w21_45 (c : gx) (d : Nat) (Post : Option Value → gm_H → Prop) (K6 : Nat → Int32 → Int32 → Int32 → Int32 → Int32 → gm_H → Prop) (r0 : Nat) (x1 : Int32) (x2 : Int32) (x3 : Int32) (x4 : Int32) (x5 : Int32) (h : gm_H) : Prop :=
  K6 r0 x1 x2 x3 x4 (x5 + 1) h
theorem ok21_45 (c : gx) (d : Nat) (Post : Option Value → gm_H → Prop) (K6 : Nat → Int32 → Int32 → Int32 → Int32 → Int32 → gm_H → Prop)  (hK6 : ∀ (r0 : Nat) (x1 : Int32) (x2 : Int32) (x3 : Int32) (x4 : Int32) (x5 : Int32) (h : gm_H), K6 r0 x1 x2 x3 x4 x5 h → gV c d 21 (6, [some (.ref r0), some (.int x1), some (.int x2), some (.int x3), some (.int x4), some (.int x5)], [], h) Post) (r0 : Nat) (x1 : Int32) (x2 : Int32) (x3 : Int32) (x4 : Int32) (x5 : Int32) (h : gm_H) (w : w21_45 c d Post K6 r0 x1 x2 x3 x4 x5 h) : gV c d 21 (45, [some (.ref r0), some (.int x1), some (.int x2), some (.int x3), some (.int x4), some (.int x5)], [], h) Post := by
  have hk : ∀ pc i, gm_find gk_21 pc = some i → gm_code (gt_T c.1 c.2.1 c.2.2.1) 21 pc = some i := fun _ _ z => z
  unfold w21_45 at w
  unfold gV
  refine gw_pst hk 2 (st' := (6, [some (.ref r0), some (.int x1), some (.int x2), some (.int x3), some (.int x4), some (.int (x5 + 1))], [], h)) rfl ?_
  exact hK6 _ _ _ _ _ _ _ w
def wb21_6 (c : gx) (d : Nat) (Post : Option Value → gm_H → Prop) (K6 : Nat → Int32 → Int32 → Int32 → Int32 → Int32 → gm_H → Prop) (r0 : Nat) (x1 : Int32) (x2 : Int32) (x3 : Int32) (x4 : Int32) (x5 : Int32) (h : gm_H) : Prop :=
  ∃ x_1 : Int32, gm_fld h r0 1 2 = some (.int x_1) ∧ ((x_1 ≤ x5 → Post (some (.int x4)) h) ∧ (¬ (x_1 ≤ x5) → (∃ fs3, gm_get h r0 = some (.inr (1, fs3))) ∧ gE c d 19 [.ref r0, .int x1, .int x5] h (fun v3 h_3 => ∃ x_3 : Int32, v3 = some (.int x_3) ∧ ((x3 < x_3 → w21_45 c d Post K6 r0 x1 x2 x3 x4 x5 h_3) ∧ (¬ (x3 < x_3) → gE c d 17 [.int x1, .int x2, .int x5] h_3 (fun v5 h_5 => ∃ x_5 : Int32, v5 = some (.int x_5) ∧ ((x_5 = 0 → w21_45 c d Post K6 r0 x1 x2 x3 (x4 ||| (1 <<< (x5 &&& 31))) x5 h_5) ∧ (¬ (x_5 = 0) → w21_45 c d Post K6 r0 x1 x2 x3 x4 x5 h_5))))))))
theorem okb21_6 (c : gx) (d : Nat) (Post : Option Value → gm_H → Prop) (K6 : Nat → Int32 → Int32 → Int32 → Int32 → Int32 → gm_H → Prop)  (hK6 : ∀ (r0 : Nat) (x1 : Int32) (x2 : Int32) (x3 : Int32) (x4 : Int32) (x5 : Int32) (h : gm_H), K6 r0 x1 x2 x3 x4 x5 h → gV c d 21 (6, [some (.ref r0), some (.int x1), some (.int x2), some (.int x3), some (.int x4), some (.int x5)], [], h) Post) (r0 : Nat) (x1 : Int32) (x2 : Int32) (x3 : Int32) (x4 : Int32) (x5 : Int32) (h : gm_H) (w : wb21_6 c d Post K6 r0 x1 x2 x3 x4 x5 h) : gV c d 21 (6, [some (.ref r0), some (.int x1), some (.int x2), some (.int x3), some (.int x4), some (.int x5)], [], h) Post := by
  have hk : ∀ pc i, gm_find gk_21 pc = some i → gm_code (gt_T c.1 c.2.1 c.2.2.1) 21 pc = some i := fun _ _ z => z
  unfold wb21_6 at w
  unfold gV
  refine gw_pst hk 2 (st' := (9, [some (.ref r0), some (.int x1), some (.int x2), some (.int x3), some (.int x4), some (.int x5)], [.ref r0, .int x5], h)) rfl ?_
  obtain ⟨x_1, e1, w⟩ := w
  refine gw_gf (hk _ _ rfl) e1 ?_
  refine gw_br (c := x_1 ≤ x5) (a := (51, [some (.ref r0), some (.int x1), some (.int x2), some (.int x3), some (.int x4), some (.int x5)], [], h)) (b := (15, [some (.ref r0), some (.int x1), some (.int x2), some (.int x3), some (.int x4), some (.int x5)], [], h)) (hk _ _ rfl) rfl ⟨fun z2 => ?_, fun z2 => ?_⟩
  · replace w := w.1 z2
    refine gw_pst hk 1 (st' := (53, [some (.ref r0), some (.int x1), some (.int x2), some (.int x3), some (.int x4), some (.int x5)], [.int x4], h)) rfl ?_
    exact gw_ret (hk _ _ rfl) rfl w
  · replace w := w.2 z2
    refine gw_pst hk 3 (st' := (19, [some (.ref r0), some (.int x1), some (.int x2), some (.int x3), some (.int x4), some (.int x5)], [.int x5, .int x1, .ref r0], h)) rfl ?_
    obtain ⟨⟨fs3, e3⟩, w⟩ := w
    refine gw_call (jj := 19) (As := [.ref r0, .int x1, .int x5]) (rest := []) (hk _ _ rfl) (fun _ => rfl) rfl rfl (Nat.le_of_ble_eq_true rfl) (gm_rcv_v rfl e3 rfl) ?_
    refine ge_imp w (fun v3 h_3 w => ?_)
    obtain ⟨x_3, rfl, w⟩ := w
    show gV c d 21 (22, [some (.ref r0), some (.int x1), some (.int x2), some (.int x3), some (.int x4), some (.int x5)], [.int x_3], h_3) Post
    refine gw_pst hk 1 (st' := (23, [some (.ref r0), some (.int x1), some (.int x2), some (.int x3), some (.int x4), some (.int x5)], [.int x3, .int x_3], h_3)) rfl ?_
    refine gw_br (c := x3 < x_3) (a := (45, [some (.ref r0), some (.int x1), some (.int x2), some (.int x3), some (.int x4), some (.int x5)], [], h_3)) (b := (26, [some (.ref r0), some (.int x1), some (.int x2), some (.int x3), some (.int x4), some (.int x5)], [], h_3)) (hk _ _ rfl) rfl ⟨fun z4 => ?_, fun z4 => ?_⟩
    · replace w := w.1 z4
      exact ok21_45 c d Post K6 hK6 _ _ _ _ _ _ _ w
    · replace w := w.2 z4
      refine gw_pst hk 3 (st' := (30, [some (.ref r0), some (.int x1), some (.int x2), some (.int x3), some (.int x4), some (.int x5)], [.int x5, .int x2, .int x1], h_3)) rfl ?_
      refine gw_call (jj := 17) (As := [.int x1, .int x2, .int x5]) (rest := []) (hk _ _ rfl) (fun _ => rfl) rfl rfl (Nat.le_of_ble_eq_true rfl) rfl ?_
      refine ge_imp w (fun v5 h_5 w => ?_)
      obtain ⟨x_5, rfl, w⟩ := w
      show gV c d 21 (33, [some (.ref r0), some (.int x1), some (.int x2), some (.int x3), some (.int x4), some (.int x5)], [.int x_5], h_5) Post
      refine gw_br (c := x_5 = 0) (a := (36, [some (.ref r0), some (.int x1), some (.int x2), some (.int x3), some (.int x4), some (.int x5)], [], h_5)) (b := (45, [some (.ref r0), some (.int x1), some (.int x2), some (.int x3), some (.int x4), some (.int x5)], [], h_5)) (hk _ _ rfl) rfl ⟨fun z6 => ?_, fun z6 => ?_⟩
      · replace w := w.1 z6
        refine gw_pst hk 6 (st' := (45, [some (.ref r0), some (.int x1), some (.int x2), some (.int x3), some (.int (x4 ||| (1 <<< (x5 &&& 31)))), some (.int x5)], [], h_5)) rfl ?_
        exact ok21_45 c d Post K6 hK6 _ _ _ _ _ _ _ w
      · replace w := w.2 z6
        exact ok21_45 c d Post K6 hK6 _ _ _ _ _ _ _ w
def wl21_6 (c : gx) (d : Nat) (Post : Option Value → gm_H → Prop) : Nat → Nat → Int32 → Int32 → Int32 → Int32 → Int32 → gm_H → Prop
  | 0 => fun _ _ _ _ _ _ _ => False
  | n + 1 => wb21_6 c d Post (wl21_6 c d Post n)
theorem okl21_6 (c : gx) (d : Nat) (Post : Option Value → gm_H → Prop) : ∀ (n : Nat) (r0 : Nat) (x1 : Int32) (x2 : Int32) (x3 : Int32) (x4 : Int32) (x5 : Int32) (h : gm_H), wl21_6 c d Post n r0 x1 x2 x3 x4 x5 h → gV c d 21 (6, [some (.ref r0), some (.int x1), some (.int x2), some (.int x3), some (.int x4), some (.int x5)], [], h) Post
  | 0, _, _, _, _, _, _, _, w => w.elim
  | n + 1, r0, x1, x2, x3, x4, x5, h, w => okb21_6 c d Post (wl21_6 c d Post n) (okl21_6 c d Post n) r0 x1 x2 x3 x4 x5 h w
/-- CommandByTurns$Land.goals(III)I -/
def wm21 (c : gx) (d : Nat) (Post : Option Value → gm_H → Prop) (r0 : Nat) (x1 : Int32) (x2 : Int32) (x3 : Int32) (h : gm_H) : Prop :=
  ∃ n, wl21_6 c d Post n r0 x1 x2 x3 0 0 h
theorem okm21 (c : gx) (d : Nat) (Post : Option Value → gm_H → Prop) (r0 : Nat) (x1 : Int32) (x2 : Int32) (x3 : Int32) (h : gm_H) (w : wm21 c d Post r0 x1 x2 x3 h) : gE c (d + 1) 21 [.ref r0, .int x1, .int x2, .int x3] h Post := by
  have hk : ∀ pc i, gm_find gk_21 pc = some i → gm_code (gt_T c.1 c.2.1 c.2.2.1) 21 pc = some i := fun _ _ z => z
  unfold wm21 at w
  refine ge_of (by decide) (Nat.le_of_ble_eq_true rfl) ?_
  show gV c d 21 (0, [some (.ref r0), some (.int x1), some (.int x2), some (.int x3), none, none], [], h) Post
  unfold gV
  refine gw_pst hk 4 (st' := (6, [some (.ref r0), some (.int x1), some (.int x2), some (.int x3), some (.int 0), some (.int 0)], [], h)) rfl ?_
  obtain ⟨n, w⟩ := w
  exact okl21_6 c d Post n _ _ _ _ _ _ _ w
def w22_60 (c : gx) (d : Nat) (Post : Option Value → gm_H → Prop) (K5 : Nat → Int32 → Int32 → Int32 → Int32 → gm_H → Prop) (r0 : Nat) (x1 : Int32) (x2 : Int32) (x3 : Int32) (x4 : Int32) (h : gm_H) : Prop :=
  K5 r0 x1 x2 x3 (x4 + 1) h
theorem ok22_60 (c : gx) (d : Nat) (Post : Option Value → gm_H → Prop) (K5 : Nat → Int32 → Int32 → Int32 → Int32 → gm_H → Prop)  (hK5 : ∀ (r0 : Nat) (x1 : Int32) (x2 : Int32) (x3 : Int32) (x4 : Int32) (h : gm_H), K5 r0 x1 x2 x3 x4 h → gV c d 22 (5, [some (.ref r0), some (.int x1), some (.int x2), some (.int x3), some (.int x4), none], [], h) Post) (r0 : Nat) (x1 : Int32) (x2 : Int32) (x3 : Int32) (x4 : Int32) (h : gm_H) (w : w22_60 c d Post K5 r0 x1 x2 x3 x4 h) : gV c d 22 (60, [some (.ref r0), some (.int x1), some (.int x2), some (.int x3), some (.int x4), none], [], h) Post := by
  have hk : ∀ pc i, gm_find gk_22 pc = some i → gm_code (gt_T c.1 c.2.1 c.2.2.1) 22 pc = some i := fun _ _ z => z
  unfold w22_60 at w
  unfold gV
  refine gw_pst hk 2 (st' := (5, [some (.ref r0), some (.int x1), some (.int x2), some (.int x3), some (.int (x4 + 1)), none], [], h)) rfl ?_
  exact hK5 _ _ _ _ _ _ w
def w22_57 (c : gx) (d : Nat) (Post : Option Value → gm_H → Prop) (K5 : Nat → Int32 → Int32 → Int32 → Int32 → gm_H → Prop) (r0 : Nat) (x1 : Int32) (x2 : Int32) (x4 : Int32) (h : gm_H) : Prop :=
  w22_60 c d Post K5 r0 x1 x2 x4 x4 h
theorem ok22_57 (c : gx) (d : Nat) (Post : Option Value → gm_H → Prop) (K5 : Nat → Int32 → Int32 → Int32 → Int32 → gm_H → Prop)  (hK5 : ∀ (r0 : Nat) (x1 : Int32) (x2 : Int32) (x3 : Int32) (x4 : Int32) (h : gm_H), K5 r0 x1 x2 x3 x4 h → gV c d 22 (5, [some (.ref r0), some (.int x1), some (.int x2), some (.int x3), some (.int x4), none], [], h) Post) (r0 : Nat) (x1 : Int32) (x2 : Int32) (x4 : Int32) (h : gm_H) (w : w22_57 c d Post K5 r0 x1 x2 x4 h) : gV c d 22 (57, [some (.ref r0), some (.int x1), some (.int x2), none, some (.int x4), none], [], h) Post := by
  have hk : ∀ pc i, gm_find gk_22 pc = some i → gm_code (gt_T c.1 c.2.1 c.2.2.1) 22 pc = some i := fun _ _ z => z
  unfold w22_57 at w
  unfold gV
  refine gw_pst hk 2 (st' := (60, [some (.ref r0), some (.int x1), some (.int x2), some (.int x4), some (.int x4), none], [], h)) rfl ?_
  exact ok22_60 c d Post K5 hK5 _ _ _ _ _ _ w
def w22_29 (c : gx) (d : Nat) (Post : Option Value → gm_H → Prop) (K5 : Nat → Int32 → Int32 → Int32 → Int32 → gm_H → Prop) (r0 : Nat) (x1 : Int32) (x2 : Int32) (x3 : Int32) (x4 : Int32) (xs0 : Int32) (h : gm_H) : Prop :=
  ((xs0 = 0 → w22_60 c d Post K5 r0 x1 x2 x3 x4 h) ∧ (¬ (xs0 = 0) → ((x3 = (-1) → w22_57 c d Post K5 r0 x1 x2 x4 h) ∧ (¬ (x3 = (-1)) → (((if 0 ≤ (x3 - x2) then (x3 - x2) else 0 - (x3 - x2)) ≤ (if 0 ≤ (x4 - x2) then (x4 - x2) else 0 - (x4 - x2)) → w22_60 c d Post K5 r0 x1 x2 x3 x4 h) ∧ (¬ ((if 0 ≤ (x3 - x2) then (x3 - x2) else 0 - (x3 - x2)) ≤ (if 0 ≤ (x4 - x2) then (x4 - x2) else 0 - (x4 - x2))) → w22_57 c d Post K5 r0 x1 x2 x4 h))))))
theorem ok22_29 (c : gx) (d : Nat) (Post : Option Value → gm_H → Prop) (K5 : Nat → Int32 → Int32 → Int32 → Int32 → gm_H → Prop)  (hK5 : ∀ (r0 : Nat) (x1 : Int32) (x2 : Int32) (x3 : Int32) (x4 : Int32) (h : gm_H), K5 r0 x1 x2 x3 x4 h → gV c d 22 (5, [some (.ref r0), some (.int x1), some (.int x2), some (.int x3), some (.int x4), none], [], h) Post) (r0 : Nat) (x1 : Int32) (x2 : Int32) (x3 : Int32) (x4 : Int32) (xs0 : Int32) (h : gm_H) (w : w22_29 c d Post K5 r0 x1 x2 x3 x4 xs0 h) : gV c d 22 (29, [some (.ref r0), some (.int x1), some (.int x2), some (.int x3), some (.int x4), none], [.int xs0], h) Post := by
  have hk : ∀ pc i, gm_find gk_22 pc = some i → gm_code (gt_T c.1 c.2.1 c.2.2.1) 22 pc = some i := fun _ _ z => z
  unfold w22_29 at w
  unfold gV
  refine gw_pst hk 2 (st' := (33, [some (.ref r0), some (.int x1), some (.int x2), some (.int x3), some (.int x4), some (.int xs0)], [.int xs0], h)) rfl ?_
  refine gw_br (c := xs0 = 0) (a := (60, [some (.ref r0), some (.int x1), some (.int x2), some (.int x3), some (.int x4), some (.int xs0)], [], h)) (b := (36, [some (.ref r0), some (.int x1), some (.int x2), some (.int x3), some (.int x4), some (.int xs0)], [], h)) (hk _ _ rfl) rfl ⟨fun z1 => ?_, fun z1 => ?_⟩
  · replace w := w.1 z1
    refine gw_le (L' := [some (.ref r0), some (.int x1), some (.int x2), some (.int x3), some (.int x4), none]) (gm_le_k _ (gm_le_k _ (gm_le_k _ (gm_le_k _ (gm_le_k _ (gm_le_n _ gm_le_nil)))))) ?_
    exact ok22_60 c d Post K5 hK5 _ _ _ _ _ _ w
  · replace w := w.2 z1
    refine gw_pst hk 2 (st' := (38, [some (.ref r0), some (.int x1), some (.int x2), some (.int x3), some (.int x4), some (.int xs0)], [.int (-1), .int x3], h)) rfl ?_
    refine gw_br (c := x3 = (-1)) (a := (57, [some (.ref r0), some (.int x1), some (.int x2), some (.int x3), some (.int x4), some (.int xs0)], [], h)) (b := (41, [some (.ref r0), some (.int x1), some (.int x2), some (.int x3), some (.int x4), some (.int xs0)], [], h)) (hk _ _ rfl) rfl ⟨fun z2 => ?_, fun z2 => ?_⟩
    · replace w := w.1 z2
      refine gw_le (L' := [some (.ref r0), some (.int x1), some (.int x2), none, some (.int x4), none]) (gm_le_k _ (gm_le_k _ (gm_le_k _ (gm_le_n _ (gm_le_k _ (gm_le_n _ gm_le_nil)))))) ?_
      exact ok22_57 c d Post K5 hK5 _ _ _ _ _ w
    · replace w := w.2 z2
      refine gw_pst hk 8 (st' := (54, [some (.ref r0), some (.int x1), some (.int x2), some (.int x3), some (.int x4), some (.int xs0)], [.int (if 0 ≤ (x3 - x2) then (x3 - x2) else 0 - (x3 - x2)), .int (if 0 ≤ (x4 - x2) then (x4 - x2) else 0 - (x4 - x2))], h)) rfl ?_
      refine gw_br (c := (if 0 ≤ (x3 - x2) then (x3 - x2) else 0 - (x3 - x2)) ≤ (if 0 ≤ (x4 - x2) then (x4 - x2) else 0 - (x4 - x2))) (a := (60, [some (.ref r0), some (.int x1), some (.int x2), some (.int x3), some (.int x4), some (.int xs0)], [], h)) (b := (57, [some (.ref r0), some (.int x1), some (.int x2), some (.int x3), some (.int x4), some (.int xs0)], [], h)) (hk _ _ rfl) rfl ⟨fun z3 => ?_, fun z3 => ?_⟩
      · replace w := w.1 z3
        refine gw_le (L' := [some (.ref r0), some (.int x1), some (.int x2), some (.int x3), some (.int x4), none]) (gm_le_k _ (gm_le_k _ (gm_le_k _ (gm_le_k _ (gm_le_k _ (gm_le_n _ gm_le_nil)))))) ?_
        exact ok22_60 c d Post K5 hK5 _ _ _ _ _ _ w
      · replace w := w.2 z3
        refine gw_le (L' := [some (.ref r0), some (.int x1), some (.int x2), none, some (.int x4), none]) (gm_le_k _ (gm_le_k _ (gm_le_k _ (gm_le_n _ (gm_le_k _ (gm_le_n _ gm_le_nil)))))) ?_
        exact ok22_57 c d Post K5 hK5 _ _ _ _ _ w
def wb22_5 (c : gx) (d : Nat) (Post : Option Value → gm_H → Prop) (K5 : Nat → Int32 → Int32 → Int32 → Int32 → gm_H → Prop) (r0 : Nat) (x1 : Int32) (x2 : Int32) (x3 : Int32) (x4 : Int32) (h : gm_H) : Prop :=
  ∃ x_1 : Int32, gm_fld h r0 1 2 = some (.int x_1) ∧ ((x_1 ≤ x4 → Post (some (.int x3)) h) ∧ (¬ (x_1 ≤ x4) → ((((x1 >>> (x4 &&& 31)) &&& 1) = 1 → w22_29 c d Post K5 r0 x1 x2 x3 x4 1 h) ∧ (¬ (((x1 >>> (x4 &&& 31)) &&& 1) = 1) → w22_29 c d Post K5 r0 x1 x2 x3 x4 0 h))))
theorem okb22_5 (c : gx) (d : Nat) (Post : Option Value → gm_H → Prop) (K5 : Nat → Int32 → Int32 → Int32 → Int32 → gm_H → Prop)  (hK5 : ∀ (r0 : Nat) (x1 : Int32) (x2 : Int32) (x3 : Int32) (x4 : Int32) (h : gm_H), K5 r0 x1 x2 x3 x4 h → gV c d 22 (5, [some (.ref r0), some (.int x1), some (.int x2), some (.int x3), some (.int x4), none], [], h) Post) (r0 : Nat) (x1 : Int32) (x2 : Int32) (x3 : Int32) (x4 : Int32) (h : gm_H) (w : wb22_5 c d Post K5 r0 x1 x2 x3 x4 h) : gV c d 22 (5, [some (.ref r0), some (.int x1), some (.int x2), some (.int x3), some (.int x4), none], [], h) Post := by
  have hk : ∀ pc i, gm_find gk_22 pc = some i → gm_code (gt_T c.1 c.2.1 c.2.2.1) 22 pc = some i := fun _ _ z => z
  unfold wb22_5 at w
  unfold gV
  refine gw_pst hk 2 (st' := (8, [some (.ref r0), some (.int x1), some (.int x2), some (.int x3), some (.int x4), none], [.ref r0, .int x4], h)) rfl ?_
  obtain ⟨x_1, e1, w⟩ := w
  refine gw_gf (hk _ _ rfl) e1 ?_
  refine gw_br (c := x_1 ≤ x4) (a := (66, [some (.ref r0), some (.int x1), some (.int x2), some (.int x3), some (.int x4), none], [], h)) (b := (14, [some (.ref r0), some (.int x1), some (.int x2), some (.int x3), some (.int x4), none], [], h)) (hk _ _ rfl) rfl ⟨fun z2 => ?_, fun z2 => ?_⟩
  · replace w := w.1 z2
    refine gw_pst hk 1 (st' := (67, [some (.ref r0), some (.int x1), some (.int x2), some (.int x3), some (.int x4), none], [.int x3], h)) rfl ?_
    exact gw_ret (hk _ _ rfl) rfl w
  · replace w := w.2 z2
    refine gw_pst hk 6 (st' := (21, [some (.ref r0), some (.int x1), some (.int x2), some (.int x3), some (.int x4), none], [.int 1, .int ((x1 >>> (x4 &&& 31)) &&& 1)], h)) rfl ?_
    refine gw_br (c := ((x1 >>> (x4 &&& 31)) &&& 1) = 1) (a := (24, [some (.ref r0), some (.int x1), some (.int x2), some (.int x3), some (.int x4), none], [], h)) (b := (28, [some (.ref r0), some (.int x1), some (.int x2), some (.int x3), some (.int x4), none], [], h)) (hk _ _ rfl) rfl ⟨fun z3 => ?_, fun z3 => ?_⟩
    · replace w := w.1 z3
      refine gw_pst hk 2 (st' := (29, [some (.ref r0), some (.int x1), some (.int x2), some (.int x3), some (.int x4), none], [.int 1], h)) rfl ?_
      exact ok22_29 c d Post K5 hK5 _ _ _ _ _ _ _ w
    · replace w := w.2 z3
      refine gw_pst hk 1 (st' := (29, [some (.ref r0), some (.int x1), some (.int x2), some (.int x3), some (.int x4), none], [.int 0], h)) rfl ?_
      exact ok22_29 c d Post K5 hK5 _ _ _ _ _ _ _ w
def wl22_5 (c : gx) (d : Nat) (Post : Option Value → gm_H → Prop) : Nat → Nat → Int32 → Int32 → Int32 → Int32 → gm_H → Prop
  | 0 => fun _ _ _ _ _ _ => False
  | n + 1 => wb22_5 c d Post (wl22_5 c d Post n)
theorem okl22_5 (c : gx) (d : Nat) (Post : Option Value → gm_H → Prop) : ∀ (n : Nat) (r0 : Nat) (x1 : Int32) (x2 : Int32) (x3 : Int32) (x4 : Int32) (h : gm_H), wl22_5 c d Post n r0 x1 x2 x3 x4 h → gV c d 22 (5, [some (.ref r0), some (.int x1), some (.int x2), some (.int x3), some (.int x4), none], [], h) Post
  | 0, _, _, _, _, _, _, w => w.elim
  | n + 1, r0, x1, x2, x3, x4, h, w => okb22_5 c d Post (wl22_5 c d Post n) (okl22_5 c d Post n) r0 x1 x2 x3 x4 h w
/-- CommandByTurns$Land.nearestGoal(II)I -/
def wm22 (c : gx) (d : Nat) (Post : Option Value → gm_H → Prop) (r0 : Nat) (x1 : Int32) (x2 : Int32) (h : gm_H) : Prop :=
  ∃ n, wl22_5 c d Post n r0 x1 x2 (-1) 0 h
theorem okm22 (c : gx) (d : Nat) (Post : Option Value → gm_H → Prop) (r0 : Nat) (x1 : Int32) (x2 : Int32) (h : gm_H) (w : wm22 c d Post r0 x1 x2 h) : gE c (d + 1) 22 [.ref r0, .int x1, .int x2] h Post := by
  have hk : ∀ pc i, gm_find gk_22 pc = some i → gm_code (gt_T c.1 c.2.1 c.2.2.1) 22 pc = some i := fun _ _ z => z
  unfold wm22 at w
  refine ge_of (by decide) (Nat.le_of_ble_eq_true rfl) ?_
  show gV c d 22 (0, [some (.ref r0), some (.int x1), some (.int x2), none, none, none], [], h) Post
  unfold gV
  refine gw_pst hk 4 (st' := (5, [some (.ref r0), some (.int x1), some (.int x2), some (.int (-1)), some (.int 0), none], [], h)) rfl ?_
  obtain ⟨n, w⟩ := w
  exact okl22_5 c d Post n _ _ _ _ _ _ w
def w23_59 (c : gx) (d : Nat) (Post : Option Value → gm_H → Prop) (x3 : Int32) (h : gm_H) : Prop :=
  Post (some (.int x3)) h
theorem ok23_59 (c : gx) (d : Nat) (Post : Option Value → gm_H → Prop)  (x3 : Int32) (h : gm_H) (w : w23_59 c d Post x3 h) : gV c d 23 (59, [none, none, none, some (.int x3), none], [], h) Post := by
  have hk : ∀ pc i, gm_find gk_23 pc = some i → gm_code (gt_T c.1 c.2.1 c.2.2.1) 23 pc = some i := fun _ _ z => z
  unfold w23_59 at w
  unfold gV
  refine gw_pst hk 1 (st' := (60, [none, none, none, some (.int x3), none], [.int x3], h)) rfl ?_
  exact gw_ret (hk _ _ rfl) rfl w
def w23_61 (c : gx) (d : Nat) (Post : Option Value → gm_H → Prop) (K6 : Nat → Int32 → Int32 → Int32 → gm_H → Prop) (r0 : Nat) (x1 : Int32) (x2 : Int32) (x3 : Int32) (h : gm_H) : Prop :=
  K6 r0 x1 x2 (x3 + 1) h
theorem ok23_61 (c : gx) (d : Nat) (Post : Option Value → gm_H → Prop) (K6 : Nat → Int32 → Int32 → Int32 → gm_H → Prop)  (hK6 : ∀ (r0 : Nat) (x1 : Int32) (x2 : Int32) (x3 : Int32) (h : gm_H), K6 r0 x1 x2 x3 h → gV c d 23 (6, [some (.ref r0), some (.int x1), some (.int x2), some (.int x3), none], [], h) Post) (r0 : Nat) (x1 : Int32) (x2 : Int32) (x3 : Int32) (h : gm_H) (w : w23_61 c d Post K6 r0 x1 x2 x3 h) : gV c d 23 (61, [some (.ref r0), some (.int x1), some (.int x2), some (.int x3), none], [], h) Post := by
  have hk : ∀ pc i, gm_find gk_23 pc = some i → gm_code (gt_T c.1 c.2.1 c.2.2.1) 23 pc = some i := fun _ _ z => z
  unfold w23_61 at w
  unfold gV
  refine gw_pst hk 2 (st' := (6, [some (.ref r0), some (.int x1), some (.int x2), some (.int (x3 + 1)), none], [], h)) rfl ?_
  exact hK6 _ _ _ _ _ w
def w23_43 (c : gx) (d : Nat) (Post : Option Value → gm_H → Prop) (K6 : Nat → Int32 → Int32 → Int32 → gm_H → Prop) (r0 : Nat) (x1 : Int32) (x2 : Int32) (x3 : Int32) (x4 : Int32) (h : gm_H) : Prop :=
  ((x4 = 126 → ((x2 = 0 → w23_61 c d Post K6 r0 x1 1 x3 h) ∧ (¬ (x2 = 0) → w23_59 c d Post x3 h))) ∧ (¬ (x4 = 126) → w23_59 c d Post x3 h))
theorem ok23_43 (c : gx) (d : Nat) (Post : Option Value → gm_H → Prop) (K6 : Nat → Int32 → Int32 → Int32 → gm_H → Prop)  (hK6 : ∀ (r0 : Nat) (x1 : Int32) (x2 : Int32) (x3 : Int32) (h : gm_H), K6 r0 x1 x2 x3 h → gV c d 23 (6, [some (.ref r0), some (.int x1), some (.int x2), some (.int x3), none], [], h) Post) (r0 : Nat) (x1 : Int32) (x2 : Int32) (x3 : Int32) (x4 : Int32) (h : gm_H) (w : w23_43 c d Post K6 r0 x1 x2 x3 x4 h) : gV c d 23 (43, [some (.ref r0), some (.int x1), some (.int x2), some (.int x3), some (.int x4)], [], h) Post := by
  have hk : ∀ pc i, gm_find gk_23 pc = some i → gm_code (gt_T c.1 c.2.1 c.2.2.1) 23 pc = some i := fun _ _ z => z
  unfold w23_43 at w
  unfold gV
  refine gw_pst hk 2 (st' := (47, [some (.ref r0), some (.int x1), some (.int x2), some (.int x3), some (.int x4)], [.int 126, .int x4], h)) rfl ?_
  refine gw_br (c := x4 = 126) (a := (50, [some (.ref r0), some (.int x1), some (.int x2), some (.int x3), some (.int x4)], [], h)) (b := (59, [some (.ref r0), some (.int x1), some (.int x2), some (.int x3), some (.int x4)], [], h)) (hk _ _ rfl) rfl ⟨fun z1 => ?_, fun z1 => ?_⟩
  · replace w := w.1 z1
    refine gw_pst hk 1 (st' := (51, [some (.ref r0), some (.int x1), some (.int x2), some (.int x3), some (.int x4)], [.int x2], h)) rfl ?_
    refine gw_br (c := x2 = 0) (a := (54, [some (.ref r0), some (.int x1), some (.int x2), some (.int x3), some (.int x4)], [], h)) (b := (59, [some (.ref r0), some (.int x1), some (.int x2), some (.int x3), some (.int x4)], [], h)) (hk _ _ rfl) rfl ⟨fun z2 => ?_, fun z2 => ?_⟩
    · replace w := w.1 z2
      refine gw_pst hk 3 (st' := (61, [some (.ref r0), some (.int x1), some (.int 1), some (.int x3), some (.int x4)], [], h)) rfl ?_
      refine gw_le (L' := [some (.ref r0), some (.int x1), some (.int 1), some (.int x3), none]) (gm_le_k _ (gm_le_k _ (gm_le_k _ (gm_le_k _ (gm_le_n _ gm_le_nil))))) ?_
      exact ok23_61 c d Post K6 hK6 _ _ _ _ _ w
    · replace w := w.2 z2
      refine gw_le (L' := [none, none, none, some (.int x3), none]) (gm_le_n _ (gm_le_n _ (gm_le_n _ (gm_le_k _ (gm_le_n _ gm_le_nil))))) ?_
      exact ok23_59 c d Post _ _ w
  · replace w := w.2 z1
    refine gw_le (L' := [none, none, none, some (.int x3), none]) (gm_le_n _ (gm_le_n _ (gm_le_n _ (gm_le_k _ (gm_le_n _ gm_le_nil))))) ?_
    exact ok23_59 c d Post _ _ w
def w23_84 (c : gx) (d : Nat) (Post : Option Value → gm_H → Prop) (xs0 : Int32) (h : gm_H) : Prop :=
  Post (some (.int xs0)) h
theorem ok23_84 (c : gx) (d : Nat) (Post : Option Value → gm_H → Prop)  (xs0 : Int32) (h : gm_H) (w : w23_84 c d Post xs0 h) : gV c d 23 (84, [none, none, none, none, none], [.int xs0], h) Post := by
  have hk : ∀ pc i, gm_find gk_23 pc = some i → gm_code (gt_T c.1 c.2.1 c.2.2.1) 23 pc = some i := fun _ _ z => z
  unfold w23_84 at w
  unfold gV
  exact gw_ret (hk _ _ rfl) rfl w
def w23_76 (c : gx) (d : Nat) (Post : Option Value → gm_H → Prop) (r0 : Nat) (h : gm_H) : Prop :=
  ∃ x_1 : Int32, gm_fld h r0 7 1 = some (.int x_1) ∧ w23_84 c d Post x_1 h
theorem ok23_76 (c : gx) (d : Nat) (Post : Option Value → gm_H → Prop)  (r0 : Nat) (h : gm_H) (w : w23_76 c d Post r0 h) : gV c d 23 (76, [some (.ref r0), none, none, none, none], [], h) Post := by
  have hk : ∀ pc i, gm_find gk_23 pc = some i → gm_code (gt_T c.1 c.2.1 c.2.2.1) 23 pc = some i := fun _ _ z => z
  unfold w23_76 at w
  unfold gV
  refine gw_pst hk 1 (st' := (77, [some (.ref r0), none, none, none, none], [.ref r0], h)) rfl ?_
  obtain ⟨x_1, e1, w⟩ := w
  refine gw_gf (hk _ _ rfl) e1 ?_
  refine gw_pst hk 1 (st' := (84, [some (.ref r0), none, none, none, none], [.int x_1], h)) rfl ?_
  refine gw_le (L' := [none, none, none, none, none]) (gm_le_n _ (gm_le_k _ (gm_le_k _ (gm_le_k _ (gm_le_k _ gm_le_nil))))) ?_
  exact ok23_84 c d Post _ _ w
def wb23_6 (c : gx) (d : Nat) (Post : Option Value → gm_H → Prop) (K6 : Nat → Int32 → Int32 → Int32 → gm_H → Prop) (r0 : Nat) (x1 : Int32) (x2 : Int32) (x3 : Int32) (h : gm_H) : Prop :=
  ∃ x_1 : Int32, gm_fld h r0 7 1 = some (.int x_1) ∧ ((x_1 ≤ x3 → ((x1 < 2 → w23_76 c d Post r0 h) ∧ (¬ (x1 < 2) → ((x2 = 0 → w23_84 c d Post (-1) h) ∧ (¬ (x2 = 0) → w23_76 c d Post r0 h))))) ∧ (¬ (x_1 ≤ x3) → (∃ fs5, gm_get h r0 = some (.inr (7, fs5))) ∧ gE c d 61 [.ref r0, .int x3] h (fun v5 h_5 => ∃ x_5 : Int32, v5 = some (.int x_5) ∧ gE c d 60 [.int x_5] h_5 (fun v6 h_6 => ∃ x_6 : Int32, v6 = some (.int x_6) ∧ ((x_6 = 0 → w23_43 c d Post K6 r0 x1 x2 x3 x_5 h_6) ∧ (¬ (x_6 = 0) → ((12 ≤ x1 → w23_43 c d Post K6 r0 x1 x2 x3 x_5 h_6) ∧ (¬ (12 ≤ x1) → w23_61 c d Post K6 r0 (x1 + 1) 0 x3 h_6))))))))
theorem okb23_6 (c : gx) (d : Nat) (Post : Option Value → gm_H → Prop) (K6 : Nat → Int32 → Int32 → Int32 → gm_H → Prop)  (hK6 : ∀ (r0 : Nat) (x1 : Int32) (x2 : Int32) (x3 : Int32) (h : gm_H), K6 r0 x1 x2 x3 h → gV c d 23 (6, [some (.ref r0), some (.int x1), some (.int x2), some (.int x3), none], [], h) Post) (r0 : Nat) (x1 : Int32) (x2 : Int32) (x3 : Int32) (h : gm_H) (w : wb23_6 c d Post K6 r0 x1 x2 x3 h) : gV c d 23 (6, [some (.ref r0), some (.int x1), some (.int x2), some (.int x3), none], [], h) Post := by
  have hk : ∀ pc i, gm_find gk_23 pc = some i → gm_code (gt_T c.1 c.2.1 c.2.2.1) 23 pc = some i := fun _ _ z => z
  unfold wb23_6 at w
  unfold gV
  refine gw_pst hk 2 (st' := (8, [some (.ref r0), some (.int x1), some (.int x2), some (.int x3), none], [.ref r0, .int x3], h)) rfl ?_
  obtain ⟨x_1, e1, w⟩ := w
  refine gw_gf (hk _ _ rfl) e1 ?_
  refine gw_br (c := x_1 ≤ x3) (a := (67, [some (.ref r0), some (.int x1), some (.int x2), some (.int x3), none], [], h)) (b := (14, [some (.ref r0), some (.int x1), some (.int x2), some (.int x3), none], [], h)) (hk _ _ rfl) rfl ⟨fun z2 => ?_, fun z2 => ?_⟩
  · replace w := w.1 z2
    refine gw_pst hk 2 (st' := (69, [some (.ref r0), some (.int x1), some (.int x2), some (.int x3), none], [.int 2, .int x1], h)) rfl ?_
    refine gw_br (c := x1 < 2) (a := (76, [some (.ref r0), some (.int x1), some (.int x2), some (.int x3), none], [], h)) (b := (72, [some (.ref r0), some (.int x1), some (.int x2), some (.int x3), none], [], h)) (hk _ _ rfl) rfl ⟨fun z3 => ?_, fun z3 => ?_⟩
    · replace w := w.1 z3
      refine gw_le (L' := [some (.ref r0), none, none, none, none]) (gm_le_k _ (gm_le_n _ (gm_le_n _ (gm_le_n _ (gm_le_k _ gm_le_nil))))) ?_
      exact ok23_76 c d Post _ _ w
    · replace w := w.2 z3
      refine gw_pst hk 1 (st' := (73, [some (.ref r0), some (.int x1), some (.int x2), some (.int x3), none], [.int x2], h)) rfl ?_
      refine gw_br (c := x2 = 0) (a := (83, [some (.ref r0), some (.int x1), some (.int x2), some (.int x3), none], [], h)) (b := (76, [some (.ref r0), some (.int x1), some (.int x2), some (.int x3), none], [], h)) (hk _ _ rfl) rfl ⟨fun z4 => ?_, fun z4 => ?_⟩
      · replace w := w.1 z4
        refine gw_pst hk 1 (st' := (84, [some (.ref r0), some (.int x1), some (.int x2), some (.int x3), none], [.int (-1)], h)) rfl ?_
        refine gw_le (L' := [none, none, none, none, none]) (gm_le_n _ (gm_le_n _ (gm_le_n _ (gm_le_n _ (gm_le_k _ gm_le_nil))))) ?_
        exact ok23_84 c d Post _ _ w
      · replace w := w.2 z4
        refine gw_le (L' := [some (.ref r0), none, none, none, none]) (gm_le_k _ (gm_le_n _ (gm_le_n _ (gm_le_n _ (gm_le_k _ gm_le_nil))))) ?_
        exact ok23_76 c d Post _ _ w
  · replace w := w.2 z2
    refine gw_pst hk 2 (st' := (16, [some (.ref r0), some (.int x1), some (.int x2), some (.int x3), none], [.int x3, .ref r0], h)) rfl ?_
    obtain ⟨⟨fs5, e5⟩, w⟩ := w
    refine gw_call (jj := 61) (As := [.ref r0, .int x3]) (rest := []) (hk _ _ rfl) (fun _ => rfl) rfl rfl (Nat.le_of_ble_eq_true rfl) (gm_rcv_v rfl e5 rfl) ?_
    refine ge_imp w (fun v5 h_5 w => ?_)
    obtain ⟨x_5, rfl, w⟩ := w
    show gV c d 23 (19, [some (.ref r0), some (.int x1), some (.int x2), some (.int x3), none], [.int x_5], h_5) Post
    refine gw_pst hk 2 (st' := (23, [some (.ref r0), some (.int x1), some (.int x2), some (.int x3), some (.int x_5)], [.int x_5], h_5)) rfl ?_
    refine gw_call (jj := 60) (As := [.int x_5]) (rest := []) (hk _ _ rfl) (fun _ => rfl) rfl rfl (Nat.le_of_ble_eq_true rfl) rfl ?_
    refine ge_imp w (fun v6 h_6 w => ?_)
    obtain ⟨x_6, rfl, w⟩ := w
    show gV c d 23 (26, [some (.ref r0), some (.int x1), some (.int x2), some (.int x3), some (.int x_5)], [.int x_6], h_6) Post
    refine gw_br (c := x_6 = 0) (a := (43, [some (.ref r0), some (.int x1), some (.int x2), some (.int x3), some (.int x_5)], [], h_6)) (b := (29, [some (.ref r0), some (.int x1), some (.int x2), some (.int x3), some (.int x_5)], [], h_6)) (hk _ _ rfl) rfl ⟨fun z7 => ?_, fun z7 => ?_⟩
    · replace w := w.1 z7
      exact ok23_43 c d Post K6 hK6 _ _ _ _ _ _ w
    · replace w := w.2 z7
      refine gw_pst hk 2 (st' := (32, [some (.ref r0), some (.int x1), some (.int x2), some (.int x3), some (.int x_5)], [.int 12, .int x1], h_6)) rfl ?_
      refine gw_br (c := 12 ≤ x1) (a := (43, [some (.ref r0), some (.int x1), some (.int x2), some (.int x3), some (.int x_5)], [], h_6)) (b := (35, [some (.ref r0), some (.int x1), some (.int x2), some (.int x3), some (.int x_5)], [], h_6)) (hk _ _ rfl) rfl ⟨fun z8 => ?_, fun z8 => ?_⟩
      · replace w := w.1 z8
        exact ok23_43 c d Post K6 hK6 _ _ _ _ _ _ w
      · replace w := w.2 z8
        refine gw_pst hk 4 (st' := (61, [some (.ref r0), some (.int (x1 + 1)), some (.int 0), some (.int x3), some (.int x_5)], [], h_6)) rfl ?_
        refine gw_le (L' := [some (.ref r0), some (.int (x1 + 1)), some (.int 0), some (.int x3), none]) (gm_le_k _ (gm_le_k _ (gm_le_k _ (gm_le_k _ (gm_le_n _ gm_le_nil))))) ?_
        exact ok23_61 c d Post K6 hK6 _ _ _ _ _ w
def wl23_6 (c : gx) (d : Nat) (Post : Option Value → gm_H → Prop) : Nat → Nat → Int32 → Int32 → Int32 → gm_H → Prop
  | 0 => fun _ _ _ _ _ => False
  | n + 1 => wb23_6 c d Post (wl23_6 c d Post n)
theorem okl23_6 (c : gx) (d : Nat) (Post : Option Value → gm_H → Prop) : ∀ (n : Nat) (r0 : Nat) (x1 : Int32) (x2 : Int32) (x3 : Int32) (h : gm_H), wl23_6 c d Post n r0 x1 x2 x3 h → gV c d 23 (6, [some (.ref r0), some (.int x1), some (.int x2), some (.int x3), none], [], h) Post
  | 0, _, _, _, _, _, w => w.elim
  | n + 1, r0, x1, x2, x3, h, w => okb23_6 c d Post (wl23_6 c d Post n) (okl23_6 c d Post n) r0 x1 x2 x3 h w
/-- CommandByTurns$Land.misreadAt(LCommandByTurns$Text;)I -/
def wm23 (c : gx) (d : Nat) (Post : Option Value → gm_H → Prop) (r0 : Nat) (h : gm_H) : Prop :=
  ∃ n, wl23_6 c d Post n r0 0 1 0 h
theorem okm23 (c : gx) (d : Nat) (Post : Option Value → gm_H → Prop) (r0 : Nat) (h : gm_H) (w : wm23 c d Post r0 h) : gE c (d + 1) 23 [.ref r0] h Post := by
  have hk : ∀ pc i, gm_find gk_23 pc = some i → gm_code (gt_T c.1 c.2.1 c.2.2.1) 23 pc = some i := fun _ _ z => z
  unfold wm23 at w
  refine ge_of (by decide) (Nat.le_of_ble_eq_true rfl) ?_
  show gV c d 23 (0, [some (.ref r0), none, none, none, none], [], h) Post
  unfold gV
  refine gw_pst hk 6 (st' := (6, [some (.ref r0), some (.int 0), some (.int 1), some (.int 0), none], [], h)) rfl ?_
  obtain ⟨n, w⟩ := w
  exact okl23_6 c d Post n _ _ _ _ _ w
def w24_87 (c : gx) (d : Nat) (Post : Option Value → gm_H → Prop) (K12 : Nat → Nat → Int32 → gm_H → Prop) (r0 : Nat) (r1 : Nat) (x2 : Int32) (h : gm_H) : Prop :=
  K12 r0 r1 (x2 + 1) h
theorem ok24_87 (c : gx) (d : Nat) (Post : Option Value → gm_H → Prop) (K12 : Nat → Nat → Int32 → gm_H → Prop)  (hK12 : ∀ (r0 : Nat) (r1 : Nat) (x2 : Int32) (h : gm_H), K12 r0 r1 x2 h → gV c d 24 (12, [some (.ref r0), some (.ref r1), some (.int x2), none], [], h) Post) (r0 : Nat) (r1 : Nat) (x2 : Int32) (h : gm_H) (w : w24_87 c d Post K12 r0 r1 x2 h) : gV c d 24 (87, [some (.ref r0), some (.ref r1), some (.int x2), none], [], h) Post := by
  have hk : ∀ pc i, gm_find gk_24 pc = some i → gm_code (gt_T c.1 c.2.1 c.2.2.1) 24 pc = some i := fun _ _ z => z
  unfold w24_87 at w
  unfold gV
  refine gw_pst hk 2 (st' := (12, [some (.ref r0), some (.ref r1), some (.int (x2 + 1)), none], [], h)) rfl ?_
  exact hK12 _ _ _ _ w
def wb24_12 (c : gx) (d : Nat) (Post : Option Value → gm_H → Prop) (K12 : Nat → Nat → Int32 → gm_H → Prop) (r0 : Nat) (r1 : Nat) (x2 : Int32) (h : gm_H) : Prop :=
  ∃ x_1 : Int32, gm_fld h r1 7 1 = some (.int x_1) ∧ ((x_1 ≤ x2 → Post none h) ∧ (¬ (x_1 ≤ x2) → (∃ fs3, gm_get h r1 = some (.inr (7, fs3))) ∧ gE c d 61 [.ref r1, .int x2] h (fun v3 h_3 => ∃ x_3 : Int32, v3 = some (.int x_3) ∧ ((x_3 = 126 → ∃ x_5 : Int32, gm_fld h_3 r0 1 1 = some (.int x_5) ∧ ∃ x_6 : Int32, gm_fld h_3 r0 1 2 = some (.int x_6) ∧ ∃ fs7 : List Value, gm_get h_3 r0 = some (.inr (1, fs7)) ∧ 1 < fs7.length ∧ ∀ h_7 : gm_H, h_7 = gm_put h_3 r0 (.inr (1, fs7.set 1 (.int (x_5 ||| (1 <<< ((x_6 - 1) &&& 31)))))) → w24_87 c d Post K12 r0 r1 x2 h_7) ∧ (¬ (x_3 = 126) → ∃ x_8 : Int32, gm_fld h_3 r0 1 2 = some (.int x_8) ∧ ∃ q_9 : Nat, gm_fld h_3 r0 1 0 = some (.ref q_9) ∧ ∃ (n10 : Nat) (f10 : Nat → Int32), gm_get h_3 q_9 = some (.inl (0, n10, .inl f10)) ∧ (((Int32.ofNat n10) ≤ x_8 → w24_87 c d Post K12 r0 r1 x2 h_3) ∧ (¬ ((Int32.ofNat n10) ≤ x_8) → ∃ q_12 : Nat, gm_fld h_3 r0 1 0 = some (.ref q_12) ∧ ∃ x_13 : Int32, gm_fld h_3 r0 1 2 = some (.int x_13) ∧ ∃ (n14 : Nat) (f14 : Nat → Int32), gm_get h_3 q_12 = some (.inl (0, n14, .inl f14)) ∧ vp_in x_13 n14 ∧ ∀ h_14 : gm_H, h_14 = gm_put h_3 q_12 (.inl (0, n14, .inl (upd f14 (x_13 : Int32).toNatClampNeg (vp_nar .int (x_3 - 48))))) → ∃ x_15 : Int32, gm_fld h_14 r0 1 2 = some (.int x_15) ∧ ∃ fs16 : List Value, gm_get h_14 r0 = some (.inr (1, fs16)) ∧ 2 < fs16.length ∧ ∀ h_16 : gm_H, h_16 = gm_put h_14 r0 (.inr (1, fs16.set 2 (.int (x_15 + 1)))) → w24_87 c d Post K12 r0 r1 x2 h_16)))))))
theorem okb24_12 (c : gx) (d : Nat) (Post : Option Value → gm_H → Prop) (K12 : Nat → Nat → Int32 → gm_H → Prop)  (hK12 : ∀ (r0 : Nat) (r1 : Nat) (x2 : Int32) (h : gm_H), K12 r0 r1 x2 h → gV c d 24 (12, [some (.ref r0), some (.ref r1), some (.int x2), none], [], h) Post) (r0 : Nat) (r1 : Nat) (x2 : Int32) (h : gm_H) (w : wb24_12 c d Post K12 r0 r1 x2 h) : gV c d 24 (12, [some (.ref r0), some (.ref r1), some (.int x2), none], [], h) Post := by
  have hk : ∀ pc i, gm_find gk_24 pc = some i → gm_code (gt_T c.1 c.2.1 c.2.2.1) 24 pc = some i := fun _ _ z => z
  unfold wb24_12 at w
  unfold gV
  refine gw_pst hk 2 (st' := (14, [some (.ref r0), some (.ref r1), some (.int x2), none], [.ref r1, .int x2], h)) rfl ?_
  obtain ⟨x_1, e1, w⟩ := w
  refine gw_gf (hk _ _ rfl) e1 ?_
  refine gw_br (c := x_1 ≤ x2) (a := (93, [some (.ref r0), some (.ref r1), some (.int x2), none], [], h)) (b := (20, [some (.ref r0), some (.ref r1), some (.int x2), none], [], h)) (hk _ _ rfl) rfl ⟨fun z2 => ?_, fun z2 => ?_⟩
  · replace w := w.1 z2
    exact gw_ret (hk _ _ rfl) rfl w
  · replace w := w.2 z2
    refine gw_pst hk 2 (st' := (22, [some (.ref r0), some (.ref r1), some (.int x2), none], [.int x2, .ref r1], h)) rfl ?_
    obtain ⟨⟨fs3, e3⟩, w⟩ := w
    refine gw_call (jj := 61) (As := [.ref r1, .int x2]) (rest := []) (hk _ _ rfl) (fun _ => rfl) rfl rfl (Nat.le_of_ble_eq_true rfl) (gm_rcv_v rfl e3 rfl) ?_
    refine ge_imp w (fun v3 h_3 w => ?_)
    obtain ⟨x_3, rfl, w⟩ := w
    show gV c d 24 (25, [some (.ref r0), some (.ref r1), some (.int x2), none], [.int x_3], h_3) Post
    refine gw_pst hk 3 (st' := (29, [some (.ref r0), some (.ref r1), some (.int x2), some (.int x_3)], [.int 126, .int x_3], h_3)) rfl ?_
    refine gw_br (c := x_3 = 126) (a := (32, [some (.ref r0), some (.ref r1), some (.int x2), some (.int x_3)], [], h_3)) (b := (52, [some (.ref r0), some (.ref r1), some (.int x2), some (.int x_3)], [], h_3)) (hk _ _ rfl) rfl ⟨fun z4 => ?_, fun z4 => ?_⟩
    · replace w := w.1 z4
      refine gw_pst hk 2 (st' := (34, [some (.ref r0), some (.ref r1), some (.int x2), some (.int x_3)], [.ref r0, .ref r0], h_3)) rfl ?_
      obtain ⟨x_5, e5, w⟩ := w
      refine gw_gf (hk _ _ rfl) e5 ?_
      refine gw_pst hk 2 (st' := (39, [some (.ref r0), some (.ref r1), some (.int x2), some (.int x_3)], [.ref r0, .int 1, .int x_5, .ref r0], h_3)) rfl ?_
      obtain ⟨x_6, e6, w⟩ := w
      refine gw_gf (hk _ _ rfl) e6 ?_
      refine gw_pst hk 4 (st' := (46, [some (.ref r0), some (.ref r1), some (.int x2), some (.int x_3)], [.int (x_5 ||| (1 <<< ((x_6 - 1) &&& 31))), .ref r0], h_3)) rfl ?_
      obtain ⟨fs7, e7, l7, w⟩ := w
      refine gw_pf (hk _ _ rfl) e7 l7 rfl ?_
      obtain ⟨h_7, eh7⟩ : ∃ z, z = gm_put h_3 r0 (.inr (1, fs7.set 1 (.int (x_5 ||| (1 <<< ((x_6 - 1) &&& 31)))))) := ⟨_, rfl⟩
      rw [← eh7]
      replace w := w h_7 eh7
      refine gw_pst hk 1 (st' := (87, [some (.ref r0), some (.ref r1), some (.int x2), some (.int x_3)], [], h_7)) rfl ?_
      refine gw_le (L' := [some (.ref r0), some (.ref r1), some (.int x2), none]) (gm_le_k _ (gm_le_k _ (gm_le_k _ (gm_le_n _ gm_le_nil)))) ?_
      exact ok24_87 c d Post K12 hK12 _ _ _ _ w
    · replace w := w.2 z4
      refine gw_pst hk 1 (st' := (53, [some (.ref r0), some (.ref r1), some (.int x2), some (.int x_3)], [.ref r0], h_3)) rfl ?_
      obtain ⟨x_8, e8, w⟩ := w
      refine gw_gf (hk _ _ rfl) e8 ?_
      refine gw_pst hk 1 (st' := (57, [some (.ref r0), some (.ref r1), some (.int x2), some (.int x_3)], [.ref r0, .int x_8], h_3)) rfl ?_
      obtain ⟨q_9, e9, w⟩ := w
      refine gw_gf (hk _ _ rfl) e9 ?_
      obtain ⟨n10, f10, e10, w⟩ := w
      refine gw_alen (hk _ _ rfl) e10 (by decide) ?_
      refine gw_br (c := (Int32.ofNat n10) ≤ x_8) (a := (87, [some (.ref r0), some (.ref r1), some (.int x2), some (.int x_3)], [], h_3)) (b := (64, [some (.ref r0), some (.ref r1), some (.int x2), some (.int x_3)], [], h_3)) (hk _ _ rfl) rfl ⟨fun z11 => ?_, fun z11 => ?_⟩
      · replace w := w.1 z11
        refine gw_le (L' := [some (.ref r0), some (.ref r1), some (.int x2), none]) (gm_le_k _ (gm_le_k _ (gm_le_k _ (gm_le_n _ gm_le_nil)))) ?_
        exact ok24_87 c d Post K12 hK12 _ _ _ _ w
      · replace w := w.2 z11
        refine gw_pst hk 1 (st' := (65, [some (.ref r0), some (.ref r1), some (.int x2), some (.int x_3)], [.ref r0], h_3)) rfl ?_
        obtain ⟨q_12, e12, w⟩ := w
        refine gw_gf (hk _ _ rfl) e12 ?_
        refine gw_pst hk 1 (st' := (69, [some (.ref r0), some (.ref r1), some (.int x2), some (.int x_3)], [.ref r0, .ref q_12], h_3)) rfl ?_
        obtain ⟨x_13, e13, w⟩ := w
        refine gw_gf (hk _ _ rfl) e13 ?_
        refine gw_pst hk 3 (st' := (76, [some (.ref r0), some (.ref r1), some (.int x2), some (.int x_3)], [.int (x_3 - 48), .int x_13, .ref q_12], h_3)) rfl ?_
        obtain ⟨n14, f14, e14, b14, w⟩ := w
        refine gw_ast (hk _ _ rfl) (Or.inl ⟨rfl, rfl, rfl⟩) e14 b14 ?_
        obtain ⟨h_14, eh14⟩ : ∃ z, z = gm_put h_3 q_12 (.inl (0, n14, .inl (upd f14 (x_13 : Int32).toNatClampNeg (vp_nar .int (x_3 - 48))))) := ⟨_, rfl⟩
        rw [← eh14]
        replace w := w h_14 eh14
        refine gw_pst hk 2 (st' := (79, [some (.ref r0), some (.ref r1), some (.int x2), some (.int x_3)], [.ref r0, .ref r0], h_14)) rfl ?_
        obtain ⟨x_15, e15, w⟩ := w
        refine gw_gf (hk _ _ rfl) e15 ?_
        refine gw_pst hk 2 (st' := (84, [some (.ref r0), some (.ref r1), some (.int x2), some (.int x_3)], [.int (x_15 + 1), .ref r0], h_14)) rfl ?_
        obtain ⟨fs16, e16, l16, w⟩ := w
        refine gw_pf (hk _ _ rfl) e16 l16 rfl ?_
        obtain ⟨h_16, eh16⟩ : ∃ z, z = gm_put h_14 r0 (.inr (1, fs16.set 2 (.int (x_15 + 1)))) := ⟨_, rfl⟩
        rw [← eh16]
        replace w := w h_16 eh16
        refine gw_le (L' := [some (.ref r0), some (.ref r1), some (.int x2), none]) (gm_le_k _ (gm_le_k _ (gm_le_k _ (gm_le_n _ gm_le_nil)))) ?_
        exact ok24_87 c d Post K12 hK12 _ _ _ _ w
def wl24_12 (c : gx) (d : Nat) (Post : Option Value → gm_H → Prop) : Nat → Nat → Nat → Int32 → gm_H → Prop
  | 0 => fun _ _ _ _ => False
  | n + 1 => wb24_12 c d Post (wl24_12 c d Post n)
theorem okl24_12 (c : gx) (d : Nat) (Post : Option Value → gm_H → Prop) : ∀ (n : Nat) (r0 : Nat) (r1 : Nat) (x2 : Int32) (h : gm_H), wl24_12 c d Post n r0 r1 x2 h → gV c d 24 (12, [some (.ref r0), some (.ref r1), some (.int x2), none], [], h) Post
  | 0, _, _, _, _, w => w.elim
  | n + 1, r0, r1, x2, h, w => okb24_12 c d Post (wl24_12 c d Post n) (okl24_12 c d Post n) r0 r1 x2 h w
/-- CommandByTurns$Land.read(LCommandByTurns$Text;)V -/
def wm24 (c : gx) (d : Nat) (Post : Option Value → gm_H → Prop) (r0 : Nat) (r1 : Nat) (h : gm_H) : Prop :=
  ∃ fs1 : List Value, gm_get h r0 = some (.inr (1, fs1)) ∧ 2 < fs1.length ∧ ∀ h_1 : gm_H, h_1 = gm_put h r0 (.inr (1, fs1.set 2 (.int 0))) → ∃ fs2 : List Value, gm_get h_1 r0 = some (.inr (1, fs2)) ∧ 1 < fs2.length ∧ ∀ h_2 : gm_H, h_2 = gm_put h_1 r0 (.inr (1, fs2.set 1 (.int 0))) → ∃ n, wl24_12 c d Post n r0 r1 0 h_2
theorem okm24 (c : gx) (d : Nat) (Post : Option Value → gm_H → Prop) (r0 : Nat) (r1 : Nat) (h : gm_H) (w : wm24 c d Post r0 r1 h) : gE c (d + 1) 24 [.ref r0, .ref r1] h Post := by
  have hk : ∀ pc i, gm_find gk_24 pc = some i → gm_code (gt_T c.1 c.2.1 c.2.2.1) 24 pc = some i := fun _ _ z => z
  unfold wm24 at w
  refine ge_of (by decide) (Nat.le_of_ble_eq_true rfl) ?_
  show gV c d 24 (0, [some (.ref r0), some (.ref r1), none, none], [], h) Post
  unfold gV
  refine gw_pst hk 2 (st' := (2, [some (.ref r0), some (.ref r1), none, none], [.int 0, .ref r0], h)) rfl ?_
  obtain ⟨fs1, e1, l1, w⟩ := w
  refine gw_pf (hk _ _ rfl) e1 l1 rfl ?_
  obtain ⟨h_1, eh1⟩ : ∃ z, z = gm_put h r0 (.inr (1, fs1.set 2 (.int 0))) := ⟨_, rfl⟩
  rw [← eh1]
  replace w := w h_1 eh1
  refine gw_pst hk 2 (st' := (7, [some (.ref r0), some (.ref r1), none, none], [.int 0, .ref r0], h_1)) rfl ?_
  obtain ⟨fs2, e2, l2, w⟩ := w
  refine gw_pf (hk _ _ rfl) e2 l2 rfl ?_
  obtain ⟨h_2, eh2⟩ : ∃ z, z = gm_put h_1 r0 (.inr (1, fs2.set 1 (.int 0))) := ⟨_, rfl⟩
  rw [← eh2]
  replace w := w h_2 eh2
  refine gw_pst hk 2 (st' := (12, [some (.ref r0), some (.ref r1), some (.int 0), none], [], h_2)) rfl ?_
  obtain ⟨n, w⟩ := w
  exact okl24_12 c d Post n _ _ _ _ w
def w25_52 (c : gx) (d : Nat) (Post : Option Value → gm_H → Prop) (K6 : Nat → Int32 → Int32 → Int32 → Int32 → Int32 → Int32 → gm_H → Prop) (r0 : Nat) (x1 : Int32) (x2 : Int32) (x3 : Int32) (x4 : Int32) (x5 : Int32) (x6 : Int32) (rs0 : Nat) (xs1 : Int32) (xs2 : Int32) (h : gm_H) : Prop :=
  ∃ (n1 : Nat) (f1 : Nat → Int32), gm_get h rs0 = some (.inl (0, n1, .inl f1)) ∧ vp_in xs1 n1 ∧ ∀ h_1 : gm_H, h_1 = gm_put h rs0 (.inl (0, n1, .inl (upd f1 (xs1 : Int32).toNatClampNeg (vp_nar .int xs2)))) → ∃ q_2 : Nat, gm_fld h_1 r0 1 0 = some (.ref q_2) ∧ ∃ (n3 : Nat) (f3 : Nat → Int32), gm_get h_1 q_2 = some (.inl (0, n3, .inl f3)) ∧ vp_in x6 n3 ∧ K6 r0 x1 x2 x3 x4 (x5 + (f3 (x6 : Int32).toNatClampNeg)) (x6 + 1) h_1
theorem ok25_52 (c : gx) (d : Nat) (Post : Option Value → gm_H → Prop) (K6 : Nat → Int32 → Int32 → Int32 → Int32 → Int32 → Int32 → gm_H → Prop)  (hK6 : ∀ (r0 : Nat) (x1 : Int32) (x2 : Int32) (x3 : Int32) (x4 : Int32) (x5 : Int32) (x6 : Int32) (h : gm_H), K6 r0 x1 x2 x3 x4 x5 x6 h → gV c d 25 (6, [some (.ref r0), some (.int x1), some (.int x2), some (.int x3), some (.int x4), some (.int x5), some (.int x6)], [], h) Post) (r0 : Nat) (x1 : Int32) (x2 : Int32) (x3 : Int32) (x4 : Int32) (x5 : Int32) (x6 : Int32) (rs0 : Nat) (xs1 : Int32) (xs2 : Int32) (h : gm_H) (w : w25_52 c d Post K6 r0 x1 x2 x3 x4 x5 x6 rs0 xs1 xs2 h) : gV c d 25 (52, [some (.ref r0), some (.int x1), some (.int x2), some (.int x3), some (.int x4), some (.int x5), some (.int x6)], [.int xs2, .int xs1, .ref rs0], h) Post := by
  have hk : ∀ pc i, gm_find gk_25 pc = some i → gm_code (gt_T c.1 c.2.1 c.2.2.1) 25 pc = some i := fun _ _ z => z
  unfold w25_52 at w
  unfold gV
  obtain ⟨n1, f1, e1, b1, w⟩ := w
  refine gw_ast (hk _ _ rfl) (Or.inl ⟨rfl, rfl, rfl⟩) e1 b1 ?_
  obtain ⟨h_1, eh1⟩ : ∃ z, z = gm_put h rs0 (.inl (0, n1, .inl (upd f1 (xs1 : Int32).toNatClampNeg (vp_nar .int xs2)))) := ⟨_, rfl⟩
  rw [← eh1]
  replace w := w h_1 eh1
  refine gw_pst hk 2 (st' := (56, [some (.ref r0), some (.int x1), some (.int x2), some (.int x3), some (.int x4), some (.int x5), some (.int x6)], [.ref r0, .int x5], h_1)) rfl ?_
  obtain ⟨q_2, e2, w⟩ := w
  refine gw_gf (hk _ _ rfl) e2 ?_
  refine gw_pst hk 1 (st' := (61, [some (.ref r0), some (.int x1), some (.int x2), some (.int x3), some (.int x4), some (.int x5), some (.int x6)], [.int x6, .ref q_2, .int x5], h_1)) rfl ?_
  obtain ⟨n3, f3, e3, b3, w⟩ := w
  refine gw_ald (hk _ _ rfl) (Or.inl ⟨rfl, rfl⟩) e3 b3 ?_
  refine gw_pst hk 4 (st' := (6, [some (.ref r0), some (.int x1), some (.int x2), some (.int x3), some (.int x4), some (.int (x5 + (f3 (x6 : Int32).toNatClampNeg))), some (.int (x6 + 1))], [], h_1)) rfl ?_
  exact hK6 _ _ _ _ _ _ _ _ w
def w25_71 (c : gx) (d : Nat) (Post : Option Value → gm_H → Prop) (x5 : Int32) (h : gm_H) : Prop :=
  Post (some (.int x5)) h
theorem ok25_71 (c : gx) (d : Nat) (Post : Option Value → gm_H → Prop)  (x5 : Int32) (h : gm_H) (w : w25_71 c d Post x5 h) : gV c d 25 (71, [none, none, none, none, none, some (.int x5), none], [], h) Post := by
  have hk : ∀ pc i, gm_find gk_25 pc = some i → gm_code (gt_T c.1 c.2.1 c.2.2.1) 25 pc = some i := fun _ _ z => z
  unfold w25_71 at w
  unfold gV
  refine gw_pst hk 1 (st' := (73, [none, none, none, none, none, some (.int x5), none], [.int x5], h)) rfl ?_
  exact gw_ret (hk _ _ rfl) rfl w
def wb25_6 (c : gx) (d : Nat) (Post : Option Value → gm_H → Prop) (K6 : Nat → Int32 → Int32 → Int32 → Int32 → Int32 → Int32 → gm_H → Prop) (r0 : Nat) (x1 : Int32) (x2 : Int32) (x3 : Int32) (x4 : Int32) (x5 : Int32) (x6 : Int32) (h : gm_H) : Prop :=
  ∃ x_1 : Int32, gm_fld h r0 1 2 = some (.int x_1) ∧ ((x_1 ≤ x6 → w25_71 c d Post x5 h) ∧ (¬ (x_1 ≤ x6) → ∃ q_3 : Nat, gm_fld h r0 1 0 = some (.ref q_3) ∧ ∃ (n4 : Nat) (f4 : Nat → Int32), gm_get h q_3 = some (.inl (0, n4, .inl f4)) ∧ (((Int32.ofNat n4) ≤ x6 → w25_71 c d Post x5 h) ∧ (¬ ((Int32.ofNat n4) ≤ x6) → ∃ q_6 : Nat, gm_fld h r0 1 0 = some (.ref q_6) ∧ ((x2 ≤ x6 → w25_52 c d Post K6 r0 x1 x2 x3 x4 x5 x6 q_6 x6 0 h) ∧ (¬ (x2 ≤ x6) → gE c d 26 [.int x1, .int (x3 + (x6 * x4))] h (fun v8 h_8 => ∃ x_8 : Int32, v8 = some (.int x_8) ∧ w25_52 c d Post K6 r0 x1 x2 x3 x4 x5 x6 q_6 x6 x_8 h_8)))))))
theorem okb25_6 (c : gx) (d : Nat) (Post : Option Value → gm_H → Prop) (K6 : Nat → Int32 → Int32 → Int32 → Int32 → Int32 → Int32 → gm_H → Prop)  (hK6 : ∀ (r0 : Nat) (x1 : Int32) (x2 : Int32) (x3 : Int32) (x4 : Int32) (x5 : Int32) (x6 : Int32) (h : gm_H), K6 r0 x1 x2 x3 x4 x5 x6 h → gV c d 25 (6, [some (.ref r0), some (.int x1), some (.int x2), some (.int x3), some (.int x4), some (.int x5), some (.int x6)], [], h) Post) (r0 : Nat) (x1 : Int32) (x2 : Int32) (x3 : Int32) (x4 : Int32) (x5 : Int32) (x6 : Int32) (h : gm_H) (w : wb25_6 c d Post K6 r0 x1 x2 x3 x4 x5 x6 h) : gV c d 25 (6, [some (.ref r0), some (.int x1), some (.int x2), some (.int x3), some (.int x4), some (.int x5), some (.int x6)], [], h) Post := by
  have hk : ∀ pc i, gm_find gk_25 pc = some i → gm_code (gt_T c.1 c.2.1 c.2.2.1) 25 pc = some i := fun _ _ z => z
  unfold wb25_6 at w
  unfold gV
  refine gw_pst hk 2 (st' := (9, [some (.ref r0), some (.int x1), some (.int x2), some (.int x3), some (.int x4), some (.int x5), some (.int x6)], [.ref r0, .int x6], h)) rfl ?_
  obtain ⟨x_1, e1, w⟩ := w
  refine gw_gf (hk _ _ rfl) e1 ?_
  refine gw_br (c := x_1 ≤ x6) (a := (71, [some (.ref r0), some (.int x1), some (.int x2), some (.int x3), some (.int x4), some (.int x5), some (.int x6)], [], h)) (b := (15, [some (.ref r0), some (.int x1), some (.int x2), some (.int x3), some (.int x4), some (.int x5), some (.int x6)], [], h)) (hk _ _ rfl) rfl ⟨fun z2 => ?_, fun z2 => ?_⟩
  · replace w := w.1 z2
    refine gw_le (L' := [none, none, none, none, none, some (.int x5), none]) (gm_le_n _ (gm_le_n _ (gm_le_n _ (gm_le_n _ (gm_le_n _ (gm_le_k _ (gm_le_n _ gm_le_nil))))))) ?_
    exact ok25_71 c d Post _ _ w
  · replace w := w.2 z2
    refine gw_pst hk 2 (st' := (18, [some (.ref r0), some (.int x1), some (.int x2), some (.int x3), some (.int x4), some (.int x5), some (.int x6)], [.ref r0, .int x6], h)) rfl ?_
    obtain ⟨q_3, e3, w⟩ := w
    refine gw_gf (hk _ _ rfl) e3 ?_
    obtain ⟨n4, f4, e4, w⟩ := w
    refine gw_alen (hk _ _ rfl) e4 (by decide) ?_
    refine gw_br (c := (Int32.ofNat n4) ≤ x6) (a := (71, [some (.ref r0), some (.int x1), some (.int x2), some (.int x3), some (.int x4), some (.int x5), some (.int x6)], [], h)) (b := (25, [some (.ref r0), some (.int x1), some (.int x2), some (.int x3), some (.int x4), some (.int x5), some (.int x6)], [], h)) (hk _ _ rfl) rfl ⟨fun z5 => ?_, fun z5 => ?_⟩
    · replace w := w.1 z5
      refine gw_le (L' := [none, none, none, none, none, some (.int x5), none]) (gm_le_n _ (gm_le_n _ (gm_le_n _ (gm_le_n _ (gm_le_n _ (gm_le_k _ (gm_le_n _ gm_le_nil))))))) ?_
      exact ok25_71 c d Post _ _ w
    · replace w := w.2 z5
      refine gw_pst hk 1 (st' := (26, [some (.ref r0), some (.int x1), some (.int x2), some (.int x3), some (.int x4), some (.int x5), some (.int x6)], [.ref r0], h)) rfl ?_
      obtain ⟨q_6, e6, w⟩ := w
      refine gw_gf (hk _ _ rfl) e6 ?_
      refine gw_pst hk 3 (st' := (34, [some (.ref r0), some (.int x1), some (.int x2), some (.int x3), some (.int x4), some (.int x5), some (.int x6)], [.int x2, .int x6, .int x6, .ref q_6], h)) rfl ?_
      refine gw_br (c := x2 ≤ x6) (a := (51, [some (.ref r0), some (.int x1), some (.int x2), some (.int x3), some (.int x4), some (.int x5), some (.int x6)], [.int x6, .ref q_6], h)) (b := (37, [some (.ref r0), some (.int x1), some (.int x2), some (.int x3), some (.int x4), some (.int x5), some (.int x6)], [.int x6, .ref q_6], h)) (hk _ _ rfl) rfl ⟨fun z7 => ?_, fun z7 => ?_⟩
      · replace w := w.1 z7
        refine gw_pst hk 1 (st' := (52, [some (.ref r0), some (.int x1), some (.int x2), some (.int x3), some (.int x4), some (.int x5), some (.int x6)], [.int 0, .int x6, .ref q_6], h)) rfl ?_
        exact ok25_52 c d Post K6 hK6 _ _ _ _ _ _ _ _ _ _ _ w
      · replace w := w.2 z7
        refine gw_pst hk 6 (st' := (45, [some (.ref r0), some (.int x1), some (.int x2), some (.int x3), some (.int x4), some (.int x5), some (.int x6)], [.int (x3 + (x6 * x4)), .int x1, .int x6, .ref q_6], h)) rfl ?_
        refine gw_call (jj := 26) (As := [.int x1, .int (x3 + (x6 * x4))]) (rest := [.int x6, .ref q_6]) (hk _ _ rfl) (fun _ => rfl) rfl rfl (Nat.le_of_ble_eq_true rfl) rfl ?_
        refine ge_imp w (fun v8 h_8 w => ?_)
        obtain ⟨x_8, rfl, w⟩ := w
        show gV c d 25 (48, [some (.ref r0), some (.int x1), some (.int x2), some (.int x3), some (.int x4), some (.int x5), some (.int x6)], [.int x_8, .int x6, .ref q_6], h_8) Post
        refine gw_pst hk 1 (st' := (52, [some (.ref r0), some (.int x1), some (.int x2), some (.int x3), some (.int x4), some (.int x5), some (.int x6)], [.int x_8, .int x6, .ref q_6], h_8)) rfl ?_
        exact ok25_52 c d Post K6 hK6 _ _ _ _ _ _ _ _ _ _ _ w
def wl25_6 (c : gx) (d : Nat) (Post : Option Value → gm_H → Prop) : Nat → Nat → Int32 → Int32 → Int32 → Int32 → Int32 → Int32 → gm_H → Prop
  | 0 => fun _ _ _ _ _ _ _ _ => False
  | n + 1 => wb25_6 c d Post (wl25_6 c d Post n)
theorem okl25_6 (c : gx) (d : Nat) (Post : Option Value → gm_H → Prop) : ∀ (n : Nat) (r0 : Nat) (x1 : Int32) (x2 : Int32) (x3 : Int32) (x4 : Int32) (x5 : Int32) (x6 : Int32) (h : gm_H), wl25_6 c d Post n r0 x1 x2 x3 x4 x5 x6 h → gV c d 25 (6, [some (.ref r0), some (.int x1), some (.int x2), some (.int x3), some (.int x4), some (.int x5), some (.int x6)], [], h) Post
  | 0, _, _, _, _, _, _, _, _, w => w.elim
  | n + 1, r0, x1, x2, x3, x4, x5, x6, h, w => okb25_6 c d Post (wl25_6 c d Post n) (okl25_6 c d Post n) r0 x1 x2 x3 x4 x5 x6 h w
/-- CommandByTurns$Land.raise(IIII)I -/
def wm25 (c : gx) (d : Nat) (Post : Option Value → gm_H → Prop) (r0 : Nat) (x1 : Int32) (x2 : Int32) (x3 : Int32) (x4 : Int32) (h : gm_H) : Prop :=
  ∃ n, wl25_6 c d Post n r0 x1 x2 x3 x4 0 0 h
theorem okm25 (c : gx) (d : Nat) (Post : Option Value → gm_H → Prop) (r0 : Nat) (x1 : Int32) (x2 : Int32) (x3 : Int32) (x4 : Int32) (h : gm_H) (w : wm25 c d Post r0 x1 x2 x3 x4 h) : gE c (d + 1) 25 [.ref r0, .int x1, .int x2, .int x3, .int x4] h Post := by
  have hk : ∀ pc i, gm_find gk_25 pc = some i → gm_code (gt_T c.1 c.2.1 c.2.2.1) 25 pc = some i := fun _ _ z => z
  unfold wm25 at w
  refine ge_of (by decide) (Nat.le_of_ble_eq_true rfl) ?_
  show gV c d 25 (0, [some (.ref r0), some (.int x1), some (.int x2), some (.int x3), some (.int x4), none, none], [], h) Post
  unfold gV
  refine gw_pst hk 4 (st' := (6, [some (.ref r0), some (.int x1), some (.int x2), some (.int x3), some (.int x4), some (.int 0), some (.int 0)], [], h)) rfl ?_
  obtain ⟨n, w⟩ := w
  exact okl25_6 c d Post n _ _ _ _ _ _ _ _ w
def w26_20 (c : gx) (d : Nat) (Post : Option Value → gm_H → Prop) (x2 : Int32) (h : gm_H) : Prop :=
  Post (some (.int (if 0 < (if x2 < 9 then x2 else 9) then (if x2 < 9 then x2 else 9) else 0))) h
theorem ok26_20 (c : gx) (d : Nat) (Post : Option Value → gm_H → Prop)  (x2 : Int32) (h : gm_H) (w : w26_20 c d Post x2 h) : gV c d 26 (20, [none, none, some (.int x2)], [], h) Post := by
  have hk : ∀ pc i, gm_find gk_26 pc = some i → gm_code (gt_T c.1 c.2.1 c.2.2.1) 26 pc = some i := fun _ _ z => z
  unfold w26_20 at w
  unfold gV
  refine gw_pst hk 5 (st' := (30, [none, none, some (.int x2)], [.int (if 0 < (if x2 < 9 then x2 else 9) then (if x2 < 9 then x2 else 9) else 0)], h)) rfl ?_
  exact gw_ret (hk _ _ rfl) rfl w
/-- CommandByTurns$Land.asHeight(II)I -/
def wm26 (c : gx) (d : Nat) (Post : Option Value → gm_H → Prop) (x0 : Int32) (x1 : Int32) (h : gm_H) : Prop :=
  ((x0 = 0 → w26_20 c d Post ((x1).toInt8.toInt32) h) ∧ (¬ (x0 = 0) → ((x0 = 1 → w26_20 c d Post ((x1).toInt16.toInt32) h) ∧ (¬ (x0 = 1) → w26_20 c d Post x1 h))))
theorem okm26 (c : gx) (d : Nat) (Post : Option Value → gm_H → Prop) (x0 : Int32) (x1 : Int32) (h : gm_H) (w : wm26 c d Post x0 x1 h) : gE c (d + 1) 26 [.int x0, .int x1] h Post := by
  have hk : ∀ pc i, gm_find gk_26 pc = some i → gm_code (gt_T c.1 c.2.1 c.2.2.1) 26 pc = some i := fun _ _ z => z
  unfold wm26 at w
  refine ge_of (by decide) (Nat.le_of_ble_eq_true rfl) ?_
  show gV c d 26 (0, [some (.int x0), some (.int x1), none], [], h) Post
  unfold gV
  refine gw_pst hk 3 (st' := (3, [some (.int x0), some (.int x1), some (.int x1)], [.int x0], h)) rfl ?_
  refine gw_br (c := x0 = 0) (a := (6, [some (.int x0), some (.int x1), some (.int x1)], [], h)) (b := (12, [some (.int x0), some (.int x1), some (.int x1)], [], h)) (hk _ _ rfl) rfl ⟨fun z1 => ?_, fun z1 => ?_⟩
  · replace w := w.1 z1
    refine gw_pst hk 4 (st' := (20, [some (.int x0), some (.int x1), some (.int ((x1).toInt8.toInt32))], [], h)) rfl ?_
    refine gw_le (L' := [none, none, some (.int ((x1).toInt8.toInt32))]) (gm_le_n _ (gm_le_n _ (gm_le_k _ gm_le_nil))) ?_
    exact ok26_20 c d Post _ _ w
  · replace w := w.2 z1
    refine gw_pst hk 2 (st' := (14, [some (.int x0), some (.int x1), some (.int x1)], [.int 1, .int x0], h)) rfl ?_
    refine gw_br (c := x0 = 1) (a := (17, [some (.int x0), some (.int x1), some (.int x1)], [], h)) (b := (20, [some (.int x0), some (.int x1), some (.int x1)], [], h)) (hk _ _ rfl) rfl ⟨fun z2 => ?_, fun z2 => ?_⟩
    · replace w := w.1 z2
      refine gw_pst hk 3 (st' := (20, [some (.int x0), some (.int x1), some (.int ((x1).toInt16.toInt32))], [], h)) rfl ?_
      refine gw_le (L' := [none, none, some (.int ((x1).toInt16.toInt32))]) (gm_le_n _ (gm_le_n _ (gm_le_k _ gm_le_nil))) ?_
      exact ok26_20 c d Post _ _ w
    · replace w := w.2 z2
      refine gw_le (L' := [none, none, some (.int x1)]) (gm_le_n _ (gm_le_n _ (gm_le_k _ gm_le_nil))) ?_
      exact ok26_20 c d Post _ _ w
