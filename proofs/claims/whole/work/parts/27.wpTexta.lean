/-! What must hold for a run to end with Post: by program (wip/whole/gen_wp.py). -/
def w60_17 (c : gx) (d : Nat) (Post : Option Value → gm_H → Prop) (xs0 : Int32) (h : gm_H) : Prop :=
  ((xs0 = 0 ∨ xs0 = 1) ∧ Post (some (.int xs0)) h)
theorem ok60_17 (c : gx) (d : Nat) (Post : Option Value → gm_H → Prop)  (xs0 : Int32) (h : gm_H) (w : w60_17 c d Post xs0 h) : gV c d 60 (17, [none], [.int xs0], h) Post := by
  have hk : ∀ pc i, gm_find gk_60 pc = some i → gm_code (gt_T c.1 c.2.1 c.2.2.1) 60 pc = some i := fun _ _ z => z
  unfold w60_17 at w
  unfold gV
  exact gw_retZ (hk _ _ rfl) rfl w.1 w.2
def w60_16 (c : gx) (d : Nat) (Post : Option Value → gm_H → Prop)  (h : gm_H) : Prop :=
  w60_17 c d Post 0 h
theorem ok60_16 (c : gx) (d : Nat) (Post : Option Value → gm_H → Prop)   (h : gm_H) (w : w60_16 c d Post  h) : gV c d 60 (16, [none], [], h) Post := by
  have hk : ∀ pc i, gm_find gk_60 pc = some i → gm_code (gt_T c.1 c.2.1 c.2.2.1) 60 pc = some i := fun _ _ z => z
  unfold w60_16 at w
  unfold gV
  refine gw_pst hk 1 (st' := (17, [none], [.int 0], h)) rfl ?_
  exact ok60_17 c d Post _ _ w
/-- CommandByTurns$Text.isDigit(C)Z -/
def wm60 (c : gx) (d : Nat) (Post : Option Value → gm_H → Prop) (x0 : Int32) (h : gm_H) : Prop :=
  ((x0 < 48 → w60_16 c d Post h) ∧ (¬ (x0 < 48) → ((57 < x0 → w60_16 c d Post h) ∧ (¬ (57 < x0) → w60_17 c d Post 1 h))))
theorem okm60 (c : gx) (d : Nat) (Post : Option Value → gm_H → Prop) (x0 : Int32) (h : gm_H) (w : wm60 c d Post x0 h) : gE c (d + 1) 60 [.int x0] h Post := by
  have hk : ∀ pc i, gm_find gk_60 pc = some i → gm_code (gt_T c.1 c.2.1 c.2.2.1) 60 pc = some i := fun _ _ z => z
  unfold wm60 at w
  refine ge_of (by decide) (Nat.le_of_ble_eq_true rfl) ?_
  show gV c d 60 (0, [some (.int x0)], [], h) Post
  unfold gV
  refine gw_pst hk 2 (st' := (3, [some (.int x0)], [.int 48, .int x0], h)) rfl ?_
  refine gw_br (c := x0 < 48) (a := (16, [some (.int x0)], [], h)) (b := (6, [some (.int x0)], [], h)) (hk _ _ rfl) rfl ⟨fun z1 => ?_, fun z1 => ?_⟩
  · replace w := w.1 z1
    refine gw_le (L' := [none]) (gm_le_n _ gm_le_nil) ?_
    exact ok60_16 c d Post _ w
  · replace w := w.2 z1
    refine gw_pst hk 2 (st' := (9, [some (.int x0)], [.int 57, .int x0], h)) rfl ?_
    refine gw_br (c := 57 < x0) (a := (16, [some (.int x0)], [], h)) (b := (12, [some (.int x0)], [], h)) (hk _ _ rfl) rfl ⟨fun z2 => ?_, fun z2 => ?_⟩
    · replace w := w.1 z2
      refine gw_le (L' := [none]) (gm_le_n _ gm_le_nil) ?_
      exact ok60_16 c d Post _ w
    · replace w := w.2 z2
      refine gw_pst hk 2 (st' := (17, [some (.int x0)], [.int 1], h)) rfl ?_
      refine gw_le (L' := [none]) (gm_le_n _ gm_le_nil) ?_
      exact ok60_17 c d Post _ _ w
def w61_31 (c : gx) (d : Nat) (Post : Option Value → gm_H → Prop) (xs0 : Int32) (h : gm_H) : Prop :=
  (vp_nar .char xs0 = xs0 ∧ Post (some (.int xs0)) h)
theorem ok61_31 (c : gx) (d : Nat) (Post : Option Value → gm_H → Prop)  (xs0 : Int32) (h : gm_H) (w : w61_31 c d Post xs0 h) : gV c d 61 (31, [none, none], [.int xs0], h) Post := by
  have hk : ∀ pc i, gm_find gk_61 pc = some i → gm_code (gt_T c.1 c.2.1 c.2.2.1) 61 pc = some i := fun _ _ z => z
  unfold w61_31 at w
  unfold gV
  exact gw_retC (hk _ _ rfl) rfl w.1 w.2
def w61_30 (c : gx) (d : Nat) (Post : Option Value → gm_H → Prop)  (h : gm_H) : Prop :=
  w61_31 c d Post 0 h
theorem ok61_30 (c : gx) (d : Nat) (Post : Option Value → gm_H → Prop)   (h : gm_H) (w : w61_30 c d Post  h) : gV c d 61 (30, [none, none], [], h) Post := by
  have hk : ∀ pc i, gm_find gk_61 pc = some i → gm_code (gt_T c.1 c.2.1 c.2.2.1) 61 pc = some i := fun _ _ z => z
  unfold w61_30 at w
  unfold gV
  refine gw_pst hk 1 (st' := (31, [none, none], [.int 0], h)) rfl ?_
  exact ok61_31 c d Post _ _ w
/-- CommandByTurns$Text.at(I)C -/
def wm61 (c : gx) (d : Nat) (Post : Option Value → gm_H → Prop) (r0 : Nat) (x1 : Int32) (h : gm_H) : Prop :=
  ((x1 < 0 → w61_30 c d Post h) ∧ (¬ (x1 < 0) → ∃ x_2 : Int32, gm_fld h r0 7 1 = some (.int x_2) ∧ ((x_2 ≤ x1 → w61_30 c d Post h) ∧ (¬ (x_2 ≤ x1) → ∃ q_4 : Nat, gm_fld h r0 7 0 = some (.ref q_4) ∧ ∃ (n5 : Nat) (f5 : Nat → Int32), gm_get h q_4 = some (.inl (1, n5, .inl f5)) ∧ (((Int32.ofNat n5) ≤ x1 → w61_30 c d Post h) ∧ (¬ ((Int32.ofNat n5) ≤ x1) → ∃ q_7 : Nat, gm_fld h r0 7 0 = some (.ref q_7) ∧ ∃ (n8 : Nat) (f8 : Nat → Int32), gm_get h q_7 = some (.inl (1, n8, .inl f8)) ∧ vp_in x1 n8 ∧ w61_31 c d Post (f8 (x1 : Int32).toNatClampNeg) h))))))
theorem okm61 (c : gx) (d : Nat) (Post : Option Value → gm_H → Prop) (r0 : Nat) (x1 : Int32) (h : gm_H) (w : wm61 c d Post r0 x1 h) : gE c (d + 1) 61 [.ref r0, .int x1] h Post := by
  have hk : ∀ pc i, gm_find gk_61 pc = some i → gm_code (gt_T c.1 c.2.1 c.2.2.1) 61 pc = some i := fun _ _ z => z
  unfold wm61 at w
  refine ge_of (by decide) (Nat.le_of_ble_eq_true rfl) ?_
  show gV c d 61 (0, [some (.ref r0), some (.int x1)], [], h) Post
  unfold gV
  refine gw_pst hk 1 (st' := (1, [some (.ref r0), some (.int x1)], [.int x1], h)) rfl ?_
  refine gw_br (c := x1 < 0) (a := (30, [some (.ref r0), some (.int x1)], [], h)) (b := (4, [some (.ref r0), some (.int x1)], [], h)) (hk _ _ rfl) rfl ⟨fun z1 => ?_, fun z1 => ?_⟩
  · replace w := w.1 z1
    refine gw_le (L' := [none, none]) (gm_le_n _ (gm_le_n _ gm_le_nil)) ?_
    exact ok61_30 c d Post _ w
  · replace w := w.2 z1
    refine gw_pst hk 2 (st' := (6, [some (.ref r0), some (.int x1)], [.ref r0, .int x1], h)) rfl ?_
    obtain ⟨x_2, e2, w⟩ := w
    refine gw_gf (hk _ _ rfl) e2 ?_
    refine gw_br (c := x_2 ≤ x1) (a := (30, [some (.ref r0), some (.int x1)], [], h)) (b := (12, [some (.ref r0), some (.int x1)], [], h)) (hk _ _ rfl) rfl ⟨fun z3 => ?_, fun z3 => ?_⟩
    · replace w := w.1 z3
      refine gw_le (L' := [none, none]) (gm_le_n _ (gm_le_n _ gm_le_nil)) ?_
      exact ok61_30 c d Post _ w
    · replace w := w.2 z3
      refine gw_pst hk 2 (st' := (14, [some (.ref r0), some (.int x1)], [.ref r0, .int x1], h)) rfl ?_
      obtain ⟨q_4, e4, w⟩ := w
      refine gw_gf (hk _ _ rfl) e4 ?_
      obtain ⟨n5, f5, e5, w⟩ := w
      refine gw_alen (hk _ _ rfl) e5 (by decide) ?_
      refine gw_br (c := (Int32.ofNat n5) ≤ x1) (a := (30, [some (.ref r0), some (.int x1)], [], h)) (b := (21, [some (.ref r0), some (.int x1)], [], h)) (hk _ _ rfl) rfl ⟨fun z6 => ?_, fun z6 => ?_⟩
      · replace w := w.1 z6
        refine gw_le (L' := [none, none]) (gm_le_n _ (gm_le_n _ gm_le_nil)) ?_
        exact ok61_30 c d Post _ w
      · replace w := w.2 z6
        refine gw_pst hk 1 (st' := (22, [some (.ref r0), some (.int x1)], [.ref r0], h)) rfl ?_
        obtain ⟨q_7, e7, w⟩ := w
        refine gw_gf (hk _ _ rfl) e7 ?_
        refine gw_pst hk 1 (st' := (26, [some (.ref r0), some (.int x1)], [.int x1, .ref q_7], h)) rfl ?_
        obtain ⟨n8, f8, e8, b8, w⟩ := w
        refine gw_ald (hk _ _ rfl) (Or.inr (Or.inl ⟨rfl, rfl⟩)) e8 b8 ?_
        refine gw_pst hk 1 (st' := (31, [some (.ref r0), some (.int x1)], [.int (f8 (x1 : Int32).toNatClampNeg)], h)) rfl ?_
        refine gw_le (L' := [none, none]) (gm_le_n _ (gm_le_n _ gm_le_nil)) ?_
        exact ok61_31 c d Post _ _ w
def wb62_19 (c : gx) (d : Nat) (Post : Option Value → gm_H → Prop) (K19 : Nat → Int32 → Int32 → gm_H → Prop) (r0 : Nat) (x1 : Int32) (x2 : Int32) (h : gm_H) : Prop :=
  ((x2 < 0 → Post (some (.int 1)) h) ∧ (¬ (x2 < 0) → (∃ fs2, gm_get h r0 = some (.inr (7, fs2))) ∧ gE c d 63 [.ref r0, .int ((((((x1).toUInt32 >>> ((x2 : Int32).toUInt32 &&& Int32.toUInt32 31)).toInt32) &&& 255).toUInt32 % 65536).toInt32)] h (fun v2 h_2 => v2 = none ∧ K19 r0 x1 (x2 + (-8)) h_2)))
theorem okb62_19 (c : gx) (d : Nat) (Post : Option Value → gm_H → Prop) (K19 : Nat → Int32 → Int32 → gm_H → Prop)  (hK19 : ∀ (r0 : Nat) (x1 : Int32) (x2 : Int32) (h : gm_H), K19 r0 x1 x2 h → gV c d 62 (19, [some (.ref r0), some (.int x1), some (.int x2)], [], h) Post) (r0 : Nat) (x1 : Int32) (x2 : Int32) (h : gm_H) (w : wb62_19 c d Post K19 r0 x1 x2 h) : gV c d 62 (19, [some (.ref r0), some (.int x1), some (.int x2)], [], h) Post := by
  have hk : ∀ pc i, gm_find gk_62 pc = some i → gm_code (gt_T c.1 c.2.1 c.2.2.1) 62 pc = some i := fun _ _ z => z
  unfold wb62_19 at w
  unfold gV
  refine gw_pst hk 1 (st' := (20, [some (.ref r0), some (.int x1), some (.int x2)], [.int x2], h)) rfl ?_
  refine gw_br (c := x2 < 0) (a := (41, [some (.ref r0), some (.int x1), some (.int x2)], [], h)) (b := (23, [some (.ref r0), some (.int x1), some (.int x2)], [], h)) (hk _ _ rfl) rfl ⟨fun z1 => ?_, fun z1 => ?_⟩
  · replace w := w.1 z1
    refine gw_pst hk 1 (st' := (42, [some (.ref r0), some (.int x1), some (.int x2)], [.int 1], h)) rfl ?_
    exact gw_ret (hk _ _ rfl) rfl w
  · replace w := w.2 z1
    refine gw_pst hk 7 (st' := (32, [some (.ref r0), some (.int x1), some (.int x2)], [.int ((((((x1).toUInt32 >>> ((x2 : Int32).toUInt32 &&& Int32.toUInt32 31)).toInt32) &&& 255).toUInt32 % 65536).toInt32), .ref r0], h)) rfl ?_
    obtain ⟨⟨fs2, e2⟩, w⟩ := w
    refine gw_call (jj := 63) (As := [.ref r0, .int ((((((x1).toUInt32 >>> ((x2 : Int32).toUInt32 &&& Int32.toUInt32 31)).toInt32) &&& 255).toUInt32 % 65536).toInt32)]) (rest := []) (hk _ _ rfl) (fun _ => rfl) rfl rfl (Nat.le_of_ble_eq_true rfl) (gm_rcv_v rfl e2 rfl) ?_
    refine ge_imp w (fun v2 h_2 w => ?_)
    obtain ⟨rfl, w⟩ := w
    show gV c d 62 (35, [some (.ref r0), some (.int x1), some (.int x2)], [], h_2) Post
    refine gw_pst hk 2 (st' := (19, [some (.ref r0), some (.int x1), some (.int (x2 + (-8)))], [], h_2)) rfl ?_
    exact hK19 _ _ _ _ w
def wl62_19 (c : gx) (d : Nat) (Post : Option Value → gm_H → Prop) : Nat → Nat → Int32 → Int32 → gm_H → Prop
  | 0 => fun _ _ _ _ => False
  | n + 1 => wb62_19 c d Post (wl62_19 c d Post n)
theorem okl62_19 (c : gx) (d : Nat) (Post : Option Value → gm_H → Prop) : ∀ (n : Nat) (r0 : Nat) (x1 : Int32) (x2 : Int32) (h : gm_H), wl62_19 c d Post n r0 x1 x2 h → gV c d 62 (19, [some (.ref r0), some (.int x1), some (.int x2)], [], h) Post
  | 0, _, _, _, _, w => w.elim
  | n + 1, r0, x1, x2, h, w => okb62_19 c d Post (wl62_19 c d Post n) (okl62_19 c d Post n) r0 x1 x2 h w
/-- CommandByTurns$Text.addFour(I)Z -/
def wm62 (c : gx) (d : Nat) (Post : Option Value → gm_H → Prop) (r0 : Nat) (x1 : Int32) (h : gm_H) : Prop :=
  ∃ x_1 : Int32, gm_fld h r0 7 1 = some (.int x_1) ∧ ∃ q_2 : Nat, gm_fld h r0 7 0 = some (.ref q_2) ∧ ∃ (n3 : Nat) (f3 : Nat → Int32), gm_get h q_2 = some (.inl (1, n3, .inl f3)) ∧ (((x_1 + 4) ≤ (Int32.ofNat n3) → ∃ n, wl62_19 c d Post n r0 x1 24 h) ∧ (¬ ((x_1 + 4) ≤ (Int32.ofNat n3)) → Post (some (.int 0)) h))
theorem okm62 (c : gx) (d : Nat) (Post : Option Value → gm_H → Prop) (r0 : Nat) (x1 : Int32) (h : gm_H) (w : wm62 c d Post r0 x1 h) : gE c (d + 1) 62 [.ref r0, .int x1] h Post := by
  have hk : ∀ pc i, gm_find gk_62 pc = some i → gm_code (gt_T c.1 c.2.1 c.2.2.1) 62 pc = some i := fun _ _ z => z
  unfold wm62 at w
  refine ge_of (by decide) (Nat.le_of_ble_eq_true rfl) ?_
  show gV c d 62 (0, [some (.ref r0), some (.int x1), none], [], h) Post
  unfold gV
  refine gw_pst hk 1 (st' := (1, [some (.ref r0), some (.int x1), none], [.ref r0], h)) rfl ?_
  obtain ⟨x_1, e1, w⟩ := w
  refine gw_gf (hk _ _ rfl) e1 ?_
  refine gw_pst hk 3 (st' := (7, [some (.ref r0), some (.int x1), none], [.ref r0, .int (x_1 + 4)], h)) rfl ?_
  obtain ⟨q_2, e2, w⟩ := w
  refine gw_gf (hk _ _ rfl) e2 ?_
  obtain ⟨n3, f3, e3, w⟩ := w
  refine gw_alen (hk _ _ rfl) e3 (by decide) ?_
  refine gw_br (c := (x_1 + 4) ≤ (Int32.ofNat n3)) (a := (16, [some (.ref r0), some (.int x1), none], [], h)) (b := (14, [some (.ref r0), some (.int x1), none], [], h)) (hk _ _ rfl) rfl ⟨fun z4 => ?_, fun z4 => ?_⟩
  · replace w := w.1 z4
    refine gw_pst hk 2 (st' := (19, [some (.ref r0), some (.int x1), some (.int 24)], [], h)) rfl ?_
    obtain ⟨n, w⟩ := w
    exact okl62_19 c d Post n _ _ _ _ w
  · replace w := w.2 z4
    refine gw_pst hk 1 (st' := (15, [some (.ref r0), some (.int x1), none], [.int 0], h)) rfl ?_
    exact gw_ret (hk _ _ rfl) rfl w
def w63_39 (c : gx) (d : Nat) (Post : Option Value → gm_H → Prop)  (h : gm_H) : Prop :=
  Post none h
theorem ok63_39 (c : gx) (d : Nat) (Post : Option Value → gm_H → Prop)   (h : gm_H) (w : w63_39 c d Post  h) : gV c d 63 (39, [none, none], [], h) Post := by
  have hk : ∀ pc i, gm_find gk_63 pc = some i → gm_code (gt_T c.1 c.2.1 c.2.2.1) 63 pc = some i := fun _ _ z => z
  unfold w63_39 at w
  unfold gV
  exact gw_ret (hk _ _ rfl) rfl w
/-- CommandByTurns$Text.add(C)V -/
def wm63 (c : gx) (d : Nat) (Post : Option Value → gm_H → Prop) (r0 : Nat) (x1 : Int32) (h : gm_H) : Prop :=
  ∃ x_1 : Int32, gm_fld h r0 7 1 = some (.int x_1) ∧ ((x_1 < 0 → w63_39 c d Post h) ∧ (¬ (x_1 < 0) → ∃ x_3 : Int32, gm_fld h r0 7 1 = some (.int x_3) ∧ ∃ q_4 : Nat, gm_fld h r0 7 0 = some (.ref q_4) ∧ ∃ (n5 : Nat) (f5 : Nat → Int32), gm_get h q_4 = some (.inl (1, n5, .inl f5)) ∧ (((Int32.ofNat n5) ≤ x_3 → w63_39 c d Post h) ∧ (¬ ((Int32.ofNat n5) ≤ x_3) → ∃ q_7 : Nat, gm_fld h r0 7 0 = some (.ref q_7) ∧ ∃ x_8 : Int32, gm_fld h r0 7 1 = some (.int x_8) ∧ ∃ (n9 : Nat) (f9 : Nat → Int32), gm_get h q_7 = some (.inl (1, n9, .inl f9)) ∧ vp_in x_8 n9 ∧ ∀ h_9 : gm_H, h_9 = gm_put h q_7 (.inl (1, n9, .inl (upd f9 (x_8 : Int32).toNatClampNeg (vp_nar .char x1)))) → ∃ x_10 : Int32, gm_fld h_9 r0 7 1 = some (.int x_10) ∧ ∃ fs11 : List Value, gm_get h_9 r0 = some (.inr (7, fs11)) ∧ 1 < fs11.length ∧ ∀ h_11 : gm_H, h_11 = gm_put h_9 r0 (.inr (7, fs11.set 1 (.int (x_10 + 1)))) → w63_39 c d Post h_11))))
theorem okm63 (c : gx) (d : Nat) (Post : Option Value → gm_H → Prop) (r0 : Nat) (x1 : Int32) (h : gm_H) (w : wm63 c d Post r0 x1 h) : gE c (d + 1) 63 [.ref r0, .int x1] h Post := by
  have hk : ∀ pc i, gm_find gk_63 pc = some i → gm_code (gt_T c.1 c.2.1 c.2.2.1) 63 pc = some i := fun _ _ z => z
  unfold wm63 at w
  refine ge_of (by decide) (Nat.le_of_ble_eq_true rfl) ?_
  show gV c d 63 (0, [some (.ref r0), some (.int x1)], [], h) Post
  unfold gV
  refine gw_pst hk 1 (st' := (1, [some (.ref r0), some (.int x1)], [.ref r0], h)) rfl ?_
  obtain ⟨x_1, e1, w⟩ := w
  refine gw_gf (hk _ _ rfl) e1 ?_
  refine gw_br (c := x_1 < 0) (a := (39, [some (.ref r0), some (.int x1)], [], h)) (b := (7, [some (.ref r0), some (.int x1)], [], h)) (hk _ _ rfl) rfl ⟨fun z2 => ?_, fun z2 => ?_⟩
  · replace w := w.1 z2
    refine gw_le (L' := [none, none]) (gm_le_n _ (gm_le_n _ gm_le_nil)) ?_
    exact ok63_39 c d Post _ w
  · replace w := w.2 z2
    refine gw_pst hk 1 (st' := (8, [some (.ref r0), some (.int x1)], [.ref r0], h)) rfl ?_
    obtain ⟨x_3, e3, w⟩ := w
    refine gw_gf (hk _ _ rfl) e3 ?_
    refine gw_pst hk 1 (st' := (12, [some (.ref r0), some (.int x1)], [.ref r0, .int x_3], h)) rfl ?_
    obtain ⟨q_4, e4, w⟩ := w
    refine gw_gf (hk _ _ rfl) e4 ?_
    obtain ⟨n5, f5, e5, w⟩ := w
    refine gw_alen (hk _ _ rfl) e5 (by decide) ?_
    refine gw_br (c := (Int32.ofNat n5) ≤ x_3) (a := (39, [some (.ref r0), some (.int x1)], [], h)) (b := (19, [some (.ref r0), some (.int x1)], [], h)) (hk _ _ rfl) rfl ⟨fun z6 => ?_, fun z6 => ?_⟩
    · replace w := w.1 z6
      refine gw_le (L' := [none, none]) (gm_le_n _ (gm_le_n _ gm_le_nil)) ?_
      exact ok63_39 c d Post _ w
    · replace w := w.2 z6
      refine gw_pst hk 1 (st' := (20, [some (.ref r0), some (.int x1)], [.ref r0], h)) rfl ?_
      obtain ⟨q_7, e7, w⟩ := w
      refine gw_gf (hk _ _ rfl) e7 ?_
      refine gw_pst hk 1 (st' := (24, [some (.ref r0), some (.int x1)], [.ref r0, .ref q_7], h)) rfl ?_
      obtain ⟨x_8, e8, w⟩ := w
      refine gw_gf (hk _ _ rfl) e8 ?_
      refine gw_pst hk 1 (st' := (28, [some (.ref r0), some (.int x1)], [.int x1, .int x_8, .ref q_7], h)) rfl ?_
      obtain ⟨n9, f9, e9, b9, w⟩ := w
      refine gw_ast (hk _ _ rfl) (Or.inr (Or.inl ⟨rfl, rfl, rfl⟩)) e9 b9 ?_
      obtain ⟨h_9, eh9⟩ : ∃ z, z = gm_put h q_7 (.inl (1, n9, .inl (upd f9 (x_8 : Int32).toNatClampNeg (vp_nar .char x1)))) := ⟨_, rfl⟩
      rw [← eh9]
      replace w := w h_9 eh9
      refine gw_pst hk 2 (st' := (31, [some (.ref r0), some (.int x1)], [.ref r0, .ref r0], h_9)) rfl ?_
      obtain ⟨x_10, e10, w⟩ := w
      refine gw_gf (hk _ _ rfl) e10 ?_
      refine gw_pst hk 2 (st' := (36, [some (.ref r0), some (.int x1)], [.int (x_10 + 1), .ref r0], h_9)) rfl ?_
      obtain ⟨fs11, e11, l11, w⟩ := w
      refine gw_pf (hk _ _ rfl) e11 l11 rfl ?_
      obtain ⟨h_11, eh11⟩ : ∃ z, z = gm_put h_9 r0 (.inr (7, fs11.set 1 (.int (x_10 + 1)))) := ⟨_, rfl⟩
      rw [← eh11]
      replace w := w h_11 eh11
      refine gw_le (L' := [none, none]) (gm_le_n _ (gm_le_n _ gm_le_nil)) ?_
      exact ok63_39 c d Post _ w
