/-! What must hold for a run to end with Post: by program (wip/whole/gen_wp.py). -/
/-- CommandByTurnsModel.thrown()I -/
def wm153 (c : gx) (d : Nat) (Post : Option Value → gm_H → Prop) (r0 : Nat) (h : gm_H) : Prop :=
  ∃ x_1 : Int32, gm_fld h r0 10 13 = some (.int x_1) ∧ Post (some (.int x_1)) h
theorem okm153 (c : gx) (d : Nat) (Post : Option Value → gm_H → Prop) (r0 : Nat) (h : gm_H) (w : wm153 c d Post r0 h) : gE c (d + 1) 153 [.ref r0] h Post := by
  have hk : ∀ pc i, gm_find gk_153 pc = some i → gm_code (gt_T c.1 c.2.1 c.2.2.1) 153 pc = some i := fun _ _ z => z
  unfold wm153 at w
  refine ge_of (by decide) (Nat.le_of_ble_eq_true rfl) ?_
  show gV c d 153 (0, [some (.ref r0)], [], h) Post
  unfold gV
  refine gw_pst hk 1 (st' := (1, [some (.ref r0)], [.ref r0], h)) rfl ?_
  obtain ⟨x_1, e1, w⟩ := w
  refine gw_gf (hk _ _ rfl) e1 ?_
  exact gw_ret (hk _ _ rfl) rfl w
def w154_15 (c : gx) (d : Nat) (Post : Option Value → gm_H → Prop) (xs0 : Int32) (h : gm_H) : Prop :=
  ((xs0 = 0 ∨ xs0 = 1) ∧ Post (some (.int xs0)) h)
theorem ok154_15 (c : gx) (d : Nat) (Post : Option Value → gm_H → Prop)  (xs0 : Int32) (h : gm_H) (w : w154_15 c d Post xs0 h) : gV c d 154 (15, [none, none, none], [.int xs0], h) Post := by
  have hk : ∀ pc i, gm_find gk_154 pc = some i → gm_code (gt_T c.1 c.2.1 c.2.2.1) 154 pc = some i := fun _ _ z => z
  unfold w154_15 at w
  unfold gV
  exact gw_retZ (hk _ _ rfl) rfl w.1 w.2
def w154_14 (c : gx) (d : Nat) (Post : Option Value → gm_H → Prop)  (h : gm_H) : Prop :=
  w154_15 c d Post 0 h
theorem ok154_14 (c : gx) (d : Nat) (Post : Option Value → gm_H → Prop)   (h : gm_H) (w : w154_14 c d Post  h) : gV c d 154 (14, [none, none, none], [], h) Post := by
  have hk : ∀ pc i, gm_find gk_154 pc = some i → gm_code (gt_T c.1 c.2.1 c.2.2.1) 154 pc = some i := fun _ _ z => z
  unfold w154_14 at w
  unfold gV
  refine gw_pst hk 1 (st' := (15, [none, none, none], [.int 0], h)) rfl ?_
  exact ok154_15 c d Post _ _ w
/-- CommandByTurnsModel.in(III)Z -/
def wm154 (c : gx) (d : Nat) (Post : Option Value → gm_H → Prop) (x0 : Int32) (x1 : Int32) (x2 : Int32) (h : gm_H) : Prop :=
  ((x0 < x1 → w154_14 c d Post h) ∧ (¬ (x0 < x1) → ((x2 < x0 → w154_14 c d Post h) ∧ (¬ (x2 < x0) → w154_15 c d Post 1 h))))
theorem okm154 (c : gx) (d : Nat) (Post : Option Value → gm_H → Prop) (x0 : Int32) (x1 : Int32) (x2 : Int32) (h : gm_H) (w : wm154 c d Post x0 x1 x2 h) : gE c (d + 1) 154 [.int x0, .int x1, .int x2] h Post := by
  have hk : ∀ pc i, gm_find gk_154 pc = some i → gm_code (gt_T c.1 c.2.1 c.2.2.1) 154 pc = some i := fun _ _ z => z
  unfold wm154 at w
  refine ge_of (by decide) (Nat.le_of_ble_eq_true rfl) ?_
  show gV c d 154 (0, [some (.int x0), some (.int x1), some (.int x2)], [], h) Post
  unfold gV
  refine gw_pst hk 2 (st' := (2, [some (.int x0), some (.int x1), some (.int x2)], [.int x1, .int x0], h)) rfl ?_
  refine gw_br (c := x0 < x1) (a := (14, [some (.int x0), some (.int x1), some (.int x2)], [], h)) (b := (5, [some (.int x0), some (.int x1), some (.int x2)], [], h)) (hk _ _ rfl) rfl ⟨fun z1 => ?_, fun z1 => ?_⟩
  · replace w := w.1 z1
    refine gw_le (L' := [none, none, none]) (gm_le_n _ (gm_le_n _ (gm_le_n _ gm_le_nil))) ?_
    exact ok154_14 c d Post _ w
  · replace w := w.2 z1
    refine gw_pst hk 2 (st' := (7, [some (.int x0), some (.int x1), some (.int x2)], [.int x2, .int x0], h)) rfl ?_
    refine gw_br (c := x2 < x0) (a := (14, [some (.int x0), some (.int x1), some (.int x2)], [], h)) (b := (10, [some (.int x0), some (.int x1), some (.int x2)], [], h)) (hk _ _ rfl) rfl ⟨fun z2 => ?_, fun z2 => ?_⟩
    · replace w := w.1 z2
      refine gw_le (L' := [none, none, none]) (gm_le_n _ (gm_le_n _ (gm_le_n _ gm_le_nil))) ?_
      exact ok154_14 c d Post _ w
    · replace w := w.2 z2
      refine gw_pst hk 2 (st' := (15, [some (.int x0), some (.int x1), some (.int x2)], [.int 1], h)) rfl ?_
      refine gw_le (L' := [none, none, none]) (gm_le_n _ (gm_le_n _ (gm_le_n _ gm_le_nil))) ?_
      exact ok154_15 c d Post _ _ w
def w155_14 (c : gx) (d : Nat) (Post : Option Value → gm_H → Prop) (xs0 : Int32) (h : gm_H) : Prop :=
  ((xs0 = 0 ∨ xs0 = 1) ∧ Post (some (.int xs0)) h)
theorem ok155_14 (c : gx) (d : Nat) (Post : Option Value → gm_H → Prop)  (xs0 : Int32) (h : gm_H) (w : w155_14 c d Post xs0 h) : gV c d 155 (14, [none, none], [.int xs0], h) Post := by
  have hk : ∀ pc i, gm_find gk_155 pc = some i → gm_code (gt_T c.1 c.2.1 c.2.2.1) 155 pc = some i := fun _ _ z => z
  unfold w155_14 at w
  unfold gV
  exact gw_retZ (hk _ _ rfl) rfl w.1 w.2
/-- CommandByTurnsModel.has(II)Z -/
def wm155 (c : gx) (d : Nat) (Post : Option Value → gm_H → Prop) (x0 : Int32) (x1 : Int32) (h : gm_H) : Prop :=
  ((((x0 >>> (x1 &&& 31)) &&& 1) = 1 → w155_14 c d Post 1 h) ∧ (¬ (((x0 >>> (x1 &&& 31)) &&& 1) = 1) → w155_14 c d Post 0 h))
theorem okm155 (c : gx) (d : Nat) (Post : Option Value → gm_H → Prop) (x0 : Int32) (x1 : Int32) (h : gm_H) (w : wm155 c d Post x0 x1 h) : gE c (d + 1) 155 [.int x0, .int x1] h Post := by
  have hk : ∀ pc i, gm_find gk_155 pc = some i → gm_code (gt_T c.1 c.2.1 c.2.2.1) 155 pc = some i := fun _ _ z => z
  unfold wm155 at w
  refine ge_of (by decide) (Nat.le_of_ble_eq_true rfl) ?_
  show gV c d 155 (0, [some (.int x0), some (.int x1)], [], h) Post
  unfold gV
  refine gw_pst hk 6 (st' := (6, [some (.int x0), some (.int x1)], [.int 1, .int ((x0 >>> (x1 &&& 31)) &&& 1)], h)) rfl ?_
  refine gw_br (c := ((x0 >>> (x1 &&& 31)) &&& 1) = 1) (a := (9, [some (.int x0), some (.int x1)], [], h)) (b := (13, [some (.int x0), some (.int x1)], [], h)) (hk _ _ rfl) rfl ⟨fun z1 => ?_, fun z1 => ?_⟩
  · replace w := w.1 z1
    refine gw_pst hk 2 (st' := (14, [some (.int x0), some (.int x1)], [.int 1], h)) rfl ?_
    refine gw_le (L' := [none, none]) (gm_le_n _ (gm_le_n _ gm_le_nil)) ?_
    exact ok155_14 c d Post _ _ w
  · replace w := w.2 z1
    refine gw_pst hk 1 (st' := (14, [some (.int x0), some (.int x1)], [.int 0], h)) rfl ?_
    refine gw_le (L' := [none, none]) (gm_le_n _ (gm_le_n _ gm_le_nil)) ?_
    exact ok155_14 c d Post _ _ w
/-- CommandByTurnsModel.lost()I -/
def wm156 (c : gx) (d : Nat) (Post : Option Value → gm_H → Prop) (r0 : Nat) (h : gm_H) : Prop :=
  ∃ fs1 : List Value, gm_get h r0 = some (.inr (10, fs1)) ∧ 13 < fs1.length ∧ ∀ h_1 : gm_H, h_1 = gm_put h r0 (.inr (10, fs1.set 13 (.int 1))) → Post (some (.int 0)) h_1
theorem okm156 (c : gx) (d : Nat) (Post : Option Value → gm_H → Prop) (r0 : Nat) (h : gm_H) (w : wm156 c d Post r0 h) : gE c (d + 1) 156 [.ref r0] h Post := by
  have hk : ∀ pc i, gm_find gk_156 pc = some i → gm_code (gt_T c.1 c.2.1 c.2.2.1) 156 pc = some i := fun _ _ z => z
  unfold wm156 at w
  refine ge_of (by decide) (Nat.le_of_ble_eq_true rfl) ?_
  show gV c d 156 (0, [some (.ref r0)], [], h) Post
  unfold gV
  refine gw_pst hk 2 (st' := (2, [some (.ref r0)], [.int 1, .ref r0], h)) rfl ?_
  obtain ⟨fs1, e1, l1, w⟩ := w
  refine gw_pf (hk _ _ rfl) e1 l1 rfl ?_
  obtain ⟨h_1, eh1⟩ : ∃ z, z = gm_put h r0 (.inr (10, fs1.set 13 (.int 1))) := ⟨_, rfl⟩
  rw [← eh1]
  replace w := w h_1 eh1
  refine gw_pst hk 1 (st' := (6, [some (.ref r0)], [.int 0], h_1)) rfl ?_
  exact gw_ret (hk _ _ rfl) rfl w
/-- CommandByTurnsModel.tell(J)V -/
def wm157 (c : gx) (d : Nat) (Post : Option Value → gm_H → Prop) (r0 : Nat) (x1 : Int64) (h : gm_H) : Prop :=
  ∃ q_1 : Nat, gm_fld h r0 10 11 = some (.ref q_1) ∧ ∃ x_2 : Int32, gm_fld h r0 10 12 = some (.int x_2) ∧ ∃ (n3 : Nat) (f3 : Nat → Int64), gm_get h q_1 = some (.inl (2, n3, .inr (.inl f3))) ∧ vp_in x_2 n3 ∧ ∀ h_3 : gm_H, h_3 = gm_put h q_1 (.inl (2, n3, .inr (.inl (vp_updL f3 (x_2 : Int32).toNatClampNeg x1)))) → ∃ x_4 : Int32, gm_fld h_3 r0 10 12 = some (.int x_4) ∧ ∃ fs5 : List Value, gm_get h_3 r0 = some (.inr (10, fs5)) ∧ 12 < fs5.length ∧ ∀ h_5 : gm_H, h_5 = gm_put h_3 r0 (.inr (10, fs5.set 12 (.int (x_4 + 1)))) → Post none h_5
theorem okm157 (c : gx) (d : Nat) (Post : Option Value → gm_H → Prop) (r0 : Nat) (x1 : Int64) (h : gm_H) (w : wm157 c d Post r0 x1 h) : gE c (d + 1) 157 [.ref r0, .long x1] h Post := by
  have hk : ∀ pc i, gm_find gk_157 pc = some i → gm_code (gt_T c.1 c.2.1 c.2.2.1) 157 pc = some i := fun _ _ z => z
  unfold wm157 at w
  refine ge_of (by decide) (Nat.le_of_ble_eq_true rfl) ?_
  show gV c d 157 (0, [some (.ref r0), some (.long x1), none], [], h) Post
  unfold gV
  refine gw_pst hk 1 (st' := (1, [some (.ref r0), some (.long x1), none], [.ref r0], h)) rfl ?_
  obtain ⟨q_1, e1, w⟩ := w
  refine gw_gf (hk _ _ rfl) e1 ?_
  refine gw_pst hk 1 (st' := (5, [some (.ref r0), some (.long x1), none], [.ref r0, .ref q_1], h)) rfl ?_
  obtain ⟨x_2, e2, w⟩ := w
  refine gw_gf (hk _ _ rfl) e2 ?_
  refine gw_pst hk 1 (st' := (9, [some (.ref r0), some (.long x1), none], [.long x1, .int x_2, .ref q_1], h)) rfl ?_
  obtain ⟨n3, f3, e3, b3, w⟩ := w
  refine gw_last (hk _ _ rfl) e3 b3 ?_
  obtain ⟨h_3, eh3⟩ : ∃ z, z = gm_put h q_1 (.inl (2, n3, .inr (.inl (vp_updL f3 (x_2 : Int32).toNatClampNeg x1)))) := ⟨_, rfl⟩
  rw [← eh3]
  replace w := w h_3 eh3
  refine gw_pst hk 2 (st' := (12, [some (.ref r0), some (.long x1), none], [.ref r0, .ref r0], h_3)) rfl ?_
  obtain ⟨x_4, e4, w⟩ := w
  refine gw_gf (hk _ _ rfl) e4 ?_
  refine gw_pst hk 2 (st' := (17, [some (.ref r0), some (.long x1), none], [.int (x_4 + 1), .ref r0], h_3)) rfl ?_
  obtain ⟨fs5, e5, l5, w⟩ := w
  refine gw_pf (hk _ _ rfl) e5 l5 rfl ?_
  obtain ⟨h_5, eh5⟩ : ∃ z, z = gm_put h_3 r0 (.inr (10, fs5.set 12 (.int (x_4 + 1)))) := ⟨_, rfl⟩
  rw [← eh5]
  replace w := w h_5 eh5
  exact gw_ret (hk _ _ rfl) rfl w
/-- CommandByTurnsModel.isField(I)Z -/
def wm158 (c : gx) (d : Nat) (Post : Option Value → gm_H → Prop) (r0 : Nat) (x1 : Int32) (h : gm_H) : Prop :=
  ∃ x_1 : Int32, gm_fld h r0 10 1 = some (.int x_1) ∧ gE c d 154 [.int x1, .int 0, .int (x_1 - 1)] h (fun v2 h_2 => ∃ x_2 : Int32, v2 = some (.int x_2) ∧ ((x_2 = 0 ∨ x_2 = 1) ∧ Post (some (.int x_2)) h_2))
theorem okm158 (c : gx) (d : Nat) (Post : Option Value → gm_H → Prop) (r0 : Nat) (x1 : Int32) (h : gm_H) (w : wm158 c d Post r0 x1 h) : gE c (d + 1) 158 [.ref r0, .int x1] h Post := by
  have hk : ∀ pc i, gm_find gk_158 pc = some i → gm_code (gt_T c.1 c.2.1 c.2.2.1) 158 pc = some i := fun _ _ z => z
  unfold wm158 at w
  refine ge_of (by decide) (Nat.le_of_ble_eq_true rfl) ?_
  show gV c d 158 (0, [some (.ref r0), some (.int x1)], [], h) Post
  unfold gV
  refine gw_pst hk 3 (st' := (3, [some (.ref r0), some (.int x1)], [.ref r0, .int 0, .int x1], h)) rfl ?_
  obtain ⟨x_1, e1, w⟩ := w
  refine gw_gf (hk _ _ rfl) e1 ?_
  refine gw_pst hk 2 (st' := (8, [some (.ref r0), some (.int x1)], [.int (x_1 - 1), .int 0, .int x1], h)) rfl ?_
  refine gw_call (jj := 154) (As := [.int x1, .int 0, .int (x_1 - 1)]) (rest := []) (hk _ _ rfl) (fun _ => rfl) rfl rfl (Nat.le_of_ble_eq_true rfl) rfl ?_
  refine ge_imp w (fun v2 h_2 w => ?_)
  obtain ⟨x_2, rfl, w⟩ := w
  show gV c d 158 (11, [some (.ref r0), some (.int x1)], [.int x_2], h_2) Post
  exact gw_retZ (hk _ _ rfl) rfl w.1 w.2
/-- CommandByTurnsModel.isConsul(I)Z -/
def wm159 (c : gx) (d : Nat) (Post : Option Value → gm_H → Prop) (x0 : Int32) (h : gm_H) : Prop :=
  gE c d 154 [.int x0, .int 0, .int 1] h (fun v1 h_1 => ∃ x_1 : Int32, v1 = some (.int x_1) ∧ ((x_1 = 0 ∨ x_1 = 1) ∧ Post (some (.int x_1)) h_1))
theorem okm159 (c : gx) (d : Nat) (Post : Option Value → gm_H → Prop) (x0 : Int32) (h : gm_H) (w : wm159 c d Post x0 h) : gE c (d + 1) 159 [.int x0] h Post := by
  have hk : ∀ pc i, gm_find gk_159 pc = some i → gm_code (gt_T c.1 c.2.1 c.2.2.1) 159 pc = some i := fun _ _ z => z
  unfold wm159 at w
  refine ge_of (by decide) (Nat.le_of_ble_eq_true rfl) ?_
  show gV c d 159 (0, [some (.int x0)], [], h) Post
  unfold gV
  refine gw_pst hk 3 (st' := (3, [some (.int x0)], [.int 1, .int 0, .int x0], h)) rfl ?_
  refine gw_call (jj := 154) (As := [.int x0, .int 0, .int 1]) (rest := []) (hk _ _ rfl) (fun _ => rfl) rfl rfl (Nat.le_of_ble_eq_true rfl) rfl ?_
  refine ge_imp w (fun v1 h_1 w => ?_)
  obtain ⟨x_1, rfl, w⟩ := w
  show gV c d 159 (6, [some (.int x0)], [.int x_1], h_1) Post
  exact gw_retZ (hk _ _ rfl) rfl w.1 w.2
def wb160_20 (c : gx) (d : Nat) (Post : Option Value → gm_H → Prop) (K20 : Nat → Int32 → Int32 → gm_H → Prop) (r0 : Nat) (x1 : Int32) (x2 : Int32) (h : gm_H) : Prop :=
  ((x2 < 0 → ∃ x_2 : Int32, gm_fld h r0 10 10 = some (.int x_2) ∧ Post (some (.int x_2)) h) ∧ (¬ (x2 < 0) → ∃ q_3 : Nat, gm_fld h r0 10 9 = some (.ref q_3) ∧ ∃ x_4 : Int32, gm_fld h r0 10 10 = some (.int x_4) ∧ ∃ fs5 : List Value, gm_get h r0 = some (.inr (10, fs5)) ∧ 10 < fs5.length ∧ ∀ h_5 : gm_H, h_5 = gm_put h r0 (.inr (10, fs5.set 10 (.int (x_4 + 1)))) → ∃ (n6 : Nat) (f6 : Nat → Int32), gm_get h_5 q_3 = some (.inl (3, n6, .inl f6)) ∧ vp_in x_4 n6 ∧ ∀ h_6 : gm_H, h_6 = gm_put h_5 q_3 (.inl (3, n6, .inl (upd f6 (x_4 : Int32).toNatClampNeg (vp_nar .byte ((x1 >>> ((8 * x2) &&& 31)).toInt8.toInt32))))) → K20 r0 x1 (x2 + (-1)) h_6))
theorem okb160_20 (c : gx) (d : Nat) (Post : Option Value → gm_H → Prop) (K20 : Nat → Int32 → Int32 → gm_H → Prop)  (hK20 : ∀ (r0 : Nat) (x1 : Int32) (x2 : Int32) (h : gm_H), K20 r0 x1 x2 h → gV c d 160 (20, [some (.ref r0), some (.int x1), some (.int x2)], [], h) Post) (r0 : Nat) (x1 : Int32) (x2 : Int32) (h : gm_H) (w : wb160_20 c d Post K20 r0 x1 x2 h) : gV c d 160 (20, [some (.ref r0), some (.int x1), some (.int x2)], [], h) Post := by
  have hk : ∀ pc i, gm_find gk_160 pc = some i → gm_code (gt_T c.1 c.2.1 c.2.2.1) 160 pc = some i := fun _ _ z => z
  unfold wb160_20 at w
  unfold gV
  refine gw_pst hk 1 (st' := (21, [some (.ref r0), some (.int x1), some (.int x2)], [.int x2], h)) rfl ?_
  refine gw_br (c := x2 < 0) (a := (53, [some (.ref r0), some (.int x1), some (.int x2)], [], h)) (b := (24, [some (.ref r0), some (.int x1), some (.int x2)], [], h)) (hk _ _ rfl) rfl ⟨fun z1 => ?_, fun z1 => ?_⟩
  · replace w := w.1 z1
    refine gw_pst hk 1 (st' := (54, [some (.ref r0), some (.int x1), some (.int x2)], [.ref r0], h)) rfl ?_
    obtain ⟨x_2, e2, w⟩ := w
    refine gw_gf (hk _ _ rfl) e2 ?_
    exact gw_ret (hk _ _ rfl) rfl w
  · replace w := w.2 z1
    refine gw_pst hk 1 (st' := (25, [some (.ref r0), some (.int x1), some (.int x2)], [.ref r0], h)) rfl ?_
    obtain ⟨q_3, e3, w⟩ := w
    refine gw_gf (hk _ _ rfl) e3 ?_
    refine gw_pst hk 2 (st' := (30, [some (.ref r0), some (.int x1), some (.int x2)], [.ref r0, .ref r0, .ref q_3], h)) rfl ?_
    obtain ⟨x_4, e4, w⟩ := w
    refine gw_gf (hk _ _ rfl) e4 ?_
    refine gw_pst hk 3 (st' := (36, [some (.ref r0), some (.int x1), some (.int x2)], [.int (x_4 + 1), .ref r0, .int x_4, .ref q_3], h)) rfl ?_
    obtain ⟨fs5, e5, l5, w⟩ := w
    refine gw_pf (hk _ _ rfl) e5 l5 rfl ?_
    obtain ⟨h_5, eh5⟩ : ∃ z, z = gm_put h r0 (.inr (10, fs5.set 10 (.int (x_4 + 1)))) := ⟨_, rfl⟩
    rw [← eh5]
    replace w := w h_5 eh5
    refine gw_pst hk 6 (st' := (46, [some (.ref r0), some (.int x1), some (.int x2)], [.int ((x1 >>> ((8 * x2) &&& 31)).toInt8.toInt32), .int x_4, .ref q_3], h_5)) rfl ?_
    obtain ⟨n6, f6, e6, b6, w⟩ := w
    refine gw_ast (hk _ _ rfl) (Or.inr (Or.inr (Or.inl ⟨rfl, rfl, rfl, rfl⟩))) e6 b6 ?_
    obtain ⟨h_6, eh6⟩ : ∃ z, z = gm_put h_5 q_3 (.inl (3, n6, .inl (upd f6 (x_4 : Int32).toNatClampNeg (vp_nar .byte ((x1 >>> ((8 * x2) &&& 31)).toInt8.toInt32))))) := ⟨_, rfl⟩
    rw [← eh6]
    replace w := w h_6 eh6
    refine gw_pst hk 2 (st' := (20, [some (.ref r0), some (.int x1), some (.int (x2 + (-1)))], [], h_6)) rfl ?_
    exact hK20 _ _ _ _ w
def wl160_20 (c : gx) (d : Nat) (Post : Option Value → gm_H → Prop) : Nat → Nat → Int32 → Int32 → gm_H → Prop
  | 0 => fun _ _ _ _ => False
  | n + 1 => wb160_20 c d Post (wl160_20 c d Post n)
theorem okl160_20 (c : gx) (d : Nat) (Post : Option Value → gm_H → Prop) : ∀ (n : Nat) (r0 : Nat) (x1 : Int32) (x2 : Int32) (h : gm_H), wl160_20 c d Post n r0 x1 x2 h → gV c d 160 (20, [some (.ref r0), some (.int x1), some (.int x2)], [], h) Post
  | 0, _, _, _, _, w => w.elim
  | n + 1, r0, x1, x2, h, w => okb160_20 c d Post (wl160_20 c d Post n) (okl160_20 c d Post n) r0 x1 x2 h w
/-- CommandByTurnsModel.sign(I)I -/
def wm160 (c : gx) (d : Nat) (Post : Option Value → gm_H → Prop) (r0 : Nat) (x1 : Int32) (h : gm_H) : Prop :=
  ∃ fs1 : List Value, gm_get h r0 = some (.inr (10, fs1)) ∧ 13 < fs1.length ∧ ∀ h_1 : gm_H, h_1 = gm_put h r0 (.inr (10, fs1.set 13 (.int 0))) → ∃ x_2 : Int32, gm_fld h_1 r0 10 10 = some (.int x_2) ∧ (((x_2 + 4) ≤ 80 → ∃ n, wl160_20 c d Post n r0 x1 3 h_1) ∧ (¬ ((x_2 + 4) ≤ 80) → Post (some (.int (-1))) h_1))
theorem okm160 (c : gx) (d : Nat) (Post : Option Value → gm_H → Prop) (r0 : Nat) (x1 : Int32) (h : gm_H) (w : wm160 c d Post r0 x1 h) : gE c (d + 1) 160 [.ref r0, .int x1] h Post := by
  have hk : ∀ pc i, gm_find gk_160 pc = some i → gm_code (gt_T c.1 c.2.1 c.2.2.1) 160 pc = some i := fun _ _ z => z
  unfold wm160 at w
  refine ge_of (by decide) (Nat.le_of_ble_eq_true rfl) ?_
  show gV c d 160 (0, [some (.ref r0), some (.int x1), none], [], h) Post
  unfold gV
  refine gw_pst hk 2 (st' := (2, [some (.ref r0), some (.int x1), none], [.int 0, .ref r0], h)) rfl ?_
  obtain ⟨fs1, e1, l1, w⟩ := w
  refine gw_pf (hk _ _ rfl) e1 l1 rfl ?_
  obtain ⟨h_1, eh1⟩ : ∃ z, z = gm_put h r0 (.inr (10, fs1.set 13 (.int 0))) := ⟨_, rfl⟩
  rw [← eh1]
  replace w := w h_1 eh1
  refine gw_pst hk 1 (st' := (6, [some (.ref r0), some (.int x1), none], [.ref r0], h_1)) rfl ?_
  obtain ⟨x_2, e2, w⟩ := w
  refine gw_gf (hk _ _ rfl) e2 ?_
  refine gw_pst hk 3 (st' := (13, [some (.ref r0), some (.int x1), none], [.int 80, .int (x_2 + 4)], h_1)) rfl ?_
  refine gw_br (c := (x_2 + 4) ≤ 80) (a := (18, [some (.ref r0), some (.int x1), none], [], h_1)) (b := (16, [some (.ref r0), some (.int x1), none], [], h_1)) (hk _ _ rfl) rfl ⟨fun z3 => ?_, fun z3 => ?_⟩
  · replace w := w.1 z3
    refine gw_pst hk 2 (st' := (20, [some (.ref r0), some (.int x1), some (.int 3)], [], h_1)) rfl ?_
    obtain ⟨n, w⟩ := w
    exact okl160_20 c d Post n _ _ _ _ w
  · replace w := w.2 z3
    refine gw_pst hk 1 (st' := (17, [some (.ref r0), some (.int x1), none], [.int (-1)], h_1)) rfl ?_
    exact gw_ret (hk _ _ rfl) rfl w
/-- CommandByTurnsModel.end(I)Z -/
def wm161 (c : gx) (d : Nat) (Post : Option Value → gm_H → Prop) (r0 : Nat) (x1 : Int32) (h : gm_H) : Prop :=
  ∃ fs1 : List Value, gm_get h r0 = some (.inr (10, fs1)) ∧ 13 < fs1.length ∧ ∀ h_1 : gm_H, h_1 = gm_put h r0 (.inr (10, fs1.set 13 (.int 0))) → ∃ x_2 : Int32, gm_fld h_1 r0 10 10 = some (.int x_2) ∧ gE c d 154 [.int x1, .int 0, .int x_2] h_1 (fun v3 h_3 => ∃ x_3 : Int32, v3 = some (.int x_3) ∧ ((x_3 = 0 → Post (some (.int 0)) h_3) ∧ (¬ (x_3 = 0) → ∃ fs5 : List Value, gm_get h_3 r0 = some (.inr (10, fs5)) ∧ 10 < fs5.length ∧ ∀ h_5 : gm_H, h_5 = gm_put h_3 r0 (.inr (10, fs5.set 10 (.int x1))) → Post (some (.int 1)) h_5)))
theorem okm161 (c : gx) (d : Nat) (Post : Option Value → gm_H → Prop) (r0 : Nat) (x1 : Int32) (h : gm_H) (w : wm161 c d Post r0 x1 h) : gE c (d + 1) 161 [.ref r0, .int x1] h Post := by
  have hk : ∀ pc i, gm_find gk_161 pc = some i → gm_code (gt_T c.1 c.2.1 c.2.2.1) 161 pc = some i := fun _ _ z => z
  unfold wm161 at w
  refine ge_of (by decide) (Nat.le_of_ble_eq_true rfl) ?_
  show gV c d 161 (0, [some (.ref r0), some (.int x1)], [], h) Post
  unfold gV
  refine gw_pst hk 2 (st' := (2, [some (.ref r0), some (.int x1)], [.int 0, .ref r0], h)) rfl ?_
  obtain ⟨fs1, e1, l1, w⟩ := w
  refine gw_pf (hk _ _ rfl) e1 l1 rfl ?_
  obtain ⟨h_1, eh1⟩ : ∃ z, z = gm_put h r0 (.inr (10, fs1.set 13 (.int 0))) := ⟨_, rfl⟩
  rw [← eh1]
  replace w := w h_1 eh1
  refine gw_pst hk 3 (st' := (8, [some (.ref r0), some (.int x1)], [.ref r0, .int 0, .int x1], h_1)) rfl ?_
  obtain ⟨x_2, e2, w⟩ := w
  refine gw_gf (hk _ _ rfl) e2 ?_
  refine gw_call (jj := 154) (As := [.int x1, .int 0, .int x_2]) (rest := []) (hk _ _ rfl) (fun _ => rfl) rfl rfl (Nat.le_of_ble_eq_true rfl) rfl ?_
  refine ge_imp w (fun v3 h_3 w => ?_)
  obtain ⟨x_3, rfl, w⟩ := w
  show gV c d 161 (14, [some (.ref r0), some (.int x1)], [.int x_3], h_3) Post
  refine gw_br (c := x_3 = 0) (a := (17, [some (.ref r0), some (.int x1)], [], h_3)) (b := (19, [some (.ref r0), some (.int x1)], [], h_3)) (hk _ _ rfl) rfl ⟨fun z4 => ?_, fun z4 => ?_⟩
  · replace w := w.1 z4
    refine gw_pst hk 1 (st' := (18, [some (.ref r0), some (.int x1)], [.int 0], h_3)) rfl ?_
    exact gw_ret (hk _ _ rfl) rfl w
  · replace w := w.2 z4
    refine gw_pst hk 2 (st' := (21, [some (.ref r0), some (.int x1)], [.int x1, .ref r0], h_3)) rfl ?_
    obtain ⟨fs5, e5, l5, w⟩ := w
    refine gw_pf (hk _ _ rfl) e5 l5 rfl ?_
    obtain ⟨h_5, eh5⟩ : ∃ z, z = gm_put h_3 r0 (.inr (10, fs5.set 10 (.int x1))) := ⟨_, rfl⟩
    rw [← eh5]
    replace w := w h_5 eh5
    refine gw_pst hk 1 (st' := (25, [some (.ref r0), some (.int x1)], [.int 1], h_5)) rfl ?_
    exact gw_ret (hk _ _ rfl) rfl w
/-- CommandByTurnsModel.begin([BII)V -/
def wm162 (c : gx) (d : Nat) (Post : Option Value → gm_H → Prop) (r0 : Nat) (r1 : Nat) (x2 : Int32) (x3 : Int32) (h : gm_H) : Prop :=
  ∃ fs1 : List Value, gm_get h r0 = some (.inr (10, fs1)) ∧ 14 < fs1.length ∧ ∀ h_1 : gm_H, h_1 = gm_put h r0 (.inr (10, fs1.set 14 (.ref r1))) → ∃ fs2 : List Value, gm_get h_1 r0 = some (.inr (10, fs2)) ∧ 15 < fs2.length ∧ ∀ h_2 : gm_H, h_2 = gm_put h_1 r0 (.inr (10, fs2.set 15 (.int x2))) → ∃ fs3 : List Value, gm_get h_2 r0 = some (.inr (10, fs3)) ∧ 16 < fs3.length ∧ ∀ h_3 : gm_H, h_3 = gm_put h_2 r0 (.inr (10, fs3.set 16 (.int x3))) → ∃ fs4 : List Value, gm_get h_3 r0 = some (.inr (10, fs4)) ∧ 17 < fs4.length ∧ ∀ h_4 : gm_H, h_4 = gm_put h_3 r0 (.inr (10, fs4.set 17 (.int 0))) → ∃ fs5 : List Value, gm_get h_4 r0 = some (.inr (10, fs5)) ∧ 18 < fs5.length ∧ ∀ h_5 : gm_H, h_5 = gm_put h_4 r0 (.inr (10, fs5.set 18 (.int (-1)))) → Post none h_5
theorem okm162 (c : gx) (d : Nat) (Post : Option Value → gm_H → Prop) (r0 : Nat) (r1 : Nat) (x2 : Int32) (x3 : Int32) (h : gm_H) (w : wm162 c d Post r0 r1 x2 x3 h) : gE c (d + 1) 162 [.ref r0, .ref r1, .int x2, .int x3] h Post := by
  have hk : ∀ pc i, gm_find gk_162 pc = some i → gm_code (gt_T c.1 c.2.1 c.2.2.1) 162 pc = some i := fun _ _ z => z
  unfold wm162 at w
  refine ge_of (by decide) (Nat.le_of_ble_eq_true rfl) ?_
  show gV c d 162 (0, [some (.ref r0), some (.ref r1), some (.int x2), some (.int x3)], [], h) Post
  unfold gV
  refine gw_pst hk 2 (st' := (2, [some (.ref r0), some (.ref r1), some (.int x2), some (.int x3)], [.ref r1, .ref r0], h)) rfl ?_
  obtain ⟨fs1, e1, l1, w⟩ := w
  refine gw_pf (hk _ _ rfl) e1 l1 rfl ?_
  obtain ⟨h_1, eh1⟩ : ∃ z, z = gm_put h r0 (.inr (10, fs1.set 14 (.ref r1))) := ⟨_, rfl⟩
  rw [← eh1]
  replace w := w h_1 eh1
  refine gw_pst hk 2 (st' := (7, [some (.ref r0), some (.ref r1), some (.int x2), some (.int x3)], [.int x2, .ref r0], h_1)) rfl ?_
  obtain ⟨fs2, e2, l2, w⟩ := w
  refine gw_pf (hk _ _ rfl) e2 l2 rfl ?_
  obtain ⟨h_2, eh2⟩ : ∃ z, z = gm_put h_1 r0 (.inr (10, fs2.set 15 (.int x2))) := ⟨_, rfl⟩
  rw [← eh2]
  replace w := w h_2 eh2
  refine gw_pst hk 2 (st' := (12, [some (.ref r0), some (.ref r1), some (.int x2), some (.int x3)], [.int x3, .ref r0], h_2)) rfl ?_
  obtain ⟨fs3, e3, l3, w⟩ := w
  refine gw_pf (hk _ _ rfl) e3 l3 rfl ?_
  obtain ⟨h_3, eh3⟩ : ∃ z, z = gm_put h_2 r0 (.inr (10, fs3.set 16 (.int x3))) := ⟨_, rfl⟩
  rw [← eh3]
  replace w := w h_3 eh3
  refine gw_pst hk 2 (st' := (17, [some (.ref r0), some (.ref r1), some (.int x2), some (.int x3)], [.int 0, .ref r0], h_3)) rfl ?_
  obtain ⟨fs4, e4, l4, w⟩ := w
  refine gw_pf (hk _ _ rfl) e4 l4 rfl ?_
  obtain ⟨h_4, eh4⟩ : ∃ z, z = gm_put h_3 r0 (.inr (10, fs4.set 17 (.int 0))) := ⟨_, rfl⟩
  rw [← eh4]
  replace w := w h_4 eh4
  refine gw_pst hk 2 (st' := (22, [some (.ref r0), some (.ref r1), some (.int x2), some (.int x3)], [.int (-1), .ref r0], h_4)) rfl ?_
  obtain ⟨fs5, e5, l5, w⟩ := w
  refine gw_pf (hk _ _ rfl) e5 l5 rfl ?_
  obtain ⟨h_5, eh5⟩ : ∃ z, z = gm_put h_4 r0 (.inr (10, fs5.set 18 (.int (-1)))) := ⟨_, rfl⟩
  rw [← eh5]
  replace w := w h_5 eh5
  exact gw_ret (hk _ _ rfl) rfl w
/-- CommandByTurnsModel.beginText(I)V -/
def wm163 (c : gx) (d : Nat) (Post : Option Value → gm_H → Prop) (r0 : Nat) (x1 : Int32) (h : gm_H) : Prop :=
  ∃ q_1 : Nat, gm_fld h r0 10 9 = some (.ref q_1) ∧ ∃ x_2 : Int32, gm_fld h r0 10 10 = some (.int x_2) ∧ (∃ fs3, gm_get h r0 = some (.inr (10, fs3))) ∧ gE c d 162 [.ref r0, .ref q_1, .int x_2, .int x1] h (fun v3 h_3 => v3 = none ∧ ∃ fs4 : List Value, gm_get h_3 r0 = some (.inr (10, fs4)) ∧ 10 < fs4.length ∧ ∀ h_4 : gm_H, h_4 = gm_put h_3 r0 (.inr (10, fs4.set 10 (.int 0))) → Post none h_4)
theorem okm163 (c : gx) (d : Nat) (Post : Option Value → gm_H → Prop) (r0 : Nat) (x1 : Int32) (h : gm_H) (w : wm163 c d Post r0 x1 h) : gE c (d + 1) 163 [.ref r0, .int x1] h Post := by
  have hk : ∀ pc i, gm_find gk_163 pc = some i → gm_code (gt_T c.1 c.2.1 c.2.2.1) 163 pc = some i := fun _ _ z => z
  unfold wm163 at w
  refine ge_of (by decide) (Nat.le_of_ble_eq_true rfl) ?_
  show gV c d 163 (0, [some (.ref r0), some (.int x1)], [], h) Post
  unfold gV
  refine gw_pst hk 2 (st' := (2, [some (.ref r0), some (.int x1)], [.ref r0, .ref r0], h)) rfl ?_
  obtain ⟨q_1, e1, w⟩ := w
  refine gw_gf (hk _ _ rfl) e1 ?_
  refine gw_pst hk 1 (st' := (6, [some (.ref r0), some (.int x1)], [.ref r0, .ref q_1, .ref r0], h)) rfl ?_
  obtain ⟨x_2, e2, w⟩ := w
  refine gw_gf (hk _ _ rfl) e2 ?_
  refine gw_pst hk 1 (st' := (10, [some (.ref r0), some (.int x1)], [.int x1, .int x_2, .ref q_1, .ref r0], h)) rfl ?_
  obtain ⟨⟨fs3, e3⟩, w⟩ := w
  refine gw_call (jj := 162) (As := [.ref r0, .ref q_1, .int x_2, .int x1]) (rest := []) (hk _ _ rfl) (fun _ => rfl) rfl rfl (Nat.le_of_ble_eq_true rfl) (gm_rcv_v rfl e3 rfl) ?_
  refine ge_imp w (fun v3 h_3 w => ?_)
  obtain ⟨rfl, w⟩ := w
  show gV c d 163 (13, [some (.ref r0), some (.int x1)], [], h_3) Post
  refine gw_pst hk 2 (st' := (15, [some (.ref r0), some (.int x1)], [.int 0, .ref r0], h_3)) rfl ?_
  obtain ⟨fs4, e4, l4, w⟩ := w
  refine gw_pf (hk _ _ rfl) e4 l4 rfl ?_
  obtain ⟨h_4, eh4⟩ : ∃ z, z = gm_put h_3 r0 (.inr (10, fs4.set 10 (.int 0))) := ⟨_, rfl⟩
  rw [← eh4]
  replace w := w h_4 eh4
  exact gw_ret (hk _ _ rfl) rfl w
def w164_39 (c : gx) (d : Nat) (Post : Option Value → gm_H → Prop) (xs0 : Int32) (h : gm_H) : Prop :=
  Post (some (.int xs0)) h
theorem ok164_39 (c : gx) (d : Nat) (Post : Option Value → gm_H → Prop)  (xs0 : Int32) (h : gm_H) (w : w164_39 c d Post xs0 h) : gV c d 164 (39, [none], [.int xs0], h) Post := by
  have hk : ∀ pc i, gm_find gk_164 pc = some i → gm_code (gt_T c.1 c.2.1 c.2.2.1) 164 pc = some i := fun _ _ z => z
  unfold w164_39 at w
  unfold gV
  exact gw_ret (hk _ _ rfl) rfl w
def w164_38 (c : gx) (d : Nat) (Post : Option Value → gm_H → Prop)  (h : gm_H) : Prop :=
  w164_39 c d Post (-1) h
theorem ok164_38 (c : gx) (d : Nat) (Post : Option Value → gm_H → Prop)   (h : gm_H) (w : w164_38 c d Post  h) : gV c d 164 (38, [none], [], h) Post := by
  have hk : ∀ pc i, gm_find gk_164 pc = some i → gm_code (gt_T c.1 c.2.1 c.2.2.1) 164 pc = some i := fun _ _ z => z
  unfold w164_38 at w
  unfold gV
  refine gw_pst hk 1 (st' := (39, [none], [.int (-1)], h)) rfl ?_
  exact ok164_39 c d Post _ _ w
/-- CommandByTurnsModel.here()I -/
def wm164 (c : gx) (d : Nat) (Post : Option Value → gm_H → Prop) (r0 : Nat) (h : gm_H) : Prop :=
  ∃ x_1 : Int32, gm_fld h r0 10 17 = some (.int x_1) ∧ ∃ x_2 : Int32, gm_fld h r0 10 15 = some (.int x_2) ∧ ((x_2 ≤ x_1 → w164_38 c d Post h) ∧ (¬ (x_2 ≤ x_1) → ∃ x_4 : Int32, gm_fld h r0 10 17 = some (.int x_4) ∧ ∃ x_5 : Int32, gm_fld h r0 10 16 = some (.int x_5) ∧ ((x_5 ≤ x_4 → w164_38 c d Post h) ∧ (¬ (x_5 ≤ x_4) → ∃ q_7 : Nat, gm_fld h r0 10 14 = some (.ref q_7) ∧ ∃ x_8 : Int32, gm_fld h r0 10 17 = some (.int x_8) ∧ ∃ (n9 : Nat) (f9 : Nat → Int32), gm_get h q_7 = some (.inl (3, n9, .inl f9)) ∧ vp_in x_8 n9 ∧ w164_39 c d Post ((f9 (x_8 : Int32).toNatClampNeg) &&& 255) h))))
theorem okm164 (c : gx) (d : Nat) (Post : Option Value → gm_H → Prop) (r0 : Nat) (h : gm_H) (w : wm164 c d Post r0 h) : gE c (d + 1) 164 [.ref r0] h Post := by
  have hk : ∀ pc i, gm_find gk_164 pc = some i → gm_code (gt_T c.1 c.2.1 c.2.2.1) 164 pc = some i := fun _ _ z => z
  unfold wm164 at w
  refine ge_of (by decide) (Nat.le_of_ble_eq_true rfl) ?_
  show gV c d 164 (0, [some (.ref r0)], [], h) Post
  unfold gV
  refine gw_pst hk 1 (st' := (1, [some (.ref r0)], [.ref r0], h)) rfl ?_
  obtain ⟨x_1, e1, w⟩ := w
  refine gw_gf (hk _ _ rfl) e1 ?_
  refine gw_pst hk 1 (st' := (5, [some (.ref r0)], [.ref r0, .int x_1], h)) rfl ?_
  obtain ⟨x_2, e2, w⟩ := w
  refine gw_gf (hk _ _ rfl) e2 ?_
  refine gw_br (c := x_2 ≤ x_1) (a := (38, [some (.ref r0)], [], h)) (b := (11, [some (.ref r0)], [], h)) (hk _ _ rfl) rfl ⟨fun z3 => ?_, fun z3 => ?_⟩
  · replace w := w.1 z3
    refine gw_le (L' := [none]) (gm_le_n _ gm_le_nil) ?_
    exact ok164_38 c d Post _ w
  · replace w := w.2 z3
    refine gw_pst hk 1 (st' := (12, [some (.ref r0)], [.ref r0], h)) rfl ?_
    obtain ⟨x_4, e4, w⟩ := w
    refine gw_gf (hk _ _ rfl) e4 ?_
    refine gw_pst hk 1 (st' := (16, [some (.ref r0)], [.ref r0, .int x_4], h)) rfl ?_
    obtain ⟨x_5, e5, w⟩ := w
    refine gw_gf (hk _ _ rfl) e5 ?_
    refine gw_br (c := x_5 ≤ x_4) (a := (38, [some (.ref r0)], [], h)) (b := (22, [some (.ref r0)], [], h)) (hk _ _ rfl) rfl ⟨fun z6 => ?_, fun z6 => ?_⟩
    · replace w := w.1 z6
      refine gw_le (L' := [none]) (gm_le_n _ gm_le_nil) ?_
      exact ok164_38 c d Post _ w
    · replace w := w.2 z6
      refine gw_pst hk 1 (st' := (23, [some (.ref r0)], [.ref r0], h)) rfl ?_
      obtain ⟨q_7, e7, w⟩ := w
      refine gw_gf (hk _ _ rfl) e7 ?_
      refine gw_pst hk 1 (st' := (27, [some (.ref r0)], [.ref r0, .ref q_7], h)) rfl ?_
      obtain ⟨x_8, e8, w⟩ := w
      refine gw_gf (hk _ _ rfl) e8 ?_
      obtain ⟨n9, f9, e9, b9, w⟩ := w
      refine gw_ald (hk _ _ rfl) (Or.inr (Or.inr ⟨rfl, rfl, Or.inl rfl⟩)) e9 b9 ?_
      refine gw_pst hk 3 (st' := (39, [some (.ref r0)], [.int ((f9 (x_8 : Int32).toNatClampNeg) &&& 255)], h)) rfl ?_
      refine gw_le (L' := [none]) (gm_le_n _ gm_le_nil) ?_
      exact ok164_39 c d Post _ _ w
def w165_13 (c : gx) (d : Nat) (Post : Option Value → gm_H → Prop) (xs0 : Int32) (h : gm_H) : Prop :=
  ((xs0 = 0 ∨ xs0 = 1) ∧ Post (some (.int xs0)) h)
theorem ok165_13 (c : gx) (d : Nat) (Post : Option Value → gm_H → Prop)  (xs0 : Int32) (h : gm_H) (w : w165_13 c d Post xs0 h) : gV c d 165 (13, [none], [.int xs0], h) Post := by
  have hk : ∀ pc i, gm_find gk_165 pc = some i → gm_code (gt_T c.1 c.2.1 c.2.2.1) 165 pc = some i := fun _ _ z => z
  unfold w165_13 at w
  unfold gV
  exact gw_retZ (hk _ _ rfl) rfl w.1 w.2
/-- CommandByTurnsModel.fine()Z -/
def wm165 (c : gx) (d : Nat) (Post : Option Value → gm_H → Prop) (r0 : Nat) (h : gm_H) : Prop :=
  ∃ x_1 : Int32, gm_fld h r0 10 18 = some (.int x_1) ∧ ((x_1 = (-1) → w165_13 c d Post 1 h) ∧ (¬ (x_1 = (-1)) → w165_13 c d Post 0 h))
theorem okm165 (c : gx) (d : Nat) (Post : Option Value → gm_H → Prop) (r0 : Nat) (h : gm_H) (w : wm165 c d Post r0 h) : gE c (d + 1) 165 [.ref r0] h Post := by
  have hk : ∀ pc i, gm_find gk_165 pc = some i → gm_code (gt_T c.1 c.2.1 c.2.2.1) 165 pc = some i := fun _ _ z => z
  unfold wm165 at w
  refine ge_of (by decide) (Nat.le_of_ble_eq_true rfl) ?_
  show gV c d 165 (0, [some (.ref r0)], [], h) Post
  unfold gV
  refine gw_pst hk 1 (st' := (1, [some (.ref r0)], [.ref r0], h)) rfl ?_
  obtain ⟨x_1, e1, w⟩ := w
  refine gw_gf (hk _ _ rfl) e1 ?_
  refine gw_pst hk 1 (st' := (5, [some (.ref r0)], [.int (-1), .int x_1], h)) rfl ?_
  refine gw_br (c := x_1 = (-1)) (a := (8, [some (.ref r0)], [], h)) (b := (12, [some (.ref r0)], [], h)) (hk _ _ rfl) rfl ⟨fun z2 => ?_, fun z2 => ?_⟩
  · replace w := w.1 z2
    refine gw_pst hk 2 (st' := (13, [some (.ref r0)], [.int 1], h)) rfl ?_
    refine gw_le (L' := [none]) (gm_le_n _ gm_le_nil) ?_
    exact ok165_13 c d Post _ _ w
  · replace w := w.2 z2
    refine gw_pst hk 1 (st' := (13, [some (.ref r0)], [.int 0], h)) rfl ?_
    refine gw_le (L' := [none]) (gm_le_n _ gm_le_nil) ?_
    exact ok165_13 c d Post _ _ w
def w166_12 (c : gx) (d : Nat) (Post : Option Value → gm_H → Prop)  (h : gm_H) : Prop :=
  Post none h
theorem ok166_12 (c : gx) (d : Nat) (Post : Option Value → gm_H → Prop)   (h : gm_H) (w : w166_12 c d Post  h) : gV c d 166 (12, [none, none], [], h) Post := by
  have hk : ∀ pc i, gm_find gk_166 pc = some i → gm_code (gt_T c.1 c.2.1 c.2.2.1) 166 pc = some i := fun _ _ z => z
  unfold w166_12 at w
  unfold gV
  exact gw_ret (hk _ _ rfl) rfl w
/-- CommandByTurnsModel.fault(I)V -/
def wm166 (c : gx) (d : Nat) (Post : Option Value → gm_H → Prop) (r0 : Nat) (x1 : Int32) (h : gm_H) : Prop :=
  (∃ fs1, gm_get h r0 = some (.inr (10, fs1))) ∧ gE c d 165 [.ref r0] h (fun v1 h_1 => ∃ x_1 : Int32, v1 = some (.int x_1) ∧ ((x_1 = 0 → w166_12 c d Post h_1) ∧ (¬ (x_1 = 0) → ∃ fs3 : List Value, gm_get h_1 r0 = some (.inr (10, fs3)) ∧ 18 < fs3.length ∧ ∀ h_3 : gm_H, h_3 = gm_put h_1 r0 (.inr (10, fs3.set 18 (.int x1))) → w166_12 c d Post h_3)))
theorem okm166 (c : gx) (d : Nat) (Post : Option Value → gm_H → Prop) (r0 : Nat) (x1 : Int32) (h : gm_H) (w : wm166 c d Post r0 x1 h) : gE c (d + 1) 166 [.ref r0, .int x1] h Post := by
  have hk : ∀ pc i, gm_find gk_166 pc = some i → gm_code (gt_T c.1 c.2.1 c.2.2.1) 166 pc = some i := fun _ _ z => z
  unfold wm166 at w
  refine ge_of (by decide) (Nat.le_of_ble_eq_true rfl) ?_
  show gV c d 166 (0, [some (.ref r0), some (.int x1)], [], h) Post
  unfold gV
  refine gw_pst hk 1 (st' := (1, [some (.ref r0), some (.int x1)], [.ref r0], h)) rfl ?_
  obtain ⟨⟨fs1, e1⟩, w⟩ := w
  refine gw_call (jj := 165) (As := [.ref r0]) (rest := []) (hk _ _ rfl) (fun _ => rfl) rfl rfl (Nat.le_of_ble_eq_true rfl) (gm_rcv_v rfl e1 rfl) ?_
  refine ge_imp w (fun v1 h_1 w => ?_)
  obtain ⟨x_1, rfl, w⟩ := w
  show gV c d 166 (4, [some (.ref r0), some (.int x1)], [.int x_1], h_1) Post
  refine gw_br (c := x_1 = 0) (a := (12, [some (.ref r0), some (.int x1)], [], h_1)) (b := (7, [some (.ref r0), some (.int x1)], [], h_1)) (hk _ _ rfl) rfl ⟨fun z2 => ?_, fun z2 => ?_⟩
  · replace w := w.1 z2
    refine gw_le (L' := [none, none]) (gm_le_n _ (gm_le_n _ gm_le_nil)) ?_
    exact ok166_12 c d Post _ w
  · replace w := w.2 z2
    refine gw_pst hk 2 (st' := (9, [some (.ref r0), some (.int x1)], [.int x1, .ref r0], h_1)) rfl ?_
    obtain ⟨fs3, e3, l3, w⟩ := w
    refine gw_pf (hk _ _ rfl) e3 l3 rfl ?_
    obtain ⟨h_3, eh3⟩ : ∃ z, z = gm_put h_1 r0 (.inr (10, fs3.set 18 (.int x1))) := ⟨_, rfl⟩
    rw [← eh3]
    replace w := w h_3 eh3
    refine gw_le (L' := [none, none]) (gm_le_n _ (gm_le_n _ gm_le_nil)) ?_
    exact ok166_12 c d Post _ w
def w167_15 (c : gx) (d : Nat) (Post : Option Value → gm_H → Prop)  (h : gm_H) : Prop :=
  Post (some (.int 0)) h
theorem ok167_15 (c : gx) (d : Nat) (Post : Option Value → gm_H → Prop)   (h : gm_H) (w : w167_15 c d Post  h) : gV c d 167 (15, [none, none], [], h) Post := by
  have hk : ∀ pc i, gm_find gk_167 pc = some i → gm_code (gt_T c.1 c.2.1 c.2.2.1) 167 pc = some i := fun _ _ z => z
  unfold w167_15 at w
  unfold gV
  refine gw_pst hk 1 (st' := (16, [none, none], [.int 0], h)) rfl ?_
  exact gw_ret (hk _ _ rfl) rfl w
/-- CommandByTurnsModel.passes(C)Z -/
def wm167 (c : gx) (d : Nat) (Post : Option Value → gm_H → Prop) (r0 : Nat) (x1 : Int32) (h : gm_H) : Prop :=
  (∃ fs1, gm_get h r0 = some (.inr (10, fs1))) ∧ gE c d 165 [.ref r0] h (fun v1 h_1 => ∃ x_1 : Int32, v1 = some (.int x_1) ∧ ((x_1 = 0 → w167_15 c d Post h_1) ∧ (¬ (x_1 = 0) → (∃ fs3, gm_get h_1 r0 = some (.inr (10, fs3))) ∧ gE c d 164 [.ref r0] h_1 (fun v3 h_3 => ∃ x_3 : Int32, v3 = some (.int x_3) ∧ ((x_3 = x1 → ∃ x_5 : Int32, gm_fld h_3 r0 10 17 = some (.int x_5) ∧ ∃ fs6 : List Value, gm_get h_3 r0 = some (.inr (10, fs6)) ∧ 17 < fs6.length ∧ ∀ h_6 : gm_H, h_6 = gm_put h_3 r0 (.inr (10, fs6.set 17 (.int (x_5 + 1)))) → Post (some (.int 1)) h_6) ∧ (¬ (x_3 = x1) → w167_15 c d Post h_3))))))
theorem okm167 (c : gx) (d : Nat) (Post : Option Value → gm_H → Prop) (r0 : Nat) (x1 : Int32) (h : gm_H) (w : wm167 c d Post r0 x1 h) : gE c (d + 1) 167 [.ref r0, .int x1] h Post := by
  have hk : ∀ pc i, gm_find gk_167 pc = some i → gm_code (gt_T c.1 c.2.1 c.2.2.1) 167 pc = some i := fun _ _ z => z
  unfold wm167 at w
  refine ge_of (by decide) (Nat.le_of_ble_eq_true rfl) ?_
  show gV c d 167 (0, [some (.ref r0), some (.int x1)], [], h) Post
  unfold gV
  refine gw_pst hk 1 (st' := (1, [some (.ref r0), some (.int x1)], [.ref r0], h)) rfl ?_
  obtain ⟨⟨fs1, e1⟩, w⟩ := w
  refine gw_call (jj := 165) (As := [.ref r0]) (rest := []) (hk _ _ rfl) (fun _ => rfl) rfl rfl (Nat.le_of_ble_eq_true rfl) (gm_rcv_v rfl e1 rfl) ?_
  refine ge_imp w (fun v1 h_1 w => ?_)
  obtain ⟨x_1, rfl, w⟩ := w
  show gV c d 167 (4, [some (.ref r0), some (.int x1)], [.int x_1], h_1) Post
  refine gw_br (c := x_1 = 0) (a := (15, [some (.ref r0), some (.int x1)], [], h_1)) (b := (7, [some (.ref r0), some (.int x1)], [], h_1)) (hk _ _ rfl) rfl ⟨fun z2 => ?_, fun z2 => ?_⟩
  · replace w := w.1 z2
    refine gw_le (L' := [none, none]) (gm_le_n _ (gm_le_n _ gm_le_nil)) ?_
    exact ok167_15 c d Post _ w
  · replace w := w.2 z2
    refine gw_pst hk 1 (st' := (8, [some (.ref r0), some (.int x1)], [.ref r0], h_1)) rfl ?_
    obtain ⟨⟨fs3, e3⟩, w⟩ := w
    refine gw_call (jj := 164) (As := [.ref r0]) (rest := []) (hk _ _ rfl) (fun _ => rfl) rfl rfl (Nat.le_of_ble_eq_true rfl) (gm_rcv_v rfl e3 rfl) ?_
    refine ge_imp w (fun v3 h_3 w => ?_)
    obtain ⟨x_3, rfl, w⟩ := w
    show gV c d 167 (11, [some (.ref r0), some (.int x1)], [.int x_3], h_3) Post
    refine gw_pst hk 1 (st' := (12, [some (.ref r0), some (.int x1)], [.int x1, .int x_3], h_3)) rfl ?_
    refine gw_br (c := x_3 = x1) (a := (17, [some (.ref r0), some (.int x1)], [], h_3)) (b := (15, [some (.ref r0), some (.int x1)], [], h_3)) (hk _ _ rfl) rfl ⟨fun z4 => ?_, fun z4 => ?_⟩
    · replace w := w.1 z4
      refine gw_pst hk 2 (st' := (19, [some (.ref r0), some (.int x1)], [.ref r0, .ref r0], h_3)) rfl ?_
      obtain ⟨x_5, e5, w⟩ := w
      refine gw_gf (hk _ _ rfl) e5 ?_
      refine gw_pst hk 2 (st' := (24, [some (.ref r0), some (.int x1)], [.int (x_5 + 1), .ref r0], h_3)) rfl ?_
      obtain ⟨fs6, e6, l6, w⟩ := w
      refine gw_pf (hk _ _ rfl) e6 l6 rfl ?_
      obtain ⟨h_6, eh6⟩ : ∃ z, z = gm_put h_3 r0 (.inr (10, fs6.set 17 (.int (x_5 + 1)))) := ⟨_, rfl⟩
      rw [← eh6]
      replace w := w h_6 eh6
      refine gw_pst hk 1 (st' := (28, [some (.ref r0), some (.int x1)], [.int 1], h_6)) rfl ?_
      exact gw_ret (hk _ _ rfl) rfl w
    · replace w := w.2 z4
      refine gw_le (L' := [none, none]) (gm_le_n _ (gm_le_n _ gm_le_nil)) ?_
      exact ok167_15 c d Post _ w
def w168_16 (c : gx) (d : Nat) (Post : Option Value → gm_H → Prop)  (h : gm_H) : Prop :=
  Post none h
theorem ok168_16 (c : gx) (d : Nat) (Post : Option Value → gm_H → Prop)   (h : gm_H) (w : w168_16 c d Post  h) : gV c d 168 (16, [none, none], [], h) Post := by
  have hk : ∀ pc i, gm_find gk_168 pc = some i → gm_code (gt_T c.1 c.2.1 c.2.2.1) 168 pc = some i := fun _ _ z => z
  unfold w168_16 at w
  unfold gV
  exact gw_ret (hk _ _ rfl) rfl w
/-- CommandByTurnsModel.need(C)V -/
def wm168 (c : gx) (d : Nat) (Post : Option Value → gm_H → Prop) (r0 : Nat) (x1 : Int32) (h : gm_H) : Prop :=
  (∃ fs1, gm_get h r0 = some (.inr (10, fs1))) ∧ gE c d 167 [.ref r0, .int x1] h (fun v1 h_1 => ∃ x_1 : Int32, v1 = some (.int x_1) ∧ ((x_1 = 0 → ∃ x_3 : Int32, gm_fld h_1 r0 10 17 = some (.int x_3) ∧ (∃ fs4, gm_get h_1 r0 = some (.inr (10, fs4))) ∧ gE c d 166 [.ref r0, .int x_3] h_1 (fun v4 h_4 => v4 = none ∧ w168_16 c d Post h_4)) ∧ (¬ (x_1 = 0) → w168_16 c d Post h_1)))
theorem okm168 (c : gx) (d : Nat) (Post : Option Value → gm_H → Prop) (r0 : Nat) (x1 : Int32) (h : gm_H) (w : wm168 c d Post r0 x1 h) : gE c (d + 1) 168 [.ref r0, .int x1] h Post := by
  have hk : ∀ pc i, gm_find gk_168 pc = some i → gm_code (gt_T c.1 c.2.1 c.2.2.1) 168 pc = some i := fun _ _ z => z
  unfold wm168 at w
  refine ge_of (by decide) (Nat.le_of_ble_eq_true rfl) ?_
  show gV c d 168 (0, [some (.ref r0), some (.int x1)], [], h) Post
  unfold gV
  refine gw_pst hk 2 (st' := (2, [some (.ref r0), some (.int x1)], [.int x1, .ref r0], h)) rfl ?_
  obtain ⟨⟨fs1, e1⟩, w⟩ := w
  refine gw_call (jj := 167) (As := [.ref r0, .int x1]) (rest := []) (hk _ _ rfl) (fun _ => rfl) rfl rfl (Nat.le_of_ble_eq_true rfl) (gm_rcv_v rfl e1 rfl) ?_
  refine ge_imp w (fun v1 h_1 w => ?_)
  obtain ⟨x_1, rfl, w⟩ := w
  show gV c d 168 (5, [some (.ref r0), some (.int x1)], [.int x_1], h_1) Post
  refine gw_br (c := x_1 = 0) (a := (8, [some (.ref r0), some (.int x1)], [], h_1)) (b := (16, [some (.ref r0), some (.int x1)], [], h_1)) (hk _ _ rfl) rfl ⟨fun z2 => ?_, fun z2 => ?_⟩
  · replace w := w.1 z2
    refine gw_pst hk 2 (st' := (10, [some (.ref r0), some (.int x1)], [.ref r0, .ref r0], h_1)) rfl ?_
    obtain ⟨x_3, e3, w⟩ := w
    refine gw_gf (hk _ _ rfl) e3 ?_
    obtain ⟨⟨fs4, e4⟩, w⟩ := w
    refine gw_call (jj := 166) (As := [.ref r0, .int x_3]) (rest := []) (hk _ _ rfl) (fun _ => rfl) rfl rfl (Nat.le_of_ble_eq_true rfl) (gm_rcv_v rfl e4 rfl) ?_
    refine ge_imp w (fun v4 h_4 w => ?_)
    obtain ⟨rfl, w⟩ := w
    show gV c d 168 (16, [some (.ref r0), some (.int x1)], [], h_4) Post
    refine gw_le (L' := [none, none]) (gm_le_n _ (gm_le_n _ gm_le_nil)) ?_
    exact ok168_16 c d Post _ w
  · replace w := w.2 z2
    refine gw_le (L' := [none, none]) (gm_le_n _ (gm_le_n _ gm_le_nil)) ?_
    exact ok168_16 c d Post _ w
/-- CommandByTurnsModel.oneOf(CI)I -/
def wm169 (c : gx) (d : Nat) (Post : Option Value → gm_H → Prop) (r0 : Nat) (x1 : Int32) (x2 : Int32) (h : gm_H) : Prop :=
  (∃ fs1, gm_get h r0 = some (.inr (10, fs1))) ∧ gE c d 165 [.ref r0] h (fun v1 h_1 => ∃ x_1 : Int32, v1 = some (.int x_1) ∧ ((x_1 = 0 → Post (some (.int 0)) h_1) ∧ (¬ (x_1 = 0) → (∃ fs3, gm_get h_1 r0 = some (.inr (10, fs3))) ∧ gE c d 164 [.ref r0] h_1 (fun v3 h_3 => ∃ x_3 : Int32, v3 = some (.int x_3) ∧ gE c d 154 [.int x_3, .int x1, .int ((x1 + x2) - 1)] h_3 (fun v4 h_4 => ∃ x_4 : Int32, v4 = some (.int x_4) ∧ ((x_4 = 0 → ∃ x_6 : Int32, gm_fld h_4 r0 10 17 = some (.int x_6) ∧ (∃ fs7, gm_get h_4 r0 = some (.inr (10, fs7))) ∧ gE c d 166 [.ref r0, .int x_6] h_4 (fun v7 h_7 => v7 = none ∧ Post (some (.int 0)) h_7)) ∧ (¬ (x_4 = 0) → ∃ x_8 : Int32, gm_fld h_4 r0 10 17 = some (.int x_8) ∧ ∃ fs9 : List Value, gm_get h_4 r0 = some (.inr (10, fs9)) ∧ 17 < fs9.length ∧ ∀ h_9 : gm_H, h_9 = gm_put h_4 r0 (.inr (10, fs9.set 17 (.int (x_8 + 1)))) → ∃ q_10 : Nat, gm_fld h_9 r0 10 14 = some (.ref q_10) ∧ ∃ x_11 : Int32, gm_fld h_9 r0 10 17 = some (.int x_11) ∧ ∃ (n12 : Nat) (f12 : Nat → Int32), gm_get h_9 q_10 = some (.inl (3, n12, .inl f12)) ∧ vp_in (x_11 - 1) n12 ∧ Post (some (.int ((f12 (x_11 - 1 : Int32).toNatClampNeg) - x1))) h_9)))))))
theorem okm169 (c : gx) (d : Nat) (Post : Option Value → gm_H → Prop) (r0 : Nat) (x1 : Int32) (x2 : Int32) (h : gm_H) (w : wm169 c d Post r0 x1 x2 h) : gE c (d + 1) 169 [.ref r0, .int x1, .int x2] h Post := by
  have hk : ∀ pc i, gm_find gk_169 pc = some i → gm_code (gt_T c.1 c.2.1 c.2.2.1) 169 pc = some i := fun _ _ z => z
  unfold wm169 at w
  refine ge_of (by decide) (Nat.le_of_ble_eq_true rfl) ?_
  show gV c d 169 (0, [some (.ref r0), some (.int x1), some (.int x2)], [], h) Post
  unfold gV
  refine gw_pst hk 1 (st' := (1, [some (.ref r0), some (.int x1), some (.int x2)], [.ref r0], h)) rfl ?_
  obtain ⟨⟨fs1, e1⟩, w⟩ := w
  refine gw_call (jj := 165) (As := [.ref r0]) (rest := []) (hk _ _ rfl) (fun _ => rfl) rfl rfl (Nat.le_of_ble_eq_true rfl) (gm_rcv_v rfl e1 rfl) ?_
  refine ge_imp w (fun v1 h_1 w => ?_)
  obtain ⟨x_1, rfl, w⟩ := w
  show gV c d 169 (4, [some (.ref r0), some (.int x1), some (.int x2)], [.int x_1], h_1) Post
  refine gw_br (c := x_1 = 0) (a := (7, [some (.ref r0), some (.int x1), some (.int x2)], [], h_1)) (b := (9, [some (.ref r0), some (.int x1), some (.int x2)], [], h_1)) (hk _ _ rfl) rfl ⟨fun z2 => ?_, fun z2 => ?_⟩
  · replace w := w.1 z2
    refine gw_pst hk 1 (st' := (8, [some (.ref r0), some (.int x1), some (.int x2)], [.int 0], h_1)) rfl ?_
    exact gw_ret (hk _ _ rfl) rfl w
  · replace w := w.2 z2
    refine gw_pst hk 1 (st' := (10, [some (.ref r0), some (.int x1), some (.int x2)], [.ref r0], h_1)) rfl ?_
    obtain ⟨⟨fs3, e3⟩, w⟩ := w
    refine gw_call (jj := 164) (As := [.ref r0]) (rest := []) (hk _ _ rfl) (fun _ => rfl) rfl rfl (Nat.le_of_ble_eq_true rfl) (gm_rcv_v rfl e3 rfl) ?_
    refine ge_imp w (fun v3 h_3 w => ?_)
    obtain ⟨x_3, rfl, w⟩ := w
    show gV c d 169 (13, [some (.ref r0), some (.int x1), some (.int x2)], [.int x_3], h_3) Post
    refine gw_pst hk 6 (st' := (19, [some (.ref r0), some (.int x1), some (.int x2)], [.int ((x1 + x2) - 1), .int x1, .int x_3], h_3)) rfl ?_
    refine gw_call (jj := 154) (As := [.int x_3, .int x1, .int ((x1 + x2) - 1)]) (rest := []) (hk _ _ rfl) (fun _ => rfl) rfl rfl (Nat.le_of_ble_eq_true rfl) rfl ?_
    refine ge_imp w (fun v4 h_4 w => ?_)
    obtain ⟨x_4, rfl, w⟩ := w
    show gV c d 169 (22, [some (.ref r0), some (.int x1), some (.int x2)], [.int x_4], h_4) Post
    refine gw_br (c := x_4 = 0) (a := (25, [some (.ref r0), some (.int x1), some (.int x2)], [], h_4)) (b := (35, [some (.ref r0), some (.int x1), some (.int x2)], [], h_4)) (hk _ _ rfl) rfl ⟨fun z5 => ?_, fun z5 => ?_⟩
    · replace w := w.1 z5
      refine gw_pst hk 2 (st' := (27, [some (.ref r0), some (.int x1), some (.int x2)], [.ref r0, .ref r0], h_4)) rfl ?_
      obtain ⟨x_6, e6, w⟩ := w
      refine gw_gf (hk _ _ rfl) e6 ?_
      obtain ⟨⟨fs7, e7⟩, w⟩ := w
      refine gw_call (jj := 166) (As := [.ref r0, .int x_6]) (rest := []) (hk _ _ rfl) (fun _ => rfl) rfl rfl (Nat.le_of_ble_eq_true rfl) (gm_rcv_v rfl e7 rfl) ?_
      refine ge_imp w (fun v7 h_7 w => ?_)
      obtain ⟨rfl, w⟩ := w
      show gV c d 169 (33, [some (.ref r0), some (.int x1), some (.int x2)], [], h_7) Post
      refine gw_pst hk 1 (st' := (34, [some (.ref r0), some (.int x1), some (.int x2)], [.int 0], h_7)) rfl ?_
      exact gw_ret (hk _ _ rfl) rfl w
    · replace w := w.2 z5
      refine gw_pst hk 2 (st' := (37, [some (.ref r0), some (.int x1), some (.int x2)], [.ref r0, .ref r0], h_4)) rfl ?_
      obtain ⟨x_8, e8, w⟩ := w
      refine gw_gf (hk _ _ rfl) e8 ?_
      refine gw_pst hk 2 (st' := (42, [some (.ref r0), some (.int x1), some (.int x2)], [.int (x_8 + 1), .ref r0], h_4)) rfl ?_
      obtain ⟨fs9, e9, l9, w⟩ := w
      refine gw_pf (hk _ _ rfl) e9 l9 rfl ?_
      obtain ⟨h_9, eh9⟩ : ∃ z, z = gm_put h_4 r0 (.inr (10, fs9.set 17 (.int (x_8 + 1)))) := ⟨_, rfl⟩
      rw [← eh9]
      replace w := w h_9 eh9
      refine gw_pst hk 1 (st' := (46, [some (.ref r0), some (.int x1), some (.int x2)], [.ref r0], h_9)) rfl ?_
      obtain ⟨q_10, e10, w⟩ := w
      refine gw_gf (hk _ _ rfl) e10 ?_
      refine gw_pst hk 1 (st' := (50, [some (.ref r0), some (.int x1), some (.int x2)], [.ref r0, .ref q_10], h_9)) rfl ?_
      obtain ⟨x_11, e11, w⟩ := w
      refine gw_gf (hk _ _ rfl) e11 ?_
      refine gw_pst hk 2 (st' := (55, [some (.ref r0), some (.int x1), some (.int x2)], [.int (x_11 - 1), .ref q_10], h_9)) rfl ?_
      obtain ⟨n12, f12, e12, b12, w⟩ := w
      refine gw_ald (hk _ _ rfl) (Or.inr (Or.inr ⟨rfl, rfl, Or.inl rfl⟩)) e12 b12 ?_
      refine gw_pst hk 2 (st' := (58, [some (.ref r0), some (.int x1), some (.int x2)], [.int ((f12 (x_11 - 1 : Int32).toNatClampNeg) - x1)], h_9)) rfl ?_
      exact gw_ret (hk _ _ rfl) rfl w
def w170_57 (c : gx) (d : Nat) (Post : Option Value → gm_H → Prop) (x2 : Int32) (h : gm_H) : Prop :=
  Post (some (.int x2)) h
theorem ok170_57 (c : gx) (d : Nat) (Post : Option Value → gm_H → Prop)  (x2 : Int32) (h : gm_H) (w : w170_57 c d Post x2 h) : gV c d 170 (57, [none, none, some (.int x2), none], [], h) Post := by
  have hk : ∀ pc i, gm_find gk_170 pc = some i → gm_code (gt_T c.1 c.2.1 c.2.2.1) 170 pc = some i := fun _ _ z => z
  unfold w170_57 at w
  unfold gV
  refine gw_pst hk 1 (st' := (58, [none, none, some (.int x2), none], [.int x2], h)) rfl ?_
  exact gw_ret (hk _ _ rfl) rfl w
def wb170_11 (c : gx) (d : Nat) (Post : Option Value → gm_H → Prop) (K11 : Nat → Int32 → Int32 → Int32 → gm_H → Prop) (r0 : Nat) (x1 : Int32) (x2 : Int32) (x3 : Int32) (h : gm_H) : Prop :=
  ((x1 ≤ x3 → w170_57 c d Post x2 h) ∧ (¬ (x1 ≤ x3) → (∃ fs2, gm_get h r0 = some (.inr (10, fs2))) ∧ gE c d 165 [.ref r0] h (fun v2 h_2 => ∃ x_2 : Int32, v2 = some (.int x_2) ∧ ((x_2 = 0 → w170_57 c d Post x2 h_2) ∧ (¬ (x_2 = 0) → (∃ fs4, gm_get h_2 r0 = some (.inr (10, fs4))) ∧ gE c d 164 [.ref r0] h_2 (fun v4 h_4 => ∃ x_4 : Int32, v4 = some (.int x_4) ∧ gE c d 154 [.int x_4, .int 48, .int 57] h_4 (fun v5 h_5 => ∃ x_5 : Int32, v5 = some (.int x_5) ∧ ((x_5 = 0 → w170_57 c d Post x2 h_5) ∧ (¬ (x_5 = 0) → (∃ fs7, gm_get h_5 r0 = some (.inr (10, fs7))) ∧ gE c d 169 [.ref r0, .int 48, .int 10] h_5 (fun v7 h_7 => ∃ x_7 : Int32, v7 = some (.int x_7) ∧ K11 r0 x1 ((10 * x2) + x_7) (x3 + 1) h_7))))))))))
theorem okb170_11 (c : gx) (d : Nat) (Post : Option Value → gm_H → Prop) (K11 : Nat → Int32 → Int32 → Int32 → gm_H → Prop)  (hK11 : ∀ (r0 : Nat) (x1 : Int32) (x2 : Int32) (x3 : Int32) (h : gm_H), K11 r0 x1 x2 x3 h → gV c d 170 (11, [some (.ref r0), some (.int x1), some (.int x2), some (.int x3)], [], h) Post) (r0 : Nat) (x1 : Int32) (x2 : Int32) (x3 : Int32) (h : gm_H) (w : wb170_11 c d Post K11 r0 x1 x2 x3 h) : gV c d 170 (11, [some (.ref r0), some (.int x1), some (.int x2), some (.int x3)], [], h) Post := by
  have hk : ∀ pc i, gm_find gk_170 pc = some i → gm_code (gt_T c.1 c.2.1 c.2.2.1) 170 pc = some i := fun _ _ z => z
  unfold wb170_11 at w
  unfold gV
  refine gw_pst hk 2 (st' := (13, [some (.ref r0), some (.int x1), some (.int x2), some (.int x3)], [.int x1, .int x3], h)) rfl ?_
  refine gw_br (c := x1 ≤ x3) (a := (57, [some (.ref r0), some (.int x1), some (.int x2), some (.int x3)], [], h)) (b := (16, [some (.ref r0), some (.int x1), some (.int x2), some (.int x3)], [], h)) (hk _ _ rfl) rfl ⟨fun z1 => ?_, fun z1 => ?_⟩
  · replace w := w.1 z1
    refine gw_le (L' := [none, none, some (.int x2), none]) (gm_le_n _ (gm_le_n _ (gm_le_k _ (gm_le_n _ gm_le_nil)))) ?_
    exact ok170_57 c d Post _ _ w
  · replace w := w.2 z1
    refine gw_pst hk 1 (st' := (17, [some (.ref r0), some (.int x1), some (.int x2), some (.int x3)], [.ref r0], h)) rfl ?_
    obtain ⟨⟨fs2, e2⟩, w⟩ := w
    refine gw_call (jj := 165) (As := [.ref r0]) (rest := []) (hk _ _ rfl) (fun _ => rfl) rfl rfl (Nat.le_of_ble_eq_true rfl) (gm_rcv_v rfl e2 rfl) ?_
    refine ge_imp w (fun v2 h_2 w => ?_)
    obtain ⟨x_2, rfl, w⟩ := w
    show gV c d 170 (20, [some (.ref r0), some (.int x1), some (.int x2), some (.int x3)], [.int x_2], h_2) Post
    refine gw_br (c := x_2 = 0) (a := (57, [some (.ref r0), some (.int x1), some (.int x2), some (.int x3)], [], h_2)) (b := (23, [some (.ref r0), some (.int x1), some (.int x2), some (.int x3)], [], h_2)) (hk _ _ rfl) rfl ⟨fun z3 => ?_, fun z3 => ?_⟩
    · replace w := w.1 z3
      refine gw_le (L' := [none, none, some (.int x2), none]) (gm_le_n _ (gm_le_n _ (gm_le_k _ (gm_le_n _ gm_le_nil)))) ?_
      exact ok170_57 c d Post _ _ w
    · replace w := w.2 z3
      refine gw_pst hk 1 (st' := (24, [some (.ref r0), some (.int x1), some (.int x2), some (.int x3)], [.ref r0], h_2)) rfl ?_
      obtain ⟨⟨fs4, e4⟩, w⟩ := w
      refine gw_call (jj := 164) (As := [.ref r0]) (rest := []) (hk _ _ rfl) (fun _ => rfl) rfl rfl (Nat.le_of_ble_eq_true rfl) (gm_rcv_v rfl e4 rfl) ?_
      refine ge_imp w (fun v4 h_4 w => ?_)
      obtain ⟨x_4, rfl, w⟩ := w
      show gV c d 170 (27, [some (.ref r0), some (.int x1), some (.int x2), some (.int x3)], [.int x_4], h_4) Post
      refine gw_pst hk 2 (st' := (31, [some (.ref r0), some (.int x1), some (.int x2), some (.int x3)], [.int 57, .int 48, .int x_4], h_4)) rfl ?_
      refine gw_call (jj := 154) (As := [.int x_4, .int 48, .int 57]) (rest := []) (hk _ _ rfl) (fun _ => rfl) rfl rfl (Nat.le_of_ble_eq_true rfl) rfl ?_
      refine ge_imp w (fun v5 h_5 w => ?_)
      obtain ⟨x_5, rfl, w⟩ := w
      show gV c d 170 (34, [some (.ref r0), some (.int x1), some (.int x2), some (.int x3)], [.int x_5], h_5) Post
      refine gw_br (c := x_5 = 0) (a := (57, [some (.ref r0), some (.int x1), some (.int x2), some (.int x3)], [], h_5)) (b := (37, [some (.ref r0), some (.int x1), some (.int x2), some (.int x3)], [], h_5)) (hk _ _ rfl) rfl ⟨fun z6 => ?_, fun z6 => ?_⟩
      · replace w := w.1 z6
        refine gw_le (L' := [none, none, some (.int x2), none]) (gm_le_n _ (gm_le_n _ (gm_le_k _ (gm_le_n _ gm_le_nil)))) ?_
        exact ok170_57 c d Post _ _ w
      · replace w := w.2 z6
        refine gw_pst hk 6 (st' := (46, [some (.ref r0), some (.int x1), some (.int x2), some (.int x3)], [.int 10, .int 48, .ref r0, .int (10 * x2)], h_5)) rfl ?_
        obtain ⟨⟨fs7, e7⟩, w⟩ := w
        refine gw_call (jj := 169) (As := [.ref r0, .int 48, .int 10]) (rest := [.int (10 * x2)]) (hk _ _ rfl) (fun _ => rfl) rfl rfl (Nat.le_of_ble_eq_true rfl) (gm_rcv_v rfl e7 rfl) ?_
        refine ge_imp w (fun v7 h_7 w => ?_)
        obtain ⟨x_7, rfl, w⟩ := w
        show gV c d 170 (49, [some (.ref r0), some (.int x1), some (.int x2), some (.int x3)], [.int x_7, .int (10 * x2)], h_7) Post
        refine gw_pst hk 4 (st' := (11, [some (.ref r0), some (.int x1), some (.int ((10 * x2) + x_7)), some (.int (x3 + 1))], [], h_7)) rfl ?_
        exact hK11 _ _ _ _ _ w
def wl170_11 (c : gx) (d : Nat) (Post : Option Value → gm_H → Prop) : Nat → Nat → Int32 → Int32 → Int32 → gm_H → Prop
  | 0 => fun _ _ _ _ _ => False
  | n + 1 => wb170_11 c d Post (wl170_11 c d Post n)
theorem okl170_11 (c : gx) (d : Nat) (Post : Option Value → gm_H → Prop) : ∀ (n : Nat) (r0 : Nat) (x1 : Int32) (x2 : Int32) (x3 : Int32) (h : gm_H), wl170_11 c d Post n r0 x1 x2 x3 h → gV c d 170 (11, [some (.ref r0), some (.int x1), some (.int x2), some (.int x3)], [], h) Post
  | 0, _, _, _, _, _, w => w.elim
  | n + 1, r0, x1, x2, x3, h, w => okb170_11 c d Post (wl170_11 c d Post n) (okl170_11 c d Post n) r0 x1 x2 x3 h w
/-- CommandByTurnsModel.number(I)I -/
def wm170 (c : gx) (d : Nat) (Post : Option Value → gm_H → Prop) (r0 : Nat) (x1 : Int32) (h : gm_H) : Prop :=
  (∃ fs1, gm_get h r0 = some (.inr (10, fs1))) ∧ gE c d 169 [.ref r0, .int 48, .int 10] h (fun v1 h_1 => ∃ x_1 : Int32, v1 = some (.int x_1) ∧ ∃ n, wl170_11 c d Post n r0 x1 x_1 1 h_1)
theorem okm170 (c : gx) (d : Nat) (Post : Option Value → gm_H → Prop) (r0 : Nat) (x1 : Int32) (h : gm_H) (w : wm170 c d Post r0 x1 h) : gE c (d + 1) 170 [.ref r0, .int x1] h Post := by
  have hk : ∀ pc i, gm_find gk_170 pc = some i → gm_code (gt_T c.1 c.2.1 c.2.2.1) 170 pc = some i := fun _ _ z => z
  unfold wm170 at w
  refine ge_of (by decide) (Nat.le_of_ble_eq_true rfl) ?_
  show gV c d 170 (0, [some (.ref r0), some (.int x1), none, none], [], h) Post
  unfold gV
  refine gw_pst hk 3 (st' := (5, [some (.ref r0), some (.int x1), none, none], [.int 10, .int 48, .ref r0], h)) rfl ?_
  obtain ⟨⟨fs1, e1⟩, w⟩ := w
  refine gw_call (jj := 169) (As := [.ref r0, .int 48, .int 10]) (rest := []) (hk _ _ rfl) (fun _ => rfl) rfl rfl (Nat.le_of_ble_eq_true rfl) (gm_rcv_v rfl e1 rfl) ?_
  refine ge_imp w (fun v1 h_1 w => ?_)
  obtain ⟨x_1, rfl, w⟩ := w
  show gV c d 170 (8, [some (.ref r0), some (.int x1), none, none], [.int x_1], h_1) Post
  refine gw_pst hk 3 (st' := (11, [some (.ref r0), some (.int x1), some (.int x_1), some (.int 1)], [], h_1)) rfl ?_
  obtain ⟨n, w⟩ := w
  exact okl170_11 c d Post n _ _ _ _ _ w
def w171_19 (c : gx) (d : Nat) (Post : Option Value → gm_H → Prop) (r0 : Nat) (h : gm_H) : Prop :=
  (∃ fs1, gm_get h r0 = some (.inr (10, fs1))) ∧ gE c d 165 [.ref r0] h (fun v1 h_1 => ∃ x_1 : Int32, v1 = some (.int x_1) ∧ ((x_1 = 0 ∨ x_1 = 1) ∧ Post (some (.int x_1)) h_1))
theorem ok171_19 (c : gx) (d : Nat) (Post : Option Value → gm_H → Prop)  (r0 : Nat) (h : gm_H) (w : w171_19 c d Post r0 h) : gV c d 171 (19, [some (.ref r0)], [], h) Post := by
  have hk : ∀ pc i, gm_find gk_171 pc = some i → gm_code (gt_T c.1 c.2.1 c.2.2.1) 171 pc = some i := fun _ _ z => z
  unfold w171_19 at w
  unfold gV
  refine gw_pst hk 1 (st' := (20, [some (.ref r0)], [.ref r0], h)) rfl ?_
  obtain ⟨⟨fs1, e1⟩, w⟩ := w
  refine gw_call (jj := 165) (As := [.ref r0]) (rest := []) (hk _ _ rfl) (fun _ => rfl) rfl rfl (Nat.le_of_ble_eq_true rfl) (gm_rcv_v rfl e1 rfl) ?_
  refine ge_imp w (fun v1 h_1 w => ?_)
  obtain ⟨x_1, rfl, w⟩ := w
  show gV c d 171 (23, [some (.ref r0)], [.int x_1], h_1) Post
  exact gw_retZ (hk _ _ rfl) rfl w.1 w.2
/-- CommandByTurnsModel.wasRight()Z -/
def wm171 (c : gx) (d : Nat) (Post : Option Value → gm_H → Prop) (r0 : Nat) (h : gm_H) : Prop :=
  ∃ x_1 : Int32, gm_fld h r0 10 17 = some (.int x_1) ∧ ∃ x_2 : Int32, gm_fld h r0 10 15 = some (.int x_2) ∧ ((x_2 ≤ x_1 → w171_19 c d Post r0 h) ∧ (¬ (x_2 ≤ x_1) → ∃ x_4 : Int32, gm_fld h r0 10 17 = some (.int x_4) ∧ (∃ fs5, gm_get h r0 = some (.inr (10, fs5))) ∧ gE c d 166 [.ref r0, .int x_4] h (fun v5 h_5 => v5 = none ∧ w171_19 c d Post r0 h_5)))
theorem okm171 (c : gx) (d : Nat) (Post : Option Value → gm_H → Prop) (r0 : Nat) (h : gm_H) (w : wm171 c d Post r0 h) : gE c (d + 1) 171 [.ref r0] h Post := by
  have hk : ∀ pc i, gm_find gk_171 pc = some i → gm_code (gt_T c.1 c.2.1 c.2.2.1) 171 pc = some i := fun _ _ z => z
  unfold wm171 at w
  refine ge_of (by decide) (Nat.le_of_ble_eq_true rfl) ?_
  show gV c d 171 (0, [some (.ref r0)], [], h) Post
  unfold gV
  refine gw_pst hk 1 (st' := (1, [some (.ref r0)], [.ref r0], h)) rfl ?_
  obtain ⟨x_1, e1, w⟩ := w
  refine gw_gf (hk _ _ rfl) e1 ?_
  refine gw_pst hk 1 (st' := (5, [some (.ref r0)], [.ref r0, .int x_1], h)) rfl ?_
  obtain ⟨x_2, e2, w⟩ := w
  refine gw_gf (hk _ _ rfl) e2 ?_
  refine gw_br (c := x_2 ≤ x_1) (a := (19, [some (.ref r0)], [], h)) (b := (11, [some (.ref r0)], [], h)) (hk _ _ rfl) rfl ⟨fun z3 => ?_, fun z3 => ?_⟩
  · replace w := w.1 z3
    exact ok171_19 c d Post _ _ w
  · replace w := w.2 z3
    refine gw_pst hk 2 (st' := (13, [some (.ref r0)], [.ref r0, .ref r0], h)) rfl ?_
    obtain ⟨x_4, e4, w⟩ := w
    refine gw_gf (hk _ _ rfl) e4 ?_
    obtain ⟨⟨fs5, e5⟩, w⟩ := w
    refine gw_call (jj := 166) (As := [.ref r0, .int x_4]) (rest := []) (hk _ _ rfl) (fun _ => rfl) rfl rfl (Nat.le_of_ble_eq_true rfl) (gm_rcv_v rfl e5 rfl) ?_
    refine ge_imp w (fun v5 h_5 w => ?_)
    obtain ⟨rfl, w⟩ := w
    show gV c d 171 (19, [some (.ref r0)], [], h_5) Post
    exact ok171_19 c d Post _ _ w
def w172_98 (c : gx) (d : Nat) (Post : Option Value → gm_H → Prop) (K15 : Nat → Int32 → Int32 → gm_H → Prop) (r0 : Nat) (x1 : Int32) (xs0 : Int32) (h : gm_H) : Prop :=
  K15 r0 (x1 + 1) xs0 h
theorem ok172_98 (c : gx) (d : Nat) (Post : Option Value → gm_H → Prop) (K15 : Nat → Int32 → Int32 → gm_H → Prop)  (hK15 : ∀ (r0 : Nat) (x1 : Int32) (x2 : Int32) (h : gm_H), K15 r0 x1 x2 h → gV c d 172 (15, [some (.ref r0), some (.int x1), some (.int x2), none], [], h) Post) (r0 : Nat) (x1 : Int32) (xs0 : Int32) (h : gm_H) (w : w172_98 c d Post K15 r0 x1 xs0 h) : gV c d 172 (98, [some (.ref r0), some (.int x1), none, none], [.int xs0], h) Post := by
  have hk : ∀ pc i, gm_find gk_172 pc = some i → gm_code (gt_T c.1 c.2.1 c.2.2.1) 172 pc = some i := fun _ _ z => z
  unfold w172_98 at w
  unfold gV
  refine gw_pst hk 3 (st' := (15, [some (.ref r0), some (.int (x1 + 1)), some (.int xs0), none], [], h)) rfl ?_
  exact hK15 _ _ _ _ w
def w172_93 (c : gx) (d : Nat) (Post : Option Value → gm_H → Prop) (K15 : Nat → Int32 → Int32 → gm_H → Prop) (r0 : Nat) (x1 : Int32) (h : gm_H) : Prop :=
  w172_98 c d Post K15 r0 x1 1 h
theorem ok172_93 (c : gx) (d : Nat) (Post : Option Value → gm_H → Prop) (K15 : Nat → Int32 → Int32 → gm_H → Prop)  (hK15 : ∀ (r0 : Nat) (x1 : Int32) (x2 : Int32) (h : gm_H), K15 r0 x1 x2 h → gV c d 172 (15, [some (.ref r0), some (.int x1), some (.int x2), none], [], h) Post) (r0 : Nat) (x1 : Int32) (h : gm_H) (w : w172_93 c d Post K15 r0 x1 h) : gV c d 172 (93, [some (.ref r0), some (.int x1), none, none], [], h) Post := by
  have hk : ∀ pc i, gm_find gk_172 pc = some i → gm_code (gt_T c.1 c.2.1 c.2.2.1) 172 pc = some i := fun _ _ z => z
  unfold w172_93 at w
  unfold gV
  refine gw_pst hk 2 (st' := (98, [some (.ref r0), some (.int x1), none, none], [.int 1], h)) rfl ?_
  exact ok172_98 c d Post K15 hK15 _ _ _ _ w
def wb172_126 (c : gx) (d : Nat) (Post : Option Value → gm_H → Prop) (K126 : Nat → Int32 → Int32 → gm_H → Prop) (r0 : Nat) (x1 : Int32) (x3 : Int32) (h : gm_H) : Prop :=
  ((x1 ≤ x3 → ∃ q_2 : Nat, gm_fld h r0 10 0 = some (.ref q_2) ∧ ∃ (n3 : Nat) (f3 : Nat → Int32), gm_get h q_2 = some (.inl (0, n3, .inl f3)) ∧ vp_in 1 n3 ∧ ∀ h_3 : gm_H, h_3 = gm_put h q_2 (.inl (0, n3, .inl (upd f3 (1 : Int32).toNatClampNeg (vp_nar .int 0)))) → ∃ q_4 : Nat, gm_fld h_3 r0 10 0 = some (.ref q_4) ∧ ∃ (n5 : Nat) (f5 : Nat → Int32), gm_get h_3 q_4 = some (.inl (0, n5, .inl f5)) ∧ vp_in 2 n5 ∧ ∀ h_5 : gm_H, h_5 = gm_put h_3 q_4 (.inl (0, n5, .inl (upd f5 (2 : Int32).toNatClampNeg (vp_nar .int (x1 - 1))))) → ∃ fs6 : List Value, gm_get h_5 r0 = some (.inr (10, fs6)) ∧ 26 < fs6.length ∧ ∀ h_6 : gm_H, h_6 = gm_put h_5 r0 (.inr (10, fs6.set 26 (.int 0))) → ∃ q_7 : Nat, gm_fld h_6 r0 10 39 = some (.ref q_7) ∧ ∃ (n8 : Nat) (f8 : Nat → Int32), gm_get h_6 q_7 = some (.inl (4, n8, .inl f8)) ∧ vp_in 0 n8 ∧ ∀ h_8 : gm_H, h_8 = gm_put h_6 q_7 (.inl (4, n8, .inl (upd f8 (0 : Int32).toNatClampNeg (vp_nar .boolean 0)))) → ∃ q_9 : Nat, gm_fld h_8 r0 10 39 = some (.ref q_9) ∧ ∃ (n10 : Nat) (f10 : Nat → Int32), gm_get h_8 q_9 = some (.inl (4, n10, .inl f10)) ∧ vp_in 1 n10 ∧ ∀ h_10 : gm_H, h_10 = gm_put h_8 q_9 (.inl (4, n10, .inl (upd f10 (1 : Int32).toNatClampNeg (vp_nar .boolean 0)))) → Post (some (.int x1)) h_10) ∧ (¬ (x1 ≤ x3) → ∃ q_11 : Nat, gm_fld h r0 10 2 = some (.ref q_11) ∧ ∃ q_12 : Nat, gm_fld h r0 10 19 = some (.ref q_12) ∧ ∃ (n13 : Nat) (f13 : Nat → Int32), gm_get h q_12 = some (.inl (0, n13, .inl f13)) ∧ vp_in x3 n13 ∧ ∃ (n14 : Nat) (f14 : Nat → Int32), gm_get h q_11 = some (.inl (0, n14, .inl f14)) ∧ vp_in x3 n14 ∧ ∀ h_14 : gm_H, h_14 = gm_put h q_11 (.inl (0, n14, .inl (upd f14 (x3 : Int32).toNatClampNeg (vp_nar .int (f13 (x3 : Int32).toNatClampNeg))))) → ∃ q_15 : Nat, gm_fld h_14 r0 10 3 = some (.ref q_15) ∧ ∃ q_16 : Nat, gm_fld h_14 r0 10 20 = some (.ref q_16) ∧ ∃ (n17 : Nat) (f17 : Nat → Int32), gm_get h_14 q_16 = some (.inl (4, n17, .inl f17)) ∧ vp_in x3 n17 ∧ ∃ (n18 : Nat) (f18 : Nat → Int32), gm_get h_14 q_15 = some (.inl (4, n18, .inl f18)) ∧ vp_in x3 n18 ∧ ∀ h_18 : gm_H, h_18 = gm_put h_14 q_15 (.inl (4, n18, .inl (upd f18 (x3 : Int32).toNatClampNeg (vp_nar .boolean (f17 (x3 : Int32).toNatClampNeg))))) → K126 r0 x1 (x3 + 1) h_18))
theorem okb172_126 (c : gx) (d : Nat) (Post : Option Value → gm_H → Prop) (K126 : Nat → Int32 → Int32 → gm_H → Prop)  (hK126 : ∀ (r0 : Nat) (x1 : Int32) (x3 : Int32) (h : gm_H), K126 r0 x1 x3 h → gV c d 172 (126, [some (.ref r0), some (.int x1), none, some (.int x3)], [], h) Post) (r0 : Nat) (x1 : Int32) (x3 : Int32) (h : gm_H) (w : wb172_126 c d Post K126 r0 x1 x3 h) : gV c d 172 (126, [some (.ref r0), some (.int x1), none, some (.int x3)], [], h) Post := by
  have hk : ∀ pc i, gm_find gk_172 pc = some i → gm_code (gt_T c.1 c.2.1 c.2.2.1) 172 pc = some i := fun _ _ z => z
  unfold wb172_126 at w
  unfold gV
  refine gw_pst hk 2 (st' := (128, [some (.ref r0), some (.int x1), none, some (.int x3)], [.int x1, .int x3], h)) rfl ?_
  refine gw_br (c := x1 ≤ x3) (a := (161, [some (.ref r0), some (.int x1), none, some (.int x3)], [], h)) (b := (131, [some (.ref r0), some (.int x1), none, some (.int x3)], [], h)) (hk _ _ rfl) rfl ⟨fun z1 => ?_, fun z1 => ?_⟩
  · replace w := w.1 z1
    refine gw_pst hk 1 (st' := (162, [some (.ref r0), some (.int x1), none, some (.int x3)], [.ref r0], h)) rfl ?_
    obtain ⟨q_2, e2, w⟩ := w
    refine gw_gf (hk _ _ rfl) e2 ?_
    refine gw_pst hk 2 (st' := (167, [some (.ref r0), some (.int x1), none, some (.int x3)], [.int 0, .int 1, .ref q_2], h)) rfl ?_
    obtain ⟨n3, f3, e3, b3, w⟩ := w
    refine gw_ast (hk _ _ rfl) (Or.inl ⟨rfl, rfl, rfl⟩) e3 b3 ?_
    obtain ⟨h_3, eh3⟩ : ∃ z, z = gm_put h q_2 (.inl (0, n3, .inl (upd f3 (1 : Int32).toNatClampNeg (vp_nar .int 0)))) := ⟨_, rfl⟩
    rw [← eh3]
    replace w := w h_3 eh3
    refine gw_pst hk 1 (st' := (169, [some (.ref r0), some (.int x1), none, some (.int x3)], [.ref r0], h_3)) rfl ?_
    obtain ⟨q_4, e4, w⟩ := w
    refine gw_gf (hk _ _ rfl) e4 ?_
    refine gw_pst hk 4 (st' := (176, [some (.ref r0), some (.int x1), none, some (.int x3)], [.int (x1 - 1), .int 2, .ref q_4], h_3)) rfl ?_
    obtain ⟨n5, f5, e5, b5, w⟩ := w
    refine gw_ast (hk _ _ rfl) (Or.inl ⟨rfl, rfl, rfl⟩) e5 b5 ?_
    obtain ⟨h_5, eh5⟩ : ∃ z, z = gm_put h_3 q_4 (.inl (0, n5, .inl (upd f5 (2 : Int32).toNatClampNeg (vp_nar .int (x1 - 1))))) := ⟨_, rfl⟩
    rw [← eh5]
    replace w := w h_5 eh5
    refine gw_pst hk 2 (st' := (179, [some (.ref r0), some (.int x1), none, some (.int x3)], [.int 0, .ref r0], h_5)) rfl ?_
    obtain ⟨fs6, e6, l6, w⟩ := w
    refine gw_pf (hk _ _ rfl) e6 l6 rfl ?_
    obtain ⟨h_6, eh6⟩ : ∃ z, z = gm_put h_5 r0 (.inr (10, fs6.set 26 (.int 0))) := ⟨_, rfl⟩
    rw [← eh6]
    replace w := w h_6 eh6
    refine gw_pst hk 1 (st' := (183, [some (.ref r0), some (.int x1), none, some (.int x3)], [.ref r0], h_6)) rfl ?_
    obtain ⟨q_7, e7, w⟩ := w
    refine gw_gf (hk _ _ rfl) e7 ?_
    refine gw_pst hk 2 (st' := (188, [some (.ref r0), some (.int x1), none, some (.int x3)], [.int 0, .int 0, .ref q_7], h_6)) rfl ?_
    obtain ⟨n8, f8, e8, b8, w⟩ := w
    refine gw_ast (hk _ _ rfl) (Or.inr (Or.inr (Or.inr ⟨rfl, rfl, rfl, rfl⟩))) e8 b8 ?_
    obtain ⟨h_8, eh8⟩ : ∃ z, z = gm_put h_6 q_7 (.inl (4, n8, .inl (upd f8 (0 : Int32).toNatClampNeg (vp_nar .boolean 0)))) := ⟨_, rfl⟩
    rw [← eh8]
    replace w := w h_8 eh8
    refine gw_pst hk 1 (st' := (190, [some (.ref r0), some (.int x1), none, some (.int x3)], [.ref r0], h_8)) rfl ?_
    obtain ⟨q_9, e9, w⟩ := w
    refine gw_gf (hk _ _ rfl) e9 ?_
    refine gw_pst hk 2 (st' := (195, [some (.ref r0), some (.int x1), none, some (.int x3)], [.int 0, .int 1, .ref q_9], h_8)) rfl ?_
    obtain ⟨n10, f10, e10, b10, w⟩ := w
    refine gw_ast (hk _ _ rfl) (Or.inr (Or.inr (Or.inr ⟨rfl, rfl, rfl, rfl⟩))) e10 b10 ?_
    obtain ⟨h_10, eh10⟩ : ∃ z, z = gm_put h_8 q_9 (.inl (4, n10, .inl (upd f10 (1 : Int32).toNatClampNeg (vp_nar .boolean 0)))) := ⟨_, rfl⟩
    rw [← eh10]
    replace w := w h_10 eh10
    refine gw_pst hk 1 (st' := (197, [some (.ref r0), some (.int x1), none, some (.int x3)], [.int x1], h_10)) rfl ?_
    exact gw_ret (hk _ _ rfl) rfl w
  · replace w := w.2 z1
    refine gw_pst hk 1 (st' := (132, [some (.ref r0), some (.int x1), none, some (.int x3)], [.ref r0], h)) rfl ?_
    obtain ⟨q_11, e11, w⟩ := w
    refine gw_gf (hk _ _ rfl) e11 ?_
    refine gw_pst hk 2 (st' := (137, [some (.ref r0), some (.int x1), none, some (.int x3)], [.ref r0, .int x3, .ref q_11], h)) rfl ?_
    obtain ⟨q_12, e12, w⟩ := w
    refine gw_gf (hk _ _ rfl) e12 ?_
    refine gw_pst hk 1 (st' := (141, [some (.ref r0), some (.int x1), none, some (.int x3)], [.int x3, .ref q_12, .int x3, .ref q_11], h)) rfl ?_
    obtain ⟨n13, f13, e13, b13, w⟩ := w
    refine gw_ald (hk _ _ rfl) (Or.inl ⟨rfl, rfl⟩) e13 b13 ?_
    obtain ⟨n14, f14, e14, b14, w⟩ := w
    refine gw_ast (hk _ _ rfl) (Or.inl ⟨rfl, rfl, rfl⟩) e14 b14 ?_
    obtain ⟨h_14, eh14⟩ : ∃ z, z = gm_put h q_11 (.inl (0, n14, .inl (upd f14 (x3 : Int32).toNatClampNeg (vp_nar .int (f13 (x3 : Int32).toNatClampNeg))))) := ⟨_, rfl⟩
    rw [← eh14]
    replace w := w h_14 eh14
    refine gw_pst hk 1 (st' := (144, [some (.ref r0), some (.int x1), none, some (.int x3)], [.ref r0], h_14)) rfl ?_
    obtain ⟨q_15, e15, w⟩ := w
    refine gw_gf (hk _ _ rfl) e15 ?_
    refine gw_pst hk 2 (st' := (149, [some (.ref r0), some (.int x1), none, some (.int x3)], [.ref r0, .int x3, .ref q_15], h_14)) rfl ?_
    obtain ⟨q_16, e16, w⟩ := w
    refine gw_gf (hk _ _ rfl) e16 ?_
    refine gw_pst hk 1 (st' := (153, [some (.ref r0), some (.int x1), none, some (.int x3)], [.int x3, .ref q_16, .int x3, .ref q_15], h_14)) rfl ?_
    obtain ⟨n17, f17, e17, b17, w⟩ := w
    refine gw_ald (hk _ _ rfl) (Or.inr (Or.inr ⟨rfl, rfl, Or.inr rfl⟩)) e17 b17 ?_
    obtain ⟨n18, f18, e18, b18, w⟩ := w
    refine gw_ast (hk _ _ rfl) (Or.inr (Or.inr (Or.inr ⟨rfl, rfl, rfl, rfl⟩))) e18 b18 ?_
    obtain ⟨h_18, eh18⟩ : ∃ z, z = gm_put h_14 q_15 (.inl (4, n18, .inl (upd f18 (x3 : Int32).toNatClampNeg (vp_nar .boolean (f17 (x3 : Int32).toNatClampNeg))))) := ⟨_, rfl⟩
    rw [← eh18]
    replace w := w h_18 eh18
    refine gw_pst hk 2 (st' := (126, [some (.ref r0), some (.int x1), none, some (.int (x3 + 1))], [], h_18)) rfl ?_
    exact hK126 _ _ _ _ w
def wl172_126 (c : gx) (d : Nat) (Post : Option Value → gm_H → Prop) : Nat → Nat → Int32 → Int32 → gm_H → Prop
  | 0 => fun _ _ _ _ => False
  | n + 1 => wb172_126 c d Post (wl172_126 c d Post n)
theorem okl172_126 (c : gx) (d : Nat) (Post : Option Value → gm_H → Prop) : ∀ (n : Nat) (r0 : Nat) (x1 : Int32) (x3 : Int32) (h : gm_H), wl172_126 c d Post n r0 x1 x3 h → gV c d 172 (126, [some (.ref r0), some (.int x1), none, some (.int x3)], [], h) Post
  | 0, _, _, _, _, w => w.elim
  | n + 1, r0, x1, x3, h, w => okb172_126 c d Post (wl172_126 c d Post n) (okl172_126 c d Post n) r0 x1 x3 h w
def w172_105 (c : gx) (d : Nat) (Post : Option Value → gm_H → Prop) (r0 : Nat) (x1 : Int32) (h : gm_H) : Prop :=
  (∃ fs1, gm_get h r0 = some (.inr (10, fs1))) ∧ gE c d 171 [.ref r0] h (fun v1 h_1 => ∃ x_1 : Int32, v1 = some (.int x_1) ∧ ((x_1 = 0 → ∃ x_3 : Int32, gm_fld h_1 r0 10 18 = some (.int x_3) ∧ Post (some (.int ((-1) - x_3))) h_1) ∧ (¬ (x_1 = 0) → ∃ fs4 : List Value, gm_get h_1 r0 = some (.inr (10, fs4)) ∧ 1 < fs4.length ∧ ∀ h_4 : gm_H, h_4 = gm_put h_1 r0 (.inr (10, fs4.set 1 (.int x1))) → ∃ n, wl172_126 c d Post n r0 x1 0 h_4)))
theorem ok172_105 (c : gx) (d : Nat) (Post : Option Value → gm_H → Prop)  (r0 : Nat) (x1 : Int32) (h : gm_H) (w : w172_105 c d Post r0 x1 h) : gV c d 172 (105, [some (.ref r0), some (.int x1), none, none], [], h) Post := by
  have hk : ∀ pc i, gm_find gk_172 pc = some i → gm_code (gt_T c.1 c.2.1 c.2.2.1) 172 pc = some i := fun _ _ z => z
  unfold w172_105 at w
  unfold gV
  refine gw_pst hk 1 (st' := (106, [some (.ref r0), some (.int x1), none, none], [.ref r0], h)) rfl ?_
  obtain ⟨⟨fs1, e1⟩, w⟩ := w
  refine gw_call (jj := 171) (As := [.ref r0]) (rest := []) (hk _ _ rfl) (fun _ => rfl) rfl rfl (Nat.le_of_ble_eq_true rfl) (gm_rcv_v rfl e1 rfl) ?_
  refine ge_imp w (fun v1 h_1 w => ?_)
  obtain ⟨x_1, rfl, w⟩ := w
  show gV c d 172 (109, [some (.ref r0), some (.int x1), none, none], [.int x_1], h_1) Post
  refine gw_br (c := x_1 = 0) (a := (112, [some (.ref r0), some (.int x1), none, none], [], h_1)) (b := (119, [some (.ref r0), some (.int x1), none, none], [], h_1)) (hk _ _ rfl) rfl ⟨fun z2 => ?_, fun z2 => ?_⟩
  · replace w := w.1 z2
    refine gw_pst hk 2 (st' := (114, [some (.ref r0), some (.int x1), none, none], [.ref r0, .int (-1)], h_1)) rfl ?_
    obtain ⟨x_3, e3, w⟩ := w
    refine gw_gf (hk _ _ rfl) e3 ?_
    refine gw_pst hk 1 (st' := (118, [some (.ref r0), some (.int x1), none, none], [.int ((-1) - x_3)], h_1)) rfl ?_
    exact gw_ret (hk _ _ rfl) rfl w
  · replace w := w.2 z2
    refine gw_pst hk 2 (st' := (121, [some (.ref r0), some (.int x1), none, none], [.int x1, .ref r0], h_1)) rfl ?_
    obtain ⟨fs4, e4, l4, w⟩ := w
    refine gw_pf (hk _ _ rfl) e4 l4 rfl ?_
    obtain ⟨h_4, eh4⟩ : ∃ z, z = gm_put h_1 r0 (.inr (10, fs4.set 1 (.int x1))) := ⟨_, rfl⟩
    rw [← eh4]
    replace w := w h_4 eh4
    refine gw_pst hk 2 (st' := (126, [some (.ref r0), some (.int x1), none, some (.int 0)], [], h_4)) rfl ?_
    obtain ⟨n, w⟩ := w
    exact okl172_126 c d Post n _ _ _ _ w
def wb172_15 (c : gx) (d : Nat) (Post : Option Value → gm_H → Prop) (K15 : Nat → Int32 → Int32 → gm_H → Prop) (r0 : Nat) (x1 : Int32) (x2 : Int32) (h : gm_H) : Prop :=
  ((x2 = 0 → w172_105 c d Post r0 x1 h) ∧ (¬ (x2 = 0) → (∃ fs2, gm_get h r0 = some (.inr (10, fs2))) ∧ gE c d 165 [.ref r0] h (fun v2 h_2 => ∃ x_2 : Int32, v2 = some (.int x_2) ∧ ((x_2 = 0 → w172_105 c d Post r0 x1 h_2) ∧ (¬ (x_2 = 0) → ((x1 = 12 → ∃ x_5 : Int32, gm_fld h_2 r0 10 17 = some (.int x_5) ∧ (∃ fs6, gm_get h_2 r0 = some (.inr (10, fs6))) ∧ gE c d 166 [.ref r0, .int x_5] h_2 (fun v6 h_6 => v6 = none ∧ K15 r0 x1 x2 h_6)) ∧ (¬ (x1 = 12) → ∃ q_7 : Nat, gm_fld h_2 r0 10 19 = some (.ref q_7) ∧ (∃ fs8, gm_get h_2 r0 = some (.inr (10, fs8))) ∧ gE c d 169 [.ref r0, .int 48, .int 10] h_2 (fun v8 h_8 => ∃ x_8 : Int32, v8 = some (.int x_8) ∧ ∃ (n9 : Nat) (f9 : Nat → Int32), gm_get h_8 q_7 = some (.inl (0, n9, .inl f9)) ∧ vp_in x1 n9 ∧ ∀ h_9 : gm_H, h_9 = gm_put h_8 q_7 (.inl (0, n9, .inl (upd f9 (x1 : Int32).toNatClampNeg (vp_nar .int x_8)))) → ∃ q_10 : Nat, gm_fld h_9 r0 10 20 = some (.ref q_10) ∧ (∃ fs11, gm_get h_9 r0 = some (.inr (10, fs11))) ∧ gE c d 167 [.ref r0, .int 126] h_9 (fun v11 h_11 => ∃ x_11 : Int32, v11 = some (.int x_11) ∧ ∃ (n12 : Nat) (f12 : Nat → Int32), gm_get h_11 q_10 = some (.inl (4, n12, .inl f12)) ∧ vp_in x1 n12 ∧ ∀ h_12 : gm_H, h_12 = gm_put h_11 q_10 (.inl (4, n12, .inl (upd f12 (x1 : Int32).toNatClampNeg (vp_nar .boolean x_11)))) → ∃ q_13 : Nat, gm_fld h_12 r0 10 20 = some (.ref q_13) ∧ ∃ (n14 : Nat) (f14 : Nat → Int32), gm_get h_12 q_13 = some (.inl (4, n14, .inl f14)) ∧ vp_in x1 n14 ∧ (((f14 (x1 : Int32).toNatClampNeg) = 0 → ((x1 = 0 → w172_93 c d Post K15 r0 x1 h_12) ∧ (¬ (x1 = 0) → ∃ x_17 : Int32, gm_fld h_12 r0 10 17 = some (.int x_17) ∧ ∃ x_18 : Int32, gm_fld h_12 r0 10 15 = some (.int x_18) ∧ ((x_18 ≤ x_17 → w172_98 c d Post K15 r0 x1 0 h_12) ∧ (¬ (x_18 ≤ x_17) → w172_93 c d Post K15 r0 x1 h_12))))) ∧ (¬ ((f14 (x1 : Int32).toNatClampNeg) = 0) → w172_93 c d Post K15 r0 x1 h_12)))))))))))
theorem okb172_15 (c : gx) (d : Nat) (Post : Option Value → gm_H → Prop) (K15 : Nat → Int32 → Int32 → gm_H → Prop)  (hK15 : ∀ (r0 : Nat) (x1 : Int32) (x2 : Int32) (h : gm_H), K15 r0 x1 x2 h → gV c d 172 (15, [some (.ref r0), some (.int x1), some (.int x2), none], [], h) Post) (r0 : Nat) (x1 : Int32) (x2 : Int32) (h : gm_H) (w : wb172_15 c d Post K15 r0 x1 x2 h) : gV c d 172 (15, [some (.ref r0), some (.int x1), some (.int x2), none], [], h) Post := by
  have hk : ∀ pc i, gm_find gk_172 pc = some i → gm_code (gt_T c.1 c.2.1 c.2.2.1) 172 pc = some i := fun _ _ z => z
  unfold wb172_15 at w
  unfold gV
  refine gw_pst hk 1 (st' := (16, [some (.ref r0), some (.int x1), some (.int x2), none], [.int x2], h)) rfl ?_
  refine gw_br (c := x2 = 0) (a := (105, [some (.ref r0), some (.int x1), some (.int x2), none], [], h)) (b := (19, [some (.ref r0), some (.int x1), some (.int x2), none], [], h)) (hk _ _ rfl) rfl ⟨fun z1 => ?_, fun z1 => ?_⟩
  · replace w := w.1 z1
    refine gw_le (L' := [some (.ref r0), some (.int x1), none, none]) (gm_le_k _ (gm_le_k _ (gm_le_n _ (gm_le_k _ gm_le_nil)))) ?_
    exact ok172_105 c d Post _ _ _ w
  · replace w := w.2 z1
    refine gw_pst hk 1 (st' := (20, [some (.ref r0), some (.int x1), some (.int x2), none], [.ref r0], h)) rfl ?_
    obtain ⟨⟨fs2, e2⟩, w⟩ := w
    refine gw_call (jj := 165) (As := [.ref r0]) (rest := []) (hk _ _ rfl) (fun _ => rfl) rfl rfl (Nat.le_of_ble_eq_true rfl) (gm_rcv_v rfl e2 rfl) ?_
    refine ge_imp w (fun v2 h_2 w => ?_)
    obtain ⟨x_2, rfl, w⟩ := w
    show gV c d 172 (23, [some (.ref r0), some (.int x1), some (.int x2), none], [.int x_2], h_2) Post
    refine gw_br (c := x_2 = 0) (a := (105, [some (.ref r0), some (.int x1), some (.int x2), none], [], h_2)) (b := (26, [some (.ref r0), some (.int x1), some (.int x2), none], [], h_2)) (hk _ _ rfl) rfl ⟨fun z3 => ?_, fun z3 => ?_⟩
    · replace w := w.1 z3
      refine gw_le (L' := [some (.ref r0), some (.int x1), none, none]) (gm_le_k _ (gm_le_k _ (gm_le_n _ (gm_le_k _ gm_le_nil)))) ?_
      exact ok172_105 c d Post _ _ _ w
    · replace w := w.2 z3
      refine gw_pst hk 2 (st' := (29, [some (.ref r0), some (.int x1), some (.int x2), none], [.int 12, .int x1], h_2)) rfl ?_
      refine gw_br (c := x1 = 12) (a := (32, [some (.ref r0), some (.int x1), some (.int x2), none], [], h_2)) (b := (43, [some (.ref r0), some (.int x1), some (.int x2), none], [], h_2)) (hk _ _ rfl) rfl ⟨fun z4 => ?_, fun z4 => ?_⟩
      · replace w := w.1 z4
        refine gw_pst hk 2 (st' := (34, [some (.ref r0), some (.int x1), some (.int x2), none], [.ref r0, .ref r0], h_2)) rfl ?_
        obtain ⟨x_5, e5, w⟩ := w
        refine gw_gf (hk _ _ rfl) e5 ?_
        obtain ⟨⟨fs6, e6⟩, w⟩ := w
        refine gw_call (jj := 166) (As := [.ref r0, .int x_5]) (rest := []) (hk _ _ rfl) (fun _ => rfl) rfl rfl (Nat.le_of_ble_eq_true rfl) (gm_rcv_v rfl e6 rfl) ?_
        refine ge_imp w (fun v6 h_6 w => ?_)
        obtain ⟨rfl, w⟩ := w
        show gV c d 172 (40, [some (.ref r0), some (.int x1), some (.int x2), none], [], h_6) Post
        refine gw_pst hk 1 (st' := (15, [some (.ref r0), some (.int x1), some (.int x2), none], [], h_6)) rfl ?_
        exact hK15 _ _ _ _ w
      · replace w := w.2 z4
        refine gw_pst hk 1 (st' := (44, [some (.ref r0), some (.int x1), some (.int x2), none], [.ref r0], h_2)) rfl ?_
        obtain ⟨q_7, e7, w⟩ := w
        refine gw_gf (hk _ _ rfl) e7 ?_
        refine gw_pst hk 4 (st' := (53, [some (.ref r0), some (.int x1), some (.int x2), none], [.int 10, .int 48, .ref r0, .int x1, .ref q_7], h_2)) rfl ?_
        obtain ⟨⟨fs8, e8⟩, w⟩ := w
        refine gw_call (jj := 169) (As := [.ref r0, .int 48, .int 10]) (rest := [.int x1, .ref q_7]) (hk _ _ rfl) (fun _ => rfl) rfl rfl (Nat.le_of_ble_eq_true rfl) (gm_rcv_v rfl e8 rfl) ?_
        refine ge_imp w (fun v8 h_8 w => ?_)
        obtain ⟨x_8, rfl, w⟩ := w
        show gV c d 172 (56, [some (.ref r0), some (.int x1), some (.int x2), none], [.int x_8, .int x1, .ref q_7], h_8) Post
        obtain ⟨n9, f9, e9, b9, w⟩ := w
        refine gw_ast (hk _ _ rfl) (Or.inl ⟨rfl, rfl, rfl⟩) e9 b9 ?_
        obtain ⟨h_9, eh9⟩ : ∃ z, z = gm_put h_8 q_7 (.inl (0, n9, .inl (upd f9 (x1 : Int32).toNatClampNeg (vp_nar .int x_8)))) := ⟨_, rfl⟩
        rw [← eh9]
        replace w := w h_9 eh9
        refine gw_pst hk 1 (st' := (58, [some (.ref r0), some (.int x1), some (.int x2), none], [.ref r0], h_9)) rfl ?_
        obtain ⟨q_10, e10, w⟩ := w
        refine gw_gf (hk _ _ rfl) e10 ?_
        refine gw_pst hk 3 (st' := (65, [some (.ref r0), some (.int x1), some (.int x2), none], [.int 126, .ref r0, .int x1, .ref q_10], h_9)) rfl ?_
        obtain ⟨⟨fs11, e11⟩, w⟩ := w
        refine gw_call (jj := 167) (As := [.ref r0, .int 126]) (rest := [.int x1, .ref q_10]) (hk _ _ rfl) (fun _ => rfl) rfl rfl (Nat.le_of_ble_eq_true rfl) (gm_rcv_v rfl e11 rfl) ?_
        refine ge_imp w (fun v11 h_11 w => ?_)
        obtain ⟨x_11, rfl, w⟩ := w
        show gV c d 172 (68, [some (.ref r0), some (.int x1), some (.int x2), none], [.int x_11, .int x1, .ref q_10], h_11) Post
        obtain ⟨n12, f12, e12, b12, w⟩ := w
        refine gw_ast (hk _ _ rfl) (Or.inr (Or.inr (Or.inr ⟨rfl, rfl, rfl, rfl⟩))) e12 b12 ?_
        obtain ⟨h_12, eh12⟩ : ∃ z, z = gm_put h_11 q_10 (.inl (4, n12, .inl (upd f12 (x1 : Int32).toNatClampNeg (vp_nar .boolean x_11)))) := ⟨_, rfl⟩
        rw [← eh12]
        replace w := w h_12 eh12
        refine gw_pst hk 1 (st' := (70, [some (.ref r0), some (.int x1), some (.int x2), none], [.ref r0], h_12)) rfl ?_
        obtain ⟨q_13, e13, w⟩ := w
        refine gw_gf (hk _ _ rfl) e13 ?_
        refine gw_pst hk 1 (st' := (74, [some (.ref r0), some (.int x1), some (.int x2), none], [.int x1, .ref q_13], h_12)) rfl ?_
        obtain ⟨n14, f14, e14, b14, w⟩ := w
        refine gw_ald (hk _ _ rfl) (Or.inr (Or.inr ⟨rfl, rfl, Or.inr rfl⟩)) e14 b14 ?_
        refine gw_br (c := (f14 (x1 : Int32).toNatClampNeg) = 0) (a := (78, [some (.ref r0), some (.int x1), some (.int x2), none], [], h_12)) (b := (93, [some (.ref r0), some (.int x1), some (.int x2), none], [], h_12)) (hk _ _ rfl) rfl ⟨fun z15 => ?_, fun z15 => ?_⟩
        · replace w := w.1 z15
          refine gw_pst hk 1 (st' := (79, [some (.ref r0), some (.int x1), some (.int x2), none], [.int x1], h_12)) rfl ?_
          refine gw_br (c := x1 = 0) (a := (93, [some (.ref r0), some (.int x1), some (.int x2), none], [], h_12)) (b := (82, [some (.ref r0), some (.int x1), some (.int x2), none], [], h_12)) (hk _ _ rfl) rfl ⟨fun z16 => ?_, fun z16 => ?_⟩
          · replace w := w.1 z16
            refine gw_le (L' := [some (.ref r0), some (.int x1), none, none]) (gm_le_k _ (gm_le_k _ (gm_le_n _ (gm_le_k _ gm_le_nil)))) ?_
            exact ok172_93 c d Post K15 hK15 _ _ _ w
          · replace w := w.2 z16
            refine gw_pst hk 1 (st' := (83, [some (.ref r0), some (.int x1), some (.int x2), none], [.ref r0], h_12)) rfl ?_
            obtain ⟨x_17, e17, w⟩ := w
            refine gw_gf (hk _ _ rfl) e17 ?_
            refine gw_pst hk 1 (st' := (87, [some (.ref r0), some (.int x1), some (.int x2), none], [.ref r0, .int x_17], h_12)) rfl ?_
            obtain ⟨x_18, e18, w⟩ := w
            refine gw_gf (hk _ _ rfl) e18 ?_
            refine gw_br (c := x_18 ≤ x_17) (a := (97, [some (.ref r0), some (.int x1), some (.int x2), none], [], h_12)) (b := (93, [some (.ref r0), some (.int x1), some (.int x2), none], [], h_12)) (hk _ _ rfl) rfl ⟨fun z19 => ?_, fun z19 => ?_⟩
            · replace w := w.1 z19
              refine gw_pst hk 1 (st' := (98, [some (.ref r0), some (.int x1), some (.int x2), none], [.int 0], h_12)) rfl ?_
              refine gw_le (L' := [some (.ref r0), some (.int x1), none, none]) (gm_le_k _ (gm_le_k _ (gm_le_n _ (gm_le_k _ gm_le_nil)))) ?_
              exact ok172_98 c d Post K15 hK15 _ _ _ _ w
            · replace w := w.2 z19
              refine gw_le (L' := [some (.ref r0), some (.int x1), none, none]) (gm_le_k _ (gm_le_k _ (gm_le_n _ (gm_le_k _ gm_le_nil)))) ?_
              exact ok172_93 c d Post K15 hK15 _ _ _ w
        · replace w := w.2 z15
          refine gw_le (L' := [some (.ref r0), some (.int x1), none, none]) (gm_le_k _ (gm_le_k _ (gm_le_n _ (gm_le_k _ gm_le_nil)))) ?_
          exact ok172_93 c d Post K15 hK15 _ _ _ w
def wl172_15 (c : gx) (d : Nat) (Post : Option Value → gm_H → Prop) : Nat → Nat → Int32 → Int32 → gm_H → Prop
  | 0 => fun _ _ _ _ => False
  | n + 1 => wb172_15 c d Post (wl172_15 c d Post n)
theorem okl172_15 (c : gx) (d : Nat) (Post : Option Value → gm_H → Prop) : ∀ (n : Nat) (r0 : Nat) (x1 : Int32) (x2 : Int32) (h : gm_H), wl172_15 c d Post n r0 x1 x2 h → gV c d 172 (15, [some (.ref r0), some (.int x1), some (.int x2), none], [], h) Post
  | 0, _, _, _, _, w => w.elim
  | n + 1, r0, x1, x2, h, w => okb172_15 c d Post (wl172_15 c d Post n) (okl172_15 c d Post n) r0 x1 x2 h w
/-- CommandByTurnsModel.ground()I -/
def wm172 (c : gx) (d : Nat) (Post : Option Value → gm_H → Prop) (r0 : Nat) (h : gm_H) : Prop :=
  ∃ fs1 : List Value, gm_get h r0 = some (.inr (10, fs1)) ∧ 13 < fs1.length ∧ ∀ h_1 : gm_H, h_1 = gm_put h r0 (.inr (10, fs1.set 13 (.int 0))) → (∃ fs2, gm_get h_1 r0 = some (.inr (10, fs2))) ∧ gE c d 163 [.ref r0, .int 80] h_1 (fun v2 h_2 => v2 = none ∧ ∃ n, wl172_15 c d Post n r0 0 1 h_2)
theorem okm172 (c : gx) (d : Nat) (Post : Option Value → gm_H → Prop) (r0 : Nat) (h : gm_H) (w : wm172 c d Post r0 h) : gE c (d + 1) 172 [.ref r0] h Post := by
  have hk : ∀ pc i, gm_find gk_172 pc = some i → gm_code (gt_T c.1 c.2.1 c.2.2.1) 172 pc = some i := fun _ _ z => z
  unfold wm172 at w
  refine ge_of (by decide) (Nat.le_of_ble_eq_true rfl) ?_
  show gV c d 172 (0, [some (.ref r0), none, none, none], [], h) Post
  unfold gV
  refine gw_pst hk 2 (st' := (2, [some (.ref r0), none, none, none], [.int 0, .ref r0], h)) rfl ?_
  obtain ⟨fs1, e1, l1, w⟩ := w
  refine gw_pf (hk _ _ rfl) e1 l1 rfl ?_
  obtain ⟨h_1, eh1⟩ : ∃ z, z = gm_put h r0 (.inr (10, fs1.set 13 (.int 0))) := ⟨_, rfl⟩
  rw [← eh1]
  replace w := w h_1 eh1
  refine gw_pst hk 2 (st' := (8, [some (.ref r0), none, none, none], [.int 80, .ref r0], h_1)) rfl ?_
  obtain ⟨⟨fs2, e2⟩, w⟩ := w
  refine gw_call (jj := 163) (As := [.ref r0, .int 80]) (rest := []) (hk _ _ rfl) (fun _ => rfl) rfl rfl (Nat.le_of_ble_eq_true rfl) (gm_rcv_v rfl e2 rfl) ?_
  refine ge_imp w (fun v2 h_2 w => ?_)
  obtain ⟨rfl, w⟩ := w
  show gV c d 172 (11, [some (.ref r0), none, none, none], [], h_2) Post
  refine gw_pst hk 4 (st' := (15, [some (.ref r0), some (.int 0), some (.int 1), none], [], h_2)) rfl ?_
  obtain ⟨n, w⟩ := w
  exact okl172_15 c d Post n _ _ _ _ w
def w173_54 (c : gx) (d : Nat) (Post : Option Value → gm_H → Prop) (x3 : Int32) (h : gm_H) : Prop :=
  Post (some (.int ((-1) - x3))) h
theorem ok173_54 (c : gx) (d : Nat) (Post : Option Value → gm_H → Prop)  (x3 : Int32) (h : gm_H) (w : w173_54 c d Post x3 h) : gV c d 173 (54, [none, none, none, some (.int x3)], [], h) Post := by
  have hk : ∀ pc i, gm_find gk_173 pc = some i → gm_code (gt_T c.1 c.2.1 c.2.2.1) 173 pc = some i := fun _ _ z => z
  unfold w173_54 at w
  unfold gV
  refine gw_pst hk 3 (st' := (57, [none, none, none, some (.int x3)], [.int ((-1) - x3)], h)) rfl ?_
  exact gw_ret (hk _ _ rfl) rfl w
def wb173_72 (c : gx) (d : Nat) (Post : Option Value → gm_H → Prop) (K72 : Nat → Int32 → Int32 → Int32 → gm_H → Prop) (r0 : Nat) (x1 : Int32) (x2 : Int32) (x3 : Int32) (h : gm_H) : Prop :=
  ((x2 ≤ x3 → ∃ q_2 : Nat, gm_fld h r0 10 7 = some (.ref q_2) ∧ ∃ q_3 : Nat, gm_fld h r0 10 0 = some (.ref q_3) ∧ ∃ (n4 : Nat) (f4 : Nat → Int32), gm_get h q_3 = some (.inl (0, n4, .inl f4)) ∧ vp_in 0 n4 ∧ ∃ (n5 : Nat) (f5 : Nat → Int32), gm_get h q_2 = some (.inl (0, n5, .inl f5)) ∧ vp_in x1 n5 ∧ ∀ h_5 : gm_H, h_5 = gm_put h q_2 (.inl (0, n5, .inl (upd f5 (x1 : Int32).toNatClampNeg (vp_nar .int (f4 (0 : Int32).toNatClampNeg))))) → ∃ q_6 : Nat, gm_fld h_5 r0 10 8 = some (.ref q_6) ∧ ∃ (n7 : Nat) (f7 : Nat → Int32), gm_get h_5 q_6 = some (.inl (0, n7, .inl f7)) ∧ vp_in x1 n7 ∧ ∀ h_7 : gm_H, h_7 = gm_put h_5 q_6 (.inl (0, n7, .inl (upd f7 (x1 : Int32).toNatClampNeg (vp_nar .int x2)))) → Post (some (.int x2)) h_7) ∧ (¬ (x2 ≤ x3) → ∃ q_8 : Nat, gm_fld h r0 10 6 = some (.ref q_8) ∧ ∃ q_9 : Nat, gm_fld h r0 10 9 = some (.ref q_9) ∧ ∃ (n10 : Nat) (f10 : Nat → Int32), gm_get h q_9 = some (.inl (3, n10, .inl f10)) ∧ vp_in x3 n10 ∧ ∃ (n11 : Nat) (f11 : Nat → Int32), gm_get h q_8 = some (.inl (0, n11, .inl f11)) ∧ vp_in ((20 * x1) + x3) n11 ∧ ∀ h_11 : gm_H, h_11 = gm_put h q_8 (.inl (0, n11, .inl (upd f11 ((20 * x1) + x3 : Int32).toNatClampNeg (vp_nar .int ((f10 (x3 : Int32).toNatClampNeg) - 48))))) → K72 r0 x1 x2 (x3 + 1) h_11))
theorem okb173_72 (c : gx) (d : Nat) (Post : Option Value → gm_H → Prop) (K72 : Nat → Int32 → Int32 → Int32 → gm_H → Prop)  (hK72 : ∀ (r0 : Nat) (x1 : Int32) (x2 : Int32) (x3 : Int32) (h : gm_H), K72 r0 x1 x2 x3 h → gV c d 173 (72, [some (.ref r0), some (.int x1), some (.int x2), some (.int x3)], [], h) Post) (r0 : Nat) (x1 : Int32) (x2 : Int32) (x3 : Int32) (h : gm_H) (w : wb173_72 c d Post K72 r0 x1 x2 x3 h) : gV c d 173 (72, [some (.ref r0), some (.int x1), some (.int x2), some (.int x3)], [], h) Post := by
  have hk : ∀ pc i, gm_find gk_173 pc = some i → gm_code (gt_T c.1 c.2.1 c.2.2.1) 173 pc = some i := fun _ _ z => z
  unfold wb173_72 at w
  unfold gV
  refine gw_pst hk 2 (st' := (74, [some (.ref r0), some (.int x1), some (.int x2), some (.int x3)], [.int x2, .int x3], h)) rfl ?_
  refine gw_br (c := x2 ≤ x3) (a := (103, [some (.ref r0), some (.int x1), some (.int x2), some (.int x3)], [], h)) (b := (77, [some (.ref r0), some (.int x1), some (.int x2), some (.int x3)], [], h)) (hk _ _ rfl) rfl ⟨fun z1 => ?_, fun z1 => ?_⟩
  · replace w := w.1 z1
    refine gw_pst hk 1 (st' := (104, [some (.ref r0), some (.int x1), some (.int x2), some (.int x3)], [.ref r0], h)) rfl ?_
    obtain ⟨q_2, e2, w⟩ := w
    refine gw_gf (hk _ _ rfl) e2 ?_
    refine gw_pst hk 2 (st' := (109, [some (.ref r0), some (.int x1), some (.int x2), some (.int x3)], [.ref r0, .int x1, .ref q_2], h)) rfl ?_
    obtain ⟨q_3, e3, w⟩ := w
    refine gw_gf (hk _ _ rfl) e3 ?_
    refine gw_pst hk 1 (st' := (113, [some (.ref r0), some (.int x1), some (.int x2), some (.int x3)], [.int 0, .ref q_3, .int x1, .ref q_2], h)) rfl ?_
    obtain ⟨n4, f4, e4, b4, w⟩ := w
    refine gw_ald (hk _ _ rfl) (Or.inl ⟨rfl, rfl⟩) e4 b4 ?_
    obtain ⟨n5, f5, e5, b5, w⟩ := w
    refine gw_ast (hk _ _ rfl) (Or.inl ⟨rfl, rfl, rfl⟩) e5 b5 ?_
    obtain ⟨h_5, eh5⟩ : ∃ z, z = gm_put h q_2 (.inl (0, n5, .inl (upd f5 (x1 : Int32).toNatClampNeg (vp_nar .int (f4 (0 : Int32).toNatClampNeg))))) := ⟨_, rfl⟩
    rw [← eh5]
    replace w := w h_5 eh5
    refine gw_pst hk 1 (st' := (116, [some (.ref r0), some (.int x1), some (.int x2), some (.int x3)], [.ref r0], h_5)) rfl ?_
    obtain ⟨q_6, e6, w⟩ := w
    refine gw_gf (hk _ _ rfl) e6 ?_
    refine gw_pst hk 2 (st' := (121, [some (.ref r0), some (.int x1), some (.int x2), some (.int x3)], [.int x2, .int x1, .ref q_6], h_5)) rfl ?_
    obtain ⟨n7, f7, e7, b7, w⟩ := w
    refine gw_ast (hk _ _ rfl) (Or.inl ⟨rfl, rfl, rfl⟩) e7 b7 ?_
    obtain ⟨h_7, eh7⟩ : ∃ z, z = gm_put h_5 q_6 (.inl (0, n7, .inl (upd f7 (x1 : Int32).toNatClampNeg (vp_nar .int x2)))) := ⟨_, rfl⟩
    rw [← eh7]
    replace w := w h_7 eh7
    refine gw_pst hk 1 (st' := (123, [some (.ref r0), some (.int x1), some (.int x2), some (.int x3)], [.int x2], h_7)) rfl ?_
    exact gw_ret (hk _ _ rfl) rfl w
  · replace w := w.2 z1
    refine gw_pst hk 1 (st' := (78, [some (.ref r0), some (.int x1), some (.int x2), some (.int x3)], [.ref r0], h)) rfl ?_
    obtain ⟨q_8, e8, w⟩ := w
    refine gw_gf (hk _ _ rfl) e8 ?_
    refine gw_pst hk 6 (st' := (88, [some (.ref r0), some (.int x1), some (.int x2), some (.int x3)], [.ref r0, .int ((20 * x1) + x3), .ref q_8], h)) rfl ?_
    obtain ⟨q_9, e9, w⟩ := w
    refine gw_gf (hk _ _ rfl) e9 ?_
    refine gw_pst hk 1 (st' := (92, [some (.ref r0), some (.int x1), some (.int x2), some (.int x3)], [.int x3, .ref q_9, .int ((20 * x1) + x3), .ref q_8], h)) rfl ?_
    obtain ⟨n10, f10, e10, b10, w⟩ := w
    refine gw_ald (hk _ _ rfl) (Or.inr (Or.inr ⟨rfl, rfl, Or.inl rfl⟩)) e10 b10 ?_
    refine gw_pst hk 2 (st' := (96, [some (.ref r0), some (.int x1), some (.int x2), some (.int x3)], [.int ((f10 (x3 : Int32).toNatClampNeg) - 48), .int ((20 * x1) + x3), .ref q_8], h)) rfl ?_
    obtain ⟨n11, f11, e11, b11, w⟩ := w
    refine gw_ast (hk _ _ rfl) (Or.inl ⟨rfl, rfl, rfl⟩) e11 b11 ?_
    obtain ⟨h_11, eh11⟩ : ∃ z, z = gm_put h q_8 (.inl (0, n11, .inl (upd f11 ((20 * x1) + x3 : Int32).toNatClampNeg (vp_nar .int ((f10 (x3 : Int32).toNatClampNeg) - 48))))) := ⟨_, rfl⟩
    rw [← eh11]
    replace w := w h_11 eh11
    refine gw_pst hk 2 (st' := (72, [some (.ref r0), some (.int x1), some (.int x2), some (.int (x3 + 1))], [], h_11)) rfl ?_
    exact hK72 _ _ _ _ _ w
def wl173_72 (c : gx) (d : Nat) (Post : Option Value → gm_H → Prop) : Nat → Nat → Int32 → Int32 → Int32 → gm_H → Prop
  | 0 => fun _ _ _ _ _ => False
  | n + 1 => wb173_72 c d Post (wl173_72 c d Post n)
theorem okl173_72 (c : gx) (d : Nat) (Post : Option Value → gm_H → Prop) : ∀ (n : Nat) (r0 : Nat) (x1 : Int32) (x2 : Int32) (x3 : Int32) (h : gm_H), wl173_72 c d Post n r0 x1 x2 x3 h → gV c d 173 (72, [some (.ref r0), some (.int x1), some (.int x2), some (.int x3)], [], h) Post
  | 0, _, _, _, _, _, w => w.elim
  | n + 1, r0, x1, x2, x3, h, w => okb173_72 c d Post (wl173_72 c d Post n) (okl173_72 c d Post n) r0 x1 x2 x3 h w
def wb173_27 (c : gx) (d : Nat) (Post : Option Value → gm_H → Prop) (K27 : Nat → Int32 → Int32 → Int32 → gm_H → Prop) (r0 : Nat) (x1 : Int32) (x2 : Int32) (x3 : Int32) (h : gm_H) : Prop :=
  ((x2 ≤ x3 → ((x2 = 0 → Post (some (.int (-1))) h) ∧ (¬ (x2 = 0) → ∃ n, wl173_72 c d Post n r0 x1 x2 0 h))) ∧ (¬ (x2 ≤ x3) → ((x3 = 20 → w173_54 c d Post x3 h) ∧ (¬ (x3 = 20) → ∃ q_4 : Nat, gm_fld h r0 10 9 = some (.ref q_4) ∧ ∃ (n5 : Nat) (f5 : Nat → Int32), gm_get h q_4 = some (.inl (3, n5, .inl f5)) ∧ vp_in x3 n5 ∧ gE c d 154 [.int (f5 (x3 : Int32).toNatClampNeg), .int 48, .int 57] h (fun v6 h_6 => ∃ x_6 : Int32, v6 = some (.int x_6) ∧ ((x_6 = 0 → w173_54 c d Post x3 h_6) ∧ (¬ (x_6 = 0) → K27 r0 x1 x2 (x3 + 1) h_6)))))))
theorem okb173_27 (c : gx) (d : Nat) (Post : Option Value → gm_H → Prop) (K27 : Nat → Int32 → Int32 → Int32 → gm_H → Prop)  (hK27 : ∀ (r0 : Nat) (x1 : Int32) (x2 : Int32) (x3 : Int32) (h : gm_H), K27 r0 x1 x2 x3 h → gV c d 173 (27, [some (.ref r0), some (.int x1), some (.int x2), some (.int x3)], [], h) Post) (r0 : Nat) (x1 : Int32) (x2 : Int32) (x3 : Int32) (h : gm_H) (w : wb173_27 c d Post K27 r0 x1 x2 x3 h) : gV c d 173 (27, [some (.ref r0), some (.int x1), some (.int x2), some (.int x3)], [], h) Post := by
  have hk : ∀ pc i, gm_find gk_173 pc = some i → gm_code (gt_T c.1 c.2.1 c.2.2.1) 173 pc = some i := fun _ _ z => z
  unfold wb173_27 at w
  unfold gV
  refine gw_pst hk 2 (st' := (29, [some (.ref r0), some (.int x1), some (.int x2), some (.int x3)], [.int x2, .int x3], h)) rfl ?_
  refine gw_br (c := x2 ≤ x3) (a := (64, [some (.ref r0), some (.int x1), some (.int x2), some (.int x3)], [], h)) (b := (32, [some (.ref r0), some (.int x1), some (.int x2), some (.int x3)], [], h)) (hk _ _ rfl) rfl ⟨fun z1 => ?_, fun z1 => ?_⟩
  · replace w := w.1 z1
    refine gw_pst hk 1 (st' := (65, [some (.ref r0), some (.int x1), some (.int x2), some (.int x3)], [.int x2], h)) rfl ?_
    refine gw_br (c := x2 = 0) (a := (68, [some (.ref r0), some (.int x1), some (.int x2), some (.int x3)], [], h)) (b := (70, [some (.ref r0), some (.int x1), some (.int x2), some (.int x3)], [], h)) (hk _ _ rfl) rfl ⟨fun z2 => ?_, fun z2 => ?_⟩
    · replace w := w.1 z2
      refine gw_pst hk 1 (st' := (69, [some (.ref r0), some (.int x1), some (.int x2), some (.int x3)], [.int (-1)], h)) rfl ?_
      exact gw_ret (hk _ _ rfl) rfl w
    · replace w := w.2 z2
      refine gw_pst hk 2 (st' := (72, [some (.ref r0), some (.int x1), some (.int x2), some (.int 0)], [], h)) rfl ?_
      obtain ⟨n, w⟩ := w
      exact okl173_72 c d Post n _ _ _ _ _ w
  · replace w := w.2 z1
    refine gw_pst hk 2 (st' := (35, [some (.ref r0), some (.int x1), some (.int x2), some (.int x3)], [.int 20, .int x3], h)) rfl ?_
    refine gw_br (c := x3 = 20) (a := (54, [some (.ref r0), some (.int x1), some (.int x2), some (.int x3)], [], h)) (b := (38, [some (.ref r0), some (.int x1), some (.int x2), some (.int x3)], [], h)) (hk _ _ rfl) rfl ⟨fun z3 => ?_, fun z3 => ?_⟩
    · replace w := w.1 z3
      refine gw_le (L' := [none, none, none, some (.int x3)]) (gm_le_n _ (gm_le_n _ (gm_le_n _ (gm_le_k _ gm_le_nil)))) ?_
      exact ok173_54 c d Post _ _ w
    · replace w := w.2 z3
      refine gw_pst hk 1 (st' := (39, [some (.ref r0), some (.int x1), some (.int x2), some (.int x3)], [.ref r0], h)) rfl ?_
      obtain ⟨q_4, e4, w⟩ := w
      refine gw_gf (hk _ _ rfl) e4 ?_
      refine gw_pst hk 1 (st' := (43, [some (.ref r0), some (.int x1), some (.int x2), some (.int x3)], [.int x3, .ref q_4], h)) rfl ?_
      obtain ⟨n5, f5, e5, b5, w⟩ := w
      refine gw_ald (hk _ _ rfl) (Or.inr (Or.inr ⟨rfl, rfl, Or.inl rfl⟩)) e5 b5 ?_
      refine gw_pst hk 2 (st' := (48, [some (.ref r0), some (.int x1), some (.int x2), some (.int x3)], [.int 57, .int 48, .int (f5 (x3 : Int32).toNatClampNeg)], h)) rfl ?_
      refine gw_call (jj := 154) (As := [.int (f5 (x3 : Int32).toNatClampNeg), .int 48, .int 57]) (rest := []) (hk _ _ rfl) (fun _ => rfl) rfl rfl (Nat.le_of_ble_eq_true rfl) rfl ?_
      refine ge_imp w (fun v6 h_6 w => ?_)
      obtain ⟨x_6, rfl, w⟩ := w
      show gV c d 173 (51, [some (.ref r0), some (.int x1), some (.int x2), some (.int x3)], [.int x_6], h_6) Post
      refine gw_br (c := x_6 = 0) (a := (54, [some (.ref r0), some (.int x1), some (.int x2), some (.int x3)], [], h_6)) (b := (58, [some (.ref r0), some (.int x1), some (.int x2), some (.int x3)], [], h_6)) (hk _ _ rfl) rfl ⟨fun z7 => ?_, fun z7 => ?_⟩
      · replace w := w.1 z7
        refine gw_le (L' := [none, none, none, some (.int x3)]) (gm_le_n _ (gm_le_n _ (gm_le_n _ (gm_le_k _ gm_le_nil)))) ?_
        exact ok173_54 c d Post _ _ w
      · replace w := w.2 z7
        refine gw_pst hk 2 (st' := (27, [some (.ref r0), some (.int x1), some (.int x2), some (.int (x3 + 1))], [], h_6)) rfl ?_
        exact hK27 _ _ _ _ _ w
def wl173_27 (c : gx) (d : Nat) (Post : Option Value → gm_H → Prop) : Nat → Nat → Int32 → Int32 → Int32 → gm_H → Prop
  | 0 => fun _ _ _ _ _ => False
  | n + 1 => wb173_27 c d Post (wl173_27 c d Post n)
theorem okl173_27 (c : gx) (d : Nat) (Post : Option Value → gm_H → Prop) : ∀ (n : Nat) (r0 : Nat) (x1 : Int32) (x2 : Int32) (x3 : Int32) (h : gm_H), wl173_27 c d Post n r0 x1 x2 x3 h → gV c d 173 (27, [some (.ref r0), some (.int x1), some (.int x2), some (.int x3)], [], h) Post
  | 0, _, _, _, _, _, w => w.elim
  | n + 1, r0, x1, x2, x3, h, w => okb173_27 c d Post (wl173_27 c d Post n) (okl173_27 c d Post n) r0 x1 x2 x3 h w
/-- CommandByTurnsModel.wishes(I)I -/
def wm173 (c : gx) (d : Nat) (Post : Option Value → gm_H → Prop) (r0 : Nat) (x1 : Int32) (h : gm_H) : Prop :=
  ∃ fs1 : List Value, gm_get h r0 = some (.inr (10, fs1)) ∧ 13 < fs1.length ∧ ∀ h_1 : gm_H, h_1 = gm_put h r0 (.inr (10, fs1.set 13 (.int 0))) → ∃ x_2 : Int32, gm_fld h_1 r0 10 10 = some (.int x_2) ∧ ∃ fs3 : List Value, gm_get h_1 r0 = some (.inr (10, fs3)) ∧ 10 < fs3.length ∧ ∀ h_3 : gm_H, h_3 = gm_put h_1 r0 (.inr (10, fs3.set 10 (.int 0))) → gE c d 159 [.int x1] h_3 (fun v4 h_4 => ∃ x_4 : Int32, v4 = some (.int x_4) ∧ ((x_4 = 0 → Post (some (.int (-100))) h_4) ∧ (¬ (x_4 = 0) → ∃ n, wl173_27 c d Post n r0 x1 x_2 0 h_4)))
theorem okm173 (c : gx) (d : Nat) (Post : Option Value → gm_H → Prop) (r0 : Nat) (x1 : Int32) (h : gm_H) (w : wm173 c d Post r0 x1 h) : gE c (d + 1) 173 [.ref r0, .int x1] h Post := by
  have hk : ∀ pc i, gm_find gk_173 pc = some i → gm_code (gt_T c.1 c.2.1 c.2.2.1) 173 pc = some i := fun _ _ z => z
  unfold wm173 at w
  refine ge_of (by decide) (Nat.le_of_ble_eq_true rfl) ?_
  show gV c d 173 (0, [some (.ref r0), some (.int x1), none, none], [], h) Post
  unfold gV
  refine gw_pst hk 2 (st' := (2, [some (.ref r0), some (.int x1), none, none], [.int 0, .ref r0], h)) rfl ?_
  obtain ⟨fs1, e1, l1, w⟩ := w
  refine gw_pf (hk _ _ rfl) e1 l1 rfl ?_
  obtain ⟨h_1, eh1⟩ : ∃ z, z = gm_put h r0 (.inr (10, fs1.set 13 (.int 0))) := ⟨_, rfl⟩
  rw [← eh1]
  replace w := w h_1 eh1
  refine gw_pst hk 1 (st' := (6, [some (.ref r0), some (.int x1), none, none], [.ref r0], h_1)) rfl ?_
  obtain ⟨x_2, e2, w⟩ := w
  refine gw_gf (hk _ _ rfl) e2 ?_
  refine gw_pst hk 3 (st' := (12, [some (.ref r0), some (.int x1), some (.int x_2), none], [.int 0, .ref r0], h_1)) rfl ?_
  obtain ⟨fs3, e3, l3, w⟩ := w
  refine gw_pf (hk _ _ rfl) e3 l3 rfl ?_
  obtain ⟨h_3, eh3⟩ : ∃ z, z = gm_put h_1 r0 (.inr (10, fs3.set 10 (.int 0))) := ⟨_, rfl⟩
  rw [← eh3]
  replace w := w h_3 eh3
  refine gw_pst hk 1 (st' := (16, [some (.ref r0), some (.int x1), some (.int x_2), none], [.int x1], h_3)) rfl ?_
  refine gw_call (jj := 159) (As := [.int x1]) (rest := []) (hk _ _ rfl) (fun _ => rfl) rfl rfl (Nat.le_of_ble_eq_true rfl) rfl ?_
  refine ge_imp w (fun v4 h_4 w => ?_)
  obtain ⟨x_4, rfl, w⟩ := w
  show gV c d 173 (19, [some (.ref r0), some (.int x1), some (.int x_2), none], [.int x_4], h_4) Post
  refine gw_br (c := x_4 = 0) (a := (22, [some (.ref r0), some (.int x1), some (.int x_2), none], [], h_4)) (b := (25, [some (.ref r0), some (.int x1), some (.int x_2), none], [], h_4)) (hk _ _ rfl) rfl ⟨fun z5 => ?_, fun z5 => ?_⟩
  · replace w := w.1 z5
    refine gw_pst hk 1 (st' := (24, [some (.ref r0), some (.int x1), some (.int x_2), none], [.int (-100)], h_4)) rfl ?_
    exact gw_ret (hk _ _ rfl) rfl w
  · replace w := w.2 z5
    refine gw_pst hk 2 (st' := (27, [some (.ref r0), some (.int x1), some (.int x_2), some (.int 0)], [], h_4)) rfl ?_
    obtain ⟨n, w⟩ := w
    exact okl173_27 c d Post n _ _ _ _ _ w
def w174_40 (c : gx) (d : Nat) (Post : Option Value → gm_H → Prop) (xs0 : Int32) (h : gm_H) : Prop :=
  Post (some (.int xs0)) h
theorem ok174_40 (c : gx) (d : Nat) (Post : Option Value → gm_H → Prop)  (xs0 : Int32) (h : gm_H) (w : w174_40 c d Post xs0 h) : gV c d 174 (40, [none, none, none, none], [.int xs0], h) Post := by
  have hk : ∀ pc i, gm_find gk_174 pc = some i → gm_code (gt_T c.1 c.2.1 c.2.2.1) 174 pc = some i := fun _ _ z => z
  unfold w174_40 at w
  unfold gV
  exact gw_ret (hk _ _ rfl) rfl w
/-- CommandByTurnsModel.wishOf(II)I -/
def wm174 (c : gx) (d : Nat) (Post : Option Value → gm_H → Prop) (r0 : Nat) (x1 : Int32) (x2 : Int32) (h : gm_H) : Prop :=
  ∃ q_1 : Nat, gm_fld h r0 10 7 = some (.ref q_1) ∧ ∃ (n2 : Nat) (f2 : Nat → Int32), gm_get h q_1 = some (.inl (0, n2, .inl f2)) ∧ vp_in x1 n2 ∧ ∃ q_3 : Nat, gm_fld h r0 10 8 = some (.ref q_3) ∧ ∃ (n4 : Nat) (f4 : Nat → Int32), gm_get h q_3 = some (.inl (0, n4, .inl f4)) ∧ vp_in x1 n4 ∧ gE c d 154 [.int (x2 - (f2 (x1 : Int32).toNatClampNeg)), .int 0, .int ((f4 (x1 : Int32).toNatClampNeg) - 1)] h (fun v5 h_5 => ∃ x_5 : Int32, v5 = some (.int x_5) ∧ ((x_5 = 0 → w174_40 c d Post 0 h_5) ∧ (¬ (x_5 = 0) → ∃ q_7 : Nat, gm_fld h_5 r0 10 6 = some (.ref q_7) ∧ ∃ (n8 : Nat) (f8 : Nat → Int32), gm_get h_5 q_7 = some (.inl (0, n8, .inl f8)) ∧ vp_in ((20 * x1) + (x2 - (f2 (x1 : Int32).toNatClampNeg))) n8 ∧ w174_40 c d Post (f8 ((20 * x1) + (x2 - (f2 (x1 : Int32).toNatClampNeg)) : Int32).toNatClampNeg) h_5)))
theorem okm174 (c : gx) (d : Nat) (Post : Option Value → gm_H → Prop) (r0 : Nat) (x1 : Int32) (x2 : Int32) (h : gm_H) (w : wm174 c d Post r0 x1 x2 h) : gE c (d + 1) 174 [.ref r0, .int x1, .int x2] h Post := by
  have hk : ∀ pc i, gm_find gk_174 pc = some i → gm_code (gt_T c.1 c.2.1 c.2.2.1) 174 pc = some i := fun _ _ z => z
  unfold wm174 at w
  refine ge_of (by decide) (Nat.le_of_ble_eq_true rfl) ?_
  show gV c d 174 (0, [some (.ref r0), some (.int x1), some (.int x2), none], [], h) Post
  unfold gV
  refine gw_pst hk 2 (st' := (2, [some (.ref r0), some (.int x1), some (.int x2), none], [.ref r0, .int x2], h)) rfl ?_
  obtain ⟨q_1, e1, w⟩ := w
  refine gw_gf (hk _ _ rfl) e1 ?_
  refine gw_pst hk 1 (st' := (6, [some (.ref r0), some (.int x1), some (.int x2), none], [.int x1, .ref q_1, .int x2], h)) rfl ?_
  obtain ⟨n2, f2, e2, b2, w⟩ := w
  refine gw_ald (hk _ _ rfl) (Or.inl ⟨rfl, rfl⟩) e2 b2 ?_
  refine gw_pst hk 5 (st' := (12, [some (.ref r0), some (.int x1), some (.int x2), some (.int (x2 - (f2 (x1 : Int32).toNatClampNeg)))], [.ref r0, .int 0, .int (x2 - (f2 (x1 : Int32).toNatClampNeg))], h)) rfl ?_
  obtain ⟨q_3, e3, w⟩ := w
  refine gw_gf (hk _ _ rfl) e3 ?_
  refine gw_pst hk 1 (st' := (16, [some (.ref r0), some (.int x1), some (.int x2), some (.int (x2 - (f2 (x1 : Int32).toNatClampNeg)))], [.int x1, .ref q_3, .int 0, .int (x2 - (f2 (x1 : Int32).toNatClampNeg))], h)) rfl ?_
  obtain ⟨n4, f4, e4, b4, w⟩ := w
  refine gw_ald (hk _ _ rfl) (Or.inl ⟨rfl, rfl⟩) e4 b4 ?_
  refine gw_pst hk 2 (st' := (19, [some (.ref r0), some (.int x1), some (.int x2), some (.int (x2 - (f2 (x1 : Int32).toNatClampNeg)))], [.int ((f4 (x1 : Int32).toNatClampNeg) - 1), .int 0, .int (x2 - (f2 (x1 : Int32).toNatClampNeg))], h)) rfl ?_
  refine gw_call (jj := 154) (As := [.int (x2 - (f2 (x1 : Int32).toNatClampNeg)), .int 0, .int ((f4 (x1 : Int32).toNatClampNeg) - 1)]) (rest := []) (hk _ _ rfl) (fun _ => rfl) rfl rfl (Nat.le_of_ble_eq_true rfl) rfl ?_
  refine ge_imp w (fun v5 h_5 w => ?_)
  obtain ⟨x_5, rfl, w⟩ := w
  show gV c d 174 (22, [some (.ref r0), some (.int x1), some (.int x2), some (.int (x2 - (f2 (x1 : Int32).toNatClampNeg)))], [.int x_5], h_5) Post
  refine gw_br (c := x_5 = 0) (a := (39, [some (.ref r0), some (.int x1), some (.int x2), some (.int (x2 - (f2 (x1 : Int32).toNatClampNeg)))], [], h_5)) (b := (25, [some (.ref r0), some (.int x1), some (.int x2), some (.int (x2 - (f2 (x1 : Int32).toNatClampNeg)))], [], h_5)) (hk _ _ rfl) rfl ⟨fun z6 => ?_, fun z6 => ?_⟩
  · replace w := w.1 z6
    refine gw_pst hk 1 (st' := (40, [some (.ref r0), some (.int x1), some (.int x2), some (.int (x2 - (f2 (x1 : Int32).toNatClampNeg)))], [.int 0], h_5)) rfl ?_
    refine gw_le (L' := [none, none, none, none]) (gm_le_n _ (gm_le_n _ (gm_le_n _ (gm_le_n _ gm_le_nil)))) ?_
    exact ok174_40 c d Post _ _ w
  · replace w := w.2 z6
    refine gw_pst hk 1 (st' := (26, [some (.ref r0), some (.int x1), some (.int x2), some (.int (x2 - (f2 (x1 : Int32).toNatClampNeg)))], [.ref r0], h_5)) rfl ?_
    obtain ⟨q_7, e7, w⟩ := w
    refine gw_gf (hk _ _ rfl) e7 ?_
    refine gw_pst hk 5 (st' := (35, [some (.ref r0), some (.int x1), some (.int x2), some (.int (x2 - (f2 (x1 : Int32).toNatClampNeg)))], [.int ((20 * x1) + (x2 - (f2 (x1 : Int32).toNatClampNeg))), .ref q_7], h_5)) rfl ?_
    obtain ⟨n8, f8, e8, b8, w⟩ := w
    refine gw_ald (hk _ _ rfl) (Or.inl ⟨rfl, rfl⟩) e8 b8 ?_
    refine gw_pst hk 1 (st' := (40, [some (.ref r0), some (.int x1), some (.int x2), some (.int (x2 - (f2 (x1 : Int32).toNatClampNeg)))], [.int (f8 ((20 * x1) + (x2 - (f2 (x1 : Int32).toNatClampNeg)) : Int32).toNatClampNeg)], h_5)) rfl ?_
    refine gw_le (L' := [none, none, none, none]) (gm_le_n _ (gm_le_n _ (gm_le_n _ (gm_le_n _ gm_le_nil)))) ?_
    exact ok174_40 c d Post _ _ w
def w175_29 (c : gx) (d : Nat) (Post : Option Value → gm_H → Prop) (xs0 : Int32) (h : gm_H) : Prop :=
  Post (some (.int xs0)) h
theorem ok175_29 (c : gx) (d : Nat) (Post : Option Value → gm_H → Prop)  (xs0 : Int32) (h : gm_H) (w : w175_29 c d Post xs0 h) : gV c d 175 (29, [none, none, none], [.int xs0], h) Post := by
  have hk : ∀ pc i, gm_find gk_175 pc = some i → gm_code (gt_T c.1 c.2.1 c.2.2.1) 175 pc = some i := fun _ _ z => z
  unfold w175_29 at w
  unfold gV
  exact gw_ret (hk _ _ rfl) rfl w
def w175_53 (c : gx) (d : Nat) (Post : Option Value → gm_H → Prop) (xs0 : Int32) (h : gm_H) : Prop :=
  Post (some (.int xs0)) h
theorem ok175_53 (c : gx) (d : Nat) (Post : Option Value → gm_H → Prop)  (xs0 : Int32) (h : gm_H) (w : w175_53 c d Post xs0 h) : gV c d 175 (53, [none, none, none], [.int xs0], h) Post := by
  have hk : ∀ pc i, gm_find gk_175 pc = some i → gm_code (gt_T c.1 c.2.1 c.2.2.1) 175 pc = some i := fun _ _ z => z
  unfold w175_53 at w
  unfold gV
  exact gw_ret (hk _ _ rfl) rfl w
def w175_77 (c : gx) (d : Nat) (Post : Option Value → gm_H → Prop) (xs0 : Int32) (h : gm_H) : Prop :=
  Post (some (.int xs0)) h
theorem ok175_77 (c : gx) (d : Nat) (Post : Option Value → gm_H → Prop)  (xs0 : Int32) (h : gm_H) (w : w175_77 c d Post xs0 h) : gV c d 175 (77, [none, none, none], [.int xs0], h) Post := by
  have hk : ∀ pc i, gm_find gk_175 pc = some i → gm_code (gt_T c.1 c.2.1 c.2.2.1) 175 pc = some i := fun _ _ z => z
  unfold w175_77 at w
  unfold gV
  exact gw_ret (hk _ _ rfl) rfl w
/-- CommandByTurnsModel.held(I)I -/
def wm175 (c : gx) (d : Nat) (Post : Option Value → gm_H → Prop) (r0 : Nat) (x1 : Int32) (h : gm_H) : Prop :=
  (∃ fs1, gm_get h r0 = some (.inr (10, fs1))) ∧ gE c d 176 [.ref r0, .int x1] h (fun v1 h_1 => ∃ x_1 : Int32, v1 = some (.int x_1) ∧ (∃ fs2, gm_get h_1 r0 = some (.inr (10, fs2))) ∧ gE c d 167 [.ref r0, .int 60] h_1 (fun v2 h_2 => ∃ x_2 : Int32, v2 = some (.int x_2) ∧ ((x_2 = 0 → (∃ fs4, gm_get h_2 r0 = some (.inr (10, fs4))) ∧ gE c d 167 [.ref r0, .int 62] h_2 (fun v4 h_4 => ∃ x_4 : Int32, v4 = some (.int x_4) ∧ ((x_4 = 0 → (∃ fs6, gm_get h_4 r0 = some (.inr (10, fs6))) ∧ gE c d 167 [.ref r0, .int 61] h_4 (fun v6 h_6 => ∃ x_6 : Int32, v6 = some (.int x_6) ∧ ((x_6 = 0 → Post (some (.int x_1)) h_6) ∧ (¬ (x_6 = 0) → (∃ fs8, gm_get h_6 r0 = some (.inr (10, fs8))) ∧ gE c d 176 [.ref r0, .int x1] h_6 (fun v8 h_8 => ∃ x_8 : Int32, v8 = some (.int x_8) ∧ ((x_1 = x_8 → w175_77 c d Post 1 h_8) ∧ (¬ (x_1 = x_8) → w175_77 c d Post 0 h_8))))))) ∧ (¬ (x_4 = 0) → (∃ fs10, gm_get h_4 r0 = some (.inr (10, fs10))) ∧ gE c d 176 [.ref r0, .int x1] h_4 (fun v10 h_10 => ∃ x_10 : Int32, v10 = some (.int x_10) ∧ ((x_1 ≤ x_10 → w175_53 c d Post 0 h_10) ∧ (¬ (x_1 ≤ x_10) → w175_53 c d Post 1 h_10))))))) ∧ (¬ (x_2 = 0) → (∃ fs12, gm_get h_2 r0 = some (.inr (10, fs12))) ∧ gE c d 176 [.ref r0, .int x1] h_2 (fun v12 h_12 => ∃ x_12 : Int32, v12 = some (.int x_12) ∧ ((x_12 ≤ x_1 → w175_29 c d Post 0 h_12) ∧ (¬ (x_12 ≤ x_1) → w175_29 c d Post 1 h_12)))))))
theorem okm175 (c : gx) (d : Nat) (Post : Option Value → gm_H → Prop) (r0 : Nat) (x1 : Int32) (h : gm_H) (w : wm175 c d Post r0 x1 h) : gE c (d + 1) 175 [.ref r0, .int x1] h Post := by
  have hk : ∀ pc i, gm_find gk_175 pc = some i → gm_code (gt_T c.1 c.2.1 c.2.2.1) 175 pc = some i := fun _ _ z => z
  unfold wm175 at w
  refine ge_of (by decide) (Nat.le_of_ble_eq_true rfl) ?_
  show gV c d 175 (0, [some (.ref r0), some (.int x1), none], [], h) Post
  unfold gV
  refine gw_pst hk 2 (st' := (2, [some (.ref r0), some (.int x1), none], [.int x1, .ref r0], h)) rfl ?_
  obtain ⟨⟨fs1, e1⟩, w⟩ := w
  refine gw_call (jj := 176) (As := [.ref r0, .int x1]) (rest := []) (hk _ _ rfl) (fun _ => rfl) rfl rfl (Nat.le_of_ble_eq_true rfl) (gm_rcv_v rfl e1 rfl) ?_
  refine ge_imp w (fun v1 h_1 w => ?_)
  obtain ⟨x_1, rfl, w⟩ := w
  show gV c d 175 (5, [some (.ref r0), some (.int x1), none], [.int x_1], h_1) Post
  refine gw_pst hk 3 (st' := (9, [some (.ref r0), some (.int x1), some (.int x_1)], [.int 60, .ref r0], h_1)) rfl ?_
  obtain ⟨⟨fs2, e2⟩, w⟩ := w
  refine gw_call (jj := 167) (As := [.ref r0, .int 60]) (rest := []) (hk _ _ rfl) (fun _ => rfl) rfl rfl (Nat.le_of_ble_eq_true rfl) (gm_rcv_v rfl e2 rfl) ?_
  refine ge_imp w (fun v2 h_2 w => ?_)
  obtain ⟨x_2, rfl, w⟩ := w
  show gV c d 175 (12, [some (.ref r0), some (.int x1), some (.int x_1)], [.int x_2], h_2) Post
  refine gw_br (c := x_2 = 0) (a := (30, [some (.ref r0), some (.int x1), some (.int x_1)], [], h_2)) (b := (15, [some (.ref r0), some (.int x1), some (.int x_1)], [], h_2)) (hk _ _ rfl) rfl ⟨fun z3 => ?_, fun z3 => ?_⟩
  · replace w := w.1 z3
    refine gw_pst hk 2 (st' := (33, [some (.ref r0), some (.int x1), some (.int x_1)], [.int 62, .ref r0], h_2)) rfl ?_
    obtain ⟨⟨fs4, e4⟩, w⟩ := w
    refine gw_call (jj := 167) (As := [.ref r0, .int 62]) (rest := []) (hk _ _ rfl) (fun _ => rfl) rfl rfl (Nat.le_of_ble_eq_true rfl) (gm_rcv_v rfl e4 rfl) ?_
    refine ge_imp w (fun v4 h_4 w => ?_)
    obtain ⟨x_4, rfl, w⟩ := w
    show gV c d 175 (36, [some (.ref r0), some (.int x1), some (.int x_1)], [.int x_4], h_4) Post
    refine gw_br (c := x_4 = 0) (a := (54, [some (.ref r0), some (.int x1), some (.int x_1)], [], h_4)) (b := (39, [some (.ref r0), some (.int x1), some (.int x_1)], [], h_4)) (hk _ _ rfl) rfl ⟨fun z5 => ?_, fun z5 => ?_⟩
    · replace w := w.1 z5
      refine gw_pst hk 2 (st' := (57, [some (.ref r0), some (.int x1), some (.int x_1)], [.int 61, .ref r0], h_4)) rfl ?_
      obtain ⟨⟨fs6, e6⟩, w⟩ := w
      refine gw_call (jj := 167) (As := [.ref r0, .int 61]) (rest := []) (hk _ _ rfl) (fun _ => rfl) rfl rfl (Nat.le_of_ble_eq_true rfl) (gm_rcv_v rfl e6 rfl) ?_
      refine ge_imp w (fun v6 h_6 w => ?_)
      obtain ⟨x_6, rfl, w⟩ := w
      show gV c d 175 (60, [some (.ref r0), some (.int x1), some (.int x_1)], [.int x_6], h_6) Post
      refine gw_br (c := x_6 = 0) (a := (78, [some (.ref r0), some (.int x1), some (.int x_1)], [], h_6)) (b := (63, [some (.ref r0), some (.int x1), some (.int x_1)], [], h_6)) (hk _ _ rfl) rfl ⟨fun z7 => ?_, fun z7 => ?_⟩
      · replace w := w.1 z7
        refine gw_pst hk 1 (st' := (79, [some (.ref r0), some (.int x1), some (.int x_1)], [.int x_1], h_6)) rfl ?_
        exact gw_ret (hk _ _ rfl) rfl w
      · replace w := w.2 z7
        refine gw_pst hk 3 (st' := (66, [some (.ref r0), some (.int x1), some (.int x_1)], [.int x1, .ref r0, .int x_1], h_6)) rfl ?_
        obtain ⟨⟨fs8, e8⟩, w⟩ := w
        refine gw_call (jj := 176) (As := [.ref r0, .int x1]) (rest := [.int x_1]) (hk _ _ rfl) (fun _ => rfl) rfl rfl (Nat.le_of_ble_eq_true rfl) (gm_rcv_v rfl e8 rfl) ?_
        refine ge_imp w (fun v8 h_8 w => ?_)
        obtain ⟨x_8, rfl, w⟩ := w
        show gV c d 175 (69, [some (.ref r0), some (.int x1), some (.int x_1)], [.int x_8, .int x_1], h_8) Post
        refine gw_br (c := x_1 = x_8) (a := (72, [some (.ref r0), some (.int x1), some (.int x_1)], [], h_8)) (b := (76, [some (.ref r0), some (.int x1), some (.int x_1)], [], h_8)) (hk _ _ rfl) rfl ⟨fun z9 => ?_, fun z9 => ?_⟩
        · replace w := w.1 z9
          refine gw_pst hk 2 (st' := (77, [some (.ref r0), some (.int x1), some (.int x_1)], [.int 1], h_8)) rfl ?_
          refine gw_le (L' := [none, none, none]) (gm_le_n _ (gm_le_n _ (gm_le_n _ gm_le_nil))) ?_
          exact ok175_77 c d Post _ _ w
        · replace w := w.2 z9
          refine gw_pst hk 1 (st' := (77, [some (.ref r0), some (.int x1), some (.int x_1)], [.int 0], h_8)) rfl ?_
          refine gw_le (L' := [none, none, none]) (gm_le_n _ (gm_le_n _ (gm_le_n _ gm_le_nil))) ?_
          exact ok175_77 c d Post _ _ w
    · replace w := w.2 z5
      refine gw_pst hk 3 (st' := (42, [some (.ref r0), some (.int x1), some (.int x_1)], [.int x1, .ref r0, .int x_1], h_4)) rfl ?_
      obtain ⟨⟨fs10, e10⟩, w⟩ := w
      refine gw_call (jj := 176) (As := [.ref r0, .int x1]) (rest := [.int x_1]) (hk _ _ rfl) (fun _ => rfl) rfl rfl (Nat.le_of_ble_eq_true rfl) (gm_rcv_v rfl e10 rfl) ?_
      refine ge_imp w (fun v10 h_10 w => ?_)
      obtain ⟨x_10, rfl, w⟩ := w
      show gV c d 175 (45, [some (.ref r0), some (.int x1), some (.int x_1)], [.int x_10, .int x_1], h_10) Post
      refine gw_br (c := x_1 ≤ x_10) (a := (52, [some (.ref r0), some (.int x1), some (.int x_1)], [], h_10)) (b := (48, [some (.ref r0), some (.int x1), some (.int x_1)], [], h_10)) (hk _ _ rfl) rfl ⟨fun z11 => ?_, fun z11 => ?_⟩
      · replace w := w.1 z11
        refine gw_pst hk 1 (st' := (53, [some (.ref r0), some (.int x1), some (.int x_1)], [.int 0], h_10)) rfl ?_
        refine gw_le (L' := [none, none, none]) (gm_le_n _ (gm_le_n _ (gm_le_n _ gm_le_nil))) ?_
        exact ok175_53 c d Post _ _ w
      · replace w := w.2 z11
        refine gw_pst hk 2 (st' := (53, [some (.ref r0), some (.int x1), some (.int x_1)], [.int 1], h_10)) rfl ?_
        refine gw_le (L' := [none, none, none]) (gm_le_n _ (gm_le_n _ (gm_le_n _ gm_le_nil))) ?_
        exact ok175_53 c d Post _ _ w
  · replace w := w.2 z3
    refine gw_pst hk 3 (st' := (18, [some (.ref r0), some (.int x1), some (.int x_1)], [.int x1, .ref r0, .int x_1], h_2)) rfl ?_
    obtain ⟨⟨fs12, e12⟩, w⟩ := w
    refine gw_call (jj := 176) (As := [.ref r0, .int x1]) (rest := [.int x_1]) (hk _ _ rfl) (fun _ => rfl) rfl rfl (Nat.le_of_ble_eq_true rfl) (gm_rcv_v rfl e12 rfl) ?_
    refine ge_imp w (fun v12 h_12 w => ?_)
    obtain ⟨x_12, rfl, w⟩ := w
    show gV c d 175 (21, [some (.ref r0), some (.int x1), some (.int x_1)], [.int x_12, .int x_1], h_12) Post
    refine gw_br (c := x_12 ≤ x_1) (a := (28, [some (.ref r0), some (.int x1), some (.int x_1)], [], h_12)) (b := (24, [some (.ref r0), some (.int x1), some (.int x_1)], [], h_12)) (hk _ _ rfl) rfl ⟨fun z13 => ?_, fun z13 => ?_⟩
    · replace w := w.1 z13
      refine gw_pst hk 1 (st' := (29, [some (.ref r0), some (.int x1), some (.int x_1)], [.int 0], h_12)) rfl ?_
      refine gw_le (L' := [none, none, none]) (gm_le_n _ (gm_le_n _ (gm_le_n _ gm_le_nil))) ?_
      exact ok175_29 c d Post _ _ w
    · replace w := w.2 z13
      refine gw_pst hk 2 (st' := (29, [some (.ref r0), some (.int x1), some (.int x_1)], [.int 1], h_12)) rfl ?_
      refine gw_le (L' := [none, none, none]) (gm_le_n _ (gm_le_n _ (gm_le_n _ gm_le_nil))) ?_
      exact ok175_29 c d Post _ _ w
def w176_78 (c : gx) (d : Nat) (Post : Option Value → gm_H → Prop) (K6 : Nat → Int32 → Int32 → gm_H → Prop) (r0 : Nat) (x1 : Int32) (xs0 : Int32) (h : gm_H) : Prop :=
  K6 r0 x1 xs0 h
theorem ok176_78 (c : gx) (d : Nat) (Post : Option Value → gm_H → Prop) (K6 : Nat → Int32 → Int32 → gm_H → Prop)  (hK6 : ∀ (r0 : Nat) (x1 : Int32) (x2 : Int32) (h : gm_H), K6 r0 x1 x2 h → gV c d 176 (6, [some (.ref r0), some (.int x1), some (.int x2), none, none], [], h) Post) (r0 : Nat) (x1 : Int32) (xs0 : Int32) (h : gm_H) (w : w176_78 c d Post K6 r0 x1 xs0 h) : gV c d 176 (78, [some (.ref r0), some (.int x1), none, none, none], [.int xs0], h) Post := by
  have hk : ∀ pc i, gm_find gk_176 pc = some i → gm_code (gt_T c.1 c.2.1 c.2.2.1) 176 pc = some i := fun _ _ z => z
  unfold w176_78 at w
  unfold gV
  refine gw_pst hk 2 (st' := (6, [some (.ref r0), some (.int x1), some (.int xs0), none, none], [], h)) rfl ?_
  exact hK6 _ _ _ _ w
def w176_45 (c : gx) (d : Nat) (Post : Option Value → gm_H → Prop) (K6 : Nat → Int32 → Int32 → gm_H → Prop) (r0 : Nat) (x1 : Int32) (x2 : Int32) (xs0 : Int32) (h : gm_H) : Prop :=
  ∃ x_1 : Int32, gm_fld h r0 10 17 = some (.int x_1) ∧ ∃ fs2 : List Value, gm_get h r0 = some (.inr (10, fs2)) ∧ 17 < fs2.length ∧ ∀ h_2 : gm_H, h_2 = gm_put h r0 (.inr (10, fs2.set 17 (.int (x_1 + 1)))) → (∃ fs3, gm_get h_2 r0 = some (.inr (10, fs3))) ∧ gE c d 177 [.ref r0, .int x1] h_2 (fun v3 h_3 => ∃ x_3 : Int32, v3 = some (.int x_3) ∧ ((xs0 = 0 → w176_78 c d Post K6 r0 x1 (x2 - x_3) h_3) ∧ (¬ (xs0 = 0) → w176_78 c d Post K6 r0 x1 (x2 + x_3) h_3)))
theorem ok176_45 (c : gx) (d : Nat) (Post : Option Value → gm_H → Prop) (K6 : Nat → Int32 → Int32 → gm_H → Prop)  (hK6 : ∀ (r0 : Nat) (x1 : Int32) (x2 : Int32) (h : gm_H), K6 r0 x1 x2 h → gV c d 176 (6, [some (.ref r0), some (.int x1), some (.int x2), none, none], [], h) Post) (r0 : Nat) (x1 : Int32) (x2 : Int32) (xs0 : Int32) (h : gm_H) (w : w176_45 c d Post K6 r0 x1 x2 xs0 h) : gV c d 176 (45, [some (.ref r0), some (.int x1), some (.int x2), none, none], [.int xs0], h) Post := by
  have hk : ∀ pc i, gm_find gk_176 pc = some i → gm_code (gt_T c.1 c.2.1 c.2.2.1) 176 pc = some i := fun _ _ z => z
  unfold w176_45 at w
  unfold gV
  refine gw_pst hk 3 (st' := (48, [some (.ref r0), some (.int x1), some (.int x2), some (.int xs0), none], [.ref r0, .ref r0], h)) rfl ?_
  obtain ⟨x_1, e1, w⟩ := w
  refine gw_gf (hk _ _ rfl) e1 ?_
  refine gw_pst hk 2 (st' := (53, [some (.ref r0), some (.int x1), some (.int x2), some (.int xs0), none], [.int (x_1 + 1), .ref r0], h)) rfl ?_
  obtain ⟨fs2, e2, l2, w⟩ := w
  refine gw_pf (hk _ _ rfl) e2 l2 rfl ?_
  obtain ⟨h_2, eh2⟩ : ∃ z, z = gm_put h r0 (.inr (10, fs2.set 17 (.int (x_1 + 1)))) := ⟨_, rfl⟩
  rw [← eh2]
  replace w := w h_2 eh2
  refine gw_pst hk 2 (st' := (58, [some (.ref r0), some (.int x1), some (.int x2), some (.int xs0), none], [.int x1, .ref r0], h_2)) rfl ?_
  obtain ⟨⟨fs3, e3⟩, w⟩ := w
  refine gw_call (jj := 177) (As := [.ref r0, .int x1]) (rest := []) (hk _ _ rfl) (fun _ => rfl) rfl rfl (Nat.le_of_ble_eq_true rfl) (gm_rcv_v rfl e3 rfl) ?_
  refine ge_imp w (fun v3 h_3 w => ?_)
  obtain ⟨x_3, rfl, w⟩ := w
  show gV c d 176 (61, [some (.ref r0), some (.int x1), some (.int x2), some (.int xs0), none], [.int x_3], h_3) Post
  refine gw_pst hk 2 (st' := (64, [some (.ref r0), some (.int x1), some (.int x2), some (.int xs0), some (.int x_3)], [.int xs0], h_3)) rfl ?_
  refine gw_br (c := xs0 = 0) (a := (74, [some (.ref r0), some (.int x1), some (.int x2), some (.int xs0), some (.int x_3)], [], h_3)) (b := (67, [some (.ref r0), some (.int x1), some (.int x2), some (.int xs0), some (.int x_3)], [], h_3)) (hk _ _ rfl) rfl ⟨fun z4 => ?_, fun z4 => ?_⟩
  · replace w := w.1 z4
    refine gw_pst hk 3 (st' := (78, [some (.ref r0), some (.int x1), some (.int x2), some (.int xs0), some (.int x_3)], [.int (x2 - x_3)], h_3)) rfl ?_
    refine gw_le (L' := [some (.ref r0), some (.int x1), none, none, none]) (gm_le_k _ (gm_le_k _ (gm_le_n _ (gm_le_n _ (gm_le_n _ gm_le_nil))))) ?_
    exact ok176_78 c d Post K6 hK6 _ _ _ _ w
  · replace w := w.2 z4
    refine gw_pst hk 4 (st' := (78, [some (.ref r0), some (.int x1), some (.int x2), some (.int xs0), some (.int x_3)], [.int (x2 + x_3)], h_3)) rfl ?_
    refine gw_le (L' := [some (.ref r0), some (.int x1), none, none, none]) (gm_le_k _ (gm_le_k _ (gm_le_n _ (gm_le_n _ (gm_le_n _ gm_le_nil))))) ?_
    exact ok176_78 c d Post K6 hK6 _ _ _ _ w
def w176_31 (c : gx) (d : Nat) (Post : Option Value → gm_H → Prop) (K6 : Nat → Int32 → Int32 → gm_H → Prop) (r0 : Nat) (x1 : Int32) (x2 : Int32) (h : gm_H) : Prop :=
  (∃ fs1, gm_get h r0 = some (.inr (10, fs1))) ∧ gE c d 164 [.ref r0] h (fun v1 h_1 => ∃ x_1 : Int32, v1 = some (.int x_1) ∧ ((x_1 = 43 → w176_45 c d Post K6 r0 x1 x2 1 h_1) ∧ (¬ (x_1 = 43) → w176_45 c d Post K6 r0 x1 x2 0 h_1)))
theorem ok176_31 (c : gx) (d : Nat) (Post : Option Value → gm_H → Prop) (K6 : Nat → Int32 → Int32 → gm_H → Prop)  (hK6 : ∀ (r0 : Nat) (x1 : Int32) (x2 : Int32) (h : gm_H), K6 r0 x1 x2 h → gV c d 176 (6, [some (.ref r0), some (.int x1), some (.int x2), none, none], [], h) Post) (r0 : Nat) (x1 : Int32) (x2 : Int32) (h : gm_H) (w : w176_31 c d Post K6 r0 x1 x2 h) : gV c d 176 (31, [some (.ref r0), some (.int x1), some (.int x2), none, none], [], h) Post := by
  have hk : ∀ pc i, gm_find gk_176 pc = some i → gm_code (gt_T c.1 c.2.1 c.2.2.1) 176 pc = some i := fun _ _ z => z
  unfold w176_31 at w
  unfold gV
  refine gw_pst hk 1 (st' := (32, [some (.ref r0), some (.int x1), some (.int x2), none, none], [.ref r0], h)) rfl ?_
  obtain ⟨⟨fs1, e1⟩, w⟩ := w
  refine gw_call (jj := 164) (As := [.ref r0]) (rest := []) (hk _ _ rfl) (fun _ => rfl) rfl rfl (Nat.le_of_ble_eq_true rfl) (gm_rcv_v rfl e1 rfl) ?_
  refine ge_imp w (fun v1 h_1 w => ?_)
  obtain ⟨x_1, rfl, w⟩ := w
  show gV c d 176 (35, [some (.ref r0), some (.int x1), some (.int x2), none, none], [.int x_1], h_1) Post
  refine gw_pst hk 1 (st' := (37, [some (.ref r0), some (.int x1), some (.int x2), none, none], [.int 43, .int x_1], h_1)) rfl ?_
  refine gw_br (c := x_1 = 43) (a := (40, [some (.ref r0), some (.int x1), some (.int x2), none, none], [], h_1)) (b := (44, [some (.ref r0), some (.int x1), some (.int x2), none, none], [], h_1)) (hk _ _ rfl) rfl ⟨fun z2 => ?_, fun z2 => ?_⟩
  · replace w := w.1 z2
    refine gw_pst hk 2 (st' := (45, [some (.ref r0), some (.int x1), some (.int x2), none, none], [.int 1], h_1)) rfl ?_
    exact ok176_45 c d Post K6 hK6 _ _ _ _ _ w
  · replace w := w.2 z2
    refine gw_pst hk 1 (st' := (45, [some (.ref r0), some (.int x1), some (.int x2), none, none], [.int 0], h_1)) rfl ?_
    exact ok176_45 c d Post K6 hK6 _ _ _ _ _ w
def w176_82 (c : gx) (d : Nat) (Post : Option Value → gm_H → Prop) (x2 : Int32) (h : gm_H) : Prop :=
  Post (some (.int x2)) h
theorem ok176_82 (c : gx) (d : Nat) (Post : Option Value → gm_H → Prop)  (x2 : Int32) (h : gm_H) (w : w176_82 c d Post x2 h) : gV c d 176 (82, [none, none, some (.int x2), none, none], [], h) Post := by
  have hk : ∀ pc i, gm_find gk_176 pc = some i → gm_code (gt_T c.1 c.2.1 c.2.2.1) 176 pc = some i := fun _ _ z => z
  unfold w176_82 at w
  unfold gV
  refine gw_pst hk 1 (st' := (83, [none, none, some (.int x2), none, none], [.int x2], h)) rfl ?_
  exact gw_ret (hk _ _ rfl) rfl w
def wb176_6 (c : gx) (d : Nat) (Post : Option Value → gm_H → Prop) (K6 : Nat → Int32 → Int32 → gm_H → Prop) (r0 : Nat) (x1 : Int32) (x2 : Int32) (h : gm_H) : Prop :=
  (∃ fs1, gm_get h r0 = some (.inr (10, fs1))) ∧ gE c d 165 [.ref r0] h (fun v1 h_1 => ∃ x_1 : Int32, v1 = some (.int x_1) ∧ ((x_1 = 0 → w176_82 c d Post x2 h_1) ∧ (¬ (x_1 = 0) → (∃ fs3, gm_get h_1 r0 = some (.inr (10, fs3))) ∧ gE c d 164 [.ref r0] h_1 (fun v3 h_3 => ∃ x_3 : Int32, v3 = some (.int x_3) ∧ ((x_3 = 43 → w176_31 c d Post K6 r0 x1 x2 h_3) ∧ (¬ (x_3 = 43) → (∃ fs5, gm_get h_3 r0 = some (.inr (10, fs5))) ∧ gE c d 164 [.ref r0] h_3 (fun v5 h_5 => ∃ x_5 : Int32, v5 = some (.int x_5) ∧ ((x_5 = 45 → w176_31 c d Post K6 r0 x1 x2 h_5) ∧ (¬ (x_5 = 45) → w176_82 c d Post x2 h_5)))))))))
theorem okb176_6 (c : gx) (d : Nat) (Post : Option Value → gm_H → Prop) (K6 : Nat → Int32 → Int32 → gm_H → Prop)  (hK6 : ∀ (r0 : Nat) (x1 : Int32) (x2 : Int32) (h : gm_H), K6 r0 x1 x2 h → gV c d 176 (6, [some (.ref r0), some (.int x1), some (.int x2), none, none], [], h) Post) (r0 : Nat) (x1 : Int32) (x2 : Int32) (h : gm_H) (w : wb176_6 c d Post K6 r0 x1 x2 h) : gV c d 176 (6, [some (.ref r0), some (.int x1), some (.int x2), none, none], [], h) Post := by
  have hk : ∀ pc i, gm_find gk_176 pc = some i → gm_code (gt_T c.1 c.2.1 c.2.2.1) 176 pc = some i := fun _ _ z => z
  unfold wb176_6 at w
  unfold gV
  refine gw_pst hk 1 (st' := (7, [some (.ref r0), some (.int x1), some (.int x2), none, none], [.ref r0], h)) rfl ?_
  obtain ⟨⟨fs1, e1⟩, w⟩ := w
  refine gw_call (jj := 165) (As := [.ref r0]) (rest := []) (hk _ _ rfl) (fun _ => rfl) rfl rfl (Nat.le_of_ble_eq_true rfl) (gm_rcv_v rfl e1 rfl) ?_
  refine ge_imp w (fun v1 h_1 w => ?_)
  obtain ⟨x_1, rfl, w⟩ := w
  show gV c d 176 (10, [some (.ref r0), some (.int x1), some (.int x2), none, none], [.int x_1], h_1) Post
  refine gw_br (c := x_1 = 0) (a := (82, [some (.ref r0), some (.int x1), some (.int x2), none, none], [], h_1)) (b := (13, [some (.ref r0), some (.int x1), some (.int x2), none, none], [], h_1)) (hk _ _ rfl) rfl ⟨fun z2 => ?_, fun z2 => ?_⟩
  · replace w := w.1 z2
    refine gw_le (L' := [none, none, some (.int x2), none, none]) (gm_le_n _ (gm_le_n _ (gm_le_k _ (gm_le_k _ (gm_le_k _ gm_le_nil))))) ?_
    exact ok176_82 c d Post _ _ w
  · replace w := w.2 z2
    refine gw_pst hk 1 (st' := (14, [some (.ref r0), some (.int x1), some (.int x2), none, none], [.ref r0], h_1)) rfl ?_
    obtain ⟨⟨fs3, e3⟩, w⟩ := w
    refine gw_call (jj := 164) (As := [.ref r0]) (rest := []) (hk _ _ rfl) (fun _ => rfl) rfl rfl (Nat.le_of_ble_eq_true rfl) (gm_rcv_v rfl e3 rfl) ?_
    refine ge_imp w (fun v3 h_3 w => ?_)
    obtain ⟨x_3, rfl, w⟩ := w
    show gV c d 176 (17, [some (.ref r0), some (.int x1), some (.int x2), none, none], [.int x_3], h_3) Post
    refine gw_pst hk 1 (st' := (19, [some (.ref r0), some (.int x1), some (.int x2), none, none], [.int 43, .int x_3], h_3)) rfl ?_
    refine gw_br (c := x_3 = 43) (a := (31, [some (.ref r0), some (.int x1), some (.int x2), none, none], [], h_3)) (b := (22, [some (.ref r0), some (.int x1), some (.int x2), none, none], [], h_3)) (hk _ _ rfl) rfl ⟨fun z4 => ?_, fun z4 => ?_⟩
    · replace w := w.1 z4
      exact ok176_31 c d Post K6 hK6 _ _ _ _ w
    · replace w := w.2 z4
      refine gw_pst hk 1 (st' := (23, [some (.ref r0), some (.int x1), some (.int x2), none, none], [.ref r0], h_3)) rfl ?_
      obtain ⟨⟨fs5, e5⟩, w⟩ := w
      refine gw_call (jj := 164) (As := [.ref r0]) (rest := []) (hk _ _ rfl) (fun _ => rfl) rfl rfl (Nat.le_of_ble_eq_true rfl) (gm_rcv_v rfl e5 rfl) ?_
      refine ge_imp w (fun v5 h_5 w => ?_)
      obtain ⟨x_5, rfl, w⟩ := w
      show gV c d 176 (26, [some (.ref r0), some (.int x1), some (.int x2), none, none], [.int x_5], h_5) Post
      refine gw_pst hk 1 (st' := (28, [some (.ref r0), some (.int x1), some (.int x2), none, none], [.int 45, .int x_5], h_5)) rfl ?_
      refine gw_br (c := x_5 = 45) (a := (31, [some (.ref r0), some (.int x1), some (.int x2), none, none], [], h_5)) (b := (82, [some (.ref r0), some (.int x1), some (.int x2), none, none], [], h_5)) (hk _ _ rfl) rfl ⟨fun z6 => ?_, fun z6 => ?_⟩
      · replace w := w.1 z6
        exact ok176_31 c d Post K6 hK6 _ _ _ _ w
      · replace w := w.2 z6
        refine gw_le (L' := [none, none, some (.int x2), none, none]) (gm_le_n _ (gm_le_n _ (gm_le_k _ (gm_le_k _ (gm_le_k _ gm_le_nil))))) ?_
        exact ok176_82 c d Post _ _ w
def wl176_6 (c : gx) (d : Nat) (Post : Option Value → gm_H → Prop) : Nat → Nat → Int32 → Int32 → gm_H → Prop
  | 0 => fun _ _ _ _ => False
  | n + 1 => wb176_6 c d Post (wl176_6 c d Post n)
theorem okl176_6 (c : gx) (d : Nat) (Post : Option Value → gm_H → Prop) : ∀ (n : Nat) (r0 : Nat) (x1 : Int32) (x2 : Int32) (h : gm_H), wl176_6 c d Post n r0 x1 x2 h → gV c d 176 (6, [some (.ref r0), some (.int x1), some (.int x2), none, none], [], h) Post
  | 0, _, _, _, _, w => w.elim
  | n + 1, r0, x1, x2, h, w => okb176_6 c d Post (wl176_6 c d Post n) (okl176_6 c d Post n) r0 x1 x2 h w
/-- CommandByTurnsModel.sum(I)I -/
def wm176 (c : gx) (d : Nat) (Post : Option Value → gm_H → Prop) (r0 : Nat) (x1 : Int32) (h : gm_H) : Prop :=
  (∃ fs1, gm_get h r0 = some (.inr (10, fs1))) ∧ gE c d 177 [.ref r0, .int x1] h (fun v1 h_1 => ∃ x_1 : Int32, v1 = some (.int x_1) ∧ ∃ n, wl176_6 c d Post n r0 x1 x_1 h_1)
theorem okm176 (c : gx) (d : Nat) (Post : Option Value → gm_H → Prop) (r0 : Nat) (x1 : Int32) (h : gm_H) (w : wm176 c d Post r0 x1 h) : gE c (d + 1) 176 [.ref r0, .int x1] h Post := by
  have hk : ∀ pc i, gm_find gk_176 pc = some i → gm_code (gt_T c.1 c.2.1 c.2.2.1) 176 pc = some i := fun _ _ z => z
  unfold wm176 at w
  refine ge_of (by decide) (Nat.le_of_ble_eq_true rfl) ?_
  show gV c d 176 (0, [some (.ref r0), some (.int x1), none, none, none], [], h) Post
  unfold gV
  refine gw_pst hk 2 (st' := (2, [some (.ref r0), some (.int x1), none, none, none], [.int x1, .ref r0], h)) rfl ?_
  obtain ⟨⟨fs1, e1⟩, w⟩ := w
  refine gw_call (jj := 177) (As := [.ref r0, .int x1]) (rest := []) (hk _ _ rfl) (fun _ => rfl) rfl rfl (Nat.le_of_ble_eq_true rfl) (gm_rcv_v rfl e1 rfl) ?_
  refine ge_imp w (fun v1 h_1 w => ?_)
  obtain ⟨x_1, rfl, w⟩ := w
  show gV c d 176 (5, [some (.ref r0), some (.int x1), none, none, none], [.int x_1], h_1) Post
  refine gw_pst hk 1 (st' := (6, [some (.ref r0), some (.int x1), some (.int x_1), none, none], [], h_1)) rfl ?_
  obtain ⟨n, w⟩ := w
  exact okl176_6 c d Post n _ _ _ _ w
def w177_87 (c : gx) (d : Nat) (Post : Option Value → gm_H → Prop) (K6 : Nat → Int32 → Int32 → gm_H → Prop) (r0 : Nat) (x1 : Int32) (xs0 : Int32) (h : gm_H) : Prop :=
  K6 r0 x1 xs0 h
theorem ok177_87 (c : gx) (d : Nat) (Post : Option Value → gm_H → Prop) (K6 : Nat → Int32 → Int32 → gm_H → Prop)  (hK6 : ∀ (r0 : Nat) (x1 : Int32) (x2 : Int32) (h : gm_H), K6 r0 x1 x2 h → gV c d 177 (6, [some (.ref r0), some (.int x1), some (.int x2), none, none], [], h) Post) (r0 : Nat) (x1 : Int32) (xs0 : Int32) (h : gm_H) (w : w177_87 c d Post K6 r0 x1 xs0 h) : gV c d 177 (87, [some (.ref r0), some (.int x1), none, none, none], [.int xs0], h) Post := by
  have hk : ∀ pc i, gm_find gk_177 pc = some i → gm_code (gt_T c.1 c.2.1 c.2.2.1) 177 pc = some i := fun _ _ z => z
  unfold w177_87 at w
  unfold gV
  refine gw_pst hk 2 (st' := (6, [some (.ref r0), some (.int x1), some (.int xs0), none, none], [], h)) rfl ?_
  exact hK6 _ _ _ _ w
def w177_45 (c : gx) (d : Nat) (Post : Option Value → gm_H → Prop) (K6 : Nat → Int32 → Int32 → gm_H → Prop) (r0 : Nat) (x1 : Int32) (x2 : Int32) (xs0 : Int32) (h : gm_H) : Prop :=
  ∃ x_1 : Int32, gm_fld h r0 10 17 = some (.int x_1) ∧ ∃ fs2 : List Value, gm_get h r0 = some (.inr (10, fs2)) ∧ 17 < fs2.length ∧ ∀ h_2 : gm_H, h_2 = gm_put h r0 (.inr (10, fs2.set 17 (.int (x_1 + 1)))) → (∃ fs3, gm_get h_2 r0 = some (.inr (10, fs3))) ∧ gE c d 179 [.ref r0, .int x1] h_2 (fun v3 h_3 => ∃ x_3 : Int32, v3 = some (.int x_3) ∧ ((xs0 = 0 → ((x_3 = 0 → w177_87 c d Post K6 r0 x1 0 h_3) ∧ (¬ (x_3 = 0) → ¬ x_3 = 0 ∧ w177_87 c d Post K6 r0 x1 (x2 / x_3) h_3))) ∧ (¬ (xs0 = 0) → w177_87 c d Post K6 r0 x1 (x2 * x_3) h_3)))
theorem ok177_45 (c : gx) (d : Nat) (Post : Option Value → gm_H → Prop) (K6 : Nat → Int32 → Int32 → gm_H → Prop)  (hK6 : ∀ (r0 : Nat) (x1 : Int32) (x2 : Int32) (h : gm_H), K6 r0 x1 x2 h → gV c d 177 (6, [some (.ref r0), some (.int x1), some (.int x2), none, none], [], h) Post) (r0 : Nat) (x1 : Int32) (x2 : Int32) (xs0 : Int32) (h : gm_H) (w : w177_45 c d Post K6 r0 x1 x2 xs0 h) : gV c d 177 (45, [some (.ref r0), some (.int x1), some (.int x2), none, none], [.int xs0], h) Post := by
  have hk : ∀ pc i, gm_find gk_177 pc = some i → gm_code (gt_T c.1 c.2.1 c.2.2.1) 177 pc = some i := fun _ _ z => z
  unfold w177_45 at w
  unfold gV
  refine gw_pst hk 3 (st' := (48, [some (.ref r0), some (.int x1), some (.int x2), some (.int xs0), none], [.ref r0, .ref r0], h)) rfl ?_
  obtain ⟨x_1, e1, w⟩ := w
  refine gw_gf (hk _ _ rfl) e1 ?_
  refine gw_pst hk 2 (st' := (53, [some (.ref r0), some (.int x1), some (.int x2), some (.int xs0), none], [.int (x_1 + 1), .ref r0], h)) rfl ?_
  obtain ⟨fs2, e2, l2, w⟩ := w
  refine gw_pf (hk _ _ rfl) e2 l2 rfl ?_
  obtain ⟨h_2, eh2⟩ : ∃ z, z = gm_put h r0 (.inr (10, fs2.set 17 (.int (x_1 + 1)))) := ⟨_, rfl⟩
  rw [← eh2]
  replace w := w h_2 eh2
  refine gw_pst hk 2 (st' := (58, [some (.ref r0), some (.int x1), some (.int x2), some (.int xs0), none], [.int x1, .ref r0], h_2)) rfl ?_
  obtain ⟨⟨fs3, e3⟩, w⟩ := w
  refine gw_call (jj := 179) (As := [.ref r0, .int x1]) (rest := []) (hk _ _ rfl) (fun _ => rfl) rfl rfl (Nat.le_of_ble_eq_true rfl) (gm_rcv_v rfl e3 rfl) ?_
  refine ge_imp w (fun v3 h_3 w => ?_)
  obtain ⟨x_3, rfl, w⟩ := w
  show gV c d 177 (61, [some (.ref r0), some (.int x1), some (.int x2), some (.int xs0), none], [.int x_3], h_3) Post
  refine gw_pst hk 2 (st' := (64, [some (.ref r0), some (.int x1), some (.int x2), some (.int xs0), some (.int x_3)], [.int xs0], h_3)) rfl ?_
  refine gw_br (c := xs0 = 0) (a := (74, [some (.ref r0), some (.int x1), some (.int x2), some (.int xs0), some (.int x_3)], [], h_3)) (b := (67, [some (.ref r0), some (.int x1), some (.int x2), some (.int xs0), some (.int x_3)], [], h_3)) (hk _ _ rfl) rfl ⟨fun z4 => ?_, fun z4 => ?_⟩
  · replace w := w.1 z4
    refine gw_pst hk 1 (st' := (76, [some (.ref r0), some (.int x1), some (.int x2), some (.int xs0), some (.int x_3)], [.int x_3], h_3)) rfl ?_
    refine gw_br (c := x_3 = 0) (a := (79, [some (.ref r0), some (.int x1), some (.int x2), some (.int xs0), some (.int x_3)], [], h_3)) (b := (83, [some (.ref r0), some (.int x1), some (.int x2), some (.int xs0), some (.int x_3)], [], h_3)) (hk _ _ rfl) rfl ⟨fun z5 => ?_, fun z5 => ?_⟩
    · replace w := w.1 z5
      refine gw_pst hk 2 (st' := (87, [some (.ref r0), some (.int x1), some (.int x2), some (.int xs0), some (.int x_3)], [.int 0], h_3)) rfl ?_
      refine gw_le (L' := [some (.ref r0), some (.int x1), none, none, none]) (gm_le_k _ (gm_le_k _ (gm_le_n _ (gm_le_n _ (gm_le_n _ gm_le_nil))))) ?_
      exact ok177_87 c d Post K6 hK6 _ _ _ _ w
    · replace w := w.2 z5
      refine gw_pst hk 2 (st' := (86, [some (.ref r0), some (.int x1), some (.int x2), some (.int xs0), some (.int x_3)], [.int x_3, .int x2], h_3)) rfl ?_
      obtain ⟨z6, w⟩ := w
      refine gw_idiv (hk _ _ rfl) z6 ?_ rfl
      refine gw_le (L' := [some (.ref r0), some (.int x1), none, none, none]) (gm_le_k _ (gm_le_k _ (gm_le_n _ (gm_le_n _ (gm_le_n _ gm_le_nil))))) ?_
      exact ok177_87 c d Post K6 hK6 _ _ _ _ w
  · replace w := w.2 z4
    refine gw_pst hk 4 (st' := (87, [some (.ref r0), some (.int x1), some (.int x2), some (.int xs0), some (.int x_3)], [.int (x2 * x_3)], h_3)) rfl ?_
    refine gw_le (L' := [some (.ref r0), some (.int x1), none, none, none]) (gm_le_k _ (gm_le_k _ (gm_le_n _ (gm_le_n _ (gm_le_n _ gm_le_nil))))) ?_
    exact ok177_87 c d Post K6 hK6 _ _ _ _ w
def w177_31 (c : gx) (d : Nat) (Post : Option Value → gm_H → Prop) (K6 : Nat → Int32 → Int32 → gm_H → Prop) (r0 : Nat) (x1 : Int32) (x2 : Int32) (h : gm_H) : Prop :=
  (∃ fs1, gm_get h r0 = some (.inr (10, fs1))) ∧ gE c d 164 [.ref r0] h (fun v1 h_1 => ∃ x_1 : Int32, v1 = some (.int x_1) ∧ ((x_1 = 42 → w177_45 c d Post K6 r0 x1 x2 1 h_1) ∧ (¬ (x_1 = 42) → w177_45 c d Post K6 r0 x1 x2 0 h_1)))
theorem ok177_31 (c : gx) (d : Nat) (Post : Option Value → gm_H → Prop) (K6 : Nat → Int32 → Int32 → gm_H → Prop)  (hK6 : ∀ (r0 : Nat) (x1 : Int32) (x2 : Int32) (h : gm_H), K6 r0 x1 x2 h → gV c d 177 (6, [some (.ref r0), some (.int x1), some (.int x2), none, none], [], h) Post) (r0 : Nat) (x1 : Int32) (x2 : Int32) (h : gm_H) (w : w177_31 c d Post K6 r0 x1 x2 h) : gV c d 177 (31, [some (.ref r0), some (.int x1), some (.int x2), none, none], [], h) Post := by
  have hk : ∀ pc i, gm_find gk_177 pc = some i → gm_code (gt_T c.1 c.2.1 c.2.2.1) 177 pc = some i := fun _ _ z => z
  unfold w177_31 at w
  unfold gV
  refine gw_pst hk 1 (st' := (32, [some (.ref r0), some (.int x1), some (.int x2), none, none], [.ref r0], h)) rfl ?_
  obtain ⟨⟨fs1, e1⟩, w⟩ := w
  refine gw_call (jj := 164) (As := [.ref r0]) (rest := []) (hk _ _ rfl) (fun _ => rfl) rfl rfl (Nat.le_of_ble_eq_true rfl) (gm_rcv_v rfl e1 rfl) ?_
  refine ge_imp w (fun v1 h_1 w => ?_)
  obtain ⟨x_1, rfl, w⟩ := w
  show gV c d 177 (35, [some (.ref r0), some (.int x1), some (.int x2), none, none], [.int x_1], h_1) Post
  refine gw_pst hk 1 (st' := (37, [some (.ref r0), some (.int x1), some (.int x2), none, none], [.int 42, .int x_1], h_1)) rfl ?_
  refine gw_br (c := x_1 = 42) (a := (40, [some (.ref r0), some (.int x1), some (.int x2), none, none], [], h_1)) (b := (44, [some (.ref r0), some (.int x1), some (.int x2), none, none], [], h_1)) (hk _ _ rfl) rfl ⟨fun z2 => ?_, fun z2 => ?_⟩
  · replace w := w.1 z2
    refine gw_pst hk 2 (st' := (45, [some (.ref r0), some (.int x1), some (.int x2), none, none], [.int 1], h_1)) rfl ?_
    exact ok177_45 c d Post K6 hK6 _ _ _ _ _ w
  · replace w := w.2 z2
    refine gw_pst hk 1 (st' := (45, [some (.ref r0), some (.int x1), some (.int x2), none, none], [.int 0], h_1)) rfl ?_
    exact ok177_45 c d Post K6 hK6 _ _ _ _ _ w
def w177_91 (c : gx) (d : Nat) (Post : Option Value → gm_H → Prop) (x2 : Int32) (h : gm_H) : Prop :=
  Post (some (.int x2)) h
theorem ok177_91 (c : gx) (d : Nat) (Post : Option Value → gm_H → Prop)  (x2 : Int32) (h : gm_H) (w : w177_91 c d Post x2 h) : gV c d 177 (91, [none, none, some (.int x2), none, none], [], h) Post := by
  have hk : ∀ pc i, gm_find gk_177 pc = some i → gm_code (gt_T c.1 c.2.1 c.2.2.1) 177 pc = some i := fun _ _ z => z
  unfold w177_91 at w
  unfold gV
  refine gw_pst hk 1 (st' := (92, [none, none, some (.int x2), none, none], [.int x2], h)) rfl ?_
  exact gw_ret (hk _ _ rfl) rfl w
def wb177_6 (c : gx) (d : Nat) (Post : Option Value → gm_H → Prop) (K6 : Nat → Int32 → Int32 → gm_H → Prop) (r0 : Nat) (x1 : Int32) (x2 : Int32) (h : gm_H) : Prop :=
  (∃ fs1, gm_get h r0 = some (.inr (10, fs1))) ∧ gE c d 165 [.ref r0] h (fun v1 h_1 => ∃ x_1 : Int32, v1 = some (.int x_1) ∧ ((x_1 = 0 → w177_91 c d Post x2 h_1) ∧ (¬ (x_1 = 0) → (∃ fs3, gm_get h_1 r0 = some (.inr (10, fs3))) ∧ gE c d 164 [.ref r0] h_1 (fun v3 h_3 => ∃ x_3 : Int32, v3 = some (.int x_3) ∧ ((x_3 = 42 → w177_31 c d Post K6 r0 x1 x2 h_3) ∧ (¬ (x_3 = 42) → (∃ fs5, gm_get h_3 r0 = some (.inr (10, fs5))) ∧ gE c d 164 [.ref r0] h_3 (fun v5 h_5 => ∃ x_5 : Int32, v5 = some (.int x_5) ∧ ((x_5 = 47 → w177_31 c d Post K6 r0 x1 x2 h_5) ∧ (¬ (x_5 = 47) → w177_91 c d Post x2 h_5)))))))))
theorem okb177_6 (c : gx) (d : Nat) (Post : Option Value → gm_H → Prop) (K6 : Nat → Int32 → Int32 → gm_H → Prop)  (hK6 : ∀ (r0 : Nat) (x1 : Int32) (x2 : Int32) (h : gm_H), K6 r0 x1 x2 h → gV c d 177 (6, [some (.ref r0), some (.int x1), some (.int x2), none, none], [], h) Post) (r0 : Nat) (x1 : Int32) (x2 : Int32) (h : gm_H) (w : wb177_6 c d Post K6 r0 x1 x2 h) : gV c d 177 (6, [some (.ref r0), some (.int x1), some (.int x2), none, none], [], h) Post := by
  have hk : ∀ pc i, gm_find gk_177 pc = some i → gm_code (gt_T c.1 c.2.1 c.2.2.1) 177 pc = some i := fun _ _ z => z
  unfold wb177_6 at w
  unfold gV
  refine gw_pst hk 1 (st' := (7, [some (.ref r0), some (.int x1), some (.int x2), none, none], [.ref r0], h)) rfl ?_
  obtain ⟨⟨fs1, e1⟩, w⟩ := w
  refine gw_call (jj := 165) (As := [.ref r0]) (rest := []) (hk _ _ rfl) (fun _ => rfl) rfl rfl (Nat.le_of_ble_eq_true rfl) (gm_rcv_v rfl e1 rfl) ?_
  refine ge_imp w (fun v1 h_1 w => ?_)
  obtain ⟨x_1, rfl, w⟩ := w
  show gV c d 177 (10, [some (.ref r0), some (.int x1), some (.int x2), none, none], [.int x_1], h_1) Post
  refine gw_br (c := x_1 = 0) (a := (91, [some (.ref r0), some (.int x1), some (.int x2), none, none], [], h_1)) (b := (13, [some (.ref r0), some (.int x1), some (.int x2), none, none], [], h_1)) (hk _ _ rfl) rfl ⟨fun z2 => ?_, fun z2 => ?_⟩
  · replace w := w.1 z2
    refine gw_le (L' := [none, none, some (.int x2), none, none]) (gm_le_n _ (gm_le_n _ (gm_le_k _ (gm_le_k _ (gm_le_k _ gm_le_nil))))) ?_
    exact ok177_91 c d Post _ _ w
  · replace w := w.2 z2
    refine gw_pst hk 1 (st' := (14, [some (.ref r0), some (.int x1), some (.int x2), none, none], [.ref r0], h_1)) rfl ?_
    obtain ⟨⟨fs3, e3⟩, w⟩ := w
    refine gw_call (jj := 164) (As := [.ref r0]) (rest := []) (hk _ _ rfl) (fun _ => rfl) rfl rfl (Nat.le_of_ble_eq_true rfl) (gm_rcv_v rfl e3 rfl) ?_
    refine ge_imp w (fun v3 h_3 w => ?_)
    obtain ⟨x_3, rfl, w⟩ := w
    show gV c d 177 (17, [some (.ref r0), some (.int x1), some (.int x2), none, none], [.int x_3], h_3) Post
    refine gw_pst hk 1 (st' := (19, [some (.ref r0), some (.int x1), some (.int x2), none, none], [.int 42, .int x_3], h_3)) rfl ?_
    refine gw_br (c := x_3 = 42) (a := (31, [some (.ref r0), some (.int x1), some (.int x2), none, none], [], h_3)) (b := (22, [some (.ref r0), some (.int x1), some (.int x2), none, none], [], h_3)) (hk _ _ rfl) rfl ⟨fun z4 => ?_, fun z4 => ?_⟩
    · replace w := w.1 z4
      exact ok177_31 c d Post K6 hK6 _ _ _ _ w
    · replace w := w.2 z4
      refine gw_pst hk 1 (st' := (23, [some (.ref r0), some (.int x1), some (.int x2), none, none], [.ref r0], h_3)) rfl ?_
      obtain ⟨⟨fs5, e5⟩, w⟩ := w
      refine gw_call (jj := 164) (As := [.ref r0]) (rest := []) (hk _ _ rfl) (fun _ => rfl) rfl rfl (Nat.le_of_ble_eq_true rfl) (gm_rcv_v rfl e5 rfl) ?_
      refine ge_imp w (fun v5 h_5 w => ?_)
      obtain ⟨x_5, rfl, w⟩ := w
      show gV c d 177 (26, [some (.ref r0), some (.int x1), some (.int x2), none, none], [.int x_5], h_5) Post
      refine gw_pst hk 1 (st' := (28, [some (.ref r0), some (.int x1), some (.int x2), none, none], [.int 47, .int x_5], h_5)) rfl ?_
      refine gw_br (c := x_5 = 47) (a := (31, [some (.ref r0), some (.int x1), some (.int x2), none, none], [], h_5)) (b := (91, [some (.ref r0), some (.int x1), some (.int x2), none, none], [], h_5)) (hk _ _ rfl) rfl ⟨fun z6 => ?_, fun z6 => ?_⟩
      · replace w := w.1 z6
        exact ok177_31 c d Post K6 hK6 _ _ _ _ w
      · replace w := w.2 z6
        refine gw_le (L' := [none, none, some (.int x2), none, none]) (gm_le_n _ (gm_le_n _ (gm_le_k _ (gm_le_k _ (gm_le_k _ gm_le_nil))))) ?_
        exact ok177_91 c d Post _ _ w
def wl177_6 (c : gx) (d : Nat) (Post : Option Value → gm_H → Prop) : Nat → Nat → Int32 → Int32 → gm_H → Prop
  | 0 => fun _ _ _ _ => False
  | n + 1 => wb177_6 c d Post (wl177_6 c d Post n)
theorem okl177_6 (c : gx) (d : Nat) (Post : Option Value → gm_H → Prop) : ∀ (n : Nat) (r0 : Nat) (x1 : Int32) (x2 : Int32) (h : gm_H), wl177_6 c d Post n r0 x1 x2 h → gV c d 177 (6, [some (.ref r0), some (.int x1), some (.int x2), none, none], [], h) Post
  | 0, _, _, _, _, w => w.elim
  | n + 1, r0, x1, x2, h, w => okb177_6 c d Post (wl177_6 c d Post n) (okl177_6 c d Post n) r0 x1 x2 h w
/-- CommandByTurnsModel.product(I)I -/
def wm177 (c : gx) (d : Nat) (Post : Option Value → gm_H → Prop) (r0 : Nat) (x1 : Int32) (h : gm_H) : Prop :=
  (∃ fs1, gm_get h r0 = some (.inr (10, fs1))) ∧ gE c d 179 [.ref r0, .int x1] h (fun v1 h_1 => ∃ x_1 : Int32, v1 = some (.int x_1) ∧ ∃ n, wl177_6 c d Post n r0 x1 x_1 h_1)
theorem okm177 (c : gx) (d : Nat) (Post : Option Value → gm_H → Prop) (r0 : Nat) (x1 : Int32) (h : gm_H) (w : wm177 c d Post r0 x1 h) : gE c (d + 1) 177 [.ref r0, .int x1] h Post := by
  have hk : ∀ pc i, gm_find gk_177 pc = some i → gm_code (gt_T c.1 c.2.1 c.2.2.1) 177 pc = some i := fun _ _ z => z
  unfold wm177 at w
  refine ge_of (by decide) (Nat.le_of_ble_eq_true rfl) ?_
  show gV c d 177 (0, [some (.ref r0), some (.int x1), none, none, none], [], h) Post
  unfold gV
  refine gw_pst hk 2 (st' := (2, [some (.ref r0), some (.int x1), none, none, none], [.int x1, .ref r0], h)) rfl ?_
  obtain ⟨⟨fs1, e1⟩, w⟩ := w
  refine gw_call (jj := 179) (As := [.ref r0, .int x1]) (rest := []) (hk _ _ rfl) (fun _ => rfl) rfl rfl (Nat.le_of_ble_eq_true rfl) (gm_rcv_v rfl e1 rfl) ?_
  refine ge_imp w (fun v1 h_1 w => ?_)
  obtain ⟨x_1, rfl, w⟩ := w
  show gV c d 177 (5, [some (.ref r0), some (.int x1), none, none, none], [.int x_1], h_1) Post
  refine gw_pst hk 1 (st' := (6, [some (.ref r0), some (.int x1), some (.int x_1), none, none], [], h_1)) rfl ?_
  obtain ⟨n, w⟩ := w
  exact okl177_6 c d Post n _ _ _ _ w
def w178_83 (c : gx) (d : Nat) (Post : Option Value → gm_H → Prop) (xs0 : Int32) (h : gm_H) : Prop :=
  Post (some (.int xs0)) h
theorem ok178_83 (c : gx) (d : Nat) (Post : Option Value → gm_H → Prop)  (xs0 : Int32) (h : gm_H) (w : w178_83 c d Post xs0 h) : gV c d 178 (83, [none], [.int xs0], h) Post := by
  have hk : ∀ pc i, gm_find gk_178 pc = some i → gm_code (gt_T c.1 c.2.1 c.2.2.1) 178 pc = some i := fun _ _ z => z
  unfold w178_83 at w
  unfold gV
  exact gw_ret (hk _ _ rfl) rfl w
/-- CommandByTurnsModel.letterOf(I)I -/
def wm178 (c : gx) (d : Nat) (Post : Option Value → gm_H → Prop) (x0 : Int32) (h : gm_H) : Prop :=
  ((x0 = 98 → w178_83 c d Post 0 h) ∧ (¬ (x0 = 98) → ((x0 = 108 → w178_83 c d Post 1 h) ∧ (¬ (x0 = 108) → ((x0 = 104 → w178_83 c d Post 2 h) ∧ (¬ (x0 = 104) → ((x0 = 109 → w178_83 c d Post 3 h) ∧ (¬ (x0 = 109) → ((x0 = 101 → w178_83 c d Post 4 h) ∧ (¬ (x0 = 101) → ((x0 = 102 → w178_83 c d Post 5 h) ∧ (¬ (x0 = 102) → ((x0 = 100 → w178_83 c d Post 6 h) ∧ (¬ (x0 = 100) → ((x0 = 119 → w178_83 c d Post 7 h) ∧ (¬ (x0 = 119) → w178_83 c d Post (-1) h))))))))))))))))
theorem okm178 (c : gx) (d : Nat) (Post : Option Value → gm_H → Prop) (x0 : Int32) (h : gm_H) (w : wm178 c d Post x0 h) : gE c (d + 1) 178 [.int x0] h Post := by
  have hk : ∀ pc i, gm_find gk_178 pc = some i → gm_code (gt_T c.1 c.2.1 c.2.2.1) 178 pc = some i := fun _ _ z => z
  unfold wm178 at w
  refine ge_of (by decide) (Nat.le_of_ble_eq_true rfl) ?_
  show gV c d 178 (0, [some (.int x0)], [], h) Post
  unfold gV
  refine gw_pst hk 2 (st' := (3, [some (.int x0)], [.int 98, .int x0], h)) rfl ?_
  refine gw_br (c := x0 = 98) (a := (6, [some (.int x0)], [], h)) (b := (10, [some (.int x0)], [], h)) (hk _ _ rfl) rfl ⟨fun z1 => ?_, fun z1 => ?_⟩
  · replace w := w.1 z1
    refine gw_pst hk 2 (st' := (83, [some (.int x0)], [.int 0], h)) rfl ?_
    refine gw_le (L' := [none]) (gm_le_n _ gm_le_nil) ?_
    exact ok178_83 c d Post _ _ w
  · replace w := w.2 z1
    refine gw_pst hk 2 (st' := (13, [some (.int x0)], [.int 108, .int x0], h)) rfl ?_
    refine gw_br (c := x0 = 108) (a := (16, [some (.int x0)], [], h)) (b := (20, [some (.int x0)], [], h)) (hk _ _ rfl) rfl ⟨fun z2 => ?_, fun z2 => ?_⟩
    · replace w := w.1 z2
      refine gw_pst hk 2 (st' := (83, [some (.int x0)], [.int 1], h)) rfl ?_
      refine gw_le (L' := [none]) (gm_le_n _ gm_le_nil) ?_
      exact ok178_83 c d Post _ _ w
    · replace w := w.2 z2
      refine gw_pst hk 2 (st' := (23, [some (.int x0)], [.int 104, .int x0], h)) rfl ?_
      refine gw_br (c := x0 = 104) (a := (26, [some (.int x0)], [], h)) (b := (30, [some (.int x0)], [], h)) (hk _ _ rfl) rfl ⟨fun z3 => ?_, fun z3 => ?_⟩
      · replace w := w.1 z3
        refine gw_pst hk 2 (st' := (83, [some (.int x0)], [.int 2], h)) rfl ?_
        refine gw_le (L' := [none]) (gm_le_n _ gm_le_nil) ?_
        exact ok178_83 c d Post _ _ w
      · replace w := w.2 z3
        refine gw_pst hk 2 (st' := (33, [some (.int x0)], [.int 109, .int x0], h)) rfl ?_
        refine gw_br (c := x0 = 109) (a := (36, [some (.int x0)], [], h)) (b := (40, [some (.int x0)], [], h)) (hk _ _ rfl) rfl ⟨fun z4 => ?_, fun z4 => ?_⟩
        · replace w := w.1 z4
          refine gw_pst hk 2 (st' := (83, [some (.int x0)], [.int 3], h)) rfl ?_
          refine gw_le (L' := [none]) (gm_le_n _ gm_le_nil) ?_
          exact ok178_83 c d Post _ _ w
        · replace w := w.2 z4
          refine gw_pst hk 2 (st' := (43, [some (.int x0)], [.int 101, .int x0], h)) rfl ?_
          refine gw_br (c := x0 = 101) (a := (46, [some (.int x0)], [], h)) (b := (50, [some (.int x0)], [], h)) (hk _ _ rfl) rfl ⟨fun z5 => ?_, fun z5 => ?_⟩
          · replace w := w.1 z5
            refine gw_pst hk 2 (st' := (83, [some (.int x0)], [.int 4], h)) rfl ?_
            refine gw_le (L' := [none]) (gm_le_n _ gm_le_nil) ?_
            exact ok178_83 c d Post _ _ w
          · replace w := w.2 z5
            refine gw_pst hk 2 (st' := (53, [some (.int x0)], [.int 102, .int x0], h)) rfl ?_
            refine gw_br (c := x0 = 102) (a := (56, [some (.int x0)], [], h)) (b := (60, [some (.int x0)], [], h)) (hk _ _ rfl) rfl ⟨fun z6 => ?_, fun z6 => ?_⟩
            · replace w := w.1 z6
              refine gw_pst hk 2 (st' := (83, [some (.int x0)], [.int 5], h)) rfl ?_
              refine gw_le (L' := [none]) (gm_le_n _ gm_le_nil) ?_
              exact ok178_83 c d Post _ _ w
            · replace w := w.2 z6
              refine gw_pst hk 2 (st' := (63, [some (.int x0)], [.int 100, .int x0], h)) rfl ?_
              refine gw_br (c := x0 = 100) (a := (66, [some (.int x0)], [], h)) (b := (71, [some (.int x0)], [], h)) (hk _ _ rfl) rfl ⟨fun z7 => ?_, fun z7 => ?_⟩
              · replace w := w.1 z7
                refine gw_pst hk 2 (st' := (83, [some (.int x0)], [.int 6], h)) rfl ?_
                refine gw_le (L' := [none]) (gm_le_n _ gm_le_nil) ?_
                exact ok178_83 c d Post _ _ w
              · replace w := w.2 z7
                refine gw_pst hk 2 (st' := (74, [some (.int x0)], [.int 119, .int x0], h)) rfl ?_
                refine gw_br (c := x0 = 119) (a := (77, [some (.int x0)], [], h)) (b := (82, [some (.int x0)], [], h)) (hk _ _ rfl) rfl ⟨fun z8 => ?_, fun z8 => ?_⟩
                · replace w := w.1 z8
                  refine gw_pst hk 2 (st' := (83, [some (.int x0)], [.int 7], h)) rfl ?_
                  refine gw_le (L' := [none]) (gm_le_n _ gm_le_nil) ?_
                  exact ok178_83 c d Post _ _ w
                · replace w := w.2 z8
                  refine gw_pst hk 1 (st' := (83, [some (.int x0)], [.int (-1)], h)) rfl ?_
                  refine gw_le (L' := [none]) (gm_le_n _ gm_le_nil) ?_
                  exact ok178_83 c d Post _ _ w
def w179_132 (c : gx) (d : Nat) (Post : Option Value → gm_H → Prop) (xs0 : Int32) (h : gm_H) : Prop :=
  Post (some (.int xs0)) h
theorem ok179_132 (c : gx) (d : Nat) (Post : Option Value → gm_H → Prop)  (xs0 : Int32) (h : gm_H) (w : w179_132 c d Post xs0 h) : gV c d 179 (132, [none, none, none, none], [.int xs0], h) Post := by
  have hk : ∀ pc i, gm_find gk_179 pc = some i → gm_code (gt_T c.1 c.2.1 c.2.2.1) 179 pc = some i := fun _ _ z => z
  unfold w179_132 at w
  unfold gV
  exact gw_ret (hk _ _ rfl) rfl w
def w179_67 (c : gx) (d : Nat) (Post : Option Value → gm_H → Prop) (r0 : Nat) (x2 : Int32) (h : gm_H) : Prop :=
  gE c d 154 [.int x2, .int 48, .int 57] h (fun v1 h_1 => ∃ x_1 : Int32, v1 = some (.int x_1) ∧ ((x_1 = 0 → gE c d 178 [.int x2] h_1 (fun v3 h_3 => ∃ x_3 : Int32, v3 = some (.int x_3) ∧ ((x_3 = (-1) → ∃ x_5 : Int32, gm_fld h_3 r0 10 17 = some (.int x_5) ∧ (∃ fs6, gm_get h_3 r0 = some (.inr (10, fs6))) ∧ gE c d 166 [.ref r0, .int x_5] h_3 (fun v6 h_6 => v6 = none ∧ Post (some (.int 0)) h_6)) ∧ (¬ (x_3 = (-1)) → ∃ x_7 : Int32, gm_fld h_3 r0 10 17 = some (.int x_7) ∧ ∃ fs8 : List Value, gm_get h_3 r0 = some (.inr (10, fs8)) ∧ 17 < fs8.length ∧ ∀ h_8 : gm_H, h_8 = gm_put h_3 r0 (.inr (10, fs8.set 17 (.int (x_7 + 1)))) → ∃ x_9 : Int32, gm_fld h_8 r0 10 23 = some (.int x_9) ∧ ((x_9 = 0 → w179_132 c d Post 0 h_8) ∧ (¬ (x_9 = 0) → ∃ q_11 : Nat, gm_fld h_8 r0 10 24 = some (.ref q_11) ∧ gE c d 178 [.int x2] h_8 (fun v12 h_12 => ∃ x_12 : Int32, v12 = some (.int x_12) ∧ ∃ (n13 : Nat) (f13 : Nat → Int32), gm_get h_12 q_11 = some (.inl (0, n13, .inl f13)) ∧ vp_in x_12 n13 ∧ w179_132 c d Post (f13 (x_12 : Int32).toNatClampNeg) h_12))))))) ∧ (¬ (x_1 = 0) → (∃ fs14, gm_get h_1 r0 = some (.inr (10, fs14))) ∧ gE c d 170 [.ref r0, .int 3] h_1 (fun v14 h_14 => ∃ x_14 : Int32, v14 = some (.int x_14) ∧ Post (some (.int x_14)) h_14))))
theorem ok179_67 (c : gx) (d : Nat) (Post : Option Value → gm_H → Prop)  (r0 : Nat) (x2 : Int32) (h : gm_H) (w : w179_67 c d Post r0 x2 h) : gV c d 179 (67, [some (.ref r0), none, some (.int x2), none], [], h) Post := by
  have hk : ∀ pc i, gm_find gk_179 pc = some i → gm_code (gt_T c.1 c.2.1 c.2.2.1) 179 pc = some i := fun _ _ z => z
  unfold w179_67 at w
  unfold gV
  refine gw_pst hk 3 (st' := (72, [some (.ref r0), none, some (.int x2), none], [.int 57, .int 48, .int x2], h)) rfl ?_
  refine gw_call (jj := 154) (As := [.int x2, .int 48, .int 57]) (rest := []) (hk _ _ rfl) (fun _ => rfl) rfl rfl (Nat.le_of_ble_eq_true rfl) rfl ?_
  refine ge_imp w (fun v1 h_1 w => ?_)
  obtain ⟨x_1, rfl, w⟩ := w
  show gV c d 179 (75, [some (.ref r0), none, some (.int x2), none], [.int x_1], h_1) Post
  refine gw_br (c := x_1 = 0) (a := (84, [some (.ref r0), none, some (.int x2), none], [], h_1)) (b := (78, [some (.ref r0), none, some (.int x2), none], [], h_1)) (hk _ _ rfl) rfl ⟨fun z2 => ?_, fun z2 => ?_⟩
  · replace w := w.1 z2
    refine gw_pst hk 1 (st' := (85, [some (.ref r0), none, some (.int x2), none], [.int x2], h_1)) rfl ?_
    refine gw_call (jj := 178) (As := [.int x2]) (rest := []) (hk _ _ rfl) (fun _ => rfl) rfl rfl (Nat.le_of_ble_eq_true rfl) rfl ?_
    refine ge_imp w (fun v3 h_3 w => ?_)
    obtain ⟨x_3, rfl, w⟩ := w
    show gV c d 179 (88, [some (.ref r0), none, some (.int x2), none], [.int x_3], h_3) Post
    refine gw_pst hk 1 (st' := (89, [some (.ref r0), none, some (.int x2), none], [.int (-1), .int x_3], h_3)) rfl ?_
    refine gw_br (c := x_3 = (-1)) (a := (92, [some (.ref r0), none, some (.int x2), none], [], h_3)) (b := (102, [some (.ref r0), none, some (.int x2), none], [], h_3)) (hk _ _ rfl) rfl ⟨fun z4 => ?_, fun z4 => ?_⟩
    · replace w := w.1 z4
      refine gw_pst hk 2 (st' := (94, [some (.ref r0), none, some (.int x2), none], [.ref r0, .ref r0], h_3)) rfl ?_
      obtain ⟨x_5, e5, w⟩ := w
      refine gw_gf (hk _ _ rfl) e5 ?_
      obtain ⟨⟨fs6, e6⟩, w⟩ := w
      refine gw_call (jj := 166) (As := [.ref r0, .int x_5]) (rest := []) (hk _ _ rfl) (fun _ => rfl) rfl rfl (Nat.le_of_ble_eq_true rfl) (gm_rcv_v rfl e6 rfl) ?_
      refine ge_imp w (fun v6 h_6 w => ?_)
      obtain ⟨rfl, w⟩ := w
      show gV c d 179 (100, [some (.ref r0), none, some (.int x2), none], [], h_6) Post
      refine gw_pst hk 1 (st' := (101, [some (.ref r0), none, some (.int x2), none], [.int 0], h_6)) rfl ?_
      exact gw_ret (hk _ _ rfl) rfl w
    · replace w := w.2 z4
      refine gw_pst hk 2 (st' := (104, [some (.ref r0), none, some (.int x2), none], [.ref r0, .ref r0], h_3)) rfl ?_
      obtain ⟨x_7, e7, w⟩ := w
      refine gw_gf (hk _ _ rfl) e7 ?_
      refine gw_pst hk 2 (st' := (109, [some (.ref r0), none, some (.int x2), none], [.int (x_7 + 1), .ref r0], h_3)) rfl ?_
      obtain ⟨fs8, e8, l8, w⟩ := w
      refine gw_pf (hk _ _ rfl) e8 l8 rfl ?_
      obtain ⟨h_8, eh8⟩ : ∃ z, z = gm_put h_3 r0 (.inr (10, fs8.set 17 (.int (x_7 + 1)))) := ⟨_, rfl⟩
      rw [← eh8]
      replace w := w h_8 eh8
      refine gw_pst hk 1 (st' := (113, [some (.ref r0), none, some (.int x2), none], [.ref r0], h_8)) rfl ?_
      obtain ⟨x_9, e9, w⟩ := w
      refine gw_gf (hk _ _ rfl) e9 ?_
      refine gw_br (c := x_9 = 0) (a := (131, [some (.ref r0), none, some (.int x2), none], [], h_8)) (b := (119, [some (.ref r0), none, some (.int x2), none], [], h_8)) (hk _ _ rfl) rfl ⟨fun z10 => ?_, fun z10 => ?_⟩
      · replace w := w.1 z10
        refine gw_pst hk 1 (st' := (132, [some (.ref r0), none, some (.int x2), none], [.int 0], h_8)) rfl ?_
        refine gw_le (L' := [none, none, none, none]) (gm_le_n _ (gm_le_k _ (gm_le_n _ (gm_le_k _ gm_le_nil)))) ?_
        exact ok179_132 c d Post _ _ w
      · replace w := w.2 z10
        refine gw_pst hk 1 (st' := (120, [some (.ref r0), none, some (.int x2), none], [.ref r0], h_8)) rfl ?_
        obtain ⟨q_11, e11, w⟩ := w
        refine gw_gf (hk _ _ rfl) e11 ?_
        refine gw_pst hk 1 (st' := (124, [some (.ref r0), none, some (.int x2), none], [.int x2, .ref q_11], h_8)) rfl ?_
        refine gw_call (jj := 178) (As := [.int x2]) (rest := [.ref q_11]) (hk _ _ rfl) (fun _ => rfl) rfl rfl (Nat.le_of_ble_eq_true rfl) rfl ?_
        refine ge_imp w (fun v12 h_12 w => ?_)
        obtain ⟨x_12, rfl, w⟩ := w
        show gV c d 179 (127, [some (.ref r0), none, some (.int x2), none], [.int x_12, .ref q_11], h_12) Post
        obtain ⟨n13, f13, e13, b13, w⟩ := w
        refine gw_ald (hk _ _ rfl) (Or.inl ⟨rfl, rfl⟩) e13 b13 ?_
        refine gw_pst hk 1 (st' := (132, [some (.ref r0), none, some (.int x2), none], [.int (f13 (x_12 : Int32).toNatClampNeg)], h_12)) rfl ?_
        refine gw_le (L' := [none, none, none, none]) (gm_le_n _ (gm_le_k _ (gm_le_n _ (gm_le_k _ gm_le_nil)))) ?_
        exact ok179_132 c d Post _ _ w
  · replace w := w.2 z2
    refine gw_pst hk 2 (st' := (80, [some (.ref r0), none, some (.int x2), none], [.int 3, .ref r0], h_1)) rfl ?_
    obtain ⟨⟨fs14, e14⟩, w⟩ := w
    refine gw_call (jj := 170) (As := [.ref r0, .int 3]) (rest := []) (hk _ _ rfl) (fun _ => rfl) rfl rfl (Nat.le_of_ble_eq_true rfl) (gm_rcv_v rfl e14 rfl) ?_
    refine ge_imp w (fun v14 h_14 w => ?_)
    obtain ⟨x_14, rfl, w⟩ := w
    show gV c d 179 (83, [some (.ref r0), none, some (.int x2), none], [.int x_14], h_14) Post
    exact gw_ret (hk _ _ rfl) rfl w
/-- CommandByTurnsModel.thing(I)I -/
def wm179 (c : gx) (d : Nat) (Post : Option Value → gm_H → Prop) (r0 : Nat) (x1 : Int32) (h : gm_H) : Prop :=
  (∃ fs1, gm_get h r0 = some (.inr (10, fs1))) ∧ gE c d 167 [.ref r0, .int 45] h (fun v1 h_1 => ∃ x_1 : Int32, v1 = some (.int x_1) ∧ ((x_1 = 0 → (∃ fs3, gm_get h_1 r0 = some (.inr (10, fs3))) ∧ gE c d 165 [.ref r0] h_1 (fun v3 h_3 => ∃ x_3 : Int32, v3 = some (.int x_3) ∧ ((x_3 = 0 → Post (some (.int 0)) h_3) ∧ (¬ (x_3 = 0) → (∃ fs5, gm_get h_3 r0 = some (.inr (10, fs5))) ∧ gE c d 164 [.ref r0] h_3 (fun v5 h_5 => ∃ x_5 : Int32, v5 = some (.int x_5) ∧ ((x_5 = 40 → ((4 ≤ x1 → w179_67 c d Post r0 x_5 h_5) ∧ (¬ (4 ≤ x1) → ∃ x_8 : Int32, gm_fld h_5 r0 10 17 = some (.int x_8) ∧ ∃ fs9 : List Value, gm_get h_5 r0 = some (.inr (10, fs9)) ∧ 17 < fs9.length ∧ ∀ h_9 : gm_H, h_9 = gm_put h_5 r0 (.inr (10, fs9.set 17 (.int (x_8 + 1)))) → (∃ fs10, gm_get h_9 r0 = some (.inr (10, fs10))) ∧ gE c d 175 [.ref r0, .int (x1 + 1)] h_9 (fun v10 h_10 => ∃ x_10 : Int32, v10 = some (.int x_10) ∧ (∃ fs11, gm_get h_10 r0 = some (.inr (10, fs11))) ∧ gE c d 168 [.ref r0, .int 41] h_10 (fun v11 h_11 => v11 = none ∧ Post (some (.int x_10)) h_11))))) ∧ (¬ (x_5 = 40) → w179_67 c d Post r0 x_5 h_5))))))) ∧ (¬ (x_1 = 0) → (∃ fs12, gm_get h_1 r0 = some (.inr (10, fs12))) ∧ gE c d 179 [.ref r0, .int x1] h_1 (fun v12 h_12 => ∃ x_12 : Int32, v12 = some (.int x_12) ∧ Post (some (.int (-x_12))) h_12))))
theorem okm179 (c : gx) (d : Nat) (Post : Option Value → gm_H → Prop) (r0 : Nat) (x1 : Int32) (h : gm_H) (w : wm179 c d Post r0 x1 h) : gE c (d + 1) 179 [.ref r0, .int x1] h Post := by
  have hk : ∀ pc i, gm_find gk_179 pc = some i → gm_code (gt_T c.1 c.2.1 c.2.2.1) 179 pc = some i := fun _ _ z => z
  unfold wm179 at w
  refine ge_of (by decide) (Nat.le_of_ble_eq_true rfl) ?_
  show gV c d 179 (0, [some (.ref r0), some (.int x1), none, none], [], h) Post
  unfold gV
  refine gw_pst hk 2 (st' := (3, [some (.ref r0), some (.int x1), none, none], [.int 45, .ref r0], h)) rfl ?_
  obtain ⟨⟨fs1, e1⟩, w⟩ := w
  refine gw_call (jj := 167) (As := [.ref r0, .int 45]) (rest := []) (hk _ _ rfl) (fun _ => rfl) rfl rfl (Nat.le_of_ble_eq_true rfl) (gm_rcv_v rfl e1 rfl) ?_
  refine ge_imp w (fun v1 h_1 w => ?_)
  obtain ⟨x_1, rfl, w⟩ := w
  show gV c d 179 (6, [some (.ref r0), some (.int x1), none, none], [.int x_1], h_1) Post
  refine gw_br (c := x_1 = 0) (a := (16, [some (.ref r0), some (.int x1), none, none], [], h_1)) (b := (9, [some (.ref r0), some (.int x1), none, none], [], h_1)) (hk _ _ rfl) rfl ⟨fun z2 => ?_, fun z2 => ?_⟩
  · replace w := w.1 z2
    refine gw_pst hk 1 (st' := (17, [some (.ref r0), some (.int x1), none, none], [.ref r0], h_1)) rfl ?_
    obtain ⟨⟨fs3, e3⟩, w⟩ := w
    refine gw_call (jj := 165) (As := [.ref r0]) (rest := []) (hk _ _ rfl) (fun _ => rfl) rfl rfl (Nat.le_of_ble_eq_true rfl) (gm_rcv_v rfl e3 rfl) ?_
    refine ge_imp w (fun v3 h_3 w => ?_)
    obtain ⟨x_3, rfl, w⟩ := w
    show gV c d 179 (20, [some (.ref r0), some (.int x1), none, none], [.int x_3], h_3) Post
    refine gw_br (c := x_3 = 0) (a := (23, [some (.ref r0), some (.int x1), none, none], [], h_3)) (b := (25, [some (.ref r0), some (.int x1), none, none], [], h_3)) (hk _ _ rfl) rfl ⟨fun z4 => ?_, fun z4 => ?_⟩
    · replace w := w.1 z4
      refine gw_pst hk 1 (st' := (24, [some (.ref r0), some (.int x1), none, none], [.int 0], h_3)) rfl ?_
      exact gw_ret (hk _ _ rfl) rfl w
    · replace w := w.2 z4
      refine gw_pst hk 1 (st' := (26, [some (.ref r0), some (.int x1), none, none], [.ref r0], h_3)) rfl ?_
      obtain ⟨⟨fs5, e5⟩, w⟩ := w
      refine gw_call (jj := 164) (As := [.ref r0]) (rest := []) (hk _ _ rfl) (fun _ => rfl) rfl rfl (Nat.le_of_ble_eq_true rfl) (gm_rcv_v rfl e5 rfl) ?_
      refine ge_imp w (fun v5 h_5 w => ?_)
      obtain ⟨x_5, rfl, w⟩ := w
      show gV c d 179 (29, [some (.ref r0), some (.int x1), none, none], [.int x_5], h_5) Post
      refine gw_pst hk 3 (st' := (33, [some (.ref r0), some (.int x1), some (.int x_5), none], [.int 40, .int x_5], h_5)) rfl ?_
      refine gw_br (c := x_5 = 40) (a := (36, [some (.ref r0), some (.int x1), some (.int x_5), none], [], h_5)) (b := (67, [some (.ref r0), some (.int x1), some (.int x_5), none], [], h_5)) (hk _ _ rfl) rfl ⟨fun z6 => ?_, fun z6 => ?_⟩
      · replace w := w.1 z6
        refine gw_pst hk 2 (st' := (38, [some (.ref r0), some (.int x1), some (.int x_5), none], [.int 4, .int x1], h_5)) rfl ?_
        refine gw_br (c := 4 ≤ x1) (a := (67, [some (.ref r0), some (.int x1), some (.int x_5), none], [], h_5)) (b := (41, [some (.ref r0), some (.int x1), some (.int x_5), none], [], h_5)) (hk _ _ rfl) rfl ⟨fun z7 => ?_, fun z7 => ?_⟩
        · replace w := w.1 z7
          refine gw_le (L' := [some (.ref r0), none, some (.int x_5), none]) (gm_le_k _ (gm_le_n _ (gm_le_k _ (gm_le_k _ gm_le_nil)))) ?_
          exact ok179_67 c d Post _ _ _ w
        · replace w := w.2 z7
          refine gw_pst hk 2 (st' := (43, [some (.ref r0), some (.int x1), some (.int x_5), none], [.ref r0, .ref r0], h_5)) rfl ?_
          obtain ⟨x_8, e8, w⟩ := w
          refine gw_gf (hk _ _ rfl) e8 ?_
          refine gw_pst hk 2 (st' := (48, [some (.ref r0), some (.int x1), some (.int x_5), none], [.int (x_8 + 1), .ref r0], h_5)) rfl ?_
          obtain ⟨fs9, e9, l9, w⟩ := w
          refine gw_pf (hk _ _ rfl) e9 l9 rfl ?_
          obtain ⟨h_9, eh9⟩ : ∃ z, z = gm_put h_5 r0 (.inr (10, fs9.set 17 (.int (x_8 + 1)))) := ⟨_, rfl⟩
          rw [← eh9]
          replace w := w h_9 eh9
          refine gw_pst hk 4 (st' := (55, [some (.ref r0), some (.int x1), some (.int x_5), none], [.int (x1 + 1), .ref r0], h_9)) rfl ?_
          obtain ⟨⟨fs10, e10⟩, w⟩ := w
          refine gw_call (jj := 175) (As := [.ref r0, .int (x1 + 1)]) (rest := []) (hk _ _ rfl) (fun _ => rfl) rfl rfl (Nat.le_of_ble_eq_true rfl) (gm_rcv_v rfl e10 rfl) ?_
          refine ge_imp w (fun v10 h_10 w => ?_)
          obtain ⟨x_10, rfl, w⟩ := w
          show gV c d 179 (58, [some (.ref r0), some (.int x1), some (.int x_5), none], [.int x_10], h_10) Post
          refine gw_pst hk 3 (st' := (62, [some (.ref r0), some (.int x1), some (.int x_5), some (.int x_10)], [.int 41, .ref r0], h_10)) rfl ?_
          obtain ⟨⟨fs11, e11⟩, w⟩ := w
          refine gw_call (jj := 168) (As := [.ref r0, .int 41]) (rest := []) (hk _ _ rfl) (fun _ => rfl) rfl rfl (Nat.le_of_ble_eq_true rfl) (gm_rcv_v rfl e11 rfl) ?_
          refine ge_imp w (fun v11 h_11 w => ?_)
          obtain ⟨rfl, w⟩ := w
          show gV c d 179 (65, [some (.ref r0), some (.int x1), some (.int x_5), some (.int x_10)], [], h_11) Post
          refine gw_pst hk 1 (st' := (66, [some (.ref r0), some (.int x1), some (.int x_5), some (.int x_10)], [.int x_10], h_11)) rfl ?_
          exact gw_ret (hk _ _ rfl) rfl w
      · replace w := w.2 z6
        refine gw_le (L' := [some (.ref r0), none, some (.int x_5), none]) (gm_le_k _ (gm_le_n _ (gm_le_k _ (gm_le_k _ gm_le_nil)))) ?_
        exact ok179_67 c d Post _ _ _ w
  · replace w := w.2 z2
    refine gw_pst hk 2 (st' := (11, [some (.ref r0), some (.int x1), none, none], [.int x1, .ref r0], h_1)) rfl ?_
    obtain ⟨⟨fs12, e12⟩, w⟩ := w
    refine gw_call (jj := 179) (As := [.ref r0, .int x1]) (rest := []) (hk _ _ rfl) (fun _ => rfl) rfl rfl (Nat.le_of_ble_eq_true rfl) (gm_rcv_v rfl e12 rfl) ?_
    refine ge_imp w (fun v12 h_12 w => ?_)
    obtain ⟨x_12, rfl, w⟩ := w
    show gV c d 179 (14, [some (.ref r0), some (.int x1), none, none], [.int x_12], h_12) Post
    refine gw_pst hk 1 (st' := (15, [some (.ref r0), some (.int x1), none, none], [.int (-x_12)], h_12)) rfl ?_
    exact gw_ret (hk _ _ rfl) rfl w
