/-! What must hold for a run to end with Post: by program (wip/whole/gen_wp.py). -/
/-- CommandByTurns$Standing.copy(LCommandByTurns$Standing;)V -/
def wm48 (c : gx) (d : Nat) (Post : Option Value → gm_H → Prop) (r0 : Nat) (r1 : Nat) (h : gm_H) : Prop :=
  ∃ x_1 : Int32, gm_fld h r1 6 0 = some (.int x_1) ∧ ∃ fs2 : List Value, gm_get h r0 = some (.inr (6, fs2)) ∧ 0 < fs2.length ∧ ∀ h_2 : gm_H, h_2 = gm_put h r0 (.inr (6, fs2.set 0 (.int x_1))) → ∃ x_3 : Int32, gm_fld h_2 r1 6 1 = some (.int x_3) ∧ ∃ fs4 : List Value, gm_get h_2 r0 = some (.inr (6, fs4)) ∧ 1 < fs4.length ∧ ∀ h_4 : gm_H, h_4 = gm_put h_2 r0 (.inr (6, fs4.set 1 (.int x_3))) → ∃ x_5 : Int32, gm_fld h_4 r1 6 2 = some (.int x_5) ∧ ∃ fs6 : List Value, gm_get h_4 r0 = some (.inr (6, fs6)) ∧ 2 < fs6.length ∧ ∀ h_6 : gm_H, h_6 = gm_put h_4 r0 (.inr (6, fs6.set 2 (.int x_5))) → ∃ x_7 : Int32, gm_fld h_6 r1 6 3 = some (.int x_7) ∧ ∃ fs8 : List Value, gm_get h_6 r0 = some (.inr (6, fs8)) ∧ 3 < fs8.length ∧ ∀ h_8 : gm_H, h_8 = gm_put h_6 r0 (.inr (6, fs8.set 3 (.int x_7))) → ∃ x_9 : Int32, gm_fld h_8 r1 6 4 = some (.int x_9) ∧ ∃ fs10 : List Value, gm_get h_8 r0 = some (.inr (6, fs10)) ∧ 4 < fs10.length ∧ ∀ h_10 : gm_H, h_10 = gm_put h_8 r0 (.inr (6, fs10.set 4 (.int x_9))) → ∃ x_11 : Int32, gm_fld h_10 r1 6 5 = some (.int x_11) ∧ ∃ fs12 : List Value, gm_get h_10 r0 = some (.inr (6, fs12)) ∧ 5 < fs12.length ∧ ∀ h_12 : gm_H, h_12 = gm_put h_10 r0 (.inr (6, fs12.set 5 (.int x_11))) → ∃ y_13 : Int64, gm_fld h_12 r1 6 6 = some (.long y_13) ∧ ∃ fs14 : List Value, gm_get h_12 r0 = some (.inr (6, fs14)) ∧ 6 < fs14.length ∧ ∀ h_14 : gm_H, h_14 = gm_put h_12 r0 (.inr (6, fs14.set 6 (.long y_13))) → ∃ y_15 : Int64, gm_fld h_14 r1 6 7 = some (.long y_15) ∧ ∃ fs16 : List Value, gm_get h_14 r0 = some (.inr (6, fs16)) ∧ 7 < fs16.length ∧ ∀ h_16 : gm_H, h_16 = gm_put h_14 r0 (.inr (6, fs16.set 7 (.long y_15))) → ∃ x_17 : Int32, gm_fld h_16 r1 6 8 = some (.int x_17) ∧ ∃ fs18 : List Value, gm_get h_16 r0 = some (.inr (6, fs18)) ∧ 8 < fs18.length ∧ ∀ h_18 : gm_H, h_18 = gm_put h_16 r0 (.inr (6, fs18.set 8 (.int x_17))) → ∃ x_19 : Int32, gm_fld h_18 r1 6 9 = some (.int x_19) ∧ ∃ fs20 : List Value, gm_get h_18 r0 = some (.inr (6, fs20)) ∧ 9 < fs20.length ∧ ∀ h_20 : gm_H, h_20 = gm_put h_18 r0 (.inr (6, fs20.set 9 (.int x_19))) → Post none h_20
theorem okm48 (c : gx) (d : Nat) (Post : Option Value → gm_H → Prop) (r0 : Nat) (r1 : Nat) (h : gm_H) (w : wm48 c d Post r0 r1 h) : gE c (d + 1) 48 [.ref r0, .ref r1] h Post := by
  have hk : ∀ pc i, gm_find gk_48 pc = some i → gm_code (gt_T c.1 c.2.1 c.2.2.1) 48 pc = some i := fun _ _ z => z
  unfold wm48 at w
  refine ge_of (by decide) (Nat.le_of_ble_eq_true rfl) ?_
  show gV c d 48 (0, [some (.ref r0), some (.ref r1)], [], h) Post
  unfold gV
  refine gw_pst hk 2 (st' := (2, [some (.ref r0), some (.ref r1)], [.ref r1, .ref r0], h)) rfl ?_
  obtain ⟨x_1, e1, w⟩ := w
  refine gw_gf (hk _ _ rfl) e1 ?_
  obtain ⟨fs2, e2, l2, w⟩ := w
  refine gw_pf (hk _ _ rfl) e2 l2 rfl ?_
  obtain ⟨h_2, eh2⟩ : ∃ z, z = gm_put h r0 (.inr (6, fs2.set 0 (.int x_1))) := ⟨_, rfl⟩
  rw [← eh2]
  replace w := w h_2 eh2
  refine gw_pst hk 2 (st' := (10, [some (.ref r0), some (.ref r1)], [.ref r1, .ref r0], h_2)) rfl ?_
  obtain ⟨x_3, e3, w⟩ := w
  refine gw_gf (hk _ _ rfl) e3 ?_
  obtain ⟨fs4, e4, l4, w⟩ := w
  refine gw_pf (hk _ _ rfl) e4 l4 rfl ?_
  obtain ⟨h_4, eh4⟩ : ∃ z, z = gm_put h_2 r0 (.inr (6, fs4.set 1 (.int x_3))) := ⟨_, rfl⟩
  rw [← eh4]
  replace w := w h_4 eh4
  refine gw_pst hk 2 (st' := (18, [some (.ref r0), some (.ref r1)], [.ref r1, .ref r0], h_4)) rfl ?_
  obtain ⟨x_5, e5, w⟩ := w
  refine gw_gf (hk _ _ rfl) e5 ?_
  obtain ⟨fs6, e6, l6, w⟩ := w
  refine gw_pf (hk _ _ rfl) e6 l6 rfl ?_
  obtain ⟨h_6, eh6⟩ : ∃ z, z = gm_put h_4 r0 (.inr (6, fs6.set 2 (.int x_5))) := ⟨_, rfl⟩
  rw [← eh6]
  replace w := w h_6 eh6
  refine gw_pst hk 2 (st' := (26, [some (.ref r0), some (.ref r1)], [.ref r1, .ref r0], h_6)) rfl ?_
  obtain ⟨x_7, e7, w⟩ := w
  refine gw_gf (hk _ _ rfl) e7 ?_
  obtain ⟨fs8, e8, l8, w⟩ := w
  refine gw_pf (hk _ _ rfl) e8 l8 rfl ?_
  obtain ⟨h_8, eh8⟩ : ∃ z, z = gm_put h_6 r0 (.inr (6, fs8.set 3 (.int x_7))) := ⟨_, rfl⟩
  rw [← eh8]
  replace w := w h_8 eh8
  refine gw_pst hk 2 (st' := (34, [some (.ref r0), some (.ref r1)], [.ref r1, .ref r0], h_8)) rfl ?_
  obtain ⟨x_9, e9, w⟩ := w
  refine gw_gf (hk _ _ rfl) e9 ?_
  obtain ⟨fs10, e10, l10, w⟩ := w
  refine gw_pf (hk _ _ rfl) e10 l10 rfl ?_
  obtain ⟨h_10, eh10⟩ : ∃ z, z = gm_put h_8 r0 (.inr (6, fs10.set 4 (.int x_9))) := ⟨_, rfl⟩
  rw [← eh10]
  replace w := w h_10 eh10
  refine gw_pst hk 2 (st' := (42, [some (.ref r0), some (.ref r1)], [.ref r1, .ref r0], h_10)) rfl ?_
  obtain ⟨x_11, e11, w⟩ := w
  refine gw_gf (hk _ _ rfl) e11 ?_
  obtain ⟨fs12, e12, l12, w⟩ := w
  refine gw_pf (hk _ _ rfl) e12 l12 rfl ?_
  obtain ⟨h_12, eh12⟩ : ∃ z, z = gm_put h_10 r0 (.inr (6, fs12.set 5 (.int x_11))) := ⟨_, rfl⟩
  rw [← eh12]
  replace w := w h_12 eh12
  refine gw_pst hk 2 (st' := (50, [some (.ref r0), some (.ref r1)], [.ref r1, .ref r0], h_12)) rfl ?_
  obtain ⟨y_13, e13, w⟩ := w
  refine gw_gf (hk _ _ rfl) e13 ?_
  obtain ⟨fs14, e14, l14, w⟩ := w
  refine gw_pf (hk _ _ rfl) e14 l14 rfl ?_
  obtain ⟨h_14, eh14⟩ : ∃ z, z = gm_put h_12 r0 (.inr (6, fs14.set 6 (.long y_13))) := ⟨_, rfl⟩
  rw [← eh14]
  replace w := w h_14 eh14
  refine gw_pst hk 2 (st' := (58, [some (.ref r0), some (.ref r1)], [.ref r1, .ref r0], h_14)) rfl ?_
  obtain ⟨y_15, e15, w⟩ := w
  refine gw_gf (hk _ _ rfl) e15 ?_
  obtain ⟨fs16, e16, l16, w⟩ := w
  refine gw_pf (hk _ _ rfl) e16 l16 rfl ?_
  obtain ⟨h_16, eh16⟩ : ∃ z, z = gm_put h_14 r0 (.inr (6, fs16.set 7 (.long y_15))) := ⟨_, rfl⟩
  rw [← eh16]
  replace w := w h_16 eh16
  refine gw_pst hk 2 (st' := (66, [some (.ref r0), some (.ref r1)], [.ref r1, .ref r0], h_16)) rfl ?_
  obtain ⟨x_17, e17, w⟩ := w
  refine gw_gf (hk _ _ rfl) e17 ?_
  obtain ⟨fs18, e18, l18, w⟩ := w
  refine gw_pf (hk _ _ rfl) e18 l18 rfl ?_
  obtain ⟨h_18, eh18⟩ : ∃ z, z = gm_put h_16 r0 (.inr (6, fs18.set 8 (.int x_17))) := ⟨_, rfl⟩
  rw [← eh18]
  replace w := w h_18 eh18
  refine gw_pst hk 2 (st' := (74, [some (.ref r0), some (.ref r1)], [.ref r1, .ref r0], h_18)) rfl ?_
  obtain ⟨x_19, e19, w⟩ := w
  refine gw_gf (hk _ _ rfl) e19 ?_
  obtain ⟨fs20, e20, l20, w⟩ := w
  refine gw_pf (hk _ _ rfl) e20 l20 rfl ?_
  obtain ⟨h_20, eh20⟩ : ∃ z, z = gm_put h_18 r0 (.inr (6, fs20.set 9 (.int x_19))) := ⟨_, rfl⟩
  rw [← eh20]
  replace w := w h_20 eh20
  exact gw_ret (hk _ _ rfl) rfl w
def w49_16 (c : gx) (d : Nat) (Post : Option Value → gm_H → Prop) (xs0 : Int32) (h : gm_H) : Prop :=
  Post (some (.int xs0)) h
theorem ok49_16 (c : gx) (d : Nat) (Post : Option Value → gm_H → Prop)  (xs0 : Int32) (h : gm_H) (w : w49_16 c d Post xs0 h) : gV c d 49 (16, [none, none], [.int xs0], h) Post := by
  have hk : ∀ pc i, gm_find gk_49 pc = some i → gm_code (gt_T c.1 c.2.1 c.2.2.1) 49 pc = some i := fun _ _ z => z
  unfold w49_16 at w
  unfold gV
  exact gw_ret (hk _ _ rfl) rfl w
/-- CommandByTurns$Standing.sickTill(I)I -/
def wm49 (c : gx) (d : Nat) (Post : Option Value → gm_H → Prop) (r0 : Nat) (x1 : Int32) (h : gm_H) : Prop :=
  ((x1 = 1 → ∃ x_2 : Int32, gm_fld h r0 6 9 = some (.int x_2) ∧ w49_16 c d Post x_2 h) ∧ (¬ (x1 = 1) → ∃ x_3 : Int32, gm_fld h r0 6 8 = some (.int x_3) ∧ w49_16 c d Post x_3 h))
theorem okm49 (c : gx) (d : Nat) (Post : Option Value → gm_H → Prop) (r0 : Nat) (x1 : Int32) (h : gm_H) (w : wm49 c d Post r0 x1 h) : gE c (d + 1) 49 [.ref r0, .int x1] h Post := by
  have hk : ∀ pc i, gm_find gk_49 pc = some i → gm_code (gt_T c.1 c.2.1 c.2.2.1) 49 pc = some i := fun _ _ z => z
  unfold wm49 at w
  refine ge_of (by decide) (Nat.le_of_ble_eq_true rfl) ?_
  show gV c d 49 (0, [some (.ref r0), some (.int x1)], [], h) Post
  unfold gV
  refine gw_pst hk 2 (st' := (2, [some (.ref r0), some (.int x1)], [.int 1, .int x1], h)) rfl ?_
  refine gw_br (c := x1 = 1) (a := (5, [some (.ref r0), some (.int x1)], [], h)) (b := (12, [some (.ref r0), some (.int x1)], [], h)) (hk _ _ rfl) rfl ⟨fun z1 => ?_, fun z1 => ?_⟩
  · replace w := w.1 z1
    refine gw_pst hk 1 (st' := (6, [some (.ref r0), some (.int x1)], [.ref r0], h)) rfl ?_
    obtain ⟨x_2, e2, w⟩ := w
    refine gw_gf (hk _ _ rfl) e2 ?_
    refine gw_pst hk 1 (st' := (16, [some (.ref r0), some (.int x1)], [.int x_2], h)) rfl ?_
    refine gw_le (L' := [none, none]) (gm_le_n _ (gm_le_n _ gm_le_nil)) ?_
    exact ok49_16 c d Post _ _ w
  · replace w := w.2 z1
    refine gw_pst hk 1 (st' := (13, [some (.ref r0), some (.int x1)], [.ref r0], h)) rfl ?_
    obtain ⟨x_3, e3, w⟩ := w
    refine gw_gf (hk _ _ rfl) e3 ?_
    refine gw_le (L' := [none, none]) (gm_le_n _ (gm_le_n _ gm_le_nil)) ?_
    exact ok49_16 c d Post _ _ w
def w50_27 (c : gx) (d : Nat) (Post : Option Value → gm_H → Prop) (x3 : Int32) (h : gm_H) : Prop :=
  Post (some (.int x3)) h
theorem ok50_27 (c : gx) (d : Nat) (Post : Option Value → gm_H → Prop)  (x3 : Int32) (h : gm_H) (w : w50_27 c d Post x3 h) : gV c d 50 (27, [none, none, none, some (.int x3)], [], h) Post := by
  have hk : ∀ pc i, gm_find gk_50 pc = some i → gm_code (gt_T c.1 c.2.1 c.2.2.1) 50 pc = some i := fun _ _ z => z
  unfold w50_27 at w
  unfold gV
  refine gw_pst hk 1 (st' := (28, [none, none, none, some (.int x3)], [.int x3], h)) rfl ?_
  exact gw_ret (hk _ _ rfl) rfl w
/-- CommandByTurns$Standing.fallSick(II)I -/
def wm50 (c : gx) (d : Nat) (Post : Option Value → gm_H → Prop) (r0 : Nat) (x1 : Int32) (x2 : Int32) (h : gm_H) : Prop :=
  ∃ x_1 : Int32, gm_fld h r0 6 0 = some (.int x_1) ∧ ((x1 = 1 → ∃ fs3 : List Value, gm_get h r0 = some (.inr (6, fs3)) ∧ 9 < fs3.length ∧ ∀ h_3 : gm_H, h_3 = gm_put h r0 (.inr (6, fs3.set 9 (.int ((x_1 + x2) - 1)))) → w50_27 c d Post ((x_1 + x2) - 1) h_3) ∧ (¬ (x1 = 1) → ∃ fs4 : List Value, gm_get h r0 = some (.inr (6, fs4)) ∧ 8 < fs4.length ∧ ∀ h_4 : gm_H, h_4 = gm_put h r0 (.inr (6, fs4.set 8 (.int ((x_1 + x2) - 1)))) → w50_27 c d Post ((x_1 + x2) - 1) h_4))
theorem okm50 (c : gx) (d : Nat) (Post : Option Value → gm_H → Prop) (r0 : Nat) (x1 : Int32) (x2 : Int32) (h : gm_H) (w : wm50 c d Post r0 x1 x2 h) : gE c (d + 1) 50 [.ref r0, .int x1, .int x2] h Post := by
  have hk : ∀ pc i, gm_find gk_50 pc = some i → gm_code (gt_T c.1 c.2.1 c.2.2.1) 50 pc = some i := fun _ _ z => z
  unfold wm50 at w
  refine ge_of (by decide) (Nat.le_of_ble_eq_true rfl) ?_
  show gV c d 50 (0, [some (.ref r0), some (.int x1), some (.int x2), none], [], h) Post
  unfold gV
  refine gw_pst hk 1 (st' := (1, [some (.ref r0), some (.int x1), some (.int x2), none], [.ref r0], h)) rfl ?_
  obtain ⟨x_1, e1, w⟩ := w
  refine gw_gf (hk _ _ rfl) e1 ?_
  refine gw_pst hk 7 (st' := (11, [some (.ref r0), some (.int x1), some (.int x2), some (.int ((x_1 + x2) - 1))], [.int 1, .int x1], h)) rfl ?_
  refine gw_br (c := x1 = 1) (a := (14, [some (.ref r0), some (.int x1), some (.int x2), some (.int ((x_1 + x2) - 1))], [], h)) (b := (22, [some (.ref r0), some (.int x1), some (.int x2), some (.int ((x_1 + x2) - 1))], [], h)) (hk _ _ rfl) rfl ⟨fun z2 => ?_, fun z2 => ?_⟩
  · replace w := w.1 z2
    refine gw_pst hk 2 (st' := (16, [some (.ref r0), some (.int x1), some (.int x2), some (.int ((x_1 + x2) - 1))], [.int ((x_1 + x2) - 1), .ref r0], h)) rfl ?_
    obtain ⟨fs3, e3, l3, w⟩ := w
    refine gw_pf (hk _ _ rfl) e3 l3 rfl ?_
    obtain ⟨h_3, eh3⟩ : ∃ z, z = gm_put h r0 (.inr (6, fs3.set 9 (.int ((x_1 + x2) - 1)))) := ⟨_, rfl⟩
    rw [← eh3]
    replace w := w h_3 eh3
    refine gw_pst hk 1 (st' := (27, [some (.ref r0), some (.int x1), some (.int x2), some (.int ((x_1 + x2) - 1))], [], h_3)) rfl ?_
    refine gw_le (L' := [none, none, none, some (.int ((x_1 + x2) - 1))]) (gm_le_n _ (gm_le_n _ (gm_le_n _ (gm_le_k _ gm_le_nil)))) ?_
    exact ok50_27 c d Post _ _ w
  · replace w := w.2 z2
    refine gw_pst hk 2 (st' := (24, [some (.ref r0), some (.int x1), some (.int x2), some (.int ((x_1 + x2) - 1))], [.int ((x_1 + x2) - 1), .ref r0], h)) rfl ?_
    obtain ⟨fs4, e4, l4, w⟩ := w
    refine gw_pf (hk _ _ rfl) e4 l4 rfl ?_
    obtain ⟨h_4, eh4⟩ : ∃ z, z = gm_put h r0 (.inr (6, fs4.set 8 (.int ((x_1 + x2) - 1)))) := ⟨_, rfl⟩
    rw [← eh4]
    replace w := w h_4 eh4
    refine gw_le (L' := [none, none, none, some (.int ((x_1 + x2) - 1))]) (gm_le_n _ (gm_le_n _ (gm_le_n _ (gm_le_k _ gm_le_nil)))) ?_
    exact ok50_27 c d Post _ _ w
def w51_53 (c : gx) (d : Nat) (Post : Option Value → gm_H → Prop) (xs0 : Int32) (h : gm_H) : Prop :=
  Post (some (.int xs0)) h
theorem ok51_53 (c : gx) (d : Nat) (Post : Option Value → gm_H → Prop)  (xs0 : Int32) (h : gm_H) (w : w51_53 c d Post xs0 h) : gV c d 51 (53, [none, none, none], [.int xs0], h) Post := by
  have hk : ∀ pc i, gm_find gk_51 pc = some i → gm_code (gt_T c.1 c.2.1 c.2.2.1) 51 pc = some i := fun _ _ z => z
  unfold w51_53 at w
  unfold gV
  exact gw_ret (hk _ _ rfl) rfl w
def w51_24 (c : gx) (d : Nat) (Post : Option Value → gm_H → Prop) (r0 : Nat) (x1 : Int32) (x2 : Int32) (h : gm_H) : Prop :=
  (∃ fs1, gm_get h r0 = some (.inr (6, fs1))) ∧ gE c d 49 [.ref r0, .int x2] h (fun v1 h_1 => ∃ x_1 : Int32, v1 = some (.int x_1) ∧ ((x1 ≤ x_1 → (∃ fs3, gm_get h_1 r0 = some (.inr (6, fs3))) ∧ gE c d 49 [.ref r0, .int (1 - x2)] h_1 (fun v3 h_3 => ∃ x_3 : Int32, v3 = some (.int x_3) ∧ ((x1 ≤ x_3 → w51_53 c d Post (-1) h_3) ∧ (¬ (x1 ≤ x_3) → w51_53 c d Post (1 - x2) h_3)))) ∧ (¬ (x1 ≤ x_1) → Post (some (.int x2)) h_1)))
theorem ok51_24 (c : gx) (d : Nat) (Post : Option Value → gm_H → Prop)  (r0 : Nat) (x1 : Int32) (x2 : Int32) (h : gm_H) (w : w51_24 c d Post r0 x1 x2 h) : gV c d 51 (24, [some (.ref r0), some (.int x1), some (.int x2)], [], h) Post := by
  have hk : ∀ pc i, gm_find gk_51 pc = some i → gm_code (gt_T c.1 c.2.1 c.2.2.1) 51 pc = some i := fun _ _ z => z
  unfold w51_24 at w
  unfold gV
  refine gw_pst hk 2 (st' := (26, [some (.ref r0), some (.int x1), some (.int x2)], [.int x2, .ref r0], h)) rfl ?_
  obtain ⟨⟨fs1, e1⟩, w⟩ := w
  refine gw_call (jj := 49) (As := [.ref r0, .int x2]) (rest := []) (hk _ _ rfl) (fun _ => rfl) rfl rfl (Nat.le_of_ble_eq_true rfl) (gm_rcv_v rfl e1 rfl) ?_
  refine ge_imp w (fun v1 h_1 w => ?_)
  obtain ⟨x_1, rfl, w⟩ := w
  show gV c d 51 (29, [some (.ref r0), some (.int x1), some (.int x2)], [.int x_1], h_1) Post
  refine gw_pst hk 1 (st' := (30, [some (.ref r0), some (.int x1), some (.int x2)], [.int x1, .int x_1], h_1)) rfl ?_
  refine gw_br (c := x1 ≤ x_1) (a := (35, [some (.ref r0), some (.int x1), some (.int x2)], [], h_1)) (b := (33, [some (.ref r0), some (.int x1), some (.int x2)], [], h_1)) (hk _ _ rfl) rfl ⟨fun z2 => ?_, fun z2 => ?_⟩
  · replace w := w.1 z2
    refine gw_pst hk 4 (st' := (39, [some (.ref r0), some (.int x1), some (.int x2)], [.int (1 - x2), .ref r0], h_1)) rfl ?_
    obtain ⟨⟨fs3, e3⟩, w⟩ := w
    refine gw_call (jj := 49) (As := [.ref r0, .int (1 - x2)]) (rest := []) (hk _ _ rfl) (fun _ => rfl) rfl rfl (Nat.le_of_ble_eq_true rfl) (gm_rcv_v rfl e3 rfl) ?_
    refine ge_imp w (fun v3 h_3 w => ?_)
    obtain ⟨x_3, rfl, w⟩ := w
    show gV c d 51 (42, [some (.ref r0), some (.int x1), some (.int x2)], [.int x_3], h_3) Post
    refine gw_pst hk 1 (st' := (43, [some (.ref r0), some (.int x1), some (.int x2)], [.int x1, .int x_3], h_3)) rfl ?_
    refine gw_br (c := x1 ≤ x_3) (a := (52, [some (.ref r0), some (.int x1), some (.int x2)], [], h_3)) (b := (46, [some (.ref r0), some (.int x1), some (.int x2)], [], h_3)) (hk _ _ rfl) rfl ⟨fun z4 => ?_, fun z4 => ?_⟩
    · replace w := w.1 z4
      refine gw_pst hk 1 (st' := (53, [some (.ref r0), some (.int x1), some (.int x2)], [.int (-1)], h_3)) rfl ?_
      refine gw_le (L' := [none, none, none]) (gm_le_n _ (gm_le_n _ (gm_le_n _ gm_le_nil))) ?_
      exact ok51_53 c d Post _ _ w
    · replace w := w.2 z4
      refine gw_pst hk 4 (st' := (53, [some (.ref r0), some (.int x1), some (.int x2)], [.int (1 - x2)], h_3)) rfl ?_
      refine gw_le (L' := [none, none, none]) (gm_le_n _ (gm_le_n _ (gm_le_n _ gm_le_nil))) ?_
      exact ok51_53 c d Post _ _ w
  · replace w := w.2 z2
    refine gw_pst hk 1 (st' := (34, [some (.ref r0), some (.int x1), some (.int x2)], [.int x2], h_1)) rfl ?_
    exact gw_ret (hk _ _ rfl) rfl w
def w51_11 (c : gx) (d : Nat) (Post : Option Value → gm_H → Prop) (r0 : Nat) (x1 : Int32) (xs0 : Int32) (h : gm_H) : Prop :=
  (∃ fs1, gm_get h r0 = some (.inr (6, fs1))) ∧ gE c d 52 [.ref r0, .int x1] h (fun v1 h_1 => ∃ x_1 : Int32, v1 = some (.int x_1) ∧ ((x_1 = 0 → w51_24 c d Post r0 x1 xs0 h_1) ∧ (¬ (x_1 = 0) → w51_24 c d Post r0 x1 (1 - xs0) h_1)))
theorem ok51_11 (c : gx) (d : Nat) (Post : Option Value → gm_H → Prop)  (r0 : Nat) (x1 : Int32) (xs0 : Int32) (h : gm_H) (w : w51_11 c d Post r0 x1 xs0 h) : gV c d 51 (11, [some (.ref r0), some (.int x1), none], [.int xs0], h) Post := by
  have hk : ∀ pc i, gm_find gk_51 pc = some i → gm_code (gt_T c.1 c.2.1 c.2.2.1) 51 pc = some i := fun _ _ z => z
  unfold w51_11 at w
  unfold gV
  refine gw_pst hk 3 (st' := (14, [some (.ref r0), some (.int x1), some (.int xs0)], [.int x1, .ref r0], h)) rfl ?_
  obtain ⟨⟨fs1, e1⟩, w⟩ := w
  refine gw_call (jj := 52) (As := [.ref r0, .int x1]) (rest := []) (hk _ _ rfl) (fun _ => rfl) rfl rfl (Nat.le_of_ble_eq_true rfl) (gm_rcv_v rfl e1 rfl) ?_
  refine ge_imp w (fun v1 h_1 w => ?_)
  obtain ⟨x_1, rfl, w⟩ := w
  show gV c d 51 (17, [some (.ref r0), some (.int x1), some (.int xs0)], [.int x_1], h_1) Post
  refine gw_br (c := x_1 = 0) (a := (24, [some (.ref r0), some (.int x1), some (.int xs0)], [], h_1)) (b := (20, [some (.ref r0), some (.int x1), some (.int xs0)], [], h_1)) (hk _ _ rfl) rfl ⟨fun z2 => ?_, fun z2 => ?_⟩
  · replace w := w.1 z2
    exact ok51_24 c d Post _ _ _ _ w
  · replace w := w.2 z2
    refine gw_pst hk 4 (st' := (24, [some (.ref r0), some (.int x1), some (.int (1 - xs0))], [], h_1)) rfl ?_
    exact ok51_24 c d Post _ _ _ _ w
/-- CommandByTurns$Standing.commanderOn(I)I -/
def wm51 (c : gx) (d : Nat) (Post : Option Value → gm_H → Prop) (r0 : Nat) (x1 : Int32) (h : gm_H) : Prop :=
  (((x1 - x1 / 2 * 2) = 0 → w51_11 c d Post r0 x1 0 h) ∧ (¬ ((x1 - x1 / 2 * 2) = 0) → w51_11 c d Post r0 x1 1 h))
theorem okm51 (c : gx) (d : Nat) (Post : Option Value → gm_H → Prop) (r0 : Nat) (x1 : Int32) (h : gm_H) (w : wm51 c d Post r0 x1 h) : gE c (d + 1) 51 [.ref r0, .int x1] h Post := by
  have hk : ∀ pc i, gm_find gk_51 pc = some i → gm_code (gt_T c.1 c.2.1 c.2.2.1) 51 pc = some i := fun _ _ z => z
  unfold wm51 at w
  refine ge_of (by decide) (Nat.le_of_ble_eq_true rfl) ?_
  show gV c d 51 (0, [some (.ref r0), some (.int x1), none], [], h) Post
  unfold gV
  refine gw_pst hk 2 (st' := (2, [some (.ref r0), some (.int x1), none], [.int 2, .int x1], h)) rfl ?_
  refine gw_irem (hk _ _ rfl) (by decide) ?_ rfl
  refine gw_br (c := (x1 - x1 / 2 * 2) = 0) (a := (6, [some (.ref r0), some (.int x1), none], [], h)) (b := (10, [some (.ref r0), some (.int x1), none], [], h)) (hk _ _ rfl) rfl ⟨fun z1 => ?_, fun z1 => ?_⟩
  · replace w := w.1 z1
    refine gw_pst hk 2 (st' := (11, [some (.ref r0), some (.int x1), none], [.int 0], h)) rfl ?_
    exact ok51_11 c d Post _ _ _ _ w
  · replace w := w.2 z1
    refine gw_pst hk 1 (st' := (11, [some (.ref r0), some (.int x1), none], [.int 1], h)) rfl ?_
    exact ok51_11 c d Post _ _ _ _ w
def w52_10 (c : gx) (d : Nat) (Post : Option Value → gm_H → Prop)  (h : gm_H) : Prop :=
  Post (some (.int 0)) h
theorem ok52_10 (c : gx) (d : Nat) (Post : Option Value → gm_H → Prop)   (h : gm_H) (w : w52_10 c d Post  h) : gV c d 52 (10, [none, none, none, none], [], h) Post := by
  have hk : ∀ pc i, gm_find gk_52 pc = some i → gm_code (gt_T c.1 c.2.1 c.2.2.1) 52 pc = some i := fun _ _ z => z
  unfold w52_10 at w
  unfold gV
  refine gw_pst hk 1 (st' := (11, [none, none, none, none], [.int 0], h)) rfl ?_
  exact gw_ret (hk _ _ rfl) rfl w
def w52_50 (c : gx) (d : Nat) (Post : Option Value → gm_H → Prop) (xs0 : Int32) (h : gm_H) : Prop :=
  ((xs0 = 0 ∨ xs0 = 1) ∧ Post (some (.int xs0)) h)
theorem ok52_50 (c : gx) (d : Nat) (Post : Option Value → gm_H → Prop)  (xs0 : Int32) (h : gm_H) (w : w52_50 c d Post xs0 h) : gV c d 52 (50, [none, none, none, none], [.int xs0], h) Post := by
  have hk : ∀ pc i, gm_find gk_52 pc = some i → gm_code (gt_T c.1 c.2.1 c.2.2.1) 52 pc = some i := fun _ _ z => z
  unfold w52_50 at w
  unfold gV
  exact gw_retZ (hk _ _ rfl) rfl w.1 w.2
def w52_36 (c : gx) (d : Nat) (Post : Option Value → gm_H → Prop) (xs0 : Int64) (h : gm_H) : Prop :=
  (((lg_cmp (xs0 &&& 1) 1) = 0 → w52_50 c d Post 1 h) ∧ (¬ ((lg_cmp (xs0 &&& 1) 1) = 0) → w52_50 c d Post 0 h))
theorem ok52_36 (c : gx) (d : Nat) (Post : Option Value → gm_H → Prop)  (xs0 : Int64) (h : gm_H) (w : w52_36 c d Post xs0 h) : gV c d 52 (36, [none, none, none, none], [.long xs0], h) Post := by
  have hk : ∀ pc i, gm_find gk_52 pc = some i → gm_code (gt_T c.1 c.2.1 c.2.2.1) 52 pc = some i := fun _ _ z => z
  unfold w52_36 at w
  unfold gV
  refine gw_pst hk 6 (st' := (42, [none, none, some (.long xs0), none], [.int (lg_cmp (xs0 &&& 1) 1)], h)) rfl ?_
  refine gw_br (c := (lg_cmp (xs0 &&& 1) 1) = 0) (a := (45, [none, none, some (.long xs0), none], [], h)) (b := (49, [none, none, some (.long xs0), none], [], h)) (hk _ _ rfl) rfl ⟨fun z1 => ?_, fun z1 => ?_⟩
  · replace w := w.1 z1
    refine gw_pst hk 2 (st' := (50, [none, none, some (.long xs0), none], [.int 1], h)) rfl ?_
    refine gw_le (L' := [none, none, none, none]) (gm_le_k _ (gm_le_k _ (gm_le_n _ (gm_le_k _ gm_le_nil)))) ?_
    exact ok52_50 c d Post _ _ w
  · replace w := w.2 z1
    refine gw_pst hk 1 (st' := (50, [none, none, some (.long xs0), none], [.int 0], h)) rfl ?_
    refine gw_le (L' := [none, none, none, none]) (gm_le_k _ (gm_le_k _ (gm_le_n _ (gm_le_k _ gm_le_nil)))) ?_
    exact ok52_50 c d Post _ _ w
/-- CommandByTurns$Standing.isLent(I)Z -/
def wm52 (c : gx) (d : Nat) (Post : Option Value → gm_H → Prop) (r0 : Nat) (x1 : Int32) (h : gm_H) : Prop :=
  ((x1 < 0 → w52_10 c d Post h) ∧ (¬ (x1 < 0) → ((x1 ≤ 99 → ((64 ≤ x1 → ∃ y_4 : Int64, gm_fld h r0 6 7 = some (.long y_4) ∧ w52_36 c d Post (((y_4 : Int64).toUInt64 >>> ((x1 - 64 : Int32).toInt64.toUInt64 &&& Int64.toUInt64 63)).toInt64) h) ∧ (¬ (64 ≤ x1) → ∃ y_5 : Int64, gm_fld h r0 6 6 = some (.long y_5) ∧ w52_36 c d Post (((y_5 : Int64).toUInt64 >>> ((x1 : Int32).toInt64.toUInt64 &&& Int64.toUInt64 63)).toInt64) h))) ∧ (¬ (x1 ≤ 99) → w52_10 c d Post h))))
theorem okm52 (c : gx) (d : Nat) (Post : Option Value → gm_H → Prop) (r0 : Nat) (x1 : Int32) (h : gm_H) (w : wm52 c d Post r0 x1 h) : gE c (d + 1) 52 [.ref r0, .int x1] h Post := by
  have hk : ∀ pc i, gm_find gk_52 pc = some i → gm_code (gt_T c.1 c.2.1 c.2.2.1) 52 pc = some i := fun _ _ z => z
  unfold wm52 at w
  refine ge_of (by decide) (Nat.le_of_ble_eq_true rfl) ?_
  show gV c d 52 (0, [some (.ref r0), some (.int x1), none, none], [], h) Post
  unfold gV
  refine gw_pst hk 1 (st' := (1, [some (.ref r0), some (.int x1), none, none], [.int x1], h)) rfl ?_
  refine gw_br (c := x1 < 0) (a := (10, [some (.ref r0), some (.int x1), none, none], [], h)) (b := (4, [some (.ref r0), some (.int x1), none, none], [], h)) (hk _ _ rfl) rfl ⟨fun z1 => ?_, fun z1 => ?_⟩
  · replace w := w.1 z1
    refine gw_le (L' := [none, none, none, none]) (gm_le_n _ (gm_le_n _ (gm_le_k _ (gm_le_k _ gm_le_nil)))) ?_
    exact ok52_10 c d Post _ w
  · replace w := w.2 z1
    refine gw_pst hk 2 (st' := (7, [some (.ref r0), some (.int x1), none, none], [.int 99, .int x1], h)) rfl ?_
    refine gw_br (c := x1 ≤ 99) (a := (12, [some (.ref r0), some (.int x1), none, none], [], h)) (b := (10, [some (.ref r0), some (.int x1), none, none], [], h)) (hk _ _ rfl) rfl ⟨fun z2 => ?_, fun z2 => ?_⟩
    · replace w := w.1 z2
      refine gw_pst hk 2 (st' := (15, [some (.ref r0), some (.int x1), none, none], [.int 64, .int x1], h)) rfl ?_
      refine gw_br (c := 64 ≤ x1) (a := (27, [some (.ref r0), some (.int x1), none, none], [], h)) (b := (18, [some (.ref r0), some (.int x1), none, none], [], h)) (hk _ _ rfl) rfl ⟨fun z3 => ?_, fun z3 => ?_⟩
      · replace w := w.1 z3
        refine gw_pst hk 1 (st' := (28, [some (.ref r0), some (.int x1), none, none], [.ref r0], h)) rfl ?_
        obtain ⟨y_4, e4, w⟩ := w
        refine gw_gf (hk _ _ rfl) e4 ?_
        refine gw_pst hk 4 (st' := (36, [some (.ref r0), some (.int x1), none, none], [.long (((y_4 : Int64).toUInt64 >>> ((x1 - 64 : Int32).toInt64.toUInt64 &&& Int64.toUInt64 63)).toInt64)], h)) rfl ?_
        refine gw_le (L' := [none, none, none, none]) (gm_le_n _ (gm_le_n _ (gm_le_k _ (gm_le_k _ gm_le_nil)))) ?_
        exact ok52_36 c d Post _ _ w
      · replace w := w.2 z3
        refine gw_pst hk 1 (st' := (19, [some (.ref r0), some (.int x1), none, none], [.ref r0], h)) rfl ?_
        obtain ⟨y_5, e5, w⟩ := w
        refine gw_gf (hk _ _ rfl) e5 ?_
        refine gw_pst hk 3 (st' := (36, [some (.ref r0), some (.int x1), none, none], [.long (((y_5 : Int64).toUInt64 >>> ((x1 : Int32).toInt64.toUInt64 &&& Int64.toUInt64 63)).toInt64)], h)) rfl ?_
        refine gw_le (L' := [none, none, none, none]) (gm_le_n _ (gm_le_n _ (gm_le_k _ (gm_le_k _ gm_le_nil)))) ?_
        exact ok52_36 c d Post _ _ w
    · replace w := w.2 z2
      refine gw_le (L' := [none, none, none, none]) (gm_le_n _ (gm_le_n _ (gm_le_k _ (gm_le_k _ gm_le_nil)))) ?_
      exact ok52_10 c d Post _ w
def w53_40 (c : gx) (d : Nat) (Post : Option Value → gm_H → Prop)  (h : gm_H) : Prop :=
  Post none h
theorem ok53_40 (c : gx) (d : Nat) (Post : Option Value → gm_H → Prop)   (h : gm_H) (w : w53_40 c d Post  h) : gV c d 53 (40, [none, none], [], h) Post := by
  have hk : ∀ pc i, gm_find gk_53 pc = some i → gm_code (gt_T c.1 c.2.1 c.2.2.1) 53 pc = some i := fun _ _ z => z
  unfold w53_40 at w
  unfold gV
  exact gw_ret (hk _ _ rfl) rfl w
/-- CommandByTurns$Standing.turnLent(I)V -/
def wm53 (c : gx) (d : Nat) (Post : Option Value → gm_H → Prop) (r0 : Nat) (x1 : Int32) (h : gm_H) : Prop :=
  ((x1 < 64 → ((x1 < 0 → w53_40 c d Post h) ∧ (¬ (x1 < 0) → ∃ y_3 : Int64, gm_fld h r0 6 6 = some (.long y_3) ∧ ∃ fs4 : List Value, gm_get h r0 = some (.inr (6, fs4)) ∧ 6 < fs4.length ∧ ∀ h_4 : gm_H, h_4 = gm_put h r0 (.inr (6, fs4.set 6 (.long (y_3 ^^^ (1 <<< ((x1 : Int32).toInt64 &&& 63)))))) → w53_40 c d Post h_4))) ∧ (¬ (x1 < 64) → ∃ y_5 : Int64, gm_fld h r0 6 7 = some (.long y_5) ∧ ∃ fs6 : List Value, gm_get h r0 = some (.inr (6, fs6)) ∧ 7 < fs6.length ∧ ∀ h_6 : gm_H, h_6 = gm_put h r0 (.inr (6, fs6.set 7 (.long (y_5 ^^^ (1 <<< ((x1 - 64 : Int32).toInt64 &&& 63)))))) → w53_40 c d Post h_6))
theorem okm53 (c : gx) (d : Nat) (Post : Option Value → gm_H → Prop) (r0 : Nat) (x1 : Int32) (h : gm_H) (w : wm53 c d Post r0 x1 h) : gE c (d + 1) 53 [.ref r0, .int x1] h Post := by
  have hk : ∀ pc i, gm_find gk_53 pc = some i → gm_code (gt_T c.1 c.2.1 c.2.2.1) 53 pc = some i := fun _ _ z => z
  unfold wm53 at w
  refine ge_of (by decide) (Nat.le_of_ble_eq_true rfl) ?_
  show gV c d 53 (0, [some (.ref r0), some (.int x1)], [], h) Post
  unfold gV
  refine gw_pst hk 2 (st' := (3, [some (.ref r0), some (.int x1)], [.int 64, .int x1], h)) rfl ?_
  refine gw_br (c := x1 < 64) (a := (24, [some (.ref r0), some (.int x1)], [], h)) (b := (6, [some (.ref r0), some (.int x1)], [], h)) (hk _ _ rfl) rfl ⟨fun z1 => ?_, fun z1 => ?_⟩
  · replace w := w.1 z1
    refine gw_pst hk 1 (st' := (25, [some (.ref r0), some (.int x1)], [.int x1], h)) rfl ?_
    refine gw_br (c := x1 < 0) (a := (40, [some (.ref r0), some (.int x1)], [], h)) (b := (28, [some (.ref r0), some (.int x1)], [], h)) (hk _ _ rfl) rfl ⟨fun z2 => ?_, fun z2 => ?_⟩
    · replace w := w.1 z2
      refine gw_le (L' := [none, none]) (gm_le_n _ (gm_le_n _ gm_le_nil)) ?_
      exact ok53_40 c d Post _ w
    · replace w := w.2 z2
      refine gw_pst hk 2 (st' := (30, [some (.ref r0), some (.int x1)], [.ref r0, .ref r0], h)) rfl ?_
      obtain ⟨y_3, e3, w⟩ := w
      refine gw_gf (hk _ _ rfl) e3 ?_
      refine gw_pst hk 4 (st' := (37, [some (.ref r0), some (.int x1)], [.long (y_3 ^^^ (1 <<< ((x1 : Int32).toInt64 &&& 63))), .ref r0], h)) rfl ?_
      obtain ⟨fs4, e4, l4, w⟩ := w
      refine gw_pf (hk _ _ rfl) e4 l4 rfl ?_
      obtain ⟨h_4, eh4⟩ : ∃ z, z = gm_put h r0 (.inr (6, fs4.set 6 (.long (y_3 ^^^ (1 <<< ((x1 : Int32).toInt64 &&& 63)))))) := ⟨_, rfl⟩
      rw [← eh4]
      replace w := w h_4 eh4
      refine gw_le (L' := [none, none]) (gm_le_n _ (gm_le_n _ gm_le_nil)) ?_
      exact ok53_40 c d Post _ w
  · replace w := w.2 z1
    refine gw_pst hk 2 (st' := (8, [some (.ref r0), some (.int x1)], [.ref r0, .ref r0], h)) rfl ?_
    obtain ⟨y_5, e5, w⟩ := w
    refine gw_gf (hk _ _ rfl) e5 ?_
    refine gw_pst hk 6 (st' := (18, [some (.ref r0), some (.int x1)], [.long (y_5 ^^^ (1 <<< ((x1 - 64 : Int32).toInt64 &&& 63))), .ref r0], h)) rfl ?_
    obtain ⟨fs6, e6, l6, w⟩ := w
    refine gw_pf (hk _ _ rfl) e6 l6 rfl ?_
    obtain ⟨h_6, eh6⟩ : ∃ z, z = gm_put h r0 (.inr (6, fs6.set 7 (.long (y_5 ^^^ (1 <<< ((x1 - 64 : Int32).toInt64 &&& 63)))))) := ⟨_, rfl⟩
    rw [← eh6]
    replace w := w h_6 eh6
    refine gw_pst hk 1 (st' := (40, [some (.ref r0), some (.int x1)], [], h_6)) rfl ?_
    refine gw_le (L' := [none, none]) (gm_le_n _ (gm_le_n _ gm_le_nil)) ?_
    exact ok53_40 c d Post _ w
def w54_28 (c : gx) (d : Nat) (Post : Option Value → gm_H → Prop) (K8 : Nat → Int32 → Int32 → gm_H → Prop) (r0 : Nat) (x3 : Int32) (xs0 : Int32) (xs1 : Int32) (h : gm_H) : Prop :=
  K8 r0 (xs0 + xs1) (x3 + 1) h
theorem ok54_28 (c : gx) (d : Nat) (Post : Option Value → gm_H → Prop) (K8 : Nat → Int32 → Int32 → gm_H → Prop)  (hK8 : ∀ (r0 : Nat) (x2 : Int32) (x3 : Int32) (h : gm_H), K8 r0 x2 x3 h → gV c d 54 (8, [some (.ref r0), none, some (.int x2), some (.int x3)], [], h) Post) (r0 : Nat) (x3 : Int32) (xs0 : Int32) (xs1 : Int32) (h : gm_H) (w : w54_28 c d Post K8 r0 x3 xs0 xs1 h) : gV c d 54 (28, [some (.ref r0), none, none, some (.int x3)], [.int xs1, .int xs0], h) Post := by
  have hk : ∀ pc i, gm_find gk_54 pc = some i → gm_code (gt_T c.1 c.2.1 c.2.2.1) 54 pc = some i := fun _ _ z => z
  unfold w54_28 at w
  unfold gV
  refine gw_pst hk 4 (st' := (8, [some (.ref r0), none, some (.int (xs0 + xs1)), some (.int (x3 + 1))], [], h)) rfl ?_
  exact hK8 _ _ _ _ w
def wb54_8 (c : gx) (d : Nat) (Post : Option Value → gm_H → Prop) (K8 : Nat → Int32 → Int32 → gm_H → Prop) (r0 : Nat) (x2 : Int32) (x3 : Int32) (h : gm_H) : Prop :=
  ((99 < x3 → Post (some (.int x2)) h) ∧ (¬ (99 < x3) → (∃ fs2, gm_get h r0 = some (.inr (6, fs2))) ∧ gE c d 52 [.ref r0, .int x3] h (fun v2 h_2 => ∃ x_2 : Int32, v2 = some (.int x_2) ∧ ((x_2 = 0 → w54_28 c d Post K8 r0 x3 x2 0 h_2) ∧ (¬ (x_2 = 0) → w54_28 c d Post K8 r0 x3 x2 1 h_2)))))
theorem okb54_8 (c : gx) (d : Nat) (Post : Option Value → gm_H → Prop) (K8 : Nat → Int32 → Int32 → gm_H → Prop)  (hK8 : ∀ (r0 : Nat) (x2 : Int32) (x3 : Int32) (h : gm_H), K8 r0 x2 x3 h → gV c d 54 (8, [some (.ref r0), none, some (.int x2), some (.int x3)], [], h) Post) (r0 : Nat) (x2 : Int32) (x3 : Int32) (h : gm_H) (w : wb54_8 c d Post K8 r0 x2 x3 h) : gV c d 54 (8, [some (.ref r0), none, some (.int x2), some (.int x3)], [], h) Post := by
  have hk : ∀ pc i, gm_find gk_54 pc = some i → gm_code (gt_T c.1 c.2.1 c.2.2.1) 54 pc = some i := fun _ _ z => z
  unfold wb54_8 at w
  unfold gV
  refine gw_pst hk 2 (st' := (11, [some (.ref r0), none, some (.int x2), some (.int x3)], [.int 99, .int x3], h)) rfl ?_
  refine gw_br (c := 99 < x3) (a := (36, [some (.ref r0), none, some (.int x2), some (.int x3)], [], h)) (b := (14, [some (.ref r0), none, some (.int x2), some (.int x3)], [], h)) (hk _ _ rfl) rfl ⟨fun z1 => ?_, fun z1 => ?_⟩
  · replace w := w.1 z1
    refine gw_pst hk 1 (st' := (37, [some (.ref r0), none, some (.int x2), some (.int x3)], [.int x2], h)) rfl ?_
    exact gw_ret (hk _ _ rfl) rfl w
  · replace w := w.2 z1
    refine gw_pst hk 3 (st' := (17, [some (.ref r0), none, some (.int x2), some (.int x3)], [.int x3, .ref r0, .int x2], h)) rfl ?_
    obtain ⟨⟨fs2, e2⟩, w⟩ := w
    refine gw_call (jj := 52) (As := [.ref r0, .int x3]) (rest := [.int x2]) (hk _ _ rfl) (fun _ => rfl) rfl rfl (Nat.le_of_ble_eq_true rfl) (gm_rcv_v rfl e2 rfl) ?_
    refine ge_imp w (fun v2 h_2 w => ?_)
    obtain ⟨x_2, rfl, w⟩ := w
    show gV c d 54 (20, [some (.ref r0), none, some (.int x2), some (.int x3)], [.int x_2, .int x2], h_2) Post
    refine gw_br (c := x_2 = 0) (a := (27, [some (.ref r0), none, some (.int x2), some (.int x3)], [.int x2], h_2)) (b := (23, [some (.ref r0), none, some (.int x2), some (.int x3)], [.int x2], h_2)) (hk _ _ rfl) rfl ⟨fun z3 => ?_, fun z3 => ?_⟩
    · replace w := w.1 z3
      refine gw_pst hk 1 (st' := (28, [some (.ref r0), none, some (.int x2), some (.int x3)], [.int 0, .int x2], h_2)) rfl ?_
      refine gw_le (L' := [some (.ref r0), none, none, some (.int x3)]) (gm_le_k _ (gm_le_k _ (gm_le_n _ (gm_le_k _ gm_le_nil)))) ?_
      exact ok54_28 c d Post K8 hK8 _ _ _ _ _ w
    · replace w := w.2 z3
      refine gw_pst hk 2 (st' := (28, [some (.ref r0), none, some (.int x2), some (.int x3)], [.int 1, .int x2], h_2)) rfl ?_
      refine gw_le (L' := [some (.ref r0), none, none, some (.int x3)]) (gm_le_k _ (gm_le_k _ (gm_le_n _ (gm_le_k _ gm_le_nil)))) ?_
      exact ok54_28 c d Post K8 hK8 _ _ _ _ _ w
def wl54_8 (c : gx) (d : Nat) (Post : Option Value → gm_H → Prop) : Nat → Nat → Int32 → Int32 → gm_H → Prop
  | 0 => fun _ _ _ _ => False
  | n + 1 => wb54_8 c d Post (wl54_8 c d Post n)
theorem okl54_8 (c : gx) (d : Nat) (Post : Option Value → gm_H → Prop) : ∀ (n : Nat) (r0 : Nat) (x2 : Int32) (x3 : Int32) (h : gm_H), wl54_8 c d Post n r0 x2 x3 h → gV c d 54 (8, [some (.ref r0), none, some (.int x2), some (.int x3)], [], h) Post
  | 0, _, _, _, _, w => w.elim
  | n + 1, r0, x2, x3, h, w => okb54_8 c d Post (wl54_8 c d Post n) (okl54_8 c d Post n) r0 x2 x3 h w
/-- CommandByTurns$Standing.lentFrom(I)I -/
def wm54 (c : gx) (d : Nat) (Post : Option Value → gm_H → Prop) (r0 : Nat) (x1 : Int32) (h : gm_H) : Prop :=
  ∃ n, wl54_8 c d Post n r0 0 (if 0 < x1 then x1 else 0) h
theorem okm54 (c : gx) (d : Nat) (Post : Option Value → gm_H → Prop) (r0 : Nat) (x1 : Int32) (h : gm_H) (w : wm54 c d Post r0 x1 h) : gE c (d + 1) 54 [.ref r0, .int x1] h Post := by
  have hk : ∀ pc i, gm_find gk_54 pc = some i → gm_code (gt_T c.1 c.2.1 c.2.2.1) 54 pc = some i := fun _ _ z => z
  unfold wm54 at w
  refine ge_of (by decide) (Nat.le_of_ble_eq_true rfl) ?_
  show gV c d 54 (0, [some (.ref r0), some (.int x1), none, none], [], h) Post
  unfold gV
  refine gw_pst hk 6 (st' := (8, [some (.ref r0), some (.int x1), some (.int 0), some (.int (if 0 < x1 then x1 else 0))], [], h)) rfl ?_
  refine gw_le (L' := [some (.ref r0), none, some (.int 0), some (.int (if 0 < x1 then x1 else 0))]) (gm_le_k _ (gm_le_n _ (gm_le_k _ (gm_le_k _ gm_le_nil)))) ?_
  obtain ⟨n, w⟩ := w
  exact okl54_8 c d Post n _ _ _ _ w
/-- CommandByTurns$Standing.provide(II)I -/
def wm55 (c : gx) (d : Nat) (Post : Option Value → gm_H → Prop) (r0 : Nat) (x1 : Int32) (x2 : Int32) (h : gm_H) : Prop :=
  ((x1 = 0 → ∃ x_2 : Int32, gm_fld h r0 6 5 = some (.int x_2) ∧ ∃ fs3 : List Value, gm_get h r0 = some (.inr (6, fs3)) ∧ 5 < fs3.length ∧ ∀ h_3 : gm_H, h_3 = gm_put h r0 (.inr (6, fs3.set 5 (.int (if (x_2 + x2) < 9999 then (x_2 + x2) else 9999)))) → ∃ x_4 : Int32, gm_fld h_3 r0 6 5 = some (.int x_4) ∧ Post (some (.int x_4)) h_3) ∧ (x1 = 1 → ∃ x_5 : Int32, gm_fld h r0 6 3 = some (.int x_5) ∧ ∃ fs6 : List Value, gm_get h r0 = some (.inr (6, fs6)) ∧ 3 < fs6.length ∧ ∀ h_6 : gm_H, h_6 = gm_put h r0 (.inr (6, fs6.set 3 (.int (if (x_5 + x2) < 9999 then (x_5 + x2) else 9999)))) → ∃ x_7 : Int32, gm_fld h_6 r0 6 3 = some (.int x_7) ∧ Post (some (.int x_7)) h_6) ∧ (¬ x1 = 0 ∧ ¬ x1 = 1 → ∃ x_8 : Int32, gm_fld h r0 6 4 = some (.int x_8) ∧ ∃ fs9 : List Value, gm_get h r0 = some (.inr (6, fs9)) ∧ 4 < fs9.length ∧ ∀ h_9 : gm_H, h_9 = gm_put h r0 (.inr (6, fs9.set 4 (.int (if (x_8 + x2) < 9999 then (x_8 + x2) else 9999)))) → ∃ x_10 : Int32, gm_fld h_9 r0 6 4 = some (.int x_10) ∧ Post (some (.int x_10)) h_9))
theorem okm55 (c : gx) (d : Nat) (Post : Option Value → gm_H → Prop) (r0 : Nat) (x1 : Int32) (x2 : Int32) (h : gm_H) (w : wm55 c d Post r0 x1 x2 h) : gE c (d + 1) 55 [.ref r0, .int x1, .int x2] h Post := by
  have hk : ∀ pc i, gm_find gk_55 pc = some i → gm_code (gt_T c.1 c.2.1 c.2.2.1) 55 pc = some i := fun _ _ z => z
  unfold wm55 at w
  refine ge_of (by decide) (Nat.le_of_ble_eq_true rfl) ?_
  show gV c d 55 (0, [some (.ref r0), some (.int x1), some (.int x2)], [], h) Post
  unfold gV
  refine gw_pst hk 1 (st' := (1, [some (.ref r0), some (.int x1), some (.int x2)], [.int x1], h)) rfl ?_
  by_cases z1_0 : x1 = 0
  · replace w := w.1 z1_0
    refine gw_swk (st' := (28, [some (.ref r0), some (.int x1), some (.int x2)], [], h)) (hk _ _ rfl) z1_0 rfl ?_
    refine gw_pst hk 3 (st' := (33, [some (.ref r0), some (.int x1), some (.int x2)], [.ref r0, .int 9999, .ref r0], h)) rfl ?_
    obtain ⟨x_2, e2, w⟩ := w
    refine gw_gf (hk _ _ rfl) e2 ?_
    refine gw_pst hk 3 (st' := (41, [some (.ref r0), some (.int x1), some (.int x2)], [.int (if (x_2 + x2) < 9999 then (x_2 + x2) else 9999), .ref r0], h)) rfl ?_
    obtain ⟨fs3, e3, l3, w⟩ := w
    refine gw_pf (hk _ _ rfl) e3 l3 rfl ?_
    obtain ⟨h_3, eh3⟩ : ∃ z, z = gm_put h r0 (.inr (6, fs3.set 5 (.int (if (x_2 + x2) < 9999 then (x_2 + x2) else 9999)))) := ⟨_, rfl⟩
    rw [← eh3]
    replace w := w h_3 eh3
    refine gw_pst hk 1 (st' := (45, [some (.ref r0), some (.int x1), some (.int x2)], [.ref r0], h_3)) rfl ?_
    obtain ⟨x_4, e4, w⟩ := w
    refine gw_gf (hk _ _ rfl) e4 ?_
    exact gw_ret (hk _ _ rfl) rfl w
  by_cases z1_1 : x1 = 1
  · replace w := w.2.1 z1_1
    refine gw_swk (st' := (49, [some (.ref r0), some (.int x1), some (.int x2)], [], h)) (hk _ _ rfl) z1_1 rfl ?_
    refine gw_pst hk 3 (st' := (54, [some (.ref r0), some (.int x1), some (.int x2)], [.ref r0, .int 9999, .ref r0], h)) rfl ?_
    obtain ⟨x_5, e5, w⟩ := w
    refine gw_gf (hk _ _ rfl) e5 ?_
    refine gw_pst hk 3 (st' := (62, [some (.ref r0), some (.int x1), some (.int x2)], [.int (if (x_5 + x2) < 9999 then (x_5 + x2) else 9999), .ref r0], h)) rfl ?_
    obtain ⟨fs6, e6, l6, w⟩ := w
    refine gw_pf (hk _ _ rfl) e6 l6 rfl ?_
    obtain ⟨h_6, eh6⟩ : ∃ z, z = gm_put h r0 (.inr (6, fs6.set 3 (.int (if (x_5 + x2) < 9999 then (x_5 + x2) else 9999)))) := ⟨_, rfl⟩
    rw [← eh6]
    replace w := w h_6 eh6
    refine gw_pst hk 1 (st' := (66, [some (.ref r0), some (.int x1), some (.int x2)], [.ref r0], h_6)) rfl ?_
    obtain ⟨x_7, e7, w⟩ := w
    refine gw_gf (hk _ _ rfl) e7 ?_
    exact gw_ret (hk _ _ rfl) rfl w
  replace w := w.2.2 ⟨z1_0, z1_1⟩
  refine gw_lsd (st' := (70, [some (.ref r0), some (.int x1), some (.int x2)], [], h)) (hk _ _ rfl) (by
      have y0 : ¬ 0 = (x1 : Int32).toInt := fun z => z1_0 (Int32.toInt_inj.mp z.symm)
      have y1 : ¬ 1 = (x1 : Int32).toInt := fun z => z1_1 (Int32.toInt_inj.mp z.symm)
      simp [Op.lookupswitch.offset, y0, y1]) rfl ?_
  refine gw_pst hk 3 (st' := (75, [some (.ref r0), some (.int x1), some (.int x2)], [.ref r0, .int 9999, .ref r0], h)) rfl ?_
  obtain ⟨x_8, e8, w⟩ := w
  refine gw_gf (hk _ _ rfl) e8 ?_
  refine gw_pst hk 3 (st' := (83, [some (.ref r0), some (.int x1), some (.int x2)], [.int (if (x_8 + x2) < 9999 then (x_8 + x2) else 9999), .ref r0], h)) rfl ?_
  obtain ⟨fs9, e9, l9, w⟩ := w
  refine gw_pf (hk _ _ rfl) e9 l9 rfl ?_
  obtain ⟨h_9, eh9⟩ : ∃ z, z = gm_put h r0 (.inr (6, fs9.set 4 (.int (if (x_8 + x2) < 9999 then (x_8 + x2) else 9999)))) := ⟨_, rfl⟩
  rw [← eh9]
  replace w := w h_9 eh9
  refine gw_pst hk 1 (st' := (87, [some (.ref r0), some (.int x1), some (.int x2)], [.ref r0], h_9)) rfl ?_
  obtain ⟨x_10, e10, w⟩ := w
  refine gw_gf (hk _ _ rfl) e10 ?_
  exact gw_ret (hk _ _ rfl) rfl w
def w56_28 (c : gx) (d : Nat) (Post : Option Value → gm_H → Prop) (r0 : Nat) (x3 : Int32) (xs0 : Int32) (h : gm_H) : Prop :=
  ∃ x_1 : Int32, gm_fld h r0 6 3 = some (.int x_1) ∧ ∃ fs2 : List Value, gm_get h r0 = some (.inr (6, fs2)) ∧ 3 < fs2.length ∧ ∀ h_2 : gm_H, h_2 = gm_put h r0 (.inr (6, fs2.set 3 (.int (if 0 < (x_1 - x3) then (x_1 - x3) else 0)))) → ∃ x_3 : Int32, gm_fld h_2 r0 6 4 = some (.int x_3) ∧ ∃ fs4 : List Value, gm_get h_2 r0 = some (.inr (6, fs4)) ∧ 4 < fs4.length ∧ ∀ h_4 : gm_H, h_4 = gm_put h_2 r0 (.inr (6, fs4.set 4 (.int (if 0 < (x_3 - xs0) then (x_3 - xs0) else 0)))) → Post none h_4
theorem ok56_28 (c : gx) (d : Nat) (Post : Option Value → gm_H → Prop)  (r0 : Nat) (x3 : Int32) (xs0 : Int32) (h : gm_H) (w : w56_28 c d Post r0 x3 xs0 h) : gV c d 56 (28, [some (.ref r0), none, none, some (.int x3), none], [.int xs0], h) Post := by
  have hk : ∀ pc i, gm_find gk_56 pc = some i → gm_code (gt_T c.1 c.2.1 c.2.2.1) 56 pc = some i := fun _ _ z => z
  unfold w56_28 at w
  unfold gV
  refine gw_pst hk 4 (st' := (33, [some (.ref r0), none, none, some (.int x3), some (.int xs0)], [.ref r0, .int 0, .ref r0], h)) rfl ?_
  obtain ⟨x_1, e1, w⟩ := w
  refine gw_gf (hk _ _ rfl) e1 ?_
  refine gw_pst hk 3 (st' := (41, [some (.ref r0), none, none, some (.int x3), some (.int xs0)], [.int (if 0 < (x_1 - x3) then (x_1 - x3) else 0), .ref r0], h)) rfl ?_
  obtain ⟨fs2, e2, l2, w⟩ := w
  refine gw_pf (hk _ _ rfl) e2 l2 rfl ?_
  obtain ⟨h_2, eh2⟩ : ∃ z, z = gm_put h r0 (.inr (6, fs2.set 3 (.int (if 0 < (x_1 - x3) then (x_1 - x3) else 0)))) := ⟨_, rfl⟩
  rw [← eh2]
  replace w := w h_2 eh2
  refine gw_pst hk 3 (st' := (47, [some (.ref r0), none, none, some (.int x3), some (.int xs0)], [.ref r0, .int 0, .ref r0], h_2)) rfl ?_
  obtain ⟨x_3, e3, w⟩ := w
  refine gw_gf (hk _ _ rfl) e3 ?_
  refine gw_pst hk 3 (st' := (56, [some (.ref r0), none, none, some (.int x3), some (.int xs0)], [.int (if 0 < (x_3 - xs0) then (x_3 - xs0) else 0), .ref r0], h_2)) rfl ?_
  obtain ⟨fs4, e4, l4, w⟩ := w
  refine gw_pf (hk _ _ rfl) e4 l4 rfl ?_
  obtain ⟨h_4, eh4⟩ : ∃ z, z = gm_put h_2 r0 (.inr (6, fs4.set 4 (.int (if 0 < (x_3 - xs0) then (x_3 - xs0) else 0)))) := ⟨_, rfl⟩
  rw [← eh4]
  replace w := w h_4 eh4
  exact gw_ret (hk _ _ rfl) rfl w
def w56_16 (c : gx) (d : Nat) (Post : Option Value → gm_H → Prop) (r0 : Nat) (x1 : Int32) (x2 : Int32) (xs0 : Int32) (h : gm_H) : Prop :=
  ((x1 ≤ 0 → w56_28 c d Post r0 xs0 (x2 / 3) h) ∧ (¬ (x1 ≤ 0) → w56_28 c d Post r0 xs0 x2 h))
theorem ok56_16 (c : gx) (d : Nat) (Post : Option Value → gm_H → Prop)  (r0 : Nat) (x1 : Int32) (x2 : Int32) (xs0 : Int32) (h : gm_H) (w : w56_16 c d Post r0 x1 x2 xs0 h) : gV c d 56 (16, [some (.ref r0), some (.int x1), some (.int x2), none, none], [.int xs0], h) Post := by
  have hk : ∀ pc i, gm_find gk_56 pc = some i → gm_code (gt_T c.1 c.2.1 c.2.2.1) 56 pc = some i := fun _ _ z => z
  unfold w56_16 at w
  unfold gV
  refine gw_pst hk 2 (st' := (18, [some (.ref r0), some (.int x1), some (.int x2), some (.int xs0), none], [.int x1], h)) rfl ?_
  refine gw_br (c := x1 ≤ 0) (a := (25, [some (.ref r0), some (.int x1), some (.int x2), some (.int xs0), none], [], h)) (b := (21, [some (.ref r0), some (.int x1), some (.int x2), some (.int xs0), none], [], h)) (hk _ _ rfl) rfl ⟨fun z1 => ?_, fun z1 => ?_⟩
  · replace w := w.1 z1
    refine gw_pst hk 2 (st' := (27, [some (.ref r0), some (.int x1), some (.int x2), some (.int xs0), none], [.int 3, .int x2], h)) rfl ?_
    refine gw_idiv (hk _ _ rfl) (by decide) ?_ rfl
    refine gw_le (L' := [some (.ref r0), none, none, some (.int xs0), none]) (gm_le_k _ (gm_le_n _ (gm_le_n _ (gm_le_k _ (gm_le_k _ gm_le_nil))))) ?_
    exact ok56_28 c d Post _ _ _ _ w
  · replace w := w.2 z1
    refine gw_pst hk 2 (st' := (28, [some (.ref r0), some (.int x1), some (.int x2), some (.int xs0), none], [.int x2], h)) rfl ?_
    refine gw_le (L' := [some (.ref r0), none, none, some (.int xs0), none]) (gm_le_k _ (gm_le_n _ (gm_le_n _ (gm_le_k _ (gm_le_k _ gm_le_nil))))) ?_
    exact ok56_28 c d Post _ _ _ _ w
/-- CommandByTurns$Standing.suffer(I)V -/
def wm56 (c : gx) (d : Nat) (Post : Option Value → gm_H → Prop) (r0 : Nat) (x1 : Int32) (h : gm_H) : Prop :=
  ((x1 ≤ 0 → w56_16 c d Post r0 x1 (if 0 ≤ x1 then x1 else 0 - x1) (if 0 ≤ x1 then x1 else 0 - x1) h) ∧ (¬ (x1 ≤ 0) → w56_16 c d Post r0 x1 (if 0 ≤ x1 then x1 else 0 - x1) ((if 0 ≤ x1 then x1 else 0 - x1) / 3) h))
theorem okm56 (c : gx) (d : Nat) (Post : Option Value → gm_H → Prop) (r0 : Nat) (x1 : Int32) (h : gm_H) (w : wm56 c d Post r0 x1 h) : gE c (d + 1) 56 [.ref r0, .int x1] h Post := by
  have hk : ∀ pc i, gm_find gk_56 pc = some i → gm_code (gt_T c.1 c.2.1 c.2.2.1) 56 pc = some i := fun _ _ z => z
  unfold wm56 at w
  refine ge_of (by decide) (Nat.le_of_ble_eq_true rfl) ?_
  show gV c d 56 (0, [some (.ref r0), some (.int x1), none, none, none], [], h) Post
  unfold gV
  refine gw_pst hk 4 (st' := (6, [some (.ref r0), some (.int x1), some (.int (if 0 ≤ x1 then x1 else 0 - x1)), none, none], [.int x1], h)) rfl ?_
  refine gw_br (c := x1 ≤ 0) (a := (15, [some (.ref r0), some (.int x1), some (.int (if 0 ≤ x1 then x1 else 0 - x1)), none, none], [], h)) (b := (9, [some (.ref r0), some (.int x1), some (.int (if 0 ≤ x1 then x1 else 0 - x1)), none, none], [], h)) (hk _ _ rfl) rfl ⟨fun z1 => ?_, fun z1 => ?_⟩
  · replace w := w.1 z1
    refine gw_pst hk 1 (st' := (16, [some (.ref r0), some (.int x1), some (.int (if 0 ≤ x1 then x1 else 0 - x1)), none, none], [.int (if 0 ≤ x1 then x1 else 0 - x1)], h)) rfl ?_
    exact ok56_16 c d Post _ _ _ _ _ w
  · replace w := w.2 z1
    refine gw_pst hk 2 (st' := (11, [some (.ref r0), some (.int x1), some (.int (if 0 ≤ x1 then x1 else 0 - x1)), none, none], [.int 3, .int (if 0 ≤ x1 then x1 else 0 - x1)], h)) rfl ?_
    refine gw_idiv (hk _ _ rfl) (by decide) ?_ rfl
    refine gw_pst hk 1 (st' := (16, [some (.ref r0), some (.int x1), some (.int (if 0 ≤ x1 then x1 else 0 - x1)), none, none], [.int ((if 0 ≤ x1 then x1 else 0 - x1) / 3)], h)) rfl ?_
    exact ok56_16 c d Post _ _ _ _ _ w
/-- CommandByTurns$Standing.nightTakes()I -/
def wm57 (c : gx) (d : Nat) (Post : Option Value → gm_H → Prop) (r0 : Nat) (h : gm_H) : Prop :=
  ∃ x_1 : Int32, gm_fld h r0 6 3 = some (.int x_1) ∧ Post (some (.int (if 1 < ((x_1 / 100) + 1) then ((x_1 / 100) + 1) else 1))) h
theorem okm57 (c : gx) (d : Nat) (Post : Option Value → gm_H → Prop) (r0 : Nat) (h : gm_H) (w : wm57 c d Post r0 h) : gE c (d + 1) 57 [.ref r0] h Post := by
  have hk : ∀ pc i, gm_find gk_57 pc = some i → gm_code (gt_T c.1 c.2.1 c.2.2.1) 57 pc = some i := fun _ _ z => z
  unfold wm57 at w
  refine ge_of (by decide) (Nat.le_of_ble_eq_true rfl) ?_
  show gV c d 57 (0, [some (.ref r0)], [], h) Post
  unfold gV
  refine gw_pst hk 2 (st' := (2, [some (.ref r0)], [.ref r0, .int 1], h)) rfl ?_
  obtain ⟨x_1, e1, w⟩ := w
  refine gw_gf (hk _ _ rfl) e1 ?_
  refine gw_pst hk 1 (st' := (7, [some (.ref r0)], [.int 100, .int x_1, .int 1], h)) rfl ?_
  refine gw_idiv (hk _ _ rfl) (by decide) ?_ rfl
  refine gw_pst hk 3 (st' := (13, [some (.ref r0)], [.int (if 1 < ((x_1 / 100) + 1) then ((x_1 / 100) + 1) else 1)], h)) rfl ?_
  exact gw_ret (hk _ _ rfl) rfl w
def w58_47 (c : gx) (d : Nat) (Post : Option Value → gm_H → Prop) (r0 : Nat) (h : gm_H) : Prop :=
  ∃ x_1 : Int32, gm_fld h r0 6 0 = some (.int x_1) ∧ ∃ fs2 : List Value, gm_get h r0 = some (.inr (6, fs2)) ∧ 0 < fs2.length ∧ ∀ h_2 : gm_H, h_2 = gm_put h r0 (.inr (6, fs2.set 0 (.int (x_1 + 1)))) → Post none h_2
theorem ok58_47 (c : gx) (d : Nat) (Post : Option Value → gm_H → Prop)  (r0 : Nat) (h : gm_H) (w : w58_47 c d Post r0 h) : gV c d 58 (47, [some (.ref r0), none], [], h) Post := by
  have hk : ∀ pc i, gm_find gk_58 pc = some i → gm_code (gt_T c.1 c.2.1 c.2.2.1) 58 pc = some i := fun _ _ z => z
  unfold w58_47 at w
  unfold gV
  refine gw_pst hk 2 (st' := (49, [some (.ref r0), none], [.ref r0, .ref r0], h)) rfl ?_
  obtain ⟨x_1, e1, w⟩ := w
  refine gw_gf (hk _ _ rfl) e1 ?_
  refine gw_pst hk 2 (st' := (54, [some (.ref r0), none], [.int (x_1 + 1), .ref r0], h)) rfl ?_
  obtain ⟨fs2, e2, l2, w⟩ := w
  refine gw_pf (hk _ _ rfl) e2 l2 rfl ?_
  obtain ⟨h_2, eh2⟩ : ∃ z, z = gm_put h r0 (.inr (6, fs2.set 0 (.int (x_1 + 1)))) := ⟨_, rfl⟩
  rw [← eh2]
  replace w := w h_2 eh2
  exact gw_ret (hk _ _ rfl) rfl w
/-- CommandByTurns$Standing.night()V -/
def wm58 (c : gx) (d : Nat) (Post : Option Value → gm_H → Prop) (r0 : Nat) (h : gm_H) : Prop :=
  (∃ fs1, gm_get h r0 = some (.inr (6, fs1))) ∧ gE c d 57 [.ref r0] h (fun v1 h_1 => ∃ x_1 : Int32, v1 = some (.int x_1) ∧ ∃ x_2 : Int32, gm_fld h_1 r0 6 5 = some (.int x_2) ∧ ((x_1 ≤ x_2 → ∃ x_4 : Int32, gm_fld h_1 r0 6 5 = some (.int x_4) ∧ ∃ fs5 : List Value, gm_get h_1 r0 = some (.inr (6, fs5)) ∧ 5 < fs5.length ∧ ∀ h_5 : gm_H, h_5 = gm_put h_1 r0 (.inr (6, fs5.set 5 (.int (x_4 - x_1)))) → w58_47 c d Post r0 h_5) ∧ (¬ (x_1 ≤ x_2) → ∃ fs6 : List Value, gm_get h_1 r0 = some (.inr (6, fs6)) ∧ 5 < fs6.length ∧ ∀ h_6 : gm_H, h_6 = gm_put h_1 r0 (.inr (6, fs6.set 5 (.int 0))) → ∃ x_7 : Int32, gm_fld h_6 r0 6 3 = some (.int x_7) ∧ ∃ x_8 : Int32, gm_fld h_6 r0 6 3 = some (.int x_8) ∧ ∃ fs9 : List Value, gm_get h_6 r0 = some (.inr (6, fs9)) ∧ 3 < fs9.length ∧ ∀ h_9 : gm_H, h_9 = gm_put h_6 r0 (.inr (6, fs9.set 3 (.int (x_7 - (x_8 / 10))))) → w58_47 c d Post r0 h_9)))
theorem okm58 (c : gx) (d : Nat) (Post : Option Value → gm_H → Prop) (r0 : Nat) (h : gm_H) (w : wm58 c d Post r0 h) : gE c (d + 1) 58 [.ref r0] h Post := by
  have hk : ∀ pc i, gm_find gk_58 pc = some i → gm_code (gt_T c.1 c.2.1 c.2.2.1) 58 pc = some i := fun _ _ z => z
  unfold wm58 at w
  refine ge_of (by decide) (Nat.le_of_ble_eq_true rfl) ?_
  show gV c d 58 (0, [some (.ref r0), none], [], h) Post
  unfold gV
  refine gw_pst hk 1 (st' := (1, [some (.ref r0), none], [.ref r0], h)) rfl ?_
  obtain ⟨⟨fs1, e1⟩, w⟩ := w
  refine gw_call (jj := 57) (As := [.ref r0]) (rest := []) (hk _ _ rfl) (fun _ => rfl) rfl rfl (Nat.le_of_ble_eq_true rfl) (gm_rcv_v rfl e1 rfl) ?_
  refine ge_imp w (fun v1 h_1 w => ?_)
  obtain ⟨x_1, rfl, w⟩ := w
  show gV c d 58 (4, [some (.ref r0), none], [.int x_1], h_1) Post
  refine gw_pst hk 2 (st' := (6, [some (.ref r0), some (.int x_1)], [.ref r0], h_1)) rfl ?_
  obtain ⟨x_2, e2, w⟩ := w
  refine gw_gf (hk _ _ rfl) e2 ?_
  refine gw_pst hk 1 (st' := (10, [some (.ref r0), some (.int x_1)], [.int x_1, .int x_2], h_1)) rfl ?_
  refine gw_br (c := x_1 ≤ x_2) (a := (37, [some (.ref r0), some (.int x_1)], [], h_1)) (b := (13, [some (.ref r0), some (.int x_1)], [], h_1)) (hk _ _ rfl) rfl ⟨fun z3 => ?_, fun z3 => ?_⟩
  · replace w := w.1 z3
    refine gw_pst hk 2 (st' := (39, [some (.ref r0), some (.int x_1)], [.ref r0, .ref r0], h_1)) rfl ?_
    obtain ⟨x_4, e4, w⟩ := w
    refine gw_gf (hk _ _ rfl) e4 ?_
    refine gw_pst hk 2 (st' := (44, [some (.ref r0), some (.int x_1)], [.int (x_4 - x_1), .ref r0], h_1)) rfl ?_
    obtain ⟨fs5, e5, l5, w⟩ := w
    refine gw_pf (hk _ _ rfl) e5 l5 rfl ?_
    obtain ⟨h_5, eh5⟩ : ∃ z, z = gm_put h_1 r0 (.inr (6, fs5.set 5 (.int (x_4 - x_1)))) := ⟨_, rfl⟩
    rw [← eh5]
    replace w := w h_5 eh5
    refine gw_le (L' := [some (.ref r0), none]) (gm_le_k _ (gm_le_n _ gm_le_nil)) ?_
    exact ok58_47 c d Post _ _ w
  · replace w := w.2 z3
    refine gw_pst hk 2 (st' := (15, [some (.ref r0), some (.int x_1)], [.int 0, .ref r0], h_1)) rfl ?_
    obtain ⟨fs6, e6, l6, w⟩ := w
    refine gw_pf (hk _ _ rfl) e6 l6 rfl ?_
    obtain ⟨h_6, eh6⟩ : ∃ z, z = gm_put h_1 r0 (.inr (6, fs6.set 5 (.int 0))) := ⟨_, rfl⟩
    rw [← eh6]
    replace w := w h_6 eh6
    refine gw_pst hk 2 (st' := (20, [some (.ref r0), some (.int x_1)], [.ref r0, .ref r0], h_6)) rfl ?_
    obtain ⟨x_7, e7, w⟩ := w
    refine gw_gf (hk _ _ rfl) e7 ?_
    refine gw_pst hk 1 (st' := (24, [some (.ref r0), some (.int x_1)], [.ref r0, .int x_7, .ref r0], h_6)) rfl ?_
    obtain ⟨x_8, e8, w⟩ := w
    refine gw_gf (hk _ _ rfl) e8 ?_
    refine gw_pst hk 1 (st' := (29, [some (.ref r0), some (.int x_1)], [.int 10, .int x_8, .int x_7, .ref r0], h_6)) rfl ?_
    refine gw_idiv (hk _ _ rfl) (by decide) ?_ rfl
    refine gw_pst hk 1 (st' := (31, [some (.ref r0), some (.int x_1)], [.int (x_7 - (x_8 / 10)), .ref r0], h_6)) rfl ?_
    obtain ⟨fs9, e9, l9, w⟩ := w
    refine gw_pf (hk _ _ rfl) e9 l9 rfl ?_
    obtain ⟨h_9, eh9⟩ : ∃ z, z = gm_put h_6 r0 (.inr (6, fs9.set 3 (.int (x_7 - (x_8 / 10))))) := ⟨_, rfl⟩
    rw [← eh9]
    replace w := w h_9 eh9
    refine gw_pst hk 1 (st' := (47, [some (.ref r0), some (.int x_1)], [], h_9)) rfl ?_
    refine gw_le (L' := [some (.ref r0), none]) (gm_le_k _ (gm_le_n _ gm_le_nil)) ?_
    exact ok58_47 c d Post _ _ w
