/-! What must hold for a run to end with Post: by program (wip/whole/gen_wp.py). -/
def w231_62 (c : gx) (d : Nat) (Post : Option Value → gm_H → Prop) (K31 : Nat → Int32 → Int32 → Int32 → gm_H → Prop) (r0 : Nat) (x1 : Int32) (x3 : Int32) (xs0 : Int32) (xs1 : Int32) (h : gm_H) : Prop :=
  K31 r0 x1 (xs0 ||| xs1) (x3 + 1) h
theorem ok231_62 (c : gx) (d : Nat) (Post : Option Value → gm_H → Prop) (K31 : Nat → Int32 → Int32 → Int32 → gm_H → Prop)  (hK31 : ∀ (r0 : Nat) (x1 : Int32) (x2 : Int32) (x3 : Int32) (h : gm_H), K31 r0 x1 x2 x3 h → gV c d 231 (31, [some (.ref r0), some (.int x1), some (.int x2), some (.int x3)], [], h) Post) (r0 : Nat) (x1 : Int32) (x3 : Int32) (xs0 : Int32) (xs1 : Int32) (h : gm_H) (w : w231_62 c d Post K31 r0 x1 x3 xs0 xs1 h) : gV c d 231 (62, [some (.ref r0), some (.int x1), none, some (.int x3)], [.int xs1, .int xs0], h) Post := by
  have hk : ∀ pc i, gm_find gk_231 pc = some i → gm_code (gt_T c.1 c.2.1 c.2.2.1) 231 pc = some i := fun _ _ z => z
  unfold w231_62 at w
  unfold gV
  refine gw_pst hk 4 (st' := (31, [some (.ref r0), some (.int x1), some (.int (xs0 ||| xs1)), some (.int (x3 + 1))], [], h)) rfl ?_
  exact hK31 _ _ _ _ _ w
def wb231_31 (c : gx) (d : Nat) (Post : Option Value → gm_H → Prop) (K31 : Nat → Int32 → Int32 → Int32 → gm_H → Prop) (r0 : Nat) (x1 : Int32) (x2 : Int32) (x3 : Int32) (h : gm_H) : Prop :=
  ∃ x_1 : Int32, gm_fld h r0 10 1 = some (.int x_1) ∧ ((x_1 ≤ x3 → ∃ fs3 : List Value, gm_get h r0 = some (.inr (10, fs3)) ∧ 12 < fs3.length ∧ ∀ h_3 : gm_H, h_3 = gm_put h r0 (.inr (10, fs3.set 12 (.int 0))) → gE c d 266 [.int x2] h_3 (fun v4 h_4 => ∃ x_4 : Int32, v4 = some (.int x_4) ∧ (∃ fs5, gm_get h_4 r0 = some (.inr (10, fs5))) ∧ gE c d 157 [.ref r0, .long ((x_4 : Int32).toInt64)] h_4 (fun v5 h_5 => v5 = none ∧ Post (some (.int x2)) h_5))) ∧ (¬ (x_1 ≤ x3) → ∃ q_6 : Nat, gm_fld h r0 10 31 = some (.ref q_6) ∧ (∃ fs7, gm_get h r0 = some (.inr (10, fs7))) ∧ gE c d 227 [.ref r0, .int 0, .int x3] h (fun v7 h_7 => ∃ x_7 : Int32, v7 = some (.int x_7) ∧ ∃ (n8 : Nat) (f8 : Nat → Int32), gm_get h_7 q_6 = some (.inl (0, n8, .inl f8)) ∧ vp_in x_7 n8 ∧ (((f8 (x_7 : Int32).toNatClampNeg) = x1 → w231_62 c d Post K31 r0 x1 x3 x2 (1 <<< (x3 &&& 31)) h_7) ∧ (¬ ((f8 (x_7 : Int32).toNatClampNeg) = x1) → w231_62 c d Post K31 r0 x1 x3 x2 0 h_7)))))
theorem okb231_31 (c : gx) (d : Nat) (Post : Option Value → gm_H → Prop) (K31 : Nat → Int32 → Int32 → Int32 → gm_H → Prop)  (hK31 : ∀ (r0 : Nat) (x1 : Int32) (x2 : Int32) (x3 : Int32) (h : gm_H), K31 r0 x1 x2 x3 h → gV c d 231 (31, [some (.ref r0), some (.int x1), some (.int x2), some (.int x3)], [], h) Post) (r0 : Nat) (x1 : Int32) (x2 : Int32) (x3 : Int32) (h : gm_H) (w : wb231_31 c d Post K31 r0 x1 x2 x3 h) : gV c d 231 (31, [some (.ref r0), some (.int x1), some (.int x2), some (.int x3)], [], h) Post := by
  have hk : ∀ pc i, gm_find gk_231 pc = some i → gm_code (gt_T c.1 c.2.1 c.2.2.1) 231 pc = some i := fun _ _ z => z
  unfold wb231_31 at w
  unfold gV
  refine gw_pst hk 2 (st' := (33, [some (.ref r0), some (.int x1), some (.int x2), some (.int x3)], [.ref r0, .int x3], h)) rfl ?_
  obtain ⟨x_1, e1, w⟩ := w
  refine gw_gf (hk _ _ rfl) e1 ?_
  refine gw_br (c := x_1 ≤ x3) (a := (70, [some (.ref r0), some (.int x1), some (.int x2), some (.int x3)], [], h)) (b := (39, [some (.ref r0), some (.int x1), some (.int x2), some (.int x3)], [], h)) (hk _ _ rfl) rfl ⟨fun z2 => ?_, fun z2 => ?_⟩
  · replace w := w.1 z2
    refine gw_pst hk 2 (st' := (72, [some (.ref r0), some (.int x1), some (.int x2), some (.int x3)], [.int 0, .ref r0], h)) rfl ?_
    obtain ⟨fs3, e3, l3, w⟩ := w
    refine gw_pf (hk _ _ rfl) e3 l3 rfl ?_
    obtain ⟨h_3, eh3⟩ : ∃ z, z = gm_put h r0 (.inr (10, fs3.set 12 (.int 0))) := ⟨_, rfl⟩
    rw [← eh3]
    replace w := w h_3 eh3
    refine gw_pst hk 2 (st' := (77, [some (.ref r0), some (.int x1), some (.int x2), some (.int x3)], [.int x2, .ref r0], h_3)) rfl ?_
    refine gw_call (jj := 266) (As := [.int x2]) (rest := [.ref r0]) (hk _ _ rfl) (fun _ => rfl) rfl rfl (Nat.le_of_ble_eq_true rfl) rfl ?_
    refine ge_imp w (fun v4 h_4 w => ?_)
    obtain ⟨x_4, rfl, w⟩ := w
    show gV c d 231 (80, [some (.ref r0), some (.int x1), some (.int x2), some (.int x3)], [.int x_4, .ref r0], h_4) Post
    refine gw_pst hk 1 (st' := (81, [some (.ref r0), some (.int x1), some (.int x2), some (.int x3)], [.long ((x_4 : Int32).toInt64), .ref r0], h_4)) rfl ?_
    obtain ⟨⟨fs5, e5⟩, w⟩ := w
    refine gw_call (jj := 157) (As := [.ref r0, .long ((x_4 : Int32).toInt64)]) (rest := []) (hk _ _ rfl) (fun _ => rfl) rfl rfl (Nat.le_of_ble_eq_true rfl) (gm_rcv_v rfl e5 rfl) ?_
    refine ge_imp w (fun v5 h_5 w => ?_)
    obtain ⟨rfl, w⟩ := w
    show gV c d 231 (84, [some (.ref r0), some (.int x1), some (.int x2), some (.int x3)], [], h_5) Post
    refine gw_pst hk 1 (st' := (85, [some (.ref r0), some (.int x1), some (.int x2), some (.int x3)], [.int x2], h_5)) rfl ?_
    exact gw_ret (hk _ _ rfl) rfl w
  · replace w := w.2 z2
    refine gw_pst hk 2 (st' := (41, [some (.ref r0), some (.int x1), some (.int x2), some (.int x3)], [.ref r0, .int x2], h)) rfl ?_
    obtain ⟨q_6, e6, w⟩ := w
    refine gw_gf (hk _ _ rfl) e6 ?_
    refine gw_pst hk 3 (st' := (47, [some (.ref r0), some (.int x1), some (.int x2), some (.int x3)], [.int x3, .int 0, .ref r0, .ref q_6, .int x2], h)) rfl ?_
    obtain ⟨⟨fs7, e7⟩, w⟩ := w
    refine gw_call (jj := 227) (As := [.ref r0, .int 0, .int x3]) (rest := [.ref q_6, .int x2]) (hk _ _ rfl) (fun _ => rfl) rfl rfl (Nat.le_of_ble_eq_true rfl) (gm_rcv_v rfl e7 rfl) ?_
    refine ge_imp w (fun v7 h_7 w => ?_)
    obtain ⟨x_7, rfl, w⟩ := w
    show gV c d 231 (50, [some (.ref r0), some (.int x1), some (.int x2), some (.int x3)], [.int x_7, .ref q_6, .int x2], h_7) Post
    obtain ⟨n8, f8, e8, b8, w⟩ := w
    refine gw_ald (hk _ _ rfl) (Or.inl ⟨rfl, rfl⟩) e8 b8 ?_
    refine gw_pst hk 1 (st' := (52, [some (.ref r0), some (.int x1), some (.int x2), some (.int x3)], [.int x1, .int (f8 (x_7 : Int32).toNatClampNeg), .int x2], h_7)) rfl ?_
    refine gw_br (c := (f8 (x_7 : Int32).toNatClampNeg) = x1) (a := (55, [some (.ref r0), some (.int x1), some (.int x2), some (.int x3)], [.int x2], h_7)) (b := (61, [some (.ref r0), some (.int x1), some (.int x2), some (.int x3)], [.int x2], h_7)) (hk _ _ rfl) rfl ⟨fun z9 => ?_, fun z9 => ?_⟩
    · replace w := w.1 z9
      refine gw_pst hk 4 (st' := (62, [some (.ref r0), some (.int x1), some (.int x2), some (.int x3)], [.int (1 <<< (x3 &&& 31)), .int x2], h_7)) rfl ?_
      refine gw_le (L' := [some (.ref r0), some (.int x1), none, some (.int x3)]) (gm_le_k _ (gm_le_k _ (gm_le_n _ (gm_le_k _ gm_le_nil)))) ?_
      exact ok231_62 c d Post K31 hK31 _ _ _ _ _ _ w
    · replace w := w.2 z9
      refine gw_pst hk 1 (st' := (62, [some (.ref r0), some (.int x1), some (.int x2), some (.int x3)], [.int 0, .int x2], h_7)) rfl ?_
      refine gw_le (L' := [some (.ref r0), some (.int x1), none, some (.int x3)]) (gm_le_k _ (gm_le_k _ (gm_le_n _ (gm_le_k _ gm_le_nil)))) ?_
      exact ok231_62 c d Post K31 hK31 _ _ _ _ _ _ w
def wl231_31 (c : gx) (d : Nat) (Post : Option Value → gm_H → Prop) : Nat → Nat → Int32 → Int32 → Int32 → gm_H → Prop
  | 0 => fun _ _ _ _ _ => False
  | n + 1 => wb231_31 c d Post (wl231_31 c d Post n)
theorem okl231_31 (c : gx) (d : Nat) (Post : Option Value → gm_H → Prop) : ∀ (n : Nat) (r0 : Nat) (x1 : Int32) (x2 : Int32) (x3 : Int32) (h : gm_H), wl231_31 c d Post n r0 x1 x2 x3 h → gV c d 231 (31, [some (.ref r0), some (.int x1), some (.int x2), some (.int x3)], [], h) Post
  | 0, _, _, _, _, _, w => w.elim
  | n + 1, r0, x1, x2, x3, h, w => okb231_31 c d Post (wl231_31 c d Post n) (okl231_31 c d Post n) r0 x1 x2 x3 h w
/-- CommandByTurnsModel.safe(I)I -/
def wm231 (c : gx) (d : Nat) (Post : Option Value → gm_H → Prop) (r0 : Nat) (x1 : Int32) (h : gm_H) : Prop :=
  ∃ fs1 : List Value, gm_get h r0 = some (.inr (10, fs1)) ∧ 13 < fs1.length ∧ ∀ h_1 : gm_H, h_1 = gm_put h r0 (.inr (10, fs1.set 13 (.int 0))) → gE c d 154 [.int x1, .int 1, .int 20] h_1 (fun v2 h_2 => ∃ x_2 : Int32, v2 = some (.int x_2) ∧ ((x_2 = 0 → Post (some (.int (-1))) h_2) ∧ (¬ (x_2 = 0) → ∃ fs4 : List Value, gm_get h_2 r0 = some (.inr (10, fs4)) ∧ 32 < fs4.length ∧ ∀ h_4 : gm_H, h_4 = gm_put h_2 r0 (.inr (10, fs4.set 32 (.int 0))) → (∃ fs5, gm_get h_4 r0 = some (.inr (10, fs5))) ∧ gE c d 229 [.ref r0, .int x1] h_4 (fun v5 h_5 => v5 = none ∧ ∃ n, wl231_31 c d Post n r0 x1 0 0 h_5))))
theorem okm231 (c : gx) (d : Nat) (Post : Option Value → gm_H → Prop) (r0 : Nat) (x1 : Int32) (h : gm_H) (w : wm231 c d Post r0 x1 h) : gE c (d + 1) 231 [.ref r0, .int x1] h Post := by
  have hk : ∀ pc i, gm_find gk_231 pc = some i → gm_code (gt_T c.1 c.2.1 c.2.2.1) 231 pc = some i := fun _ _ z => z
  unfold wm231 at w
  refine ge_of (by decide) (Nat.le_of_ble_eq_true rfl) ?_
  show gV c d 231 (0, [some (.ref r0), some (.int x1), none, none], [], h) Post
  unfold gV
  refine gw_pst hk 2 (st' := (2, [some (.ref r0), some (.int x1), none, none], [.int 0, .ref r0], h)) rfl ?_
  obtain ⟨fs1, e1, l1, w⟩ := w
  refine gw_pf (hk _ _ rfl) e1 l1 rfl ?_
  obtain ⟨h_1, eh1⟩ : ∃ z, z = gm_put h r0 (.inr (10, fs1.set 13 (.int 0))) := ⟨_, rfl⟩
  rw [← eh1]
  replace w := w h_1 eh1
  refine gw_pst hk 3 (st' := (9, [some (.ref r0), some (.int x1), none, none], [.int 20, .int 1, .int x1], h_1)) rfl ?_
  refine gw_call (jj := 154) (As := [.int x1, .int 1, .int 20]) (rest := []) (hk _ _ rfl) (fun _ => rfl) rfl rfl (Nat.le_of_ble_eq_true rfl) rfl ?_
  refine ge_imp w (fun v2 h_2 w => ?_)
  obtain ⟨x_2, rfl, w⟩ := w
  show gV c d 231 (12, [some (.ref r0), some (.int x1), none, none], [.int x_2], h_2) Post
  refine gw_br (c := x_2 = 0) (a := (15, [some (.ref r0), some (.int x1), none, none], [], h_2)) (b := (17, [some (.ref r0), some (.int x1), none, none], [], h_2)) (hk _ _ rfl) rfl ⟨fun z3 => ?_, fun z3 => ?_⟩
  · replace w := w.1 z3
    refine gw_pst hk 1 (st' := (16, [some (.ref r0), some (.int x1), none, none], [.int (-1)], h_2)) rfl ?_
    exact gw_ret (hk _ _ rfl) rfl w
  · replace w := w.2 z3
    refine gw_pst hk 2 (st' := (19, [some (.ref r0), some (.int x1), none, none], [.int 0, .ref r0], h_2)) rfl ?_
    obtain ⟨fs4, e4, l4, w⟩ := w
    refine gw_pf (hk _ _ rfl) e4 l4 rfl ?_
    obtain ⟨h_4, eh4⟩ : ∃ z, z = gm_put h_2 r0 (.inr (10, fs4.set 32 (.int 0))) := ⟨_, rfl⟩
    rw [← eh4]
    replace w := w h_4 eh4
    refine gw_pst hk 2 (st' := (24, [some (.ref r0), some (.int x1), none, none], [.int x1, .ref r0], h_4)) rfl ?_
    obtain ⟨⟨fs5, e5⟩, w⟩ := w
    refine gw_call (jj := 229) (As := [.ref r0, .int x1]) (rest := []) (hk _ _ rfl) (fun _ => rfl) rfl rfl (Nat.le_of_ble_eq_true rfl) (gm_rcv_v rfl e5 rfl) ?_
    refine ge_imp w (fun v5 h_5 w => ?_)
    obtain ⟨rfl, w⟩ := w
    show gV c d 231 (27, [some (.ref r0), some (.int x1), none, none], [], h_5) Post
    refine gw_pst hk 4 (st' := (31, [some (.ref r0), some (.int x1), some (.int 0), some (.int 0)], [], h_5)) rfl ?_
    obtain ⟨n, w⟩ := w
    exact okl231_31 c d Post n _ _ _ _ _ w
def w232_53 (c : gx) (d : Nat) (Post : Option Value → gm_H → Prop) (K21 : Nat → Int32 → Int32 → Int32 → gm_H → Prop) (r0 : Nat) (x1 : Int32) (x3 : Int32) (xs0 : Int32) (xs1 : Int32) (h : gm_H) : Prop :=
  K21 r0 x1 (xs0 ||| xs1) (x3 + 1) h
theorem ok232_53 (c : gx) (d : Nat) (Post : Option Value → gm_H → Prop) (K21 : Nat → Int32 → Int32 → Int32 → gm_H → Prop)  (hK21 : ∀ (r0 : Nat) (x1 : Int32) (x2 : Int32) (x3 : Int32) (h : gm_H), K21 r0 x1 x2 x3 h → gV c d 232 (21, [some (.ref r0), some (.int x1), some (.int x2), some (.int x3), none], [], h) Post) (r0 : Nat) (x1 : Int32) (x3 : Int32) (xs0 : Int32) (xs1 : Int32) (h : gm_H) (w : w232_53 c d Post K21 r0 x1 x3 xs0 xs1 h) : gV c d 232 (53, [some (.ref r0), some (.int x1), none, some (.int x3), none], [.int xs1, .int xs0], h) Post := by
  have hk : ∀ pc i, gm_find gk_232 pc = some i → gm_code (gt_T c.1 c.2.1 c.2.2.1) 232 pc = some i := fun _ _ z => z
  unfold w232_53 at w
  unfold gV
  refine gw_pst hk 4 (st' := (21, [some (.ref r0), some (.int x1), some (.int (xs0 ||| xs1)), some (.int (x3 + 1)), none], [], h)) rfl ?_
  exact hK21 _ _ _ _ _ w
def w232_135 (c : gx) (d : Nat) (Post : Option Value → gm_H → Prop) (K66 : Nat → Int32 → Int32 → Int32 → Int32 → gm_H → Prop) (r0 : Nat) (x1 : Int32) (x2 : Int32) (x3 : Int32) (x4 : Int32) (h : gm_H) : Prop :=
  K66 r0 x1 x2 x3 (x4 + 1) h
theorem ok232_135 (c : gx) (d : Nat) (Post : Option Value → gm_H → Prop) (K66 : Nat → Int32 → Int32 → Int32 → Int32 → gm_H → Prop)  (hK66 : ∀ (r0 : Nat) (x1 : Int32) (x2 : Int32) (x3 : Int32) (x4 : Int32) (h : gm_H), K66 r0 x1 x2 x3 x4 h → gV c d 232 (66, [some (.ref r0), some (.int x1), some (.int x2), some (.int x3), some (.int x4)], [], h) Post) (r0 : Nat) (x1 : Int32) (x2 : Int32) (x3 : Int32) (x4 : Int32) (h : gm_H) (w : w232_135 c d Post K66 r0 x1 x2 x3 x4 h) : gV c d 232 (135, [some (.ref r0), some (.int x1), some (.int x2), some (.int x3), some (.int x4)], [], h) Post := by
  have hk : ∀ pc i, gm_find gk_232 pc = some i → gm_code (gt_T c.1 c.2.1 c.2.2.1) 232 pc = some i := fun _ _ z => z
  unfold w232_135 at w
  unfold gV
  refine gw_pst hk 2 (st' := (66, [some (.ref r0), some (.int x1), some (.int x2), some (.int x3), some (.int (x4 + 1))], [], h)) rfl ?_
  exact hK66 _ _ _ _ _ _ w
def w232_101 (c : gx) (d : Nat) (Post : Option Value → gm_H → Prop) (K66 : Nat → Int32 → Int32 → Int32 → Int32 → gm_H → Prop) (r0 : Nat) (x1 : Int32) (x2 : Int32) (x3 : Int32) (x4 : Int32) (h : gm_H) : Prop :=
  ∃ fs1 : List Value, gm_get h r0 = some (.inr (10, fs1)) ∧ 32 < fs1.length ∧ ∀ h_1 : gm_H, h_1 = gm_put h r0 (.inr (10, fs1.set 32 (.int x4))) → (∃ fs2, gm_get h_1 r0 = some (.inr (10, fs2))) ∧ gE c d 229 [.ref r0, .int x1] h_1 (fun v2 h_2 => v2 = none ∧ ∃ q_3 : Nat, gm_fld h_2 r0 10 31 = some (.ref q_3) ∧ ∃ q_4 : Nat, gm_fld h_2 r0 10 0 = some (.ref q_4) ∧ ∃ (n5 : Nat) (f5 : Nat → Int32), gm_get h_2 q_4 = some (.inl (0, n5, .inl f5)) ∧ vp_in 1 n5 ∧ (∃ fs6, gm_get h_2 r0 = some (.inr (10, fs6))) ∧ gE c d 227 [.ref r0, .int 0, .int (f5 (1 : Int32).toNatClampNeg)] h_2 (fun v6 h_6 => ∃ x_6 : Int32, v6 = some (.int x_6) ∧ ∃ (n7 : Nat) (f7 : Nat → Int32), gm_get h_6 q_3 = some (.inl (0, n7, .inl f7)) ∧ vp_in x_6 n7 ∧ ((x1 ≤ (f7 (x_6 : Int32).toNatClampNeg) → w232_135 c d Post K66 r0 x1 x2 x3 x4 h_6) ∧ (¬ (x1 ≤ (f7 (x_6 : Int32).toNatClampNeg)) → w232_135 c d Post K66 r0 x1 x2 x4 x4 h_6))))
theorem ok232_101 (c : gx) (d : Nat) (Post : Option Value → gm_H → Prop) (K66 : Nat → Int32 → Int32 → Int32 → Int32 → gm_H → Prop)  (hK66 : ∀ (r0 : Nat) (x1 : Int32) (x2 : Int32) (x3 : Int32) (x4 : Int32) (h : gm_H), K66 r0 x1 x2 x3 x4 h → gV c d 232 (66, [some (.ref r0), some (.int x1), some (.int x2), some (.int x3), some (.int x4)], [], h) Post) (r0 : Nat) (x1 : Int32) (x2 : Int32) (x3 : Int32) (x4 : Int32) (h : gm_H) (w : w232_101 c d Post K66 r0 x1 x2 x3 x4 h) : gV c d 232 (101, [some (.ref r0), some (.int x1), some (.int x2), some (.int x3), some (.int x4)], [], h) Post := by
  have hk : ∀ pc i, gm_find gk_232 pc = some i → gm_code (gt_T c.1 c.2.1 c.2.2.1) 232 pc = some i := fun _ _ z => z
  unfold w232_101 at w
  unfold gV
  refine gw_pst hk 2 (st' := (104, [some (.ref r0), some (.int x1), some (.int x2), some (.int x3), some (.int x4)], [.int x4, .ref r0], h)) rfl ?_
  obtain ⟨fs1, e1, l1, w⟩ := w
  refine gw_pf (hk _ _ rfl) e1 l1 rfl ?_
  obtain ⟨h_1, eh1⟩ : ∃ z, z = gm_put h r0 (.inr (10, fs1.set 32 (.int x4))) := ⟨_, rfl⟩
  rw [← eh1]
  replace w := w h_1 eh1
  refine gw_pst hk 2 (st' := (109, [some (.ref r0), some (.int x1), some (.int x2), some (.int x3), some (.int x4)], [.int x1, .ref r0], h_1)) rfl ?_
  obtain ⟨⟨fs2, e2⟩, w⟩ := w
  refine gw_call (jj := 229) (As := [.ref r0, .int x1]) (rest := []) (hk _ _ rfl) (fun _ => rfl) rfl rfl (Nat.le_of_ble_eq_true rfl) (gm_rcv_v rfl e2 rfl) ?_
  refine ge_imp w (fun v2 h_2 w => ?_)
  obtain ⟨rfl, w⟩ := w
  show gV c d 232 (112, [some (.ref r0), some (.int x1), some (.int x2), some (.int x3), some (.int x4)], [], h_2) Post
  refine gw_pst hk 1 (st' := (113, [some (.ref r0), some (.int x1), some (.int x2), some (.int x3), some (.int x4)], [.ref r0], h_2)) rfl ?_
  obtain ⟨q_3, e3, w⟩ := w
  refine gw_gf (hk _ _ rfl) e3 ?_
  refine gw_pst hk 3 (st' := (119, [some (.ref r0), some (.int x1), some (.int x2), some (.int x3), some (.int x4)], [.ref r0, .int 0, .ref r0, .ref q_3], h_2)) rfl ?_
  obtain ⟨q_4, e4, w⟩ := w
  refine gw_gf (hk _ _ rfl) e4 ?_
  refine gw_pst hk 1 (st' := (123, [some (.ref r0), some (.int x1), some (.int x2), some (.int x3), some (.int x4)], [.int 1, .ref q_4, .int 0, .ref r0, .ref q_3], h_2)) rfl ?_
  obtain ⟨n5, f5, e5, b5, w⟩ := w
  refine gw_ald (hk _ _ rfl) (Or.inl ⟨rfl, rfl⟩) e5 b5 ?_
  obtain ⟨⟨fs6, e6⟩, w⟩ := w
  refine gw_call (jj := 227) (As := [.ref r0, .int 0, .int (f5 (1 : Int32).toNatClampNeg)]) (rest := [.ref q_3]) (hk _ _ rfl) (fun _ => rfl) rfl rfl (Nat.le_of_ble_eq_true rfl) (gm_rcv_v rfl e6 rfl) ?_
  refine ge_imp w (fun v6 h_6 w => ?_)
  obtain ⟨x_6, rfl, w⟩ := w
  show gV c d 232 (127, [some (.ref r0), some (.int x1), some (.int x2), some (.int x3), some (.int x4)], [.int x_6, .ref q_3], h_6) Post
  obtain ⟨n7, f7, e7, b7, w⟩ := w
  refine gw_ald (hk _ _ rfl) (Or.inl ⟨rfl, rfl⟩) e7 b7 ?_
  refine gw_pst hk 1 (st' := (129, [some (.ref r0), some (.int x1), some (.int x2), some (.int x3), some (.int x4)], [.int x1, .int (f7 (x_6 : Int32).toNatClampNeg)], h_6)) rfl ?_
  refine gw_br (c := x1 ≤ (f7 (x_6 : Int32).toNatClampNeg)) (a := (135, [some (.ref r0), some (.int x1), some (.int x2), some (.int x3), some (.int x4)], [], h_6)) (b := (132, [some (.ref r0), some (.int x1), some (.int x2), some (.int x3), some (.int x4)], [], h_6)) (hk _ _ rfl) rfl ⟨fun z8 => ?_, fun z8 => ?_⟩
  · replace w := w.1 z8
    exact ok232_135 c d Post K66 hK66 _ _ _ _ _ _ w
  · replace w := w.2 z8
    refine gw_pst hk 2 (st' := (135, [some (.ref r0), some (.int x1), some (.int x2), some (.int x4), some (.int x4)], [], h_6)) rfl ?_
    exact ok232_135 c d Post K66 hK66 _ _ _ _ _ _ w
def wb232_66 (c : gx) (d : Nat) (Post : Option Value → gm_H → Prop) (K66 : Nat → Int32 → Int32 → Int32 → Int32 → gm_H → Prop) (r0 : Nat) (x1 : Int32) (x2 : Int32) (x3 : Int32) (x4 : Int32) (h : gm_H) : Prop :=
  ((x2 < x4 → ∃ fs2 : List Value, gm_get h r0 = some (.inr (10, fs2)) ∧ 32 < fs2.length ∧ ∀ h_2 : gm_H, h_2 = gm_put h r0 (.inr (10, fs2.set 32 (.int 0))) → ((x3 = (-1) → Post (some (.int (-2))) h_2) ∧ (¬ (x3 = (-1)) → ∃ fs4 : List Value, gm_get h_2 r0 = some (.inr (10, fs4)) ∧ 12 < fs4.length ∧ ∀ h_4 : gm_H, h_4 = gm_put h_2 r0 (.inr (10, fs4.set 12 (.int 0))) → (∃ fs5, gm_get h_4 r0 = some (.inr (10, fs5))) ∧ gE c d 157 [.ref r0, .long ((x3 : Int32).toInt64)] h_4 (fun v5 h_5 => v5 = none ∧ gE c d 266 [.int x3] h_5 (fun v6 h_6 => ∃ x_6 : Int32, v6 = some (.int x_6) ∧ Post (some (.int x_6)) h_6))))) ∧ (¬ (x2 < x4) → (((x4 &&& (x2 ^^^ (-1))) = 0 → ((x3 = (-1) → w232_101 c d Post K66 r0 x1 x2 x3 x4 h) ∧ (¬ (x3 = (-1)) → gE c d 266 [.int x4] h (fun v9 h_9 => ∃ x_9 : Int32, v9 = some (.int x_9) ∧ gE c d 266 [.int x3] h_9 (fun v10 h_10 => ∃ x_10 : Int32, v10 = some (.int x_10) ∧ ((x_9 < x_10 → w232_101 c d Post K66 r0 x1 x2 x3 x4 h_10) ∧ (¬ (x_9 < x_10) → w232_135 c d Post K66 r0 x1 x2 x3 x4 h_10))))))) ∧ (¬ ((x4 &&& (x2 ^^^ (-1))) = 0) → w232_135 c d Post K66 r0 x1 x2 x3 x4 h))))
theorem okb232_66 (c : gx) (d : Nat) (Post : Option Value → gm_H → Prop) (K66 : Nat → Int32 → Int32 → Int32 → Int32 → gm_H → Prop)  (hK66 : ∀ (r0 : Nat) (x1 : Int32) (x2 : Int32) (x3 : Int32) (x4 : Int32) (h : gm_H), K66 r0 x1 x2 x3 x4 h → gV c d 232 (66, [some (.ref r0), some (.int x1), some (.int x2), some (.int x3), some (.int x4)], [], h) Post) (r0 : Nat) (x1 : Int32) (x2 : Int32) (x3 : Int32) (x4 : Int32) (h : gm_H) (w : wb232_66 c d Post K66 r0 x1 x2 x3 x4 h) : gV c d 232 (66, [some (.ref r0), some (.int x1), some (.int x2), some (.int x3), some (.int x4)], [], h) Post := by
  have hk : ∀ pc i, gm_find gk_232 pc = some i → gm_code (gt_T c.1 c.2.1 c.2.2.1) 232 pc = some i := fun _ _ z => z
  unfold wb232_66 at w
  unfold gV
  refine gw_pst hk 2 (st' := (69, [some (.ref r0), some (.int x1), some (.int x2), some (.int x3), some (.int x4)], [.int x2, .int x4], h)) rfl ?_
  refine gw_br (c := x2 < x4) (a := (141, [some (.ref r0), some (.int x1), some (.int x2), some (.int x3), some (.int x4)], [], h)) (b := (72, [some (.ref r0), some (.int x1), some (.int x2), some (.int x3), some (.int x4)], [], h)) (hk _ _ rfl) rfl ⟨fun z1 => ?_, fun z1 => ?_⟩
  · replace w := w.1 z1
    refine gw_pst hk 2 (st' := (143, [some (.ref r0), some (.int x1), some (.int x2), some (.int x3), some (.int x4)], [.int 0, .ref r0], h)) rfl ?_
    obtain ⟨fs2, e2, l2, w⟩ := w
    refine gw_pf (hk _ _ rfl) e2 l2 rfl ?_
    obtain ⟨h_2, eh2⟩ : ∃ z, z = gm_put h r0 (.inr (10, fs2.set 32 (.int 0))) := ⟨_, rfl⟩
    rw [← eh2]
    replace w := w h_2 eh2
    refine gw_pst hk 2 (st' := (148, [some (.ref r0), some (.int x1), some (.int x2), some (.int x3), some (.int x4)], [.int (-1), .int x3], h_2)) rfl ?_
    refine gw_br (c := x3 = (-1)) (a := (151, [some (.ref r0), some (.int x1), some (.int x2), some (.int x3), some (.int x4)], [], h_2)) (b := (154, [some (.ref r0), some (.int x1), some (.int x2), some (.int x3), some (.int x4)], [], h_2)) (hk _ _ rfl) rfl ⟨fun z3 => ?_, fun z3 => ?_⟩
    · replace w := w.1 z3
      refine gw_pst hk 1 (st' := (153, [some (.ref r0), some (.int x1), some (.int x2), some (.int x3), some (.int x4)], [.int (-2)], h_2)) rfl ?_
      exact gw_ret (hk _ _ rfl) rfl w
    · replace w := w.2 z3
      refine gw_pst hk 2 (st' := (156, [some (.ref r0), some (.int x1), some (.int x2), some (.int x3), some (.int x4)], [.int 0, .ref r0], h_2)) rfl ?_
      obtain ⟨fs4, e4, l4, w⟩ := w
      refine gw_pf (hk _ _ rfl) e4 l4 rfl ?_
      obtain ⟨h_4, eh4⟩ : ∃ z, z = gm_put h_2 r0 (.inr (10, fs4.set 12 (.int 0))) := ⟨_, rfl⟩
      rw [← eh4]
      replace w := w h_4 eh4
      refine gw_pst hk 3 (st' := (162, [some (.ref r0), some (.int x1), some (.int x2), some (.int x3), some (.int x4)], [.long ((x3 : Int32).toInt64), .ref r0], h_4)) rfl ?_
      obtain ⟨⟨fs5, e5⟩, w⟩ := w
      refine gw_call (jj := 157) (As := [.ref r0, .long ((x3 : Int32).toInt64)]) (rest := []) (hk _ _ rfl) (fun _ => rfl) rfl rfl (Nat.le_of_ble_eq_true rfl) (gm_rcv_v rfl e5 rfl) ?_
      refine ge_imp w (fun v5 h_5 w => ?_)
      obtain ⟨rfl, w⟩ := w
      show gV c d 232 (165, [some (.ref r0), some (.int x1), some (.int x2), some (.int x3), some (.int x4)], [], h_5) Post
      refine gw_pst hk 1 (st' := (166, [some (.ref r0), some (.int x1), some (.int x2), some (.int x3), some (.int x4)], [.int x3], h_5)) rfl ?_
      refine gw_call (jj := 266) (As := [.int x3]) (rest := []) (hk _ _ rfl) (fun _ => rfl) rfl rfl (Nat.le_of_ble_eq_true rfl) rfl ?_
      refine ge_imp w (fun v6 h_6 w => ?_)
      obtain ⟨x_6, rfl, w⟩ := w
      show gV c d 232 (169, [some (.ref r0), some (.int x1), some (.int x2), some (.int x3), some (.int x4)], [.int x_6], h_6) Post
      exact gw_ret (hk _ _ rfl) rfl w
  · replace w := w.2 z1
    refine gw_pst hk 5 (st' := (78, [some (.ref r0), some (.int x1), some (.int x2), some (.int x3), some (.int x4)], [.int (x4 &&& (x2 ^^^ (-1)))], h)) rfl ?_
    refine gw_br (c := (x4 &&& (x2 ^^^ (-1))) = 0) (a := (81, [some (.ref r0), some (.int x1), some (.int x2), some (.int x3), some (.int x4)], [], h)) (b := (135, [some (.ref r0), some (.int x1), some (.int x2), some (.int x3), some (.int x4)], [], h)) (hk _ _ rfl) rfl ⟨fun z7 => ?_, fun z7 => ?_⟩
    · replace w := w.1 z7
      refine gw_pst hk 2 (st' := (83, [some (.ref r0), some (.int x1), some (.int x2), some (.int x3), some (.int x4)], [.int (-1), .int x3], h)) rfl ?_
      refine gw_br (c := x3 = (-1)) (a := (101, [some (.ref r0), some (.int x1), some (.int x2), some (.int x3), some (.int x4)], [], h)) (b := (86, [some (.ref r0), some (.int x1), some (.int x2), some (.int x3), some (.int x4)], [], h)) (hk _ _ rfl) rfl ⟨fun z8 => ?_, fun z8 => ?_⟩
      · replace w := w.1 z8
        exact ok232_101 c d Post K66 hK66 _ _ _ _ _ _ w
      · replace w := w.2 z8
        refine gw_pst hk 1 (st' := (88, [some (.ref r0), some (.int x1), some (.int x2), some (.int x3), some (.int x4)], [.int x4], h)) rfl ?_
        refine gw_call (jj := 266) (As := [.int x4]) (rest := []) (hk _ _ rfl) (fun _ => rfl) rfl rfl (Nat.le_of_ble_eq_true rfl) rfl ?_
        refine ge_imp w (fun v9 h_9 w => ?_)
        obtain ⟨x_9, rfl, w⟩ := w
        show gV c d 232 (91, [some (.ref r0), some (.int x1), some (.int x2), some (.int x3), some (.int x4)], [.int x_9], h_9) Post
        refine gw_pst hk 1 (st' := (92, [some (.ref r0), some (.int x1), some (.int x2), some (.int x3), some (.int x4)], [.int x3, .int x_9], h_9)) rfl ?_
        refine gw_call (jj := 266) (As := [.int x3]) (rest := [.int x_9]) (hk _ _ rfl) (fun _ => rfl) rfl rfl (Nat.le_of_ble_eq_true rfl) rfl ?_
        refine ge_imp w (fun v10 h_10 w => ?_)
        obtain ⟨x_10, rfl, w⟩ := w
        show gV c d 232 (95, [some (.ref r0), some (.int x1), some (.int x2), some (.int x3), some (.int x4)], [.int x_10, .int x_9], h_10) Post
        refine gw_br (c := x_9 < x_10) (a := (101, [some (.ref r0), some (.int x1), some (.int x2), some (.int x3), some (.int x4)], [], h_10)) (b := (98, [some (.ref r0), some (.int x1), some (.int x2), some (.int x3), some (.int x4)], [], h_10)) (hk _ _ rfl) rfl ⟨fun z11 => ?_, fun z11 => ?_⟩
        · replace w := w.1 z11
          exact ok232_101 c d Post K66 hK66 _ _ _ _ _ _ w
        · replace w := w.2 z11
          refine gw_pst hk 1 (st' := (135, [some (.ref r0), some (.int x1), some (.int x2), some (.int x3), some (.int x4)], [], h_10)) rfl ?_
          exact ok232_135 c d Post K66 hK66 _ _ _ _ _ _ w
    · replace w := w.2 z7
      exact ok232_135 c d Post K66 hK66 _ _ _ _ _ _ w
def wl232_66 (c : gx) (d : Nat) (Post : Option Value → gm_H → Prop) : Nat → Nat → Int32 → Int32 → Int32 → Int32 → gm_H → Prop
  | 0 => fun _ _ _ _ _ _ => False
  | n + 1 => wb232_66 c d Post (wl232_66 c d Post n)
theorem okl232_66 (c : gx) (d : Nat) (Post : Option Value → gm_H → Prop) : ∀ (n : Nat) (r0 : Nat) (x1 : Int32) (x2 : Int32) (x3 : Int32) (x4 : Int32) (h : gm_H), wl232_66 c d Post n r0 x1 x2 x3 x4 h → gV c d 232 (66, [some (.ref r0), some (.int x1), some (.int x2), some (.int x3), some (.int x4)], [], h) Post
  | 0, _, _, _, _, _, _, w => w.elim
  | n + 1, r0, x1, x2, x3, x4, h, w => okb232_66 c d Post (wl232_66 c d Post n) (okl232_66 c d Post n) r0 x1 x2 x3 x4 h w
def wb232_21 (c : gx) (d : Nat) (Post : Option Value → gm_H → Prop) (K21 : Nat → Int32 → Int32 → Int32 → gm_H → Prop) (r0 : Nat) (x1 : Int32) (x2 : Int32) (x3 : Int32) (h : gm_H) : Prop :=
  ((x1 ≤ x3 → ∃ n, wl232_66 c d Post n r0 x1 x2 (-1) 0 h) ∧ (¬ (x1 ≤ x3) → ∃ q_2 : Nat, gm_fld h r0 10 0 = some (.ref q_2) ∧ ∃ q_3 : Nat, gm_fld h r0 10 0 = some (.ref q_3) ∧ ∃ (n4 : Nat) (f4 : Nat → Int32), gm_get h q_3 = some (.inl (0, n4, .inl f4)) ∧ vp_in 0 n4 ∧ gE c d 184 [.ref q_2, .int ((f4 (0 : Int32).toNatClampNeg) + x3)] h (fun v5 h_5 => ∃ x_5 : Int32, v5 = some (.int x_5) ∧ ((x_5 = 1 → w232_53 c d Post K21 r0 x1 x3 x2 (1 <<< (x3 &&& 31)) h_5) ∧ (¬ (x_5 = 1) → w232_53 c d Post K21 r0 x1 x3 x2 0 h_5)))))
theorem okb232_21 (c : gx) (d : Nat) (Post : Option Value → gm_H → Prop) (K21 : Nat → Int32 → Int32 → Int32 → gm_H → Prop)  (hK21 : ∀ (r0 : Nat) (x1 : Int32) (x2 : Int32) (x3 : Int32) (h : gm_H), K21 r0 x1 x2 x3 h → gV c d 232 (21, [some (.ref r0), some (.int x1), some (.int x2), some (.int x3), none], [], h) Post) (r0 : Nat) (x1 : Int32) (x2 : Int32) (x3 : Int32) (h : gm_H) (w : wb232_21 c d Post K21 r0 x1 x2 x3 h) : gV c d 232 (21, [some (.ref r0), some (.int x1), some (.int x2), some (.int x3), none], [], h) Post := by
  have hk : ∀ pc i, gm_find gk_232 pc = some i → gm_code (gt_T c.1 c.2.1 c.2.2.1) 232 pc = some i := fun _ _ z => z
  unfold wb232_21 at w
  unfold gV
  refine gw_pst hk 2 (st' := (23, [some (.ref r0), some (.int x1), some (.int x2), some (.int x3), none], [.int x1, .int x3], h)) rfl ?_
  refine gw_br (c := x1 ≤ x3) (a := (61, [some (.ref r0), some (.int x1), some (.int x2), some (.int x3), none], [], h)) (b := (26, [some (.ref r0), some (.int x1), some (.int x2), some (.int x3), none], [], h)) (hk _ _ rfl) rfl ⟨fun z1 => ?_, fun z1 => ?_⟩
  · replace w := w.1 z1
    refine gw_pst hk 4 (st' := (66, [some (.ref r0), some (.int x1), some (.int x2), some (.int (-1)), some (.int 0)], [], h)) rfl ?_
    obtain ⟨n, w⟩ := w
    exact okl232_66 c d Post n _ _ _ _ _ _ w
  · replace w := w.2 z1
    refine gw_pst hk 2 (st' := (28, [some (.ref r0), some (.int x1), some (.int x2), some (.int x3), none], [.ref r0, .int x2], h)) rfl ?_
    obtain ⟨q_2, e2, w⟩ := w
    refine gw_gf (hk _ _ rfl) e2 ?_
    refine gw_pst hk 1 (st' := (32, [some (.ref r0), some (.int x1), some (.int x2), some (.int x3), none], [.ref r0, .ref q_2, .int x2], h)) rfl ?_
    obtain ⟨q_3, e3, w⟩ := w
    refine gw_gf (hk _ _ rfl) e3 ?_
    refine gw_pst hk 1 (st' := (36, [some (.ref r0), some (.int x1), some (.int x2), some (.int x3), none], [.int 0, .ref q_3, .ref q_2, .int x2], h)) rfl ?_
    obtain ⟨n4, f4, e4, b4, w⟩ := w
    refine gw_ald (hk _ _ rfl) (Or.inl ⟨rfl, rfl⟩) e4 b4 ?_
    refine gw_pst hk 2 (st' := (39, [some (.ref r0), some (.int x1), some (.int x2), some (.int x3), none], [.int ((f4 (0 : Int32).toNatClampNeg) + x3), .ref q_2, .int x2], h)) rfl ?_
    refine gw_call (jj := 184) (As := [.ref q_2, .int ((f4 (0 : Int32).toNatClampNeg) + x3)]) (rest := [.int x2]) (hk _ _ rfl) (fun _ => rfl) rfl rfl (Nat.le_of_ble_eq_true rfl) rfl ?_
    refine ge_imp w (fun v5 h_5 w => ?_)
    obtain ⟨x_5, rfl, w⟩ := w
    show gV c d 232 (42, [some (.ref r0), some (.int x1), some (.int x2), some (.int x3), none], [.int x_5, .int x2], h_5) Post
    refine gw_pst hk 1 (st' := (43, [some (.ref r0), some (.int x1), some (.int x2), some (.int x3), none], [.int 1, .int x_5, .int x2], h_5)) rfl ?_
    refine gw_br (c := x_5 = 1) (a := (46, [some (.ref r0), some (.int x1), some (.int x2), some (.int x3), none], [.int x2], h_5)) (b := (52, [some (.ref r0), some (.int x1), some (.int x2), some (.int x3), none], [.int x2], h_5)) (hk _ _ rfl) rfl ⟨fun z6 => ?_, fun z6 => ?_⟩
    · replace w := w.1 z6
      refine gw_pst hk 4 (st' := (53, [some (.ref r0), some (.int x1), some (.int x2), some (.int x3), none], [.int (1 <<< (x3 &&& 31)), .int x2], h_5)) rfl ?_
      refine gw_le (L' := [some (.ref r0), some (.int x1), none, some (.int x3), none]) (gm_le_k _ (gm_le_k _ (gm_le_n _ (gm_le_k _ (gm_le_k _ gm_le_nil))))) ?_
      exact ok232_53 c d Post K21 hK21 _ _ _ _ _ _ w
    · replace w := w.2 z6
      refine gw_pst hk 1 (st' := (53, [some (.ref r0), some (.int x1), some (.int x2), some (.int x3), none], [.int 0, .int x2], h_5)) rfl ?_
      refine gw_le (L' := [some (.ref r0), some (.int x1), none, some (.int x3), none]) (gm_le_k _ (gm_le_k _ (gm_le_n _ (gm_le_k _ (gm_le_k _ gm_le_nil))))) ?_
      exact ok232_53 c d Post K21 hK21 _ _ _ _ _ _ w
def wl232_21 (c : gx) (d : Nat) (Post : Option Value → gm_H → Prop) : Nat → Nat → Int32 → Int32 → Int32 → gm_H → Prop
  | 0 => fun _ _ _ _ _ => False
  | n + 1 => wb232_21 c d Post (wl232_21 c d Post n)
theorem okl232_21 (c : gx) (d : Nat) (Post : Option Value → gm_H → Prop) : ∀ (n : Nat) (r0 : Nat) (x1 : Int32) (x2 : Int32) (x3 : Int32) (h : gm_H), wl232_21 c d Post n r0 x1 x2 x3 h → gV c d 232 (21, [some (.ref r0), some (.int x1), some (.int x2), some (.int x3), none], [], h) Post
  | 0, _, _, _, _, _, w => w.elim
  | n + 1, r0, x1, x2, x3, h, w => okb232_21 c d Post (wl232_21 c d Post n) (okl232_21 c d Post n) r0 x1 x2 x3 h w
/-- CommandByTurnsModel.forces(I)I -/
def wm232 (c : gx) (d : Nat) (Post : Option Value → gm_H → Prop) (r0 : Nat) (x1 : Int32) (h : gm_H) : Prop :=
  ∃ fs1 : List Value, gm_get h r0 = some (.inr (10, fs1)) ∧ 13 < fs1.length ∧ ∀ h_1 : gm_H, h_1 = gm_put h r0 (.inr (10, fs1.set 13 (.int 0))) → gE c d 154 [.int x1, .int 1, .int 10] h_1 (fun v2 h_2 => ∃ x_2 : Int32, v2 = some (.int x_2) ∧ ((x_2 = 0 → Post (some (.int (-1))) h_2) ∧ (¬ (x_2 = 0) → ∃ n, wl232_21 c d Post n r0 x1 0 0 h_2)))
theorem okm232 (c : gx) (d : Nat) (Post : Option Value → gm_H → Prop) (r0 : Nat) (x1 : Int32) (h : gm_H) (w : wm232 c d Post r0 x1 h) : gE c (d + 1) 232 [.ref r0, .int x1] h Post := by
  have hk : ∀ pc i, gm_find gk_232 pc = some i → gm_code (gt_T c.1 c.2.1 c.2.2.1) 232 pc = some i := fun _ _ z => z
  unfold wm232 at w
  refine ge_of (by decide) (Nat.le_of_ble_eq_true rfl) ?_
  show gV c d 232 (0, [some (.ref r0), some (.int x1), none, none, none], [], h) Post
  unfold gV
  refine gw_pst hk 2 (st' := (2, [some (.ref r0), some (.int x1), none, none, none], [.int 0, .ref r0], h)) rfl ?_
  obtain ⟨fs1, e1, l1, w⟩ := w
  refine gw_pf (hk _ _ rfl) e1 l1 rfl ?_
  obtain ⟨h_1, eh1⟩ : ∃ z, z = gm_put h r0 (.inr (10, fs1.set 13 (.int 0))) := ⟨_, rfl⟩
  rw [← eh1]
  replace w := w h_1 eh1
  refine gw_pst hk 3 (st' := (9, [some (.ref r0), some (.int x1), none, none, none], [.int 10, .int 1, .int x1], h_1)) rfl ?_
  refine gw_call (jj := 154) (As := [.int x1, .int 1, .int 10]) (rest := []) (hk _ _ rfl) (fun _ => rfl) rfl rfl (Nat.le_of_ble_eq_true rfl) rfl ?_
  refine ge_imp w (fun v2 h_2 w => ?_)
  obtain ⟨x_2, rfl, w⟩ := w
  show gV c d 232 (12, [some (.ref r0), some (.int x1), none, none, none], [.int x_2], h_2) Post
  refine gw_br (c := x_2 = 0) (a := (15, [some (.ref r0), some (.int x1), none, none, none], [], h_2)) (b := (17, [some (.ref r0), some (.int x1), none, none, none], [], h_2)) (hk _ _ rfl) rfl ⟨fun z3 => ?_, fun z3 => ?_⟩
  · replace w := w.1 z3
    refine gw_pst hk 1 (st' := (16, [some (.ref r0), some (.int x1), none, none, none], [.int (-1)], h_2)) rfl ?_
    exact gw_ret (hk _ _ rfl) rfl w
  · replace w := w.2 z3
    refine gw_pst hk 4 (st' := (21, [some (.ref r0), some (.int x1), some (.int 0), some (.int 0), none], [], h_2)) rfl ?_
    obtain ⟨n, w⟩ := w
    exact okl232_21 c d Post n _ _ _ _ _ w
def w233_130 (c : gx) (d : Nat) (Post : Option Value → gm_H → Prop) (K26 : Nat → Int32 → Int32 → Int32 → Int32 → gm_H → Prop) (r0 : Nat) (x1 : Int32) (x2 : Int32) (x3 : Int32) (x4 : Int32) (h : gm_H) : Prop :=
  K26 r0 x1 x2 x3 (x4 + 1) h
theorem ok233_130 (c : gx) (d : Nat) (Post : Option Value → gm_H → Prop) (K26 : Nat → Int32 → Int32 → Int32 → Int32 → gm_H → Prop)  (hK26 : ∀ (r0 : Nat) (x1 : Int32) (x2 : Int32) (x3 : Int32) (x4 : Int32) (h : gm_H), K26 r0 x1 x2 x3 x4 h → gV c d 233 (26, [some (.ref r0), some (.int x1), some (.int x2), some (.int x3), some (.int x4), none, none, none], [], h) Post) (r0 : Nat) (x1 : Int32) (x2 : Int32) (x3 : Int32) (x4 : Int32) (h : gm_H) (w : w233_130 c d Post K26 r0 x1 x2 x3 x4 h) : gV c d 233 (130, [some (.ref r0), some (.int x1), some (.int x2), some (.int x3), some (.int x4), none, none, none], [], h) Post := by
  have hk : ∀ pc i, gm_find gk_233 pc = some i → gm_code (gt_T c.1 c.2.1 c.2.2.1) 233 pc = some i := fun _ _ z => z
  unfold w233_130 at w
  unfold gV
  refine gw_pst hk 2 (st' := (26, [some (.ref r0), some (.int x1), some (.int x2), some (.int x3), some (.int (x4 + 1)), none, none, none], [], h)) rfl ?_
  exact hK26 _ _ _ _ _ _ w
def wb233_26 (c : gx) (d : Nat) (Post : Option Value → gm_H → Prop) (K26 : Nat → Int32 → Int32 → Int32 → Int32 → gm_H → Prop) (r0 : Nat) (x1 : Int32) (x2 : Int32) (x3 : Int32) (x4 : Int32) (h : gm_H) : Prop :=
  ((x1 ≤ x4 → ((x2 = (-1) → Post (some (.int (-2))) h) ∧ (¬ (x2 = (-1)) → ∃ fs3 : List Value, gm_get h r0 = some (.inr (10, fs3)) ∧ 12 < fs3.length ∧ ∀ h_3 : gm_H, h_3 = gm_put h r0 (.inr (10, fs3.set 12 (.int 0))) → (∃ fs4, gm_get h_3 r0 = some (.inr (10, fs4))) ∧ gE c d 157 [.ref r0, .long ((501 + x3 : Int32).toInt64)] h_3 (fun v4 h_4 => v4 = none ∧ Post (some (.int x2)) h_4)))) ∧ (¬ (x1 ≤ x4) → ∃ q_5 : Nat, gm_fld h r0 10 0 = some (.ref q_5) ∧ ∃ (n6 : Nat) (f6 : Nat → Int32), gm_get h q_5 = some (.inl (0, n6, .inl f6)) ∧ vp_in 0 n6 ∧ ∃ q_7 : Nat, gm_fld h r0 10 0 = some (.ref q_7) ∧ gE c d 184 [.ref q_7, .int ((f6 (0 : Int32).toNatClampNeg) + x4)] h (fun v8 h_8 => ∃ x_8 : Int32, v8 = some (.int x_8) ∧ ((x_8 = (-1) → w233_130 c d Post K26 r0 x1 x2 x3 x4 h_8) ∧ (¬ (x_8 = (-1)) → ∃ q_10 : Nat, gm_fld h_8 r0 10 2 = some (.ref q_10) ∧ ∃ q_11 : Nat, gm_fld h_8 r0 10 0 = some (.ref q_11) ∧ ∃ (n12 : Nat) (f12 : Nat → Int32), gm_get h_8 q_11 = some (.inl (0, n12, .inl f12)) ∧ vp_in 1 n12 ∧ ∃ (n13 : Nat) (f13 : Nat → Int32), gm_get h_8 q_10 = some (.inl (0, n13, .inl f13)) ∧ vp_in (f12 (1 : Int32).toNatClampNeg) n13 ∧ ∃ q_14 : Nat, gm_fld h_8 r0 10 2 = some (.ref q_14) ∧ ∃ q_15 : Nat, gm_fld h_8 r0 10 0 = some (.ref q_15) ∧ ∃ (n16 : Nat) (f16 : Nat → Int32), gm_get h_8 q_15 = some (.inl (0, n16, .inl f16)) ∧ vp_in 2 n16 ∧ ∃ (n17 : Nat) (f17 : Nat → Int32), gm_get h_8 q_14 = some (.inl (0, n17, .inl f17)) ∧ vp_in (f16 (2 : Int32).toNatClampNeg) n17 ∧ ∃ q_18 : Nat, gm_fld h_8 r0 10 0 = some (.ref q_18) ∧ ∃ (n19 : Nat) (f19 : Nat → Int32), gm_get h_8 q_18 = some (.inl (0, n19, .inl f19)) ∧ vp_in 3 n19 ∧ ∃ q_20 : Nat, gm_fld h_8 r0 10 0 = some (.ref q_20) ∧ ∃ (n21 : Nat) (f21 : Nat → Int32), gm_get h_8 q_20 = some (.inl (0, n21, .inl f21)) ∧ vp_in 4 n21 ∧ ∃ q_22 : Nat, gm_fld h_8 r0 10 0 = some (.ref q_22) ∧ ∃ (n23 : Nat) (f23 : Nat → Int32), gm_get h_8 q_22 = some (.inl (0, n23, .inl f23)) ∧ vp_in 5 n23 ∧ (∃ fs24, gm_get h_8 r0 = some (.inr (10, fs24))) ∧ gE c d 181 [.ref r0, .int x_8, .int ((f13 (f12 (1 : Int32).toNatClampNeg : Int32).toNatClampNeg) - (f17 (f16 (2 : Int32).toNatClampNeg : Int32).toNatClampNeg)), .int (f19 (3 : Int32).toNatClampNeg), .int (f21 (4 : Int32).toNatClampNeg), .int (f23 (5 : Int32).toNatClampNeg), .int ((f6 (0 : Int32).toNatClampNeg) + x4), .int 0] h_8 (fun v24 h_24 => ∃ x_24 : Int32, v24 = some (.int x_24) ∧ ((x_24 < x3 → w233_130 c d Post K26 r0 x1 x4 x_24 x4 h_24) ∧ (¬ (x_24 < x3) → w233_130 c d Post K26 r0 x1 x2 x3 x4 h_24))))))))
theorem okb233_26 (c : gx) (d : Nat) (Post : Option Value → gm_H → Prop) (K26 : Nat → Int32 → Int32 → Int32 → Int32 → gm_H → Prop)  (hK26 : ∀ (r0 : Nat) (x1 : Int32) (x2 : Int32) (x3 : Int32) (x4 : Int32) (h : gm_H), K26 r0 x1 x2 x3 x4 h → gV c d 233 (26, [some (.ref r0), some (.int x1), some (.int x2), some (.int x3), some (.int x4), none, none, none], [], h) Post) (r0 : Nat) (x1 : Int32) (x2 : Int32) (x3 : Int32) (x4 : Int32) (h : gm_H) (w : wb233_26 c d Post K26 r0 x1 x2 x3 x4 h) : gV c d 233 (26, [some (.ref r0), some (.int x1), some (.int x2), some (.int x3), some (.int x4), none, none, none], [], h) Post := by
  have hk : ∀ pc i, gm_find gk_233 pc = some i → gm_code (gt_T c.1 c.2.1 c.2.2.1) 233 pc = some i := fun _ _ z => z
  unfold wb233_26 at w
  unfold gV
  refine gw_pst hk 2 (st' := (29, [some (.ref r0), some (.int x1), some (.int x2), some (.int x3), some (.int x4), none, none, none], [.int x1, .int x4], h)) rfl ?_
  refine gw_br (c := x1 ≤ x4) (a := (136, [some (.ref r0), some (.int x1), some (.int x2), some (.int x3), some (.int x4), none, none, none], [], h)) (b := (32, [some (.ref r0), some (.int x1), some (.int x2), some (.int x3), some (.int x4), none, none, none], [], h)) (hk _ _ rfl) rfl ⟨fun z1 => ?_, fun z1 => ?_⟩
  · replace w := w.1 z1
    refine gw_pst hk 2 (st' := (138, [some (.ref r0), some (.int x1), some (.int x2), some (.int x3), some (.int x4), none, none, none], [.int (-1), .int x2], h)) rfl ?_
    refine gw_br (c := x2 = (-1)) (a := (141, [some (.ref r0), some (.int x1), some (.int x2), some (.int x3), some (.int x4), none, none, none], [], h)) (b := (144, [some (.ref r0), some (.int x1), some (.int x2), some (.int x3), some (.int x4), none, none, none], [], h)) (hk _ _ rfl) rfl ⟨fun z2 => ?_, fun z2 => ?_⟩
    · replace w := w.1 z2
      refine gw_pst hk 1 (st' := (143, [some (.ref r0), some (.int x1), some (.int x2), some (.int x3), some (.int x4), none, none, none], [.int (-2)], h)) rfl ?_
      exact gw_ret (hk _ _ rfl) rfl w
    · replace w := w.2 z2
      refine gw_pst hk 2 (st' := (146, [some (.ref r0), some (.int x1), some (.int x2), some (.int x3), some (.int x4), none, none, none], [.int 0, .ref r0], h)) rfl ?_
      obtain ⟨fs3, e3, l3, w⟩ := w
      refine gw_pf (hk _ _ rfl) e3 l3 rfl ?_
      obtain ⟨h_3, eh3⟩ : ∃ z, z = gm_put h r0 (.inr (10, fs3.set 12 (.int 0))) := ⟨_, rfl⟩
      rw [← eh3]
      replace w := w h_3 eh3
      refine gw_pst hk 5 (st' := (156, [some (.ref r0), some (.int x1), some (.int x2), some (.int x3), some (.int x4), none, none, none], [.long ((501 + x3 : Int32).toInt64), .ref r0], h_3)) rfl ?_
      obtain ⟨⟨fs4, e4⟩, w⟩ := w
      refine gw_call (jj := 157) (As := [.ref r0, .long ((501 + x3 : Int32).toInt64)]) (rest := []) (hk _ _ rfl) (fun _ => rfl) rfl rfl (Nat.le_of_ble_eq_true rfl) (gm_rcv_v rfl e4 rfl) ?_
      refine ge_imp w (fun v4 h_4 w => ?_)
      obtain ⟨rfl, w⟩ := w
      show gV c d 233 (159, [some (.ref r0), some (.int x1), some (.int x2), some (.int x3), some (.int x4), none, none, none], [], h_4) Post
      refine gw_pst hk 1 (st' := (160, [some (.ref r0), some (.int x1), some (.int x2), some (.int x3), some (.int x4), none, none, none], [.int x2], h_4)) rfl ?_
      exact gw_ret (hk _ _ rfl) rfl w
  · replace w := w.2 z1
    refine gw_pst hk 1 (st' := (33, [some (.ref r0), some (.int x1), some (.int x2), some (.int x3), some (.int x4), none, none, none], [.ref r0], h)) rfl ?_
    obtain ⟨q_5, e5, w⟩ := w
    refine gw_gf (hk _ _ rfl) e5 ?_
    refine gw_pst hk 1 (st' := (37, [some (.ref r0), some (.int x1), some (.int x2), some (.int x3), some (.int x4), none, none, none], [.int 0, .ref q_5], h)) rfl ?_
    obtain ⟨n6, f6, e6, b6, w⟩ := w
    refine gw_ald (hk _ _ rfl) (Or.inl ⟨rfl, rfl⟩) e6 b6 ?_
    refine gw_pst hk 4 (st' := (44, [some (.ref r0), some (.int x1), some (.int x2), some (.int x3), some (.int x4), some (.int ((f6 (0 : Int32).toNatClampNeg) + x4)), none, none], [.ref r0], h)) rfl ?_
    obtain ⟨q_7, e7, w⟩ := w
    refine gw_gf (hk _ _ rfl) e7 ?_
    refine gw_pst hk 1 (st' := (49, [some (.ref r0), some (.int x1), some (.int x2), some (.int x3), some (.int x4), some (.int ((f6 (0 : Int32).toNatClampNeg) + x4)), none, none], [.int ((f6 (0 : Int32).toNatClampNeg) + x4), .ref q_7], h)) rfl ?_
    refine gw_call (jj := 184) (As := [.ref q_7, .int ((f6 (0 : Int32).toNatClampNeg) + x4)]) (rest := []) (hk _ _ rfl) (fun _ => rfl) rfl rfl (Nat.le_of_ble_eq_true rfl) rfl ?_
    refine ge_imp w (fun v8 h_8 w => ?_)
    obtain ⟨x_8, rfl, w⟩ := w
    show gV c d 233 (52, [some (.ref r0), some (.int x1), some (.int x2), some (.int x3), some (.int x4), some (.int ((f6 (0 : Int32).toNatClampNeg) + x4)), none, none], [.int x_8], h_8) Post
    refine gw_pst hk 3 (st' := (57, [some (.ref r0), some (.int x1), some (.int x2), some (.int x3), some (.int x4), some (.int ((f6 (0 : Int32).toNatClampNeg) + x4)), some (.int x_8), none], [.int (-1), .int x_8], h_8)) rfl ?_
    refine gw_br (c := x_8 = (-1)) (a := (60, [some (.ref r0), some (.int x1), some (.int x2), some (.int x3), some (.int x4), some (.int ((f6 (0 : Int32).toNatClampNeg) + x4)), some (.int x_8), none], [], h_8)) (b := (63, [some (.ref r0), some (.int x1), some (.int x2), some (.int x3), some (.int x4), some (.int ((f6 (0 : Int32).toNatClampNeg) + x4)), some (.int x_8), none], [], h_8)) (hk _ _ rfl) rfl ⟨fun z9 => ?_, fun z9 => ?_⟩
    · replace w := w.1 z9
      refine gw_pst hk 1 (st' := (130, [some (.ref r0), some (.int x1), some (.int x2), some (.int x3), some (.int x4), some (.int ((f6 (0 : Int32).toNatClampNeg) + x4)), some (.int x_8), none], [], h_8)) rfl ?_
      refine gw_le (L' := [some (.ref r0), some (.int x1), some (.int x2), some (.int x3), some (.int x4), none, none, none]) (gm_le_k _ (gm_le_k _ (gm_le_k _ (gm_le_k _ (gm_le_k _ (gm_le_n _ (gm_le_n _ (gm_le_k _ gm_le_nil)))))))) ?_
      exact ok233_130 c d Post K26 hK26 _ _ _ _ _ _ w
    · replace w := w.2 z9
      refine gw_pst hk 3 (st' := (67, [some (.ref r0), some (.int x1), some (.int x2), some (.int x3), some (.int x4), some (.int ((f6 (0 : Int32).toNatClampNeg) + x4)), some (.int x_8), none], [.ref r0, .int x_8, .ref r0], h_8)) rfl ?_
      obtain ⟨q_10, e10, w⟩ := w
      refine gw_gf (hk _ _ rfl) e10 ?_
      refine gw_pst hk 1 (st' := (71, [some (.ref r0), some (.int x1), some (.int x2), some (.int x3), some (.int x4), some (.int ((f6 (0 : Int32).toNatClampNeg) + x4)), some (.int x_8), none], [.ref r0, .ref q_10, .int x_8, .ref r0], h_8)) rfl ?_
      obtain ⟨q_11, e11, w⟩ := w
      refine gw_gf (hk _ _ rfl) e11 ?_
      refine gw_pst hk 1 (st' := (75, [some (.ref r0), some (.int x1), some (.int x2), some (.int x3), some (.int x4), some (.int ((f6 (0 : Int32).toNatClampNeg) + x4)), some (.int x_8), none], [.int 1, .ref q_11, .ref q_10, .int x_8, .ref r0], h_8)) rfl ?_
      obtain ⟨n12, f12, e12, b12, w⟩ := w
      refine gw_ald (hk _ _ rfl) (Or.inl ⟨rfl, rfl⟩) e12 b12 ?_
      obtain ⟨n13, f13, e13, b13, w⟩ := w
      refine gw_ald (hk _ _ rfl) (Or.inl ⟨rfl, rfl⟩) e13 b13 ?_
      refine gw_pst hk 1 (st' := (78, [some (.ref r0), some (.int x1), some (.int x2), some (.int x3), some (.int x4), some (.int ((f6 (0 : Int32).toNatClampNeg) + x4)), some (.int x_8), none], [.ref r0, .int (f13 (f12 (1 : Int32).toNatClampNeg : Int32).toNatClampNeg), .int x_8, .ref r0], h_8)) rfl ?_
      obtain ⟨q_14, e14, w⟩ := w
      refine gw_gf (hk _ _ rfl) e14 ?_
      refine gw_pst hk 1 (st' := (82, [some (.ref r0), some (.int x1), some (.int x2), some (.int x3), some (.int x4), some (.int ((f6 (0 : Int32).toNatClampNeg) + x4)), some (.int x_8), none], [.ref r0, .ref q_14, .int (f13 (f12 (1 : Int32).toNatClampNeg : Int32).toNatClampNeg), .int x_8, .ref r0], h_8)) rfl ?_
      obtain ⟨q_15, e15, w⟩ := w
      refine gw_gf (hk _ _ rfl) e15 ?_
      refine gw_pst hk 1 (st' := (86, [some (.ref r0), some (.int x1), some (.int x2), some (.int x3), some (.int x4), some (.int ((f6 (0 : Int32).toNatClampNeg) + x4)), some (.int x_8), none], [.int 2, .ref q_15, .ref q_14, .int (f13 (f12 (1 : Int32).toNatClampNeg : Int32).toNatClampNeg), .int x_8, .ref r0], h_8)) rfl ?_
      obtain ⟨n16, f16, e16, b16, w⟩ := w
      refine gw_ald (hk _ _ rfl) (Or.inl ⟨rfl, rfl⟩) e16 b16 ?_
      obtain ⟨n17, f17, e17, b17, w⟩ := w
      refine gw_ald (hk _ _ rfl) (Or.inl ⟨rfl, rfl⟩) e17 b17 ?_
      refine gw_pst hk 2 (st' := (90, [some (.ref r0), some (.int x1), some (.int x2), some (.int x3), some (.int x4), some (.int ((f6 (0 : Int32).toNatClampNeg) + x4)), some (.int x_8), none], [.ref r0, .int ((f13 (f12 (1 : Int32).toNatClampNeg : Int32).toNatClampNeg) - (f17 (f16 (2 : Int32).toNatClampNeg : Int32).toNatClampNeg)), .int x_8, .ref r0], h_8)) rfl ?_
      obtain ⟨q_18, e18, w⟩ := w
      refine gw_gf (hk _ _ rfl) e18 ?_
      refine gw_pst hk 1 (st' := (94, [some (.ref r0), some (.int x1), some (.int x2), some (.int x3), some (.int x4), some (.int ((f6 (0 : Int32).toNatClampNeg) + x4)), some (.int x_8), none], [.int 3, .ref q_18, .int ((f13 (f12 (1 : Int32).toNatClampNeg : Int32).toNatClampNeg) - (f17 (f16 (2 : Int32).toNatClampNeg : Int32).toNatClampNeg)), .int x_8, .ref r0], h_8)) rfl ?_
      obtain ⟨n19, f19, e19, b19, w⟩ := w
      refine gw_ald (hk _ _ rfl) (Or.inl ⟨rfl, rfl⟩) e19 b19 ?_
      refine gw_pst hk 1 (st' := (96, [some (.ref r0), some (.int x1), some (.int x2), some (.int x3), some (.int x4), some (.int ((f6 (0 : Int32).toNatClampNeg) + x4)), some (.int x_8), none], [.ref r0, .int (f19 (3 : Int32).toNatClampNeg), .int ((f13 (f12 (1 : Int32).toNatClampNeg : Int32).toNatClampNeg) - (f17 (f16 (2 : Int32).toNatClampNeg : Int32).toNatClampNeg)), .int x_8, .ref r0], h_8)) rfl ?_
      obtain ⟨q_20, e20, w⟩ := w
      refine gw_gf (hk _ _ rfl) e20 ?_
      refine gw_pst hk 1 (st' := (100, [some (.ref r0), some (.int x1), some (.int x2), some (.int x3), some (.int x4), some (.int ((f6 (0 : Int32).toNatClampNeg) + x4)), some (.int x_8), none], [.int 4, .ref q_20, .int (f19 (3 : Int32).toNatClampNeg), .int ((f13 (f12 (1 : Int32).toNatClampNeg : Int32).toNatClampNeg) - (f17 (f16 (2 : Int32).toNatClampNeg : Int32).toNatClampNeg)), .int x_8, .ref r0], h_8)) rfl ?_
      obtain ⟨n21, f21, e21, b21, w⟩ := w
      refine gw_ald (hk _ _ rfl) (Or.inl ⟨rfl, rfl⟩) e21 b21 ?_
      refine gw_pst hk 1 (st' := (102, [some (.ref r0), some (.int x1), some (.int x2), some (.int x3), some (.int x4), some (.int ((f6 (0 : Int32).toNatClampNeg) + x4)), some (.int x_8), none], [.ref r0, .int (f21 (4 : Int32).toNatClampNeg), .int (f19 (3 : Int32).toNatClampNeg), .int ((f13 (f12 (1 : Int32).toNatClampNeg : Int32).toNatClampNeg) - (f17 (f16 (2 : Int32).toNatClampNeg : Int32).toNatClampNeg)), .int x_8, .ref r0], h_8)) rfl ?_
      obtain ⟨q_22, e22, w⟩ := w
      refine gw_gf (hk _ _ rfl) e22 ?_
      refine gw_pst hk 1 (st' := (106, [some (.ref r0), some (.int x1), some (.int x2), some (.int x3), some (.int x4), some (.int ((f6 (0 : Int32).toNatClampNeg) + x4)), some (.int x_8), none], [.int 5, .ref q_22, .int (f21 (4 : Int32).toNatClampNeg), .int (f19 (3 : Int32).toNatClampNeg), .int ((f13 (f12 (1 : Int32).toNatClampNeg : Int32).toNatClampNeg) - (f17 (f16 (2 : Int32).toNatClampNeg : Int32).toNatClampNeg)), .int x_8, .ref r0], h_8)) rfl ?_
      obtain ⟨n23, f23, e23, b23, w⟩ := w
      refine gw_ald (hk _ _ rfl) (Or.inl ⟨rfl, rfl⟩) e23 b23 ?_
      refine gw_pst hk 2 (st' := (110, [some (.ref r0), some (.int x1), some (.int x2), some (.int x3), some (.int x4), some (.int ((f6 (0 : Int32).toNatClampNeg) + x4)), some (.int x_8), none], [.int 0, .int ((f6 (0 : Int32).toNatClampNeg) + x4), .int (f23 (5 : Int32).toNatClampNeg), .int (f21 (4 : Int32).toNatClampNeg), .int (f19 (3 : Int32).toNatClampNeg), .int ((f13 (f12 (1 : Int32).toNatClampNeg : Int32).toNatClampNeg) - (f17 (f16 (2 : Int32).toNatClampNeg : Int32).toNatClampNeg)), .int x_8, .ref r0], h_8)) rfl ?_
      obtain ⟨⟨fs24, e24⟩, w⟩ := w
      refine gw_call (jj := 181) (As := [.ref r0, .int x_8, .int ((f13 (f12 (1 : Int32).toNatClampNeg : Int32).toNatClampNeg) - (f17 (f16 (2 : Int32).toNatClampNeg : Int32).toNatClampNeg)), .int (f19 (3 : Int32).toNatClampNeg), .int (f21 (4 : Int32).toNatClampNeg), .int (f23 (5 : Int32).toNatClampNeg), .int ((f6 (0 : Int32).toNatClampNeg) + x4), .int 0]) (rest := []) (hk _ _ rfl) (fun _ => rfl) rfl rfl (Nat.le_of_ble_eq_true rfl) (gm_rcv_v rfl e24 rfl) ?_
      refine ge_imp w (fun v24 h_24 w => ?_)
      obtain ⟨x_24, rfl, w⟩ := w
      show gV c d 233 (113, [some (.ref r0), some (.int x1), some (.int x2), some (.int x3), some (.int x4), some (.int ((f6 (0 : Int32).toNatClampNeg) + x4)), some (.int x_8), none], [.int x_24], h_24) Post
      refine gw_pst hk 3 (st' := (118, [some (.ref r0), some (.int x1), some (.int x2), some (.int x3), some (.int x4), some (.int ((f6 (0 : Int32).toNatClampNeg) + x4)), some (.int x_8), some (.int x_24)], [.int x3, .int x_24], h_24)) rfl ?_
      refine gw_br (c := x_24 < x3) (a := (124, [some (.ref r0), some (.int x1), some (.int x2), some (.int x3), some (.int x4), some (.int ((f6 (0 : Int32).toNatClampNeg) + x4)), some (.int x_8), some (.int x_24)], [], h_24)) (b := (121, [some (.ref r0), some (.int x1), some (.int x2), some (.int x3), some (.int x4), some (.int ((f6 (0 : Int32).toNatClampNeg) + x4)), some (.int x_8), some (.int x_24)], [], h_24)) (hk _ _ rfl) rfl ⟨fun z25 => ?_, fun z25 => ?_⟩
      · replace w := w.1 z25
        refine gw_pst hk 4 (st' := (130, [some (.ref r0), some (.int x1), some (.int x4), some (.int x_24), some (.int x4), some (.int ((f6 (0 : Int32).toNatClampNeg) + x4)), some (.int x_8), some (.int x_24)], [], h_24)) rfl ?_
        refine gw_le (L' := [some (.ref r0), some (.int x1), some (.int x4), some (.int x_24), some (.int x4), none, none, none]) (gm_le_k _ (gm_le_k _ (gm_le_k _ (gm_le_k _ (gm_le_k _ (gm_le_n _ (gm_le_n _ (gm_le_n _ gm_le_nil)))))))) ?_
        exact ok233_130 c d Post K26 hK26 _ _ _ _ _ _ w
      · replace w := w.2 z25
        refine gw_pst hk 1 (st' := (130, [some (.ref r0), some (.int x1), some (.int x2), some (.int x3), some (.int x4), some (.int ((f6 (0 : Int32).toNatClampNeg) + x4)), some (.int x_8), some (.int x_24)], [], h_24)) rfl ?_
        refine gw_le (L' := [some (.ref r0), some (.int x1), some (.int x2), some (.int x3), some (.int x4), none, none, none]) (gm_le_k _ (gm_le_k _ (gm_le_k _ (gm_le_k _ (gm_le_k _ (gm_le_n _ (gm_le_n _ (gm_le_n _ gm_le_nil)))))))) ?_
        exact ok233_130 c d Post K26 hK26 _ _ _ _ _ _ w
def wl233_26 (c : gx) (d : Nat) (Post : Option Value → gm_H → Prop) : Nat → Nat → Int32 → Int32 → Int32 → Int32 → gm_H → Prop
  | 0 => fun _ _ _ _ _ _ => False
  | n + 1 => wb233_26 c d Post (wl233_26 c d Post n)
theorem okl233_26 (c : gx) (d : Nat) (Post : Option Value → gm_H → Prop) : ∀ (n : Nat) (r0 : Nat) (x1 : Int32) (x2 : Int32) (x3 : Int32) (x4 : Int32) (h : gm_H), wl233_26 c d Post n r0 x1 x2 x3 x4 h → gV c d 233 (26, [some (.ref r0), some (.int x1), some (.int x2), some (.int x3), some (.int x4), none, none, none], [], h) Post
  | 0, _, _, _, _, _, _, w => w.elim
  | n + 1, r0, x1, x2, x3, x4, h, w => okb233_26 c d Post (wl233_26 c d Post n) (okl233_26 c d Post n) r0 x1 x2 x3 x4 h w
/-- CommandByTurnsModel.offers(I)I -/
def wm233 (c : gx) (d : Nat) (Post : Option Value → gm_H → Prop) (r0 : Nat) (x1 : Int32) (h : gm_H) : Prop :=
  ∃ fs1 : List Value, gm_get h r0 = some (.inr (10, fs1)) ∧ 13 < fs1.length ∧ ∀ h_1 : gm_H, h_1 = gm_put h r0 (.inr (10, fs1.set 13 (.int 0))) → gE c d 154 [.int x1, .int 1, .int 30] h_1 (fun v2 h_2 => ∃ x_2 : Int32, v2 = some (.int x_2) ∧ ((x_2 = 0 → Post (some (.int (-1))) h_2) ∧ (¬ (x_2 = 0) → ∃ n, wl233_26 c d Post n r0 x1 (-1) 1000000 0 h_2)))
theorem okm233 (c : gx) (d : Nat) (Post : Option Value → gm_H → Prop) (r0 : Nat) (x1 : Int32) (h : gm_H) (w : wm233 c d Post r0 x1 h) : gE c (d + 1) 233 [.ref r0, .int x1] h Post := by
  have hk : ∀ pc i, gm_find gk_233 pc = some i → gm_code (gt_T c.1 c.2.1 c.2.2.1) 233 pc = some i := fun _ _ z => z
  unfold wm233 at w
  refine ge_of (by decide) (Nat.le_of_ble_eq_true rfl) ?_
  show gV c d 233 (0, [some (.ref r0), some (.int x1), none, none, none, none, none, none], [], h) Post
  unfold gV
  refine gw_pst hk 2 (st' := (2, [some (.ref r0), some (.int x1), none, none, none, none, none, none], [.int 0, .ref r0], h)) rfl ?_
  obtain ⟨fs1, e1, l1, w⟩ := w
  refine gw_pf (hk _ _ rfl) e1 l1 rfl ?_
  obtain ⟨h_1, eh1⟩ : ∃ z, z = gm_put h r0 (.inr (10, fs1.set 13 (.int 0))) := ⟨_, rfl⟩
  rw [← eh1]
  replace w := w h_1 eh1
  refine gw_pst hk 3 (st' := (9, [some (.ref r0), some (.int x1), none, none, none, none, none, none], [.int 30, .int 1, .int x1], h_1)) rfl ?_
  refine gw_call (jj := 154) (As := [.int x1, .int 1, .int 30]) (rest := []) (hk _ _ rfl) (fun _ => rfl) rfl rfl (Nat.le_of_ble_eq_true rfl) rfl ?_
  refine ge_imp w (fun v2 h_2 w => ?_)
  obtain ⟨x_2, rfl, w⟩ := w
  show gV c d 233 (12, [some (.ref r0), some (.int x1), none, none, none, none, none, none], [.int x_2], h_2) Post
  refine gw_br (c := x_2 = 0) (a := (15, [some (.ref r0), some (.int x1), none, none, none, none, none, none], [], h_2)) (b := (17, [some (.ref r0), some (.int x1), none, none, none, none, none, none], [], h_2)) (hk _ _ rfl) rfl ⟨fun z3 => ?_, fun z3 => ?_⟩
  · replace w := w.1 z3
    refine gw_pst hk 1 (st' := (16, [some (.ref r0), some (.int x1), none, none, none, none, none, none], [.int (-1)], h_2)) rfl ?_
    exact gw_ret (hk _ _ rfl) rfl w
  · replace w := w.2 z3
    refine gw_pst hk 6 (st' := (26, [some (.ref r0), some (.int x1), some (.int (-1)), some (.int 1000000), some (.int 0), none, none, none], [], h_2)) rfl ?_
    obtain ⟨n, w⟩ := w
    exact okl233_26 c d Post n _ _ _ _ _ _ w
/-- CommandByTurnsModel.wishOn(II)I -/
def wm234 (c : gx) (d : Nat) (Post : Option Value → gm_H → Prop) (r0 : Nat) (x1 : Int32) (x2 : Int32) (h : gm_H) : Prop :=
  ∃ q_1 : Nat, gm_fld h r0 10 0 = some (.ref q_1) ∧ ∃ (n2 : Nat) (f2 : Nat → Int32), gm_get h q_1 = some (.inl (0, n2, .inl f2)) ∧ vp_in 0 n2 ∧ (∃ fs3, gm_get h r0 = some (.inr (10, fs3))) ∧ gE c d 174 [.ref r0, .int x1, .int ((f2 (0 : Int32).toNatClampNeg) + x2)] h (fun v3 h_3 => ∃ x_3 : Int32, v3 = some (.int x_3) ∧ Post (some (.int x_3)) h_3)
theorem okm234 (c : gx) (d : Nat) (Post : Option Value → gm_H → Prop) (r0 : Nat) (x1 : Int32) (x2 : Int32) (h : gm_H) (w : wm234 c d Post r0 x1 x2 h) : gE c (d + 1) 234 [.ref r0, .int x1, .int x2] h Post := by
  have hk : ∀ pc i, gm_find gk_234 pc = some i → gm_code (gt_T c.1 c.2.1 c.2.2.1) 234 pc = some i := fun _ _ z => z
  unfold wm234 at w
  refine ge_of (by decide) (Nat.le_of_ble_eq_true rfl) ?_
  show gV c d 234 (0, [some (.ref r0), some (.int x1), some (.int x2)], [], h) Post
  unfold gV
  refine gw_pst hk 3 (st' := (3, [some (.ref r0), some (.int x1), some (.int x2)], [.ref r0, .int x1, .ref r0], h)) rfl ?_
  obtain ⟨q_1, e1, w⟩ := w
  refine gw_gf (hk _ _ rfl) e1 ?_
  refine gw_pst hk 1 (st' := (7, [some (.ref r0), some (.int x1), some (.int x2)], [.int 0, .ref q_1, .int x1, .ref r0], h)) rfl ?_
  obtain ⟨n2, f2, e2, b2, w⟩ := w
  refine gw_ald (hk _ _ rfl) (Or.inl ⟨rfl, rfl⟩) e2 b2 ?_
  refine gw_pst hk 2 (st' := (10, [some (.ref r0), some (.int x1), some (.int x2)], [.int ((f2 (0 : Int32).toNatClampNeg) + x2), .int x1, .ref r0], h)) rfl ?_
  obtain ⟨⟨fs3, e3⟩, w⟩ := w
  refine gw_call (jj := 174) (As := [.ref r0, .int x1, .int ((f2 (0 : Int32).toNatClampNeg) + x2)]) (rest := []) (hk _ _ rfl) (fun _ => rfl) rfl rfl (Nat.le_of_ble_eq_true rfl) (gm_rcv_v rfl e3 rfl) ?_
  refine ge_imp w (fun v3 h_3 w => ?_)
  obtain ⟨x_3, rfl, w⟩ := w
  show gV c d 234 (13, [some (.ref r0), some (.int x1), some (.int x2)], [.int x_3], h_3) Post
  exact gw_ret (hk _ _ rfl) rfl w
def w235_151 (c : gx) (d : Nat) (Post : Option Value → gm_H → Prop) (K17 : Nat → Int32 → Int32 → Int32 → Int32 → Int32 → gm_H → Prop) (K27 : Nat → Int32 → Int32 → Int32 → Int32 → Int32 → Int32 → gm_H → Prop) (r0 : Nat) (x1 : Int32) (x2 : Int32) (x3 : Int32) (x4 : Int32) (x5 : Int32) (x6 : Int32) (h : gm_H) : Prop :=
  K27 r0 x1 x2 x3 x4 x5 (x6 + 1) h
theorem ok235_151 (c : gx) (d : Nat) (Post : Option Value → gm_H → Prop) (K17 : Nat → Int32 → Int32 → Int32 → Int32 → Int32 → gm_H → Prop) (K27 : Nat → Int32 → Int32 → Int32 → Int32 → Int32 → Int32 → gm_H → Prop)  (hK17 : ∀ (r0 : Nat) (x1 : Int32) (x2 : Int32) (x3 : Int32) (x4 : Int32) (x5 : Int32) (h : gm_H), K17 r0 x1 x2 x3 x4 x5 h → gV c d 235 (17, [some (.ref r0), some (.int x1), some (.int x2), some (.int x3), some (.int x4), some (.int x5), none, none, none], [], h) Post) (hK27 : ∀ (r0 : Nat) (x1 : Int32) (x2 : Int32) (x3 : Int32) (x4 : Int32) (x5 : Int32) (x6 : Int32) (h : gm_H), K27 r0 x1 x2 x3 x4 x5 x6 h → gV c d 235 (27, [some (.ref r0), some (.int x1), some (.int x2), some (.int x3), some (.int x4), some (.int x5), some (.int x6), none, none], [], h) Post) (r0 : Nat) (x1 : Int32) (x2 : Int32) (x3 : Int32) (x4 : Int32) (x5 : Int32) (x6 : Int32) (h : gm_H) (w : w235_151 c d Post K17 K27 r0 x1 x2 x3 x4 x5 x6 h) : gV c d 235 (151, [some (.ref r0), some (.int x1), some (.int x2), some (.int x3), some (.int x4), some (.int x5), some (.int x6), none, none], [], h) Post := by
  have hk : ∀ pc i, gm_find gk_235 pc = some i → gm_code (gt_T c.1 c.2.1 c.2.2.1) 235 pc = some i := fun _ _ z => z
  unfold w235_151 at w
  unfold gV
  refine gw_pst hk 2 (st' := (27, [some (.ref r0), some (.int x1), some (.int x2), some (.int x3), some (.int x4), some (.int x5), some (.int (x6 + 1)), none, none], [], h)) rfl ?_
  exact hK27 _ _ _ _ _ _ _ _ w
def wb235_27 (c : gx) (d : Nat) (Post : Option Value → gm_H → Prop) (K17 : Nat → Int32 → Int32 → Int32 → Int32 → Int32 → gm_H → Prop) (K27 : Nat → Int32 → Int32 → Int32 → Int32 → Int32 → Int32 → gm_H → Prop) (r0 : Nat) (x1 : Int32) (x2 : Int32) (x3 : Int32) (x4 : Int32) (x5 : Int32) (x6 : Int32) (h : gm_H) : Prop :=
  ((20 ≤ x6 → K17 r0 x1 x2 x3 x4 (x5 + 1) h) ∧ (¬ (20 ≤ x6) → ∃ q_2 : Nat, gm_fld h r0 10 0 = some (.ref q_2) ∧ ∃ q_3 : Nat, gm_fld h r0 10 0 = some (.ref q_3) ∧ ∃ (n4 : Nat) (f4 : Nat → Int32), gm_get h q_3 = some (.inl (0, n4, .inl f4)) ∧ vp_in 0 n4 ∧ gE c d 184 [.ref q_2, .int ((f4 (0 : Int32).toNatClampNeg) + x5)] h (fun v5 h_5 => ∃ x_5 : Int32, v5 = some (.int x_5) ∧ ((x_5 = 0 → ∃ q_7 : Nat, gm_fld h_5 r0 10 0 = some (.ref q_7) ∧ ∃ q_8 : Nat, gm_fld h_5 r0 10 0 = some (.ref q_8) ∧ ∃ (n9 : Nat) (f9 : Nat → Int32), gm_get h_5 q_8 = some (.inl (0, n9, .inl f9)) ∧ vp_in 0 n9 ∧ gE c d 184 [.ref q_7, .int ((f9 (0 : Int32).toNatClampNeg) + x6)] h_5 (fun v10 h_10 => ∃ x_10 : Int32, v10 = some (.int x_10) ∧ ((x_10 = 1 → (∃ fs12, gm_get h_10 r0 = some (.inr (10, fs12))) ∧ gE c d 234 [.ref r0, .int 0, .int x6] h_10 (fun v12 h_12 => ∃ x_12 : Int32, v12 = some (.int x_12) ∧ (∃ fs13, gm_get h_12 r0 = some (.inr (10, fs13))) ∧ gE c d 234 [.ref r0, .int 0, .int x5] h_12 (fun v13 h_13 => ∃ x_13 : Int32, v13 = some (.int x_13) ∧ (∃ fs14, gm_get h_13 r0 = some (.inr (10, fs14))) ∧ gE c d 234 [.ref r0, .int 1, .int x5] h_13 (fun v14 h_14 => ∃ x_14 : Int32, v14 = some (.int x_14) ∧ (∃ fs15, gm_get h_14 r0 = some (.inr (10, fs15))) ∧ gE c d 234 [.ref r0, .int 1, .int x6] h_14 (fun v15 h_15 => ∃ x_15 : Int32, v15 = some (.int x_15) ∧ (((x_12 - x_13) ≤ 0 → w235_151 c d Post K17 K27 r0 x1 x2 x3 x4 x5 x6 h_15) ∧ (¬ ((x_12 - x_13) ≤ 0) → ((0 < (x_14 - x_15) → ((x2 < ((x_12 - x_13) + (x_14 - x_15)) → w235_151 c d Post K17 K27 r0 (x1 + 1) ((x_12 - x_13) + (x_14 - x_15)) x5 x6 x5 x6 h_15) ∧ (¬ (x2 < ((x_12 - x_13) + (x_14 - x_15))) → w235_151 c d Post K17 K27 r0 (x1 + 1) x2 x3 x4 x5 x6 h_15))) ∧ (¬ (0 < (x_14 - x_15)) → w235_151 c d Post K17 K27 r0 x1 x2 x3 x4 x5 x6 h_15))))))))) ∧ (¬ (x_10 = 1) → w235_151 c d Post K17 K27 r0 x1 x2 x3 x4 x5 x6 h_10)))) ∧ (¬ (x_5 = 0) → w235_151 c d Post K17 K27 r0 x1 x2 x3 x4 x5 x6 h_5)))))
theorem okb235_27 (c : gx) (d : Nat) (Post : Option Value → gm_H → Prop) (K17 : Nat → Int32 → Int32 → Int32 → Int32 → Int32 → gm_H → Prop) (K27 : Nat → Int32 → Int32 → Int32 → Int32 → Int32 → Int32 → gm_H → Prop)  (hK17 : ∀ (r0 : Nat) (x1 : Int32) (x2 : Int32) (x3 : Int32) (x4 : Int32) (x5 : Int32) (h : gm_H), K17 r0 x1 x2 x3 x4 x5 h → gV c d 235 (17, [some (.ref r0), some (.int x1), some (.int x2), some (.int x3), some (.int x4), some (.int x5), none, none, none], [], h) Post) (hK27 : ∀ (r0 : Nat) (x1 : Int32) (x2 : Int32) (x3 : Int32) (x4 : Int32) (x5 : Int32) (x6 : Int32) (h : gm_H), K27 r0 x1 x2 x3 x4 x5 x6 h → gV c d 235 (27, [some (.ref r0), some (.int x1), some (.int x2), some (.int x3), some (.int x4), some (.int x5), some (.int x6), none, none], [], h) Post) (r0 : Nat) (x1 : Int32) (x2 : Int32) (x3 : Int32) (x4 : Int32) (x5 : Int32) (x6 : Int32) (h : gm_H) (w : wb235_27 c d Post K17 K27 r0 x1 x2 x3 x4 x5 x6 h) : gV c d 235 (27, [some (.ref r0), some (.int x1), some (.int x2), some (.int x3), some (.int x4), some (.int x5), some (.int x6), none, none], [], h) Post := by
  have hk : ∀ pc i, gm_find gk_235 pc = some i → gm_code (gt_T c.1 c.2.1 c.2.2.1) 235 pc = some i := fun _ _ z => z
  unfold wb235_27 at w
  unfold gV
  refine gw_pst hk 2 (st' := (31, [some (.ref r0), some (.int x1), some (.int x2), some (.int x3), some (.int x4), some (.int x5), some (.int x6), none, none], [.int 20, .int x6], h)) rfl ?_
  refine gw_br (c := 20 ≤ x6) (a := (157, [some (.ref r0), some (.int x1), some (.int x2), some (.int x3), some (.int x4), some (.int x5), some (.int x6), none, none], [], h)) (b := (34, [some (.ref r0), some (.int x1), some (.int x2), some (.int x3), some (.int x4), some (.int x5), some (.int x6), none, none], [], h)) (hk _ _ rfl) rfl ⟨fun z1 => ?_, fun z1 => ?_⟩
  · replace w := w.1 z1
    refine gw_pst hk 2 (st' := (17, [some (.ref r0), some (.int x1), some (.int x2), some (.int x3), some (.int x4), some (.int (x5 + 1)), some (.int x6), none, none], [], h)) rfl ?_
    refine gw_le (L' := [some (.ref r0), some (.int x1), some (.int x2), some (.int x3), some (.int x4), some (.int (x5 + 1)), none, none, none]) (gm_le_k _ (gm_le_k _ (gm_le_k _ (gm_le_k _ (gm_le_k _ (gm_le_k _ (gm_le_n _ (gm_le_k _ (gm_le_k _ gm_le_nil))))))))) ?_
    exact hK17 _ _ _ _ _ _ _ w
  · replace w := w.2 z1
    refine gw_pst hk 1 (st' := (35, [some (.ref r0), some (.int x1), some (.int x2), some (.int x3), some (.int x4), some (.int x5), some (.int x6), none, none], [.ref r0], h)) rfl ?_
    obtain ⟨q_2, e2, w⟩ := w
    refine gw_gf (hk _ _ rfl) e2 ?_
    refine gw_pst hk 1 (st' := (39, [some (.ref r0), some (.int x1), some (.int x2), some (.int x3), some (.int x4), some (.int x5), some (.int x6), none, none], [.ref r0, .ref q_2], h)) rfl ?_
    obtain ⟨q_3, e3, w⟩ := w
    refine gw_gf (hk _ _ rfl) e3 ?_
    refine gw_pst hk 1 (st' := (43, [some (.ref r0), some (.int x1), some (.int x2), some (.int x3), some (.int x4), some (.int x5), some (.int x6), none, none], [.int 0, .ref q_3, .ref q_2], h)) rfl ?_
    obtain ⟨n4, f4, e4, b4, w⟩ := w
    refine gw_ald (hk _ _ rfl) (Or.inl ⟨rfl, rfl⟩) e4 b4 ?_
    refine gw_pst hk 2 (st' := (47, [some (.ref r0), some (.int x1), some (.int x2), some (.int x3), some (.int x4), some (.int x5), some (.int x6), none, none], [.int ((f4 (0 : Int32).toNatClampNeg) + x5), .ref q_2], h)) rfl ?_
    refine gw_call (jj := 184) (As := [.ref q_2, .int ((f4 (0 : Int32).toNatClampNeg) + x5)]) (rest := []) (hk _ _ rfl) (fun _ => rfl) rfl rfl (Nat.le_of_ble_eq_true rfl) rfl ?_
    refine ge_imp w (fun v5 h_5 w => ?_)
    obtain ⟨x_5, rfl, w⟩ := w
    show gV c d 235 (50, [some (.ref r0), some (.int x1), some (.int x2), some (.int x3), some (.int x4), some (.int x5), some (.int x6), none, none], [.int x_5], h_5) Post
    refine gw_br (c := x_5 = 0) (a := (53, [some (.ref r0), some (.int x1), some (.int x2), some (.int x3), some (.int x4), some (.int x5), some (.int x6), none, none], [], h_5)) (b := (151, [some (.ref r0), some (.int x1), some (.int x2), some (.int x3), some (.int x4), some (.int x5), some (.int x6), none, none], [], h_5)) (hk _ _ rfl) rfl ⟨fun z6 => ?_, fun z6 => ?_⟩
    · replace w := w.1 z6
      refine gw_pst hk 1 (st' := (54, [some (.ref r0), some (.int x1), some (.int x2), some (.int x3), some (.int x4), some (.int x5), some (.int x6), none, none], [.ref r0], h_5)) rfl ?_
      obtain ⟨q_7, e7, w⟩ := w
      refine gw_gf (hk _ _ rfl) e7 ?_
      refine gw_pst hk 1 (st' := (58, [some (.ref r0), some (.int x1), some (.int x2), some (.int x3), some (.int x4), some (.int x5), some (.int x6), none, none], [.ref r0, .ref q_7], h_5)) rfl ?_
      obtain ⟨q_8, e8, w⟩ := w
      refine gw_gf (hk _ _ rfl) e8 ?_
      refine gw_pst hk 1 (st' := (62, [some (.ref r0), some (.int x1), some (.int x2), some (.int x3), some (.int x4), some (.int x5), some (.int x6), none, none], [.int 0, .ref q_8, .ref q_7], h_5)) rfl ?_
      obtain ⟨n9, f9, e9, b9, w⟩ := w
      refine gw_ald (hk _ _ rfl) (Or.inl ⟨rfl, rfl⟩) e9 b9 ?_
      refine gw_pst hk 2 (st' := (66, [some (.ref r0), some (.int x1), some (.int x2), some (.int x3), some (.int x4), some (.int x5), some (.int x6), none, none], [.int ((f9 (0 : Int32).toNatClampNeg) + x6), .ref q_7], h_5)) rfl ?_
      refine gw_call (jj := 184) (As := [.ref q_7, .int ((f9 (0 : Int32).toNatClampNeg) + x6)]) (rest := []) (hk _ _ rfl) (fun _ => rfl) rfl rfl (Nat.le_of_ble_eq_true rfl) rfl ?_
      refine ge_imp w (fun v10 h_10 w => ?_)
      obtain ⟨x_10, rfl, w⟩ := w
      show gV c d 235 (69, [some (.ref r0), some (.int x1), some (.int x2), some (.int x3), some (.int x4), some (.int x5), some (.int x6), none, none], [.int x_10], h_10) Post
      refine gw_pst hk 1 (st' := (70, [some (.ref r0), some (.int x1), some (.int x2), some (.int x3), some (.int x4), some (.int x5), some (.int x6), none, none], [.int 1, .int x_10], h_10)) rfl ?_
      refine gw_br (c := x_10 = 1) (a := (76, [some (.ref r0), some (.int x1), some (.int x2), some (.int x3), some (.int x4), some (.int x5), some (.int x6), none, none], [], h_10)) (b := (73, [some (.ref r0), some (.int x1), some (.int x2), some (.int x3), some (.int x4), some (.int x5), some (.int x6), none, none], [], h_10)) (hk _ _ rfl) rfl ⟨fun z11 => ?_, fun z11 => ?_⟩
      · replace w := w.1 z11
        refine gw_pst hk 3 (st' := (80, [some (.ref r0), some (.int x1), some (.int x2), some (.int x3), some (.int x4), some (.int x5), some (.int x6), none, none], [.int x6, .int 0, .ref r0], h_10)) rfl ?_
        obtain ⟨⟨fs12, e12⟩, w⟩ := w
        refine gw_call (jj := 234) (As := [.ref r0, .int 0, .int x6]) (rest := []) (hk _ _ rfl) (fun _ => rfl) rfl rfl (Nat.le_of_ble_eq_true rfl) (gm_rcv_v rfl e12 rfl) ?_
        refine ge_imp w (fun v12 h_12 w => ?_)
        obtain ⟨x_12, rfl, w⟩ := w
        show gV c d 235 (83, [some (.ref r0), some (.int x1), some (.int x2), some (.int x3), some (.int x4), some (.int x5), some (.int x6), none, none], [.int x_12], h_12) Post
        refine gw_pst hk 3 (st' := (87, [some (.ref r0), some (.int x1), some (.int x2), some (.int x3), some (.int x4), some (.int x5), some (.int x6), none, none], [.int x5, .int 0, .ref r0, .int x_12], h_12)) rfl ?_
        obtain ⟨⟨fs13, e13⟩, w⟩ := w
        refine gw_call (jj := 234) (As := [.ref r0, .int 0, .int x5]) (rest := [.int x_12]) (hk _ _ rfl) (fun _ => rfl) rfl rfl (Nat.le_of_ble_eq_true rfl) (gm_rcv_v rfl e13 rfl) ?_
        refine ge_imp w (fun v13 h_13 w => ?_)
        obtain ⟨x_13, rfl, w⟩ := w
        show gV c d 235 (90, [some (.ref r0), some (.int x1), some (.int x2), some (.int x3), some (.int x4), some (.int x5), some (.int x6), none, none], [.int x_13, .int x_12], h_13) Post
        refine gw_pst hk 5 (st' := (97, [some (.ref r0), some (.int x1), some (.int x2), some (.int x3), some (.int x4), some (.int x5), some (.int x6), some (.int (x_12 - x_13)), none], [.int x5, .int 1, .ref r0], h_13)) rfl ?_
        obtain ⟨⟨fs14, e14⟩, w⟩ := w
        refine gw_call (jj := 234) (As := [.ref r0, .int 1, .int x5]) (rest := []) (hk _ _ rfl) (fun _ => rfl) rfl rfl (Nat.le_of_ble_eq_true rfl) (gm_rcv_v rfl e14 rfl) ?_
        refine ge_imp w (fun v14 h_14 w => ?_)
        obtain ⟨x_14, rfl, w⟩ := w
        show gV c d 235 (100, [some (.ref r0), some (.int x1), some (.int x2), some (.int x3), some (.int x4), some (.int x5), some (.int x6), some (.int (x_12 - x_13)), none], [.int x_14], h_14) Post
        refine gw_pst hk 3 (st' := (104, [some (.ref r0), some (.int x1), some (.int x2), some (.int x3), some (.int x4), some (.int x5), some (.int x6), some (.int (x_12 - x_13)), none], [.int x6, .int 1, .ref r0, .int x_14], h_14)) rfl ?_
        obtain ⟨⟨fs15, e15⟩, w⟩ := w
        refine gw_call (jj := 234) (As := [.ref r0, .int 1, .int x6]) (rest := [.int x_14]) (hk _ _ rfl) (fun _ => rfl) rfl rfl (Nat.le_of_ble_eq_true rfl) (gm_rcv_v rfl e15 rfl) ?_
        refine ge_imp w (fun v15 h_15 w => ?_)
        obtain ⟨x_15, rfl, w⟩ := w
        show gV c d 235 (107, [some (.ref r0), some (.int x1), some (.int x2), some (.int x3), some (.int x4), some (.int x5), some (.int x6), some (.int (x_12 - x_13)), none], [.int x_15, .int x_14], h_15) Post
        refine gw_pst hk 3 (st' := (112, [some (.ref r0), some (.int x1), some (.int x2), some (.int x3), some (.int x4), some (.int x5), some (.int x6), some (.int (x_12 - x_13)), some (.int (x_14 - x_15))], [.int (x_12 - x_13)], h_15)) rfl ?_
        refine gw_br (c := (x_12 - x_13) ≤ 0) (a := (151, [some (.ref r0), some (.int x1), some (.int x2), some (.int x3), some (.int x4), some (.int x5), some (.int x6), some (.int (x_12 - x_13)), some (.int (x_14 - x_15))], [], h_15)) (b := (115, [some (.ref r0), some (.int x1), some (.int x2), some (.int x3), some (.int x4), some (.int x5), some (.int x6), some (.int (x_12 - x_13)), some (.int (x_14 - x_15))], [], h_15)) (hk _ _ rfl) rfl ⟨fun z16 => ?_, fun z16 => ?_⟩
        · replace w := w.1 z16
          refine gw_le (L' := [some (.ref r0), some (.int x1), some (.int x2), some (.int x3), some (.int x4), some (.int x5), some (.int x6), none, none]) (gm_le_k _ (gm_le_k _ (gm_le_k _ (gm_le_k _ (gm_le_k _ (gm_le_k _ (gm_le_k _ (gm_le_n _ (gm_le_n _ gm_le_nil))))))))) ?_
          exact ok235_151 c d Post K17 K27 hK17 hK27 _ _ _ _ _ _ _ _ w
        · replace w := w.2 z16
          refine gw_pst hk 1 (st' := (117, [some (.ref r0), some (.int x1), some (.int x2), some (.int x3), some (.int x4), some (.int x5), some (.int x6), some (.int (x_12 - x_13)), some (.int (x_14 - x_15))], [.int (x_14 - x_15)], h_15)) rfl ?_
          refine gw_br (c := 0 < (x_14 - x_15)) (a := (123, [some (.ref r0), some (.int x1), some (.int x2), some (.int x3), some (.int x4), some (.int x5), some (.int x6), some (.int (x_12 - x_13)), some (.int (x_14 - x_15))], [], h_15)) (b := (120, [some (.ref r0), some (.int x1), some (.int x2), some (.int x3), some (.int x4), some (.int x5), some (.int x6), some (.int (x_12 - x_13)), some (.int (x_14 - x_15))], [], h_15)) (hk _ _ rfl) rfl ⟨fun z17 => ?_, fun z17 => ?_⟩
          · replace w := w.1 z17
            refine gw_pst hk 5 (st' := (132, [some (.ref r0), some (.int (x1 + 1)), some (.int x2), some (.int x3), some (.int x4), some (.int x5), some (.int x6), some (.int (x_12 - x_13)), some (.int (x_14 - x_15))], [.int x2, .int ((x_12 - x_13) + (x_14 - x_15))], h_15)) rfl ?_
            refine gw_br (c := x2 < ((x_12 - x_13) + (x_14 - x_15))) (a := (138, [some (.ref r0), some (.int (x1 + 1)), some (.int x2), some (.int x3), some (.int x4), some (.int x5), some (.int x6), some (.int (x_12 - x_13)), some (.int (x_14 - x_15))], [], h_15)) (b := (135, [some (.ref r0), some (.int (x1 + 1)), some (.int x2), some (.int x3), some (.int x4), some (.int x5), some (.int x6), some (.int (x_12 - x_13)), some (.int (x_14 - x_15))], [], h_15)) (hk _ _ rfl) rfl ⟨fun z18 => ?_, fun z18 => ?_⟩
            · replace w := w.1 z18
              refine gw_pst hk 8 (st' := (151, [some (.ref r0), some (.int (x1 + 1)), some (.int ((x_12 - x_13) + (x_14 - x_15))), some (.int x5), some (.int x6), some (.int x5), some (.int x6), some (.int (x_12 - x_13)), some (.int (x_14 - x_15))], [], h_15)) rfl ?_
              refine gw_le (L' := [some (.ref r0), some (.int (x1 + 1)), some (.int ((x_12 - x_13) + (x_14 - x_15))), some (.int x5), some (.int x6), some (.int x5), some (.int x6), none, none]) (gm_le_k _ (gm_le_k _ (gm_le_k _ (gm_le_k _ (gm_le_k _ (gm_le_k _ (gm_le_k _ (gm_le_n _ (gm_le_n _ gm_le_nil))))))))) ?_
              exact ok235_151 c d Post K17 K27 hK17 hK27 _ _ _ _ _ _ _ _ w
            · replace w := w.2 z18
              refine gw_pst hk 1 (st' := (151, [some (.ref r0), some (.int (x1 + 1)), some (.int x2), some (.int x3), some (.int x4), some (.int x5), some (.int x6), some (.int (x_12 - x_13)), some (.int (x_14 - x_15))], [], h_15)) rfl ?_
              refine gw_le (L' := [some (.ref r0), some (.int (x1 + 1)), some (.int x2), some (.int x3), some (.int x4), some (.int x5), some (.int x6), none, none]) (gm_le_k _ (gm_le_k _ (gm_le_k _ (gm_le_k _ (gm_le_k _ (gm_le_k _ (gm_le_k _ (gm_le_n _ (gm_le_n _ gm_le_nil))))))))) ?_
              exact ok235_151 c d Post K17 K27 hK17 hK27 _ _ _ _ _ _ _ _ w
          · replace w := w.2 z17
            refine gw_pst hk 1 (st' := (151, [some (.ref r0), some (.int x1), some (.int x2), some (.int x3), some (.int x4), some (.int x5), some (.int x6), some (.int (x_12 - x_13)), some (.int (x_14 - x_15))], [], h_15)) rfl ?_
            refine gw_le (L' := [some (.ref r0), some (.int x1), some (.int x2), some (.int x3), some (.int x4), some (.int x5), some (.int x6), none, none]) (gm_le_k _ (gm_le_k _ (gm_le_k _ (gm_le_k _ (gm_le_k _ (gm_le_k _ (gm_le_k _ (gm_le_n _ (gm_le_n _ gm_le_nil))))))))) ?_
            exact ok235_151 c d Post K17 K27 hK17 hK27 _ _ _ _ _ _ _ _ w
      · replace w := w.2 z11
        refine gw_pst hk 1 (st' := (151, [some (.ref r0), some (.int x1), some (.int x2), some (.int x3), some (.int x4), some (.int x5), some (.int x6), none, none], [], h_10)) rfl ?_
        exact ok235_151 c d Post K17 K27 hK17 hK27 _ _ _ _ _ _ _ _ w
    · replace w := w.2 z6
      exact ok235_151 c d Post K17 K27 hK17 hK27 _ _ _ _ _ _ _ _ w
def wl235_27 (c : gx) (d : Nat) (Post : Option Value → gm_H → Prop) (K17 : Nat → Int32 → Int32 → Int32 → Int32 → Int32 → gm_H → Prop) : Nat → Nat → Int32 → Int32 → Int32 → Int32 → Int32 → Int32 → gm_H → Prop
  | 0 => fun _ _ _ _ _ _ _ _ => False
  | n + 1 => wb235_27 c d Post K17 (wl235_27 c d Post K17 n)
theorem okl235_27 (c : gx) (d : Nat) (Post : Option Value → gm_H → Prop) (K17 : Nat → Int32 → Int32 → Int32 → Int32 → Int32 → gm_H → Prop) (hK17 : ∀ (r0 : Nat) (x1 : Int32) (x2 : Int32) (x3 : Int32) (x4 : Int32) (x5 : Int32) (h : gm_H), K17 r0 x1 x2 x3 x4 x5 h → gV c d 235 (17, [some (.ref r0), some (.int x1), some (.int x2), some (.int x3), some (.int x4), some (.int x5), none, none, none], [], h) Post) : ∀ (n : Nat) (r0 : Nat) (x1 : Int32) (x2 : Int32) (x3 : Int32) (x4 : Int32) (x5 : Int32) (x6 : Int32) (h : gm_H), wl235_27 c d Post K17 n r0 x1 x2 x3 x4 x5 x6 h → gV c d 235 (27, [some (.ref r0), some (.int x1), some (.int x2), some (.int x3), some (.int x4), some (.int x5), some (.int x6), none, none], [], h) Post
  | 0, _, _, _, _, _, _, _, _, w => w.elim
  | n + 1, r0, x1, x2, x3, x4, x5, x6, h, w => okb235_27 c d Post K17 (wl235_27 c d Post K17 n) hK17 (okl235_27 c d Post K17 hK17 n) r0 x1 x2 x3 x4 x5 x6 h w
def w235_191 (c : gx) (d : Nat) (Post : Option Value → gm_H → Prop) (x1 : Int32) (h : gm_H) : Prop :=
  Post (some (.int x1)) h
theorem ok235_191 (c : gx) (d : Nat) (Post : Option Value → gm_H → Prop)  (x1 : Int32) (h : gm_H) (w : w235_191 c d Post x1 h) : gV c d 235 (191, [none, some (.int x1), none, none, none, none, none, none, none], [], h) Post := by
  have hk : ∀ pc i, gm_find gk_235 pc = some i → gm_code (gt_T c.1 c.2.1 c.2.2.1) 235 pc = some i := fun _ _ z => z
  unfold w235_191 at w
  unfold gV
  refine gw_pst hk 1 (st' := (192, [none, some (.int x1), none, none, none, none, none, none, none], [.int x1], h)) rfl ?_
  exact gw_ret (hk _ _ rfl) rfl w
def wb235_17 (c : gx) (d : Nat) (Post : Option Value → gm_H → Prop) (K17 : Nat → Int32 → Int32 → Int32 → Int32 → Int32 → gm_H → Prop) (r0 : Nat) (x1 : Int32) (x2 : Int32) (x3 : Int32) (x4 : Int32) (x5 : Int32) (h : gm_H) : Prop :=
  ((20 ≤ x5 → ∃ fs2 : List Value, gm_get h r0 = some (.inr (10, fs2)) ∧ 12 < fs2.length ∧ ∀ h_2 : gm_H, h_2 = gm_put h r0 (.inr (10, fs2.set 12 (.int 0))) → ((x1 ≤ 0 → w235_191 c d Post x1 h_2) ∧ (¬ (x1 ≤ 0) → (∃ fs4, gm_get h_2 r0 = some (.inr (10, fs4))) ∧ gE c d 157 [.ref r0, .long ((x3 : Int32).toInt64)] h_2 (fun v4 h_4 => v4 = none ∧ (∃ fs5, gm_get h_4 r0 = some (.inr (10, fs5))) ∧ gE c d 157 [.ref r0, .long ((x4 : Int32).toInt64)] h_4 (fun v5 h_5 => v5 = none ∧ (∃ fs6, gm_get h_5 r0 = some (.inr (10, fs6))) ∧ gE c d 157 [.ref r0, .long ((x2 : Int32).toInt64)] h_5 (fun v6 h_6 => v6 = none ∧ w235_191 c d Post x1 h_6)))))) ∧ (¬ (20 ≤ x5) → ∃ n, wl235_27 c d Post K17 n r0 x1 x2 x3 x4 x5 0 h))
theorem okb235_17 (c : gx) (d : Nat) (Post : Option Value → gm_H → Prop) (K17 : Nat → Int32 → Int32 → Int32 → Int32 → Int32 → gm_H → Prop)  (hK17 : ∀ (r0 : Nat) (x1 : Int32) (x2 : Int32) (x3 : Int32) (x4 : Int32) (x5 : Int32) (h : gm_H), K17 r0 x1 x2 x3 x4 x5 h → gV c d 235 (17, [some (.ref r0), some (.int x1), some (.int x2), some (.int x3), some (.int x4), some (.int x5), none, none, none], [], h) Post) (r0 : Nat) (x1 : Int32) (x2 : Int32) (x3 : Int32) (x4 : Int32) (x5 : Int32) (h : gm_H) (w : wb235_17 c d Post K17 r0 x1 x2 x3 x4 x5 h) : gV c d 235 (17, [some (.ref r0), some (.int x1), some (.int x2), some (.int x3), some (.int x4), some (.int x5), none, none, none], [], h) Post := by
  have hk : ∀ pc i, gm_find gk_235 pc = some i → gm_code (gt_T c.1 c.2.1 c.2.2.1) 235 pc = some i := fun _ _ z => z
  unfold wb235_17 at w
  unfold gV
  refine gw_pst hk 2 (st' := (21, [some (.ref r0), some (.int x1), some (.int x2), some (.int x3), some (.int x4), some (.int x5), none, none, none], [.int 20, .int x5], h)) rfl ?_
  refine gw_br (c := 20 ≤ x5) (a := (163, [some (.ref r0), some (.int x1), some (.int x2), some (.int x3), some (.int x4), some (.int x5), none, none, none], [], h)) (b := (24, [some (.ref r0), some (.int x1), some (.int x2), some (.int x3), some (.int x4), some (.int x5), none, none, none], [], h)) (hk _ _ rfl) rfl ⟨fun z1 => ?_, fun z1 => ?_⟩
  · replace w := w.1 z1
    refine gw_pst hk 2 (st' := (165, [some (.ref r0), some (.int x1), some (.int x2), some (.int x3), some (.int x4), some (.int x5), none, none, none], [.int 0, .ref r0], h)) rfl ?_
    obtain ⟨fs2, e2, l2, w⟩ := w
    refine gw_pf (hk _ _ rfl) e2 l2 rfl ?_
    obtain ⟨h_2, eh2⟩ : ∃ z, z = gm_put h r0 (.inr (10, fs2.set 12 (.int 0))) := ⟨_, rfl⟩
    rw [← eh2]
    replace w := w h_2 eh2
    refine gw_pst hk 1 (st' := (169, [some (.ref r0), some (.int x1), some (.int x2), some (.int x3), some (.int x4), some (.int x5), none, none, none], [.int x1], h_2)) rfl ?_
    refine gw_br (c := x1 ≤ 0) (a := (191, [some (.ref r0), some (.int x1), some (.int x2), some (.int x3), some (.int x4), some (.int x5), none, none, none], [], h_2)) (b := (172, [some (.ref r0), some (.int x1), some (.int x2), some (.int x3), some (.int x4), some (.int x5), none, none, none], [], h_2)) (hk _ _ rfl) rfl ⟨fun z3 => ?_, fun z3 => ?_⟩
    · replace w := w.1 z3
      refine gw_le (L' := [none, some (.int x1), none, none, none, none, none, none, none]) (gm_le_n _ (gm_le_k _ (gm_le_n _ (gm_le_n _ (gm_le_n _ (gm_le_n _ (gm_le_k _ (gm_le_k _ (gm_le_k _ gm_le_nil))))))))) ?_
      exact ok235_191 c d Post _ _ w
    · replace w := w.2 z3
      refine gw_pst hk 3 (st' := (175, [some (.ref r0), some (.int x1), some (.int x2), some (.int x3), some (.int x4), some (.int x5), none, none, none], [.long ((x3 : Int32).toInt64), .ref r0], h_2)) rfl ?_
      obtain ⟨⟨fs4, e4⟩, w⟩ := w
      refine gw_call (jj := 157) (As := [.ref r0, .long ((x3 : Int32).toInt64)]) (rest := []) (hk _ _ rfl) (fun _ => rfl) rfl rfl (Nat.le_of_ble_eq_true rfl) (gm_rcv_v rfl e4 rfl) ?_
      refine ge_imp w (fun v4 h_4 w => ?_)
      obtain ⟨rfl, w⟩ := w
      show gV c d 235 (178, [some (.ref r0), some (.int x1), some (.int x2), some (.int x3), some (.int x4), some (.int x5), none, none, none], [], h_4) Post
      refine gw_pst hk 3 (st' := (182, [some (.ref r0), some (.int x1), some (.int x2), some (.int x3), some (.int x4), some (.int x5), none, none, none], [.long ((x4 : Int32).toInt64), .ref r0], h_4)) rfl ?_
      obtain ⟨⟨fs5, e5⟩, w⟩ := w
      refine gw_call (jj := 157) (As := [.ref r0, .long ((x4 : Int32).toInt64)]) (rest := []) (hk _ _ rfl) (fun _ => rfl) rfl rfl (Nat.le_of_ble_eq_true rfl) (gm_rcv_v rfl e5 rfl) ?_
      refine ge_imp w (fun v5 h_5 w => ?_)
      obtain ⟨rfl, w⟩ := w
      show gV c d 235 (185, [some (.ref r0), some (.int x1), some (.int x2), some (.int x3), some (.int x4), some (.int x5), none, none, none], [], h_5) Post
      refine gw_pst hk 3 (st' := (188, [some (.ref r0), some (.int x1), some (.int x2), some (.int x3), some (.int x4), some (.int x5), none, none, none], [.long ((x2 : Int32).toInt64), .ref r0], h_5)) rfl ?_
      obtain ⟨⟨fs6, e6⟩, w⟩ := w
      refine gw_call (jj := 157) (As := [.ref r0, .long ((x2 : Int32).toInt64)]) (rest := []) (hk _ _ rfl) (fun _ => rfl) rfl rfl (Nat.le_of_ble_eq_true rfl) (gm_rcv_v rfl e6 rfl) ?_
      refine ge_imp w (fun v6 h_6 w => ?_)
      obtain ⟨rfl, w⟩ := w
      show gV c d 235 (191, [some (.ref r0), some (.int x1), some (.int x2), some (.int x3), some (.int x4), some (.int x5), none, none, none], [], h_6) Post
      refine gw_le (L' := [none, some (.int x1), none, none, none, none, none, none, none]) (gm_le_n _ (gm_le_k _ (gm_le_n _ (gm_le_n _ (gm_le_n _ (gm_le_n _ (gm_le_k _ (gm_le_k _ (gm_le_k _ gm_le_nil))))))))) ?_
      exact ok235_191 c d Post _ _ w
  · replace w := w.2 z1
    refine gw_pst hk 2 (st' := (27, [some (.ref r0), some (.int x1), some (.int x2), some (.int x3), some (.int x4), some (.int x5), some (.int 0), none, none], [], h)) rfl ?_
    obtain ⟨n, w⟩ := w
    exact okl235_27 c d Post K17 hK17 n _ _ _ _ _ _ _ _ w
def wl235_17 (c : gx) (d : Nat) (Post : Option Value → gm_H → Prop) : Nat → Nat → Int32 → Int32 → Int32 → Int32 → Int32 → gm_H → Prop
  | 0 => fun _ _ _ _ _ _ _ => False
  | n + 1 => wb235_17 c d Post (wl235_17 c d Post n)
theorem okl235_17 (c : gx) (d : Nat) (Post : Option Value → gm_H → Prop) : ∀ (n : Nat) (r0 : Nat) (x1 : Int32) (x2 : Int32) (x3 : Int32) (x4 : Int32) (x5 : Int32) (h : gm_H), wl235_17 c d Post n r0 x1 x2 x3 x4 x5 h → gV c d 235 (17, [some (.ref r0), some (.int x1), some (.int x2), some (.int x3), some (.int x4), some (.int x5), none, none, none], [], h) Post
  | 0, _, _, _, _, _, _, _, w => w.elim
  | n + 1, r0, x1, x2, x3, x4, x5, h, w => okb235_17 c d Post (wl235_17 c d Post n) (okl235_17 c d Post n) r0 x1 x2 x3 x4 x5 h w
/-- CommandByTurnsModel.bargain()I -/
def wm235 (c : gx) (d : Nat) (Post : Option Value → gm_H → Prop) (r0 : Nat) (h : gm_H) : Prop :=
  ∃ fs1 : List Value, gm_get h r0 = some (.inr (10, fs1)) ∧ 13 < fs1.length ∧ ∀ h_1 : gm_H, h_1 = gm_put h r0 (.inr (10, fs1.set 13 (.int 0))) → ∃ n, wl235_17 c d Post n r0 0 0 0 0 0 h_1
theorem okm235 (c : gx) (d : Nat) (Post : Option Value → gm_H → Prop) (r0 : Nat) (h : gm_H) (w : wm235 c d Post r0 h) : gE c (d + 1) 235 [.ref r0] h Post := by
  have hk : ∀ pc i, gm_find gk_235 pc = some i → gm_code (gt_T c.1 c.2.1 c.2.2.1) 235 pc = some i := fun _ _ z => z
  unfold wm235 at w
  refine ge_of (by decide) (Nat.le_of_ble_eq_true rfl) ?_
  show gV c d 235 (0, [some (.ref r0), none, none, none, none, none, none, none, none], [], h) Post
  unfold gV
  refine gw_pst hk 2 (st' := (2, [some (.ref r0), none, none, none, none, none, none, none, none], [.int 0, .ref r0], h)) rfl ?_
  obtain ⟨fs1, e1, l1, w⟩ := w
  refine gw_pf (hk _ _ rfl) e1 l1 rfl ?_
  obtain ⟨h_1, eh1⟩ : ∃ z, z = gm_put h r0 (.inr (10, fs1.set 13 (.int 0))) := ⟨_, rfl⟩
  rw [← eh1]
  replace w := w h_1 eh1
  refine gw_pst hk 10 (st' := (17, [some (.ref r0), some (.int 0), some (.int 0), some (.int 0), some (.int 0), some (.int 0), none, none, none], [], h_1)) rfl ?_
  obtain ⟨n, w⟩ := w
  exact okl235_17 c d Post n _ _ _ _ _ _ _ w
def w236_93 (c : gx) (d : Nat) (Post : Option Value → gm_H → Prop) (K27 : Nat → Int32 → Int32 → Int32 → Int32 → Int32 → gm_H → Prop) (r0 : Nat) (x1 : Int32) (x2 : Int32) (x3 : Int32) (x4 : Int32) (x5 : Int32) (h : gm_H) : Prop :=
  K27 r0 x1 x2 x3 x4 (x5 + 1) h
theorem ok236_93 (c : gx) (d : Nat) (Post : Option Value → gm_H → Prop) (K27 : Nat → Int32 → Int32 → Int32 → Int32 → Int32 → gm_H → Prop)  (hK27 : ∀ (r0 : Nat) (x1 : Int32) (x2 : Int32) (x3 : Int32) (x4 : Int32) (x5 : Int32) (h : gm_H), K27 r0 x1 x2 x3 x4 x5 h → gV c d 236 (27, [some (.ref r0), some (.int x1), some (.int x2), some (.int x3), some (.int x4), some (.int x5), none, none, none], [], h) Post) (r0 : Nat) (x1 : Int32) (x2 : Int32) (x3 : Int32) (x4 : Int32) (x5 : Int32) (h : gm_H) (w : w236_93 c d Post K27 r0 x1 x2 x3 x4 x5 h) : gV c d 236 (93, [some (.ref r0), some (.int x1), some (.int x2), some (.int x3), some (.int x4), some (.int x5), none, none, none], [], h) Post := by
  have hk : ∀ pc i, gm_find gk_236 pc = some i → gm_code (gt_T c.1 c.2.1 c.2.2.1) 236 pc = some i := fun _ _ z => z
  unfold w236_93 at w
  unfold gV
  refine gw_pst hk 2 (st' := (27, [some (.ref r0), some (.int x1), some (.int x2), some (.int x3), some (.int x4), some (.int (x5 + 1)), none, none, none], [], h)) rfl ?_
  exact hK27 _ _ _ _ _ _ _ w
def w236_78 (c : gx) (d : Nat) (Post : Option Value → gm_H → Prop) (K27 : Nat → Int32 → Int32 → Int32 → Int32 → Int32 → gm_H → Prop) (r0 : Nat) (x1 : Int32) (x2 : Int32) (x4 : Int32) (x5 : Int32) (x6 : Int32) (xs0 : Int32) (xs1 : Int32) (h : gm_H) : Prop :=
  (∃ fs1, gm_get h r0 = some (.inr (10, fs1))) ∧ gE c d 234 [.ref r0, .int x6, .int x5] h (fun v1 h_1 => ∃ x_1 : Int32, v1 = some (.int x_1) ∧ w236_93 c d Post K27 r0 x1 x2 (xs0 + xs1) (x4 + x_1) x5 h_1)
theorem ok236_78 (c : gx) (d : Nat) (Post : Option Value → gm_H → Prop) (K27 : Nat → Int32 → Int32 → Int32 → Int32 → Int32 → gm_H → Prop)  (hK27 : ∀ (r0 : Nat) (x1 : Int32) (x2 : Int32) (x3 : Int32) (x4 : Int32) (x5 : Int32) (h : gm_H), K27 r0 x1 x2 x3 x4 x5 h → gV c d 236 (27, [some (.ref r0), some (.int x1), some (.int x2), some (.int x3), some (.int x4), some (.int x5), none, none, none], [], h) Post) (r0 : Nat) (x1 : Int32) (x2 : Int32) (x4 : Int32) (x5 : Int32) (x6 : Int32) (xs0 : Int32) (xs1 : Int32) (h : gm_H) (w : w236_78 c d Post K27 r0 x1 x2 x4 x5 x6 xs0 xs1 h) : gV c d 236 (78, [some (.ref r0), some (.int x1), some (.int x2), none, some (.int x4), some (.int x5), some (.int x6), none, none], [.int xs1, .int xs0], h) Post := by
  have hk : ∀ pc i, gm_find gk_236 pc = some i → gm_code (gt_T c.1 c.2.1 c.2.2.1) 236 pc = some i := fun _ _ z => z
  unfold w236_78 at w
  unfold gV
  refine gw_pst hk 6 (st' := (87, [some (.ref r0), some (.int x1), some (.int x2), some (.int (xs0 + xs1)), some (.int x4), some (.int x5), some (.int x6), none, none], [.int x5, .int x6, .ref r0, .int x4], h)) rfl ?_
  obtain ⟨⟨fs1, e1⟩, w⟩ := w
  refine gw_call (jj := 234) (As := [.ref r0, .int x6, .int x5]) (rest := [.int x4]) (hk _ _ rfl) (fun _ => rfl) rfl rfl (Nat.le_of_ble_eq_true rfl) (gm_rcv_v rfl e1 rfl) ?_
  refine ge_imp w (fun v1 h_1 w => ?_)
  obtain ⟨x_1, rfl, w⟩ := w
  show gV c d 236 (90, [some (.ref r0), some (.int x1), some (.int x2), some (.int (xs0 + xs1)), some (.int x4), some (.int x5), some (.int x6), none, none], [.int x_1, .int x4], h_1) Post
  refine gw_pst hk 2 (st' := (93, [some (.ref r0), some (.int x1), some (.int x2), some (.int (xs0 + xs1)), some (.int (x4 + x_1)), some (.int x5), some (.int x6), none, none], [], h_1)) rfl ?_
  refine gw_le (L' := [some (.ref r0), some (.int x1), some (.int x2), some (.int (xs0 + xs1)), some (.int (x4 + x_1)), some (.int x5), none, none, none]) (gm_le_k _ (gm_le_k _ (gm_le_k _ (gm_le_k _ (gm_le_k _ (gm_le_k _ (gm_le_n _ (gm_le_k _ (gm_le_k _ gm_le_nil))))))))) ?_
  exact ok236_93 c d Post K27 hK27 _ _ _ _ _ _ _ w
def w236_180 (c : gx) (d : Nat) (Post : Option Value → gm_H → Prop) (K105 : Nat → Int32 → Int32 → Int32 → Int32 → Int32 → Int32 → gm_H → Prop) (K117 : Nat → Int32 → Int32 → Int32 → Int32 → Int32 → Int32 → Int32 → Int32 → gm_H → Prop) (r0 : Nat) (x1 : Int32) (x2 : Int32) (x3 : Int32) (x4 : Int32) (x5 : Int32) (x6 : Int32) (x7 : Int32) (x8 : Int32) (h : gm_H) : Prop :=
  K117 r0 x1 x2 x3 x4 x5 x6 x7 (x8 + 1) h
theorem ok236_180 (c : gx) (d : Nat) (Post : Option Value → gm_H → Prop) (K105 : Nat → Int32 → Int32 → Int32 → Int32 → Int32 → Int32 → gm_H → Prop) (K117 : Nat → Int32 → Int32 → Int32 → Int32 → Int32 → Int32 → Int32 → Int32 → gm_H → Prop)  (hK105 : ∀ (r0 : Nat) (x1 : Int32) (x2 : Int32) (x3 : Int32) (x4 : Int32) (x5 : Int32) (x6 : Int32) (h : gm_H), K105 r0 x1 x2 x3 x4 x5 x6 h → gV c d 236 (105, [some (.ref r0), some (.int x1), some (.int x2), some (.int x3), some (.int x4), some (.int x5), some (.int x6), none, none], [], h) Post) (hK117 : ∀ (r0 : Nat) (x1 : Int32) (x2 : Int32) (x3 : Int32) (x4 : Int32) (x5 : Int32) (x6 : Int32) (x7 : Int32) (x8 : Int32) (h : gm_H), K117 r0 x1 x2 x3 x4 x5 x6 x7 x8 h → gV c d 236 (117, [some (.ref r0), some (.int x1), some (.int x2), some (.int x3), some (.int x4), some (.int x5), some (.int x6), some (.int x7), some (.int x8)], [], h) Post) (r0 : Nat) (x1 : Int32) (x2 : Int32) (x3 : Int32) (x4 : Int32) (x5 : Int32) (x6 : Int32) (x7 : Int32) (x8 : Int32) (h : gm_H) (w : w236_180 c d Post K105 K117 r0 x1 x2 x3 x4 x5 x6 x7 x8 h) : gV c d 236 (180, [some (.ref r0), some (.int x1), some (.int x2), some (.int x3), some (.int x4), some (.int x5), some (.int x6), some (.int x7), some (.int x8)], [], h) Post := by
  have hk : ∀ pc i, gm_find gk_236 pc = some i → gm_code (gt_T c.1 c.2.1 c.2.2.1) 236 pc = some i := fun _ _ z => z
  unfold w236_180 at w
  unfold gV
  refine gw_pst hk 2 (st' := (117, [some (.ref r0), some (.int x1), some (.int x2), some (.int x3), some (.int x4), some (.int x5), some (.int x6), some (.int x7), some (.int (x8 + 1))], [], h)) rfl ?_
  exact hK117 _ _ _ _ _ _ _ _ _ _ w
def w236_176 (c : gx) (d : Nat) (Post : Option Value → gm_H → Prop) (K105 : Nat → Int32 → Int32 → Int32 → Int32 → Int32 → Int32 → gm_H → Prop) (K117 : Nat → Int32 → Int32 → Int32 → Int32 → Int32 → Int32 → Int32 → Int32 → gm_H → Prop) (r0 : Nat) (x1 : Int32) (x2 : Int32) (x3 : Int32) (x4 : Int32) (x5 : Int32) (x6 : Int32) (x8 : Int32) (h : gm_H) : Prop :=
  w236_180 c d Post K105 K117 r0 x1 x2 x3 x4 x5 x6 x8 x8 h
theorem ok236_176 (c : gx) (d : Nat) (Post : Option Value → gm_H → Prop) (K105 : Nat → Int32 → Int32 → Int32 → Int32 → Int32 → Int32 → gm_H → Prop) (K117 : Nat → Int32 → Int32 → Int32 → Int32 → Int32 → Int32 → Int32 → Int32 → gm_H → Prop)  (hK105 : ∀ (r0 : Nat) (x1 : Int32) (x2 : Int32) (x3 : Int32) (x4 : Int32) (x5 : Int32) (x6 : Int32) (h : gm_H), K105 r0 x1 x2 x3 x4 x5 x6 h → gV c d 236 (105, [some (.ref r0), some (.int x1), some (.int x2), some (.int x3), some (.int x4), some (.int x5), some (.int x6), none, none], [], h) Post) (hK117 : ∀ (r0 : Nat) (x1 : Int32) (x2 : Int32) (x3 : Int32) (x4 : Int32) (x5 : Int32) (x6 : Int32) (x7 : Int32) (x8 : Int32) (h : gm_H), K117 r0 x1 x2 x3 x4 x5 x6 x7 x8 h → gV c d 236 (117, [some (.ref r0), some (.int x1), some (.int x2), some (.int x3), some (.int x4), some (.int x5), some (.int x6), some (.int x7), some (.int x8)], [], h) Post) (r0 : Nat) (x1 : Int32) (x2 : Int32) (x3 : Int32) (x4 : Int32) (x5 : Int32) (x6 : Int32) (x8 : Int32) (h : gm_H) (w : w236_176 c d Post K105 K117 r0 x1 x2 x3 x4 x5 x6 x8 h) : gV c d 236 (176, [some (.ref r0), some (.int x1), some (.int x2), some (.int x3), some (.int x4), some (.int x5), some (.int x6), none, some (.int x8)], [], h) Post := by
  have hk : ∀ pc i, gm_find gk_236 pc = some i → gm_code (gt_T c.1 c.2.1 c.2.2.1) 236 pc = some i := fun _ _ z => z
  unfold w236_176 at w
  unfold gV
  refine gw_pst hk 2 (st' := (180, [some (.ref r0), some (.int x1), some (.int x2), some (.int x3), some (.int x4), some (.int x5), some (.int x6), some (.int x8), some (.int x8)], [], h)) rfl ?_
  exact ok236_180 c d Post K105 K117 hK105 hK117 _ _ _ _ _ _ _ _ _ _ w
def wb236_117 (c : gx) (d : Nat) (Post : Option Value → gm_H → Prop) (K105 : Nat → Int32 → Int32 → Int32 → Int32 → Int32 → Int32 → gm_H → Prop) (K117 : Nat → Int32 → Int32 → Int32 → Int32 → Int32 → Int32 → Int32 → Int32 → gm_H → Prop) (r0 : Nat) (x1 : Int32) (x2 : Int32) (x3 : Int32) (x4 : Int32) (x5 : Int32) (x6 : Int32) (x7 : Int32) (x8 : Int32) (h : gm_H) : Prop :=
  ((x1 ≤ x8 → K105 r0 x1 x2 x3 x4 (x5 ||| (1 <<< (x7 &&& 31))) (x6 + 1) h) ∧ (¬ (x1 ≤ x8) → gE c d 155 [.int (x2 &&& (x5 ^^^ (-1))), .int x8] h (fun v2 h_2 => ∃ x_2 : Int32, v2 = some (.int x_2) ∧ ((x_2 = 0 → w236_180 c d Post K105 K117 r0 x1 x2 x3 x4 x5 x6 x7 x8 h_2) ∧ (¬ (x_2 = 0) → ((x7 = (-1) → w236_176 c d Post K105 K117 r0 x1 x2 x3 x4 x5 x6 x8 h_2) ∧ (¬ (x7 = (-1)) → (∃ fs5, gm_get h_2 r0 = some (.inr (10, fs5))) ∧ gE c d 234 [.ref r0, .int 0, .int x8] h_2 (fun v5 h_5 => ∃ x_5 : Int32, v5 = some (.int x_5) ∧ (∃ fs6, gm_get h_5 r0 = some (.inr (10, fs6))) ∧ gE c d 234 [.ref r0, .int 1, .int x8] h_5 (fun v6 h_6 => ∃ x_6 : Int32, v6 = some (.int x_6) ∧ (∃ fs7, gm_get h_6 r0 = some (.inr (10, fs7))) ∧ gE c d 234 [.ref r0, .int 0, .int x7] h_6 (fun v7 h_7 => ∃ x_7 : Int32, v7 = some (.int x_7) ∧ (∃ fs8, gm_get h_7 r0 = some (.inr (10, fs8))) ∧ gE c d 234 [.ref r0, .int 1, .int x7] h_7 (fun v8 h_8 => ∃ x_8 : Int32, v8 = some (.int x_8) ∧ (((x_5 - x_6) ≤ (x_7 - x_8) → w236_180 c d Post K105 K117 r0 x1 x2 x3 x4 x5 x6 x7 x8 h_8) ∧ (¬ ((x_5 - x_6) ≤ (x_7 - x_8)) → w236_176 c d Post K105 K117 r0 x1 x2 x3 x4 x5 x6 x8 h_8)))))))))))))
theorem okb236_117 (c : gx) (d : Nat) (Post : Option Value → gm_H → Prop) (K105 : Nat → Int32 → Int32 → Int32 → Int32 → Int32 → Int32 → gm_H → Prop) (K117 : Nat → Int32 → Int32 → Int32 → Int32 → Int32 → Int32 → Int32 → Int32 → gm_H → Prop)  (hK105 : ∀ (r0 : Nat) (x1 : Int32) (x2 : Int32) (x3 : Int32) (x4 : Int32) (x5 : Int32) (x6 : Int32) (h : gm_H), K105 r0 x1 x2 x3 x4 x5 x6 h → gV c d 236 (105, [some (.ref r0), some (.int x1), some (.int x2), some (.int x3), some (.int x4), some (.int x5), some (.int x6), none, none], [], h) Post) (hK117 : ∀ (r0 : Nat) (x1 : Int32) (x2 : Int32) (x3 : Int32) (x4 : Int32) (x5 : Int32) (x6 : Int32) (x7 : Int32) (x8 : Int32) (h : gm_H), K117 r0 x1 x2 x3 x4 x5 x6 x7 x8 h → gV c d 236 (117, [some (.ref r0), some (.int x1), some (.int x2), some (.int x3), some (.int x4), some (.int x5), some (.int x6), some (.int x7), some (.int x8)], [], h) Post) (r0 : Nat) (x1 : Int32) (x2 : Int32) (x3 : Int32) (x4 : Int32) (x5 : Int32) (x6 : Int32) (x7 : Int32) (x8 : Int32) (h : gm_H) (w : wb236_117 c d Post K105 K117 r0 x1 x2 x3 x4 x5 x6 x7 x8 h) : gV c d 236 (117, [some (.ref r0), some (.int x1), some (.int x2), some (.int x3), some (.int x4), some (.int x5), some (.int x6), some (.int x7), some (.int x8)], [], h) Post := by
  have hk : ∀ pc i, gm_find gk_236 pc = some i → gm_code (gt_T c.1 c.2.1 c.2.2.1) 236 pc = some i := fun _ _ z => z
  unfold wb236_117 at w
  unfold gV
  refine gw_pst hk 2 (st' := (120, [some (.ref r0), some (.int x1), some (.int x2), some (.int x3), some (.int x4), some (.int x5), some (.int x6), some (.int x7), some (.int x8)], [.int x1, .int x8], h)) rfl ?_
  refine gw_br (c := x1 ≤ x8) (a := (186, [some (.ref r0), some (.int x1), some (.int x2), some (.int x3), some (.int x4), some (.int x5), some (.int x6), some (.int x7), some (.int x8)], [], h)) (b := (123, [some (.ref r0), some (.int x1), some (.int x2), some (.int x3), some (.int x4), some (.int x5), some (.int x6), some (.int x7), some (.int x8)], [], h)) (hk _ _ rfl) rfl ⟨fun z1 => ?_, fun z1 => ?_⟩
  · replace w := w.1 z1
    refine gw_pst hk 8 (st' := (105, [some (.ref r0), some (.int x1), some (.int x2), some (.int x3), some (.int x4), some (.int (x5 ||| (1 <<< (x7 &&& 31)))), some (.int (x6 + 1)), some (.int x7), some (.int x8)], [], h)) rfl ?_
    refine gw_le (L' := [some (.ref r0), some (.int x1), some (.int x2), some (.int x3), some (.int x4), some (.int (x5 ||| (1 <<< (x7 &&& 31)))), some (.int (x6 + 1)), none, none]) (gm_le_k _ (gm_le_k _ (gm_le_k _ (gm_le_k _ (gm_le_k _ (gm_le_k _ (gm_le_k _ (gm_le_n _ (gm_le_n _ gm_le_nil))))))))) ?_
    exact hK105 _ _ _ _ _ _ _ _ w
  · replace w := w.2 z1
    refine gw_pst hk 6 (st' := (131, [some (.ref r0), some (.int x1), some (.int x2), some (.int x3), some (.int x4), some (.int x5), some (.int x6), some (.int x7), some (.int x8)], [.int x8, .int (x2 &&& (x5 ^^^ (-1)))], h)) rfl ?_
    refine gw_call (jj := 155) (As := [.int (x2 &&& (x5 ^^^ (-1))), .int x8]) (rest := []) (hk _ _ rfl) (fun _ => rfl) rfl rfl (Nat.le_of_ble_eq_true rfl) rfl ?_
    refine ge_imp w (fun v2 h_2 w => ?_)
    obtain ⟨x_2, rfl, w⟩ := w
    show gV c d 236 (134, [some (.ref r0), some (.int x1), some (.int x2), some (.int x3), some (.int x4), some (.int x5), some (.int x6), some (.int x7), some (.int x8)], [.int x_2], h_2) Post
    refine gw_br (c := x_2 = 0) (a := (180, [some (.ref r0), some (.int x1), some (.int x2), some (.int x3), some (.int x4), some (.int x5), some (.int x6), some (.int x7), some (.int x8)], [], h_2)) (b := (137, [some (.ref r0), some (.int x1), some (.int x2), some (.int x3), some (.int x4), some (.int x5), some (.int x6), some (.int x7), some (.int x8)], [], h_2)) (hk _ _ rfl) rfl ⟨fun z3 => ?_, fun z3 => ?_⟩
    · replace w := w.1 z3
      exact ok236_180 c d Post K105 K117 hK105 hK117 _ _ _ _ _ _ _ _ _ _ w
    · replace w := w.2 z3
      refine gw_pst hk 2 (st' := (140, [some (.ref r0), some (.int x1), some (.int x2), some (.int x3), some (.int x4), some (.int x5), some (.int x6), some (.int x7), some (.int x8)], [.int (-1), .int x7], h_2)) rfl ?_
      refine gw_br (c := x7 = (-1)) (a := (176, [some (.ref r0), some (.int x1), some (.int x2), some (.int x3), some (.int x4), some (.int x5), some (.int x6), some (.int x7), some (.int x8)], [], h_2)) (b := (143, [some (.ref r0), some (.int x1), some (.int x2), some (.int x3), some (.int x4), some (.int x5), some (.int x6), some (.int x7), some (.int x8)], [], h_2)) (hk _ _ rfl) rfl ⟨fun z4 => ?_, fun z4 => ?_⟩
      · replace w := w.1 z4
        refine gw_le (L' := [some (.ref r0), some (.int x1), some (.int x2), some (.int x3), some (.int x4), some (.int x5), some (.int x6), none, some (.int x8)]) (gm_le_k _ (gm_le_k _ (gm_le_k _ (gm_le_k _ (gm_le_k _ (gm_le_k _ (gm_le_k _ (gm_le_n _ (gm_le_k _ gm_le_nil))))))))) ?_
        exact ok236_176 c d Post K105 K117 hK105 hK117 _ _ _ _ _ _ _ _ _ w
      · replace w := w.2 z4
        refine gw_pst hk 3 (st' := (147, [some (.ref r0), some (.int x1), some (.int x2), some (.int x3), some (.int x4), some (.int x5), some (.int x6), some (.int x7), some (.int x8)], [.int x8, .int 0, .ref r0], h_2)) rfl ?_
        obtain ⟨⟨fs5, e5⟩, w⟩ := w
        refine gw_call (jj := 234) (As := [.ref r0, .int 0, .int x8]) (rest := []) (hk _ _ rfl) (fun _ => rfl) rfl rfl (Nat.le_of_ble_eq_true rfl) (gm_rcv_v rfl e5 rfl) ?_
        refine ge_imp w (fun v5 h_5 w => ?_)
        obtain ⟨x_5, rfl, w⟩ := w
        show gV c d 236 (150, [some (.ref r0), some (.int x1), some (.int x2), some (.int x3), some (.int x4), some (.int x5), some (.int x6), some (.int x7), some (.int x8)], [.int x_5], h_5) Post
        refine gw_pst hk 3 (st' := (154, [some (.ref r0), some (.int x1), some (.int x2), some (.int x3), some (.int x4), some (.int x5), some (.int x6), some (.int x7), some (.int x8)], [.int x8, .int 1, .ref r0, .int x_5], h_5)) rfl ?_
        obtain ⟨⟨fs6, e6⟩, w⟩ := w
        refine gw_call (jj := 234) (As := [.ref r0, .int 1, .int x8]) (rest := [.int x_5]) (hk _ _ rfl) (fun _ => rfl) rfl rfl (Nat.le_of_ble_eq_true rfl) (gm_rcv_v rfl e6 rfl) ?_
        refine ge_imp w (fun v6 h_6 w => ?_)
        obtain ⟨x_6, rfl, w⟩ := w
        show gV c d 236 (157, [some (.ref r0), some (.int x1), some (.int x2), some (.int x3), some (.int x4), some (.int x5), some (.int x6), some (.int x7), some (.int x8)], [.int x_6, .int x_5], h_6) Post
        refine gw_pst hk 4 (st' := (162, [some (.ref r0), some (.int x1), some (.int x2), some (.int x3), some (.int x4), some (.int x5), some (.int x6), some (.int x7), some (.int x8)], [.int x7, .int 0, .ref r0, .int (x_5 - x_6)], h_6)) rfl ?_
        obtain ⟨⟨fs7, e7⟩, w⟩ := w
        refine gw_call (jj := 234) (As := [.ref r0, .int 0, .int x7]) (rest := [.int (x_5 - x_6)]) (hk _ _ rfl) (fun _ => rfl) rfl rfl (Nat.le_of_ble_eq_true rfl) (gm_rcv_v rfl e7 rfl) ?_
        refine ge_imp w (fun v7 h_7 w => ?_)
        obtain ⟨x_7, rfl, w⟩ := w
        show gV c d 236 (165, [some (.ref r0), some (.int x1), some (.int x2), some (.int x3), some (.int x4), some (.int x5), some (.int x6), some (.int x7), some (.int x8)], [.int x_7, .int (x_5 - x_6)], h_7) Post
        refine gw_pst hk 3 (st' := (169, [some (.ref r0), some (.int x1), some (.int x2), some (.int x3), some (.int x4), some (.int x5), some (.int x6), some (.int x7), some (.int x8)], [.int x7, .int 1, .ref r0, .int x_7, .int (x_5 - x_6)], h_7)) rfl ?_
        obtain ⟨⟨fs8, e8⟩, w⟩ := w
        refine gw_call (jj := 234) (As := [.ref r0, .int 1, .int x7]) (rest := [.int x_7, .int (x_5 - x_6)]) (hk _ _ rfl) (fun _ => rfl) rfl rfl (Nat.le_of_ble_eq_true rfl) (gm_rcv_v rfl e8 rfl) ?_
        refine ge_imp w (fun v8 h_8 w => ?_)
        obtain ⟨x_8, rfl, w⟩ := w
        show gV c d 236 (172, [some (.ref r0), some (.int x1), some (.int x2), some (.int x3), some (.int x4), some (.int x5), some (.int x6), some (.int x7), some (.int x8)], [.int x_8, .int x_7, .int (x_5 - x_6)], h_8) Post
        refine gw_pst hk 1 (st' := (173, [some (.ref r0), some (.int x1), some (.int x2), some (.int x3), some (.int x4), some (.int x5), some (.int x6), some (.int x7), some (.int x8)], [.int (x_7 - x_8), .int (x_5 - x_6)], h_8)) rfl ?_
        refine gw_br (c := (x_5 - x_6) ≤ (x_7 - x_8)) (a := (180, [some (.ref r0), some (.int x1), some (.int x2), some (.int x3), some (.int x4), some (.int x5), some (.int x6), some (.int x7), some (.int x8)], [], h_8)) (b := (176, [some (.ref r0), some (.int x1), some (.int x2), some (.int x3), some (.int x4), some (.int x5), some (.int x6), some (.int x7), some (.int x8)], [], h_8)) (hk _ _ rfl) rfl ⟨fun z9 => ?_, fun z9 => ?_⟩
        · replace w := w.1 z9
          exact ok236_180 c d Post K105 K117 hK105 hK117 _ _ _ _ _ _ _ _ _ _ w
        · replace w := w.2 z9
          refine gw_le (L' := [some (.ref r0), some (.int x1), some (.int x2), some (.int x3), some (.int x4), some (.int x5), some (.int x6), none, some (.int x8)]) (gm_le_k _ (gm_le_k _ (gm_le_k _ (gm_le_k _ (gm_le_k _ (gm_le_k _ (gm_le_k _ (gm_le_n _ (gm_le_k _ gm_le_nil))))))))) ?_
          exact ok236_176 c d Post K105 K117 hK105 hK117 _ _ _ _ _ _ _ _ _ w
def wl236_117 (c : gx) (d : Nat) (Post : Option Value → gm_H → Prop) (K105 : Nat → Int32 → Int32 → Int32 → Int32 → Int32 → Int32 → gm_H → Prop) : Nat → Nat → Int32 → Int32 → Int32 → Int32 → Int32 → Int32 → Int32 → Int32 → gm_H → Prop
  | 0 => fun _ _ _ _ _ _ _ _ _ _ => False
  | n + 1 => wb236_117 c d Post K105 (wl236_117 c d Post K105 n)
theorem okl236_117 (c : gx) (d : Nat) (Post : Option Value → gm_H → Prop) (K105 : Nat → Int32 → Int32 → Int32 → Int32 → Int32 → Int32 → gm_H → Prop) (hK105 : ∀ (r0 : Nat) (x1 : Int32) (x2 : Int32) (x3 : Int32) (x4 : Int32) (x5 : Int32) (x6 : Int32) (h : gm_H), K105 r0 x1 x2 x3 x4 x5 x6 h → gV c d 236 (105, [some (.ref r0), some (.int x1), some (.int x2), some (.int x3), some (.int x4), some (.int x5), some (.int x6), none, none], [], h) Post) : ∀ (n : Nat) (r0 : Nat) (x1 : Int32) (x2 : Int32) (x3 : Int32) (x4 : Int32) (x5 : Int32) (x6 : Int32) (x7 : Int32) (x8 : Int32) (h : gm_H), wl236_117 c d Post K105 n r0 x1 x2 x3 x4 x5 x6 x7 x8 h → gV c d 236 (117, [some (.ref r0), some (.int x1), some (.int x2), some (.int x3), some (.int x4), some (.int x5), some (.int x6), some (.int x7), some (.int x8)], [], h) Post
  | 0, _, _, _, _, _, _, _, _, _, _, w => w.elim
  | n + 1, r0, x1, x2, x3, x4, x5, x6, x7, x8, h, w => okb236_117 c d Post K105 (wl236_117 c d Post K105 n) hK105 (okl236_117 c d Post K105 hK105 n) r0 x1 x2 x3 x4 x5 x6 x7 x8 h w
def w236_249 (c : gx) (d : Nat) (Post : Option Value → gm_H → Prop) (K207 : Nat → Int32 → Int32 → Int32 → Int32 → Int32 → Int32 → gm_H → Prop) (r0 : Nat) (x1 : Int32) (x2 : Int32) (x4 : Int32) (x5 : Int32) (x7 : Int32) (xs0 : Int32) (xs1 : Int32) (h : gm_H) : Prop :=
  K207 r0 x1 x2 x4 x5 (xs0 + xs1) (x7 + 1) h
theorem ok236_249 (c : gx) (d : Nat) (Post : Option Value → gm_H → Prop) (K207 : Nat → Int32 → Int32 → Int32 → Int32 → Int32 → Int32 → gm_H → Prop)  (hK207 : ∀ (r0 : Nat) (x1 : Int32) (x2 : Int32) (x4 : Int32) (x5 : Int32) (x6 : Int32) (x7 : Int32) (h : gm_H), K207 r0 x1 x2 x4 x5 x6 x7 h → gV c d 236 (207, [some (.ref r0), some (.int x1), some (.int x2), none, some (.int x4), some (.int x5), some (.int x6), some (.int x7), none], [], h) Post) (r0 : Nat) (x1 : Int32) (x2 : Int32) (x4 : Int32) (x5 : Int32) (x7 : Int32) (xs0 : Int32) (xs1 : Int32) (h : gm_H) (w : w236_249 c d Post K207 r0 x1 x2 x4 x5 x7 xs0 xs1 h) : gV c d 236 (249, [some (.ref r0), some (.int x1), some (.int x2), none, some (.int x4), some (.int x5), none, some (.int x7), none], [.int xs1, .int xs0], h) Post := by
  have hk : ∀ pc i, gm_find gk_236 pc = some i → gm_code (gt_T c.1 c.2.1 c.2.2.1) 236 pc = some i := fun _ _ z => z
  unfold w236_249 at w
  unfold gV
  refine gw_pst hk 4 (st' := (207, [some (.ref r0), some (.int x1), some (.int x2), none, some (.int x4), some (.int x5), some (.int (xs0 + xs1)), some (.int (x7 + 1)), none], [], h)) rfl ?_
  exact hK207 _ _ _ _ _ _ _ _ w
def w236_244 (c : gx) (d : Nat) (Post : Option Value → gm_H → Prop) (K207 : Nat → Int32 → Int32 → Int32 → Int32 → Int32 → Int32 → gm_H → Prop) (r0 : Nat) (x1 : Int32) (x2 : Int32) (x4 : Int32) (x5 : Int32) (x7 : Int32) (xs0 : Int32) (rs1 : Nat) (xs2 : Int32) (h : gm_H) : Prop :=
  (∃ fs1, gm_get h rs1 = some (.inr (10, fs1))) ∧ gE c d 234 [.ref rs1, .int xs2, .int x7] h (fun v1 h_1 => ∃ x_1 : Int32, v1 = some (.int x_1) ∧ w236_249 c d Post K207 r0 x1 x2 x4 x5 x7 xs0 x_1 h_1)
theorem ok236_244 (c : gx) (d : Nat) (Post : Option Value → gm_H → Prop) (K207 : Nat → Int32 → Int32 → Int32 → Int32 → Int32 → Int32 → gm_H → Prop)  (hK207 : ∀ (r0 : Nat) (x1 : Int32) (x2 : Int32) (x4 : Int32) (x5 : Int32) (x6 : Int32) (x7 : Int32) (h : gm_H), K207 r0 x1 x2 x4 x5 x6 x7 h → gV c d 236 (207, [some (.ref r0), some (.int x1), some (.int x2), none, some (.int x4), some (.int x5), some (.int x6), some (.int x7), none], [], h) Post) (r0 : Nat) (x1 : Int32) (x2 : Int32) (x4 : Int32) (x5 : Int32) (x7 : Int32) (xs0 : Int32) (rs1 : Nat) (xs2 : Int32) (h : gm_H) (w : w236_244 c d Post K207 r0 x1 x2 x4 x5 x7 xs0 rs1 xs2 h) : gV c d 236 (244, [some (.ref r0), some (.int x1), some (.int x2), none, some (.int x4), some (.int x5), none, some (.int x7), none], [.int xs2, .ref rs1, .int xs0], h) Post := by
  have hk : ∀ pc i, gm_find gk_236 pc = some i → gm_code (gt_T c.1 c.2.1 c.2.2.1) 236 pc = some i := fun _ _ z => z
  unfold w236_244 at w
  unfold gV
  refine gw_pst hk 1 (st' := (246, [some (.ref r0), some (.int x1), some (.int x2), none, some (.int x4), some (.int x5), none, some (.int x7), none], [.int x7, .int xs2, .ref rs1, .int xs0], h)) rfl ?_
  obtain ⟨⟨fs1, e1⟩, w⟩ := w
  refine gw_call (jj := 234) (As := [.ref rs1, .int xs2, .int x7]) (rest := [.int xs0]) (hk _ _ rfl) (fun _ => rfl) rfl rfl (Nat.le_of_ble_eq_true rfl) (gm_rcv_v rfl e1 rfl) ?_
  refine ge_imp w (fun v1 h_1 w => ?_)
  obtain ⟨x_1, rfl, w⟩ := w
  show gV c d 236 (249, [some (.ref r0), some (.int x1), some (.int x2), none, some (.int x4), some (.int x5), none, some (.int x7), none], [.int x_1, .int xs0], h_1) Post
  exact ok236_249 c d Post K207 hK207 _ _ _ _ _ _ _ _ _ w
def wb236_207 (c : gx) (d : Nat) (Post : Option Value → gm_H → Prop) (K207 : Nat → Int32 → Int32 → Int32 → Int32 → Int32 → Int32 → gm_H → Prop) (r0 : Nat) (x1 : Int32) (x2 : Int32) (x4 : Int32) (x5 : Int32) (x6 : Int32) (x7 : Int32) (h : gm_H) : Prop :=
  ((x1 ≤ x7 → ∃ fs2 : List Value, gm_get h r0 = some (.inr (10, fs2)) ∧ 12 < fs2.length ∧ ∀ h_2 : gm_H, h_2 = gm_put h r0 (.inr (10, fs2.set 12 (.int 0))) → (∃ fs3, gm_get h_2 r0 = some (.inr (10, fs3))) ∧ gE c d 157 [.ref r0, .long ((x5 : Int32).toInt64)] h_2 (fun v3 h_3 => v3 = none ∧ (∃ fs4, gm_get h_3 r0 = some (.inr (10, fs4))) ∧ gE c d 157 [.ref r0, .long ((x4 : Int32).toInt64)] h_3 (fun v4 h_4 => v4 = none ∧ Post (some (.int x6)) h_4))) ∧ (¬ (x1 ≤ x7) → gE c d 155 [.int x2, .int x7] h (fun v5 h_5 => ∃ x_5 : Int32, v5 = some (.int x_5) ∧ ((x_5 = 0 → w236_249 c d Post K207 r0 x1 x2 x4 x5 x7 x6 0 h_5) ∧ (¬ (x_5 = 0) → gE c d 155 [.int x5, .int x7] h_5 (fun v7 h_7 => ∃ x_7 : Int32, v7 = some (.int x_7) ∧ ((x_7 = 0 → w236_244 c d Post K207 r0 x1 x2 x4 x5 x7 x6 r0 1 h_7) ∧ (¬ (x_7 = 0) → w236_244 c d Post K207 r0 x1 x2 x4 x5 x7 x6 r0 0 h_7))))))))
theorem okb236_207 (c : gx) (d : Nat) (Post : Option Value → gm_H → Prop) (K207 : Nat → Int32 → Int32 → Int32 → Int32 → Int32 → Int32 → gm_H → Prop)  (hK207 : ∀ (r0 : Nat) (x1 : Int32) (x2 : Int32) (x4 : Int32) (x5 : Int32) (x6 : Int32) (x7 : Int32) (h : gm_H), K207 r0 x1 x2 x4 x5 x6 x7 h → gV c d 236 (207, [some (.ref r0), some (.int x1), some (.int x2), none, some (.int x4), some (.int x5), some (.int x6), some (.int x7), none], [], h) Post) (r0 : Nat) (x1 : Int32) (x2 : Int32) (x4 : Int32) (x5 : Int32) (x6 : Int32) (x7 : Int32) (h : gm_H) (w : wb236_207 c d Post K207 r0 x1 x2 x4 x5 x6 x7 h) : gV c d 236 (207, [some (.ref r0), some (.int x1), some (.int x2), none, some (.int x4), some (.int x5), some (.int x6), some (.int x7), none], [], h) Post := by
  have hk : ∀ pc i, gm_find gk_236 pc = some i → gm_code (gt_T c.1 c.2.1 c.2.2.1) 236 pc = some i := fun _ _ z => z
  unfold wb236_207 at w
  unfold gV
  refine gw_pst hk 2 (st' := (210, [some (.ref r0), some (.int x1), some (.int x2), none, some (.int x4), some (.int x5), some (.int x6), some (.int x7), none], [.int x1, .int x7], h)) rfl ?_
  refine gw_br (c := x1 ≤ x7) (a := (258, [some (.ref r0), some (.int x1), some (.int x2), none, some (.int x4), some (.int x5), some (.int x6), some (.int x7), none], [], h)) (b := (213, [some (.ref r0), some (.int x1), some (.int x2), none, some (.int x4), some (.int x5), some (.int x6), some (.int x7), none], [], h)) (hk _ _ rfl) rfl ⟨fun z1 => ?_, fun z1 => ?_⟩
  · replace w := w.1 z1
    refine gw_pst hk 2 (st' := (260, [some (.ref r0), some (.int x1), some (.int x2), none, some (.int x4), some (.int x5), some (.int x6), some (.int x7), none], [.int 0, .ref r0], h)) rfl ?_
    obtain ⟨fs2, e2, l2, w⟩ := w
    refine gw_pf (hk _ _ rfl) e2 l2 rfl ?_
    obtain ⟨h_2, eh2⟩ : ∃ z, z = gm_put h r0 (.inr (10, fs2.set 12 (.int 0))) := ⟨_, rfl⟩
    rw [← eh2]
    replace w := w h_2 eh2
    refine gw_pst hk 3 (st' := (267, [some (.ref r0), some (.int x1), some (.int x2), none, some (.int x4), some (.int x5), some (.int x6), some (.int x7), none], [.long ((x5 : Int32).toInt64), .ref r0], h_2)) rfl ?_
    obtain ⟨⟨fs3, e3⟩, w⟩ := w
    refine gw_call (jj := 157) (As := [.ref r0, .long ((x5 : Int32).toInt64)]) (rest := []) (hk _ _ rfl) (fun _ => rfl) rfl rfl (Nat.le_of_ble_eq_true rfl) (gm_rcv_v rfl e3 rfl) ?_
    refine ge_imp w (fun v3 h_3 w => ?_)
    obtain ⟨rfl, w⟩ := w
    show gV c d 236 (270, [some (.ref r0), some (.int x1), some (.int x2), none, some (.int x4), some (.int x5), some (.int x6), some (.int x7), none], [], h_3) Post
    refine gw_pst hk 3 (st' := (274, [some (.ref r0), some (.int x1), some (.int x2), none, some (.int x4), some (.int x5), some (.int x6), some (.int x7), none], [.long ((x4 : Int32).toInt64), .ref r0], h_3)) rfl ?_
    obtain ⟨⟨fs4, e4⟩, w⟩ := w
    refine gw_call (jj := 157) (As := [.ref r0, .long ((x4 : Int32).toInt64)]) (rest := []) (hk _ _ rfl) (fun _ => rfl) rfl rfl (Nat.le_of_ble_eq_true rfl) (gm_rcv_v rfl e4 rfl) ?_
    refine ge_imp w (fun v4 h_4 w => ?_)
    obtain ⟨rfl, w⟩ := w
    show gV c d 236 (277, [some (.ref r0), some (.int x1), some (.int x2), none, some (.int x4), some (.int x5), some (.int x6), some (.int x7), none], [], h_4) Post
    refine gw_pst hk 1 (st' := (279, [some (.ref r0), some (.int x1), some (.int x2), none, some (.int x4), some (.int x5), some (.int x6), some (.int x7), none], [.int x6], h_4)) rfl ?_
    exact gw_ret (hk _ _ rfl) rfl w
  · replace w := w.2 z1
    refine gw_pst hk 3 (st' := (218, [some (.ref r0), some (.int x1), some (.int x2), none, some (.int x4), some (.int x5), some (.int x6), some (.int x7), none], [.int x7, .int x2, .int x6], h)) rfl ?_
    refine gw_call (jj := 155) (As := [.int x2, .int x7]) (rest := [.int x6]) (hk _ _ rfl) (fun _ => rfl) rfl rfl (Nat.le_of_ble_eq_true rfl) rfl ?_
    refine ge_imp w (fun v5 h_5 w => ?_)
    obtain ⟨x_5, rfl, w⟩ := w
    show gV c d 236 (221, [some (.ref r0), some (.int x1), some (.int x2), none, some (.int x4), some (.int x5), some (.int x6), some (.int x7), none], [.int x_5, .int x6], h_5) Post
    refine gw_br (c := x_5 = 0) (a := (224, [some (.ref r0), some (.int x1), some (.int x2), none, some (.int x4), some (.int x5), some (.int x6), some (.int x7), none], [.int x6], h_5)) (b := (228, [some (.ref r0), some (.int x1), some (.int x2), none, some (.int x4), some (.int x5), some (.int x6), some (.int x7), none], [.int x6], h_5)) (hk _ _ rfl) rfl ⟨fun z6 => ?_, fun z6 => ?_⟩
    · replace w := w.1 z6
      refine gw_pst hk 2 (st' := (249, [some (.ref r0), some (.int x1), some (.int x2), none, some (.int x4), some (.int x5), some (.int x6), some (.int x7), none], [.int 0, .int x6], h_5)) rfl ?_
      refine gw_le (L' := [some (.ref r0), some (.int x1), some (.int x2), none, some (.int x4), some (.int x5), none, some (.int x7), none]) (gm_le_k _ (gm_le_k _ (gm_le_k _ (gm_le_k _ (gm_le_k _ (gm_le_k _ (gm_le_n _ (gm_le_k _ (gm_le_k _ gm_le_nil))))))))) ?_
      exact ok236_249 c d Post K207 hK207 _ _ _ _ _ _ _ _ _ w
    · replace w := w.2 z6
      refine gw_pst hk 3 (st' := (233, [some (.ref r0), some (.int x1), some (.int x2), none, some (.int x4), some (.int x5), some (.int x6), some (.int x7), none], [.int x7, .int x5, .ref r0, .int x6], h_5)) rfl ?_
      refine gw_call (jj := 155) (As := [.int x5, .int x7]) (rest := [.ref r0, .int x6]) (hk _ _ rfl) (fun _ => rfl) rfl rfl (Nat.le_of_ble_eq_true rfl) rfl ?_
      refine ge_imp w (fun v7 h_7 w => ?_)
      obtain ⟨x_7, rfl, w⟩ := w
      show gV c d 236 (236, [some (.ref r0), some (.int x1), some (.int x2), none, some (.int x4), some (.int x5), some (.int x6), some (.int x7), none], [.int x_7, .ref r0, .int x6], h_7) Post
      refine gw_br (c := x_7 = 0) (a := (243, [some (.ref r0), some (.int x1), some (.int x2), none, some (.int x4), some (.int x5), some (.int x6), some (.int x7), none], [.ref r0, .int x6], h_7)) (b := (239, [some (.ref r0), some (.int x1), some (.int x2), none, some (.int x4), some (.int x5), some (.int x6), some (.int x7), none], [.ref r0, .int x6], h_7)) (hk _ _ rfl) rfl ⟨fun z8 => ?_, fun z8 => ?_⟩
      · replace w := w.1 z8
        refine gw_pst hk 1 (st' := (244, [some (.ref r0), some (.int x1), some (.int x2), none, some (.int x4), some (.int x5), some (.int x6), some (.int x7), none], [.int 1, .ref r0, .int x6], h_7)) rfl ?_
        refine gw_le (L' := [some (.ref r0), some (.int x1), some (.int x2), none, some (.int x4), some (.int x5), none, some (.int x7), none]) (gm_le_k _ (gm_le_k _ (gm_le_k _ (gm_le_k _ (gm_le_k _ (gm_le_k _ (gm_le_n _ (gm_le_k _ (gm_le_k _ gm_le_nil))))))))) ?_
        exact ok236_244 c d Post K207 hK207 _ _ _ _ _ _ _ _ _ _ w
      · replace w := w.2 z8
        refine gw_pst hk 2 (st' := (244, [some (.ref r0), some (.int x1), some (.int x2), none, some (.int x4), some (.int x5), some (.int x6), some (.int x7), none], [.int 0, .ref r0, .int x6], h_7)) rfl ?_
        refine gw_le (L' := [some (.ref r0), some (.int x1), some (.int x2), none, some (.int x4), some (.int x5), none, some (.int x7), none]) (gm_le_k _ (gm_le_k _ (gm_le_k _ (gm_le_k _ (gm_le_k _ (gm_le_k _ (gm_le_n _ (gm_le_k _ (gm_le_k _ gm_le_nil))))))))) ?_
        exact ok236_244 c d Post K207 hK207 _ _ _ _ _ _ _ _ _ _ w
def wl236_207 (c : gx) (d : Nat) (Post : Option Value → gm_H → Prop) : Nat → Nat → Int32 → Int32 → Int32 → Int32 → Int32 → Int32 → gm_H → Prop
  | 0 => fun _ _ _ _ _ _ _ _ => False
  | n + 1 => wb236_207 c d Post (wl236_207 c d Post n)
theorem okl236_207 (c : gx) (d : Nat) (Post : Option Value → gm_H → Prop) : ∀ (n : Nat) (r0 : Nat) (x1 : Int32) (x2 : Int32) (x4 : Int32) (x5 : Int32) (x6 : Int32) (x7 : Int32) (h : gm_H), wl236_207 c d Post n r0 x1 x2 x4 x5 x6 x7 h → gV c d 236 (207, [some (.ref r0), some (.int x1), some (.int x2), none, some (.int x4), some (.int x5), some (.int x6), some (.int x7), none], [], h) Post
  | 0, _, _, _, _, _, _, _, _, w => w.elim
  | n + 1, r0, x1, x2, x4, x5, x6, x7, h, w => okb236_207 c d Post (wl236_207 c d Post n) (okl236_207 c d Post n) r0 x1 x2 x4 x5 x6 x7 h w
def wb236_105 (c : gx) (d : Nat) (Post : Option Value → gm_H → Prop) (K105 : Nat → Int32 → Int32 → Int32 → Int32 → Int32 → Int32 → gm_H → Prop) (r0 : Nat) (x1 : Int32) (x2 : Int32) (x3 : Int32) (x4 : Int32) (x5 : Int32) (x6 : Int32) (h : gm_H) : Prop :=
  ((x3 ≤ x6 → ∃ n, wl236_207 c d Post n r0 x1 x2 x4 x5 0 0 h) ∧ (¬ (x3 ≤ x6) → ∃ n, wl236_117 c d Post K105 n r0 x1 x2 x3 x4 x5 x6 (-1) 0 h))
theorem okb236_105 (c : gx) (d : Nat) (Post : Option Value → gm_H → Prop) (K105 : Nat → Int32 → Int32 → Int32 → Int32 → Int32 → Int32 → gm_H → Prop)  (hK105 : ∀ (r0 : Nat) (x1 : Int32) (x2 : Int32) (x3 : Int32) (x4 : Int32) (x5 : Int32) (x6 : Int32) (h : gm_H), K105 r0 x1 x2 x3 x4 x5 x6 h → gV c d 236 (105, [some (.ref r0), some (.int x1), some (.int x2), some (.int x3), some (.int x4), some (.int x5), some (.int x6), none, none], [], h) Post) (r0 : Nat) (x1 : Int32) (x2 : Int32) (x3 : Int32) (x4 : Int32) (x5 : Int32) (x6 : Int32) (h : gm_H) (w : wb236_105 c d Post K105 r0 x1 x2 x3 x4 x5 x6 h) : gV c d 236 (105, [some (.ref r0), some (.int x1), some (.int x2), some (.int x3), some (.int x4), some (.int x5), some (.int x6), none, none], [], h) Post := by
  have hk : ∀ pc i, gm_find gk_236 pc = some i → gm_code (gt_T c.1 c.2.1 c.2.2.1) 236 pc = some i := fun _ _ z => z
  unfold wb236_105 at w
  unfold gV
  refine gw_pst hk 2 (st' := (108, [some (.ref r0), some (.int x1), some (.int x2), some (.int x3), some (.int x4), some (.int x5), some (.int x6), none, none], [.int x3, .int x6], h)) rfl ?_
  refine gw_br (c := x3 ≤ x6) (a := (201, [some (.ref r0), some (.int x1), some (.int x2), some (.int x3), some (.int x4), some (.int x5), some (.int x6), none, none], [], h)) (b := (111, [some (.ref r0), some (.int x1), some (.int x2), some (.int x3), some (.int x4), some (.int x5), some (.int x6), none, none], [], h)) (hk _ _ rfl) rfl ⟨fun z1 => ?_, fun z1 => ?_⟩
  · replace w := w.1 z1
    refine gw_pst hk 4 (st' := (207, [some (.ref r0), some (.int x1), some (.int x2), some (.int x3), some (.int x4), some (.int x5), some (.int 0), some (.int 0), none], [], h)) rfl ?_
    refine gw_le (L' := [some (.ref r0), some (.int x1), some (.int x2), none, some (.int x4), some (.int x5), some (.int 0), some (.int 0), none]) (gm_le_k _ (gm_le_k _ (gm_le_k _ (gm_le_n _ (gm_le_k _ (gm_le_k _ (gm_le_k _ (gm_le_k _ (gm_le_k _ gm_le_nil))))))))) ?_
    obtain ⟨n, w⟩ := w
    exact okl236_207 c d Post n _ _ _ _ _ _ _ _ w
  · replace w := w.2 z1
    refine gw_pst hk 4 (st' := (117, [some (.ref r0), some (.int x1), some (.int x2), some (.int x3), some (.int x4), some (.int x5), some (.int x6), some (.int (-1)), some (.int 0)], [], h)) rfl ?_
    obtain ⟨n, w⟩ := w
    exact okl236_117 c d Post K105 hK105 n _ _ _ _ _ _ _ _ _ _ w
def wl236_105 (c : gx) (d : Nat) (Post : Option Value → gm_H → Prop) : Nat → Nat → Int32 → Int32 → Int32 → Int32 → Int32 → Int32 → gm_H → Prop
  | 0 => fun _ _ _ _ _ _ _ _ => False
  | n + 1 => wb236_105 c d Post (wl236_105 c d Post n)
theorem okl236_105 (c : gx) (d : Nat) (Post : Option Value → gm_H → Prop) : ∀ (n : Nat) (r0 : Nat) (x1 : Int32) (x2 : Int32) (x3 : Int32) (x4 : Int32) (x5 : Int32) (x6 : Int32) (h : gm_H), wl236_105 c d Post n r0 x1 x2 x3 x4 x5 x6 h → gV c d 236 (105, [some (.ref r0), some (.int x1), some (.int x2), some (.int x3), some (.int x4), some (.int x5), some (.int x6), none, none], [], h) Post
  | 0, _, _, _, _, _, _, _, _, w => w.elim
  | n + 1, r0, x1, x2, x3, x4, x5, x6, h, w => okb236_105 c d Post (wl236_105 c d Post n) (okl236_105 c d Post n) r0 x1 x2 x3 x4 x5 x6 h w
def wb236_27 (c : gx) (d : Nat) (Post : Option Value → gm_H → Prop) (K27 : Nat → Int32 → Int32 → Int32 → Int32 → Int32 → gm_H → Prop) (r0 : Nat) (x1 : Int32) (x2 : Int32) (x3 : Int32) (x4 : Int32) (x5 : Int32) (h : gm_H) : Prop :=
  ((x1 ≤ x5 → ∃ n, wl236_105 c d Post n r0 x1 x2 x3 x4 0 0 h) ∧ (¬ (x1 ≤ x5) → ∃ q_2 : Nat, gm_fld h r0 10 0 = some (.ref q_2) ∧ ∃ q_3 : Nat, gm_fld h r0 10 0 = some (.ref q_3) ∧ ∃ (n4 : Nat) (f4 : Nat → Int32), gm_get h q_3 = some (.inl (0, n4, .inl f4)) ∧ vp_in 0 n4 ∧ gE c d 184 [.ref q_2, .int ((f4 (0 : Int32).toNatClampNeg) + x5)] h (fun v5 h_5 => ∃ x_5 : Int32, v5 = some (.int x_5) ∧ ((x_5 = (-1) → w236_93 c d Post K27 r0 x1 x2 x3 x4 x5 h_5) ∧ (¬ (x_5 = (-1)) → ((x_5 = 0 → w236_78 c d Post K27 r0 x1 (x2 ||| (1 <<< (x5 &&& 31))) x4 x5 x_5 x3 1 h_5) ∧ (¬ (x_5 = 0) → w236_78 c d Post K27 r0 x1 (x2 ||| (1 <<< (x5 &&& 31))) x4 x5 x_5 x3 0 h_5)))))))
theorem okb236_27 (c : gx) (d : Nat) (Post : Option Value → gm_H → Prop) (K27 : Nat → Int32 → Int32 → Int32 → Int32 → Int32 → gm_H → Prop)  (hK27 : ∀ (r0 : Nat) (x1 : Int32) (x2 : Int32) (x3 : Int32) (x4 : Int32) (x5 : Int32) (h : gm_H), K27 r0 x1 x2 x3 x4 x5 h → gV c d 236 (27, [some (.ref r0), some (.int x1), some (.int x2), some (.int x3), some (.int x4), some (.int x5), none, none, none], [], h) Post) (r0 : Nat) (x1 : Int32) (x2 : Int32) (x3 : Int32) (x4 : Int32) (x5 : Int32) (h : gm_H) (w : wb236_27 c d Post K27 r0 x1 x2 x3 x4 x5 h) : gV c d 236 (27, [some (.ref r0), some (.int x1), some (.int x2), some (.int x3), some (.int x4), some (.int x5), none, none, none], [], h) Post := by
  have hk : ∀ pc i, gm_find gk_236 pc = some i → gm_code (gt_T c.1 c.2.1 c.2.2.1) 236 pc = some i := fun _ _ z => z
  unfold wb236_27 at w
  unfold gV
  refine gw_pst hk 2 (st' := (30, [some (.ref r0), some (.int x1), some (.int x2), some (.int x3), some (.int x4), some (.int x5), none, none, none], [.int x1, .int x5], h)) rfl ?_
  refine gw_br (c := x1 ≤ x5) (a := (99, [some (.ref r0), some (.int x1), some (.int x2), some (.int x3), some (.int x4), some (.int x5), none, none, none], [], h)) (b := (33, [some (.ref r0), some (.int x1), some (.int x2), some (.int x3), some (.int x4), some (.int x5), none, none, none], [], h)) (hk _ _ rfl) rfl ⟨fun z1 => ?_, fun z1 => ?_⟩
  · replace w := w.1 z1
    refine gw_pst hk 4 (st' := (105, [some (.ref r0), some (.int x1), some (.int x2), some (.int x3), some (.int x4), some (.int 0), some (.int 0), none, none], [], h)) rfl ?_
    obtain ⟨n, w⟩ := w
    exact okl236_105 c d Post n _ _ _ _ _ _ _ _ w
  · replace w := w.2 z1
    refine gw_pst hk 1 (st' := (34, [some (.ref r0), some (.int x1), some (.int x2), some (.int x3), some (.int x4), some (.int x5), none, none, none], [.ref r0], h)) rfl ?_
    obtain ⟨q_2, e2, w⟩ := w
    refine gw_gf (hk _ _ rfl) e2 ?_
    refine gw_pst hk 1 (st' := (38, [some (.ref r0), some (.int x1), some (.int x2), some (.int x3), some (.int x4), some (.int x5), none, none, none], [.ref r0, .ref q_2], h)) rfl ?_
    obtain ⟨q_3, e3, w⟩ := w
    refine gw_gf (hk _ _ rfl) e3 ?_
    refine gw_pst hk 1 (st' := (42, [some (.ref r0), some (.int x1), some (.int x2), some (.int x3), some (.int x4), some (.int x5), none, none, none], [.int 0, .ref q_3, .ref q_2], h)) rfl ?_
    obtain ⟨n4, f4, e4, b4, w⟩ := w
    refine gw_ald (hk _ _ rfl) (Or.inl ⟨rfl, rfl⟩) e4 b4 ?_
    refine gw_pst hk 2 (st' := (46, [some (.ref r0), some (.int x1), some (.int x2), some (.int x3), some (.int x4), some (.int x5), none, none, none], [.int ((f4 (0 : Int32).toNatClampNeg) + x5), .ref q_2], h)) rfl ?_
    refine gw_call (jj := 184) (As := [.ref q_2, .int ((f4 (0 : Int32).toNatClampNeg) + x5)]) (rest := []) (hk _ _ rfl) (fun _ => rfl) rfl rfl (Nat.le_of_ble_eq_true rfl) rfl ?_
    refine ge_imp w (fun v5 h_5 w => ?_)
    obtain ⟨x_5, rfl, w⟩ := w
    show gV c d 236 (49, [some (.ref r0), some (.int x1), some (.int x2), some (.int x3), some (.int x4), some (.int x5), none, none, none], [.int x_5], h_5) Post
    refine gw_pst hk 3 (st' := (54, [some (.ref r0), some (.int x1), some (.int x2), some (.int x3), some (.int x4), some (.int x5), some (.int x_5), none, none], [.int (-1), .int x_5], h_5)) rfl ?_
    refine gw_br (c := x_5 = (-1)) (a := (57, [some (.ref r0), some (.int x1), some (.int x2), some (.int x3), some (.int x4), some (.int x5), some (.int x_5), none, none], [], h_5)) (b := (60, [some (.ref r0), some (.int x1), some (.int x2), some (.int x3), some (.int x4), some (.int x5), some (.int x_5), none, none], [], h_5)) (hk _ _ rfl) rfl ⟨fun z6 => ?_, fun z6 => ?_⟩
    · replace w := w.1 z6
      refine gw_pst hk 1 (st' := (93, [some (.ref r0), some (.int x1), some (.int x2), some (.int x3), some (.int x4), some (.int x5), some (.int x_5), none, none], [], h_5)) rfl ?_
      refine gw_le (L' := [some (.ref r0), some (.int x1), some (.int x2), some (.int x3), some (.int x4), some (.int x5), none, none, none]) (gm_le_k _ (gm_le_k _ (gm_le_k _ (gm_le_k _ (gm_le_k _ (gm_le_k _ (gm_le_n _ (gm_le_k _ (gm_le_k _ gm_le_nil))))))))) ?_
      exact ok236_93 c d Post K27 hK27 _ _ _ _ _ _ _ w
    · replace w := w.2 z6
      refine gw_pst hk 8 (st' := (70, [some (.ref r0), some (.int x1), some (.int (x2 ||| (1 <<< (x5 &&& 31)))), some (.int x3), some (.int x4), some (.int x5), some (.int x_5), none, none], [.int x_5, .int x3], h_5)) rfl ?_
      refine gw_br (c := x_5 = 0) (a := (73, [some (.ref r0), some (.int x1), some (.int (x2 ||| (1 <<< (x5 &&& 31)))), some (.int x3), some (.int x4), some (.int x5), some (.int x_5), none, none], [.int x3], h_5)) (b := (77, [some (.ref r0), some (.int x1), some (.int (x2 ||| (1 <<< (x5 &&& 31)))), some (.int x3), some (.int x4), some (.int x5), some (.int x_5), none, none], [.int x3], h_5)) (hk _ _ rfl) rfl ⟨fun z7 => ?_, fun z7 => ?_⟩
      · replace w := w.1 z7
        refine gw_pst hk 2 (st' := (78, [some (.ref r0), some (.int x1), some (.int (x2 ||| (1 <<< (x5 &&& 31)))), some (.int x3), some (.int x4), some (.int x5), some (.int x_5), none, none], [.int 1, .int x3], h_5)) rfl ?_
        refine gw_le (L' := [some (.ref r0), some (.int x1), some (.int (x2 ||| (1 <<< (x5 &&& 31)))), none, some (.int x4), some (.int x5), some (.int x_5), none, none]) (gm_le_k _ (gm_le_k _ (gm_le_k _ (gm_le_n _ (gm_le_k _ (gm_le_k _ (gm_le_k _ (gm_le_k _ (gm_le_k _ gm_le_nil))))))))) ?_
        exact ok236_78 c d Post K27 hK27 _ _ _ _ _ _ _ _ _ w
      · replace w := w.2 z7
        refine gw_pst hk 1 (st' := (78, [some (.ref r0), some (.int x1), some (.int (x2 ||| (1 <<< (x5 &&& 31)))), some (.int x3), some (.int x4), some (.int x5), some (.int x_5), none, none], [.int 0, .int x3], h_5)) rfl ?_
        refine gw_le (L' := [some (.ref r0), some (.int x1), some (.int (x2 ||| (1 <<< (x5 &&& 31)))), none, some (.int x4), some (.int x5), some (.int x_5), none, none]) (gm_le_k _ (gm_le_k _ (gm_le_k _ (gm_le_n _ (gm_le_k _ (gm_le_k _ (gm_le_k _ (gm_le_k _ (gm_le_k _ gm_le_nil))))))))) ?_
        exact ok236_78 c d Post K27 hK27 _ _ _ _ _ _ _ _ _ w
def wl236_27 (c : gx) (d : Nat) (Post : Option Value → gm_H → Prop) : Nat → Nat → Int32 → Int32 → Int32 → Int32 → Int32 → gm_H → Prop
  | 0 => fun _ _ _ _ _ _ _ => False
  | n + 1 => wb236_27 c d Post (wl236_27 c d Post n)
theorem okl236_27 (c : gx) (d : Nat) (Post : Option Value → gm_H → Prop) : ∀ (n : Nat) (r0 : Nat) (x1 : Int32) (x2 : Int32) (x3 : Int32) (x4 : Int32) (x5 : Int32) (h : gm_H), wl236_27 c d Post n r0 x1 x2 x3 x4 x5 h → gV c d 236 (27, [some (.ref r0), some (.int x1), some (.int x2), some (.int x3), some (.int x4), some (.int x5), none, none, none], [], h) Post
  | 0, _, _, _, _, _, _, _, w => w.elim
  | n + 1, r0, x1, x2, x3, x4, x5, h, w => okb236_27 c d Post (wl236_27 c d Post n) (okl236_27 c d Post n) r0 x1 x2 x3 x4 x5 h w
/-- CommandByTurnsModel.share(I)I -/
def wm236 (c : gx) (d : Nat) (Post : Option Value → gm_H → Prop) (r0 : Nat) (x1 : Int32) (h : gm_H) : Prop :=
  ∃ fs1 : List Value, gm_get h r0 = some (.inr (10, fs1)) ∧ 13 < fs1.length ∧ ∀ h_1 : gm_H, h_1 = gm_put h r0 (.inr (10, fs1.set 13 (.int 0))) → gE c d 154 [.int x1, .int 1, .int 20] h_1 (fun v2 h_2 => ∃ x_2 : Int32, v2 = some (.int x_2) ∧ ((x_2 = 0 → Post (some (.int (-1))) h_2) ∧ (¬ (x_2 = 0) → ∃ n, wl236_27 c d Post n r0 x1 0 0 0 0 h_2)))
theorem okm236 (c : gx) (d : Nat) (Post : Option Value → gm_H → Prop) (r0 : Nat) (x1 : Int32) (h : gm_H) (w : wm236 c d Post r0 x1 h) : gE c (d + 1) 236 [.ref r0, .int x1] h Post := by
  have hk : ∀ pc i, gm_find gk_236 pc = some i → gm_code (gt_T c.1 c.2.1 c.2.2.1) 236 pc = some i := fun _ _ z => z
  unfold wm236 at w
  refine ge_of (by decide) (Nat.le_of_ble_eq_true rfl) ?_
  show gV c d 236 (0, [some (.ref r0), some (.int x1), none, none, none, none, none, none, none], [], h) Post
  unfold gV
  refine gw_pst hk 2 (st' := (2, [some (.ref r0), some (.int x1), none, none, none, none, none, none, none], [.int 0, .ref r0], h)) rfl ?_
  obtain ⟨fs1, e1, l1, w⟩ := w
  refine gw_pf (hk _ _ rfl) e1 l1 rfl ?_
  obtain ⟨h_1, eh1⟩ : ∃ z, z = gm_put h r0 (.inr (10, fs1.set 13 (.int 0))) := ⟨_, rfl⟩
  rw [← eh1]
  replace w := w h_1 eh1
  refine gw_pst hk 3 (st' := (9, [some (.ref r0), some (.int x1), none, none, none, none, none, none, none], [.int 20, .int 1, .int x1], h_1)) rfl ?_
  refine gw_call (jj := 154) (As := [.int x1, .int 1, .int 20]) (rest := []) (hk _ _ rfl) (fun _ => rfl) rfl rfl (Nat.le_of_ble_eq_true rfl) rfl ?_
  refine ge_imp w (fun v2 h_2 w => ?_)
  obtain ⟨x_2, rfl, w⟩ := w
  show gV c d 236 (12, [some (.ref r0), some (.int x1), none, none, none, none, none, none, none], [.int x_2], h_2) Post
  refine gw_br (c := x_2 = 0) (a := (15, [some (.ref r0), some (.int x1), none, none, none, none, none, none, none], [], h_2)) (b := (17, [some (.ref r0), some (.int x1), none, none, none, none, none, none, none], [], h_2)) (hk _ _ rfl) rfl ⟨fun z3 => ?_, fun z3 => ?_⟩
  · replace w := w.1 z3
    refine gw_pst hk 1 (st' := (16, [some (.ref r0), some (.int x1), none, none, none, none, none, none, none], [.int (-1)], h_2)) rfl ?_
    exact gw_ret (hk _ _ rfl) rfl w
  · replace w := w.2 z3
    refine gw_pst hk 8 (st' := (27, [some (.ref r0), some (.int x1), some (.int 0), some (.int 0), some (.int 0), some (.int 0), none, none, none], [], h_2)) rfl ?_
    obtain ⟨n, w⟩ := w
    exact okl236_27 c d Post n _ _ _ _ _ _ _ w
def wb237_6 (c : gx) (d : Nat) (Post : Option Value → gm_H → Prop) (K6 : Nat → Int32 → Int32 → Int32 → Int32 → Int32 → gm_H → Prop) (r0 : Nat) (x1 : Int32) (x2 : Int32) (x3 : Int32) (x4 : Int32) (x5 : Int32) (h : gm_H) : Prop :=
  ((x3 ≤ x5 → Post (some (.int x4)) h) ∧ (¬ (x3 ≤ x5) → ∃ q_2 : Nat, gm_fld h r0 10 0 = some (.ref q_2) ∧ ¬ x1 = 0 ∧ ∃ q_4 : Nat, gm_fld h r0 10 0 = some (.ref q_4) ∧ ∃ (n5 : Nat) (f5 : Nat → Int32), gm_get h q_4 = some (.inl (0, n5, .inl f5)) ∧ vp_in 1 n5 ∧ ∃ q_6 : Nat, gm_fld h r0 10 0 = some (.ref q_6) ∧ ∃ (n7 : Nat) (f7 : Nat → Int32), gm_get h q_6 = some (.inl (0, n7, .inl f7)) ∧ vp_in 0 n7 ∧ (∃ fs8, gm_get h r0 = some (.inr (10, fs8))) ∧ gE c d 182 [.ref r0, .ref q_2, .int ((x2 >>> ((x5 - x5 / x1 * x1) &&& 31)) &&& 1), .int (f5 (1 : Int32).toNatClampNeg), .int ((f7 (0 : Int32).toNatClampNeg) + x5)] h (fun v8 h_8 => ∃ x_8 : Int32, v8 = some (.int x_8) ∧ K6 r0 x1 x2 x3 (x4 + x_8) (x5 + 1) h_8)))
theorem okb237_6 (c : gx) (d : Nat) (Post : Option Value → gm_H → Prop) (K6 : Nat → Int32 → Int32 → Int32 → Int32 → Int32 → gm_H → Prop)  (hK6 : ∀ (r0 : Nat) (x1 : Int32) (x2 : Int32) (x3 : Int32) (x4 : Int32) (x5 : Int32) (h : gm_H), K6 r0 x1 x2 x3 x4 x5 h → gV c d 237 (6, [some (.ref r0), some (.int x1), some (.int x2), some (.int x3), some (.int x4), some (.int x5)], [], h) Post) (r0 : Nat) (x1 : Int32) (x2 : Int32) (x3 : Int32) (x4 : Int32) (x5 : Int32) (h : gm_H) (w : wb237_6 c d Post K6 r0 x1 x2 x3 x4 x5 h) : gV c d 237 (6, [some (.ref r0), some (.int x1), some (.int x2), some (.int x3), some (.int x4), some (.int x5)], [], h) Post := by
  have hk : ∀ pc i, gm_find gk_237 pc = some i → gm_code (gt_T c.1 c.2.1 c.2.2.1) 237 pc = some i := fun _ _ z => z
  unfold wb237_6 at w
  unfold gV
  refine gw_pst hk 2 (st' := (9, [some (.ref r0), some (.int x1), some (.int x2), some (.int x3), some (.int x4), some (.int x5)], [.int x3, .int x5], h)) rfl ?_
  refine gw_br (c := x3 ≤ x5) (a := (54, [some (.ref r0), some (.int x1), some (.int x2), some (.int x3), some (.int x4), some (.int x5)], [], h)) (b := (12, [some (.ref r0), some (.int x1), some (.int x2), some (.int x3), some (.int x4), some (.int x5)], [], h)) (hk _ _ rfl) rfl ⟨fun z1 => ?_, fun z1 => ?_⟩
  · replace w := w.1 z1
    refine gw_pst hk 1 (st' := (56, [some (.ref r0), some (.int x1), some (.int x2), some (.int x3), some (.int x4), some (.int x5)], [.int x4], h)) rfl ?_
    exact gw_ret (hk _ _ rfl) rfl w
  · replace w := w.2 z1
    refine gw_pst hk 3 (st' := (16, [some (.ref r0), some (.int x1), some (.int x2), some (.int x3), some (.int x4), some (.int x5)], [.ref r0, .ref r0, .int x4], h)) rfl ?_
    obtain ⟨q_2, e2, w⟩ := w
    refine gw_gf (hk _ _ rfl) e2 ?_
    refine gw_pst hk 3 (st' := (23, [some (.ref r0), some (.int x1), some (.int x2), some (.int x3), some (.int x4), some (.int x5)], [.int x1, .int x5, .int x2, .ref q_2, .ref r0, .int x4], h)) rfl ?_
    obtain ⟨z3, w⟩ := w
    refine gw_irem (hk _ _ rfl) z3 ?_ rfl
    refine gw_pst hk 4 (st' := (28, [some (.ref r0), some (.int x1), some (.int x2), some (.int x3), some (.int x4), some (.int x5)], [.ref r0, .int ((x2 >>> ((x5 - x5 / x1 * x1) &&& 31)) &&& 1), .ref q_2, .ref r0, .int x4], h)) rfl ?_
    obtain ⟨q_4, e4, w⟩ := w
    refine gw_gf (hk _ _ rfl) e4 ?_
    refine gw_pst hk 1 (st' := (32, [some (.ref r0), some (.int x1), some (.int x2), some (.int x3), some (.int x4), some (.int x5)], [.int 1, .ref q_4, .int ((x2 >>> ((x5 - x5 / x1 * x1) &&& 31)) &&& 1), .ref q_2, .ref r0, .int x4], h)) rfl ?_
    obtain ⟨n5, f5, e5, b5, w⟩ := w
    refine gw_ald (hk _ _ rfl) (Or.inl ⟨rfl, rfl⟩) e5 b5 ?_
    refine gw_pst hk 1 (st' := (34, [some (.ref r0), some (.int x1), some (.int x2), some (.int x3), some (.int x4), some (.int x5)], [.ref r0, .int (f5 (1 : Int32).toNatClampNeg), .int ((x2 >>> ((x5 - x5 / x1 * x1) &&& 31)) &&& 1), .ref q_2, .ref r0, .int x4], h)) rfl ?_
    obtain ⟨q_6, e6, w⟩ := w
    refine gw_gf (hk _ _ rfl) e6 ?_
    refine gw_pst hk 1 (st' := (38, [some (.ref r0), some (.int x1), some (.int x2), some (.int x3), some (.int x4), some (.int x5)], [.int 0, .ref q_6, .int (f5 (1 : Int32).toNatClampNeg), .int ((x2 >>> ((x5 - x5 / x1 * x1) &&& 31)) &&& 1), .ref q_2, .ref r0, .int x4], h)) rfl ?_
    obtain ⟨n7, f7, e7, b7, w⟩ := w
    refine gw_ald (hk _ _ rfl) (Or.inl ⟨rfl, rfl⟩) e7 b7 ?_
    refine gw_pst hk 2 (st' := (42, [some (.ref r0), some (.int x1), some (.int x2), some (.int x3), some (.int x4), some (.int x5)], [.int ((f7 (0 : Int32).toNatClampNeg) + x5), .int (f5 (1 : Int32).toNatClampNeg), .int ((x2 >>> ((x5 - x5 / x1 * x1) &&& 31)) &&& 1), .ref q_2, .ref r0, .int x4], h)) rfl ?_
    obtain ⟨⟨fs8, e8⟩, w⟩ := w
    refine gw_call (jj := 182) (As := [.ref r0, .ref q_2, .int ((x2 >>> ((x5 - x5 / x1 * x1) &&& 31)) &&& 1), .int (f5 (1 : Int32).toNatClampNeg), .int ((f7 (0 : Int32).toNatClampNeg) + x5)]) (rest := [.int x4]) (hk _ _ rfl) (fun _ => rfl) rfl rfl (Nat.le_of_ble_eq_true rfl) (gm_rcv_v rfl e8 rfl) ?_
    refine ge_imp w (fun v8 h_8 w => ?_)
    obtain ⟨x_8, rfl, w⟩ := w
    show gV c d 237 (45, [some (.ref r0), some (.int x1), some (.int x2), some (.int x3), some (.int x4), some (.int x5)], [.int x_8, .int x4], h_8) Post
    refine gw_pst hk 4 (st' := (6, [some (.ref r0), some (.int x1), some (.int x2), some (.int x3), some (.int (x4 + x_8)), some (.int (x5 + 1))], [], h_8)) rfl ?_
    exact hK6 _ _ _ _ _ _ _ w
def wl237_6 (c : gx) (d : Nat) (Post : Option Value → gm_H → Prop) : Nat → Nat → Int32 → Int32 → Int32 → Int32 → Int32 → gm_H → Prop
  | 0 => fun _ _ _ _ _ _ _ => False
  | n + 1 => wb237_6 c d Post (wl237_6 c d Post n)
theorem okl237_6 (c : gx) (d : Nat) (Post : Option Value → gm_H → Prop) : ∀ (n : Nat) (r0 : Nat) (x1 : Int32) (x2 : Int32) (x3 : Int32) (x4 : Int32) (x5 : Int32) (h : gm_H), wl237_6 c d Post n r0 x1 x2 x3 x4 x5 h → gV c d 237 (6, [some (.ref r0), some (.int x1), some (.int x2), some (.int x3), some (.int x4), some (.int x5)], [], h) Post
  | 0, _, _, _, _, _, _, _, w => w.elim
  | n + 1, r0, x1, x2, x3, x4, x5, h, w => okb237_6 c d Post (wl237_6 c d Post n) (okl237_6 c d Post n) r0 x1 x2 x3 x4 x5 h w
/-- CommandByTurnsModel.issuesBy(III)I -/
def wm237 (c : gx) (d : Nat) (Post : Option Value → gm_H → Prop) (r0 : Nat) (x1 : Int32) (x2 : Int32) (x3 : Int32) (h : gm_H) : Prop :=
  ∃ n, wl237_6 c d Post n r0 x1 x2 x3 0 0 h
theorem okm237 (c : gx) (d : Nat) (Post : Option Value → gm_H → Prop) (r0 : Nat) (x1 : Int32) (x2 : Int32) (x3 : Int32) (h : gm_H) (w : wm237 c d Post r0 x1 x2 x3 h) : gE c (d + 1) 237 [.ref r0, .int x1, .int x2, .int x3] h Post := by
  have hk : ∀ pc i, gm_find gk_237 pc = some i → gm_code (gt_T c.1 c.2.1 c.2.2.1) 237 pc = some i := fun _ _ z => z
  unfold wm237 at w
  refine ge_of (by decide) (Nat.le_of_ble_eq_true rfl) ?_
  show gV c d 237 (0, [some (.ref r0), some (.int x1), some (.int x2), some (.int x3), none, none], [], h) Post
  unfold gV
  refine gw_pst hk 4 (st' := (6, [some (.ref r0), some (.int x1), some (.int x2), some (.int x3), some (.int 0), some (.int 0)], [], h)) rfl ?_
  obtain ⟨n, w⟩ := w
  exact okl237_6 c d Post n _ _ _ _ _ _ _ w
def w238_102 (c : gx) (d : Nat) (Post : Option Value → gm_H → Prop) (K48 : Nat → Int32 → Int32 → Int32 → Int32 → Int32 → gm_H → Prop) (K57 : Nat → Int32 → Int32 → Int32 → Int32 → Int32 → Int32 → gm_H → Prop) (r0 : Nat) (x1 : Int32) (x2 : Int32) (x3 : Int32) (x4 : Int32) (x5 : Int32) (x6 : Int32) (h : gm_H) : Prop :=
  K57 r0 x1 x2 x3 x4 x5 (x6 + 1) h
theorem ok238_102 (c : gx) (d : Nat) (Post : Option Value → gm_H → Prop) (K48 : Nat → Int32 → Int32 → Int32 → Int32 → Int32 → gm_H → Prop) (K57 : Nat → Int32 → Int32 → Int32 → Int32 → Int32 → Int32 → gm_H → Prop)  (hK48 : ∀ (r0 : Nat) (x1 : Int32) (x2 : Int32) (x3 : Int32) (x4 : Int32) (x5 : Int32) (h : gm_H), K48 r0 x1 x2 x3 x4 x5 h → gV c d 238 (48, [some (.ref r0), some (.int x1), some (.int x2), some (.int x3), some (.int x4), some (.int x5), none, none], [], h) Post) (hK57 : ∀ (r0 : Nat) (x1 : Int32) (x2 : Int32) (x3 : Int32) (x4 : Int32) (x5 : Int32) (x6 : Int32) (h : gm_H), K57 r0 x1 x2 x3 x4 x5 x6 h → gV c d 238 (57, [some (.ref r0), some (.int x1), some (.int x2), some (.int x3), some (.int x4), some (.int x5), some (.int x6), none], [], h) Post) (r0 : Nat) (x1 : Int32) (x2 : Int32) (x3 : Int32) (x4 : Int32) (x5 : Int32) (x6 : Int32) (h : gm_H) (w : w238_102 c d Post K48 K57 r0 x1 x2 x3 x4 x5 x6 h) : gV c d 238 (102, [some (.ref r0), some (.int x1), some (.int x2), some (.int x3), some (.int x4), some (.int x5), some (.int x6), none], [], h) Post := by
  have hk : ∀ pc i, gm_find gk_238 pc = some i → gm_code (gt_T c.1 c.2.1 c.2.2.1) 238 pc = some i := fun _ _ z => z
  unfold w238_102 at w
  unfold gV
  refine gw_pst hk 2 (st' := (57, [some (.ref r0), some (.int x1), some (.int x2), some (.int x3), some (.int x4), some (.int x5), some (.int (x6 + 1)), none], [], h)) rfl ?_
  exact hK57 _ _ _ _ _ _ _ _ w
def w238_92 (c : gx) (d : Nat) (Post : Option Value → gm_H → Prop) (K48 : Nat → Int32 → Int32 → Int32 → Int32 → Int32 → gm_H → Prop) (K57 : Nat → Int32 → Int32 → Int32 → Int32 → Int32 → Int32 → gm_H → Prop) (r0 : Nat) (x1 : Int32) (x5 : Int32) (x6 : Int32) (x7 : Int32) (h : gm_H) : Prop :=
  w238_102 c d Post K48 K57 r0 x1 x5 x6 x7 x5 x6 h
theorem ok238_92 (c : gx) (d : Nat) (Post : Option Value → gm_H → Prop) (K48 : Nat → Int32 → Int32 → Int32 → Int32 → Int32 → gm_H → Prop) (K57 : Nat → Int32 → Int32 → Int32 → Int32 → Int32 → Int32 → gm_H → Prop)  (hK48 : ∀ (r0 : Nat) (x1 : Int32) (x2 : Int32) (x3 : Int32) (x4 : Int32) (x5 : Int32) (h : gm_H), K48 r0 x1 x2 x3 x4 x5 h → gV c d 238 (48, [some (.ref r0), some (.int x1), some (.int x2), some (.int x3), some (.int x4), some (.int x5), none, none], [], h) Post) (hK57 : ∀ (r0 : Nat) (x1 : Int32) (x2 : Int32) (x3 : Int32) (x4 : Int32) (x5 : Int32) (x6 : Int32) (h : gm_H), K57 r0 x1 x2 x3 x4 x5 x6 h → gV c d 238 (57, [some (.ref r0), some (.int x1), some (.int x2), some (.int x3), some (.int x4), some (.int x5), some (.int x6), none], [], h) Post) (r0 : Nat) (x1 : Int32) (x5 : Int32) (x6 : Int32) (x7 : Int32) (h : gm_H) (w : w238_92 c d Post K48 K57 r0 x1 x5 x6 x7 h) : gV c d 238 (92, [some (.ref r0), some (.int x1), none, none, none, some (.int x5), some (.int x6), some (.int x7)], [], h) Post := by
  have hk : ∀ pc i, gm_find gk_238 pc = some i → gm_code (gt_T c.1 c.2.1 c.2.2.1) 238 pc = some i := fun _ _ z => z
  unfold w238_92 at w
  unfold gV
  refine gw_pst hk 6 (st' := (102, [some (.ref r0), some (.int x1), some (.int x5), some (.int x6), some (.int x7), some (.int x5), some (.int x6), some (.int x7)], [], h)) rfl ?_
  refine gw_le (L' := [some (.ref r0), some (.int x1), some (.int x5), some (.int x6), some (.int x7), some (.int x5), some (.int x6), none]) (gm_le_k _ (gm_le_k _ (gm_le_k _ (gm_le_k _ (gm_le_k _ (gm_le_k _ (gm_le_k _ (gm_le_n _ gm_le_nil)))))))) ?_
  exact ok238_102 c d Post K48 K57 hK48 hK57 _ _ _ _ _ _ _ _ w
def wb238_57 (c : gx) (d : Nat) (Post : Option Value → gm_H → Prop) (K48 : Nat → Int32 → Int32 → Int32 → Int32 → Int32 → gm_H → Prop) (K57 : Nat → Int32 → Int32 → Int32 → Int32 → Int32 → Int32 → gm_H → Prop) (r0 : Nat) (x1 : Int32) (x2 : Int32) (x3 : Int32) (x4 : Int32) (x5 : Int32) (x6 : Int32) (h : gm_H) : Prop :=
  (((1 <<< (x5 &&& 31)) ≤ x6 → K48 r0 x1 x2 x3 x4 (x5 + 1) h) ∧ (¬ ((1 <<< (x5 &&& 31)) ≤ x6) → (∃ fs2, gm_get h r0 = some (.inr (10, fs2))) ∧ gE c d 237 [.ref r0, .int x5, .int x6, .int x1] h (fun v2 h_2 => ∃ x_2 : Int32, v2 = some (.int x_2) ∧ ((x2 = (-1) → w238_92 c d Post K48 K57 r0 x1 x5 x6 x_2 h_2) ∧ (¬ (x2 = (-1)) → ((x4 < x_2 → w238_92 c d Post K48 K57 r0 x1 x5 x6 x_2 h_2) ∧ (¬ (x4 < x_2) → w238_102 c d Post K48 K57 r0 x1 x2 x3 x4 x5 x6 h_2)))))))
theorem okb238_57 (c : gx) (d : Nat) (Post : Option Value → gm_H → Prop) (K48 : Nat → Int32 → Int32 → Int32 → Int32 → Int32 → gm_H → Prop) (K57 : Nat → Int32 → Int32 → Int32 → Int32 → Int32 → Int32 → gm_H → Prop)  (hK48 : ∀ (r0 : Nat) (x1 : Int32) (x2 : Int32) (x3 : Int32) (x4 : Int32) (x5 : Int32) (h : gm_H), K48 r0 x1 x2 x3 x4 x5 h → gV c d 238 (48, [some (.ref r0), some (.int x1), some (.int x2), some (.int x3), some (.int x4), some (.int x5), none, none], [], h) Post) (hK57 : ∀ (r0 : Nat) (x1 : Int32) (x2 : Int32) (x3 : Int32) (x4 : Int32) (x5 : Int32) (x6 : Int32) (h : gm_H), K57 r0 x1 x2 x3 x4 x5 x6 h → gV c d 238 (57, [some (.ref r0), some (.int x1), some (.int x2), some (.int x3), some (.int x4), some (.int x5), some (.int x6), none], [], h) Post) (r0 : Nat) (x1 : Int32) (x2 : Int32) (x3 : Int32) (x4 : Int32) (x5 : Int32) (x6 : Int32) (h : gm_H) (w : wb238_57 c d Post K48 K57 r0 x1 x2 x3 x4 x5 x6 h) : gV c d 238 (57, [some (.ref r0), some (.int x1), some (.int x2), some (.int x3), some (.int x4), some (.int x5), some (.int x6), none], [], h) Post := by
  have hk : ∀ pc i, gm_find gk_238 pc = some i → gm_code (gt_T c.1 c.2.1 c.2.2.1) 238 pc = some i := fun _ _ z => z
  unfold wb238_57 at w
  unfold gV
  refine gw_pst hk 4 (st' := (63, [some (.ref r0), some (.int x1), some (.int x2), some (.int x3), some (.int x4), some (.int x5), some (.int x6), none], [.int (1 <<< (x5 &&& 31)), .int x6], h)) rfl ?_
  refine gw_br (c := (1 <<< (x5 &&& 31)) ≤ x6) (a := (108, [some (.ref r0), some (.int x1), some (.int x2), some (.int x3), some (.int x4), some (.int x5), some (.int x6), none], [], h)) (b := (66, [some (.ref r0), some (.int x1), some (.int x2), some (.int x3), some (.int x4), some (.int x5), some (.int x6), none], [], h)) (hk _ _ rfl) rfl ⟨fun z1 => ?_, fun z1 => ?_⟩
  · replace w := w.1 z1
    refine gw_pst hk 2 (st' := (48, [some (.ref r0), some (.int x1), some (.int x2), some (.int x3), some (.int x4), some (.int (x5 + 1)), some (.int x6), none], [], h)) rfl ?_
    refine gw_le (L' := [some (.ref r0), some (.int x1), some (.int x2), some (.int x3), some (.int x4), some (.int (x5 + 1)), none, none]) (gm_le_k _ (gm_le_k _ (gm_le_k _ (gm_le_k _ (gm_le_k _ (gm_le_k _ (gm_le_n _ (gm_le_k _ gm_le_nil)))))))) ?_
    exact hK48 _ _ _ _ _ _ _ w
  · replace w := w.2 z1
    refine gw_pst hk 4 (st' := (72, [some (.ref r0), some (.int x1), some (.int x2), some (.int x3), some (.int x4), some (.int x5), some (.int x6), none], [.int x1, .int x6, .int x5, .ref r0], h)) rfl ?_
    obtain ⟨⟨fs2, e2⟩, w⟩ := w
    refine gw_call (jj := 237) (As := [.ref r0, .int x5, .int x6, .int x1]) (rest := []) (hk _ _ rfl) (fun _ => rfl) rfl rfl (Nat.le_of_ble_eq_true rfl) (gm_rcv_v rfl e2 rfl) ?_
    refine ge_imp w (fun v2 h_2 w => ?_)
    obtain ⟨x_2, rfl, w⟩ := w
    show gV c d 238 (75, [some (.ref r0), some (.int x1), some (.int x2), some (.int x3), some (.int x4), some (.int x5), some (.int x6), none], [.int x_2], h_2) Post
    refine gw_pst hk 3 (st' := (79, [some (.ref r0), some (.int x1), some (.int x2), some (.int x3), some (.int x4), some (.int x5), some (.int x6), some (.int x_2)], [.int (-1), .int x2], h_2)) rfl ?_
    refine gw_br (c := x2 = (-1)) (a := (92, [some (.ref r0), some (.int x1), some (.int x2), some (.int x3), some (.int x4), some (.int x5), some (.int x6), some (.int x_2)], [], h_2)) (b := (82, [some (.ref r0), some (.int x1), some (.int x2), some (.int x3), some (.int x4), some (.int x5), some (.int x6), some (.int x_2)], [], h_2)) (hk _ _ rfl) rfl ⟨fun z3 => ?_, fun z3 => ?_⟩
    · replace w := w.1 z3
      refine gw_le (L' := [some (.ref r0), some (.int x1), none, none, none, some (.int x5), some (.int x6), some (.int x_2)]) (gm_le_k _ (gm_le_k _ (gm_le_n _ (gm_le_n _ (gm_le_n _ (gm_le_k _ (gm_le_k _ (gm_le_k _ gm_le_nil)))))))) ?_
      exact ok238_92 c d Post K48 K57 hK48 hK57 _ _ _ _ _ _ w
    · replace w := w.2 z3
      refine gw_pst hk 2 (st' := (86, [some (.ref r0), some (.int x1), some (.int x2), some (.int x3), some (.int x4), some (.int x5), some (.int x6), some (.int x_2)], [.int x4, .int x_2], h_2)) rfl ?_
      refine gw_br (c := x4 < x_2) (a := (92, [some (.ref r0), some (.int x1), some (.int x2), some (.int x3), some (.int x4), some (.int x5), some (.int x6), some (.int x_2)], [], h_2)) (b := (89, [some (.ref r0), some (.int x1), some (.int x2), some (.int x3), some (.int x4), some (.int x5), some (.int x6), some (.int x_2)], [], h_2)) (hk _ _ rfl) rfl ⟨fun z4 => ?_, fun z4 => ?_⟩
      · replace w := w.1 z4
        refine gw_le (L' := [some (.ref r0), some (.int x1), none, none, none, some (.int x5), some (.int x6), some (.int x_2)]) (gm_le_k _ (gm_le_k _ (gm_le_n _ (gm_le_n _ (gm_le_n _ (gm_le_k _ (gm_le_k _ (gm_le_k _ gm_le_nil)))))))) ?_
        exact ok238_92 c d Post K48 K57 hK48 hK57 _ _ _ _ _ _ w
      · replace w := w.2 z4
        refine gw_pst hk 1 (st' := (102, [some (.ref r0), some (.int x1), some (.int x2), some (.int x3), some (.int x4), some (.int x5), some (.int x6), some (.int x_2)], [], h_2)) rfl ?_
        refine gw_le (L' := [some (.ref r0), some (.int x1), some (.int x2), some (.int x3), some (.int x4), some (.int x5), some (.int x6), none]) (gm_le_k _ (gm_le_k _ (gm_le_k _ (gm_le_k _ (gm_le_k _ (gm_le_k _ (gm_le_k _ (gm_le_n _ gm_le_nil)))))))) ?_
        exact ok238_102 c d Post K48 K57 hK48 hK57 _ _ _ _ _ _ _ _ w
def wl238_57 (c : gx) (d : Nat) (Post : Option Value → gm_H → Prop) (K48 : Nat → Int32 → Int32 → Int32 → Int32 → Int32 → gm_H → Prop) : Nat → Nat → Int32 → Int32 → Int32 → Int32 → Int32 → Int32 → gm_H → Prop
  | 0 => fun _ _ _ _ _ _ _ _ => False
  | n + 1 => wb238_57 c d Post K48 (wl238_57 c d Post K48 n)
theorem okl238_57 (c : gx) (d : Nat) (Post : Option Value → gm_H → Prop) (K48 : Nat → Int32 → Int32 → Int32 → Int32 → Int32 → gm_H → Prop) (hK48 : ∀ (r0 : Nat) (x1 : Int32) (x2 : Int32) (x3 : Int32) (x4 : Int32) (x5 : Int32) (h : gm_H), K48 r0 x1 x2 x3 x4 x5 h → gV c d 238 (48, [some (.ref r0), some (.int x1), some (.int x2), some (.int x3), some (.int x4), some (.int x5), none, none], [], h) Post) : ∀ (n : Nat) (r0 : Nat) (x1 : Int32) (x2 : Int32) (x3 : Int32) (x4 : Int32) (x5 : Int32) (x6 : Int32) (h : gm_H), wl238_57 c d Post K48 n r0 x1 x2 x3 x4 x5 x6 h → gV c d 238 (57, [some (.ref r0), some (.int x1), some (.int x2), some (.int x3), some (.int x4), some (.int x5), some (.int x6), none], [], h) Post
  | 0, _, _, _, _, _, _, _, _, w => w.elim
  | n + 1, r0, x1, x2, x3, x4, x5, x6, h, w => okb238_57 c d Post K48 (wl238_57 c d Post K48 n) hK48 (okl238_57 c d Post K48 hK48 n) r0 x1 x2 x3 x4 x5 x6 h w
def wb238_48 (c : gx) (d : Nat) (Post : Option Value → gm_H → Prop) (K48 : Nat → Int32 → Int32 → Int32 → Int32 → Int32 → gm_H → Prop) (r0 : Nat) (x1 : Int32) (x2 : Int32) (x3 : Int32) (x4 : Int32) (x5 : Int32) (h : gm_H) : Prop :=
  ((4 < x5 → ∃ fs2 : List Value, gm_get h r0 = some (.inr (10, fs2)) ∧ 12 < fs2.length ∧ ∀ h_2 : gm_H, h_2 = gm_put h r0 (.inr (10, fs2.set 12 (.int 0))) → (∃ fs3, gm_get h_2 r0 = some (.inr (10, fs3))) ∧ gE c d 157 [.ref r0, .long ((x3 : Int32).toInt64)] h_2 (fun v3 h_3 => v3 = none ∧ (∃ fs4, gm_get h_3 r0 = some (.inr (10, fs4))) ∧ gE c d 157 [.ref r0, .long ((x4 : Int32).toInt64)] h_3 (fun v4 h_4 => v4 = none ∧ Post (some (.int x2)) h_4))) ∧ (¬ (4 < x5) → ∃ n, wl238_57 c d Post K48 n r0 x1 x2 x3 x4 x5 0 h))
theorem okb238_48 (c : gx) (d : Nat) (Post : Option Value → gm_H → Prop) (K48 : Nat → Int32 → Int32 → Int32 → Int32 → Int32 → gm_H → Prop)  (hK48 : ∀ (r0 : Nat) (x1 : Int32) (x2 : Int32) (x3 : Int32) (x4 : Int32) (x5 : Int32) (h : gm_H), K48 r0 x1 x2 x3 x4 x5 h → gV c d 238 (48, [some (.ref r0), some (.int x1), some (.int x2), some (.int x3), some (.int x4), some (.int x5), none, none], [], h) Post) (r0 : Nat) (x1 : Int32) (x2 : Int32) (x3 : Int32) (x4 : Int32) (x5 : Int32) (h : gm_H) (w : wb238_48 c d Post K48 r0 x1 x2 x3 x4 x5 h) : gV c d 238 (48, [some (.ref r0), some (.int x1), some (.int x2), some (.int x3), some (.int x4), some (.int x5), none, none], [], h) Post := by
  have hk : ∀ pc i, gm_find gk_238 pc = some i → gm_code (gt_T c.1 c.2.1 c.2.2.1) 238 pc = some i := fun _ _ z => z
  unfold wb238_48 at w
  unfold gV
  refine gw_pst hk 2 (st' := (51, [some (.ref r0), some (.int x1), some (.int x2), some (.int x3), some (.int x4), some (.int x5), none, none], [.int 4, .int x5], h)) rfl ?_
  refine gw_br (c := 4 < x5) (a := (114, [some (.ref r0), some (.int x1), some (.int x2), some (.int x3), some (.int x4), some (.int x5), none, none], [], h)) (b := (54, [some (.ref r0), some (.int x1), some (.int x2), some (.int x3), some (.int x4), some (.int x5), none, none], [], h)) (hk _ _ rfl) rfl ⟨fun z1 => ?_, fun z1 => ?_⟩
  · replace w := w.1 z1
    refine gw_pst hk 2 (st' := (116, [some (.ref r0), some (.int x1), some (.int x2), some (.int x3), some (.int x4), some (.int x5), none, none], [.int 0, .ref r0], h)) rfl ?_
    obtain ⟨fs2, e2, l2, w⟩ := w
    refine gw_pf (hk _ _ rfl) e2 l2 rfl ?_
    obtain ⟨h_2, eh2⟩ : ∃ z, z = gm_put h r0 (.inr (10, fs2.set 12 (.int 0))) := ⟨_, rfl⟩
    rw [← eh2]
    replace w := w h_2 eh2
    refine gw_pst hk 3 (st' := (122, [some (.ref r0), some (.int x1), some (.int x2), some (.int x3), some (.int x4), some (.int x5), none, none], [.long ((x3 : Int32).toInt64), .ref r0], h_2)) rfl ?_
    obtain ⟨⟨fs3, e3⟩, w⟩ := w
    refine gw_call (jj := 157) (As := [.ref r0, .long ((x3 : Int32).toInt64)]) (rest := []) (hk _ _ rfl) (fun _ => rfl) rfl rfl (Nat.le_of_ble_eq_true rfl) (gm_rcv_v rfl e3 rfl) ?_
    refine ge_imp w (fun v3 h_3 w => ?_)
    obtain ⟨rfl, w⟩ := w
    show gV c d 238 (125, [some (.ref r0), some (.int x1), some (.int x2), some (.int x3), some (.int x4), some (.int x5), none, none], [], h_3) Post
    refine gw_pst hk 3 (st' := (129, [some (.ref r0), some (.int x1), some (.int x2), some (.int x3), some (.int x4), some (.int x5), none, none], [.long ((x4 : Int32).toInt64), .ref r0], h_3)) rfl ?_
    obtain ⟨⟨fs4, e4⟩, w⟩ := w
    refine gw_call (jj := 157) (As := [.ref r0, .long ((x4 : Int32).toInt64)]) (rest := []) (hk _ _ rfl) (fun _ => rfl) rfl rfl (Nat.le_of_ble_eq_true rfl) (gm_rcv_v rfl e4 rfl) ?_
    refine ge_imp w (fun v4 h_4 w => ?_)
    obtain ⟨rfl, w⟩ := w
    show gV c d 238 (132, [some (.ref r0), some (.int x1), some (.int x2), some (.int x3), some (.int x4), some (.int x5), none, none], [], h_4) Post
    refine gw_pst hk 1 (st' := (133, [some (.ref r0), some (.int x1), some (.int x2), some (.int x3), some (.int x4), some (.int x5), none, none], [.int x2], h_4)) rfl ?_
    exact gw_ret (hk _ _ rfl) rfl w
  · replace w := w.2 z1
    refine gw_pst hk 2 (st' := (57, [some (.ref r0), some (.int x1), some (.int x2), some (.int x3), some (.int x4), some (.int x5), some (.int 0), none], [], h)) rfl ?_
    obtain ⟨n, w⟩ := w
    exact okl238_57 c d Post K48 hK48 n _ _ _ _ _ _ _ _ w
def wl238_48 (c : gx) (d : Nat) (Post : Option Value → gm_H → Prop) : Nat → Nat → Int32 → Int32 → Int32 → Int32 → Int32 → gm_H → Prop
  | 0 => fun _ _ _ _ _ _ _ => False
  | n + 1 => wb238_48 c d Post (wl238_48 c d Post n)
theorem okl238_48 (c : gx) (d : Nat) (Post : Option Value → gm_H → Prop) : ∀ (n : Nat) (r0 : Nat) (x1 : Int32) (x2 : Int32) (x3 : Int32) (x4 : Int32) (x5 : Int32) (h : gm_H), wl238_48 c d Post n r0 x1 x2 x3 x4 x5 h → gV c d 238 (48, [some (.ref r0), some (.int x1), some (.int x2), some (.int x3), some (.int x4), some (.int x5), none, none], [], h) Post
  | 0, _, _, _, _, _, _, _, w => w.elim
  | n + 1, r0, x1, x2, x3, x4, x5, h, w => okb238_48 c d Post (wl238_48 c d Post n) (okl238_48 c d Post n) r0 x1 x2 x3 x4 x5 h w
/-- CommandByTurnsModel.command(I)I -/
def wm238 (c : gx) (d : Nat) (Post : Option Value → gm_H → Prop) (r0 : Nat) (x1 : Int32) (h : gm_H) : Prop :=
  ∃ fs1 : List Value, gm_get h r0 = some (.inr (10, fs1)) ∧ 13 < fs1.length ∧ ∀ h_1 : gm_H, h_1 = gm_put h r0 (.inr (10, fs1.set 13 (.int 0))) → gE c d 154 [.int x1, .int 1, .int 30] h_1 (fun v2 h_2 => ∃ x_2 : Int32, v2 = some (.int x_2) ∧ ((x_2 = 0 → Post (some (.int (-1))) h_2) ∧ (¬ (x_2 = 0) → ∃ q_4 : Nat, gm_fld h_2 r0 10 0 = some (.ref q_4) ∧ ∃ (n5 : Nat) (f5 : Nat → Int32), gm_get h_2 q_4 = some (.inl (0, n5, .inl f5)) ∧ vp_in 1 n5 ∧ ∃ q_6 : Nat, gm_fld h_2 r0 10 0 = some (.ref q_6) ∧ ∃ (n7 : Nat) (f7 : Nat → Int32), gm_get h_2 q_6 = some (.inl (0, n7, .inl f7)) ∧ vp_in 2 n7 ∧ gE c d 185 [.int (f5 (1 : Int32).toNatClampNeg), .int (f7 (2 : Int32).toNatClampNeg)] h_2 (fun v8 h_8 => ∃ x_8 : Int32, v8 = some (.int x_8) ∧ ((x_8 = 0 → Post (some (.int (-2))) h_8) ∧ (¬ (x_8 = 0) → ∃ n, wl238_48 c d Post n r0 x1 (-1) 0 0 2 h_8))))))
theorem okm238 (c : gx) (d : Nat) (Post : Option Value → gm_H → Prop) (r0 : Nat) (x1 : Int32) (h : gm_H) (w : wm238 c d Post r0 x1 h) : gE c (d + 1) 238 [.ref r0, .int x1] h Post := by
  have hk : ∀ pc i, gm_find gk_238 pc = some i → gm_code (gt_T c.1 c.2.1 c.2.2.1) 238 pc = some i := fun _ _ z => z
  unfold wm238 at w
  refine ge_of (by decide) (Nat.le_of_ble_eq_true rfl) ?_
  show gV c d 238 (0, [some (.ref r0), some (.int x1), none, none, none, none, none, none], [], h) Post
  unfold gV
  refine gw_pst hk 2 (st' := (2, [some (.ref r0), some (.int x1), none, none, none, none, none, none], [.int 0, .ref r0], h)) rfl ?_
  obtain ⟨fs1, e1, l1, w⟩ := w
  refine gw_pf (hk _ _ rfl) e1 l1 rfl ?_
  obtain ⟨h_1, eh1⟩ : ∃ z, z = gm_put h r0 (.inr (10, fs1.set 13 (.int 0))) := ⟨_, rfl⟩
  rw [← eh1]
  replace w := w h_1 eh1
  refine gw_pst hk 3 (st' := (9, [some (.ref r0), some (.int x1), none, none, none, none, none, none], [.int 30, .int 1, .int x1], h_1)) rfl ?_
  refine gw_call (jj := 154) (As := [.int x1, .int 1, .int 30]) (rest := []) (hk _ _ rfl) (fun _ => rfl) rfl rfl (Nat.le_of_ble_eq_true rfl) rfl ?_
  refine ge_imp w (fun v2 h_2 w => ?_)
  obtain ⟨x_2, rfl, w⟩ := w
  show gV c d 238 (12, [some (.ref r0), some (.int x1), none, none, none, none, none, none], [.int x_2], h_2) Post
  refine gw_br (c := x_2 = 0) (a := (15, [some (.ref r0), some (.int x1), none, none, none, none, none, none], [], h_2)) (b := (17, [some (.ref r0), some (.int x1), none, none, none, none, none, none], [], h_2)) (hk _ _ rfl) rfl ⟨fun z3 => ?_, fun z3 => ?_⟩
  · replace w := w.1 z3
    refine gw_pst hk 1 (st' := (16, [some (.ref r0), some (.int x1), none, none, none, none, none, none], [.int (-1)], h_2)) rfl ?_
    exact gw_ret (hk _ _ rfl) rfl w
  · replace w := w.2 z3
    refine gw_pst hk 1 (st' := (18, [some (.ref r0), some (.int x1), none, none, none, none, none, none], [.ref r0], h_2)) rfl ?_
    obtain ⟨q_4, e4, w⟩ := w
    refine gw_gf (hk _ _ rfl) e4 ?_
    refine gw_pst hk 1 (st' := (22, [some (.ref r0), some (.int x1), none, none, none, none, none, none], [.int 1, .ref q_4], h_2)) rfl ?_
    obtain ⟨n5, f5, e5, b5, w⟩ := w
    refine gw_ald (hk _ _ rfl) (Or.inl ⟨rfl, rfl⟩) e5 b5 ?_
    refine gw_pst hk 1 (st' := (24, [some (.ref r0), some (.int x1), none, none, none, none, none, none], [.ref r0, .int (f5 (1 : Int32).toNatClampNeg)], h_2)) rfl ?_
    obtain ⟨q_6, e6, w⟩ := w
    refine gw_gf (hk _ _ rfl) e6 ?_
    refine gw_pst hk 1 (st' := (28, [some (.ref r0), some (.int x1), none, none, none, none, none, none], [.int 2, .ref q_6, .int (f5 (1 : Int32).toNatClampNeg)], h_2)) rfl ?_
    obtain ⟨n7, f7, e7, b7, w⟩ := w
    refine gw_ald (hk _ _ rfl) (Or.inl ⟨rfl, rfl⟩) e7 b7 ?_
    refine gw_call (jj := 185) (As := [.int (f5 (1 : Int32).toNatClampNeg), .int (f7 (2 : Int32).toNatClampNeg)]) (rest := []) (hk _ _ rfl) (fun _ => rfl) rfl rfl (Nat.le_of_ble_eq_true rfl) rfl ?_
    refine ge_imp w (fun v8 h_8 w => ?_)
    obtain ⟨x_8, rfl, w⟩ := w
    show gV c d 238 (32, [some (.ref r0), some (.int x1), none, none, none, none, none, none], [.int x_8], h_8) Post
    refine gw_br (c := x_8 = 0) (a := (35, [some (.ref r0), some (.int x1), none, none, none, none, none, none], [], h_8)) (b := (38, [some (.ref r0), some (.int x1), none, none, none, none, none, none], [], h_8)) (hk _ _ rfl) rfl ⟨fun z9 => ?_, fun z9 => ?_⟩
    · replace w := w.1 z9
      refine gw_pst hk 1 (st' := (37, [some (.ref r0), some (.int x1), none, none, none, none, none, none], [.int (-2)], h_8)) rfl ?_
      exact gw_ret (hk _ _ rfl) rfl w
    · replace w := w.2 z9
      refine gw_pst hk 8 (st' := (48, [some (.ref r0), some (.int x1), some (.int (-1)), some (.int 0), some (.int 0), some (.int 2), none, none], [], h_8)) rfl ?_
      obtain ⟨n, w⟩ := w
      exact okl238_48 c d Post n _ _ _ _ _ _ _ w
/-- CommandByTurnsModel.partBy(II)I -/
def wm239 (c : gx) (d : Nat) (Post : Option Value → gm_H → Prop) (r0 : Nat) (x1 : Int32) (x2 : Int32) (h : gm_H) : Prop :=
  ∃ q_1 : Nat, gm_fld h r0 10 2 = some (.ref q_1) ∧ ∃ q_2 : Nat, gm_fld h r0 10 0 = some (.ref q_2) ∧ ∃ (n3 : Nat) (f3 : Nat → Int32), gm_get h q_2 = some (.inl (0, n3, .inl f3)) ∧ vp_in 1 n3 ∧ ∃ (n4 : Nat) (f4 : Nat → Int32), gm_get h q_1 = some (.inl (0, n4, .inl f4)) ∧ vp_in (f3 (1 : Int32).toNatClampNeg) n4 ∧ ∃ q_5 : Nat, gm_fld h r0 10 2 = some (.ref q_5) ∧ ∃ q_6 : Nat, gm_fld h r0 10 0 = some (.ref q_6) ∧ ∃ (n7 : Nat) (f7 : Nat → Int32), gm_get h q_6 = some (.inl (0, n7, .inl f7)) ∧ vp_in 2 n7 ∧ ∃ (n8 : Nat) (f8 : Nat → Int32), gm_get h q_5 = some (.inl (0, n8, .inl f8)) ∧ vp_in (f7 (2 : Int32).toNatClampNeg) n8 ∧ ∃ q_9 : Nat, gm_fld h r0 10 0 = some (.ref q_9) ∧ ∃ (n10 : Nat) (f10 : Nat → Int32), gm_get h q_9 = some (.inl (0, n10, .inl f10)) ∧ vp_in 4 n10 ∧ ∃ q_11 : Nat, gm_fld h r0 10 0 = some (.ref q_11) ∧ ∃ (n12 : Nat) (f12 : Nat → Int32), gm_get h q_11 = some (.inl (0, n12, .inl f12)) ∧ vp_in 5 n12 ∧ ∃ q_13 : Nat, gm_fld h r0 10 0 = some (.ref q_13) ∧ ∃ (n14 : Nat) (f14 : Nat → Int32), gm_get h q_13 = some (.inl (0, n14, .inl f14)) ∧ vp_in 0 n14 ∧ (∃ fs15, gm_get h r0 = some (.inr (10, fs15))) ∧ gE c d 181 [.ref r0, .int x1, .int ((f4 (f3 (1 : Int32).toNatClampNeg : Int32).toNatClampNeg) - (f8 (f7 (2 : Int32).toNatClampNeg : Int32).toNatClampNeg)), .int x2, .int ((f10 (4 : Int32).toNatClampNeg) / 2), .int (f12 (5 : Int32).toNatClampNeg), .int (f14 (0 : Int32).toNatClampNeg), .int 0] h (fun v15 h_15 => ∃ x_15 : Int32, v15 = some (.int x_15) ∧ Post (some (.int x_15)) h_15)
theorem okm239 (c : gx) (d : Nat) (Post : Option Value → gm_H → Prop) (r0 : Nat) (x1 : Int32) (x2 : Int32) (h : gm_H) (w : wm239 c d Post r0 x1 x2 h) : gE c (d + 1) 239 [.ref r0, .int x1, .int x2] h Post := by
  have hk : ∀ pc i, gm_find gk_239 pc = some i → gm_code (gt_T c.1 c.2.1 c.2.2.1) 239 pc = some i := fun _ _ z => z
  unfold wm239 at w
  refine ge_of (by decide) (Nat.le_of_ble_eq_true rfl) ?_
  show gV c d 239 (0, [some (.ref r0), some (.int x1), some (.int x2)], [], h) Post
  unfold gV
  refine gw_pst hk 3 (st' := (3, [some (.ref r0), some (.int x1), some (.int x2)], [.ref r0, .int x1, .ref r0], h)) rfl ?_
  obtain ⟨q_1, e1, w⟩ := w
  refine gw_gf (hk _ _ rfl) e1 ?_
  refine gw_pst hk 1 (st' := (7, [some (.ref r0), some (.int x1), some (.int x2)], [.ref r0, .ref q_1, .int x1, .ref r0], h)) rfl ?_
  obtain ⟨q_2, e2, w⟩ := w
  refine gw_gf (hk _ _ rfl) e2 ?_
  refine gw_pst hk 1 (st' := (11, [some (.ref r0), some (.int x1), some (.int x2)], [.int 1, .ref q_2, .ref q_1, .int x1, .ref r0], h)) rfl ?_
  obtain ⟨n3, f3, e3, b3, w⟩ := w
  refine gw_ald (hk _ _ rfl) (Or.inl ⟨rfl, rfl⟩) e3 b3 ?_
  obtain ⟨n4, f4, e4, b4, w⟩ := w
  refine gw_ald (hk _ _ rfl) (Or.inl ⟨rfl, rfl⟩) e4 b4 ?_
  refine gw_pst hk 1 (st' := (14, [some (.ref r0), some (.int x1), some (.int x2)], [.ref r0, .int (f4 (f3 (1 : Int32).toNatClampNeg : Int32).toNatClampNeg), .int x1, .ref r0], h)) rfl ?_
  obtain ⟨q_5, e5, w⟩ := w
  refine gw_gf (hk _ _ rfl) e5 ?_
  refine gw_pst hk 1 (st' := (18, [some (.ref r0), some (.int x1), some (.int x2)], [.ref r0, .ref q_5, .int (f4 (f3 (1 : Int32).toNatClampNeg : Int32).toNatClampNeg), .int x1, .ref r0], h)) rfl ?_
  obtain ⟨q_6, e6, w⟩ := w
  refine gw_gf (hk _ _ rfl) e6 ?_
  refine gw_pst hk 1 (st' := (22, [some (.ref r0), some (.int x1), some (.int x2)], [.int 2, .ref q_6, .ref q_5, .int (f4 (f3 (1 : Int32).toNatClampNeg : Int32).toNatClampNeg), .int x1, .ref r0], h)) rfl ?_
  obtain ⟨n7, f7, e7, b7, w⟩ := w
  refine gw_ald (hk _ _ rfl) (Or.inl ⟨rfl, rfl⟩) e7 b7 ?_
  obtain ⟨n8, f8, e8, b8, w⟩ := w
  refine gw_ald (hk _ _ rfl) (Or.inl ⟨rfl, rfl⟩) e8 b8 ?_
  refine gw_pst hk 3 (st' := (27, [some (.ref r0), some (.int x1), some (.int x2)], [.ref r0, .int x2, .int ((f4 (f3 (1 : Int32).toNatClampNeg : Int32).toNatClampNeg) - (f8 (f7 (2 : Int32).toNatClampNeg : Int32).toNatClampNeg)), .int x1, .ref r0], h)) rfl ?_
  obtain ⟨q_9, e9, w⟩ := w
  refine gw_gf (hk _ _ rfl) e9 ?_
  refine gw_pst hk 1 (st' := (31, [some (.ref r0), some (.int x1), some (.int x2)], [.int 4, .ref q_9, .int x2, .int ((f4 (f3 (1 : Int32).toNatClampNeg : Int32).toNatClampNeg) - (f8 (f7 (2 : Int32).toNatClampNeg : Int32).toNatClampNeg)), .int x1, .ref r0], h)) rfl ?_
  obtain ⟨n10, f10, e10, b10, w⟩ := w
  refine gw_ald (hk _ _ rfl) (Or.inl ⟨rfl, rfl⟩) e10 b10 ?_
  refine gw_pst hk 1 (st' := (33, [some (.ref r0), some (.int x1), some (.int x2)], [.int 2, .int (f10 (4 : Int32).toNatClampNeg), .int x2, .int ((f4 (f3 (1 : Int32).toNatClampNeg : Int32).toNatClampNeg) - (f8 (f7 (2 : Int32).toNatClampNeg : Int32).toNatClampNeg)), .int x1, .ref r0], h)) rfl ?_
  refine gw_idiv (hk _ _ rfl) (by decide) ?_ rfl
  refine gw_pst hk 1 (st' := (35, [some (.ref r0), some (.int x1), some (.int x2)], [.ref r0, .int ((f10 (4 : Int32).toNatClampNeg) / 2), .int x2, .int ((f4 (f3 (1 : Int32).toNatClampNeg : Int32).toNatClampNeg) - (f8 (f7 (2 : Int32).toNatClampNeg : Int32).toNatClampNeg)), .int x1, .ref r0], h)) rfl ?_
  obtain ⟨q_11, e11, w⟩ := w
  refine gw_gf (hk _ _ rfl) e11 ?_
  refine gw_pst hk 1 (st' := (39, [some (.ref r0), some (.int x1), some (.int x2)], [.int 5, .ref q_11, .int ((f10 (4 : Int32).toNatClampNeg) / 2), .int x2, .int ((f4 (f3 (1 : Int32).toNatClampNeg : Int32).toNatClampNeg) - (f8 (f7 (2 : Int32).toNatClampNeg : Int32).toNatClampNeg)), .int x1, .ref r0], h)) rfl ?_
  obtain ⟨n12, f12, e12, b12, w⟩ := w
  refine gw_ald (hk _ _ rfl) (Or.inl ⟨rfl, rfl⟩) e12 b12 ?_
  refine gw_pst hk 1 (st' := (41, [some (.ref r0), some (.int x1), some (.int x2)], [.ref r0, .int (f12 (5 : Int32).toNatClampNeg), .int ((f10 (4 : Int32).toNatClampNeg) / 2), .int x2, .int ((f4 (f3 (1 : Int32).toNatClampNeg : Int32).toNatClampNeg) - (f8 (f7 (2 : Int32).toNatClampNeg : Int32).toNatClampNeg)), .int x1, .ref r0], h)) rfl ?_
  obtain ⟨q_13, e13, w⟩ := w
  refine gw_gf (hk _ _ rfl) e13 ?_
  refine gw_pst hk 1 (st' := (45, [some (.ref r0), some (.int x1), some (.int x2)], [.int 0, .ref q_13, .int (f12 (5 : Int32).toNatClampNeg), .int ((f10 (4 : Int32).toNatClampNeg) / 2), .int x2, .int ((f4 (f3 (1 : Int32).toNatClampNeg : Int32).toNatClampNeg) - (f8 (f7 (2 : Int32).toNatClampNeg : Int32).toNatClampNeg)), .int x1, .ref r0], h)) rfl ?_
  obtain ⟨n14, f14, e14, b14, w⟩ := w
  refine gw_ald (hk _ _ rfl) (Or.inl ⟨rfl, rfl⟩) e14 b14 ?_
  refine gw_pst hk 1 (st' := (47, [some (.ref r0), some (.int x1), some (.int x2)], [.int 0, .int (f14 (0 : Int32).toNatClampNeg), .int (f12 (5 : Int32).toNatClampNeg), .int ((f10 (4 : Int32).toNatClampNeg) / 2), .int x2, .int ((f4 (f3 (1 : Int32).toNatClampNeg : Int32).toNatClampNeg) - (f8 (f7 (2 : Int32).toNatClampNeg : Int32).toNatClampNeg)), .int x1, .ref r0], h)) rfl ?_
  obtain ⟨⟨fs15, e15⟩, w⟩ := w
  refine gw_call (jj := 181) (As := [.ref r0, .int x1, .int ((f4 (f3 (1 : Int32).toNatClampNeg : Int32).toNatClampNeg) - (f8 (f7 (2 : Int32).toNatClampNeg : Int32).toNatClampNeg)), .int x2, .int ((f10 (4 : Int32).toNatClampNeg) / 2), .int (f12 (5 : Int32).toNatClampNeg), .int (f14 (0 : Int32).toNatClampNeg), .int 0]) (rest := []) (hk _ _ rfl) (fun _ => rfl) rfl rfl (Nat.le_of_ble_eq_true rfl) (gm_rcv_v rfl e15 rfl) ?_
  refine ge_imp w (fun v15 h_15 w => ?_)
  obtain ⟨x_15, rfl, w⟩ := w
  show gV c d 239 (50, [some (.ref r0), some (.int x1), some (.int x2)], [.int x_15], h_15) Post
  exact gw_ret (hk _ _ rfl) rfl w
def w240_68 (c : gx) (d : Nat) (Post : Option Value → gm_H → Prop) (K13 : Nat → Int32 → Int32 → Int32 → gm_H → Prop) (r0 : Nat) (x1 : Int32) (x2 : Int32) (x3 : Int32) (h : gm_H) : Prop :=
  K13 r0 x1 x2 (x3 + 1) h
theorem ok240_68 (c : gx) (d : Nat) (Post : Option Value → gm_H → Prop) (K13 : Nat → Int32 → Int32 → Int32 → gm_H → Prop)  (hK13 : ∀ (r0 : Nat) (x1 : Int32) (x2 : Int32) (x3 : Int32) (h : gm_H), K13 r0 x1 x2 x3 h → gV c d 240 (13, [some (.ref r0), some (.int x1), some (.int x2), some (.int x3), none], [], h) Post) (r0 : Nat) (x1 : Int32) (x2 : Int32) (x3 : Int32) (h : gm_H) (w : w240_68 c d Post K13 r0 x1 x2 x3 h) : gV c d 240 (68, [some (.ref r0), some (.int x1), some (.int x2), some (.int x3), none], [], h) Post := by
  have hk : ∀ pc i, gm_find gk_240 pc = some i → gm_code (gt_T c.1 c.2.1 c.2.2.1) 240 pc = some i := fun _ _ z => z
  unfold w240_68 at w
  unfold gV
  refine gw_pst hk 2 (st' := (13, [some (.ref r0), some (.int x1), some (.int x2), some (.int (x3 + 1)), none], [], h)) rfl ?_
  exact hK13 _ _ _ _ _ w
def wb240_13 (c : gx) (d : Nat) (Post : Option Value → gm_H → Prop) (K13 : Nat → Int32 → Int32 → Int32 → gm_H → Prop) (r0 : Nat) (x1 : Int32) (x2 : Int32) (x3 : Int32) (h : gm_H) : Prop :=
  ∃ q_1 : Nat, gm_fld h r0 10 0 = some (.ref q_1) ∧ ∃ (n2 : Nat) (f2 : Nat → Int32), gm_get h q_1 = some (.inl (0, n2, .inl f2)) ∧ vp_in 3 n2 ∧ ((((f2 (3 : Int32).toNatClampNeg) / 100) < x3 → ∃ fs4 : List Value, gm_get h r0 = some (.inr (10, fs4)) ∧ 12 < fs4.length ∧ ∀ h_4 : gm_H, h_4 = gm_put h r0 (.inr (10, fs4.set 12 (.int 0))) → (∃ fs5, gm_get h_4 r0 = some (.inr (10, fs5))) ∧ gE c d 157 [.ref r0, .long ((x2 : Int32).toInt64)] h_4 (fun v5 h_5 => v5 = none ∧ (∃ fs6, gm_get h_5 r0 = some (.inr (10, fs6))) ∧ gE c d 239 [.ref r0, .int 0, .int (100 * x1)] h_5 (fun v6 h_6 => ∃ x_6 : Int32, v6 = some (.int x_6) ∧ (∃ fs7, gm_get h_6 r0 = some (.inr (10, fs7))) ∧ gE c d 157 [.ref r0, .long ((x_6 : Int32).toInt64)] h_6 (fun v7 h_7 => v7 = none ∧ Post (some (.int x1)) h_7)))) ∧ (¬ (((f2 (3 : Int32).toNatClampNeg) / 100) < x3) → (∃ fs8, gm_get h r0 = some (.inr (10, fs8))) ∧ gE c d 239 [.ref r0, .int 0, .int (100 * x3)] h (fun v8 h_8 => ∃ x_8 : Int32, v8 = some (.int x_8) ∧ ∃ q_9 : Nat, gm_fld h_8 r0 10 0 = some (.ref q_9) ∧ ∃ (n10 : Nat) (f10 : Nat → Int32), gm_get h_8 q_9 = some (.inl (0, n10, .inl f10)) ∧ vp_in 3 n10 ∧ (∃ fs11, gm_get h_8 r0 = some (.inr (10, fs11))) ∧ gE c d 239 [.ref r0, .int 1, .int ((f10 (3 : Int32).toNatClampNeg) - (100 * x3))] h_8 (fun v11 h_11 => ∃ x_11 : Int32, v11 = some (.int x_11) ∧ ((x2 < (x_8 + x_11) → w240_68 c d Post K13 r0 x3 (x_8 + x_11) x3 h_11) ∧ (¬ (x2 < (x_8 + x_11)) → w240_68 c d Post K13 r0 x1 x2 x3 h_11))))))
theorem okb240_13 (c : gx) (d : Nat) (Post : Option Value → gm_H → Prop) (K13 : Nat → Int32 → Int32 → Int32 → gm_H → Prop)  (hK13 : ∀ (r0 : Nat) (x1 : Int32) (x2 : Int32) (x3 : Int32) (h : gm_H), K13 r0 x1 x2 x3 h → gV c d 240 (13, [some (.ref r0), some (.int x1), some (.int x2), some (.int x3), none], [], h) Post) (r0 : Nat) (x1 : Int32) (x2 : Int32) (x3 : Int32) (h : gm_H) (w : wb240_13 c d Post K13 r0 x1 x2 x3 h) : gV c d 240 (13, [some (.ref r0), some (.int x1), some (.int x2), some (.int x3), none], [], h) Post := by
  have hk : ∀ pc i, gm_find gk_240 pc = some i → gm_code (gt_T c.1 c.2.1 c.2.2.1) 240 pc = some i := fun _ _ z => z
  unfold wb240_13 at w
  unfold gV
  refine gw_pst hk 2 (st' := (15, [some (.ref r0), some (.int x1), some (.int x2), some (.int x3), none], [.ref r0, .int x3], h)) rfl ?_
  obtain ⟨q_1, e1, w⟩ := w
  refine gw_gf (hk _ _ rfl) e1 ?_
  refine gw_pst hk 1 (st' := (19, [some (.ref r0), some (.int x1), some (.int x2), some (.int x3), none], [.int 3, .ref q_1, .int x3], h)) rfl ?_
  obtain ⟨n2, f2, e2, b2, w⟩ := w
  refine gw_ald (hk _ _ rfl) (Or.inl ⟨rfl, rfl⟩) e2 b2 ?_
  refine gw_pst hk 1 (st' := (22, [some (.ref r0), some (.int x1), some (.int x2), some (.int x3), none], [.int 100, .int (f2 (3 : Int32).toNatClampNeg), .int x3], h)) rfl ?_
  refine gw_idiv (hk _ _ rfl) (by decide) ?_ rfl
  refine gw_br (c := ((f2 (3 : Int32).toNatClampNeg) / 100) < x3) (a := (74, [some (.ref r0), some (.int x1), some (.int x2), some (.int x3), none], [], h)) (b := (26, [some (.ref r0), some (.int x1), some (.int x2), some (.int x3), none], [], h)) (hk _ _ rfl) rfl ⟨fun z3 => ?_, fun z3 => ?_⟩
  · replace w := w.1 z3
    refine gw_pst hk 2 (st' := (76, [some (.ref r0), some (.int x1), some (.int x2), some (.int x3), none], [.int 0, .ref r0], h)) rfl ?_
    obtain ⟨fs4, e4, l4, w⟩ := w
    refine gw_pf (hk _ _ rfl) e4 l4 rfl ?_
    obtain ⟨h_4, eh4⟩ : ∃ z, z = gm_put h r0 (.inr (10, fs4.set 12 (.int 0))) := ⟨_, rfl⟩
    rw [← eh4]
    replace w := w h_4 eh4
    refine gw_pst hk 3 (st' := (82, [some (.ref r0), some (.int x1), some (.int x2), some (.int x3), none], [.long ((x2 : Int32).toInt64), .ref r0], h_4)) rfl ?_
    obtain ⟨⟨fs5, e5⟩, w⟩ := w
    refine gw_call (jj := 157) (As := [.ref r0, .long ((x2 : Int32).toInt64)]) (rest := []) (hk _ _ rfl) (fun _ => rfl) rfl rfl (Nat.le_of_ble_eq_true rfl) (gm_rcv_v rfl e5 rfl) ?_
    refine ge_imp w (fun v5 h_5 w => ?_)
    obtain ⟨rfl, w⟩ := w
    show gV c d 240 (85, [some (.ref r0), some (.int x1), some (.int x2), some (.int x3), none], [], h_5) Post
    refine gw_pst hk 6 (st' := (92, [some (.ref r0), some (.int x1), some (.int x2), some (.int x3), none], [.int (100 * x1), .int 0, .ref r0, .ref r0], h_5)) rfl ?_
    obtain ⟨⟨fs6, e6⟩, w⟩ := w
    refine gw_call (jj := 239) (As := [.ref r0, .int 0, .int (100 * x1)]) (rest := [.ref r0]) (hk _ _ rfl) (fun _ => rfl) rfl rfl (Nat.le_of_ble_eq_true rfl) (gm_rcv_v rfl e6 rfl) ?_
    refine ge_imp w (fun v6 h_6 w => ?_)
    obtain ⟨x_6, rfl, w⟩ := w
    show gV c d 240 (95, [some (.ref r0), some (.int x1), some (.int x2), some (.int x3), none], [.int x_6, .ref r0], h_6) Post
    refine gw_pst hk 1 (st' := (96, [some (.ref r0), some (.int x1), some (.int x2), some (.int x3), none], [.long ((x_6 : Int32).toInt64), .ref r0], h_6)) rfl ?_
    obtain ⟨⟨fs7, e7⟩, w⟩ := w
    refine gw_call (jj := 157) (As := [.ref r0, .long ((x_6 : Int32).toInt64)]) (rest := []) (hk _ _ rfl) (fun _ => rfl) rfl rfl (Nat.le_of_ble_eq_true rfl) (gm_rcv_v rfl e7 rfl) ?_
    refine ge_imp w (fun v7 h_7 w => ?_)
    obtain ⟨rfl, w⟩ := w
    show gV c d 240 (99, [some (.ref r0), some (.int x1), some (.int x2), some (.int x3), none], [], h_7) Post
    refine gw_pst hk 1 (st' := (100, [some (.ref r0), some (.int x1), some (.int x2), some (.int x3), none], [.int x1], h_7)) rfl ?_
    exact gw_ret (hk _ _ rfl) rfl w
  · replace w := w.2 z3
    refine gw_pst hk 5 (st' := (32, [some (.ref r0), some (.int x1), some (.int x2), some (.int x3), none], [.int (100 * x3), .int 0, .ref r0], h)) rfl ?_
    obtain ⟨⟨fs8, e8⟩, w⟩ := w
    refine gw_call (jj := 239) (As := [.ref r0, .int 0, .int (100 * x3)]) (rest := []) (hk _ _ rfl) (fun _ => rfl) rfl rfl (Nat.le_of_ble_eq_true rfl) (gm_rcv_v rfl e8 rfl) ?_
    refine ge_imp w (fun v8 h_8 w => ?_)
    obtain ⟨x_8, rfl, w⟩ := w
    show gV c d 240 (35, [some (.ref r0), some (.int x1), some (.int x2), some (.int x3), none], [.int x_8], h_8) Post
    refine gw_pst hk 3 (st' := (38, [some (.ref r0), some (.int x1), some (.int x2), some (.int x3), none], [.ref r0, .int 1, .ref r0, .int x_8], h_8)) rfl ?_
    obtain ⟨q_9, e9, w⟩ := w
    refine gw_gf (hk _ _ rfl) e9 ?_
    refine gw_pst hk 1 (st' := (42, [some (.ref r0), some (.int x1), some (.int x2), some (.int x3), none], [.int 3, .ref q_9, .int 1, .ref r0, .int x_8], h_8)) rfl ?_
    obtain ⟨n10, f10, e10, b10, w⟩ := w
    refine gw_ald (hk _ _ rfl) (Or.inl ⟨rfl, rfl⟩) e10 b10 ?_
    refine gw_pst hk 4 (st' := (48, [some (.ref r0), some (.int x1), some (.int x2), some (.int x3), none], [.int ((f10 (3 : Int32).toNatClampNeg) - (100 * x3)), .int 1, .ref r0, .int x_8], h_8)) rfl ?_
    obtain ⟨⟨fs11, e11⟩, w⟩ := w
    refine gw_call (jj := 239) (As := [.ref r0, .int 1, .int ((f10 (3 : Int32).toNatClampNeg) - (100 * x3))]) (rest := [.int x_8]) (hk _ _ rfl) (fun _ => rfl) rfl rfl (Nat.le_of_ble_eq_true rfl) (gm_rcv_v rfl e11 rfl) ?_
    refine ge_imp w (fun v11 h_11 w => ?_)
    obtain ⟨x_11, rfl, w⟩ := w
    show gV c d 240 (51, [some (.ref r0), some (.int x1), some (.int x2), some (.int x3), none], [.int x_11, .int x_8], h_11) Post
    refine gw_pst hk 4 (st' := (57, [some (.ref r0), some (.int x1), some (.int x2), some (.int x3), some (.int (x_8 + x_11))], [.int x2, .int (x_8 + x_11)], h_11)) rfl ?_
    refine gw_br (c := x2 < (x_8 + x_11)) (a := (63, [some (.ref r0), some (.int x1), some (.int x2), some (.int x3), some (.int (x_8 + x_11))], [], h_11)) (b := (60, [some (.ref r0), some (.int x1), some (.int x2), some (.int x3), some (.int (x_8 + x_11))], [], h_11)) (hk _ _ rfl) rfl ⟨fun z12 => ?_, fun z12 => ?_⟩
    · replace w := w.1 z12
      refine gw_pst hk 4 (st' := (68, [some (.ref r0), some (.int x3), some (.int (x_8 + x_11)), some (.int x3), some (.int (x_8 + x_11))], [], h_11)) rfl ?_
      refine gw_le (L' := [some (.ref r0), some (.int x3), some (.int (x_8 + x_11)), some (.int x3), none]) (gm_le_k _ (gm_le_k _ (gm_le_k _ (gm_le_k _ (gm_le_n _ gm_le_nil))))) ?_
      exact ok240_68 c d Post K13 hK13 _ _ _ _ _ w
    · replace w := w.2 z12
      refine gw_pst hk 1 (st' := (68, [some (.ref r0), some (.int x1), some (.int x2), some (.int x3), some (.int (x_8 + x_11))], [], h_11)) rfl ?_
      refine gw_le (L' := [some (.ref r0), some (.int x1), some (.int x2), some (.int x3), none]) (gm_le_k _ (gm_le_k _ (gm_le_k _ (gm_le_k _ (gm_le_n _ gm_le_nil))))) ?_
      exact ok240_68 c d Post K13 hK13 _ _ _ _ _ w
def wl240_13 (c : gx) (d : Nat) (Post : Option Value → gm_H → Prop) : Nat → Nat → Int32 → Int32 → Int32 → gm_H → Prop
  | 0 => fun _ _ _ _ _ => False
  | n + 1 => wb240_13 c d Post (wl240_13 c d Post n)
theorem okl240_13 (c : gx) (d : Nat) (Post : Option Value → gm_H → Prop) : ∀ (n : Nat) (r0 : Nat) (x1 : Int32) (x2 : Int32) (x3 : Int32) (h : gm_H), wl240_13 c d Post n r0 x1 x2 x3 h → gV c d 240 (13, [some (.ref r0), some (.int x1), some (.int x2), some (.int x3), none], [], h) Post
  | 0, _, _, _, _, _, w => w.elim
  | n + 1, r0, x1, x2, x3, h, w => okb240_13 c d Post (wl240_13 c d Post n) (okl240_13 c d Post n) r0 x1 x2 x3 h w
/-- CommandByTurnsModel.halves()I -/
def wm240 (c : gx) (d : Nat) (Post : Option Value → gm_H → Prop) (r0 : Nat) (h : gm_H) : Prop :=
  ∃ fs1 : List Value, gm_get h r0 = some (.inr (10, fs1)) ∧ 13 < fs1.length ∧ ∀ h_1 : gm_H, h_1 = gm_put h r0 (.inr (10, fs1.set 13 (.int 0))) → ∃ n, wl240_13 c d Post n r0 0 (-1000000) 0 h_1
theorem okm240 (c : gx) (d : Nat) (Post : Option Value → gm_H → Prop) (r0 : Nat) (h : gm_H) (w : wm240 c d Post r0 h) : gE c (d + 1) 240 [.ref r0] h Post := by
  have hk : ∀ pc i, gm_find gk_240 pc = some i → gm_code (gt_T c.1 c.2.1 c.2.2.1) 240 pc = some i := fun _ _ z => z
  unfold wm240 at w
  refine ge_of (by decide) (Nat.le_of_ble_eq_true rfl) ?_
  show gV c d 240 (0, [some (.ref r0), none, none, none, none], [], h) Post
  unfold gV
  refine gw_pst hk 2 (st' := (2, [some (.ref r0), none, none, none, none], [.int 0, .ref r0], h)) rfl ?_
  obtain ⟨fs1, e1, l1, w⟩ := w
  refine gw_pf (hk _ _ rfl) e1 l1 rfl ?_
  obtain ⟨h_1, eh1⟩ : ∃ z, z = gm_put h r0 (.inr (10, fs1.set 13 (.int 0))) := ⟨_, rfl⟩
  rw [← eh1]
  replace w := w h_1 eh1
  refine gw_pst hk 6 (st' := (13, [some (.ref r0), some (.int 0), some (.int (-1000000)), some (.int 0), none], [], h_1)) rfl ?_
  obtain ⟨n, w⟩ := w
  exact okl240_13 c d Post n _ _ _ _ _ w
