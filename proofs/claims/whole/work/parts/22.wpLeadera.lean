/-! What must hold for a run to end with Post: by program (wip/whole/gen_wp.py). -/
def w28_27 (c : gx) (d : Nat) (Post : Option Value → gm_H → Prop) (x1 : Int32) (h : gm_H) : Prop :=
  Post (some (.int x1)) h
theorem ok28_27 (c : gx) (d : Nat) (Post : Option Value → gm_H → Prop)  (x1 : Int32) (h : gm_H) (w : w28_27 c d Post x1 h) : gV c d 28 (27, [none, some (.int x1)], [], h) Post := by
  have hk : ∀ pc i, gm_find gk_28 pc = some i → gm_code (gt_T c.1 c.2.1 c.2.2.1) 28 pc = some i := fun _ _ z => z
  unfold w28_27 at w
  unfold gV
  refine gw_pst hk 1 (st' := (28, [none, some (.int x1)], [.int x1], h)) rfl ?_
  exact gw_ret (hk _ _ rfl) rfl w
def w28_47 (c : gx) (d : Nat) (Post : Option Value → gm_H → Prop) (xs0 : Int32) (h : gm_H) : Prop :=
  Post (some (.int xs0)) h
theorem ok28_47 (c : gx) (d : Nat) (Post : Option Value → gm_H → Prop)  (xs0 : Int32) (h : gm_H) (w : w28_47 c d Post xs0 h) : gV c d 28 (47, [none, none], [.int xs0], h) Post := by
  have hk : ∀ pc i, gm_find gk_28 pc = some i → gm_code (gt_T c.1 c.2.1 c.2.2.1) 28 pc = some i := fun _ _ z => z
  unfold w28_47 at w
  unfold gV
  exact gw_ret (hk _ _ rfl) rfl w
def wb28_2 (c : gx) (d : Nat) (Post : Option Value → gm_H → Prop) (K2 : Nat → Int32 → gm_H → Prop) (r0 : Nat) (x1 : Int32) (h : gm_H) : Prop :=
  ∃ x_1 : Int32, gm_fld h r0 7 1 = some (.int x_1) ∧ ((x_1 ≤ x1 → ∃ x_3 : Int32, gm_fld h r0 7 1 = some (.int x_3) ∧ ((x_3 = 0 → w28_47 c d Post 0 h) ∧ (¬ (x_3 = 0) → w28_47 c d Post (-1) h))) ∧ (¬ (x_1 ≤ x1) → ((x1 = 20 → w28_27 c d Post x1 h) ∧ (¬ (x1 = 20) → (∃ fs6, gm_get h r0 = some (.inr (7, fs6))) ∧ gE c d 61 [.ref r0, .int x1] h (fun v6 h_6 => ∃ x_6 : Int32, v6 = some (.int x_6) ∧ gE c d 60 [.int x_6] h_6 (fun v7 h_7 => ∃ x_7 : Int32, v7 = some (.int x_7) ∧ ((x_7 = 0 → w28_27 c d Post x1 h_7) ∧ (¬ (x_7 = 0) → K2 r0 (x1 + 1) h_7))))))))
theorem okb28_2 (c : gx) (d : Nat) (Post : Option Value → gm_H → Prop) (K2 : Nat → Int32 → gm_H → Prop)  (hK2 : ∀ (r0 : Nat) (x1 : Int32) (h : gm_H), K2 r0 x1 h → gV c d 28 (2, [some (.ref r0), some (.int x1)], [], h) Post) (r0 : Nat) (x1 : Int32) (h : gm_H) (w : wb28_2 c d Post K2 r0 x1 h) : gV c d 28 (2, [some (.ref r0), some (.int x1)], [], h) Post := by
  have hk : ∀ pc i, gm_find gk_28 pc = some i → gm_code (gt_T c.1 c.2.1 c.2.2.1) 28 pc = some i := fun _ _ z => z
  unfold wb28_2 at w
  unfold gV
  refine gw_pst hk 2 (st' := (4, [some (.ref r0), some (.int x1)], [.ref r0, .int x1], h)) rfl ?_
  obtain ⟨x_1, e1, w⟩ := w
  refine gw_gf (hk _ _ rfl) e1 ?_
  refine gw_br (c := x_1 ≤ x1) (a := (35, [some (.ref r0), some (.int x1)], [], h)) (b := (10, [some (.ref r0), some (.int x1)], [], h)) (hk _ _ rfl) rfl ⟨fun z2 => ?_, fun z2 => ?_⟩
  · replace w := w.1 z2
    refine gw_pst hk 1 (st' := (36, [some (.ref r0), some (.int x1)], [.ref r0], h)) rfl ?_
    obtain ⟨x_3, e3, w⟩ := w
    refine gw_gf (hk _ _ rfl) e3 ?_
    refine gw_br (c := x_3 = 0) (a := (42, [some (.ref r0), some (.int x1)], [], h)) (b := (46, [some (.ref r0), some (.int x1)], [], h)) (hk _ _ rfl) rfl ⟨fun z4 => ?_, fun z4 => ?_⟩
    · replace w := w.1 z4
      refine gw_pst hk 2 (st' := (47, [some (.ref r0), some (.int x1)], [.int 0], h)) rfl ?_
      refine gw_le (L' := [none, none]) (gm_le_n _ (gm_le_n _ gm_le_nil)) ?_
      exact ok28_47 c d Post _ _ w
    · replace w := w.2 z4
      refine gw_pst hk 1 (st' := (47, [some (.ref r0), some (.int x1)], [.int (-1)], h)) rfl ?_
      refine gw_le (L' := [none, none]) (gm_le_n _ (gm_le_n _ gm_le_nil)) ?_
      exact ok28_47 c d Post _ _ w
  · replace w := w.2 z2
    refine gw_pst hk 2 (st' := (13, [some (.ref r0), some (.int x1)], [.int 20, .int x1], h)) rfl ?_
    refine gw_br (c := x1 = 20) (a := (27, [some (.ref r0), some (.int x1)], [], h)) (b := (16, [some (.ref r0), some (.int x1)], [], h)) (hk _ _ rfl) rfl ⟨fun z5 => ?_, fun z5 => ?_⟩
    · replace w := w.1 z5
      refine gw_le (L' := [none, some (.int x1)]) (gm_le_n _ (gm_le_k _ gm_le_nil)) ?_
      exact ok28_27 c d Post _ _ w
    · replace w := w.2 z5
      refine gw_pst hk 2 (st' := (18, [some (.ref r0), some (.int x1)], [.int x1, .ref r0], h)) rfl ?_
      obtain ⟨⟨fs6, e6⟩, w⟩ := w
      refine gw_call (jj := 61) (As := [.ref r0, .int x1]) (rest := []) (hk _ _ rfl) (fun _ => rfl) rfl rfl (Nat.le_of_ble_eq_true rfl) (gm_rcv_v rfl e6 rfl) ?_
      refine ge_imp w (fun v6 h_6 w => ?_)
      obtain ⟨x_6, rfl, w⟩ := w
      show gV c d 28 (21, [some (.ref r0), some (.int x1)], [.int x_6], h_6) Post
      refine gw_call (jj := 60) (As := [.int x_6]) (rest := []) (hk _ _ rfl) (fun _ => rfl) rfl rfl (Nat.le_of_ble_eq_true rfl) rfl ?_
      refine ge_imp w (fun v7 h_7 w => ?_)
      obtain ⟨x_7, rfl, w⟩ := w
      show gV c d 28 (24, [some (.ref r0), some (.int x1)], [.int x_7], h_7) Post
      refine gw_br (c := x_7 = 0) (a := (27, [some (.ref r0), some (.int x1)], [], h_7)) (b := (29, [some (.ref r0), some (.int x1)], [], h_7)) (hk _ _ rfl) rfl ⟨fun z8 => ?_, fun z8 => ?_⟩
      · replace w := w.1 z8
        refine gw_le (L' := [none, some (.int x1)]) (gm_le_n _ (gm_le_k _ gm_le_nil)) ?_
        exact ok28_27 c d Post _ _ w
      · replace w := w.2 z8
        refine gw_pst hk 2 (st' := (2, [some (.ref r0), some (.int (x1 + 1))], [], h_7)) rfl ?_
        exact hK2 _ _ _ w
def wl28_2 (c : gx) (d : Nat) (Post : Option Value → gm_H → Prop) : Nat → Nat → Int32 → gm_H → Prop
  | 0 => fun _ _ _ => False
  | n + 1 => wb28_2 c d Post (wl28_2 c d Post n)
theorem okl28_2 (c : gx) (d : Nat) (Post : Option Value → gm_H → Prop) : ∀ (n : Nat) (r0 : Nat) (x1 : Int32) (h : gm_H), wl28_2 c d Post n r0 x1 h → gV c d 28 (2, [some (.ref r0), some (.int x1)], [], h) Post
  | 0, _, _, _, w => w.elim
  | n + 1, r0, x1, h, w => okb28_2 c d Post (wl28_2 c d Post n) (okl28_2 c d Post n) r0 x1 h w
/-- CommandByTurns$Leader.wishMisreadAt(LCommandByTurns$Text;)I -/
def wm28 (c : gx) (d : Nat) (Post : Option Value → gm_H → Prop) (r0 : Nat) (h : gm_H) : Prop :=
  ∃ n, wl28_2 c d Post n r0 0 h
theorem okm28 (c : gx) (d : Nat) (Post : Option Value → gm_H → Prop) (r0 : Nat) (h : gm_H) (w : wm28 c d Post r0 h) : gE c (d + 1) 28 [.ref r0] h Post := by
  have hk : ∀ pc i, gm_find gk_28 pc = some i → gm_code (gt_T c.1 c.2.1 c.2.2.1) 28 pc = some i := fun _ _ z => z
  unfold wm28 at w
  refine ge_of (by decide) (Nat.le_of_ble_eq_true rfl) ?_
  show gV c d 28 (0, [some (.ref r0), none], [], h) Post
  unfold gV
  refine gw_pst hk 2 (st' := (2, [some (.ref r0), some (.int 0)], [], h)) rfl ?_
  obtain ⟨n, w⟩ := w
  exact okl28_2 c d Post n _ _ _ w
def wb29_23 (c : gx) (d : Nat) (Post : Option Value → gm_H → Prop) (K23 : Nat → Nat → Int32 → gm_H → Prop) (r0 : Nat) (r1 : Nat) (x3 : Int32) (h : gm_H) : Prop :=
  ∃ x_1 : Int32, gm_fld h r0 2 3 = some (.int x_1) ∧ ((x_1 ≤ x3 → Post none h) ∧ (¬ (x_1 ≤ x3) → ∃ q_3 : Nat, gm_fld h r0 2 2 = some (.ref q_3) ∧ (∃ fs4, gm_get h r1 = some (.inr (7, fs4))) ∧ gE c d 61 [.ref r1, .int x3] h (fun v4 h_4 => ∃ x_4 : Int32, v4 = some (.int x_4) ∧ ∃ (n5 : Nat) (f5 : Nat → Int32), gm_get h_4 q_3 = some (.inl (0, n5, .inl f5)) ∧ vp_in x3 n5 ∧ ∀ h_5 : gm_H, h_5 = gm_put h_4 q_3 (.inl (0, n5, .inl (upd f5 (x3 : Int32).toNatClampNeg (vp_nar .int (x_4 - 48))))) → K23 r0 r1 (x3 + 1) h_5)))
theorem okb29_23 (c : gx) (d : Nat) (Post : Option Value → gm_H → Prop) (K23 : Nat → Nat → Int32 → gm_H → Prop)  (hK23 : ∀ (r0 : Nat) (r1 : Nat) (x3 : Int32) (h : gm_H), K23 r0 r1 x3 h → gV c d 29 (23, [some (.ref r0), some (.ref r1), none, some (.int x3)], [], h) Post) (r0 : Nat) (r1 : Nat) (x3 : Int32) (h : gm_H) (w : wb29_23 c d Post K23 r0 r1 x3 h) : gV c d 29 (23, [some (.ref r0), some (.ref r1), none, some (.int x3)], [], h) Post := by
  have hk : ∀ pc i, gm_find gk_29 pc = some i → gm_code (gt_T c.1 c.2.1 c.2.2.1) 29 pc = some i := fun _ _ z => z
  unfold wb29_23 at w
  unfold gV
  refine gw_pst hk 2 (st' := (25, [some (.ref r0), some (.ref r1), none, some (.int x3)], [.ref r0, .int x3], h)) rfl ?_
  obtain ⟨x_1, e1, w⟩ := w
  refine gw_gf (hk _ _ rfl) e1 ?_
  refine gw_br (c := x_1 ≤ x3) (a := (51, [some (.ref r0), some (.ref r1), none, some (.int x3)], [], h)) (b := (31, [some (.ref r0), some (.ref r1), none, some (.int x3)], [], h)) (hk _ _ rfl) rfl ⟨fun z2 => ?_, fun z2 => ?_⟩
  · replace w := w.1 z2
    exact gw_ret (hk _ _ rfl) rfl w
  · replace w := w.2 z2
    refine gw_pst hk 1 (st' := (32, [some (.ref r0), some (.ref r1), none, some (.int x3)], [.ref r0], h)) rfl ?_
    obtain ⟨q_3, e3, w⟩ := w
    refine gw_gf (hk _ _ rfl) e3 ?_
    refine gw_pst hk 3 (st' := (38, [some (.ref r0), some (.ref r1), none, some (.int x3)], [.int x3, .ref r1, .int x3, .ref q_3], h)) rfl ?_
    obtain ⟨⟨fs4, e4⟩, w⟩ := w
    refine gw_call (jj := 61) (As := [.ref r1, .int x3]) (rest := [.int x3, .ref q_3]) (hk _ _ rfl) (fun _ => rfl) rfl rfl (Nat.le_of_ble_eq_true rfl) (gm_rcv_v rfl e4 rfl) ?_
    refine ge_imp w (fun v4 h_4 w => ?_)
    obtain ⟨x_4, rfl, w⟩ := w
    show gV c d 29 (41, [some (.ref r0), some (.ref r1), none, some (.int x3)], [.int x_4, .int x3, .ref q_3], h_4) Post
    refine gw_pst hk 2 (st' := (44, [some (.ref r0), some (.ref r1), none, some (.int x3)], [.int (x_4 - 48), .int x3, .ref q_3], h_4)) rfl ?_
    obtain ⟨n5, f5, e5, b5, w⟩ := w
    refine gw_ast (hk _ _ rfl) (Or.inl ⟨rfl, rfl, rfl⟩) e5 b5 ?_
    obtain ⟨h_5, eh5⟩ : ∃ z, z = gm_put h_4 q_3 (.inl (0, n5, .inl (upd f5 (x3 : Int32).toNatClampNeg (vp_nar .int (x_4 - 48))))) := ⟨_, rfl⟩
    rw [← eh5]
    replace w := w h_5 eh5
    refine gw_pst hk 2 (st' := (23, [some (.ref r0), some (.ref r1), none, some (.int (x3 + 1))], [], h_5)) rfl ?_
    exact hK23 _ _ _ _ w
def wl29_23 (c : gx) (d : Nat) (Post : Option Value → gm_H → Prop) : Nat → Nat → Nat → Int32 → gm_H → Prop
  | 0 => fun _ _ _ _ => False
  | n + 1 => wb29_23 c d Post (wl29_23 c d Post n)
theorem okl29_23 (c : gx) (d : Nat) (Post : Option Value → gm_H → Prop) : ∀ (n : Nat) (r0 : Nat) (r1 : Nat) (x3 : Int32) (h : gm_H), wl29_23 c d Post n r0 r1 x3 h → gV c d 29 (23, [some (.ref r0), some (.ref r1), none, some (.int x3)], [], h) Post
  | 0, _, _, _, _, w => w.elim
  | n + 1, r0, r1, x3, h, w => okb29_23 c d Post (wl29_23 c d Post n) (okl29_23 c d Post n) r0 r1 x3 h w
/-- CommandByTurns$Leader.readWishes(LCommandByTurns$Text;I)V -/
def wm29 (c : gx) (d : Nat) (Post : Option Value → gm_H → Prop) (r0 : Nat) (r1 : Nat) (x2 : Int32) (h : gm_H) : Prop :=
  ∃ x_1 : Int32, gm_fld h r1 7 1 = some (.int x_1) ∧ ∃ q_2 : Nat, gm_fld h r0 2 2 = some (.ref q_2) ∧ ∃ (n3 : Nat) (f3 : Nat → Int32), gm_get h q_2 = some (.inl (0, n3, .inl f3)) ∧ ∃ fs4 : List Value, gm_get h r0 = some (.inr (2, fs4)) ∧ 3 < fs4.length ∧ ∀ h_4 : gm_H, h_4 = gm_put h r0 (.inr (2, fs4.set 3 (.int (if (Int32.ofNat n3) < x_1 then (Int32.ofNat n3) else x_1)))) → ∃ fs5 : List Value, gm_get h_4 r0 = some (.inr (2, fs5)) ∧ 4 < fs5.length ∧ ∀ h_5 : gm_H, h_5 = gm_put h_4 r0 (.inr (2, fs5.set 4 (.int x2))) → ∃ n, wl29_23 c d Post n r0 r1 0 h_5
theorem okm29 (c : gx) (d : Nat) (Post : Option Value → gm_H → Prop) (r0 : Nat) (r1 : Nat) (x2 : Int32) (h : gm_H) (w : wm29 c d Post r0 r1 x2 h) : gE c (d + 1) 29 [.ref r0, .ref r1, .int x2] h Post := by
  have hk : ∀ pc i, gm_find gk_29 pc = some i → gm_code (gt_T c.1 c.2.1 c.2.2.1) 29 pc = some i := fun _ _ z => z
  unfold wm29 at w
  refine ge_of (by decide) (Nat.le_of_ble_eq_true rfl) ?_
  show gV c d 29 (0, [some (.ref r0), some (.ref r1), some (.int x2), none], [], h) Post
  unfold gV
  refine gw_pst hk 2 (st' := (2, [some (.ref r0), some (.ref r1), some (.int x2), none], [.ref r1, .ref r0], h)) rfl ?_
  obtain ⟨x_1, e1, w⟩ := w
  refine gw_gf (hk _ _ rfl) e1 ?_
  refine gw_pst hk 1 (st' := (6, [some (.ref r0), some (.ref r1), some (.int x2), none], [.ref r0, .int x_1, .ref r0], h)) rfl ?_
  obtain ⟨q_2, e2, w⟩ := w
  refine gw_gf (hk _ _ rfl) e2 ?_
  obtain ⟨n3, f3, e3, w⟩ := w
  refine gw_alen (hk _ _ rfl) e3 (by decide) ?_
  refine gw_pst hk 1 (st' := (13, [some (.ref r0), some (.ref r1), some (.int x2), none], [.int (if (Int32.ofNat n3) < x_1 then (Int32.ofNat n3) else x_1), .ref r0], h)) rfl ?_
  obtain ⟨fs4, e4, l4, w⟩ := w
  refine gw_pf (hk _ _ rfl) e4 l4 rfl ?_
  obtain ⟨h_4, eh4⟩ : ∃ z, z = gm_put h r0 (.inr (2, fs4.set 3 (.int (if (Int32.ofNat n3) < x_1 then (Int32.ofNat n3) else x_1)))) := ⟨_, rfl⟩
  rw [← eh4]
  replace w := w h_4 eh4
  refine gw_pst hk 2 (st' := (18, [some (.ref r0), some (.ref r1), some (.int x2), none], [.int x2, .ref r0], h_4)) rfl ?_
  obtain ⟨fs5, e5, l5, w⟩ := w
  refine gw_pf (hk _ _ rfl) e5 l5 rfl ?_
  obtain ⟨h_5, eh5⟩ : ∃ z, z = gm_put h_4 r0 (.inr (2, fs5.set 4 (.int x2))) := ⟨_, rfl⟩
  rw [← eh5]
  replace w := w h_5 eh5
  refine gw_pst hk 2 (st' := (23, [some (.ref r0), some (.ref r1), some (.int x2), some (.int 0)], [], h_5)) rfl ?_
  refine gw_le (L' := [some (.ref r0), some (.ref r1), none, some (.int 0)]) (gm_le_k _ (gm_le_k _ (gm_le_n _ (gm_le_k _ gm_le_nil)))) ?_
  obtain ⟨n, w⟩ := w
  exact okl29_23 c d Post n _ _ _ _ w
def w30_38 (c : gx) (d : Nat) (Post : Option Value → gm_H → Prop) (xs0 : Int32) (h : gm_H) : Prop :=
  Post (some (.int xs0)) h
theorem ok30_38 (c : gx) (d : Nat) (Post : Option Value → gm_H → Prop)  (xs0 : Int32) (h : gm_H) (w : w30_38 c d Post xs0 h) : gV c d 30 (38, [none, none, none], [.int xs0], h) Post := by
  have hk : ∀ pc i, gm_find gk_30 pc = some i → gm_code (gt_T c.1 c.2.1 c.2.2.1) 30 pc = some i := fun _ _ z => z
  unfold w30_38 at w
  unfold gV
  exact gw_ret (hk _ _ rfl) rfl w
def w30_37 (c : gx) (d : Nat) (Post : Option Value → gm_H → Prop)  (h : gm_H) : Prop :=
  w30_38 c d Post 0 h
theorem ok30_37 (c : gx) (d : Nat) (Post : Option Value → gm_H → Prop)   (h : gm_H) (w : w30_37 c d Post  h) : gV c d 30 (37, [none, none, none], [], h) Post := by
  have hk : ∀ pc i, gm_find gk_30 pc = some i → gm_code (gt_T c.1 c.2.1 c.2.2.1) 30 pc = some i := fun _ _ z => z
  unfold w30_37 at w
  unfold gV
  refine gw_pst hk 1 (st' := (38, [none, none, none], [.int 0], h)) rfl ?_
  exact ok30_38 c d Post _ _ w
/-- CommandByTurns$Leader.wishFor(I)I -/
def wm30 (c : gx) (d : Nat) (Post : Option Value → gm_H → Prop) (r0 : Nat) (x1 : Int32) (h : gm_H) : Prop :=
  ∃ x_1 : Int32, gm_fld h r0 2 4 = some (.int x_1) ∧ (((x1 - x_1) < 0 → w30_37 c d Post h) ∧ (¬ ((x1 - x_1) < 0) → ∃ x_3 : Int32, gm_fld h r0 2 3 = some (.int x_3) ∧ ((x_3 ≤ (x1 - x_1) → w30_37 c d Post h) ∧ (¬ (x_3 ≤ (x1 - x_1)) → ∃ q_5 : Nat, gm_fld h r0 2 2 = some (.ref q_5) ∧ ∃ (n6 : Nat) (f6 : Nat → Int32), gm_get h q_5 = some (.inl (0, n6, .inl f6)) ∧ (((Int32.ofNat n6) ≤ (x1 - x_1) → w30_37 c d Post h) ∧ (¬ ((Int32.ofNat n6) ≤ (x1 - x_1)) → ∃ q_8 : Nat, gm_fld h r0 2 2 = some (.ref q_8) ∧ ∃ (n9 : Nat) (f9 : Nat → Int32), gm_get h q_8 = some (.inl (0, n9, .inl f9)) ∧ vp_in (x1 - x_1) n9 ∧ w30_38 c d Post (f9 (x1 - x_1 : Int32).toNatClampNeg) h))))))
theorem okm30 (c : gx) (d : Nat) (Post : Option Value → gm_H → Prop) (r0 : Nat) (x1 : Int32) (h : gm_H) (w : wm30 c d Post r0 x1 h) : gE c (d + 1) 30 [.ref r0, .int x1] h Post := by
  have hk : ∀ pc i, gm_find gk_30 pc = some i → gm_code (gt_T c.1 c.2.1 c.2.2.1) 30 pc = some i := fun _ _ z => z
  unfold wm30 at w
  refine ge_of (by decide) (Nat.le_of_ble_eq_true rfl) ?_
  show gV c d 30 (0, [some (.ref r0), some (.int x1), none], [], h) Post
  unfold gV
  refine gw_pst hk 2 (st' := (2, [some (.ref r0), some (.int x1), none], [.ref r0, .int x1], h)) rfl ?_
  obtain ⟨x_1, e1, w⟩ := w
  refine gw_gf (hk _ _ rfl) e1 ?_
  refine gw_pst hk 3 (st' := (8, [some (.ref r0), some (.int x1), some (.int (x1 - x_1))], [.int (x1 - x_1)], h)) rfl ?_
  refine gw_br (c := (x1 - x_1) < 0) (a := (37, [some (.ref r0), some (.int x1), some (.int (x1 - x_1))], [], h)) (b := (11, [some (.ref r0), some (.int x1), some (.int (x1 - x_1))], [], h)) (hk _ _ rfl) rfl ⟨fun z2 => ?_, fun z2 => ?_⟩
  · replace w := w.1 z2
    refine gw_le (L' := [none, none, none]) (gm_le_n _ (gm_le_n _ (gm_le_n _ gm_le_nil))) ?_
    exact ok30_37 c d Post _ w
  · replace w := w.2 z2
    refine gw_pst hk 2 (st' := (13, [some (.ref r0), some (.int x1), some (.int (x1 - x_1))], [.ref r0, .int (x1 - x_1)], h)) rfl ?_
    obtain ⟨x_3, e3, w⟩ := w
    refine gw_gf (hk _ _ rfl) e3 ?_
    refine gw_br (c := x_3 ≤ (x1 - x_1)) (a := (37, [some (.ref r0), some (.int x1), some (.int (x1 - x_1))], [], h)) (b := (19, [some (.ref r0), some (.int x1), some (.int (x1 - x_1))], [], h)) (hk _ _ rfl) rfl ⟨fun z4 => ?_, fun z4 => ?_⟩
    · replace w := w.1 z4
      refine gw_le (L' := [none, none, none]) (gm_le_n _ (gm_le_n _ (gm_le_n _ gm_le_nil))) ?_
      exact ok30_37 c d Post _ w
    · replace w := w.2 z4
      refine gw_pst hk 2 (st' := (21, [some (.ref r0), some (.int x1), some (.int (x1 - x_1))], [.ref r0, .int (x1 - x_1)], h)) rfl ?_
      obtain ⟨q_5, e5, w⟩ := w
      refine gw_gf (hk _ _ rfl) e5 ?_
      obtain ⟨n6, f6, e6, w⟩ := w
      refine gw_alen (hk _ _ rfl) e6 (by decide) ?_
      refine gw_br (c := (Int32.ofNat n6) ≤ (x1 - x_1)) (a := (37, [some (.ref r0), some (.int x1), some (.int (x1 - x_1))], [], h)) (b := (28, [some (.ref r0), some (.int x1), some (.int (x1 - x_1))], [], h)) (hk _ _ rfl) rfl ⟨fun z7 => ?_, fun z7 => ?_⟩
      · replace w := w.1 z7
        refine gw_le (L' := [none, none, none]) (gm_le_n _ (gm_le_n _ (gm_le_n _ gm_le_nil))) ?_
        exact ok30_37 c d Post _ w
      · replace w := w.2 z7
        refine gw_pst hk 1 (st' := (29, [some (.ref r0), some (.int x1), some (.int (x1 - x_1))], [.ref r0], h)) rfl ?_
        obtain ⟨q_8, e8, w⟩ := w
        refine gw_gf (hk _ _ rfl) e8 ?_
        refine gw_pst hk 1 (st' := (33, [some (.ref r0), some (.int x1), some (.int (x1 - x_1))], [.int (x1 - x_1), .ref q_8], h)) rfl ?_
        obtain ⟨n9, f9, e9, b9, w⟩ := w
        refine gw_ald (hk _ _ rfl) (Or.inl ⟨rfl, rfl⟩) e9 b9 ?_
        refine gw_pst hk 1 (st' := (38, [some (.ref r0), some (.int x1), some (.int (x1 - x_1))], [.int (f9 (x1 - x_1 : Int32).toNatClampNeg)], h)) rfl ?_
        refine gw_le (L' := [none, none, none]) (gm_le_n _ (gm_le_n _ (gm_le_n _ gm_le_nil))) ?_
        exact ok30_38 c d Post _ _ w
/-- CommandByTurns$Leader.stride()I -/
def wm31 (c : gx) (d : Nat) (Post : Option Value → gm_H → Prop) (r0 : Nat) (h : gm_H) : Prop :=
  ∃ x_1 : Int32, gm_fld h r0 2 0 = some (.int x_1) ∧ Post (some (.int ((x_1 / 3) + 1))) h
theorem okm31 (c : gx) (d : Nat) (Post : Option Value → gm_H → Prop) (r0 : Nat) (h : gm_H) (w : wm31 c d Post r0 h) : gE c (d + 1) 31 [.ref r0] h Post := by
  have hk : ∀ pc i, gm_find gk_31 pc = some i → gm_code (gt_T c.1 c.2.1 c.2.2.1) 31 pc = some i := fun _ _ z => z
  unfold wm31 at w
  refine ge_of (by decide) (Nat.le_of_ble_eq_true rfl) ?_
  show gV c d 31 (0, [some (.ref r0)], [], h) Post
  unfold gV
  refine gw_pst hk 1 (st' := (1, [some (.ref r0)], [.ref r0], h)) rfl ?_
  obtain ⟨x_1, e1, w⟩ := w
  refine gw_gf (hk _ _ rfl) e1 ?_
  refine gw_pst hk 1 (st' := (5, [some (.ref r0)], [.int 3, .int x_1], h)) rfl ?_
  refine gw_idiv (hk _ _ rfl) (by decide) ?_ rfl
  refine gw_pst hk 2 (st' := (8, [some (.ref r0)], [.int ((x_1 / 3) + 1)], h)) rfl ?_
  exact gw_ret (hk _ _ rfl) rfl w
