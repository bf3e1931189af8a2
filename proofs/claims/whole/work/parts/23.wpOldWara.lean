/-! What must hold for a run to end with Post: by program (wip/whole/gen_wp.py). -/
def w33_32 (c : gx) (d : Nat) (Post : Option Value → gm_H → Prop) (r0 : Nat) (h : gm_H) : Prop :=
  ∃ x_1 : Int32, gm_fld h r0 3 1 = some (.int x_1) ∧ gE c d 266 [.int x_1] h (fun v2 h_2 => ∃ x_2 : Int32, v2 = some (.int x_2) ∧ Post (some (.int x_2)) h_2)
theorem ok33_32 (c : gx) (d : Nat) (Post : Option Value → gm_H → Prop)  (r0 : Nat) (h : gm_H) (w : w33_32 c d Post r0 h) : gV c d 33 (32, [some (.ref r0), none, none], [], h) Post := by
  have hk : ∀ pc i, gm_find gk_33 pc = some i → gm_code (gt_T c.1 c.2.1 c.2.2.1) 33 pc = some i := fun _ _ z => z
  unfold w33_32 at w
  unfold gV
  refine gw_pst hk 1 (st' := (33, [some (.ref r0), none, none], [.ref r0], h)) rfl ?_
  obtain ⟨x_1, e1, w⟩ := w
  refine gw_gf (hk _ _ rfl) e1 ?_
  refine gw_call (jj := 266) (As := [.int x_1]) (rest := []) (hk _ _ rfl) (fun _ => rfl) rfl rfl (Nat.le_of_ble_eq_true rfl) rfl ?_
  refine ge_imp w (fun v2 h_2 w => ?_)
  obtain ⟨x_2, rfl, w⟩ := w
  show gV c d 33 (39, [some (.ref r0), none, none], [.int x_2], h_2) Post
  exact gw_ret (hk _ _ rfl) rfl w
/-- CommandByTurns$OldWar.note(II)I -/
def wm33 (c : gx) (d : Nat) (Post : Option Value → gm_H → Prop) (r0 : Nat) (x1 : Int32) (x2 : Int32) (h : gm_H) : Prop :=
  ((x1 < 0 → w33_32 c d Post r0 h) ∧ (¬ (x1 < 0) → ∃ q_2 : Nat, gm_fld h r0 3 0 = some (.ref q_2) ∧ ∃ (n3 : Nat) (f3 : Nat → Int32), gm_get h q_2 = some (.inl (0, n3, .inl f3)) ∧ (((Int32.ofNat n3) ≤ x1 → w33_32 c d Post r0 h) ∧ (¬ ((Int32.ofNat n3) ≤ x1) → ∃ q_5 : Nat, gm_fld h r0 3 0 = some (.ref q_5) ∧ ∃ (n6 : Nat) (f6 : Nat → Int32), gm_get h q_5 = some (.inl (0, n6, .inl f6)) ∧ vp_in x1 n6 ∧ ∀ h_6 : gm_H, h_6 = gm_put h q_5 (.inl (0, n6, .inl (upd f6 (x1 : Int32).toNatClampNeg (vp_nar .int x2)))) → ∃ x_7 : Int32, gm_fld h_6 r0 3 1 = some (.int x_7) ∧ ∃ fs8 : List Value, gm_get h_6 r0 = some (.inr (3, fs8)) ∧ 1 < fs8.length ∧ ∀ h_8 : gm_H, h_8 = gm_put h_6 r0 (.inr (3, fs8.set 1 (.int (x_7 ||| (1 <<< (x1 &&& 31)))))) → w33_32 c d Post r0 h_8))))
theorem okm33 (c : gx) (d : Nat) (Post : Option Value → gm_H → Prop) (r0 : Nat) (x1 : Int32) (x2 : Int32) (h : gm_H) (w : wm33 c d Post r0 x1 x2 h) : gE c (d + 1) 33 [.ref r0, .int x1, .int x2] h Post := by
  have hk : ∀ pc i, gm_find gk_33 pc = some i → gm_code (gt_T c.1 c.2.1 c.2.2.1) 33 pc = some i := fun _ _ z => z
  unfold wm33 at w
  refine ge_of (by decide) (Nat.le_of_ble_eq_true rfl) ?_
  show gV c d 33 (0, [some (.ref r0), some (.int x1), some (.int x2)], [], h) Post
  unfold gV
  refine gw_pst hk 1 (st' := (1, [some (.ref r0), some (.int x1), some (.int x2)], [.int x1], h)) rfl ?_
  refine gw_br (c := x1 < 0) (a := (32, [some (.ref r0), some (.int x1), some (.int x2)], [], h)) (b := (4, [some (.ref r0), some (.int x1), some (.int x2)], [], h)) (hk _ _ rfl) rfl ⟨fun z1 => ?_, fun z1 => ?_⟩
  · replace w := w.1 z1
    refine gw_le (L' := [some (.ref r0), none, none]) (gm_le_k _ (gm_le_n _ (gm_le_n _ gm_le_nil))) ?_
    exact ok33_32 c d Post _ _ w
  · replace w := w.2 z1
    refine gw_pst hk 2 (st' := (6, [some (.ref r0), some (.int x1), some (.int x2)], [.ref r0, .int x1], h)) rfl ?_
    obtain ⟨q_2, e2, w⟩ := w
    refine gw_gf (hk _ _ rfl) e2 ?_
    obtain ⟨n3, f3, e3, w⟩ := w
    refine gw_alen (hk _ _ rfl) e3 (by decide) ?_
    refine gw_br (c := (Int32.ofNat n3) ≤ x1) (a := (32, [some (.ref r0), some (.int x1), some (.int x2)], [], h)) (b := (13, [some (.ref r0), some (.int x1), some (.int x2)], [], h)) (hk _ _ rfl) rfl ⟨fun z4 => ?_, fun z4 => ?_⟩
    · replace w := w.1 z4
      refine gw_le (L' := [some (.ref r0), none, none]) (gm_le_k _ (gm_le_n _ (gm_le_n _ gm_le_nil))) ?_
      exact ok33_32 c d Post _ _ w
    · replace w := w.2 z4
      refine gw_pst hk 1 (st' := (14, [some (.ref r0), some (.int x1), some (.int x2)], [.ref r0], h)) rfl ?_
      obtain ⟨q_5, e5, w⟩ := w
      refine gw_gf (hk _ _ rfl) e5 ?_
      refine gw_pst hk 2 (st' := (19, [some (.ref r0), some (.int x1), some (.int x2)], [.int x2, .int x1, .ref q_5], h)) rfl ?_
      obtain ⟨n6, f6, e6, b6, w⟩ := w
      refine gw_ast (hk _ _ rfl) (Or.inl ⟨rfl, rfl, rfl⟩) e6 b6 ?_
      obtain ⟨h_6, eh6⟩ : ∃ z, z = gm_put h q_5 (.inl (0, n6, .inl (upd f6 (x1 : Int32).toNatClampNeg (vp_nar .int x2)))) := ⟨_, rfl⟩
      rw [← eh6]
      replace w := w h_6 eh6
      refine gw_pst hk 2 (st' := (22, [some (.ref r0), some (.int x1), some (.int x2)], [.ref r0, .ref r0], h_6)) rfl ?_
      obtain ⟨x_7, e7, w⟩ := w
      refine gw_gf (hk _ _ rfl) e7 ?_
      refine gw_pst hk 4 (st' := (29, [some (.ref r0), some (.int x1), some (.int x2)], [.int (x_7 ||| (1 <<< (x1 &&& 31))), .ref r0], h_6)) rfl ?_
      obtain ⟨fs8, e8, l8, w⟩ := w
      refine gw_pf (hk _ _ rfl) e8 l8 rfl ?_
      obtain ⟨h_8, eh8⟩ : ∃ z, z = gm_put h_6 r0 (.inr (3, fs8.set 1 (.int (x_7 ||| (1 <<< (x1 &&& 31)))))) := ⟨_, rfl⟩
      rw [← eh8]
      replace w := w h_8 eh8
      refine gw_le (L' := [some (.ref r0), none, none]) (gm_le_k _ (gm_le_n _ (gm_le_n _ gm_le_nil))) ?_
      exact ok33_32 c d Post _ _ w
def w34_69 (c : gx) (d : Nat) (Post : Option Value → gm_H → Prop) (K2 : Nat → Int32 → Int32 → Int32 → gm_H → Prop) (r0 : Nat) (x1 : Int32) (x2 : Int32) (x3 : Int32) (x5 : Int32) (xs0 : Int32) (h : gm_H) : Prop :=
  ∃ q_1 : Nat, gm_fld h r0 3 2 = some (.ref q_1) ∧ ∃ (n2 : Nat) (f2 : Nat → Int32), gm_get h q_1 = some (.inl (0, n2, .inl f2)) ∧ vp_in x3 n2 ∧ ∀ h_2 : gm_H, h_2 = gm_put h q_1 (.inl (0, n2, .inl (upd f2 (x3 : Int32).toNatClampNeg (vp_nar .int (x5 ||| xs0))))) → K2 r0 x1 x2 (x3 + 1) h_2
theorem ok34_69 (c : gx) (d : Nat) (Post : Option Value → gm_H → Prop) (K2 : Nat → Int32 → Int32 → Int32 → gm_H → Prop)  (hK2 : ∀ (r0 : Nat) (x1 : Int32) (x2 : Int32) (x3 : Int32) (h : gm_H), K2 r0 x1 x2 x3 h → gV c d 34 (2, [some (.ref r0), some (.int x1), some (.int x2), some (.int x3), none, none, none], [], h) Post) (r0 : Nat) (x1 : Int32) (x2 : Int32) (x3 : Int32) (x5 : Int32) (xs0 : Int32) (h : gm_H) (w : w34_69 c d Post K2 r0 x1 x2 x3 x5 xs0 h) : gV c d 34 (69, [some (.ref r0), some (.int x1), some (.int x2), some (.int x3), none, some (.int x5), none], [.int xs0], h) Post := by
  have hk : ∀ pc i, gm_find gk_34 pc = some i → gm_code (gt_T c.1 c.2.1 c.2.2.1) 34 pc = some i := fun _ _ z => z
  unfold w34_69 at w
  unfold gV
  refine gw_pst hk 2 (st' := (72, [some (.ref r0), some (.int x1), some (.int x2), some (.int x3), none, some (.int x5), some (.int xs0)], [.ref r0], h)) rfl ?_
  obtain ⟨q_1, e1, w⟩ := w
  refine gw_gf (hk _ _ rfl) e1 ?_
  refine gw_pst hk 4 (st' := (81, [some (.ref r0), some (.int x1), some (.int x2), some (.int x3), none, some (.int x5), some (.int xs0)], [.int (x5 ||| xs0), .int x3, .ref q_1], h)) rfl ?_
  obtain ⟨n2, f2, e2, b2, w⟩ := w
  refine gw_ast (hk _ _ rfl) (Or.inl ⟨rfl, rfl, rfl⟩) e2 b2 ?_
  obtain ⟨h_2, eh2⟩ : ∃ z, z = gm_put h q_1 (.inl (0, n2, .inl (upd f2 (x3 : Int32).toNatClampNeg (vp_nar .int (x5 ||| xs0))))) := ⟨_, rfl⟩
  rw [← eh2]
  replace w := w h_2 eh2
  refine gw_pst hk 2 (st' := (2, [some (.ref r0), some (.int x1), some (.int x2), some (.int (x3 + 1)), none, some (.int x5), some (.int xs0)], [], h_2)) rfl ?_
  refine gw_le (L' := [some (.ref r0), some (.int x1), some (.int x2), some (.int (x3 + 1)), none, none, none]) (gm_le_k _ (gm_le_k _ (gm_le_k _ (gm_le_k _ (gm_le_k _ (gm_le_n _ (gm_le_n _ gm_le_nil))))))) ?_
  exact hK2 _ _ _ _ _ w
def w34_64 (c : gx) (d : Nat) (Post : Option Value → gm_H → Prop) (K2 : Nat → Int32 → Int32 → Int32 → gm_H → Prop) (r0 : Nat) (x1 : Int32) (x2 : Int32) (x3 : Int32) (x5 : Int32) (h : gm_H) : Prop :=
  w34_69 c d Post K2 r0 x1 x2 x3 x5 2 h
theorem ok34_64 (c : gx) (d : Nat) (Post : Option Value → gm_H → Prop) (K2 : Nat → Int32 → Int32 → Int32 → gm_H → Prop)  (hK2 : ∀ (r0 : Nat) (x1 : Int32) (x2 : Int32) (x3 : Int32) (h : gm_H), K2 r0 x1 x2 x3 h → gV c d 34 (2, [some (.ref r0), some (.int x1), some (.int x2), some (.int x3), none, none, none], [], h) Post) (r0 : Nat) (x1 : Int32) (x2 : Int32) (x3 : Int32) (x5 : Int32) (h : gm_H) (w : w34_64 c d Post K2 r0 x1 x2 x3 x5 h) : gV c d 34 (64, [some (.ref r0), some (.int x1), some (.int x2), some (.int x3), none, some (.int x5), none], [], h) Post := by
  have hk : ∀ pc i, gm_find gk_34 pc = some i → gm_code (gt_T c.1 c.2.1 c.2.2.1) 34 pc = some i := fun _ _ z => z
  unfold w34_64 at w
  unfold gV
  refine gw_pst hk 2 (st' := (69, [some (.ref r0), some (.int x1), some (.int x2), some (.int x3), none, some (.int x5), none], [.int 2], h)) rfl ?_
  exact ok34_69 c d Post K2 hK2 _ _ _ _ _ _ _ w
def w34_47 (c : gx) (d : Nat) (Post : Option Value → gm_H → Prop) (K2 : Nat → Int32 → Int32 → Int32 → gm_H → Prop) (r0 : Nat) (x1 : Int32) (x2 : Int32) (x3 : Int32) (x4 : Int32) (xs0 : Int32) (h : gm_H) : Prop :=
  ((x4 = 0 → w34_64 c d Post K2 r0 x1 x2 x3 xs0 h) ∧ (¬ (x4 = 0) → ∃ q_2 : Nat, gm_fld h r0 3 0 = some (.ref q_2) ∧ ∃ (n3 : Nat) (f3 : Nat → Int32), gm_get h q_2 = some (.inl (0, n3, .inl f3)) ∧ vp_in x3 n3 ∧ ((x2 < (f3 (x3 : Int32).toNatClampNeg) → w34_69 c d Post K2 r0 x1 x2 x3 xs0 0 h) ∧ (¬ (x2 < (f3 (x3 : Int32).toNatClampNeg)) → w34_64 c d Post K2 r0 x1 x2 x3 xs0 h))))
theorem ok34_47 (c : gx) (d : Nat) (Post : Option Value → gm_H → Prop) (K2 : Nat → Int32 → Int32 → Int32 → gm_H → Prop)  (hK2 : ∀ (r0 : Nat) (x1 : Int32) (x2 : Int32) (x3 : Int32) (h : gm_H), K2 r0 x1 x2 x3 h → gV c d 34 (2, [some (.ref r0), some (.int x1), some (.int x2), some (.int x3), none, none, none], [], h) Post) (r0 : Nat) (x1 : Int32) (x2 : Int32) (x3 : Int32) (x4 : Int32) (xs0 : Int32) (h : gm_H) (w : w34_47 c d Post K2 r0 x1 x2 x3 x4 xs0 h) : gV c d 34 (47, [some (.ref r0), some (.int x1), some (.int x2), some (.int x3), some (.int x4), none, none], [.int xs0], h) Post := by
  have hk : ∀ pc i, gm_find gk_34 pc = some i → gm_code (gt_T c.1 c.2.1 c.2.2.1) 34 pc = some i := fun _ _ z => z
  unfold w34_47 at w
  unfold gV
  refine gw_pst hk 2 (st' := (51, [some (.ref r0), some (.int x1), some (.int x2), some (.int x3), some (.int x4), some (.int xs0), none], [.int x4], h)) rfl ?_
  refine gw_br (c := x4 = 0) (a := (64, [some (.ref r0), some (.int x1), some (.int x2), some (.int x3), some (.int x4), some (.int xs0), none], [], h)) (b := (54, [some (.ref r0), some (.int x1), some (.int x2), some (.int x3), some (.int x4), some (.int xs0), none], [], h)) (hk _ _ rfl) rfl ⟨fun z1 => ?_, fun z1 => ?_⟩
  · replace w := w.1 z1
    refine gw_le (L' := [some (.ref r0), some (.int x1), some (.int x2), some (.int x3), none, some (.int xs0), none]) (gm_le_k _ (gm_le_k _ (gm_le_k _ (gm_le_k _ (gm_le_n _ (gm_le_k _ (gm_le_k _ gm_le_nil))))))) ?_
    exact ok34_64 c d Post K2 hK2 _ _ _ _ _ _ w
  · replace w := w.2 z1
    refine gw_pst hk 2 (st' := (56, [some (.ref r0), some (.int x1), some (.int x2), some (.int x3), some (.int x4), some (.int xs0), none], [.ref r0, .int x2], h)) rfl ?_
    obtain ⟨q_2, e2, w⟩ := w
    refine gw_gf (hk _ _ rfl) e2 ?_
    refine gw_pst hk 1 (st' := (60, [some (.ref r0), some (.int x1), some (.int x2), some (.int x3), some (.int x4), some (.int xs0), none], [.int x3, .ref q_2, .int x2], h)) rfl ?_
    obtain ⟨n3, f3, e3, b3, w⟩ := w
    refine gw_ald (hk _ _ rfl) (Or.inl ⟨rfl, rfl⟩) e3 b3 ?_
    refine gw_br (c := x2 < (f3 (x3 : Int32).toNatClampNeg)) (a := (68, [some (.ref r0), some (.int x1), some (.int x2), some (.int x3), some (.int x4), some (.int xs0), none], [], h)) (b := (64, [some (.ref r0), some (.int x1), some (.int x2), some (.int x3), some (.int x4), some (.int xs0), none], [], h)) (hk _ _ rfl) rfl ⟨fun z4 => ?_, fun z4 => ?_⟩
    · replace w := w.1 z4
      refine gw_pst hk 1 (st' := (69, [some (.ref r0), some (.int x1), some (.int x2), some (.int x3), some (.int x4), some (.int xs0), none], [.int 0], h)) rfl ?_
      refine gw_le (L' := [some (.ref r0), some (.int x1), some (.int x2), some (.int x3), none, some (.int xs0), none]) (gm_le_k _ (gm_le_k _ (gm_le_k _ (gm_le_k _ (gm_le_n _ (gm_le_k _ (gm_le_k _ gm_le_nil))))))) ?_
      exact ok34_69 c d Post K2 hK2 _ _ _ _ _ _ _ w
    · replace w := w.2 z4
      refine gw_le (L' := [some (.ref r0), some (.int x1), some (.int x2), some (.int x3), none, some (.int xs0), none]) (gm_le_k _ (gm_le_k _ (gm_le_k _ (gm_le_k _ (gm_le_n _ (gm_le_k _ (gm_le_k _ gm_le_nil))))))) ?_
      exact ok34_64 c d Post K2 hK2 _ _ _ _ _ _ w
def w34_42 (c : gx) (d : Nat) (Post : Option Value → gm_H → Prop) (K2 : Nat → Int32 → Int32 → Int32 → gm_H → Prop) (r0 : Nat) (x1 : Int32) (x2 : Int32) (x3 : Int32) (x4 : Int32) (h : gm_H) : Prop :=
  w34_47 c d Post K2 r0 x1 x2 x3 x4 1 h
theorem ok34_42 (c : gx) (d : Nat) (Post : Option Value → gm_H → Prop) (K2 : Nat → Int32 → Int32 → Int32 → gm_H → Prop)  (hK2 : ∀ (r0 : Nat) (x1 : Int32) (x2 : Int32) (x3 : Int32) (h : gm_H), K2 r0 x1 x2 x3 h → gV c d 34 (2, [some (.ref r0), some (.int x1), some (.int x2), some (.int x3), none, none, none], [], h) Post) (r0 : Nat) (x1 : Int32) (x2 : Int32) (x3 : Int32) (x4 : Int32) (h : gm_H) (w : w34_42 c d Post K2 r0 x1 x2 x3 x4 h) : gV c d 34 (42, [some (.ref r0), some (.int x1), some (.int x2), some (.int x3), some (.int x4), none, none], [], h) Post := by
  have hk : ∀ pc i, gm_find gk_34 pc = some i → gm_code (gt_T c.1 c.2.1 c.2.2.1) 34 pc = some i := fun _ _ z => z
  unfold w34_42 at w
  unfold gV
  refine gw_pst hk 2 (st' := (47, [some (.ref r0), some (.int x1), some (.int x2), some (.int x3), some (.int x4), none, none], [.int 1], h)) rfl ?_
  exact ok34_47 c d Post K2 hK2 _ _ _ _ _ _ _ w
def w34_25 (c : gx) (d : Nat) (Post : Option Value → gm_H → Prop) (K2 : Nat → Int32 → Int32 → Int32 → gm_H → Prop) (r0 : Nat) (x1 : Int32) (x2 : Int32) (x3 : Int32) (xs0 : Int32) (h : gm_H) : Prop :=
  ((xs0 = 0 → w34_42 c d Post K2 r0 x1 x2 x3 xs0 h) ∧ (¬ (xs0 = 0) → ∃ q_2 : Nat, gm_fld h r0 3 0 = some (.ref q_2) ∧ ∃ (n3 : Nat) (f3 : Nat → Int32), gm_get h q_2 = some (.inl (0, n3, .inl f3)) ∧ vp_in x3 n3 ∧ ((x1 < (f3 (x3 : Int32).toNatClampNeg) → w34_47 c d Post K2 r0 x1 x2 x3 xs0 0 h) ∧ (¬ (x1 < (f3 (x3 : Int32).toNatClampNeg)) → w34_42 c d Post K2 r0 x1 x2 x3 xs0 h))))
theorem ok34_25 (c : gx) (d : Nat) (Post : Option Value → gm_H → Prop) (K2 : Nat → Int32 → Int32 → Int32 → gm_H → Prop)  (hK2 : ∀ (r0 : Nat) (x1 : Int32) (x2 : Int32) (x3 : Int32) (h : gm_H), K2 r0 x1 x2 x3 h → gV c d 34 (2, [some (.ref r0), some (.int x1), some (.int x2), some (.int x3), none, none, none], [], h) Post) (r0 : Nat) (x1 : Int32) (x2 : Int32) (x3 : Int32) (xs0 : Int32) (h : gm_H) (w : w34_25 c d Post K2 r0 x1 x2 x3 xs0 h) : gV c d 34 (25, [some (.ref r0), some (.int x1), some (.int x2), some (.int x3), none, none, none], [.int xs0], h) Post := by
  have hk : ∀ pc i, gm_find gk_34 pc = some i → gm_code (gt_T c.1 c.2.1 c.2.2.1) 34 pc = some i := fun _ _ z => z
  unfold w34_25 at w
  unfold gV
  refine gw_pst hk 2 (st' := (29, [some (.ref r0), some (.int x1), some (.int x2), some (.int x3), some (.int xs0), none, none], [.int xs0], h)) rfl ?_
  refine gw_br (c := xs0 = 0) (a := (42, [some (.ref r0), some (.int x1), some (.int x2), some (.int x3), some (.int xs0), none, none], [], h)) (b := (32, [some (.ref r0), some (.int x1), some (.int x2), some (.int x3), some (.int xs0), none, none], [], h)) (hk _ _ rfl) rfl ⟨fun z1 => ?_, fun z1 => ?_⟩
  · replace w := w.1 z1
    exact ok34_42 c d Post K2 hK2 _ _ _ _ _ _ w
  · replace w := w.2 z1
    refine gw_pst hk 2 (st' := (34, [some (.ref r0), some (.int x1), some (.int x2), some (.int x3), some (.int xs0), none, none], [.ref r0, .int x1], h)) rfl ?_
    obtain ⟨q_2, e2, w⟩ := w
    refine gw_gf (hk _ _ rfl) e2 ?_
    refine gw_pst hk 1 (st' := (38, [some (.ref r0), some (.int x1), some (.int x2), some (.int x3), some (.int xs0), none, none], [.int x3, .ref q_2, .int x1], h)) rfl ?_
    obtain ⟨n3, f3, e3, b3, w⟩ := w
    refine gw_ald (hk _ _ rfl) (Or.inl ⟨rfl, rfl⟩) e3 b3 ?_
    refine gw_br (c := x1 < (f3 (x3 : Int32).toNatClampNeg)) (a := (46, [some (.ref r0), some (.int x1), some (.int x2), some (.int x3), some (.int xs0), none, none], [], h)) (b := (42, [some (.ref r0), some (.int x1), some (.int x2), some (.int x3), some (.int xs0), none, none], [], h)) (hk _ _ rfl) rfl ⟨fun z4 => ?_, fun z4 => ?_⟩
    · replace w := w.1 z4
      refine gw_pst hk 1 (st' := (47, [some (.ref r0), some (.int x1), some (.int x2), some (.int x3), some (.int xs0), none, none], [.int 0], h)) rfl ?_
      exact ok34_47 c d Post K2 hK2 _ _ _ _ _ _ _ w
    · replace w := w.2 z4
      exact ok34_42 c d Post K2 hK2 _ _ _ _ _ _ w
def wb34_2 (c : gx) (d : Nat) (Post : Option Value → gm_H → Prop) (K2 : Nat → Int32 → Int32 → Int32 → gm_H → Prop) (r0 : Nat) (x1 : Int32) (x2 : Int32) (x3 : Int32) (h : gm_H) : Prop :=
  ((20 ≤ x3 → Post none h) ∧ (¬ (20 ≤ x3) → ∃ x_2 : Int32, gm_fld h r0 3 1 = some (.int x_2) ∧ ((((x_2 >>> (x3 &&& 31)) &&& 1) = 1 → w34_25 c d Post K2 r0 x1 x2 x3 1 h) ∧ (¬ (((x_2 >>> (x3 &&& 31)) &&& 1) = 1) → w34_25 c d Post K2 r0 x1 x2 x3 0 h))))
theorem okb34_2 (c : gx) (d : Nat) (Post : Option Value → gm_H → Prop) (K2 : Nat → Int32 → Int32 → Int32 → gm_H → Prop)  (hK2 : ∀ (r0 : Nat) (x1 : Int32) (x2 : Int32) (x3 : Int32) (h : gm_H), K2 r0 x1 x2 x3 h → gV c d 34 (2, [some (.ref r0), some (.int x1), some (.int x2), some (.int x3), none, none, none], [], h) Post) (r0 : Nat) (x1 : Int32) (x2 : Int32) (x3 : Int32) (h : gm_H) (w : wb34_2 c d Post K2 r0 x1 x2 x3 h) : gV c d 34 (2, [some (.ref r0), some (.int x1), some (.int x2), some (.int x3), none, none, none], [], h) Post := by
  have hk : ∀ pc i, gm_find gk_34 pc = some i → gm_code (gt_T c.1 c.2.1 c.2.2.1) 34 pc = some i := fun _ _ z => z
  unfold wb34_2 at w
  unfold gV
  refine gw_pst hk 2 (st' := (5, [some (.ref r0), some (.int x1), some (.int x2), some (.int x3), none, none, none], [.int 20, .int x3], h)) rfl ?_
  refine gw_br (c := 20 ≤ x3) (a := (88, [some (.ref r0), some (.int x1), some (.int x2), some (.int x3), none, none, none], [], h)) (b := (8, [some (.ref r0), some (.int x1), some (.int x2), some (.int x3), none, none, none], [], h)) (hk _ _ rfl) rfl ⟨fun z1 => ?_, fun z1 => ?_⟩
  · replace w := w.1 z1
    exact gw_ret (hk _ _ rfl) rfl w
  · replace w := w.2 z1
    refine gw_pst hk 1 (st' := (9, [some (.ref r0), some (.int x1), some (.int x2), some (.int x3), none, none, none], [.ref r0], h)) rfl ?_
    obtain ⟨x_2, e2, w⟩ := w
    refine gw_gf (hk _ _ rfl) e2 ?_
    refine gw_pst hk 5 (st' := (17, [some (.ref r0), some (.int x1), some (.int x2), some (.int x3), none, none, none], [.int 1, .int ((x_2 >>> (x3 &&& 31)) &&& 1)], h)) rfl ?_
    refine gw_br (c := ((x_2 >>> (x3 &&& 31)) &&& 1) = 1) (a := (20, [some (.ref r0), some (.int x1), some (.int x2), some (.int x3), none, none, none], [], h)) (b := (24, [some (.ref r0), some (.int x1), some (.int x2), some (.int x3), none, none, none], [], h)) (hk _ _ rfl) rfl ⟨fun z3 => ?_, fun z3 => ?_⟩
    · replace w := w.1 z3
      refine gw_pst hk 2 (st' := (25, [some (.ref r0), some (.int x1), some (.int x2), some (.int x3), none, none, none], [.int 1], h)) rfl ?_
      exact ok34_25 c d Post K2 hK2 _ _ _ _ _ _ w
    · replace w := w.2 z3
      refine gw_pst hk 1 (st' := (25, [some (.ref r0), some (.int x1), some (.int x2), some (.int x3), none, none, none], [.int 0], h)) rfl ?_
      exact ok34_25 c d Post K2 hK2 _ _ _ _ _ _ w
def wl34_2 (c : gx) (d : Nat) (Post : Option Value → gm_H → Prop) : Nat → Nat → Int32 → Int32 → Int32 → gm_H → Prop
  | 0 => fun _ _ _ _ _ => False
  | n + 1 => wb34_2 c d Post (wl34_2 c d Post n)
theorem okl34_2 (c : gx) (d : Nat) (Post : Option Value → gm_H → Prop) : ∀ (n : Nat) (r0 : Nat) (x1 : Int32) (x2 : Int32) (x3 : Int32) (h : gm_H), wl34_2 c d Post n r0 x1 x2 x3 h → gV c d 34 (2, [some (.ref r0), some (.int x1), some (.int x2), some (.int x3), none, none, none], [], h) Post
  | 0, _, _, _, _, _, w => w.elim
  | n + 1, r0, x1, x2, x3, h, w => okb34_2 c d Post (wl34_2 c d Post n) (okl34_2 c d Post n) r0 x1 x2 x3 h w
/-- CommandByTurns$OldWar.weigh(II)V -/
def wm34 (c : gx) (d : Nat) (Post : Option Value → gm_H → Prop) (r0 : Nat) (x1 : Int32) (x2 : Int32) (h : gm_H) : Prop :=
  ∃ n, wl34_2 c d Post n r0 x1 x2 0 h
theorem okm34 (c : gx) (d : Nat) (Post : Option Value → gm_H → Prop) (r0 : Nat) (x1 : Int32) (x2 : Int32) (h : gm_H) (w : wm34 c d Post r0 x1 x2 h) : gE c (d + 1) 34 [.ref r0, .int x1, .int x2] h Post := by
  have hk : ∀ pc i, gm_find gk_34 pc = some i → gm_code (gt_T c.1 c.2.1 c.2.2.1) 34 pc = some i := fun _ _ z => z
  unfold wm34 at w
  refine ge_of (by decide) (Nat.le_of_ble_eq_true rfl) ?_
  show gV c d 34 (0, [some (.ref r0), some (.int x1), some (.int x2), none, none, none, none], [], h) Post
  unfold gV
  refine gw_pst hk 2 (st' := (2, [some (.ref r0), some (.int x1), some (.int x2), some (.int 0), none, none, none], [], h)) rfl ?_
  obtain ⟨n, w⟩ := w
  exact okl34_2 c d Post n _ _ _ _ _ w
def w35_10 (c : gx) (d : Nat) (Post : Option Value → gm_H → Prop)  (h : gm_H) : Prop :=
  Post (some (.int 0)) h
theorem ok35_10 (c : gx) (d : Nat) (Post : Option Value → gm_H → Prop)   (h : gm_H) (w : w35_10 c d Post  h) : gV c d 35 (10, [none, none, none, none, none, none], [], h) Post := by
  have hk : ∀ pc i, gm_find gk_35 pc = some i → gm_code (gt_T c.1 c.2.1 c.2.2.1) 35 pc = some i := fun _ _ z => z
  unfold w35_10 at w
  unfold gV
  refine gw_pst hk 1 (st' := (11, [none, none, none, none, none, none], [.int 0], h)) rfl ?_
  exact gw_ret (hk _ _ rfl) rfl w
/-- CommandByTurns$OldWar.waysIf(III)I -/
def wm35 (c : gx) (d : Nat) (Post : Option Value → gm_H → Prop) (r0 : Nat) (x1 : Int32) (x2 : Int32) (x3 : Int32) (h : gm_H) : Prop :=
  ((x3 < 0 → w35_10 c d Post h) ∧ (¬ (x3 < 0) → ((x3 < 20 → ∃ q_3 : Nat, gm_fld h r0 3 2 = some (.ref q_3) ∧ ∃ (n4 : Nat) (f4 : Nat → Int32), gm_get h q_3 = some (.inl (0, n4, .inl f4)) ∧ vp_in x3 n4 ∧ ∃ q_5 : Nat, gm_fld h r0 3 2 = some (.ref q_5) ∧ ∃ (n6 : Nat) (f6 : Nat → Int32), gm_get h q_5 = some (.inl (0, n6, .inl f6)) ∧ vp_in x3 n6 ∧ ∀ h_6 : gm_H, h_6 = gm_put h q_5 (.inl (0, n6, .inl (upd f6 (x3 : Int32).toNatClampNeg (vp_nar .int ((f4 (x3 : Int32).toNatClampNeg) &&& 2))))) → (∃ fs7, gm_get h_6 r0 = some (.inr (3, fs7))) ∧ gE c d 36 [.ref r0, .int x1, .int x2] h_6 (fun v7 h_7 => ∃ x_7 : Int32, v7 = some (.int x_7) ∧ ∃ q_8 : Nat, gm_fld h_7 r0 3 2 = some (.ref q_8) ∧ ∃ (n9 : Nat) (f9 : Nat → Int32), gm_get h_7 q_8 = some (.inl (0, n9, .inl f9)) ∧ vp_in x3 n9 ∧ ∀ h_9 : gm_H, h_9 = gm_put h_7 q_8 (.inl (0, n9, .inl (upd f9 (x3 : Int32).toNatClampNeg (vp_nar .int (f4 (x3 : Int32).toNatClampNeg))))) → Post (some (.int x_7)) h_9)) ∧ (¬ (x3 < 20) → w35_10 c d Post h))))
theorem okm35 (c : gx) (d : Nat) (Post : Option Value → gm_H → Prop) (r0 : Nat) (x1 : Int32) (x2 : Int32) (x3 : Int32) (h : gm_H) (w : wm35 c d Post r0 x1 x2 x3 h) : gE c (d + 1) 35 [.ref r0, .int x1, .int x2, .int x3] h Post := by
  have hk : ∀ pc i, gm_find gk_35 pc = some i → gm_code (gt_T c.1 c.2.1 c.2.2.1) 35 pc = some i := fun _ _ z => z
  unfold wm35 at w
  refine ge_of (by decide) (Nat.le_of_ble_eq_true rfl) ?_
  show gV c d 35 (0, [some (.ref r0), some (.int x1), some (.int x2), some (.int x3), none, none], [], h) Post
  unfold gV
  refine gw_pst hk 1 (st' := (1, [some (.ref r0), some (.int x1), some (.int x2), some (.int x3), none, none], [.int x3], h)) rfl ?_
  refine gw_br (c := x3 < 0) (a := (10, [some (.ref r0), some (.int x1), some (.int x2), some (.int x3), none, none], [], h)) (b := (4, [some (.ref r0), some (.int x1), some (.int x2), some (.int x3), none, none], [], h)) (hk _ _ rfl) rfl ⟨fun z1 => ?_, fun z1 => ?_⟩
  · replace w := w.1 z1
    refine gw_le (L' := [none, none, none, none, none, none]) (gm_le_n _ (gm_le_n _ (gm_le_n _ (gm_le_n _ (gm_le_k _ (gm_le_k _ gm_le_nil)))))) ?_
    exact ok35_10 c d Post _ w
  · replace w := w.2 z1
    refine gw_pst hk 2 (st' := (7, [some (.ref r0), some (.int x1), some (.int x2), some (.int x3), none, none], [.int 20, .int x3], h)) rfl ?_
    refine gw_br (c := x3 < 20) (a := (12, [some (.ref r0), some (.int x1), some (.int x2), some (.int x3), none, none], [], h)) (b := (10, [some (.ref r0), some (.int x1), some (.int x2), some (.int x3), none, none], [], h)) (hk _ _ rfl) rfl ⟨fun z2 => ?_, fun z2 => ?_⟩
    · replace w := w.1 z2
      refine gw_pst hk 1 (st' := (13, [some (.ref r0), some (.int x1), some (.int x2), some (.int x3), none, none], [.ref r0], h)) rfl ?_
      obtain ⟨q_3, e3, w⟩ := w
      refine gw_gf (hk _ _ rfl) e3 ?_
      refine gw_pst hk 1 (st' := (17, [some (.ref r0), some (.int x1), some (.int x2), some (.int x3), none, none], [.int x3, .ref q_3], h)) rfl ?_
      obtain ⟨n4, f4, e4, b4, w⟩ := w
      refine gw_ald (hk _ _ rfl) (Or.inl ⟨rfl, rfl⟩) e4 b4 ?_
      refine gw_pst hk 2 (st' := (21, [some (.ref r0), some (.int x1), some (.int x2), some (.int x3), some (.int (f4 (x3 : Int32).toNatClampNeg)), none], [.ref r0], h)) rfl ?_
      obtain ⟨q_5, e5, w⟩ := w
      refine gw_gf (hk _ _ rfl) e5 ?_
      refine gw_pst hk 4 (st' := (29, [some (.ref r0), some (.int x1), some (.int x2), some (.int x3), some (.int (f4 (x3 : Int32).toNatClampNeg)), none], [.int ((f4 (x3 : Int32).toNatClampNeg) &&& 2), .int x3, .ref q_5], h)) rfl ?_
      obtain ⟨n6, f6, e6, b6, w⟩ := w
      refine gw_ast (hk _ _ rfl) (Or.inl ⟨rfl, rfl, rfl⟩) e6 b6 ?_
      obtain ⟨h_6, eh6⟩ : ∃ z, z = gm_put h q_5 (.inl (0, n6, .inl (upd f6 (x3 : Int32).toNatClampNeg (vp_nar .int ((f4 (x3 : Int32).toNatClampNeg) &&& 2))))) := ⟨_, rfl⟩
      rw [← eh6]
      replace w := w h_6 eh6
      refine gw_pst hk 3 (st' := (33, [some (.ref r0), some (.int x1), some (.int x2), some (.int x3), some (.int (f4 (x3 : Int32).toNatClampNeg)), none], [.int x2, .int x1, .ref r0], h_6)) rfl ?_
      obtain ⟨⟨fs7, e7⟩, w⟩ := w
      refine gw_call (jj := 36) (As := [.ref r0, .int x1, .int x2]) (rest := []) (hk _ _ rfl) (fun _ => rfl) rfl rfl (Nat.le_of_ble_eq_true rfl) (gm_rcv_v rfl e7 rfl) ?_
      refine ge_imp w (fun v7 h_7 w => ?_)
      obtain ⟨x_7, rfl, w⟩ := w
      show gV c d 35 (36, [some (.ref r0), some (.int x1), some (.int x2), some (.int x3), some (.int (f4 (x3 : Int32).toNatClampNeg)), none], [.int x_7], h_7) Post
      refine gw_pst hk 2 (st' := (39, [some (.ref r0), some (.int x1), some (.int x2), some (.int x3), some (.int (f4 (x3 : Int32).toNatClampNeg)), some (.int x_7)], [.ref r0], h_7)) rfl ?_
      obtain ⟨q_8, e8, w⟩ := w
      refine gw_gf (hk _ _ rfl) e8 ?_
      refine gw_pst hk 2 (st' := (45, [some (.ref r0), some (.int x1), some (.int x2), some (.int x3), some (.int (f4 (x3 : Int32).toNatClampNeg)), some (.int x_7)], [.int (f4 (x3 : Int32).toNatClampNeg), .int x3, .ref q_8], h_7)) rfl ?_
      obtain ⟨n9, f9, e9, b9, w⟩ := w
      refine gw_ast (hk _ _ rfl) (Or.inl ⟨rfl, rfl, rfl⟩) e9 b9 ?_
      obtain ⟨h_9, eh9⟩ : ∃ z, z = gm_put h_7 q_8 (.inl (0, n9, .inl (upd f9 (x3 : Int32).toNatClampNeg (vp_nar .int (f4 (x3 : Int32).toNatClampNeg))))) := ⟨_, rfl⟩
      rw [← eh9]
      replace w := w h_9 eh9
      refine gw_pst hk 1 (st' := (48, [some (.ref r0), some (.int x1), some (.int x2), some (.int x3), some (.int (f4 (x3 : Int32).toNatClampNeg)), some (.int x_7)], [.int x_7], h_9)) rfl ?_
      exact gw_ret (hk _ _ rfl) rfl w
    · replace w := w.2 z2
      refine gw_le (L' := [none, none, none, none, none, none]) (gm_le_n _ (gm_le_n _ (gm_le_n _ (gm_le_n _ (gm_le_k _ (gm_le_k _ gm_le_nil)))))) ?_
      exact ok35_10 c d Post _ w
def w36_99 (c : gx) (d : Nat) (Post : Option Value → gm_H → Prop) (K2 : Nat → Int32 → Int32 → Int32 → gm_H → Prop) (K16 : Nat → Int32 → Int32 → Int32 → Int32 → gm_H → Prop) (K25 : Nat → Int32 → Int32 → Int32 → Int32 → Int32 → gm_H → Prop) (r0 : Nat) (x1 : Int32) (x2 : Int32) (x3 : Int32) (x4 : Int32) (x5 : Int32) (rs0 : Nat) (xs1 : Int32) (xs2 : Int32) (h : gm_H) : Prop :=
  ∃ (n1 : Nat) (f1 : Nat → Int32), gm_get h rs0 = some (.inl (0, n1, .inl f1)) ∧ vp_in xs1 n1 ∧ ∀ h_1 : gm_H, h_1 = gm_put h rs0 (.inl (0, n1, .inl (upd f1 (xs1 : Int32).toNatClampNeg (vp_nar .int xs2)))) → K25 r0 x1 x2 x3 x4 (x5 + 1) h_1
theorem ok36_99 (c : gx) (d : Nat) (Post : Option Value → gm_H → Prop) (K2 : Nat → Int32 → Int32 → Int32 → gm_H → Prop) (K16 : Nat → Int32 → Int32 → Int32 → Int32 → gm_H → Prop) (K25 : Nat → Int32 → Int32 → Int32 → Int32 → Int32 → gm_H → Prop)  (hK2 : ∀ (r0 : Nat) (x1 : Int32) (x2 : Int32) (x3 : Int32) (h : gm_H), K2 r0 x1 x2 x3 h → gV c d 36 (2, [some (.ref r0), some (.int x1), some (.int x2), some (.int x3), none, none, none], [], h) Post) (hK16 : ∀ (r0 : Nat) (x1 : Int32) (x2 : Int32) (x3 : Int32) (x4 : Int32) (h : gm_H), K16 r0 x1 x2 x3 x4 h → gV c d 36 (16, [some (.ref r0), some (.int x1), some (.int x2), some (.int x3), some (.int x4), none, none], [], h) Post) (hK25 : ∀ (r0 : Nat) (x1 : Int32) (x2 : Int32) (x3 : Int32) (x4 : Int32) (x5 : Int32) (h : gm_H), K25 r0 x1 x2 x3 x4 x5 h → gV c d 36 (25, [some (.ref r0), some (.int x1), some (.int x2), some (.int x3), some (.int x4), some (.int x5), none], [], h) Post) (r0 : Nat) (x1 : Int32) (x2 : Int32) (x3 : Int32) (x4 : Int32) (x5 : Int32) (rs0 : Nat) (xs1 : Int32) (xs2 : Int32) (h : gm_H) (w : w36_99 c d Post K2 K16 K25 r0 x1 x2 x3 x4 x5 rs0 xs1 xs2 h) : gV c d 36 (99, [some (.ref r0), some (.int x1), some (.int x2), some (.int x3), some (.int x4), some (.int x5), none], [.int xs2, .int xs1, .ref rs0], h) Post := by
  have hk : ∀ pc i, gm_find gk_36 pc = some i → gm_code (gt_T c.1 c.2.1 c.2.2.1) 36 pc = some i := fun _ _ z => z
  unfold w36_99 at w
  unfold gV
  obtain ⟨n1, f1, e1, b1, w⟩ := w
  refine gw_ast (hk _ _ rfl) (Or.inl ⟨rfl, rfl, rfl⟩) e1 b1 ?_
  obtain ⟨h_1, eh1⟩ : ∃ z, z = gm_put h rs0 (.inl (0, n1, .inl (upd f1 (xs1 : Int32).toNatClampNeg (vp_nar .int xs2)))) := ⟨_, rfl⟩
  rw [← eh1]
  replace w := w h_1 eh1
  refine gw_pst hk 2 (st' := (25, [some (.ref r0), some (.int x1), some (.int x2), some (.int x3), some (.int x4), some (.int (x5 + 1)), none], [], h_1)) rfl ?_
  exact hK25 _ _ _ _ _ _ _ w
def w36_62 (c : gx) (d : Nat) (Post : Option Value → gm_H → Prop) (K2 : Nat → Int32 → Int32 → Int32 → gm_H → Prop) (K16 : Nat → Int32 → Int32 → Int32 → Int32 → gm_H → Prop) (K25 : Nat → Int32 → Int32 → Int32 → Int32 → Int32 → gm_H → Prop) (r0 : Nat) (x1 : Int32) (x2 : Int32) (x3 : Int32) (x4 : Int32) (x5 : Int32) (xs0 : Int32) (h : gm_H) : Prop :=
  ∃ q_1 : Nat, gm_fld h r0 3 3 = some (.ref q_1) ∧ ((xs0 = 0 → w36_99 c d Post K2 K16 K25 r0 x1 x2 x3 x4 x5 q_1 (((8 * x3) + (4 * x4)) + x5) 0 h) ∧ (¬ (xs0 = 0) → (∃ fs3, gm_get h r0 = some (.inr (3, fs3))) ∧ gE c d 37 [.ref r0, .int x3, .int x4, .int x5, .int x2] h (fun v3 h_3 => ∃ x_3 : Int32, v3 = some (.int x_3) ∧ w36_99 c d Post K2 K16 K25 r0 x1 x2 x3 x4 x5 q_1 (((8 * x3) + (4 * x4)) + x5) x_3 h_3)))
theorem ok36_62 (c : gx) (d : Nat) (Post : Option Value → gm_H → Prop) (K2 : Nat → Int32 → Int32 → Int32 → gm_H → Prop) (K16 : Nat → Int32 → Int32 → Int32 → Int32 → gm_H → Prop) (K25 : Nat → Int32 → Int32 → Int32 → Int32 → Int32 → gm_H → Prop)  (hK2 : ∀ (r0 : Nat) (x1 : Int32) (x2 : Int32) (x3 : Int32) (h : gm_H), K2 r0 x1 x2 x3 h → gV c d 36 (2, [some (.ref r0), some (.int x1), some (.int x2), some (.int x3), none, none, none], [], h) Post) (hK16 : ∀ (r0 : Nat) (x1 : Int32) (x2 : Int32) (x3 : Int32) (x4 : Int32) (h : gm_H), K16 r0 x1 x2 x3 x4 h → gV c d 36 (16, [some (.ref r0), some (.int x1), some (.int x2), some (.int x3), some (.int x4), none, none], [], h) Post) (hK25 : ∀ (r0 : Nat) (x1 : Int32) (x2 : Int32) (x3 : Int32) (x4 : Int32) (x5 : Int32) (h : gm_H), K25 r0 x1 x2 x3 x4 x5 h → gV c d 36 (25, [some (.ref r0), some (.int x1), some (.int x2), some (.int x3), some (.int x4), some (.int x5), none], [], h) Post) (r0 : Nat) (x1 : Int32) (x2 : Int32) (x3 : Int32) (x4 : Int32) (x5 : Int32) (xs0 : Int32) (h : gm_H) (w : w36_62 c d Post K2 K16 K25 r0 x1 x2 x3 x4 x5 xs0 h) : gV c d 36 (62, [some (.ref r0), some (.int x1), some (.int x2), some (.int x3), some (.int x4), some (.int x5), none], [.int xs0], h) Post := by
  have hk : ∀ pc i, gm_find gk_36 pc = some i → gm_code (gt_T c.1 c.2.1 c.2.2.1) 36 pc = some i := fun _ _ z => z
  unfold w36_62 at w
  unfold gV
  refine gw_pst hk 2 (st' := (65, [some (.ref r0), some (.int x1), some (.int x2), some (.int x3), some (.int x4), some (.int x5), some (.int xs0)], [.ref r0], h)) rfl ?_
  obtain ⟨q_1, e1, w⟩ := w
  refine gw_gf (hk _ _ rfl) e1 ?_
  refine gw_pst hk 10 (st' := (82, [some (.ref r0), some (.int x1), some (.int x2), some (.int x3), some (.int x4), some (.int x5), some (.int xs0)], [.int xs0, .int (((8 * x3) + (4 * x4)) + x5), .ref q_1], h)) rfl ?_
  refine gw_br (c := xs0 = 0) (a := (98, [some (.ref r0), some (.int x1), some (.int x2), some (.int x3), some (.int x4), some (.int x5), some (.int xs0)], [.int (((8 * x3) + (4 * x4)) + x5), .ref q_1], h)) (b := (85, [some (.ref r0), some (.int x1), some (.int x2), some (.int x3), some (.int x4), some (.int x5), some (.int xs0)], [.int (((8 * x3) + (4 * x4)) + x5), .ref q_1], h)) (hk _ _ rfl) rfl ⟨fun z2 => ?_, fun z2 => ?_⟩
  · replace w := w.1 z2
    refine gw_pst hk 1 (st' := (99, [some (.ref r0), some (.int x1), some (.int x2), some (.int x3), some (.int x4), some (.int x5), some (.int xs0)], [.int 0, .int (((8 * x3) + (4 * x4)) + x5), .ref q_1], h)) rfl ?_
    refine gw_le (L' := [some (.ref r0), some (.int x1), some (.int x2), some (.int x3), some (.int x4), some (.int x5), none]) (gm_le_k _ (gm_le_k _ (gm_le_k _ (gm_le_k _ (gm_le_k _ (gm_le_k _ (gm_le_n _ gm_le_nil))))))) ?_
    exact ok36_99 c d Post K2 K16 K25 hK2 hK16 hK25 _ _ _ _ _ _ _ _ _ _ w
  · replace w := w.2 z2
    refine gw_pst hk 5 (st' := (92, [some (.ref r0), some (.int x1), some (.int x2), some (.int x3), some (.int x4), some (.int x5), some (.int xs0)], [.int x2, .int x5, .int x4, .int x3, .ref r0, .int (((8 * x3) + (4 * x4)) + x5), .ref q_1], h)) rfl ?_
    obtain ⟨⟨fs3, e3⟩, w⟩ := w
    refine gw_call (jj := 37) (As := [.ref r0, .int x3, .int x4, .int x5, .int x2]) (rest := [.int (((8 * x3) + (4 * x4)) + x5), .ref q_1]) (hk _ _ rfl) (fun _ => rfl) rfl rfl (Nat.le_of_ble_eq_true rfl) (gm_rcv_v rfl e3 rfl) ?_
    refine ge_imp w (fun v3 h_3 w => ?_)
    obtain ⟨x_3, rfl, w⟩ := w
    show gV c d 36 (95, [some (.ref r0), some (.int x1), some (.int x2), some (.int x3), some (.int x4), some (.int x5), some (.int xs0)], [.int x_3, .int (((8 * x3) + (4 * x4)) + x5), .ref q_1], h_3) Post
    refine gw_pst hk 1 (st' := (99, [some (.ref r0), some (.int x1), some (.int x2), some (.int x3), some (.int x4), some (.int x5), some (.int xs0)], [.int x_3, .int (((8 * x3) + (4 * x4)) + x5), .ref q_1], h_3)) rfl ?_
    refine gw_le (L' := [some (.ref r0), some (.int x1), some (.int x2), some (.int x3), some (.int x4), some (.int x5), none]) (gm_le_k _ (gm_le_k _ (gm_le_k _ (gm_le_k _ (gm_le_k _ (gm_le_k _ (gm_le_n _ gm_le_nil))))))) ?_
    exact ok36_99 c d Post K2 K16 K25 hK2 hK16 hK25 _ _ _ _ _ _ _ _ _ _ w
def w36_61 (c : gx) (d : Nat) (Post : Option Value → gm_H → Prop) (K2 : Nat → Int32 → Int32 → Int32 → gm_H → Prop) (K16 : Nat → Int32 → Int32 → Int32 → Int32 → gm_H → Prop) (K25 : Nat → Int32 → Int32 → Int32 → Int32 → Int32 → gm_H → Prop) (r0 : Nat) (x1 : Int32) (x2 : Int32) (x3 : Int32) (x4 : Int32) (x5 : Int32) (h : gm_H) : Prop :=
  w36_62 c d Post K2 K16 K25 r0 x1 x2 x3 x4 x5 0 h
theorem ok36_61 (c : gx) (d : Nat) (Post : Option Value → gm_H → Prop) (K2 : Nat → Int32 → Int32 → Int32 → gm_H → Prop) (K16 : Nat → Int32 → Int32 → Int32 → Int32 → gm_H → Prop) (K25 : Nat → Int32 → Int32 → Int32 → Int32 → Int32 → gm_H → Prop)  (hK2 : ∀ (r0 : Nat) (x1 : Int32) (x2 : Int32) (x3 : Int32) (h : gm_H), K2 r0 x1 x2 x3 h → gV c d 36 (2, [some (.ref r0), some (.int x1), some (.int x2), some (.int x3), none, none, none], [], h) Post) (hK16 : ∀ (r0 : Nat) (x1 : Int32) (x2 : Int32) (x3 : Int32) (x4 : Int32) (h : gm_H), K16 r0 x1 x2 x3 x4 h → gV c d 36 (16, [some (.ref r0), some (.int x1), some (.int x2), some (.int x3), some (.int x4), none, none], [], h) Post) (hK25 : ∀ (r0 : Nat) (x1 : Int32) (x2 : Int32) (x3 : Int32) (x4 : Int32) (x5 : Int32) (h : gm_H), K25 r0 x1 x2 x3 x4 x5 h → gV c d 36 (25, [some (.ref r0), some (.int x1), some (.int x2), some (.int x3), some (.int x4), some (.int x5), none], [], h) Post) (r0 : Nat) (x1 : Int32) (x2 : Int32) (x3 : Int32) (x4 : Int32) (x5 : Int32) (h : gm_H) (w : w36_61 c d Post K2 K16 K25 r0 x1 x2 x3 x4 x5 h) : gV c d 36 (61, [some (.ref r0), some (.int x1), some (.int x2), some (.int x3), some (.int x4), some (.int x5), none], [], h) Post := by
  have hk : ∀ pc i, gm_find gk_36 pc = some i → gm_code (gt_T c.1 c.2.1 c.2.2.1) 36 pc = some i := fun _ _ z => z
  unfold w36_61 at w
  unfold gV
  refine gw_pst hk 1 (st' := (62, [some (.ref r0), some (.int x1), some (.int x2), some (.int x3), some (.int x4), some (.int x5), none], [.int 0], h)) rfl ?_
  exact ok36_62 c d Post K2 K16 K25 hK2 hK16 hK25 _ _ _ _ _ _ _ _ w
def w36_106 (c : gx) (d : Nat) (Post : Option Value → gm_H → Prop) (K2 : Nat → Int32 → Int32 → Int32 → gm_H → Prop) (K16 : Nat → Int32 → Int32 → Int32 → Int32 → gm_H → Prop) (r0 : Nat) (x1 : Int32) (x2 : Int32) (x3 : Int32) (x4 : Int32) (h : gm_H) : Prop :=
  K16 r0 x1 x2 x3 (x4 + 1) h
theorem ok36_106 (c : gx) (d : Nat) (Post : Option Value → gm_H → Prop) (K2 : Nat → Int32 → Int32 → Int32 → gm_H → Prop) (K16 : Nat → Int32 → Int32 → Int32 → Int32 → gm_H → Prop)  (hK2 : ∀ (r0 : Nat) (x1 : Int32) (x2 : Int32) (x3 : Int32) (h : gm_H), K2 r0 x1 x2 x3 h → gV c d 36 (2, [some (.ref r0), some (.int x1), some (.int x2), some (.int x3), none, none, none], [], h) Post) (hK16 : ∀ (r0 : Nat) (x1 : Int32) (x2 : Int32) (x3 : Int32) (x4 : Int32) (h : gm_H), K16 r0 x1 x2 x3 x4 h → gV c d 36 (16, [some (.ref r0), some (.int x1), some (.int x2), some (.int x3), some (.int x4), none, none], [], h) Post) (r0 : Nat) (x1 : Int32) (x2 : Int32) (x3 : Int32) (x4 : Int32) (h : gm_H) (w : w36_106 c d Post K2 K16 r0 x1 x2 x3 x4 h) : gV c d 36 (106, [some (.ref r0), some (.int x1), some (.int x2), some (.int x3), some (.int x4), none, none], [], h) Post := by
  have hk : ∀ pc i, gm_find gk_36 pc = some i → gm_code (gt_T c.1 c.2.1 c.2.2.1) 36 pc = some i := fun _ _ z => z
  unfold w36_106 at w
  unfold gV
  refine gw_pst hk 2 (st' := (16, [some (.ref r0), some (.int x1), some (.int x2), some (.int x3), some (.int (x4 + 1)), none, none], [], h)) rfl ?_
  exact hK16 _ _ _ _ _ _ w
def wb36_25 (c : gx) (d : Nat) (Post : Option Value → gm_H → Prop) (K2 : Nat → Int32 → Int32 → Int32 → gm_H → Prop) (K16 : Nat → Int32 → Int32 → Int32 → Int32 → gm_H → Prop) (K25 : Nat → Int32 → Int32 → Int32 → Int32 → Int32 → gm_H → Prop) (r0 : Nat) (x1 : Int32) (x2 : Int32) (x3 : Int32) (x4 : Int32) (x5 : Int32) (h : gm_H) : Prop :=
  ((x2 < x5 → w36_106 c d Post K2 K16 r0 x1 x2 x3 x4 h) ∧ (¬ (x2 < x5) → ((3 < x5 → w36_106 c d Post K2 K16 r0 x1 x2 x3 x4 h) ∧ (¬ (3 < x5) → ((x5 ≤ 0 → w36_61 c d Post K2 K16 K25 r0 x1 x2 x3 x4 x5 h) ∧ (¬ (x5 ≤ 0) → ∃ q_4 : Nat, gm_fld h r0 3 2 = some (.ref q_4) ∧ ∃ (n5 : Nat) (f5 : Nat → Int32), gm_get h q_4 = some (.inl (0, n5, .inl f5)) ∧ vp_in x3 n5 ∧ (((((f5 (x3 : Int32).toNatClampNeg) >>> (x4 &&& 31)) &&& 1) = 1 → w36_62 c d Post K2 K16 K25 r0 x1 x2 x3 x4 x5 1 h) ∧ (¬ ((((f5 (x3 : Int32).toNatClampNeg) >>> (x4 &&& 31)) &&& 1) = 1) → w36_61 c d Post K2 K16 K25 r0 x1 x2 x3 x4 x5 h))))))))
theorem okb36_25 (c : gx) (d : Nat) (Post : Option Value → gm_H → Prop) (K2 : Nat → Int32 → Int32 → Int32 → gm_H → Prop) (K16 : Nat → Int32 → Int32 → Int32 → Int32 → gm_H → Prop) (K25 : Nat → Int32 → Int32 → Int32 → Int32 → Int32 → gm_H → Prop)  (hK2 : ∀ (r0 : Nat) (x1 : Int32) (x2 : Int32) (x3 : Int32) (h : gm_H), K2 r0 x1 x2 x3 h → gV c d 36 (2, [some (.ref r0), some (.int x1), some (.int x2), some (.int x3), none, none, none], [], h) Post) (hK16 : ∀ (r0 : Nat) (x1 : Int32) (x2 : Int32) (x3 : Int32) (x4 : Int32) (h : gm_H), K16 r0 x1 x2 x3 x4 h → gV c d 36 (16, [some (.ref r0), some (.int x1), some (.int x2), some (.int x3), some (.int x4), none, none], [], h) Post) (hK25 : ∀ (r0 : Nat) (x1 : Int32) (x2 : Int32) (x3 : Int32) (x4 : Int32) (x5 : Int32) (h : gm_H), K25 r0 x1 x2 x3 x4 x5 h → gV c d 36 (25, [some (.ref r0), some (.int x1), some (.int x2), some (.int x3), some (.int x4), some (.int x5), none], [], h) Post) (r0 : Nat) (x1 : Int32) (x2 : Int32) (x3 : Int32) (x4 : Int32) (x5 : Int32) (h : gm_H) (w : wb36_25 c d Post K2 K16 K25 r0 x1 x2 x3 x4 x5 h) : gV c d 36 (25, [some (.ref r0), some (.int x1), some (.int x2), some (.int x3), some (.int x4), some (.int x5), none], [], h) Post := by
  have hk : ∀ pc i, gm_find gk_36 pc = some i → gm_code (gt_T c.1 c.2.1 c.2.2.1) 36 pc = some i := fun _ _ z => z
  unfold wb36_25 at w
  unfold gV
  refine gw_pst hk 2 (st' := (28, [some (.ref r0), some (.int x1), some (.int x2), some (.int x3), some (.int x4), some (.int x5), none], [.int x2, .int x5], h)) rfl ?_
  refine gw_br (c := x2 < x5) (a := (106, [some (.ref r0), some (.int x1), some (.int x2), some (.int x3), some (.int x4), some (.int x5), none], [], h)) (b := (31, [some (.ref r0), some (.int x1), some (.int x2), some (.int x3), some (.int x4), some (.int x5), none], [], h)) (hk _ _ rfl) rfl ⟨fun z1 => ?_, fun z1 => ?_⟩
  · replace w := w.1 z1
    refine gw_le (L' := [some (.ref r0), some (.int x1), some (.int x2), some (.int x3), some (.int x4), none, none]) (gm_le_k _ (gm_le_k _ (gm_le_k _ (gm_le_k _ (gm_le_k _ (gm_le_n _ (gm_le_k _ gm_le_nil))))))) ?_
    exact ok36_106 c d Post K2 K16 hK2 hK16 _ _ _ _ _ _ w
  · replace w := w.2 z1
    refine gw_pst hk 2 (st' := (34, [some (.ref r0), some (.int x1), some (.int x2), some (.int x3), some (.int x4), some (.int x5), none], [.int 3, .int x5], h)) rfl ?_
    refine gw_br (c := 3 < x5) (a := (106, [some (.ref r0), some (.int x1), some (.int x2), some (.int x3), some (.int x4), some (.int x5), none], [], h)) (b := (37, [some (.ref r0), some (.int x1), some (.int x2), some (.int x3), some (.int x4), some (.int x5), none], [], h)) (hk _ _ rfl) rfl ⟨fun z2 => ?_, fun z2 => ?_⟩
    · replace w := w.1 z2
      refine gw_le (L' := [some (.ref r0), some (.int x1), some (.int x2), some (.int x3), some (.int x4), none, none]) (gm_le_k _ (gm_le_k _ (gm_le_k _ (gm_le_k _ (gm_le_k _ (gm_le_n _ (gm_le_k _ gm_le_nil))))))) ?_
      exact ok36_106 c d Post K2 K16 hK2 hK16 _ _ _ _ _ _ w
    · replace w := w.2 z2
      refine gw_pst hk 1 (st' := (39, [some (.ref r0), some (.int x1), some (.int x2), some (.int x3), some (.int x4), some (.int x5), none], [.int x5], h)) rfl ?_
      refine gw_br (c := x5 ≤ 0) (a := (61, [some (.ref r0), some (.int x1), some (.int x2), some (.int x3), some (.int x4), some (.int x5), none], [], h)) (b := (42, [some (.ref r0), some (.int x1), some (.int x2), some (.int x3), some (.int x4), some (.int x5), none], [], h)) (hk _ _ rfl) rfl ⟨fun z3 => ?_, fun z3 => ?_⟩
      · replace w := w.1 z3
        exact ok36_61 c d Post K2 K16 K25 hK2 hK16 hK25 _ _ _ _ _ _ _ w
      · replace w := w.2 z3
        refine gw_pst hk 1 (st' := (43, [some (.ref r0), some (.int x1), some (.int x2), some (.int x3), some (.int x4), some (.int x5), none], [.ref r0], h)) rfl ?_
        obtain ⟨q_4, e4, w⟩ := w
        refine gw_gf (hk _ _ rfl) e4 ?_
        refine gw_pst hk 1 (st' := (47, [some (.ref r0), some (.int x1), some (.int x2), some (.int x3), some (.int x4), some (.int x5), none], [.int x3, .ref q_4], h)) rfl ?_
        obtain ⟨n5, f5, e5, b5, w⟩ := w
        refine gw_ald (hk _ _ rfl) (Or.inl ⟨rfl, rfl⟩) e5 b5 ?_
        refine gw_pst hk 5 (st' := (54, [some (.ref r0), some (.int x1), some (.int x2), some (.int x3), some (.int x4), some (.int x5), none], [.int 1, .int (((f5 (x3 : Int32).toNatClampNeg) >>> (x4 &&& 31)) &&& 1)], h)) rfl ?_
        refine gw_br (c := (((f5 (x3 : Int32).toNatClampNeg) >>> (x4 &&& 31)) &&& 1) = 1) (a := (57, [some (.ref r0), some (.int x1), some (.int x2), some (.int x3), some (.int x4), some (.int x5), none], [], h)) (b := (61, [some (.ref r0), some (.int x1), some (.int x2), some (.int x3), some (.int x4), some (.int x5), none], [], h)) (hk _ _ rfl) rfl ⟨fun z6 => ?_, fun z6 => ?_⟩
        · replace w := w.1 z6
          refine gw_pst hk 2 (st' := (62, [some (.ref r0), some (.int x1), some (.int x2), some (.int x3), some (.int x4), some (.int x5), none], [.int 1], h)) rfl ?_
          exact ok36_62 c d Post K2 K16 K25 hK2 hK16 hK25 _ _ _ _ _ _ _ _ w
        · replace w := w.2 z6
          exact ok36_61 c d Post K2 K16 K25 hK2 hK16 hK25 _ _ _ _ _ _ _ w
def wl36_25 (c : gx) (d : Nat) (Post : Option Value → gm_H → Prop) (K2 : Nat → Int32 → Int32 → Int32 → gm_H → Prop) (K16 : Nat → Int32 → Int32 → Int32 → Int32 → gm_H → Prop) : Nat → Nat → Int32 → Int32 → Int32 → Int32 → Int32 → gm_H → Prop
  | 0 => fun _ _ _ _ _ _ _ => False
  | n + 1 => wb36_25 c d Post K2 K16 (wl36_25 c d Post K2 K16 n)
theorem okl36_25 (c : gx) (d : Nat) (Post : Option Value → gm_H → Prop) (K2 : Nat → Int32 → Int32 → Int32 → gm_H → Prop) (K16 : Nat → Int32 → Int32 → Int32 → Int32 → gm_H → Prop) (hK2 : ∀ (r0 : Nat) (x1 : Int32) (x2 : Int32) (x3 : Int32) (h : gm_H), K2 r0 x1 x2 x3 h → gV c d 36 (2, [some (.ref r0), some (.int x1), some (.int x2), some (.int x3), none, none, none], [], h) Post) (hK16 : ∀ (r0 : Nat) (x1 : Int32) (x2 : Int32) (x3 : Int32) (x4 : Int32) (h : gm_H), K16 r0 x1 x2 x3 x4 h → gV c d 36 (16, [some (.ref r0), some (.int x1), some (.int x2), some (.int x3), some (.int x4), none, none], [], h) Post) : ∀ (n : Nat) (r0 : Nat) (x1 : Int32) (x2 : Int32) (x3 : Int32) (x4 : Int32) (x5 : Int32) (h : gm_H), wl36_25 c d Post K2 K16 n r0 x1 x2 x3 x4 x5 h → gV c d 36 (25, [some (.ref r0), some (.int x1), some (.int x2), some (.int x3), some (.int x4), some (.int x5), none], [], h) Post
  | 0, _, _, _, _, _, _, _, w => w.elim
  | n + 1, r0, x1, x2, x3, x4, x5, h, w => okb36_25 c d Post K2 K16 (wl36_25 c d Post K2 K16 n) hK2 hK16 (okl36_25 c d Post K2 K16 hK2 hK16 n) r0 x1 x2 x3 x4 x5 h w
def wb36_16 (c : gx) (d : Nat) (Post : Option Value → gm_H → Prop) (K2 : Nat → Int32 → Int32 → Int32 → gm_H → Prop) (K16 : Nat → Int32 → Int32 → Int32 → Int32 → gm_H → Prop) (r0 : Nat) (x1 : Int32) (x2 : Int32) (x3 : Int32) (x4 : Int32) (h : gm_H) : Prop :=
  ((1 < x4 → K2 r0 x1 x2 (x3 + 1) h) ∧ (¬ (1 < x4) → ∃ n, wl36_25 c d Post K2 K16 n r0 x1 x2 x3 x4 0 h))
theorem okb36_16 (c : gx) (d : Nat) (Post : Option Value → gm_H → Prop) (K2 : Nat → Int32 → Int32 → Int32 → gm_H → Prop) (K16 : Nat → Int32 → Int32 → Int32 → Int32 → gm_H → Prop)  (hK2 : ∀ (r0 : Nat) (x1 : Int32) (x2 : Int32) (x3 : Int32) (h : gm_H), K2 r0 x1 x2 x3 h → gV c d 36 (2, [some (.ref r0), some (.int x1), some (.int x2), some (.int x3), none, none, none], [], h) Post) (hK16 : ∀ (r0 : Nat) (x1 : Int32) (x2 : Int32) (x3 : Int32) (x4 : Int32) (h : gm_H), K16 r0 x1 x2 x3 x4 h → gV c d 36 (16, [some (.ref r0), some (.int x1), some (.int x2), some (.int x3), some (.int x4), none, none], [], h) Post) (r0 : Nat) (x1 : Int32) (x2 : Int32) (x3 : Int32) (x4 : Int32) (h : gm_H) (w : wb36_16 c d Post K2 K16 r0 x1 x2 x3 x4 h) : gV c d 36 (16, [some (.ref r0), some (.int x1), some (.int x2), some (.int x3), some (.int x4), none, none], [], h) Post := by
  have hk : ∀ pc i, gm_find gk_36 pc = some i → gm_code (gt_T c.1 c.2.1 c.2.2.1) 36 pc = some i := fun _ _ z => z
  unfold wb36_16 at w
  unfold gV
  refine gw_pst hk 2 (st' := (19, [some (.ref r0), some (.int x1), some (.int x2), some (.int x3), some (.int x4), none, none], [.int 1, .int x4], h)) rfl ?_
  refine gw_br (c := 1 < x4) (a := (112, [some (.ref r0), some (.int x1), some (.int x2), some (.int x3), some (.int x4), none, none], [], h)) (b := (22, [some (.ref r0), some (.int x1), some (.int x2), some (.int x3), some (.int x4), none, none], [], h)) (hk _ _ rfl) rfl ⟨fun z1 => ?_, fun z1 => ?_⟩
  · replace w := w.1 z1
    refine gw_pst hk 2 (st' := (2, [some (.ref r0), some (.int x1), some (.int x2), some (.int (x3 + 1)), some (.int x4), none, none], [], h)) rfl ?_
    refine gw_le (L' := [some (.ref r0), some (.int x1), some (.int x2), some (.int (x3 + 1)), none, none, none]) (gm_le_k _ (gm_le_k _ (gm_le_k _ (gm_le_k _ (gm_le_n _ (gm_le_k _ (gm_le_k _ gm_le_nil))))))) ?_
    exact hK2 _ _ _ _ _ w
  · replace w := w.2 z1
    refine gw_pst hk 2 (st' := (25, [some (.ref r0), some (.int x1), some (.int x2), some (.int x3), some (.int x4), some (.int 0), none], [], h)) rfl ?_
    obtain ⟨n, w⟩ := w
    exact okl36_25 c d Post K2 K16 hK2 hK16 n _ _ _ _ _ _ _ w
def wl36_16 (c : gx) (d : Nat) (Post : Option Value → gm_H → Prop) (K2 : Nat → Int32 → Int32 → Int32 → gm_H → Prop) : Nat → Nat → Int32 → Int32 → Int32 → Int32 → gm_H → Prop
  | 0 => fun _ _ _ _ _ _ => False
  | n + 1 => wb36_16 c d Post K2 (wl36_16 c d Post K2 n)
theorem okl36_16 (c : gx) (d : Nat) (Post : Option Value → gm_H → Prop) (K2 : Nat → Int32 → Int32 → Int32 → gm_H → Prop) (hK2 : ∀ (r0 : Nat) (x1 : Int32) (x2 : Int32) (x3 : Int32) (h : gm_H), K2 r0 x1 x2 x3 h → gV c d 36 (2, [some (.ref r0), some (.int x1), some (.int x2), some (.int x3), none, none, none], [], h) Post) : ∀ (n : Nat) (r0 : Nat) (x1 : Int32) (x2 : Int32) (x3 : Int32) (x4 : Int32) (h : gm_H), wl36_16 c d Post K2 n r0 x1 x2 x3 x4 h → gV c d 36 (16, [some (.ref r0), some (.int x1), some (.int x2), some (.int x3), some (.int x4), none, none], [], h) Post
  | 0, _, _, _, _, _, _, w => w.elim
  | n + 1, r0, x1, x2, x3, x4, h, w => okb36_16 c d Post K2 (wl36_16 c d Post K2 n) hK2 (okl36_16 c d Post K2 hK2 n) r0 x1 x2 x3 x4 h w
def w36_118 (c : gx) (d : Nat) (Post : Option Value → gm_H → Prop) (r0 : Nat) (x1 : Int32) (x2 : Int32) (h : gm_H) : Prop :=
  (∃ fs1, gm_get h r0 = some (.inr (3, fs1))) ∧ gE c d 38 [.ref r0, .int (x1 - 1), .int 0, .int x2] h (fun v1 h_1 => ∃ x_1 : Int32, v1 = some (.int x_1) ∧ (∃ fs2, gm_get h_1 r0 = some (.inr (3, fs2))) ∧ gE c d 38 [.ref r0, .int (x1 - 1), .int 1, .int x2] h_1 (fun v2 h_2 => ∃ x_2 : Int32, v2 = some (.int x_2) ∧ Post (some (.int (x_1 + x_2))) h_2))
theorem ok36_118 (c : gx) (d : Nat) (Post : Option Value → gm_H → Prop)  (r0 : Nat) (x1 : Int32) (x2 : Int32) (h : gm_H) (w : w36_118 c d Post r0 x1 x2 h) : gV c d 36 (118, [some (.ref r0), some (.int x1), some (.int x2), none, none, none, none], [], h) Post := by
  have hk : ∀ pc i, gm_find gk_36 pc = some i → gm_code (gt_T c.1 c.2.1 c.2.2.1) 36 pc = some i := fun _ _ z => z
  unfold w36_118 at w
  unfold gV
  refine gw_pst hk 6 (st' := (124, [some (.ref r0), some (.int x1), some (.int x2), none, none, none, none], [.int x2, .int 0, .int (x1 - 1), .ref r0], h)) rfl ?_
  obtain ⟨⟨fs1, e1⟩, w⟩ := w
  refine gw_call (jj := 38) (As := [.ref r0, .int (x1 - 1), .int 0, .int x2]) (rest := []) (hk _ _ rfl) (fun _ => rfl) rfl rfl (Nat.le_of_ble_eq_true rfl) (gm_rcv_v rfl e1 rfl) ?_
  refine ge_imp w (fun v1 h_1 w => ?_)
  obtain ⟨x_1, rfl, w⟩ := w
  show gV c d 36 (127, [some (.ref r0), some (.int x1), some (.int x2), none, none, none, none], [.int x_1], h_1) Post
  refine gw_pst hk 6 (st' := (133, [some (.ref r0), some (.int x1), some (.int x2), none, none, none, none], [.int x2, .int 1, .int (x1 - 1), .ref r0, .int x_1], h_1)) rfl ?_
  obtain ⟨⟨fs2, e2⟩, w⟩ := w
  refine gw_call (jj := 38) (As := [.ref r0, .int (x1 - 1), .int 1, .int x2]) (rest := [.int x_1]) (hk _ _ rfl) (fun _ => rfl) rfl rfl (Nat.le_of_ble_eq_true rfl) (gm_rcv_v rfl e2 rfl) ?_
  refine ge_imp w (fun v2 h_2 w => ?_)
  obtain ⟨x_2, rfl, w⟩ := w
  show gV c d 36 (136, [some (.ref r0), some (.int x1), some (.int x2), none, none, none, none], [.int x_2, .int x_1], h_2) Post
  refine gw_pst hk 1 (st' := (137, [some (.ref r0), some (.int x1), some (.int x2), none, none, none, none], [.int (x_1 + x_2)], h_2)) rfl ?_
  exact gw_ret (hk _ _ rfl) rfl w
def wb36_2 (c : gx) (d : Nat) (Post : Option Value → gm_H → Prop) (K2 : Nat → Int32 → Int32 → Int32 → gm_H → Prop) (r0 : Nat) (x1 : Int32) (x2 : Int32) (x3 : Int32) (h : gm_H) : Prop :=
  ((x1 ≤ x3 → w36_118 c d Post r0 x1 x2 h) ∧ (¬ (x1 ≤ x3) → ((20 ≤ x3 → w36_118 c d Post r0 x1 x2 h) ∧ (¬ (20 ≤ x3) → ∃ n, wl36_16 c d Post K2 n r0 x1 x2 x3 0 h))))
theorem okb36_2 (c : gx) (d : Nat) (Post : Option Value → gm_H → Prop) (K2 : Nat → Int32 → Int32 → Int32 → gm_H → Prop)  (hK2 : ∀ (r0 : Nat) (x1 : Int32) (x2 : Int32) (x3 : Int32) (h : gm_H), K2 r0 x1 x2 x3 h → gV c d 36 (2, [some (.ref r0), some (.int x1), some (.int x2), some (.int x3), none, none, none], [], h) Post) (r0 : Nat) (x1 : Int32) (x2 : Int32) (x3 : Int32) (h : gm_H) (w : wb36_2 c d Post K2 r0 x1 x2 x3 h) : gV c d 36 (2, [some (.ref r0), some (.int x1), some (.int x2), some (.int x3), none, none, none], [], h) Post := by
  have hk : ∀ pc i, gm_find gk_36 pc = some i → gm_code (gt_T c.1 c.2.1 c.2.2.1) 36 pc = some i := fun _ _ z => z
  unfold wb36_2 at w
  unfold gV
  refine gw_pst hk 2 (st' := (4, [some (.ref r0), some (.int x1), some (.int x2), some (.int x3), none, none, none], [.int x1, .int x3], h)) rfl ?_
  refine gw_br (c := x1 ≤ x3) (a := (118, [some (.ref r0), some (.int x1), some (.int x2), some (.int x3), none, none, none], [], h)) (b := (7, [some (.ref r0), some (.int x1), some (.int x2), some (.int x3), none, none, none], [], h)) (hk _ _ rfl) rfl ⟨fun z1 => ?_, fun z1 => ?_⟩
  · replace w := w.1 z1
    refine gw_le (L' := [some (.ref r0), some (.int x1), some (.int x2), none, none, none, none]) (gm_le_k _ (gm_le_k _ (gm_le_k _ (gm_le_n _ (gm_le_k _ (gm_le_k _ (gm_le_k _ gm_le_nil))))))) ?_
    exact ok36_118 c d Post _ _ _ _ w
  · replace w := w.2 z1
    refine gw_pst hk 2 (st' := (10, [some (.ref r0), some (.int x1), some (.int x2), some (.int x3), none, none, none], [.int 20, .int x3], h)) rfl ?_
    refine gw_br (c := 20 ≤ x3) (a := (118, [some (.ref r0), some (.int x1), some (.int x2), some (.int x3), none, none, none], [], h)) (b := (13, [some (.ref r0), some (.int x1), some (.int x2), some (.int x3), none, none, none], [], h)) (hk _ _ rfl) rfl ⟨fun z2 => ?_, fun z2 => ?_⟩
    · replace w := w.1 z2
      refine gw_le (L' := [some (.ref r0), some (.int x1), some (.int x2), none, none, none, none]) (gm_le_k _ (gm_le_k _ (gm_le_k _ (gm_le_n _ (gm_le_k _ (gm_le_k _ (gm_le_k _ gm_le_nil))))))) ?_
      exact ok36_118 c d Post _ _ _ _ w
    · replace w := w.2 z2
      refine gw_pst hk 2 (st' := (16, [some (.ref r0), some (.int x1), some (.int x2), some (.int x3), some (.int 0), none, none], [], h)) rfl ?_
      obtain ⟨n, w⟩ := w
      exact okl36_16 c d Post K2 hK2 n _ _ _ _ _ _ w
def wl36_2 (c : gx) (d : Nat) (Post : Option Value → gm_H → Prop) : Nat → Nat → Int32 → Int32 → Int32 → gm_H → Prop
  | 0 => fun _ _ _ _ _ => False
  | n + 1 => wb36_2 c d Post (wl36_2 c d Post n)
theorem okl36_2 (c : gx) (d : Nat) (Post : Option Value → gm_H → Prop) : ∀ (n : Nat) (r0 : Nat) (x1 : Int32) (x2 : Int32) (x3 : Int32) (h : gm_H), wl36_2 c d Post n r0 x1 x2 x3 h → gV c d 36 (2, [some (.ref r0), some (.int x1), some (.int x2), some (.int x3), none, none, none], [], h) Post
  | 0, _, _, _, _, _, w => w.elim
  | n + 1, r0, x1, x2, x3, h, w => okb36_2 c d Post (wl36_2 c d Post n) (okl36_2 c d Post n) r0 x1 x2 x3 h w
/-- CommandByTurns$OldWar.ways(II)I -/
def wm36 (c : gx) (d : Nat) (Post : Option Value → gm_H → Prop) (r0 : Nat) (x1 : Int32) (x2 : Int32) (h : gm_H) : Prop :=
  ∃ n, wl36_2 c d Post n r0 x1 x2 0 h
theorem okm36 (c : gx) (d : Nat) (Post : Option Value → gm_H → Prop) (r0 : Nat) (x1 : Int32) (x2 : Int32) (h : gm_H) (w : wm36 c d Post r0 x1 x2 h) : gE c (d + 1) 36 [.ref r0, .int x1, .int x2] h Post := by
  have hk : ∀ pc i, gm_find gk_36 pc = some i → gm_code (gt_T c.1 c.2.1 c.2.2.1) 36 pc = some i := fun _ _ z => z
  unfold wm36 at w
  refine ge_of (by decide) (Nat.le_of_ble_eq_true rfl) ?_
  show gV c d 36 (0, [some (.ref r0), some (.int x1), some (.int x2), none, none, none, none], [], h) Post
  unfold gV
  refine gw_pst hk 2 (st' := (2, [some (.ref r0), some (.int x1), some (.int x2), some (.int 0), none, none, none], [], h)) rfl ?_
  obtain ⟨n, w⟩ := w
  exact okl36_2 c d Post n _ _ _ _ _ w
def w37_32 (c : gx) (d : Nat) (Post : Option Value → gm_H → Prop) (xs0 : Int32) (h : gm_H) : Prop :=
  Post (some (.int xs0)) h
theorem ok37_32 (c : gx) (d : Nat) (Post : Option Value → gm_H → Prop)  (xs0 : Int32) (h : gm_H) (w : w37_32 c d Post xs0 h) : gV c d 37 (32, [none, none, none, none, none], [.int xs0], h) Post := by
  have hk : ∀ pc i, gm_find gk_37 pc = some i → gm_code (gt_T c.1 c.2.1 c.2.2.1) 37 pc = some i := fun _ _ z => z
  unfold w37_32 at w
  unfold gV
  exact gw_ret (hk _ _ rfl) rfl w
/-- CommandByTurns$OldWar.waysAhead(IIII)I -/
def wm37 (c : gx) (d : Nat) (Post : Option Value → gm_H → Prop) (r0 : Nat) (x1 : Int32) (x2 : Int32) (x3 : Int32) (x4 : Int32) (h : gm_H) : Prop :=
  ((x1 = 0 → w37_32 c d Post 1 h) ∧ (¬ (x1 = 0) → (∃ fs2, gm_get h r0 = some (.inr (3, fs2))) ∧ gE c d 38 [.ref r0, .int (x1 - 1), .int (1 - x2), .int x4] h (fun v2 h_2 => ∃ x_2 : Int32, v2 = some (.int x_2) ∧ (∃ fs3, gm_get h_2 r0 = some (.inr (3, fs3))) ∧ gE c d 38 [.ref r0, .int (x1 - 1), .int x2, .int (x3 - 1)] h_2 (fun v3 h_3 => ∃ x_3 : Int32, v3 = some (.int x_3) ∧ w37_32 c d Post (x_2 + x_3) h_3))))
theorem okm37 (c : gx) (d : Nat) (Post : Option Value → gm_H → Prop) (r0 : Nat) (x1 : Int32) (x2 : Int32) (x3 : Int32) (x4 : Int32) (h : gm_H) (w : wm37 c d Post r0 x1 x2 x3 x4 h) : gE c (d + 1) 37 [.ref r0, .int x1, .int x2, .int x3, .int x4] h Post := by
  have hk : ∀ pc i, gm_find gk_37 pc = some i → gm_code (gt_T c.1 c.2.1 c.2.2.1) 37 pc = some i := fun _ _ z => z
  unfold wm37 at w
  refine ge_of (by decide) (Nat.le_of_ble_eq_true rfl) ?_
  show gV c d 37 (0, [some (.ref r0), some (.int x1), some (.int x2), some (.int x3), some (.int x4)], [], h) Post
  unfold gV
  refine gw_pst hk 1 (st' := (1, [some (.ref r0), some (.int x1), some (.int x2), some (.int x3), some (.int x4)], [.int x1], h)) rfl ?_
  refine gw_br (c := x1 = 0) (a := (4, [some (.ref r0), some (.int x1), some (.int x2), some (.int x3), some (.int x4)], [], h)) (b := (8, [some (.ref r0), some (.int x1), some (.int x2), some (.int x3), some (.int x4)], [], h)) (hk _ _ rfl) rfl ⟨fun z1 => ?_, fun z1 => ?_⟩
  · replace w := w.1 z1
    refine gw_pst hk 2 (st' := (32, [some (.ref r0), some (.int x1), some (.int x2), some (.int x3), some (.int x4)], [.int 1], h)) rfl ?_
    refine gw_le (L' := [none, none, none, none, none]) (gm_le_n _ (gm_le_n _ (gm_le_n _ (gm_le_n _ (gm_le_n _ gm_le_nil))))) ?_
    exact ok37_32 c d Post _ _ w
  · replace w := w.2 z1
    refine gw_pst hk 8 (st' := (17, [some (.ref r0), some (.int x1), some (.int x2), some (.int x3), some (.int x4)], [.int x4, .int (1 - x2), .int (x1 - 1), .ref r0], h)) rfl ?_
    obtain ⟨⟨fs2, e2⟩, w⟩ := w
    refine gw_call (jj := 38) (As := [.ref r0, .int (x1 - 1), .int (1 - x2), .int x4]) (rest := []) (hk _ _ rfl) (fun _ => rfl) rfl rfl (Nat.le_of_ble_eq_true rfl) (gm_rcv_v rfl e2 rfl) ?_
    refine ge_imp w (fun v2 h_2 w => ?_)
    obtain ⟨x_2, rfl, w⟩ := w
    show gV c d 37 (20, [some (.ref r0), some (.int x1), some (.int x2), some (.int x3), some (.int x4)], [.int x_2], h_2) Post
    refine gw_pst hk 8 (st' := (28, [some (.ref r0), some (.int x1), some (.int x2), some (.int x3), some (.int x4)], [.int (x3 - 1), .int x2, .int (x1 - 1), .ref r0, .int x_2], h_2)) rfl ?_
    obtain ⟨⟨fs3, e3⟩, w⟩ := w
    refine gw_call (jj := 38) (As := [.ref r0, .int (x1 - 1), .int x2, .int (x3 - 1)]) (rest := [.int x_2]) (hk _ _ rfl) (fun _ => rfl) rfl rfl (Nat.le_of_ble_eq_true rfl) (gm_rcv_v rfl e3 rfl) ?_
    refine ge_imp w (fun v3 h_3 w => ?_)
    obtain ⟨x_3, rfl, w⟩ := w
    show gV c d 37 (31, [some (.ref r0), some (.int x1), some (.int x2), some (.int x3), some (.int x4)], [.int x_3, .int x_2], h_3) Post
    refine gw_pst hk 1 (st' := (32, [some (.ref r0), some (.int x1), some (.int x2), some (.int x3), some (.int x4)], [.int (x_2 + x_3)], h_3)) rfl ?_
    refine gw_le (L' := [none, none, none, none, none]) (gm_le_n _ (gm_le_n _ (gm_le_n _ (gm_le_n _ (gm_le_n _ gm_le_nil))))) ?_
    exact ok37_32 c d Post _ _ w
def w38_38 (c : gx) (d : Nat) (Post : Option Value → gm_H → Prop) (xs0 : Int32) (h : gm_H) : Prop :=
  Post (some (.int xs0)) h
theorem ok38_38 (c : gx) (d : Nat) (Post : Option Value → gm_H → Prop)  (xs0 : Int32) (h : gm_H) (w : w38_38 c d Post xs0 h) : gV c d 38 (38, [none, none, none, none, none], [.int xs0], h) Post := by
  have hk : ∀ pc i, gm_find gk_38 pc = some i → gm_code (gt_T c.1 c.2.1 c.2.2.1) 38 pc = some i := fun _ _ z => z
  unfold w38_38 at w
  unfold gV
  exact gw_ret (hk _ _ rfl) rfl w
def w38_37 (c : gx) (d : Nat) (Post : Option Value → gm_H → Prop)  (h : gm_H) : Prop :=
  w38_38 c d Post 0 h
theorem ok38_37 (c : gx) (d : Nat) (Post : Option Value → gm_H → Prop)   (h : gm_H) (w : w38_37 c d Post  h) : gV c d 38 (37, [none, none, none, none, none], [], h) Post := by
  have hk : ∀ pc i, gm_find gk_38 pc = some i → gm_code (gt_T c.1 c.2.1 c.2.2.1) 38 pc = some i := fun _ _ z => z
  unfold w38_37 at w
  unfold gV
  refine gw_pst hk 1 (st' := (38, [none, none, none, none, none], [.int 0], h)) rfl ?_
  exact ok38_38 c d Post _ _ w
/-- CommandByTurns$OldWar.waysUpTo(III)I -/
def wm38 (c : gx) (d : Nat) (Post : Option Value → gm_H → Prop) (r0 : Nat) (x1 : Int32) (x2 : Int32) (x3 : Int32) (h : gm_H) : Prop :=
  (((((8 * x1) + (4 * x2)) + x3) < 0 → w38_37 c d Post h) ∧ (¬ ((((8 * x1) + (4 * x2)) + x3) < 0) → ∃ q_2 : Nat, gm_fld h r0 3 3 = some (.ref q_2) ∧ ∃ (n3 : Nat) (f3 : Nat → Int32), gm_get h q_2 = some (.inl (0, n3, .inl f3)) ∧ (((Int32.ofNat n3) ≤ (((8 * x1) + (4 * x2)) + x3) → w38_37 c d Post h) ∧ (¬ ((Int32.ofNat n3) ≤ (((8 * x1) + (4 * x2)) + x3)) → ∃ q_5 : Nat, gm_fld h r0 3 3 = some (.ref q_5) ∧ ∃ (n6 : Nat) (f6 : Nat → Int32), gm_get h q_5 = some (.inl (0, n6, .inl f6)) ∧ vp_in (((8 * x1) + (4 * x2)) + x3) n6 ∧ w38_38 c d Post (f6 (((8 * x1) + (4 * x2)) + x3 : Int32).toNatClampNeg) h))))
theorem okm38 (c : gx) (d : Nat) (Post : Option Value → gm_H → Prop) (r0 : Nat) (x1 : Int32) (x2 : Int32) (x3 : Int32) (h : gm_H) (w : wm38 c d Post r0 x1 x2 x3 h) : gE c (d + 1) 38 [.ref r0, .int x1, .int x2, .int x3] h Post := by
  have hk : ∀ pc i, gm_find gk_38 pc = some i → gm_code (gt_T c.1 c.2.1 c.2.2.1) 38 pc = some i := fun _ _ z => z
  unfold wm38 at w
  refine ge_of (by decide) (Nat.le_of_ble_eq_true rfl) ?_
  show gV c d 38 (0, [some (.ref r0), some (.int x1), some (.int x2), some (.int x3), none], [], h) Post
  unfold gV
  refine gw_pst hk 11 (st' := (14, [some (.ref r0), some (.int x1), some (.int x2), some (.int x3), some (.int (((8 * x1) + (4 * x2)) + x3))], [.int (((8 * x1) + (4 * x2)) + x3)], h)) rfl ?_
  refine gw_br (c := (((8 * x1) + (4 * x2)) + x3) < 0) (a := (37, [some (.ref r0), some (.int x1), some (.int x2), some (.int x3), some (.int (((8 * x1) + (4 * x2)) + x3))], [], h)) (b := (17, [some (.ref r0), some (.int x1), some (.int x2), some (.int x3), some (.int (((8 * x1) + (4 * x2)) + x3))], [], h)) (hk _ _ rfl) rfl ⟨fun z1 => ?_, fun z1 => ?_⟩
  · replace w := w.1 z1
    refine gw_le (L' := [none, none, none, none, none]) (gm_le_n _ (gm_le_n _ (gm_le_n _ (gm_le_n _ (gm_le_n _ gm_le_nil))))) ?_
    exact ok38_37 c d Post _ w
  · replace w := w.2 z1
    refine gw_pst hk 2 (st' := (20, [some (.ref r0), some (.int x1), some (.int x2), some (.int x3), some (.int (((8 * x1) + (4 * x2)) + x3))], [.ref r0, .int (((8 * x1) + (4 * x2)) + x3)], h)) rfl ?_
    obtain ⟨q_2, e2, w⟩ := w
    refine gw_gf (hk _ _ rfl) e2 ?_
    obtain ⟨n3, f3, e3, w⟩ := w
    refine gw_alen (hk _ _ rfl) e3 (by decide) ?_
    refine gw_br (c := (Int32.ofNat n3) ≤ (((8 * x1) + (4 * x2)) + x3)) (a := (37, [some (.ref r0), some (.int x1), some (.int x2), some (.int x3), some (.int (((8 * x1) + (4 * x2)) + x3))], [], h)) (b := (27, [some (.ref r0), some (.int x1), some (.int x2), some (.int x3), some (.int (((8 * x1) + (4 * x2)) + x3))], [], h)) (hk _ _ rfl) rfl ⟨fun z4 => ?_, fun z4 => ?_⟩
    · replace w := w.1 z4
      refine gw_le (L' := [none, none, none, none, none]) (gm_le_n _ (gm_le_n _ (gm_le_n _ (gm_le_n _ (gm_le_n _ gm_le_nil))))) ?_
      exact ok38_37 c d Post _ w
    · replace w := w.2 z4
      refine gw_pst hk 1 (st' := (28, [some (.ref r0), some (.int x1), some (.int x2), some (.int x3), some (.int (((8 * x1) + (4 * x2)) + x3))], [.ref r0], h)) rfl ?_
      obtain ⟨q_5, e5, w⟩ := w
      refine gw_gf (hk _ _ rfl) e5 ?_
      refine gw_pst hk 1 (st' := (33, [some (.ref r0), some (.int x1), some (.int x2), some (.int x3), some (.int (((8 * x1) + (4 * x2)) + x3))], [.int (((8 * x1) + (4 * x2)) + x3), .ref q_5], h)) rfl ?_
      obtain ⟨n6, f6, e6, b6, w⟩ := w
      refine gw_ald (hk _ _ rfl) (Or.inl ⟨rfl, rfl⟩) e6 b6 ?_
      refine gw_pst hk 1 (st' := (38, [some (.ref r0), some (.int x1), some (.int x2), some (.int x3), some (.int (((8 * x1) + (4 * x2)) + x3))], [.int (f6 (((8 * x1) + (4 * x2)) + x3 : Int32).toNatClampNeg)], h)) rfl ?_
      refine gw_le (L' := [none, none, none, none, none]) (gm_le_n _ (gm_le_n _ (gm_le_n _ (gm_le_n _ (gm_le_n _ gm_le_nil))))) ?_
      exact ok38_38 c d Post _ _ w
def w39_67 (c : gx) (d : Nat) (Post : Option Value → gm_H → Prop) (K34 : Nat → Int32 → Int32 → Int32 → Int32 → gm_H → Prop) (r0 : Nat) (x2 : Int32) (x3 : Int32) (x4 : Int32) (x5 : Int32) (h : gm_H) : Prop :=
  K34 r0 x2 x3 x4 (x5 + (-1)) h
theorem ok39_67 (c : gx) (d : Nat) (Post : Option Value → gm_H → Prop) (K34 : Nat → Int32 → Int32 → Int32 → Int32 → gm_H → Prop)  (hK34 : ∀ (r0 : Nat) (x2 : Int32) (x3 : Int32) (x4 : Int32) (x5 : Int32) (h : gm_H), K34 r0 x2 x3 x4 x5 h → gV c d 39 (34, [some (.ref r0), none, some (.int x2), some (.int x3), some (.int x4), some (.int x5)], [], h) Post) (r0 : Nat) (x2 : Int32) (x3 : Int32) (x4 : Int32) (x5 : Int32) (h : gm_H) (w : w39_67 c d Post K34 r0 x2 x3 x4 x5 h) : gV c d 39 (67, [some (.ref r0), none, some (.int x2), some (.int x3), some (.int x4), some (.int x5)], [], h) Post := by
  have hk : ∀ pc i, gm_find gk_39 pc = some i → gm_code (gt_T c.1 c.2.1 c.2.2.1) 39 pc = some i := fun _ _ z => z
  unfold w39_67 at w
  unfold gV
  refine gw_pst hk 2 (st' := (34, [some (.ref r0), none, some (.int x2), some (.int x3), some (.int x4), some (.int (x5 + (-1)))], [], h)) rfl ?_
  exact hK34 _ _ _ _ _ _ w
def wb39_34 (c : gx) (d : Nat) (Post : Option Value → gm_H → Prop) (K34 : Nat → Int32 → Int32 → Int32 → Int32 → gm_H → Prop) (r0 : Nat) (x2 : Int32) (x3 : Int32) (x4 : Int32) (x5 : Int32) (h : gm_H) : Prop :=
  ((x5 < 0 → Post (some (.int x3)) h) ∧ (¬ (x5 < 0) → (∃ fs2, gm_get h r0 = some (.inr (3, fs2))) ∧ gE c d 38 [.ref r0, .int x5, .int 0, .int x4] h (fun v2 h_2 => ∃ x_2 : Int32, v2 = some (.int x_2) ∧ ((x_2 ≤ 0 → w39_67 c d Post K34 r0 x2 (x3 ||| (1 <<< (x5 &&& 31))) x2 x5 h_2) ∧ (¬ (x_2 ≤ 0) → w39_67 c d Post K34 r0 x2 x3 (x4 + (-1)) x5 h_2)))))
theorem okb39_34 (c : gx) (d : Nat) (Post : Option Value → gm_H → Prop) (K34 : Nat → Int32 → Int32 → Int32 → Int32 → gm_H → Prop)  (hK34 : ∀ (r0 : Nat) (x2 : Int32) (x3 : Int32) (x4 : Int32) (x5 : Int32) (h : gm_H), K34 r0 x2 x3 x4 x5 h → gV c d 39 (34, [some (.ref r0), none, some (.int x2), some (.int x3), some (.int x4), some (.int x5)], [], h) Post) (r0 : Nat) (x2 : Int32) (x3 : Int32) (x4 : Int32) (x5 : Int32) (h : gm_H) (w : wb39_34 c d Post K34 r0 x2 x3 x4 x5 h) : gV c d 39 (34, [some (.ref r0), none, some (.int x2), some (.int x3), some (.int x4), some (.int x5)], [], h) Post := by
  have hk : ∀ pc i, gm_find gk_39 pc = some i → gm_code (gt_T c.1 c.2.1 c.2.2.1) 39 pc = some i := fun _ _ z => z
  unfold wb39_34 at w
  unfold gV
  refine gw_pst hk 1 (st' := (36, [some (.ref r0), none, some (.int x2), some (.int x3), some (.int x4), some (.int x5)], [.int x5], h)) rfl ?_
  refine gw_br (c := x5 < 0) (a := (73, [some (.ref r0), none, some (.int x2), some (.int x3), some (.int x4), some (.int x5)], [], h)) (b := (39, [some (.ref r0), none, some (.int x2), some (.int x3), some (.int x4), some (.int x5)], [], h)) (hk _ _ rfl) rfl ⟨fun z1 => ?_, fun z1 => ?_⟩
  · replace w := w.1 z1
    refine gw_pst hk 1 (st' := (74, [some (.ref r0), none, some (.int x2), some (.int x3), some (.int x4), some (.int x5)], [.int x3], h)) rfl ?_
    exact gw_ret (hk _ _ rfl) rfl w
  · replace w := w.2 z1
    refine gw_pst hk 4 (st' := (45, [some (.ref r0), none, some (.int x2), some (.int x3), some (.int x4), some (.int x5)], [.int x4, .int 0, .int x5, .ref r0], h)) rfl ?_
    obtain ⟨⟨fs2, e2⟩, w⟩ := w
    refine gw_call (jj := 38) (As := [.ref r0, .int x5, .int 0, .int x4]) (rest := []) (hk _ _ rfl) (fun _ => rfl) rfl rfl (Nat.le_of_ble_eq_true rfl) (gm_rcv_v rfl e2 rfl) ?_
    refine ge_imp w (fun v2 h_2 w => ?_)
    obtain ⟨x_2, rfl, w⟩ := w
    show gV c d 39 (48, [some (.ref r0), none, some (.int x2), some (.int x3), some (.int x4), some (.int x5)], [.int x_2], h_2) Post
    refine gw_br (c := x_2 ≤ 0) (a := (57, [some (.ref r0), none, some (.int x2), some (.int x3), some (.int x4), some (.int x5)], [], h_2)) (b := (51, [some (.ref r0), none, some (.int x2), some (.int x3), some (.int x4), some (.int x5)], [], h_2)) (hk _ _ rfl) rfl ⟨fun z3 => ?_, fun z3 => ?_⟩
    · replace w := w.1 z3
      refine gw_pst hk 8 (st' := (67, [some (.ref r0), none, some (.int x2), some (.int (x3 ||| (1 <<< (x5 &&& 31)))), some (.int x2), some (.int x5)], [], h_2)) rfl ?_
      exact ok39_67 c d Post K34 hK34 _ _ _ _ _ _ w
    · replace w := w.2 z3
      refine gw_pst hk 2 (st' := (67, [some (.ref r0), none, some (.int x2), some (.int x3), some (.int (x4 + (-1))), some (.int x5)], [], h_2)) rfl ?_
      exact ok39_67 c d Post K34 hK34 _ _ _ _ _ _ w
def wl39_34 (c : gx) (d : Nat) (Post : Option Value → gm_H → Prop) : Nat → Nat → Int32 → Int32 → Int32 → Int32 → gm_H → Prop
  | 0 => fun _ _ _ _ _ _ => False
  | n + 1 => wb39_34 c d Post (wl39_34 c d Post n)
theorem okl39_34 (c : gx) (d : Nat) (Post : Option Value → gm_H → Prop) : ∀ (n : Nat) (r0 : Nat) (x2 : Int32) (x3 : Int32) (x4 : Int32) (x5 : Int32) (h : gm_H), wl39_34 c d Post n r0 x2 x3 x4 x5 h → gV c d 39 (34, [some (.ref r0), none, some (.int x2), some (.int x3), some (.int x4), some (.int x5)], [], h) Post
  | 0, _, _, _, _, _, _, w => w.elim
  | n + 1, r0, x2, x3, x4, x5, h, w => okb39_34 c d Post (wl39_34 c d Post n) (okl39_34 c d Post n) r0 x2 x3 x4 x5 h w
/-- CommandByTurns$OldWar.leastWay(II)I -/
def wm39 (c : gx) (d : Nat) (Post : Option Value → gm_H → Prop) (r0 : Nat) (x1 : Int32) (x2 : Int32) (h : gm_H) : Prop :=
  (∃ fs1, gm_get h r0 = some (.inr (3, fs1))) ∧ gE c d 38 [.ref r0, .int (x1 - 1), .int 0, .int x2] h (fun v1 h_1 => ∃ x_1 : Int32, v1 = some (.int x_1) ∧ (∃ fs2, gm_get h_1 r0 = some (.inr (3, fs2))) ∧ gE c d 38 [.ref r0, .int (x1 - 1), .int 1, .int x2] h_1 (fun v2 h_2 => ∃ x_2 : Int32, v2 = some (.int x_2) ∧ (((x_1 + x_2) = 0 → Post (some (.int (-1))) h_2) ∧ (¬ ((x_1 + x_2) = 0) → ∃ n, wl39_34 c d Post n r0 x2 0 x2 (x1 - 1) h_2))))
theorem okm39 (c : gx) (d : Nat) (Post : Option Value → gm_H → Prop) (r0 : Nat) (x1 : Int32) (x2 : Int32) (h : gm_H) (w : wm39 c d Post r0 x1 x2 h) : gE c (d + 1) 39 [.ref r0, .int x1, .int x2] h Post := by
  have hk : ∀ pc i, gm_find gk_39 pc = some i → gm_code (gt_T c.1 c.2.1 c.2.2.1) 39 pc = some i := fun _ _ z => z
  unfold wm39 at w
  refine ge_of (by decide) (Nat.le_of_ble_eq_true rfl) ?_
  show gV c d 39 (0, [some (.ref r0), some (.int x1), some (.int x2), none, none, none], [], h) Post
  unfold gV
  refine gw_pst hk 6 (st' := (6, [some (.ref r0), some (.int x1), some (.int x2), none, none, none], [.int x2, .int 0, .int (x1 - 1), .ref r0], h)) rfl ?_
  obtain ⟨⟨fs1, e1⟩, w⟩ := w
  refine gw_call (jj := 38) (As := [.ref r0, .int (x1 - 1), .int 0, .int x2]) (rest := []) (hk _ _ rfl) (fun _ => rfl) rfl rfl (Nat.le_of_ble_eq_true rfl) (gm_rcv_v rfl e1 rfl) ?_
  refine ge_imp w (fun v1 h_1 w => ?_)
  obtain ⟨x_1, rfl, w⟩ := w
  show gV c d 39 (9, [some (.ref r0), some (.int x1), some (.int x2), none, none, none], [.int x_1], h_1) Post
  refine gw_pst hk 6 (st' := (15, [some (.ref r0), some (.int x1), some (.int x2), none, none, none], [.int x2, .int 1, .int (x1 - 1), .ref r0, .int x_1], h_1)) rfl ?_
  obtain ⟨⟨fs2, e2⟩, w⟩ := w
  refine gw_call (jj := 38) (As := [.ref r0, .int (x1 - 1), .int 1, .int x2]) (rest := [.int x_1]) (hk _ _ rfl) (fun _ => rfl) rfl rfl (Nat.le_of_ble_eq_true rfl) (gm_rcv_v rfl e2 rfl) ?_
  refine ge_imp w (fun v2 h_2 w => ?_)
  obtain ⟨x_2, rfl, w⟩ := w
  show gV c d 39 (18, [some (.ref r0), some (.int x1), some (.int x2), none, none, none], [.int x_2, .int x_1], h_2) Post
  refine gw_pst hk 1 (st' := (19, [some (.ref r0), some (.int x1), some (.int x2), none, none, none], [.int (x_1 + x_2)], h_2)) rfl ?_
  refine gw_br (c := (x_1 + x_2) = 0) (a := (22, [some (.ref r0), some (.int x1), some (.int x2), none, none, none], [], h_2)) (b := (24, [some (.ref r0), some (.int x1), some (.int x2), none, none, none], [], h_2)) (hk _ _ rfl) rfl ⟨fun z3 => ?_, fun z3 => ?_⟩
  · replace w := w.1 z3
    refine gw_pst hk 1 (st' := (23, [some (.ref r0), some (.int x1), some (.int x2), none, none, none], [.int (-1)], h_2)) rfl ?_
    exact gw_ret (hk _ _ rfl) rfl w
  · replace w := w.2 z3
    refine gw_pst hk 8 (st' := (34, [some (.ref r0), some (.int x1), some (.int x2), some (.int 0), some (.int x2), some (.int (x1 - 1))], [], h_2)) rfl ?_
    refine gw_le (L' := [some (.ref r0), none, some (.int x2), some (.int 0), some (.int x2), some (.int (x1 - 1))]) (gm_le_k _ (gm_le_n _ (gm_le_k _ (gm_le_k _ (gm_le_k _ (gm_le_k _ gm_le_nil)))))) ?_
    obtain ⟨n, w⟩ := w
    exact okl39_34 c d Post n _ _ _ _ _ _ w
