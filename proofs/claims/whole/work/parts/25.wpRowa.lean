/-! What must hold for a run to end with Post: by program (wip/whole/gen_wp.py). -/
def w44_39 (c : gx) (d : Nat) (Post : Option Value → gm_H → Prop)  (h : gm_H) : Prop :=
  Post none h
theorem ok44_39 (c : gx) (d : Nat) (Post : Option Value → gm_H → Prop)   (h : gm_H) (w : w44_39 c d Post  h) : gV c d 44 (39, [none, none, none], [], h) Post := by
  have hk : ∀ pc i, gm_find gk_44 pc = some i → gm_code (gt_T c.1 c.2.1 c.2.2.1) 44 pc = some i := fun _ _ z => z
  unfold w44_39 at w
  unfold gV
  exact gw_ret (hk _ _ rfl) rfl w
/-- CommandByTurns$Row.add(J)V -/
def wm44 (c : gx) (d : Nat) (Post : Option Value → gm_H → Prop) (r0 : Nat) (x1 : Int64) (h : gm_H) : Prop :=
  ∃ x_1 : Int32, gm_fld h r0 5 1 = some (.int x_1) ∧ ((x_1 < 0 → w44_39 c d Post h) ∧ (¬ (x_1 < 0) → ∃ x_3 : Int32, gm_fld h r0 5 1 = some (.int x_3) ∧ ∃ q_4 : Nat, gm_fld h r0 5 0 = some (.ref q_4) ∧ ∃ (n5 : Nat) (f5 : Nat → Int64), gm_get h q_4 = some (.inl (2, n5, .inr (.inl f5))) ∧ (((Int32.ofNat n5) ≤ x_3 → w44_39 c d Post h) ∧ (¬ ((Int32.ofNat n5) ≤ x_3) → ∃ q_7 : Nat, gm_fld h r0 5 0 = some (.ref q_7) ∧ ∃ x_8 : Int32, gm_fld h r0 5 1 = some (.int x_8) ∧ ∃ (n9 : Nat) (f9 : Nat → Int64), gm_get h q_7 = some (.inl (2, n9, .inr (.inl f9))) ∧ vp_in x_8 n9 ∧ ∀ h_9 : gm_H, h_9 = gm_put h q_7 (.inl (2, n9, .inr (.inl (vp_updL f9 (x_8 : Int32).toNatClampNeg x1)))) → ∃ x_10 : Int32, gm_fld h_9 r0 5 1 = some (.int x_10) ∧ ∃ fs11 : List Value, gm_get h_9 r0 = some (.inr (5, fs11)) ∧ 1 < fs11.length ∧ ∀ h_11 : gm_H, h_11 = gm_put h_9 r0 (.inr (5, fs11.set 1 (.int (x_10 + 1)))) → w44_39 c d Post h_11))))
theorem okm44 (c : gx) (d : Nat) (Post : Option Value → gm_H → Prop) (r0 : Nat) (x1 : Int64) (h : gm_H) (w : wm44 c d Post r0 x1 h) : gE c (d + 1) 44 [.ref r0, .long x1] h Post := by
  have hk : ∀ pc i, gm_find gk_44 pc = some i → gm_code (gt_T c.1 c.2.1 c.2.2.1) 44 pc = some i := fun _ _ z => z
  unfold wm44 at w
  refine ge_of (by decide) (Nat.le_of_ble_eq_true rfl) ?_
  show gV c d 44 (0, [some (.ref r0), some (.long x1), none], [], h) Post
  unfold gV
  refine gw_pst hk 1 (st' := (1, [some (.ref r0), some (.long x1), none], [.ref r0], h)) rfl ?_
  obtain ⟨x_1, e1, w⟩ := w
  refine gw_gf (hk _ _ rfl) e1 ?_
  refine gw_br (c := x_1 < 0) (a := (39, [some (.ref r0), some (.long x1), none], [], h)) (b := (7, [some (.ref r0), some (.long x1), none], [], h)) (hk _ _ rfl) rfl ⟨fun z2 => ?_, fun z2 => ?_⟩
  · replace w := w.1 z2
    refine gw_le (L' := [none, none, none]) (gm_le_n _ (gm_le_n _ (gm_le_k _ gm_le_nil))) ?_
    exact ok44_39 c d Post _ w
  · replace w := w.2 z2
    refine gw_pst hk 1 (st' := (8, [some (.ref r0), some (.long x1), none], [.ref r0], h)) rfl ?_
    obtain ⟨x_3, e3, w⟩ := w
    refine gw_gf (hk _ _ rfl) e3 ?_
    refine gw_pst hk 1 (st' := (12, [some (.ref r0), some (.long x1), none], [.ref r0, .int x_3], h)) rfl ?_
    obtain ⟨q_4, e4, w⟩ := w
    refine gw_gf (hk _ _ rfl) e4 ?_
    obtain ⟨n5, f5, e5, w⟩ := w
    refine gw_alen (hk _ _ rfl) e5 (by decide) ?_
    refine gw_br (c := (Int32.ofNat n5) ≤ x_3) (a := (39, [some (.ref r0), some (.long x1), none], [], h)) (b := (19, [some (.ref r0), some (.long x1), none], [], h)) (hk _ _ rfl) rfl ⟨fun z6 => ?_, fun z6 => ?_⟩
    · replace w := w.1 z6
      refine gw_le (L' := [none, none, none]) (gm_le_n _ (gm_le_n _ (gm_le_k _ gm_le_nil))) ?_
      exact ok44_39 c d Post _ w
    · replace w := w.2 z6
      refine gw_pst hk 1 (st' := (20, [some (.ref r0), some (.long x1), none], [.ref r0], h)) rfl ?_
      obtain ⟨q_7, e7, w⟩ := w
      refine gw_gf (hk _ _ rfl) e7 ?_
      refine gw_pst hk 1 (st' := (24, [some (.ref r0), some (.long x1), none], [.ref r0, .ref q_7], h)) rfl ?_
      obtain ⟨x_8, e8, w⟩ := w
      refine gw_gf (hk _ _ rfl) e8 ?_
      refine gw_pst hk 1 (st' := (28, [some (.ref r0), some (.long x1), none], [.long x1, .int x_8, .ref q_7], h)) rfl ?_
      obtain ⟨n9, f9, e9, b9, w⟩ := w
      refine gw_last (hk _ _ rfl) e9 b9 ?_
      obtain ⟨h_9, eh9⟩ : ∃ z, z = gm_put h q_7 (.inl (2, n9, .inr (.inl (vp_updL f9 (x_8 : Int32).toNatClampNeg x1)))) := ⟨_, rfl⟩
      rw [← eh9]
      replace w := w h_9 eh9
      refine gw_pst hk 2 (st' := (31, [some (.ref r0), some (.long x1), none], [.ref r0, .ref r0], h_9)) rfl ?_
      obtain ⟨x_10, e10, w⟩ := w
      refine gw_gf (hk _ _ rfl) e10 ?_
      refine gw_pst hk 2 (st' := (36, [some (.ref r0), some (.long x1), none], [.int (x_10 + 1), .ref r0], h_9)) rfl ?_
      obtain ⟨fs11, e11, l11, w⟩ := w
      refine gw_pf (hk _ _ rfl) e11 l11 rfl ?_
      obtain ⟨h_11, eh11⟩ : ∃ z, z = gm_put h_9 r0 (.inr (5, fs11.set 1 (.int (x_10 + 1)))) := ⟨_, rfl⟩
      rw [← eh11]
      replace w := w h_11 eh11
      refine gw_le (L' := [none, none, none]) (gm_le_n _ (gm_le_n _ (gm_le_k _ gm_le_nil))) ?_
      exact ok44_39 c d Post _ w
/-- CommandByTurns$Row.tellOne(J)V -/
def wm45 (c : gx) (d : Nat) (Post : Option Value → gm_H → Prop) (r0 : Nat) (x1 : Int64) (h : gm_H) : Prop :=
  ∃ fs1 : List Value, gm_get h r0 = some (.inr (5, fs1)) ∧ 1 < fs1.length ∧ ∀ h_1 : gm_H, h_1 = gm_put h r0 (.inr (5, fs1.set 1 (.int 0))) → (∃ fs2, gm_get h_1 r0 = some (.inr (5, fs2))) ∧ gE c d 44 [.ref r0, .long x1] h_1 (fun v2 h_2 => v2 = none ∧ Post none h_2)
theorem okm45 (c : gx) (d : Nat) (Post : Option Value → gm_H → Prop) (r0 : Nat) (x1 : Int64) (h : gm_H) (w : wm45 c d Post r0 x1 h) : gE c (d + 1) 45 [.ref r0, .long x1] h Post := by
  have hk : ∀ pc i, gm_find gk_45 pc = some i → gm_code (gt_T c.1 c.2.1 c.2.2.1) 45 pc = some i := fun _ _ z => z
  unfold wm45 at w
  refine ge_of (by decide) (Nat.le_of_ble_eq_true rfl) ?_
  show gV c d 45 (0, [some (.ref r0), some (.long x1), none], [], h) Post
  unfold gV
  refine gw_pst hk 2 (st' := (2, [some (.ref r0), some (.long x1), none], [.int 0, .ref r0], h)) rfl ?_
  obtain ⟨fs1, e1, l1, w⟩ := w
  refine gw_pf (hk _ _ rfl) e1 l1 rfl ?_
  obtain ⟨h_1, eh1⟩ : ∃ z, z = gm_put h r0 (.inr (5, fs1.set 1 (.int 0))) := ⟨_, rfl⟩
  rw [← eh1]
  replace w := w h_1 eh1
  refine gw_pst hk 2 (st' := (7, [some (.ref r0), some (.long x1), none], [.long x1, .ref r0], h_1)) rfl ?_
  obtain ⟨⟨fs2, e2⟩, w⟩ := w
  refine gw_call (jj := 44) (As := [.ref r0, .long x1]) (rest := []) (hk _ _ rfl) (fun _ => rfl) rfl rfl (Nat.le_of_ble_eq_true rfl) (gm_rcv_v rfl e2 rfl) ?_
  refine ge_imp w (fun v2 h_2 w => ?_)
  obtain ⟨rfl, w⟩ := w
  show gV c d 45 (10, [some (.ref r0), some (.long x1), none], [], h_2) Post
  exact gw_ret (hk _ _ rfl) rfl w
/-- CommandByTurns$Row.tellTwo(JJ)V -/
def wm46 (c : gx) (d : Nat) (Post : Option Value → gm_H → Prop) (r0 : Nat) (x1 : Int64) (x3 : Int64) (h : gm_H) : Prop :=
  ∃ fs1 : List Value, gm_get h r0 = some (.inr (5, fs1)) ∧ 1 < fs1.length ∧ ∀ h_1 : gm_H, h_1 = gm_put h r0 (.inr (5, fs1.set 1 (.int 0))) → (∃ fs2, gm_get h_1 r0 = some (.inr (5, fs2))) ∧ gE c d 44 [.ref r0, .long x1] h_1 (fun v2 h_2 => v2 = none ∧ (∃ fs3, gm_get h_2 r0 = some (.inr (5, fs3))) ∧ gE c d 44 [.ref r0, .long x3] h_2 (fun v3 h_3 => v3 = none ∧ Post none h_3))
theorem okm46 (c : gx) (d : Nat) (Post : Option Value → gm_H → Prop) (r0 : Nat) (x1 : Int64) (x3 : Int64) (h : gm_H) (w : wm46 c d Post r0 x1 x3 h) : gE c (d + 1) 46 [.ref r0, .long x1, .long x3] h Post := by
  have hk : ∀ pc i, gm_find gk_46 pc = some i → gm_code (gt_T c.1 c.2.1 c.2.2.1) 46 pc = some i := fun _ _ z => z
  unfold wm46 at w
  refine ge_of (by decide) (Nat.le_of_ble_eq_true rfl) ?_
  show gV c d 46 (0, [some (.ref r0), some (.long x1), none, some (.long x3), none], [], h) Post
  unfold gV
  refine gw_pst hk 2 (st' := (2, [some (.ref r0), some (.long x1), none, some (.long x3), none], [.int 0, .ref r0], h)) rfl ?_
  obtain ⟨fs1, e1, l1, w⟩ := w
  refine gw_pf (hk _ _ rfl) e1 l1 rfl ?_
  obtain ⟨h_1, eh1⟩ : ∃ z, z = gm_put h r0 (.inr (5, fs1.set 1 (.int 0))) := ⟨_, rfl⟩
  rw [← eh1]
  replace w := w h_1 eh1
  refine gw_pst hk 2 (st' := (7, [some (.ref r0), some (.long x1), none, some (.long x3), none], [.long x1, .ref r0], h_1)) rfl ?_
  obtain ⟨⟨fs2, e2⟩, w⟩ := w
  refine gw_call (jj := 44) (As := [.ref r0, .long x1]) (rest := []) (hk _ _ rfl) (fun _ => rfl) rfl rfl (Nat.le_of_ble_eq_true rfl) (gm_rcv_v rfl e2 rfl) ?_
  refine ge_imp w (fun v2 h_2 w => ?_)
  obtain ⟨rfl, w⟩ := w
  show gV c d 46 (10, [some (.ref r0), some (.long x1), none, some (.long x3), none], [], h_2) Post
  refine gw_pst hk 2 (st' := (12, [some (.ref r0), some (.long x1), none, some (.long x3), none], [.long x3, .ref r0], h_2)) rfl ?_
  obtain ⟨⟨fs3, e3⟩, w⟩ := w
  refine gw_call (jj := 44) (As := [.ref r0, .long x3]) (rest := []) (hk _ _ rfl) (fun _ => rfl) rfl rfl (Nat.le_of_ble_eq_true rfl) (gm_rcv_v rfl e3 rfl) ?_
  refine ge_imp w (fun v3 h_3 w => ?_)
  obtain ⟨rfl, w⟩ := w
  show gV c d 46 (15, [some (.ref r0), some (.long x1), none, some (.long x3), none], [], h_3) Post
  exact gw_ret (hk _ _ rfl) rfl w
