/-! What must hold for a run to end with Post: by program (wip/whole/gen_wp.py). -/
def w65_10 (c : gx) (d : Nat) (Post : Option Value → gm_H → Prop)  (h : gm_H) : Prop :=
  Post (some (.int 0)) h
theorem ok65_10 (c : gx) (d : Nat) (Post : Option Value → gm_H → Prop)   (h : gm_H) (w : w65_10 c d Post  h) : gV c d 65 (10, [none, none, none], [], h) Post := by
  have hk : ∀ pc i, gm_find gk_65 pc = some i → gm_code (gt_T c.1 c.2.1 c.2.2.1) 65 pc = some i := fun _ _ z => z
  unfold w65_10 at w
  unfold gV
  refine gw_pst hk 1 (st' := (11, [none, none, none], [.int 0], h)) rfl ?_
  exact gw_ret (hk _ _ rfl) rfl w
def w65_40 (c : gx) (d : Nat) (Post : Option Value → gm_H → Prop) (xs0 : Int32) (h : gm_H) : Prop :=
  Post (some (.int xs0)) h
theorem ok65_40 (c : gx) (d : Nat) (Post : Option Value → gm_H → Prop)  (xs0 : Int32) (h : gm_H) (w : w65_40 c d Post xs0 h) : gV c d 65 (40, [none, none, none], [.int xs0], h) Post := by
  have hk : ∀ pc i, gm_find gk_65 pc = some i → gm_code (gt_T c.1 c.2.1 c.2.2.1) 65 pc = some i := fun _ _ z => z
  unfold w65_40 at w
  unfold gV
  exact gw_ret (hk _ _ rfl) rfl w
/-- CommandByTurns$Walk.movesFrom(II)I -/
def wm65 (c : gx) (d : Nat) (Post : Option Value → gm_H → Prop) (r0 : Nat) (x1 : Int32) (x2 : Int32) (h : gm_H) : Prop :=
  ((x2 < 0 → w65_10 c d Post h) ∧ (¬ (x2 < 0) → ((x2 < 12 → ((x1 = (-1) → Post (some (.int (1 <<< (x2 &&& 31)))) h) ∧ (¬ (x1 = (-1)) → ((x1 = 0 → ∃ q_5 : Nat, gm_fld h r0 8 0 = some (.ref q_5) ∧ ∃ (n6 : Nat) (f6 : Nat → Int32), gm_get h q_5 = some (.inl (0, n6, .inl f6)) ∧ vp_in x2 n6 ∧ w65_40 c d Post (f6 (x2 : Int32).toNatClampNeg) h) ∧ (¬ (x1 = 0) → ∃ q_7 : Nat, gm_fld h r0 8 1 = some (.ref q_7) ∧ ∃ (n8 : Nat) (f8 : Nat → Int32), gm_get h q_7 = some (.inl (0, n8, .inl f8)) ∧ vp_in x2 n8 ∧ w65_40 c d Post (f8 (x2 : Int32).toNatClampNeg) h))))) ∧ (¬ (x2 < 12) → w65_10 c d Post h))))
theorem okm65 (c : gx) (d : Nat) (Post : Option Value → gm_H → Prop) (r0 : Nat) (x1 : Int32) (x2 : Int32) (h : gm_H) (w : wm65 c d Post r0 x1 x2 h) : gE c (d + 1) 65 [.ref r0, .int x1, .int x2] h Post := by
  have hk : ∀ pc i, gm_find gk_65 pc = some i → gm_code (gt_T c.1 c.2.1 c.2.2.1) 65 pc = some i := fun _ _ z => z
  unfold wm65 at w
  refine ge_of (by decide) (Nat.le_of_ble_eq_true rfl) ?_
  show gV c d 65 (0, [some (.ref r0), some (.int x1), some (.int x2)], [], h) Post
  unfold gV
  refine gw_pst hk 1 (st' := (1, [some (.ref r0), some (.int x1), some (.int x2)], [.int x2], h)) rfl ?_
  refine gw_br (c := x2 < 0) (a := (10, [some (.ref r0), some (.int x1), some (.int x2)], [], h)) (b := (4, [some (.ref r0), some (.int x1), some (.int x2)], [], h)) (hk _ _ rfl) rfl ⟨fun z1 => ?_, fun z1 => ?_⟩
  · replace w := w.1 z1
    refine gw_le (L' := [none, none, none]) (gm_le_n _ (gm_le_n _ (gm_le_n _ gm_le_nil))) ?_
    exact ok65_10 c d Post _ w
  · replace w := w.2 z1
    refine gw_pst hk 2 (st' := (7, [some (.ref r0), some (.int x1), some (.int x2)], [.int 12, .int x2], h)) rfl ?_
    refine gw_br (c := x2 < 12) (a := (12, [some (.ref r0), some (.int x1), some (.int x2)], [], h)) (b := (10, [some (.ref r0), some (.int x1), some (.int x2)], [], h)) (hk _ _ rfl) rfl ⟨fun z2 => ?_, fun z2 => ?_⟩
    · replace w := w.1 z2
      refine gw_pst hk 2 (st' := (14, [some (.ref r0), some (.int x1), some (.int x2)], [.int (-1), .int x1], h)) rfl ?_
      refine gw_br (c := x1 = (-1)) (a := (17, [some (.ref r0), some (.int x1), some (.int x2)], [], h)) (b := (21, [some (.ref r0), some (.int x1), some (.int x2)], [], h)) (hk _ _ rfl) rfl ⟨fun z3 => ?_, fun z3 => ?_⟩
      · replace w := w.1 z3
        refine gw_pst hk 3 (st' := (20, [some (.ref r0), some (.int x1), some (.int x2)], [.int (1 <<< (x2 &&& 31))], h)) rfl ?_
        exact gw_ret (hk _ _ rfl) rfl w
      · replace w := w.2 z3
        refine gw_pst hk 1 (st' := (22, [some (.ref r0), some (.int x1), some (.int x2)], [.int x1], h)) rfl ?_
        refine gw_br (c := x1 = 0) (a := (25, [some (.ref r0), some (.int x1), some (.int x2)], [], h)) (b := (34, [some (.ref r0), some (.int x1), some (.int x2)], [], h)) (hk _ _ rfl) rfl ⟨fun z4 => ?_, fun z4 => ?_⟩
        · replace w := w.1 z4
          refine gw_pst hk 1 (st' := (26, [some (.ref r0), some (.int x1), some (.int x2)], [.ref r0], h)) rfl ?_
          obtain ⟨q_5, e5, w⟩ := w
          refine gw_gf (hk _ _ rfl) e5 ?_
          refine gw_pst hk 1 (st' := (30, [some (.ref r0), some (.int x1), some (.int x2)], [.int x2, .ref q_5], h)) rfl ?_
          obtain ⟨n6, f6, e6, b6, w⟩ := w
          refine gw_ald (hk _ _ rfl) (Or.inl ⟨rfl, rfl⟩) e6 b6 ?_
          refine gw_pst hk 1 (st' := (40, [some (.ref r0), some (.int x1), some (.int x2)], [.int (f6 (x2 : Int32).toNatClampNeg)], h)) rfl ?_
          refine gw_le (L' := [none, none, none]) (gm_le_n _ (gm_le_n _ (gm_le_n _ gm_le_nil))) ?_
          exact ok65_40 c d Post _ _ w
        · replace w := w.2 z4
          refine gw_pst hk 1 (st' := (35, [some (.ref r0), some (.int x1), some (.int x2)], [.ref r0], h)) rfl ?_
          obtain ⟨q_7, e7, w⟩ := w
          refine gw_gf (hk _ _ rfl) e7 ?_
          refine gw_pst hk 1 (st' := (39, [some (.ref r0), some (.int x1), some (.int x2)], [.int x2, .ref q_7], h)) rfl ?_
          obtain ⟨n8, f8, e8, b8, w⟩ := w
          refine gw_ald (hk _ _ rfl) (Or.inl ⟨rfl, rfl⟩) e8 b8 ?_
          refine gw_le (L' := [none, none, none]) (gm_le_n _ (gm_le_n _ (gm_le_n _ gm_le_nil))) ?_
          exact ok65_40 c d Post _ _ w
    · replace w := w.2 z2
      refine gw_le (L' := [none, none, none]) (gm_le_n _ (gm_le_n _ (gm_le_n _ gm_le_nil))) ?_
      exact ok65_10 c d Post _ w
def w66_32 (c : gx) (d : Nat) (Post : Option Value → gm_H → Prop) (K5 : Nat → Int32 → Int32 → Int32 → Int32 → gm_H → Prop) (r0 : Nat) (x1 : Int32) (x2 : Int32) (x3 : Int32) (x4 : Int32) (h : gm_H) : Prop :=
  K5 r0 x1 x2 x3 (x4 + 1) h
theorem ok66_32 (c : gx) (d : Nat) (Post : Option Value → gm_H → Prop) (K5 : Nat → Int32 → Int32 → Int32 → Int32 → gm_H → Prop)  (hK5 : ∀ (r0 : Nat) (x1 : Int32) (x2 : Int32) (x3 : Int32) (x4 : Int32) (h : gm_H), K5 r0 x1 x2 x3 x4 h → gV c d 66 (5, [some (.ref r0), some (.int x1), some (.int x2), some (.int x3), some (.int x4)], [], h) Post) (r0 : Nat) (x1 : Int32) (x2 : Int32) (x3 : Int32) (x4 : Int32) (h : gm_H) (w : w66_32 c d Post K5 r0 x1 x2 x3 x4 h) : gV c d 66 (32, [some (.ref r0), some (.int x1), some (.int x2), some (.int x3), some (.int x4)], [], h) Post := by
  have hk : ∀ pc i, gm_find gk_66 pc = some i → gm_code (gt_T c.1 c.2.1 c.2.2.1) 66 pc = some i := fun _ _ z => z
  unfold w66_32 at w
  unfold gV
  refine gw_pst hk 2 (st' := (5, [some (.ref r0), some (.int x1), some (.int x2), some (.int x3), some (.int (x4 + 1))], [], h)) rfl ?_
  exact hK5 _ _ _ _ _ _ w
def wb66_5 (c : gx) (d : Nat) (Post : Option Value → gm_H → Prop) (K5 : Nat → Int32 → Int32 → Int32 → Int32 → gm_H → Prop) (r0 : Nat) (x1 : Int32) (x2 : Int32) (x3 : Int32) (x4 : Int32) (h : gm_H) : Prop :=
  ((12 ≤ x4 → Post (some (.int x3)) h) ∧ (¬ (12 ≤ x4) → ((((x2 >>> (x4 &&& 31)) &&& 1) = 1 → (∃ fs3, gm_get h r0 = some (.inr (8, fs3))) ∧ gE c d 65 [.ref r0, .int x1, .int x4] h (fun v3 h_3 => ∃ x_3 : Int32, v3 = some (.int x_3) ∧ w66_32 c d Post K5 r0 x1 x2 (x3 ||| x_3) x4 h_3)) ∧ (¬ (((x2 >>> (x4 &&& 31)) &&& 1) = 1) → w66_32 c d Post K5 r0 x1 x2 x3 x4 h))))
theorem okb66_5 (c : gx) (d : Nat) (Post : Option Value → gm_H → Prop) (K5 : Nat → Int32 → Int32 → Int32 → Int32 → gm_H → Prop)  (hK5 : ∀ (r0 : Nat) (x1 : Int32) (x2 : Int32) (x3 : Int32) (x4 : Int32) (h : gm_H), K5 r0 x1 x2 x3 x4 h → gV c d 66 (5, [some (.ref r0), some (.int x1), some (.int x2), some (.int x3), some (.int x4)], [], h) Post) (r0 : Nat) (x1 : Int32) (x2 : Int32) (x3 : Int32) (x4 : Int32) (h : gm_H) (w : wb66_5 c d Post K5 r0 x1 x2 x3 x4 h) : gV c d 66 (5, [some (.ref r0), some (.int x1), some (.int x2), some (.int x3), some (.int x4)], [], h) Post := by
  have hk : ∀ pc i, gm_find gk_66 pc = some i → gm_code (gt_T c.1 c.2.1 c.2.2.1) 66 pc = some i := fun _ _ z => z
  unfold wb66_5 at w
  unfold gV
  refine gw_pst hk 2 (st' := (9, [some (.ref r0), some (.int x1), some (.int x2), some (.int x3), some (.int x4)], [.int 12, .int x4], h)) rfl ?_
  refine gw_br (c := 12 ≤ x4) (a := (38, [some (.ref r0), some (.int x1), some (.int x2), some (.int x3), some (.int x4)], [], h)) (b := (12, [some (.ref r0), some (.int x1), some (.int x2), some (.int x3), some (.int x4)], [], h)) (hk _ _ rfl) rfl ⟨fun z1 => ?_, fun z1 => ?_⟩
  · replace w := w.1 z1
    refine gw_pst hk 1 (st' := (39, [some (.ref r0), some (.int x1), some (.int x2), some (.int x3), some (.int x4)], [.int x3], h)) rfl ?_
    exact gw_ret (hk _ _ rfl) rfl w
  · replace w := w.2 z1
    refine gw_pst hk 6 (st' := (19, [some (.ref r0), some (.int x1), some (.int x2), some (.int x3), some (.int x4)], [.int 1, .int ((x2 >>> (x4 &&& 31)) &&& 1)], h)) rfl ?_
    refine gw_br (c := ((x2 >>> (x4 &&& 31)) &&& 1) = 1) (a := (22, [some (.ref r0), some (.int x1), some (.int x2), some (.int x3), some (.int x4)], [], h)) (b := (32, [some (.ref r0), some (.int x1), some (.int x2), some (.int x3), some (.int x4)], [], h)) (hk _ _ rfl) rfl ⟨fun z2 => ?_, fun z2 => ?_⟩
    · replace w := w.1 z2
      refine gw_pst hk 4 (st' := (27, [some (.ref r0), some (.int x1), some (.int x2), some (.int x3), some (.int x4)], [.int x4, .int x1, .ref r0, .int x3], h)) rfl ?_
      obtain ⟨⟨fs3, e3⟩, w⟩ := w
      refine gw_call (jj := 65) (As := [.ref r0, .int x1, .int x4]) (rest := [.int x3]) (hk _ _ rfl) (fun _ => rfl) rfl rfl (Nat.le_of_ble_eq_true rfl) (gm_rcv_v rfl e3 rfl) ?_
      refine ge_imp w (fun v3 h_3 w => ?_)
      obtain ⟨x_3, rfl, w⟩ := w
      show gV c d 66 (30, [some (.ref r0), some (.int x1), some (.int x2), some (.int x3), some (.int x4)], [.int x_3, .int x3], h_3) Post
      refine gw_pst hk 2 (st' := (32, [some (.ref r0), some (.int x1), some (.int x2), some (.int (x3 ||| x_3)), some (.int x4)], [], h_3)) rfl ?_
      exact ok66_32 c d Post K5 hK5 _ _ _ _ _ _ w
    · replace w := w.2 z2
      exact ok66_32 c d Post K5 hK5 _ _ _ _ _ _ w
def wl66_5 (c : gx) (d : Nat) (Post : Option Value → gm_H → Prop) : Nat → Nat → Int32 → Int32 → Int32 → Int32 → gm_H → Prop
  | 0 => fun _ _ _ _ _ _ => False
  | n + 1 => wb66_5 c d Post (wl66_5 c d Post n)
theorem okl66_5 (c : gx) (d : Nat) (Post : Option Value → gm_H → Prop) : ∀ (n : Nat) (r0 : Nat) (x1 : Int32) (x2 : Int32) (x3 : Int32) (x4 : Int32) (h : gm_H), wl66_5 c d Post n r0 x1 x2 x3 x4 h → gV c d 66 (5, [some (.ref r0), some (.int x1), some (.int x2), some (.int x3), some (.int x4)], [], h) Post
  | 0, _, _, _, _, _, _, w => w.elim
  | n + 1, r0, x1, x2, x3, x4, h, w => okb66_5 c d Post (wl66_5 c d Post n) (okl66_5 c d Post n) r0 x1 x2 x3 x4 h w
/-- CommandByTurns$Walk.movesFromAny(II)I -/
def wm66 (c : gx) (d : Nat) (Post : Option Value → gm_H → Prop) (r0 : Nat) (x1 : Int32) (x2 : Int32) (h : gm_H) : Prop :=
  ∃ n, wl66_5 c d Post n r0 x1 x2 0 0 h
theorem okm66 (c : gx) (d : Nat) (Post : Option Value → gm_H → Prop) (r0 : Nat) (x1 : Int32) (x2 : Int32) (h : gm_H) (w : wm66 c d Post r0 x1 x2 h) : gE c (d + 1) 66 [.ref r0, .int x1, .int x2] h Post := by
  have hk : ∀ pc i, gm_find gk_66 pc = some i → gm_code (gt_T c.1 c.2.1 c.2.2.1) 66 pc = some i := fun _ _ z => z
  unfold wm66 at w
  refine ge_of (by decide) (Nat.le_of_ble_eq_true rfl) ?_
  show gV c d 66 (0, [some (.ref r0), some (.int x1), some (.int x2), none, none], [], h) Post
  unfold gV
  refine gw_pst hk 4 (st' := (5, [some (.ref r0), some (.int x1), some (.int x2), some (.int 0), some (.int 0)], [], h)) rfl ?_
  obtain ⟨n, w⟩ := w
  exact okl66_5 c d Post n _ _ _ _ _ _ w
def w67_60 (c : gx) (d : Nat) (Post : Option Value → gm_H → Prop) (xs0 : Int32) (h : gm_H) : Prop :=
  Post (some (.int xs0)) h
theorem ok67_60 (c : gx) (d : Nat) (Post : Option Value → gm_H → Prop)  (xs0 : Int32) (h : gm_H) (w : w67_60 c d Post xs0 h) : gV c d 67 (60, [none, none, none, none, none], [.int xs0], h) Post := by
  have hk : ∀ pc i, gm_find gk_67 pc = some i → gm_code (gt_T c.1 c.2.1 c.2.2.1) 67 pc = some i := fun _ _ z => z
  unfold w67_60 at w
  unfold gV
  exact gw_ret (hk _ _ rfl) rfl w
def wb67_7 (c : gx) (d : Nat) (Post : Option Value → gm_H → Prop) (K7 : Nat → Int32 → Int32 → Int32 → gm_H → Prop) (r0 : Nat) (x2 : Int32) (x3 : Int32) (x4 : Int32) (h : gm_H) : Prop :=
  ((20 ≤ x4 → ((((x3 >>> (x2 &&& 31)) &&& 1) = 1 → w67_60 c d Post 20 h) ∧ (¬ (((x3 >>> (x2 &&& 31)) &&& 1) = 1) → w67_60 c d Post (-1) h))) ∧ (¬ (20 ≤ x4) → ((((x3 >>> (x2 &&& 31)) &&& 1) = 1 → Post (some (.int x4)) h) ∧ (¬ (((x3 >>> (x2 &&& 31)) &&& 1) = 1) → ∃ q_4 : Nat, gm_fld h r0 8 2 = some (.ref q_4) ∧ ∃ (n5 : Nat) (f5 : Nat → Int32), gm_get h q_4 = some (.inl (0, n5, .inl f5)) ∧ vp_in x4 n5 ∧ (∃ fs6, gm_get h r0 = some (.inr (8, fs6))) ∧ gE c d 66 [.ref r0, .int (f5 (x4 : Int32).toNatClampNeg), .int x3] h (fun v6 h_6 => ∃ x_6 : Int32, v6 = some (.int x_6) ∧ K7 r0 x2 x_6 (x4 + 1) h_6)))))
theorem okb67_7 (c : gx) (d : Nat) (Post : Option Value → gm_H → Prop) (K7 : Nat → Int32 → Int32 → Int32 → gm_H → Prop)  (hK7 : ∀ (r0 : Nat) (x2 : Int32) (x3 : Int32) (x4 : Int32) (h : gm_H), K7 r0 x2 x3 x4 h → gV c d 67 (7, [some (.ref r0), none, some (.int x2), some (.int x3), some (.int x4)], [], h) Post) (r0 : Nat) (x2 : Int32) (x3 : Int32) (x4 : Int32) (h : gm_H) (w : wb67_7 c d Post K7 r0 x2 x3 x4 h) : gV c d 67 (7, [some (.ref r0), none, some (.int x2), some (.int x3), some (.int x4)], [], h) Post := by
  have hk : ∀ pc i, gm_find gk_67 pc = some i → gm_code (gt_T c.1 c.2.1 c.2.2.1) 67 pc = some i := fun _ _ z => z
  unfold wb67_7 at w
  unfold gV
  refine gw_pst hk 2 (st' := (11, [some (.ref r0), none, some (.int x2), some (.int x3), some (.int x4)], [.int 20, .int x4], h)) rfl ?_
  refine gw_br (c := 20 ≤ x4) (a := (45, [some (.ref r0), none, some (.int x2), some (.int x3), some (.int x4)], [], h)) (b := (14, [some (.ref r0), none, some (.int x2), some (.int x3), some (.int x4)], [], h)) (hk _ _ rfl) rfl ⟨fun z1 => ?_, fun z1 => ?_⟩
  · replace w := w.1 z1
    refine gw_pst hk 6 (st' := (51, [some (.ref r0), none, some (.int x2), some (.int x3), some (.int x4)], [.int 1, .int ((x3 >>> (x2 &&& 31)) &&& 1)], h)) rfl ?_
    refine gw_br (c := ((x3 >>> (x2 &&& 31)) &&& 1) = 1) (a := (54, [some (.ref r0), none, some (.int x2), some (.int x3), some (.int x4)], [], h)) (b := (59, [some (.ref r0), none, some (.int x2), some (.int x3), some (.int x4)], [], h)) (hk _ _ rfl) rfl ⟨fun z2 => ?_, fun z2 => ?_⟩
    · replace w := w.1 z2
      refine gw_pst hk 2 (st' := (60, [some (.ref r0), none, some (.int x2), some (.int x3), some (.int x4)], [.int 20], h)) rfl ?_
      refine gw_le (L' := [none, none, none, none, none]) (gm_le_n _ (gm_le_k _ (gm_le_n _ (gm_le_n _ (gm_le_n _ gm_le_nil))))) ?_
      exact ok67_60 c d Post _ _ w
    · replace w := w.2 z2
      refine gw_pst hk 1 (st' := (60, [some (.ref r0), none, some (.int x2), some (.int x3), some (.int x4)], [.int (-1)], h)) rfl ?_
      refine gw_le (L' := [none, none, none, none, none]) (gm_le_n _ (gm_le_k _ (gm_le_n _ (gm_le_n _ (gm_le_n _ gm_le_nil))))) ?_
      exact ok67_60 c d Post _ _ w
  · replace w := w.2 z1
    refine gw_pst hk 6 (st' := (20, [some (.ref r0), none, some (.int x2), some (.int x3), some (.int x4)], [.int 1, .int ((x3 >>> (x2 &&& 31)) &&& 1)], h)) rfl ?_
    refine gw_br (c := ((x3 >>> (x2 &&& 31)) &&& 1) = 1) (a := (23, [some (.ref r0), none, some (.int x2), some (.int x3), some (.int x4)], [], h)) (b := (26, [some (.ref r0), none, some (.int x2), some (.int x3), some (.int x4)], [], h)) (hk _ _ rfl) rfl ⟨fun z3 => ?_, fun z3 => ?_⟩
    · replace w := w.1 z3
      refine gw_pst hk 1 (st' := (25, [some (.ref r0), none, some (.int x2), some (.int x3), some (.int x4)], [.int x4], h)) rfl ?_
      exact gw_ret (hk _ _ rfl) rfl w
    · replace w := w.2 z3
      refine gw_pst hk 2 (st' := (28, [some (.ref r0), none, some (.int x2), some (.int x3), some (.int x4)], [.ref r0, .ref r0], h)) rfl ?_
      obtain ⟨q_4, e4, w⟩ := w
      refine gw_gf (hk _ _ rfl) e4 ?_
      refine gw_pst hk 1 (st' := (33, [some (.ref r0), none, some (.int x2), some (.int x3), some (.int x4)], [.int x4, .ref q_4, .ref r0], h)) rfl ?_
      obtain ⟨n5, f5, e5, b5, w⟩ := w
      refine gw_ald (hk _ _ rfl) (Or.inl ⟨rfl, rfl⟩) e5 b5 ?_
      refine gw_pst hk 1 (st' := (35, [some (.ref r0), none, some (.int x2), some (.int x3), some (.int x4)], [.int x3, .int (f5 (x4 : Int32).toNatClampNeg), .ref r0], h)) rfl ?_
      obtain ⟨⟨fs6, e6⟩, w⟩ := w
      refine gw_call (jj := 66) (As := [.ref r0, .int (f5 (x4 : Int32).toNatClampNeg), .int x3]) (rest := []) (hk _ _ rfl) (fun _ => rfl) rfl rfl (Nat.le_of_ble_eq_true rfl) (gm_rcv_v rfl e6 rfl) ?_
      refine ge_imp w (fun v6 h_6 w => ?_)
      obtain ⟨x_6, rfl, w⟩ := w
      show gV c d 67 (38, [some (.ref r0), none, some (.int x2), some (.int x3), some (.int x4)], [.int x_6], h_6) Post
      refine gw_pst hk 3 (st' := (7, [some (.ref r0), none, some (.int x2), some (.int x_6), some (.int (x4 + 1))], [], h_6)) rfl ?_
      exact hK7 _ _ _ _ _ w
def wl67_7 (c : gx) (d : Nat) (Post : Option Value → gm_H → Prop) : Nat → Nat → Int32 → Int32 → Int32 → gm_H → Prop
  | 0 => fun _ _ _ _ _ => False
  | n + 1 => wb67_7 c d Post (wl67_7 c d Post n)
theorem okl67_7 (c : gx) (d : Nat) (Post : Option Value → gm_H → Prop) : ∀ (n : Nat) (r0 : Nat) (x2 : Int32) (x3 : Int32) (x4 : Int32) (h : gm_H), wl67_7 c d Post n r0 x2 x3 x4 h → gV c d 67 (7, [some (.ref r0), none, some (.int x2), some (.int x3), some (.int x4)], [], h) Post
  | 0, _, _, _, _, _, w => w.elim
  | n + 1, r0, x2, x3, x4, h, w => okb67_7 c d Post (wl67_7 c d Post n) (okl67_7 c d Post n) r0 x2 x3 x4 h w
/-- CommandByTurns$Walk.daysTill(II)I -/
def wm67 (c : gx) (d : Nat) (Post : Option Value → gm_H → Prop) (r0 : Nat) (x1 : Int32) (x2 : Int32) (h : gm_H) : Prop :=
  ∃ n, wl67_7 c d Post n r0 x2 (1 <<< (x1 &&& 31)) 0 h
theorem okm67 (c : gx) (d : Nat) (Post : Option Value → gm_H → Prop) (r0 : Nat) (x1 : Int32) (x2 : Int32) (h : gm_H) (w : wm67 c d Post r0 x1 x2 h) : gE c (d + 1) 67 [.ref r0, .int x1, .int x2] h Post := by
  have hk : ∀ pc i, gm_find gk_67 pc = some i → gm_code (gt_T c.1 c.2.1 c.2.2.1) 67 pc = some i := fun _ _ z => z
  unfold wm67 at w
  refine ge_of (by decide) (Nat.le_of_ble_eq_true rfl) ?_
  show gV c d 67 (0, [some (.ref r0), some (.int x1), some (.int x2), none, none], [], h) Post
  unfold gV
  refine gw_pst hk 6 (st' := (7, [some (.ref r0), some (.int x1), some (.int x2), some (.int (1 <<< (x1 &&& 31))), some (.int 0)], [], h)) rfl ?_
  refine gw_le (L' := [some (.ref r0), none, some (.int x2), some (.int (1 <<< (x1 &&& 31))), some (.int 0)]) (gm_le_k _ (gm_le_n _ (gm_le_k _ (gm_le_k _ (gm_le_k _ gm_le_nil))))) ?_
  obtain ⟨n, w⟩ := w
  exact okl67_7 c d Post n _ _ _ _ _ w
def w68_46 (c : gx) (d : Nat) (Post : Option Value → gm_H → Prop) (x2 : Int32) (h : gm_H) : Prop :=
  Post (some (.int x2)) h
theorem ok68_46 (c : gx) (d : Nat) (Post : Option Value → gm_H → Prop)  (x2 : Int32) (h : gm_H) (w : w68_46 c d Post x2 h) : gV c d 68 (46, [none, none, some (.int x2), none, none], [], h) Post := by
  have hk : ∀ pc i, gm_find gk_68 pc = some i → gm_code (gt_T c.1 c.2.1 c.2.2.1) 68 pc = some i := fun _ _ z => z
  unfold w68_46 at w
  unfold gV
  refine gw_pst hk 1 (st' := (47, [none, none, some (.int x2), none, none], [.int x2], h)) rfl ?_
  exact gw_ret (hk _ _ rfl) rfl w
def wb68_7 (c : gx) (d : Nat) (Post : Option Value → gm_H → Prop) (K7 : Nat → Int32 → Int32 → Int32 → gm_H → Prop) (r0 : Nat) (x2 : Int32) (x3 : Int32) (x4 : Int32) (h : gm_H) : Prop :=
  ((x2 ≤ x4 → w68_46 c d Post x2 h) ∧ (¬ (x2 ≤ x4) → ((20 ≤ x4 → w68_46 c d Post x2 h) ∧ (¬ (20 ≤ x4) → ∃ q_3 : Nat, gm_fld h r0 8 2 = some (.ref q_3) ∧ ∃ (n4 : Nat) (f4 : Nat → Int32), gm_get h q_3 = some (.inl (0, n4, .inl f4)) ∧ vp_in x4 n4 ∧ (∃ fs5, gm_get h r0 = some (.inr (8, fs5))) ∧ gE c d 66 [.ref r0, .int (f4 (x4 : Int32).toNatClampNeg), .int x3] h (fun v5 h_5 => ∃ x_5 : Int32, v5 = some (.int x_5) ∧ ((x_5 = 0 → Post (some (.int x4)) h_5) ∧ (¬ (x_5 = 0) → K7 r0 x2 x_5 (x4 + 1) h_5)))))))
theorem okb68_7 (c : gx) (d : Nat) (Post : Option Value → gm_H → Prop) (K7 : Nat → Int32 → Int32 → Int32 → gm_H → Prop)  (hK7 : ∀ (r0 : Nat) (x2 : Int32) (x3 : Int32) (x4 : Int32) (h : gm_H), K7 r0 x2 x3 x4 h → gV c d 68 (7, [some (.ref r0), none, some (.int x2), some (.int x3), some (.int x4)], [], h) Post) (r0 : Nat) (x2 : Int32) (x3 : Int32) (x4 : Int32) (h : gm_H) (w : wb68_7 c d Post K7 r0 x2 x3 x4 h) : gV c d 68 (7, [some (.ref r0), none, some (.int x2), some (.int x3), some (.int x4)], [], h) Post := by
  have hk : ∀ pc i, gm_find gk_68 pc = some i → gm_code (gt_T c.1 c.2.1 c.2.2.1) 68 pc = some i := fun _ _ z => z
  unfold wb68_7 at w
  unfold gV
  refine gw_pst hk 2 (st' := (10, [some (.ref r0), none, some (.int x2), some (.int x3), some (.int x4)], [.int x2, .int x4], h)) rfl ?_
  refine gw_br (c := x2 ≤ x4) (a := (46, [some (.ref r0), none, some (.int x2), some (.int x3), some (.int x4)], [], h)) (b := (13, [some (.ref r0), none, some (.int x2), some (.int x3), some (.int x4)], [], h)) (hk _ _ rfl) rfl ⟨fun z1 => ?_, fun z1 => ?_⟩
  · replace w := w.1 z1
    refine gw_le (L' := [none, none, some (.int x2), none, none]) (gm_le_n _ (gm_le_k _ (gm_le_k _ (gm_le_n _ (gm_le_n _ gm_le_nil))))) ?_
    exact ok68_46 c d Post _ _ w
  · replace w := w.2 z1
    refine gw_pst hk 2 (st' := (17, [some (.ref r0), none, some (.int x2), some (.int x3), some (.int x4)], [.int 20, .int x4], h)) rfl ?_
    refine gw_br (c := 20 ≤ x4) (a := (46, [some (.ref r0), none, some (.int x2), some (.int x3), some (.int x4)], [], h)) (b := (20, [some (.ref r0), none, some (.int x2), some (.int x3), some (.int x4)], [], h)) (hk _ _ rfl) rfl ⟨fun z2 => ?_, fun z2 => ?_⟩
    · replace w := w.1 z2
      refine gw_le (L' := [none, none, some (.int x2), none, none]) (gm_le_n _ (gm_le_k _ (gm_le_k _ (gm_le_n _ (gm_le_n _ gm_le_nil))))) ?_
      exact ok68_46 c d Post _ _ w
    · replace w := w.2 z2
      refine gw_pst hk 2 (st' := (22, [some (.ref r0), none, some (.int x2), some (.int x3), some (.int x4)], [.ref r0, .ref r0], h)) rfl ?_
      obtain ⟨q_3, e3, w⟩ := w
      refine gw_gf (hk _ _ rfl) e3 ?_
      refine gw_pst hk 1 (st' := (27, [some (.ref r0), none, some (.int x2), some (.int x3), some (.int x4)], [.int x4, .ref q_3, .ref r0], h)) rfl ?_
      obtain ⟨n4, f4, e4, b4, w⟩ := w
      refine gw_ald (hk _ _ rfl) (Or.inl ⟨rfl, rfl⟩) e4 b4 ?_
      refine gw_pst hk 1 (st' := (29, [some (.ref r0), none, some (.int x2), some (.int x3), some (.int x4)], [.int x3, .int (f4 (x4 : Int32).toNatClampNeg), .ref r0], h)) rfl ?_
      obtain ⟨⟨fs5, e5⟩, w⟩ := w
      refine gw_call (jj := 66) (As := [.ref r0, .int (f4 (x4 : Int32).toNatClampNeg), .int x3]) (rest := []) (hk _ _ rfl) (fun _ => rfl) rfl rfl (Nat.le_of_ble_eq_true rfl) (gm_rcv_v rfl e5 rfl) ?_
      refine ge_imp w (fun v5 h_5 w => ?_)
      obtain ⟨x_5, rfl, w⟩ := w
      show gV c d 68 (32, [some (.ref r0), none, some (.int x2), some (.int x3), some (.int x4)], [.int x_5], h_5) Post
      refine gw_pst hk 2 (st' := (34, [some (.ref r0), none, some (.int x2), some (.int x_5), some (.int x4)], [.int x_5], h_5)) rfl ?_
      refine gw_br (c := x_5 = 0) (a := (37, [some (.ref r0), none, some (.int x2), some (.int x_5), some (.int x4)], [], h_5)) (b := (40, [some (.ref r0), none, some (.int x2), some (.int x_5), some (.int x4)], [], h_5)) (hk _ _ rfl) rfl ⟨fun z6 => ?_, fun z6 => ?_⟩
      · replace w := w.1 z6
        refine gw_pst hk 1 (st' := (39, [some (.ref r0), none, some (.int x2), some (.int x_5), some (.int x4)], [.int x4], h_5)) rfl ?_
        exact gw_ret (hk _ _ rfl) rfl w
      · replace w := w.2 z6
        refine gw_pst hk 2 (st' := (7, [some (.ref r0), none, some (.int x2), some (.int x_5), some (.int (x4 + 1))], [], h_5)) rfl ?_
        exact hK7 _ _ _ _ _ w
def wl68_7 (c : gx) (d : Nat) (Post : Option Value → gm_H → Prop) : Nat → Nat → Int32 → Int32 → Int32 → gm_H → Prop
  | 0 => fun _ _ _ _ _ => False
  | n + 1 => wb68_7 c d Post (wl68_7 c d Post n)
theorem okl68_7 (c : gx) (d : Nat) (Post : Option Value → gm_H → Prop) : ∀ (n : Nat) (r0 : Nat) (x2 : Int32) (x3 : Int32) (x4 : Int32) (h : gm_H), wl68_7 c d Post n r0 x2 x3 x4 h → gV c d 68 (7, [some (.ref r0), none, some (.int x2), some (.int x3), some (.int x4)], [], h) Post
  | 0, _, _, _, _, _, w => w.elim
  | n + 1, r0, x2, x3, x4, h, w => okb68_7 c d Post (wl68_7 c d Post n) (okl68_7 c d Post n) r0 x2 x3 x4 h w
/-- CommandByTurns$Walk.daysKeptOff(II)I -/
def wm68 (c : gx) (d : Nat) (Post : Option Value → gm_H → Prop) (r0 : Nat) (x1 : Int32) (x2 : Int32) (h : gm_H) : Prop :=
  ∃ n, wl68_7 c d Post n r0 x2 (1 <<< (x1 &&& 31)) 0 h
theorem okm68 (c : gx) (d : Nat) (Post : Option Value → gm_H → Prop) (r0 : Nat) (x1 : Int32) (x2 : Int32) (h : gm_H) (w : wm68 c d Post r0 x1 x2 h) : gE c (d + 1) 68 [.ref r0, .int x1, .int x2] h Post := by
  have hk : ∀ pc i, gm_find gk_68 pc = some i → gm_code (gt_T c.1 c.2.1 c.2.2.1) 68 pc = some i := fun _ _ z => z
  unfold wm68 at w
  refine ge_of (by decide) (Nat.le_of_ble_eq_true rfl) ?_
  show gV c d 68 (0, [some (.ref r0), some (.int x1), some (.int x2), none, none], [], h) Post
  unfold gV
  refine gw_pst hk 6 (st' := (7, [some (.ref r0), some (.int x1), some (.int x2), some (.int (1 <<< (x1 &&& 31))), some (.int 0)], [], h)) rfl ?_
  refine gw_le (L' := [some (.ref r0), none, some (.int x2), some (.int (1 <<< (x1 &&& 31))), some (.int 0)]) (gm_le_k _ (gm_le_n _ (gm_le_k _ (gm_le_k _ (gm_le_k _ gm_le_nil))))) ?_
  obtain ⟨n, w⟩ := w
  exact okl68_7 c d Post n _ _ _ _ _ w
def w69_46 (c : gx) (d : Nat) (Post : Option Value → gm_H → Prop) (K10 : Nat → Int32 → Int32 → gm_H → Prop) (r0 : Nat) (x4 : Int32) (xs0 : Int32) (h : gm_H) : Prop :=
  K10 r0 xs0 (x4 + (-1)) h
theorem ok69_46 (c : gx) (d : Nat) (Post : Option Value → gm_H → Prop) (K10 : Nat → Int32 → Int32 → gm_H → Prop)  (hK10 : ∀ (r0 : Nat) (x3 : Int32) (x4 : Int32) (h : gm_H), K10 r0 x3 x4 h → gV c d 69 (10, [some (.ref r0), none, none, some (.int x3), some (.int x4)], [], h) Post) (r0 : Nat) (x4 : Int32) (xs0 : Int32) (h : gm_H) (w : w69_46 c d Post K10 r0 x4 xs0 h) : gV c d 69 (46, [some (.ref r0), none, none, none, some (.int x4)], [.int xs0], h) Post := by
  have hk : ∀ pc i, gm_find gk_69 pc = some i → gm_code (gt_T c.1 c.2.1 c.2.2.1) 69 pc = some i := fun _ _ z => z
  unfold w69_46 at w
  unfold gV
  refine gw_pst hk 3 (st' := (10, [some (.ref r0), none, none, some (.int xs0), some (.int (x4 + (-1)))], [], h)) rfl ?_
  exact hK10 _ _ _ _ w
def wb69_10 (c : gx) (d : Nat) (Post : Option Value → gm_H → Prop) (K10 : Nat → Int32 → Int32 → gm_H → Prop) (r0 : Nat) (x3 : Int32) (x4 : Int32) (h : gm_H) : Prop :=
  ((x4 < 0 → Post (some (.int x3)) h) ∧ (¬ (x4 < 0) → ∃ q_2 : Nat, gm_fld h r0 8 3 = some (.ref q_2) ∧ ∃ (n3 : Nat) (f3 : Nat → Int32), gm_get h q_2 = some (.inl (0, n3, .inl f3)) ∧ vp_in x4 n3 ∧ ∀ h_3 : gm_H, h_3 = gm_put h q_2 (.inl (0, n3, .inl (upd f3 (x4 : Int32).toNatClampNeg (vp_nar .int x3)))) → ((x4 = 0 → w69_46 c d Post K10 r0 x4 x3 h_3) ∧ (¬ (x4 = 0) → ∃ q_5 : Nat, gm_fld h_3 r0 8 2 = some (.ref q_5) ∧ ∃ (n6 : Nat) (f6 : Nat → Int32), gm_get h_3 q_5 = some (.inl (0, n6, .inl f6)) ∧ vp_in (x4 - 1) n6 ∧ (∃ fs7, gm_get h_3 r0 = some (.inr (8, fs7))) ∧ gE c d 70 [.ref r0, .int (f6 (x4 - 1 : Int32).toNatClampNeg), .int x3] h_3 (fun v7 h_7 => ∃ x_7 : Int32, v7 = some (.int x_7) ∧ w69_46 c d Post K10 r0 x4 x_7 h_7)))))
theorem okb69_10 (c : gx) (d : Nat) (Post : Option Value → gm_H → Prop) (K10 : Nat → Int32 → Int32 → gm_H → Prop)  (hK10 : ∀ (r0 : Nat) (x3 : Int32) (x4 : Int32) (h : gm_H), K10 r0 x3 x4 h → gV c d 69 (10, [some (.ref r0), none, none, some (.int x3), some (.int x4)], [], h) Post) (r0 : Nat) (x3 : Int32) (x4 : Int32) (h : gm_H) (w : wb69_10 c d Post K10 r0 x3 x4 h) : gV c d 69 (10, [some (.ref r0), none, none, some (.int x3), some (.int x4)], [], h) Post := by
  have hk : ∀ pc i, gm_find gk_69 pc = some i → gm_code (gt_T c.1 c.2.1 c.2.2.1) 69 pc = some i := fun _ _ z => z
  unfold wb69_10 at w
  unfold gV
  refine gw_pst hk 1 (st' := (12, [some (.ref r0), none, none, some (.int x3), some (.int x4)], [.int x4], h)) rfl ?_
  refine gw_br (c := x4 < 0) (a := (53, [some (.ref r0), none, none, some (.int x3), some (.int x4)], [], h)) (b := (15, [some (.ref r0), none, none, some (.int x3), some (.int x4)], [], h)) (hk _ _ rfl) rfl ⟨fun z1 => ?_, fun z1 => ?_⟩
  · replace w := w.1 z1
    refine gw_pst hk 1 (st' := (54, [some (.ref r0), none, none, some (.int x3), some (.int x4)], [.int x3], h)) rfl ?_
    exact gw_ret (hk _ _ rfl) rfl w
  · replace w := w.2 z1
    refine gw_pst hk 1 (st' := (16, [some (.ref r0), none, none, some (.int x3), some (.int x4)], [.ref r0], h)) rfl ?_
    obtain ⟨q_2, e2, w⟩ := w
    refine gw_gf (hk _ _ rfl) e2 ?_
    refine gw_pst hk 2 (st' := (22, [some (.ref r0), none, none, some (.int x3), some (.int x4)], [.int x3, .int x4, .ref q_2], h)) rfl ?_
    obtain ⟨n3, f3, e3, b3, w⟩ := w
    refine gw_ast (hk _ _ rfl) (Or.inl ⟨rfl, rfl, rfl⟩) e3 b3 ?_
    obtain ⟨h_3, eh3⟩ : ∃ z, z = gm_put h q_2 (.inl (0, n3, .inl (upd f3 (x4 : Int32).toNatClampNeg (vp_nar .int x3)))) := ⟨_, rfl⟩
    rw [← eh3]
    replace w := w h_3 eh3
    refine gw_pst hk 1 (st' := (25, [some (.ref r0), none, none, some (.int x3), some (.int x4)], [.int x4], h_3)) rfl ?_
    refine gw_br (c := x4 = 0) (a := (28, [some (.ref r0), none, none, some (.int x3), some (.int x4)], [], h_3)) (b := (32, [some (.ref r0), none, none, some (.int x3), some (.int x4)], [], h_3)) (hk _ _ rfl) rfl ⟨fun z4 => ?_, fun z4 => ?_⟩
    · replace w := w.1 z4
      refine gw_pst hk 2 (st' := (46, [some (.ref r0), none, none, some (.int x3), some (.int x4)], [.int x3], h_3)) rfl ?_
      refine gw_le (L' := [some (.ref r0), none, none, none, some (.int x4)]) (gm_le_k _ (gm_le_k _ (gm_le_k _ (gm_le_n _ (gm_le_k _ gm_le_nil))))) ?_
      exact ok69_46 c d Post K10 hK10 _ _ _ _ w
    · replace w := w.2 z4
      refine gw_pst hk 2 (st' := (34, [some (.ref r0), none, none, some (.int x3), some (.int x4)], [.ref r0, .ref r0], h_3)) rfl ?_
      obtain ⟨q_5, e5, w⟩ := w
      refine gw_gf (hk _ _ rfl) e5 ?_
      refine gw_pst hk 3 (st' := (41, [some (.ref r0), none, none, some (.int x3), some (.int x4)], [.int (x4 - 1), .ref q_5, .ref r0], h_3)) rfl ?_
      obtain ⟨n6, f6, e6, b6, w⟩ := w
      refine gw_ald (hk _ _ rfl) (Or.inl ⟨rfl, rfl⟩) e6 b6 ?_
      refine gw_pst hk 1 (st' := (43, [some (.ref r0), none, none, some (.int x3), some (.int x4)], [.int x3, .int (f6 (x4 - 1 : Int32).toNatClampNeg), .ref r0], h_3)) rfl ?_
      obtain ⟨⟨fs7, e7⟩, w⟩ := w
      refine gw_call (jj := 70) (As := [.ref r0, .int (f6 (x4 - 1 : Int32).toNatClampNeg), .int x3]) (rest := []) (hk _ _ rfl) (fun _ => rfl) rfl rfl (Nat.le_of_ble_eq_true rfl) (gm_rcv_v rfl e7 rfl) ?_
      refine ge_imp w (fun v7 h_7 w => ?_)
      obtain ⟨x_7, rfl, w⟩ := w
      show gV c d 69 (46, [some (.ref r0), none, none, some (.int x3), some (.int x4)], [.int x_7], h_7) Post
      refine gw_le (L' := [some (.ref r0), none, none, none, some (.int x4)]) (gm_le_k _ (gm_le_k _ (gm_le_k _ (gm_le_n _ (gm_le_k _ gm_le_nil))))) ?_
      exact ok69_46 c d Post K10 hK10 _ _ _ _ w
def wl69_10 (c : gx) (d : Nat) (Post : Option Value → gm_H → Prop) : Nat → Nat → Int32 → Int32 → gm_H → Prop
  | 0 => fun _ _ _ _ => False
  | n + 1 => wb69_10 c d Post (wl69_10 c d Post n)
theorem okl69_10 (c : gx) (d : Nat) (Post : Option Value → gm_H → Prop) : ∀ (n : Nat) (r0 : Nat) (x3 : Int32) (x4 : Int32) (h : gm_H), wl69_10 c d Post n r0 x3 x4 h → gV c d 69 (10, [some (.ref r0), none, none, some (.int x3), some (.int x4)], [], h) Post
  | 0, _, _, _, _, w => w.elim
  | n + 1, r0, x3, x4, h, w => okb69_10 c d Post (wl69_10 c d Post n) (okl69_10 c d Post n) r0 x3 x4 h w
/-- CommandByTurns$Walk.lookBack(II)I -/
def wm69 (c : gx) (d : Nat) (Post : Option Value → gm_H → Prop) (r0 : Nat) (x1 : Int32) (x2 : Int32) (h : gm_H) : Prop :=
  ∃ n, wl69_10 c d Post n r0 x2 (if 20 < x1 then 20 else x1) h
theorem okm69 (c : gx) (d : Nat) (Post : Option Value → gm_H → Prop) (r0 : Nat) (x1 : Int32) (x2 : Int32) (h : gm_H) (w : wm69 c d Post r0 x1 x2 h) : gE c (d + 1) 69 [.ref r0, .int x1, .int x2] h Post := by
  have hk : ∀ pc i, gm_find gk_69 pc = some i → gm_code (gt_T c.1 c.2.1 c.2.2.1) 69 pc = some i := fun _ _ z => z
  unfold wm69 at w
  refine ge_of (by decide) (Nat.le_of_ble_eq_true rfl) ?_
  show gV c d 69 (0, [some (.ref r0), some (.int x1), some (.int x2), none, none], [], h) Post
  unfold gV
  refine gw_pst hk 6 (st' := (10, [some (.ref r0), some (.int x1), some (.int x2), some (.int x2), some (.int (if 20 < x1 then 20 else x1))], [], h)) rfl ?_
  refine gw_le (L' := [some (.ref r0), none, none, some (.int x2), some (.int (if 20 < x1 then 20 else x1))]) (gm_le_k _ (gm_le_n _ (gm_le_n _ (gm_le_k _ (gm_le_k _ gm_le_nil))))) ?_
  obtain ⟨n, w⟩ := w
  exact okl69_10 c d Post n _ _ _ _ w
def w70_31 (c : gx) (d : Nat) (Post : Option Value → gm_H → Prop) (K5 : Nat → Int32 → Int32 → Int32 → Int32 → gm_H → Prop) (r0 : Nat) (x1 : Int32) (x2 : Int32) (x3 : Int32) (x4 : Int32) (h : gm_H) : Prop :=
  K5 r0 x1 x2 x3 (x4 + 1) h
theorem ok70_31 (c : gx) (d : Nat) (Post : Option Value → gm_H → Prop) (K5 : Nat → Int32 → Int32 → Int32 → Int32 → gm_H → Prop)  (hK5 : ∀ (r0 : Nat) (x1 : Int32) (x2 : Int32) (x3 : Int32) (x4 : Int32) (h : gm_H), K5 r0 x1 x2 x3 x4 h → gV c d 70 (5, [some (.ref r0), some (.int x1), some (.int x2), some (.int x3), some (.int x4)], [], h) Post) (r0 : Nat) (x1 : Int32) (x2 : Int32) (x3 : Int32) (x4 : Int32) (h : gm_H) (w : w70_31 c d Post K5 r0 x1 x2 x3 x4 h) : gV c d 70 (31, [some (.ref r0), some (.int x1), some (.int x2), some (.int x3), some (.int x4)], [], h) Post := by
  have hk : ∀ pc i, gm_find gk_70 pc = some i → gm_code (gt_T c.1 c.2.1 c.2.2.1) 70 pc = some i := fun _ _ z => z
  unfold w70_31 at w
  unfold gV
  refine gw_pst hk 2 (st' := (5, [some (.ref r0), some (.int x1), some (.int x2), some (.int x3), some (.int (x4 + 1))], [], h)) rfl ?_
  exact hK5 _ _ _ _ _ _ w
def wb70_5 (c : gx) (d : Nat) (Post : Option Value → gm_H → Prop) (K5 : Nat → Int32 → Int32 → Int32 → Int32 → gm_H → Prop) (r0 : Nat) (x1 : Int32) (x2 : Int32) (x3 : Int32) (x4 : Int32) (h : gm_H) : Prop :=
  ((12 ≤ x4 → Post (some (.int x3)) h) ∧ (¬ (12 ≤ x4) → (∃ fs2, gm_get h r0 = some (.inr (8, fs2))) ∧ gE c d 65 [.ref r0, .int x1, .int x4] h (fun v2 h_2 => ∃ x_2 : Int32, v2 = some (.int x_2) ∧ (((x_2 &&& x2) = 0 → w70_31 c d Post K5 r0 x1 x2 x3 x4 h_2) ∧ (¬ ((x_2 &&& x2) = 0) → w70_31 c d Post K5 r0 x1 x2 (x3 ||| (1 <<< (x4 &&& 31))) x4 h_2)))))
theorem okb70_5 (c : gx) (d : Nat) (Post : Option Value → gm_H → Prop) (K5 : Nat → Int32 → Int32 → Int32 → Int32 → gm_H → Prop)  (hK5 : ∀ (r0 : Nat) (x1 : Int32) (x2 : Int32) (x3 : Int32) (x4 : Int32) (h : gm_H), K5 r0 x1 x2 x3 x4 h → gV c d 70 (5, [some (.ref r0), some (.int x1), some (.int x2), some (.int x3), some (.int x4)], [], h) Post) (r0 : Nat) (x1 : Int32) (x2 : Int32) (x3 : Int32) (x4 : Int32) (h : gm_H) (w : wb70_5 c d Post K5 r0 x1 x2 x3 x4 h) : gV c d 70 (5, [some (.ref r0), some (.int x1), some (.int x2), some (.int x3), some (.int x4)], [], h) Post := by
  have hk : ∀ pc i, gm_find gk_70 pc = some i → gm_code (gt_T c.1 c.2.1 c.2.2.1) 70 pc = some i := fun _ _ z => z
  unfold wb70_5 at w
  unfold gV
  refine gw_pst hk 2 (st' := (9, [some (.ref r0), some (.int x1), some (.int x2), some (.int x3), some (.int x4)], [.int 12, .int x4], h)) rfl ?_
  refine gw_br (c := 12 ≤ x4) (a := (37, [some (.ref r0), some (.int x1), some (.int x2), some (.int x3), some (.int x4)], [], h)) (b := (12, [some (.ref r0), some (.int x1), some (.int x2), some (.int x3), some (.int x4)], [], h)) (hk _ _ rfl) rfl ⟨fun z1 => ?_, fun z1 => ?_⟩
  · replace w := w.1 z1
    refine gw_pst hk 1 (st' := (38, [some (.ref r0), some (.int x1), some (.int x2), some (.int x3), some (.int x4)], [.int x3], h)) rfl ?_
    exact gw_ret (hk _ _ rfl) rfl w
  · replace w := w.2 z1
    refine gw_pst hk 3 (st' := (16, [some (.ref r0), some (.int x1), some (.int x2), some (.int x3), some (.int x4)], [.int x4, .int x1, .ref r0], h)) rfl ?_
    obtain ⟨⟨fs2, e2⟩, w⟩ := w
    refine gw_call (jj := 65) (As := [.ref r0, .int x1, .int x4]) (rest := []) (hk _ _ rfl) (fun _ => rfl) rfl rfl (Nat.le_of_ble_eq_true rfl) (gm_rcv_v rfl e2 rfl) ?_
    refine ge_imp w (fun v2 h_2 w => ?_)
    obtain ⟨x_2, rfl, w⟩ := w
    show gV c d 70 (19, [some (.ref r0), some (.int x1), some (.int x2), some (.int x3), some (.int x4)], [.int x_2], h_2) Post
    refine gw_pst hk 2 (st' := (21, [some (.ref r0), some (.int x1), some (.int x2), some (.int x3), some (.int x4)], [.int (x_2 &&& x2)], h_2)) rfl ?_
    refine gw_br (c := (x_2 &&& x2) = 0) (a := (31, [some (.ref r0), some (.int x1), some (.int x2), some (.int x3), some (.int x4)], [], h_2)) (b := (24, [some (.ref r0), some (.int x1), some (.int x2), some (.int x3), some (.int x4)], [], h_2)) (hk _ _ rfl) rfl ⟨fun z3 => ?_, fun z3 => ?_⟩
    · replace w := w.1 z3
      exact ok70_31 c d Post K5 hK5 _ _ _ _ _ _ w
    · replace w := w.2 z3
      refine gw_pst hk 6 (st' := (31, [some (.ref r0), some (.int x1), some (.int x2), some (.int (x3 ||| (1 <<< (x4 &&& 31)))), some (.int x4)], [], h_2)) rfl ?_
      exact ok70_31 c d Post K5 hK5 _ _ _ _ _ _ w
def wl70_5 (c : gx) (d : Nat) (Post : Option Value → gm_H → Prop) : Nat → Nat → Int32 → Int32 → Int32 → Int32 → gm_H → Prop
  | 0 => fun _ _ _ _ _ _ => False
  | n + 1 => wb70_5 c d Post (wl70_5 c d Post n)
theorem okl70_5 (c : gx) (d : Nat) (Post : Option Value → gm_H → Prop) : ∀ (n : Nat) (r0 : Nat) (x1 : Int32) (x2 : Int32) (x3 : Int32) (x4 : Int32) (h : gm_H), wl70_5 c d Post n r0 x1 x2 x3 x4 h → gV c d 70 (5, [some (.ref r0), some (.int x1), some (.int x2), some (.int x3), some (.int x4)], [], h) Post
  | 0, _, _, _, _, _, _, w => w.elim
  | n + 1, r0, x1, x2, x3, x4, h, w => okb70_5 c d Post (wl70_5 c d Post n) (okl70_5 c d Post n) r0 x1 x2 x3 x4 h w
/-- CommandByTurns$Walk.sourcesOf(II)I -/
def wm70 (c : gx) (d : Nat) (Post : Option Value → gm_H → Prop) (r0 : Nat) (x1 : Int32) (x2 : Int32) (h : gm_H) : Prop :=
  ∃ n, wl70_5 c d Post n r0 x1 x2 0 0 h
theorem okm70 (c : gx) (d : Nat) (Post : Option Value → gm_H → Prop) (r0 : Nat) (x1 : Int32) (x2 : Int32) (h : gm_H) (w : wm70 c d Post r0 x1 x2 h) : gE c (d + 1) 70 [.ref r0, .int x1, .int x2] h Post := by
  have hk : ∀ pc i, gm_find gk_70 pc = some i → gm_code (gt_T c.1 c.2.1 c.2.2.1) 70 pc = some i := fun _ _ z => z
  unfold wm70 at w
  refine ge_of (by decide) (Nat.le_of_ble_eq_true rfl) ?_
  show gV c d 70 (0, [some (.ref r0), some (.int x1), some (.int x2), none, none], [], h) Post
  unfold gV
  refine gw_pst hk 4 (st' := (5, [some (.ref r0), some (.int x1), some (.int x2), some (.int 0), some (.int 0)], [], h)) rfl ?_
  obtain ⟨n, w⟩ := w
  exact okl70_5 c d Post n _ _ _ _ _ _ w
def w71_10 (c : gx) (d : Nat) (Post : Option Value → gm_H → Prop) (x2 : Int32) (h : gm_H) : Prop :=
  Post (some (.int x2)) h
theorem ok71_10 (c : gx) (d : Nat) (Post : Option Value → gm_H → Prop)  (x2 : Int32) (h : gm_H) (w : w71_10 c d Post x2 h) : gV c d 71 (10, [none, none, some (.int x2)], [], h) Post := by
  have hk : ∀ pc i, gm_find gk_71 pc = some i → gm_code (gt_T c.1 c.2.1 c.2.2.1) 71 pc = some i := fun _ _ z => z
  unfold w71_10 at w
  unfold gV
  refine gw_pst hk 1 (st' := (11, [none, none, some (.int x2)], [.int x2], h)) rfl ?_
  exact gw_ret (hk _ _ rfl) rfl w
/-- CommandByTurns$Walk.leastStep(II)I -/
def wm71 (c : gx) (d : Nat) (Post : Option Value → gm_H → Prop) (r0 : Nat) (x1 : Int32) (x2 : Int32) (h : gm_H) : Prop :=
  ((x1 < 0 → w71_10 c d Post x2 h) ∧ (¬ (x1 < 0) → ((x1 < 20 → ∃ q_3 : Nat, gm_fld h r0 8 2 = some (.ref q_3) ∧ ∃ (n4 : Nat) (f4 : Nat → Int32), gm_get h q_3 = some (.inl (0, n4, .inl f4)) ∧ vp_in x1 n4 ∧ (∃ fs5, gm_get h r0 = some (.inr (8, fs5))) ∧ gE c d 65 [.ref r0, .int (f4 (x1 : Int32).toNatClampNeg), .int x2] h (fun v5 h_5 => ∃ x_5 : Int32, v5 = some (.int x_5) ∧ ∃ q_6 : Nat, gm_fld h_5 r0 8 3 = some (.ref q_6) ∧ ∃ (n7 : Nat) (f7 : Nat → Int32), gm_get h_5 q_6 = some (.inl (0, n7, .inl f7)) ∧ vp_in (x1 + 1) n7 ∧ gE c d 265 [.int (x_5 &&& (f7 (x1 + 1 : Int32).toNatClampNeg))] h_5 (fun v8 h_8 => ∃ x_8 : Int32, v8 = some (.int x_8) ∧ Post (some (.int x_8)) h_8))) ∧ (¬ (x1 < 20) → w71_10 c d Post x2 h))))
theorem okm71 (c : gx) (d : Nat) (Post : Option Value → gm_H → Prop) (r0 : Nat) (x1 : Int32) (x2 : Int32) (h : gm_H) (w : wm71 c d Post r0 x1 x2 h) : gE c (d + 1) 71 [.ref r0, .int x1, .int x2] h Post := by
  have hk : ∀ pc i, gm_find gk_71 pc = some i → gm_code (gt_T c.1 c.2.1 c.2.2.1) 71 pc = some i := fun _ _ z => z
  unfold wm71 at w
  refine ge_of (by decide) (Nat.le_of_ble_eq_true rfl) ?_
  show gV c d 71 (0, [some (.ref r0), some (.int x1), some (.int x2)], [], h) Post
  unfold gV
  refine gw_pst hk 1 (st' := (1, [some (.ref r0), some (.int x1), some (.int x2)], [.int x1], h)) rfl ?_
  refine gw_br (c := x1 < 0) (a := (10, [some (.ref r0), some (.int x1), some (.int x2)], [], h)) (b := (4, [some (.ref r0), some (.int x1), some (.int x2)], [], h)) (hk _ _ rfl) rfl ⟨fun z1 => ?_, fun z1 => ?_⟩
  · replace w := w.1 z1
    refine gw_le (L' := [none, none, some (.int x2)]) (gm_le_n _ (gm_le_n _ (gm_le_k _ gm_le_nil))) ?_
    exact ok71_10 c d Post _ _ w
  · replace w := w.2 z1
    refine gw_pst hk 2 (st' := (7, [some (.ref r0), some (.int x1), some (.int x2)], [.int 20, .int x1], h)) rfl ?_
    refine gw_br (c := x1 < 20) (a := (12, [some (.ref r0), some (.int x1), some (.int x2)], [], h)) (b := (10, [some (.ref r0), some (.int x1), some (.int x2)], [], h)) (hk _ _ rfl) rfl ⟨fun z2 => ?_, fun z2 => ?_⟩
    · replace w := w.1 z2
      refine gw_pst hk 2 (st' := (14, [some (.ref r0), some (.int x1), some (.int x2)], [.ref r0, .ref r0], h)) rfl ?_
      obtain ⟨q_3, e3, w⟩ := w
      refine gw_gf (hk _ _ rfl) e3 ?_
      refine gw_pst hk 1 (st' := (18, [some (.ref r0), some (.int x1), some (.int x2)], [.int x1, .ref q_3, .ref r0], h)) rfl ?_
      obtain ⟨n4, f4, e4, b4, w⟩ := w
      refine gw_ald (hk _ _ rfl) (Or.inl ⟨rfl, rfl⟩) e4 b4 ?_
      refine gw_pst hk 1 (st' := (20, [some (.ref r0), some (.int x1), some (.int x2)], [.int x2, .int (f4 (x1 : Int32).toNatClampNeg), .ref r0], h)) rfl ?_
      obtain ⟨⟨fs5, e5⟩, w⟩ := w
      refine gw_call (jj := 65) (As := [.ref r0, .int (f4 (x1 : Int32).toNatClampNeg), .int x2]) (rest := []) (hk _ _ rfl) (fun _ => rfl) rfl rfl (Nat.le_of_ble_eq_true rfl) (gm_rcv_v rfl e5 rfl) ?_
      refine ge_imp w (fun v5 h_5 w => ?_)
      obtain ⟨x_5, rfl, w⟩ := w
      show gV c d 71 (23, [some (.ref r0), some (.int x1), some (.int x2)], [.int x_5], h_5) Post
      refine gw_pst hk 1 (st' := (24, [some (.ref r0), some (.int x1), some (.int x2)], [.ref r0, .int x_5], h_5)) rfl ?_
      obtain ⟨q_6, e6, w⟩ := w
      refine gw_gf (hk _ _ rfl) e6 ?_
      refine gw_pst hk 3 (st' := (30, [some (.ref r0), some (.int x1), some (.int x2)], [.int (x1 + 1), .ref q_6, .int x_5], h_5)) rfl ?_
      obtain ⟨n7, f7, e7, b7, w⟩ := w
      refine gw_ald (hk _ _ rfl) (Or.inl ⟨rfl, rfl⟩) e7 b7 ?_
      refine gw_pst hk 1 (st' := (32, [some (.ref r0), some (.int x1), some (.int x2)], [.int (x_5 &&& (f7 (x1 + 1 : Int32).toNatClampNeg))], h_5)) rfl ?_
      refine gw_call (jj := 265) (As := [.int (x_5 &&& (f7 (x1 + 1 : Int32).toNatClampNeg))]) (rest := []) (hk _ _ rfl) (fun _ => rfl) rfl rfl (Nat.le_of_ble_eq_true rfl) rfl ?_
      refine ge_imp w (fun v8 h_8 w => ?_)
      obtain ⟨x_8, rfl, w⟩ := w
      show gV c d 71 (35, [some (.ref r0), some (.int x1), some (.int x2)], [.int x_8], h_8) Post
      exact gw_ret (hk _ _ rfl) rfl w
    · replace w := w.2 z2
      refine gw_le (L' := [none, none, some (.int x2)]) (gm_le_n _ (gm_le_n _ (gm_le_k _ gm_le_nil))) ?_
      exact ok71_10 c d Post _ _ w
def w72_40 (c : gx) (d : Nat) (Post : Option Value → gm_H → Prop) (xs0 : Int32) (h : gm_H) : Prop :=
  ((xs0 = 0 ∨ xs0 = 1) ∧ Post (some (.int xs0)) h)
theorem ok72_40 (c : gx) (d : Nat) (Post : Option Value → gm_H → Prop)  (xs0 : Int32) (h : gm_H) (w : w72_40 c d Post xs0 h) : gV c d 72 (40, [none, none, none], [.int xs0], h) Post := by
  have hk : ∀ pc i, gm_find gk_72 pc = some i → gm_code (gt_T c.1 c.2.1 c.2.2.1) 72 pc = some i := fun _ _ z => z
  unfold w72_40 at w
  unfold gV
  exact gw_retZ (hk _ _ rfl) rfl w.1 w.2
/-- CommandByTurns$Walk.findFewest(II)Z -/
def wm72 (c : gx) (d : Nat) (Post : Option Value → gm_H → Prop) (r0 : Nat) (x1 : Int32) (x2 : Int32) (h : gm_H) : Prop :=
  ∃ fs1 : List Value, gm_get h r0 = some (.inr (8, fs1)) ∧ 4 < fs1.length ∧ ∀ h_1 : gm_H, h_1 = gm_put h r0 (.inr (8, fs1.set 4 (.int (x2 + 1)))) → ∃ fs2 : List Value, gm_get h_1 r0 = some (.inr (8, fs2)) ∧ 5 < fs2.length ∧ ∀ h_2 : gm_H, h_2 = gm_put h_1 r0 (.inr (8, fs2.set 5 (.int 0))) → (∃ fs3, gm_get h_2 r0 = some (.inr (8, fs3))) ∧ gE c d 73 [.ref r0, .int 0, .int (if 20 < x2 then 20 else x2), .int (1 <<< (x1 &&& 31)), .int 0] h_2 (fun v3 h_3 => v3 = none ∧ ∃ x_4 : Int32, gm_fld h_3 r0 8 4 = some (.int x_4) ∧ ((x2 < x_4 → w72_40 c d Post 0 h_3) ∧ (¬ (x2 < x_4) → w72_40 c d Post 1 h_3)))
theorem okm72 (c : gx) (d : Nat) (Post : Option Value → gm_H → Prop) (r0 : Nat) (x1 : Int32) (x2 : Int32) (h : gm_H) (w : wm72 c d Post r0 x1 x2 h) : gE c (d + 1) 72 [.ref r0, .int x1, .int x2] h Post := by
  have hk : ∀ pc i, gm_find gk_72 pc = some i → gm_code (gt_T c.1 c.2.1 c.2.2.1) 72 pc = some i := fun _ _ z => z
  unfold wm72 at w
  refine ge_of (by decide) (Nat.le_of_ble_eq_true rfl) ?_
  show gV c d 72 (0, [some (.ref r0), some (.int x1), some (.int x2)], [], h) Post
  unfold gV
  refine gw_pst hk 4 (st' := (4, [some (.ref r0), some (.int x1), some (.int x2)], [.int (x2 + 1), .ref r0], h)) rfl ?_
  obtain ⟨fs1, e1, l1, w⟩ := w
  refine gw_pf (hk _ _ rfl) e1 l1 rfl ?_
  obtain ⟨h_1, eh1⟩ : ∃ z, z = gm_put h r0 (.inr (8, fs1.set 4 (.int (x2 + 1)))) := ⟨_, rfl⟩
  rw [← eh1]
  replace w := w h_1 eh1
  refine gw_pst hk 2 (st' := (9, [some (.ref r0), some (.int x1), some (.int x2)], [.int 0, .ref r0], h_1)) rfl ?_
  obtain ⟨fs2, e2, l2, w⟩ := w
  refine gw_pf (hk _ _ rfl) e2 l2 rfl ?_
  obtain ⟨h_2, eh2⟩ : ∃ z, z = gm_put h_1 r0 (.inr (8, fs2.set 5 (.int 0))) := ⟨_, rfl⟩
  rw [← eh2]
  replace w := w h_2 eh2
  refine gw_pst hk 9 (st' := (24, [some (.ref r0), some (.int x1), some (.int x2)], [.int 0, .int (1 <<< (x1 &&& 31)), .int (if 20 < x2 then 20 else x2), .int 0, .ref r0], h_2)) rfl ?_
  obtain ⟨⟨fs3, e3⟩, w⟩ := w
  refine gw_call (jj := 73) (As := [.ref r0, .int 0, .int (if 20 < x2 then 20 else x2), .int (1 <<< (x1 &&& 31)), .int 0]) (rest := []) (hk _ _ rfl) (fun _ => rfl) rfl rfl (Nat.le_of_ble_eq_true rfl) (gm_rcv_v rfl e3 rfl) ?_
  refine ge_imp w (fun v3 h_3 w => ?_)
  obtain ⟨rfl, w⟩ := w
  show gV c d 72 (27, [some (.ref r0), some (.int x1), some (.int x2)], [], h_3) Post
  refine gw_pst hk 1 (st' := (28, [some (.ref r0), some (.int x1), some (.int x2)], [.ref r0], h_3)) rfl ?_
  obtain ⟨x_4, e4, w⟩ := w
  refine gw_gf (hk _ _ rfl) e4 ?_
  refine gw_pst hk 1 (st' := (32, [some (.ref r0), some (.int x1), some (.int x2)], [.int x2, .int x_4], h_3)) rfl ?_
  refine gw_br (c := x2 < x_4) (a := (39, [some (.ref r0), some (.int x1), some (.int x2)], [], h_3)) (b := (35, [some (.ref r0), some (.int x1), some (.int x2)], [], h_3)) (hk _ _ rfl) rfl ⟨fun z5 => ?_, fun z5 => ?_⟩
  · replace w := w.1 z5
    refine gw_pst hk 1 (st' := (40, [some (.ref r0), some (.int x1), some (.int x2)], [.int 0], h_3)) rfl ?_
    refine gw_le (L' := [none, none, none]) (gm_le_n _ (gm_le_n _ (gm_le_n _ gm_le_nil))) ?_
    exact ok72_40 c d Post _ _ w
  · replace w := w.2 z5
    refine gw_pst hk 2 (st' := (40, [some (.ref r0), some (.int x1), some (.int x2)], [.int 1], h_3)) rfl ?_
    refine gw_le (L' := [none, none, none]) (gm_le_n _ (gm_le_n _ (gm_le_n _ gm_le_nil))) ?_
    exact ok72_40 c d Post _ _ w
def w73_50 (c : gx) (d : Nat) (Post : Option Value → gm_H → Prop)  (h : gm_H) : Prop :=
  Post none h
theorem ok73_50 (c : gx) (d : Nat) (Post : Option Value → gm_H → Prop)   (h : gm_H) (w : w73_50 c d Post  h) : gV c d 73 (50, [none, none, none, none, none, none], [], h) Post := by
  have hk : ∀ pc i, gm_find gk_73 pc = some i → gm_code (gt_T c.1 c.2.1 c.2.2.1) 73 pc = some i := fun _ _ z => z
  unfold w73_50 at w
  unfold gV
  exact gw_ret (hk _ _ rfl) rfl w
def w73_38 (c : gx) (d : Nat) (Post : Option Value → gm_H → Prop) (r0 : Nat) (x4 : Int32) (x5 : Int32) (h : gm_H) : Prop :=
  ∃ fs1 : List Value, gm_get h r0 = some (.inr (8, fs1)) ∧ 4 < fs1.length ∧ ∀ h_1 : gm_H, h_1 = gm_put h r0 (.inr (8, fs1.set 4 (.int x5))) → ∃ fs2 : List Value, gm_get h_1 r0 = some (.inr (8, fs2)) ∧ 5 < fs2.length ∧ ∀ h_2 : gm_H, h_2 = gm_put h_1 r0 (.inr (8, fs2.set 5 (.int x4))) → w73_50 c d Post h_2
theorem ok73_38 (c : gx) (d : Nat) (Post : Option Value → gm_H → Prop)  (r0 : Nat) (x4 : Int32) (x5 : Int32) (h : gm_H) (w : w73_38 c d Post r0 x4 x5 h) : gV c d 73 (38, [some (.ref r0), none, none, none, some (.int x4), some (.int x5)], [], h) Post := by
  have hk : ∀ pc i, gm_find gk_73 pc = some i → gm_code (gt_T c.1 c.2.1 c.2.2.1) 73 pc = some i := fun _ _ z => z
  unfold w73_38 at w
  unfold gV
  refine gw_pst hk 2 (st' := (41, [some (.ref r0), none, none, none, some (.int x4), some (.int x5)], [.int x5, .ref r0], h)) rfl ?_
  obtain ⟨fs1, e1, l1, w⟩ := w
  refine gw_pf (hk _ _ rfl) e1 l1 rfl ?_
  obtain ⟨h_1, eh1⟩ : ∃ z, z = gm_put h r0 (.inr (8, fs1.set 4 (.int x5))) := ⟨_, rfl⟩
  rw [← eh1]
  replace w := w h_1 eh1
  refine gw_pst hk 2 (st' := (47, [some (.ref r0), none, none, none, some (.int x4), some (.int x5)], [.int x4, .ref r0], h_1)) rfl ?_
  obtain ⟨fs2, e2, l2, w⟩ := w
  refine gw_pf (hk _ _ rfl) e2 l2 rfl ?_
  obtain ⟨h_2, eh2⟩ : ∃ z, z = gm_put h_1 r0 (.inr (8, fs2.set 5 (.int x4))) := ⟨_, rfl⟩
  rw [← eh2]
  replace w := w h_2 eh2
  refine gw_le (L' := [none, none, none, none, none, none]) (gm_le_n _ (gm_le_k _ (gm_le_k _ (gm_le_k _ (gm_le_n _ (gm_le_n _ gm_le_nil)))))) ?_
  exact ok73_50 c d Post _ w
def w73_69 (c : gx) (d : Nat) (Post : Option Value → gm_H → Prop)  (h : gm_H) : Prop :=
  Post none h
theorem ok73_69 (c : gx) (d : Nat) (Post : Option Value → gm_H → Prop)   (h : gm_H) (w : w73_69 c d Post  h) : gV c d 73 (69, [none, none, none, none, none, none], [], h) Post := by
  have hk : ∀ pc i, gm_find gk_73 pc = some i → gm_code (gt_T c.1 c.2.1 c.2.2.1) 73 pc = some i := fun _ _ z => z
  unfold w73_69 at w
  unfold gV
  exact gw_ret (hk _ _ rfl) rfl w
def w73_121 (c : gx) (d : Nat) (Post : Option Value → gm_H → Prop)  (h : gm_H) : Prop :=
  Post none h
theorem ok73_121 (c : gx) (d : Nat) (Post : Option Value → gm_H → Prop)   (h : gm_H) (w : w73_121 c d Post  h) : gV c d 73 (121, [none, none, none, none, none, none], [], h) Post := by
  have hk : ∀ pc i, gm_find gk_73 pc = some i → gm_code (gt_T c.1 c.2.1 c.2.2.1) 73 pc = some i := fun _ _ z => z
  unfold w73_121 at w
  unfold gV
  exact gw_ret (hk _ _ rfl) rfl w
/-- CommandByTurns$Walk.give(IIII)V -/
def wm73 (c : gx) (d : Nat) (Post : Option Value → gm_H → Prop) (r0 : Nat) (x1 : Int32) (x2 : Int32) (x3 : Int32) (x4 : Int32) (h : gm_H) : Prop :=
  gE c d 266 [.int x4] h (fun v1 h_1 => ∃ x_1 : Int32, v1 = some (.int x_1) ∧ ((x3 = 0 → ∃ x_3 : Int32, gm_fld h_1 r0 8 4 = some (.int x_3) ∧ ((x_1 < x_3 → w73_38 c d Post r0 x4 x_1 h_1) ∧ (¬ (x_1 < x_3) → ∃ x_5 : Int32, gm_fld h_1 r0 8 4 = some (.int x_5) ∧ ((x_1 = x_5 → ∃ x_7 : Int32, gm_fld h_1 r0 8 5 = some (.int x_7) ∧ ((x_7 ≤ x4 → w73_50 c d Post h_1) ∧ (¬ (x_7 ≤ x4) → w73_38 c d Post r0 x4 x_1 h_1))) ∧ (¬ (x_1 = x_5) → w73_50 c d Post h_1))))) ∧ (¬ (x3 = 0) → ((x1 < 0 → w73_69 c d Post h_1) ∧ (¬ (x1 < 0) → ((x2 ≤ x1 → w73_69 c d Post h_1) ∧ (¬ (x2 ≤ x1) → ∃ x_11 : Int32, gm_fld h_1 r0 8 4 = some (.int x_11) ∧ ((x_1 ≤ x_11 → ∃ q_13 : Nat, gm_fld h_1 r0 8 2 = some (.ref q_13) ∧ ∃ (n14 : Nat) (f14 : Nat → Int32), gm_get h_1 q_13 = some (.inl (0, n14, .inl f14)) ∧ vp_in x1 n14 ∧ (∃ fs15, gm_get h_1 r0 = some (.inr (8, fs15))) ∧ gE c d 66 [.ref r0, .int (f14 (x1 : Int32).toNatClampNeg), .int x3] h_1 (fun v15 h_15 => ∃ x_15 : Int32, v15 = some (.int x_15) ∧ (∃ fs16, gm_get h_15 r0 = some (.inr (8, fs16))) ∧ gE c d 73 [.ref r0, .int (x1 + 1), .int x2, .int x_15, .int x4] h_15 (fun v16 h_16 => v16 = none ∧ ∃ q_17 : Nat, gm_fld h_16 r0 8 2 = some (.ref q_17) ∧ ∃ (n18 : Nat) (f18 : Nat → Int32), gm_get h_16 q_17 = some (.inl (0, n18, .inl f18)) ∧ vp_in x1 n18 ∧ (((f18 (x1 : Int32).toNatClampNeg) = 1 → (∃ fs20, gm_get h_16 r0 = some (.inr (8, fs20))) ∧ gE c d 66 [.ref r0, .int 0, .int x3] h_16 (fun v20 h_20 => ∃ x_20 : Int32, v20 = some (.int x_20) ∧ (∃ fs21, gm_get h_20 r0 = some (.inr (8, fs21))) ∧ gE c d 73 [.ref r0, .int (x1 + 1), .int x2, .int x_20, .int (x4 ||| (1 <<< (x1 &&& 31)))] h_20 (fun v21 h_21 => v21 = none ∧ w73_121 c d Post h_21))) ∧ (¬ ((f18 (x1 : Int32).toNatClampNeg) = 1) → w73_121 c d Post h_16))))) ∧ (¬ (x_1 ≤ x_11) → w73_69 c d Post h_1)))))))))
theorem okm73 (c : gx) (d : Nat) (Post : Option Value → gm_H → Prop) (r0 : Nat) (x1 : Int32) (x2 : Int32) (x3 : Int32) (x4 : Int32) (h : gm_H) (w : wm73 c d Post r0 x1 x2 x3 x4 h) : gE c (d + 1) 73 [.ref r0, .int x1, .int x2, .int x3, .int x4] h Post := by
  have hk : ∀ pc i, gm_find gk_73 pc = some i → gm_code (gt_T c.1 c.2.1 c.2.2.1) 73 pc = some i := fun _ _ z => z
  unfold wm73 at w
  refine ge_of (by decide) (Nat.le_of_ble_eq_true rfl) ?_
  show gV c d 73 (0, [some (.ref r0), some (.int x1), some (.int x2), some (.int x3), some (.int x4), none], [], h) Post
  unfold gV
  refine gw_pst hk 1 (st' := (2, [some (.ref r0), some (.int x1), some (.int x2), some (.int x3), some (.int x4), none], [.int x4], h)) rfl ?_
  refine gw_call (jj := 266) (As := [.int x4]) (rest := []) (hk _ _ rfl) (fun _ => rfl) rfl rfl (Nat.le_of_ble_eq_true rfl) rfl ?_
  refine ge_imp w (fun v1 h_1 w => ?_)
  obtain ⟨x_1, rfl, w⟩ := w
  show gV c d 73 (5, [some (.ref r0), some (.int x1), some (.int x2), some (.int x3), some (.int x4), none], [.int x_1], h_1) Post
  refine gw_pst hk 2 (st' := (8, [some (.ref r0), some (.int x1), some (.int x2), some (.int x3), some (.int x4), some (.int x_1)], [.int x3], h_1)) rfl ?_
  refine gw_br (c := x3 = 0) (a := (11, [some (.ref r0), some (.int x1), some (.int x2), some (.int x3), some (.int x4), some (.int x_1)], [], h_1)) (b := (51, [some (.ref r0), some (.int x1), some (.int x2), some (.int x3), some (.int x4), some (.int x_1)], [], h_1)) (hk _ _ rfl) rfl ⟨fun z2 => ?_, fun z2 => ?_⟩
  · replace w := w.1 z2
    refine gw_pst hk 2 (st' := (14, [some (.ref r0), some (.int x1), some (.int x2), some (.int x3), some (.int x4), some (.int x_1)], [.ref r0, .int x_1], h_1)) rfl ?_
    obtain ⟨x_3, e3, w⟩ := w
    refine gw_gf (hk _ _ rfl) e3 ?_
    refine gw_br (c := x_1 < x_3) (a := (38, [some (.ref r0), some (.int x1), some (.int x2), some (.int x3), some (.int x4), some (.int x_1)], [], h_1)) (b := (20, [some (.ref r0), some (.int x1), some (.int x2), some (.int x3), some (.int x4), some (.int x_1)], [], h_1)) (hk _ _ rfl) rfl ⟨fun z4 => ?_, fun z4 => ?_⟩
    · replace w := w.1 z4
      refine gw_le (L' := [some (.ref r0), none, none, none, some (.int x4), some (.int x_1)]) (gm_le_k _ (gm_le_n _ (gm_le_n _ (gm_le_n _ (gm_le_k _ (gm_le_k _ gm_le_nil)))))) ?_
      exact ok73_38 c d Post _ _ _ _ w
    · replace w := w.2 z4
      refine gw_pst hk 2 (st' := (23, [some (.ref r0), some (.int x1), some (.int x2), some (.int x3), some (.int x4), some (.int x_1)], [.ref r0, .int x_1], h_1)) rfl ?_
      obtain ⟨x_5, e5, w⟩ := w
      refine gw_gf (hk _ _ rfl) e5 ?_
      refine gw_br (c := x_1 = x_5) (a := (29, [some (.ref r0), some (.int x1), some (.int x2), some (.int x3), some (.int x4), some (.int x_1)], [], h_1)) (b := (50, [some (.ref r0), some (.int x1), some (.int x2), some (.int x3), some (.int x4), some (.int x_1)], [], h_1)) (hk _ _ rfl) rfl ⟨fun z6 => ?_, fun z6 => ?_⟩
      · replace w := w.1 z6
        refine gw_pst hk 2 (st' := (32, [some (.ref r0), some (.int x1), some (.int x2), some (.int x3), some (.int x4), some (.int x_1)], [.ref r0, .int x4], h_1)) rfl ?_
        obtain ⟨x_7, e7, w⟩ := w
        refine gw_gf (hk _ _ rfl) e7 ?_
        refine gw_br (c := x_7 ≤ x4) (a := (50, [some (.ref r0), some (.int x1), some (.int x2), some (.int x3), some (.int x4), some (.int x_1)], [], h_1)) (b := (38, [some (.ref r0), some (.int x1), some (.int x2), some (.int x3), some (.int x4), some (.int x_1)], [], h_1)) (hk _ _ rfl) rfl ⟨fun z8 => ?_, fun z8 => ?_⟩
        · replace w := w.1 z8
          refine gw_le (L' := [none, none, none, none, none, none]) (gm_le_n _ (gm_le_n _ (gm_le_n _ (gm_le_n _ (gm_le_n _ (gm_le_n _ gm_le_nil)))))) ?_
          exact ok73_50 c d Post _ w
        · replace w := w.2 z8
          refine gw_le (L' := [some (.ref r0), none, none, none, some (.int x4), some (.int x_1)]) (gm_le_k _ (gm_le_n _ (gm_le_n _ (gm_le_n _ (gm_le_k _ (gm_le_k _ gm_le_nil)))))) ?_
          exact ok73_38 c d Post _ _ _ _ w
      · replace w := w.2 z6
        refine gw_le (L' := [none, none, none, none, none, none]) (gm_le_n _ (gm_le_n _ (gm_le_n _ (gm_le_n _ (gm_le_n _ (gm_le_n _ gm_le_nil)))))) ?_
        exact ok73_50 c d Post _ w
  · replace w := w.2 z2
    refine gw_pst hk 1 (st' := (52, [some (.ref r0), some (.int x1), some (.int x2), some (.int x3), some (.int x4), some (.int x_1)], [.int x1], h_1)) rfl ?_
    refine gw_br (c := x1 < 0) (a := (69, [some (.ref r0), some (.int x1), some (.int x2), some (.int x3), some (.int x4), some (.int x_1)], [], h_1)) (b := (55, [some (.ref r0), some (.int x1), some (.int x2), some (.int x3), some (.int x4), some (.int x_1)], [], h_1)) (hk _ _ rfl) rfl ⟨fun z9 => ?_, fun z9 => ?_⟩
    · replace w := w.1 z9
      refine gw_le (L' := [none, none, none, none, none, none]) (gm_le_n _ (gm_le_n _ (gm_le_n _ (gm_le_n _ (gm_le_n _ (gm_le_n _ gm_le_nil)))))) ?_
      exact ok73_69 c d Post _ w
    · replace w := w.2 z9
      refine gw_pst hk 2 (st' := (57, [some (.ref r0), some (.int x1), some (.int x2), some (.int x3), some (.int x4), some (.int x_1)], [.int x2, .int x1], h_1)) rfl ?_
      refine gw_br (c := x2 ≤ x1) (a := (69, [some (.ref r0), some (.int x1), some (.int x2), some (.int x3), some (.int x4), some (.int x_1)], [], h_1)) (b := (60, [some (.ref r0), some (.int x1), some (.int x2), some (.int x3), some (.int x4), some (.int x_1)], [], h_1)) (hk _ _ rfl) rfl ⟨fun z10 => ?_, fun z10 => ?_⟩
      · replace w := w.1 z10
        refine gw_le (L' := [none, none, none, none, none, none]) (gm_le_n _ (gm_le_n _ (gm_le_n _ (gm_le_n _ (gm_le_n _ (gm_le_n _ gm_le_nil)))))) ?_
        exact ok73_69 c d Post _ w
      · replace w := w.2 z10
        refine gw_pst hk 2 (st' := (63, [some (.ref r0), some (.int x1), some (.int x2), some (.int x3), some (.int x4), some (.int x_1)], [.ref r0, .int x_1], h_1)) rfl ?_
        obtain ⟨x_11, e11, w⟩ := w
        refine gw_gf (hk _ _ rfl) e11 ?_
        refine gw_br (c := x_1 ≤ x_11) (a := (70, [some (.ref r0), some (.int x1), some (.int x2), some (.int x3), some (.int x4), some (.int x_1)], [], h_1)) (b := (69, [some (.ref r0), some (.int x1), some (.int x2), some (.int x3), some (.int x4), some (.int x_1)], [], h_1)) (hk _ _ rfl) rfl ⟨fun z12 => ?_, fun z12 => ?_⟩
        · replace w := w.1 z12
          refine gw_pst hk 7 (st' := (77, [some (.ref r0), some (.int x1), some (.int x2), some (.int x3), some (.int x4), some (.int x_1)], [.ref r0, .ref r0, .int x2, .int (x1 + 1), .ref r0], h_1)) rfl ?_
          obtain ⟨q_13, e13, w⟩ := w
          refine gw_gf (hk _ _ rfl) e13 ?_
          refine gw_pst hk 1 (st' := (81, [some (.ref r0), some (.int x1), some (.int x2), some (.int x3), some (.int x4), some (.int x_1)], [.int x1, .ref q_13, .ref r0, .int x2, .int (x1 + 1), .ref r0], h_1)) rfl ?_
          obtain ⟨n14, f14, e14, b14, w⟩ := w
          refine gw_ald (hk _ _ rfl) (Or.inl ⟨rfl, rfl⟩) e14 b14 ?_
          refine gw_pst hk 1 (st' := (83, [some (.ref r0), some (.int x1), some (.int x2), some (.int x3), some (.int x4), some (.int x_1)], [.int x3, .int (f14 (x1 : Int32).toNatClampNeg), .ref r0, .int x2, .int (x1 + 1), .ref r0], h_1)) rfl ?_
          obtain ⟨⟨fs15, e15⟩, w⟩ := w
          refine gw_call (jj := 66) (As := [.ref r0, .int (f14 (x1 : Int32).toNatClampNeg), .int x3]) (rest := [.int x2, .int (x1 + 1), .ref r0]) (hk _ _ rfl) (fun _ => rfl) rfl rfl (Nat.le_of_ble_eq_true rfl) (gm_rcv_v rfl e15 rfl) ?_
          refine ge_imp w (fun v15 h_15 w => ?_)
          obtain ⟨x_15, rfl, w⟩ := w
          show gV c d 73 (86, [some (.ref r0), some (.int x1), some (.int x2), some (.int x3), some (.int x4), some (.int x_1)], [.int x_15, .int x2, .int (x1 + 1), .ref r0], h_15) Post
          refine gw_pst hk 1 (st' := (88, [some (.ref r0), some (.int x1), some (.int x2), some (.int x3), some (.int x4), some (.int x_1)], [.int x4, .int x_15, .int x2, .int (x1 + 1), .ref r0], h_15)) rfl ?_
          obtain ⟨⟨fs16, e16⟩, w⟩ := w
          refine gw_call (jj := 73) (As := [.ref r0, .int (x1 + 1), .int x2, .int x_15, .int x4]) (rest := []) (hk _ _ rfl) (fun _ => rfl) rfl rfl (Nat.le_of_ble_eq_true rfl) (gm_rcv_v rfl e16 rfl) ?_
          refine ge_imp w (fun v16 h_16 w => ?_)
          obtain ⟨rfl, w⟩ := w
          show gV c d 73 (91, [some (.ref r0), some (.int x1), some (.int x2), some (.int x3), some (.int x4), some (.int x_1)], [], h_16) Post
          refine gw_pst hk 1 (st' := (92, [some (.ref r0), some (.int x1), some (.int x2), some (.int x3), some (.int x4), some (.int x_1)], [.ref r0], h_16)) rfl ?_
          obtain ⟨q_17, e17, w⟩ := w
          refine gw_gf (hk _ _ rfl) e17 ?_
          refine gw_pst hk 1 (st' := (96, [some (.ref r0), some (.int x1), some (.int x2), some (.int x3), some (.int x4), some (.int x_1)], [.int x1, .ref q_17], h_16)) rfl ?_
          obtain ⟨n18, f18, e18, b18, w⟩ := w
          refine gw_ald (hk _ _ rfl) (Or.inl ⟨rfl, rfl⟩) e18 b18 ?_
          refine gw_pst hk 1 (st' := (98, [some (.ref r0), some (.int x1), some (.int x2), some (.int x3), some (.int x4), some (.int x_1)], [.int 1, .int (f18 (x1 : Int32).toNatClampNeg)], h_16)) rfl ?_
          refine gw_br (c := (f18 (x1 : Int32).toNatClampNeg) = 1) (a := (101, [some (.ref r0), some (.int x1), some (.int x2), some (.int x3), some (.int x4), some (.int x_1)], [], h_16)) (b := (121, [some (.ref r0), some (.int x1), some (.int x2), some (.int x3), some (.int x4), some (.int x_1)], [], h_16)) (hk _ _ rfl) rfl ⟨fun z19 => ?_, fun z19 => ?_⟩
          · replace w := w.1 z19
            refine gw_pst hk 8 (st' := (109, [some (.ref r0), some (.int x1), some (.int x2), some (.int x3), some (.int x4), some (.int x_1)], [.int x3, .int 0, .ref r0, .int x2, .int (x1 + 1), .ref r0], h_16)) rfl ?_
            obtain ⟨⟨fs20, e20⟩, w⟩ := w
            refine gw_call (jj := 66) (As := [.ref r0, .int 0, .int x3]) (rest := [.int x2, .int (x1 + 1), .ref r0]) (hk _ _ rfl) (fun _ => rfl) rfl rfl (Nat.le_of_ble_eq_true rfl) (gm_rcv_v rfl e20 rfl) ?_
            refine ge_imp w (fun v20 h_20 w => ?_)
            obtain ⟨x_20, rfl, w⟩ := w
            show gV c d 73 (112, [some (.ref r0), some (.int x1), some (.int x2), some (.int x3), some (.int x4), some (.int x_1)], [.int x_20, .int x2, .int (x1 + 1), .ref r0], h_20) Post
            refine gw_pst hk 5 (st' := (118, [some (.ref r0), some (.int x1), some (.int x2), some (.int x3), some (.int x4), some (.int x_1)], [.int (x4 ||| (1 <<< (x1 &&& 31))), .int x_20, .int x2, .int (x1 + 1), .ref r0], h_20)) rfl ?_
            obtain ⟨⟨fs21, e21⟩, w⟩ := w
            refine gw_call (jj := 73) (As := [.ref r0, .int (x1 + 1), .int x2, .int x_20, .int (x4 ||| (1 <<< (x1 &&& 31)))]) (rest := []) (hk _ _ rfl) (fun _ => rfl) rfl rfl (Nat.le_of_ble_eq_true rfl) (gm_rcv_v rfl e21 rfl) ?_
            refine ge_imp w (fun v21 h_21 w => ?_)
            obtain ⟨rfl, w⟩ := w
            show gV c d 73 (121, [some (.ref r0), some (.int x1), some (.int x2), some (.int x3), some (.int x4), some (.int x_1)], [], h_21) Post
            refine gw_le (L' := [none, none, none, none, none, none]) (gm_le_n _ (gm_le_n _ (gm_le_n _ (gm_le_n _ (gm_le_n _ (gm_le_n _ gm_le_nil)))))) ?_
            exact ok73_121 c d Post _ w
          · replace w := w.2 z19
            refine gw_le (L' := [none, none, none, none, none, none]) (gm_le_n _ (gm_le_n _ (gm_le_n _ (gm_le_n _ (gm_le_n _ (gm_le_n _ gm_le_nil)))))) ?_
            exact ok73_121 c d Post _ w
        · replace w := w.2 z12
          refine gw_le (L' := [none, none, none, none, none, none]) (gm_le_n _ (gm_le_n _ (gm_le_n _ (gm_le_n _ (gm_le_n _ (gm_le_n _ gm_le_nil)))))) ?_
          exact ok73_69 c d Post _ w
