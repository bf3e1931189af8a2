/-! What must hold for a run to end with Post: by program (wip/whole/gen_wp.py). -/
def w131_84 (c : gx) (d : Nat) (Post : Option Value → gm_H → Prop) (K33 : Nat → Int32 → Int32 → Int32 → Int32 → Int32 → Int32 → gm_H → Prop) (r0 : Nat) (x1 : Int32) (x2 : Int32) (x3 : Int32) (x4 : Int32) (x5 : Int32) (x6 : Int32) (h : gm_H) : Prop :=
  K33 r0 x1 x2 x3 x4 x5 (x6 + 1) h
theorem ok131_84 (c : gx) (d : Nat) (Post : Option Value → gm_H → Prop) (K33 : Nat → Int32 → Int32 → Int32 → Int32 → Int32 → Int32 → gm_H → Prop)  (hK33 : ∀ (r0 : Nat) (x1 : Int32) (x2 : Int32) (x3 : Int32) (x4 : Int32) (x5 : Int32) (x6 : Int32) (h : gm_H), K33 r0 x1 x2 x3 x4 x5 x6 h → gV c d 131 (33, [some (.ref r0), some (.int x1), some (.int x2), some (.int x3), some (.int x4), some (.int x5), some (.int x6), none, none], [], h) Post) (r0 : Nat) (x1 : Int32) (x2 : Int32) (x3 : Int32) (x4 : Int32) (x5 : Int32) (x6 : Int32) (h : gm_H) (w : w131_84 c d Post K33 r0 x1 x2 x3 x4 x5 x6 h) : gV c d 131 (84, [some (.ref r0), some (.int x1), some (.int x2), some (.int x3), some (.int x4), some (.int x5), some (.int x6), none, none], [], h) Post := by
  have hk : ∀ pc i, gm_find gk_131 pc = some i → gm_code (gt_T c.1 c.2.1 c.2.2.1) 131 pc = some i := fun _ _ z => z
  unfold w131_84 at w
  unfold gV
  refine gw_pst hk 2 (st' := (33, [some (.ref r0), some (.int x1), some (.int x2), some (.int x3), some (.int x4), some (.int x5), some (.int (x6 + 1)), none, none], [], h)) rfl ?_
  exact hK33 _ _ _ _ _ _ _ _ w
def w131_76 (c : gx) (d : Nat) (Post : Option Value → gm_H → Prop) (K33 : Nat → Int32 → Int32 → Int32 → Int32 → Int32 → Int32 → gm_H → Prop) (r0 : Nat) (x1 : Int32) (x2 : Int32) (x3 : Int32) (x6 : Int32) (x8 : Int32) (h : gm_H) : Prop :=
  w131_84 c d Post K33 r0 x1 x2 x3 x6 x8 x6 h
theorem ok131_76 (c : gx) (d : Nat) (Post : Option Value → gm_H → Prop) (K33 : Nat → Int32 → Int32 → Int32 → Int32 → Int32 → Int32 → gm_H → Prop)  (hK33 : ∀ (r0 : Nat) (x1 : Int32) (x2 : Int32) (x3 : Int32) (x4 : Int32) (x5 : Int32) (x6 : Int32) (h : gm_H), K33 r0 x1 x2 x3 x4 x5 x6 h → gV c d 131 (33, [some (.ref r0), some (.int x1), some (.int x2), some (.int x3), some (.int x4), some (.int x5), some (.int x6), none, none], [], h) Post) (r0 : Nat) (x1 : Int32) (x2 : Int32) (x3 : Int32) (x6 : Int32) (x8 : Int32) (h : gm_H) (w : w131_76 c d Post K33 r0 x1 x2 x3 x6 x8 h) : gV c d 131 (76, [some (.ref r0), some (.int x1), some (.int x2), some (.int x3), none, none, some (.int x6), none, some (.int x8)], [], h) Post := by
  have hk : ∀ pc i, gm_find gk_131 pc = some i → gm_code (gt_T c.1 c.2.1 c.2.2.1) 131 pc = some i := fun _ _ z => z
  unfold w131_76 at w
  unfold gV
  refine gw_pst hk 4 (st' := (84, [some (.ref r0), some (.int x1), some (.int x2), some (.int x3), some (.int x6), some (.int x8), some (.int x6), none, some (.int x8)], [], h)) rfl ?_
  refine gw_le (L' := [some (.ref r0), some (.int x1), some (.int x2), some (.int x3), some (.int x6), some (.int x8), some (.int x6), none, none]) (gm_le_k _ (gm_le_k _ (gm_le_k _ (gm_le_k _ (gm_le_k _ (gm_le_k _ (gm_le_k _ (gm_le_k _ (gm_le_n _ gm_le_nil))))))))) ?_
  exact ok131_84 c d Post K33 hK33 _ _ _ _ _ _ _ _ w
def wb131_33 (c : gx) (d : Nat) (Post : Option Value → gm_H → Prop) (K33 : Nat → Int32 → Int32 → Int32 → Int32 → Int32 → Int32 → gm_H → Prop) (r0 : Nat) (x1 : Int32) (x2 : Int32) (x3 : Int32) (x4 : Int32) (x5 : Int32) (x6 : Int32) (h : gm_H) : Prop :=
  ((x1 ≤ x6 → ∃ q_2 : Nat, gm_fld h r0 9 11 = some (.ref q_2) ∧ (∃ fs3, gm_get h q_2 = some (.inr (5, fs3))) ∧ gE c d 45 [.ref q_2, .long ((x5 : Int32).toInt64)] h (fun v3 h_3 => v3 = none ∧ Post (some (.int x4)) h_3)) ∧ (¬ (x1 ≤ x6) → ∃ q_4 : Nat, gm_fld h r0 9 13 = some (.ref q_4) ∧ (∃ fs5, gm_get h q_4 = some (.inr (3, fs5))) ∧ gE c d 35 [.ref q_4, .int x1, .int x2, .int x6] h (fun v5 h_5 => ∃ x_5 : Int32, v5 = some (.int x_5) ∧ ((x4 = (-1) → w131_76 c d Post K33 r0 x1 x2 x3 x6 (if x_5 < (x3 - x_5) then (x3 - x_5) else x_5) h_5) ∧ (¬ (x4 = (-1)) → ((x5 ≤ (if x_5 < (x3 - x_5) then (x3 - x_5) else x_5) → w131_84 c d Post K33 r0 x1 x2 x3 x4 x5 x6 h_5) ∧ (¬ (x5 ≤ (if x_5 < (x3 - x_5) then (x3 - x_5) else x_5)) → w131_76 c d Post K33 r0 x1 x2 x3 x6 (if x_5 < (x3 - x_5) then (x3 - x_5) else x_5) h_5)))))))
theorem okb131_33 (c : gx) (d : Nat) (Post : Option Value → gm_H → Prop) (K33 : Nat → Int32 → Int32 → Int32 → Int32 → Int32 → Int32 → gm_H → Prop)  (hK33 : ∀ (r0 : Nat) (x1 : Int32) (x2 : Int32) (x3 : Int32) (x4 : Int32) (x5 : Int32) (x6 : Int32) (h : gm_H), K33 r0 x1 x2 x3 x4 x5 x6 h → gV c d 131 (33, [some (.ref r0), some (.int x1), some (.int x2), some (.int x3), some (.int x4), some (.int x5), some (.int x6), none, none], [], h) Post) (r0 : Nat) (x1 : Int32) (x2 : Int32) (x3 : Int32) (x4 : Int32) (x5 : Int32) (x6 : Int32) (h : gm_H) (w : wb131_33 c d Post K33 r0 x1 x2 x3 x4 x5 x6 h) : gV c d 131 (33, [some (.ref r0), some (.int x1), some (.int x2), some (.int x3), some (.int x4), some (.int x5), some (.int x6), none, none], [], h) Post := by
  have hk : ∀ pc i, gm_find gk_131 pc = some i → gm_code (gt_T c.1 c.2.1 c.2.2.1) 131 pc = some i := fun _ _ z => z
  unfold wb131_33 at w
  unfold gV
  refine gw_pst hk 2 (st' := (36, [some (.ref r0), some (.int x1), some (.int x2), some (.int x3), some (.int x4), some (.int x5), some (.int x6), none, none], [.int x1, .int x6], h)) rfl ?_
  refine gw_br (c := x1 ≤ x6) (a := (90, [some (.ref r0), some (.int x1), some (.int x2), some (.int x3), some (.int x4), some (.int x5), some (.int x6), none, none], [], h)) (b := (39, [some (.ref r0), some (.int x1), some (.int x2), some (.int x3), some (.int x4), some (.int x5), some (.int x6), none, none], [], h)) (hk _ _ rfl) rfl ⟨fun z1 => ?_, fun z1 => ?_⟩
  · replace w := w.1 z1
    refine gw_pst hk 1 (st' := (91, [some (.ref r0), some (.int x1), some (.int x2), some (.int x3), some (.int x4), some (.int x5), some (.int x6), none, none], [.ref r0], h)) rfl ?_
    obtain ⟨q_2, e2, w⟩ := w
    refine gw_gf (hk _ _ rfl) e2 ?_
    refine gw_pst hk 2 (st' := (97, [some (.ref r0), some (.int x1), some (.int x2), some (.int x3), some (.int x4), some (.int x5), some (.int x6), none, none], [.long ((x5 : Int32).toInt64), .ref q_2], h)) rfl ?_
    obtain ⟨⟨fs3, e3⟩, w⟩ := w
    refine gw_call (jj := 45) (As := [.ref q_2, .long ((x5 : Int32).toInt64)]) (rest := []) (hk _ _ rfl) (fun _ => rfl) rfl rfl (Nat.le_of_ble_eq_true rfl) (gm_rcv_v rfl e3 rfl) ?_
    refine ge_imp w (fun v3 h_3 w => ?_)
    obtain ⟨rfl, w⟩ := w
    show gV c d 131 (100, [some (.ref r0), some (.int x1), some (.int x2), some (.int x3), some (.int x4), some (.int x5), some (.int x6), none, none], [], h_3) Post
    refine gw_pst hk 1 (st' := (102, [some (.ref r0), some (.int x1), some (.int x2), some (.int x3), some (.int x4), some (.int x5), some (.int x6), none, none], [.int x4], h_3)) rfl ?_
    exact gw_ret (hk _ _ rfl) rfl w
  · replace w := w.2 z1
    refine gw_pst hk 1 (st' := (40, [some (.ref r0), some (.int x1), some (.int x2), some (.int x3), some (.int x4), some (.int x5), some (.int x6), none, none], [.ref r0], h)) rfl ?_
    obtain ⟨q_4, e4, w⟩ := w
    refine gw_gf (hk _ _ rfl) e4 ?_
    refine gw_pst hk 3 (st' := (47, [some (.ref r0), some (.int x1), some (.int x2), some (.int x3), some (.int x4), some (.int x5), some (.int x6), none, none], [.int x6, .int x2, .int x1, .ref q_4], h)) rfl ?_
    obtain ⟨⟨fs5, e5⟩, w⟩ := w
    refine gw_call (jj := 35) (As := [.ref q_4, .int x1, .int x2, .int x6]) (rest := []) (hk _ _ rfl) (fun _ => rfl) rfl rfl (Nat.le_of_ble_eq_true rfl) (gm_rcv_v rfl e5 rfl) ?_
    refine ge_imp w (fun v5 h_5 w => ?_)
    obtain ⟨x_5, rfl, w⟩ := w
    show gV c d 131 (50, [some (.ref r0), some (.int x1), some (.int x2), some (.int x3), some (.int x4), some (.int x5), some (.int x6), none, none], [.int x_5], h_5) Post
    refine gw_pst hk 9 (st' := (66, [some (.ref r0), some (.int x1), some (.int x2), some (.int x3), some (.int x4), some (.int x5), some (.int x6), some (.int x_5), some (.int (if x_5 < (x3 - x_5) then (x3 - x_5) else x_5))], [.int (-1), .int x4], h_5)) rfl ?_
    refine gw_br (c := x4 = (-1)) (a := (76, [some (.ref r0), some (.int x1), some (.int x2), some (.int x3), some (.int x4), some (.int x5), some (.int x6), some (.int x_5), some (.int (if x_5 < (x3 - x_5) then (x3 - x_5) else x_5))], [], h_5)) (b := (69, [some (.ref r0), some (.int x1), some (.int x2), some (.int x3), some (.int x4), some (.int x5), some (.int x6), some (.int x_5), some (.int (if x_5 < (x3 - x_5) then (x3 - x_5) else x_5))], [], h_5)) (hk _ _ rfl) rfl ⟨fun z6 => ?_, fun z6 => ?_⟩
    · replace w := w.1 z6
      refine gw_le (L' := [some (.ref r0), some (.int x1), some (.int x2), some (.int x3), none, none, some (.int x6), none, some (.int (if x_5 < (x3 - x_5) then (x3 - x_5) else x_5))]) (gm_le_k _ (gm_le_k _ (gm_le_k _ (gm_le_k _ (gm_le_n _ (gm_le_n _ (gm_le_k _ (gm_le_n _ (gm_le_k _ gm_le_nil))))))))) ?_
      exact ok131_76 c d Post K33 hK33 _ _ _ _ _ _ _ w
    · replace w := w.2 z6
      refine gw_pst hk 2 (st' := (73, [some (.ref r0), some (.int x1), some (.int x2), some (.int x3), some (.int x4), some (.int x5), some (.int x6), some (.int x_5), some (.int (if x_5 < (x3 - x_5) then (x3 - x_5) else x_5))], [.int x5, .int (if x_5 < (x3 - x_5) then (x3 - x_5) else x_5)], h_5)) rfl ?_
      refine gw_br (c := x5 ≤ (if x_5 < (x3 - x_5) then (x3 - x_5) else x_5)) (a := (84, [some (.ref r0), some (.int x1), some (.int x2), some (.int x3), some (.int x4), some (.int x5), some (.int x6), some (.int x_5), some (.int (if x_5 < (x3 - x_5) then (x3 - x_5) else x_5))], [], h_5)) (b := (76, [some (.ref r0), some (.int x1), some (.int x2), some (.int x3), some (.int x4), some (.int x5), some (.int x6), some (.int x_5), some (.int (if x_5 < (x3 - x_5) then (x3 - x_5) else x_5))], [], h_5)) (hk _ _ rfl) rfl ⟨fun z7 => ?_, fun z7 => ?_⟩
      · replace w := w.1 z7
        refine gw_le (L' := [some (.ref r0), some (.int x1), some (.int x2), some (.int x3), some (.int x4), some (.int x5), some (.int x6), none, none]) (gm_le_k _ (gm_le_k _ (gm_le_k _ (gm_le_k _ (gm_le_k _ (gm_le_k _ (gm_le_k _ (gm_le_n _ (gm_le_n _ gm_le_nil))))))))) ?_
        exact ok131_84 c d Post K33 hK33 _ _ _ _ _ _ _ _ w
      · replace w := w.2 z7
        refine gw_le (L' := [some (.ref r0), some (.int x1), some (.int x2), some (.int x3), none, none, some (.int x6), none, some (.int (if x_5 < (x3 - x_5) then (x3 - x_5) else x_5))]) (gm_le_k _ (gm_le_k _ (gm_le_k _ (gm_le_k _ (gm_le_n _ (gm_le_n _ (gm_le_k _ (gm_le_n _ (gm_le_k _ gm_le_nil))))))))) ?_
        exact ok131_76 c d Post K33 hK33 _ _ _ _ _ _ _ w
def wl131_33 (c : gx) (d : Nat) (Post : Option Value → gm_H → Prop) : Nat → Nat → Int32 → Int32 → Int32 → Int32 → Int32 → Int32 → gm_H → Prop
  | 0 => fun _ _ _ _ _ _ _ _ => False
  | n + 1 => wb131_33 c d Post (wl131_33 c d Post n)
theorem okl131_33 (c : gx) (d : Nat) (Post : Option Value → gm_H → Prop) : ∀ (n : Nat) (r0 : Nat) (x1 : Int32) (x2 : Int32) (x3 : Int32) (x4 : Int32) (x5 : Int32) (x6 : Int32) (h : gm_H), wl131_33 c d Post n r0 x1 x2 x3 x4 x5 x6 h → gV c d 131 (33, [some (.ref r0), some (.int x1), some (.int x2), some (.int x3), some (.int x4), some (.int x5), some (.int x6), none, none], [], h) Post
  | 0, _, _, _, _, _, _, _, _, w => w.elim
  | n + 1, r0, x1, x2, x3, x4, x5, x6, h, w => okb131_33 c d Post (wl131_33 c d Post n) (okl131_33 c d Post n) r0 x1 x2 x3 x4 x5 x6 h w
/-- CommandByTurns.ask(II)I -/
def wm131 (c : gx) (d : Nat) (Post : Option Value → gm_H → Prop) (r0 : Nat) (x1 : Int32) (x2 : Int32) (h : gm_H) : Prop :=
  gE c d 132 [.int x1, .int x2] h (fun v1 h_1 => ∃ x_1 : Int32, v1 = some (.int x_1) ∧ ((x_1 = 0 → Post (some (.int (-1))) h_1) ∧ (¬ (x_1 = 0) → (∃ fs3, gm_get h_1 r0 = some (.inr (9, fs3))) ∧ gE c d 133 [.ref r0, .int x1, .int x2] h_1 (fun v3 h_3 => ∃ x_3 : Int32, v3 = some (.int x_3) ∧ ((x_3 = 0 → Post (some (.int (-2))) h_3) ∧ (¬ (x_3 = 0) → ∃ n, wl131_33 c d Post n r0 x1 x2 x_3 (-1) 0 0 h_3))))))
theorem okm131 (c : gx) (d : Nat) (Post : Option Value → gm_H → Prop) (r0 : Nat) (x1 : Int32) (x2 : Int32) (h : gm_H) (w : wm131 c d Post r0 x1 x2 h) : gE c (d + 1) 131 [.ref r0, .int x1, .int x2] h Post := by
  have hk : ∀ pc i, gm_find gk_131 pc = some i → gm_code (gt_T c.1 c.2.1 c.2.2.1) 131 pc = some i := fun _ _ z => z
  unfold wm131 at w
  refine ge_of (by decide) (Nat.le_of_ble_eq_true rfl) ?_
  show gV c d 131 (0, [some (.ref r0), some (.int x1), some (.int x2), none, none, none, none, none, none], [], h) Post
  unfold gV
  refine gw_pst hk 2 (st' := (2, [some (.ref r0), some (.int x1), some (.int x2), none, none, none, none, none, none], [.int x2, .int x1], h)) rfl ?_
  refine gw_call (jj := 132) (As := [.int x1, .int x2]) (rest := []) (hk _ _ rfl) (fun _ => rfl) rfl rfl (Nat.le_of_ble_eq_true rfl) rfl ?_
  refine ge_imp w (fun v1 h_1 w => ?_)
  obtain ⟨x_1, rfl, w⟩ := w
  show gV c d 131 (5, [some (.ref r0), some (.int x1), some (.int x2), none, none, none, none, none, none], [.int x_1], h_1) Post
  refine gw_br (c := x_1 = 0) (a := (8, [some (.ref r0), some (.int x1), some (.int x2), none, none, none, none, none, none], [], h_1)) (b := (10, [some (.ref r0), some (.int x1), some (.int x2), none, none, none, none, none, none], [], h_1)) (hk _ _ rfl) rfl ⟨fun z2 => ?_, fun z2 => ?_⟩
  · replace w := w.1 z2
    refine gw_pst hk 1 (st' := (9, [some (.ref r0), some (.int x1), some (.int x2), none, none, none, none, none, none], [.int (-1)], h_1)) rfl ?_
    exact gw_ret (hk _ _ rfl) rfl w
  · replace w := w.2 z2
    refine gw_pst hk 3 (st' := (13, [some (.ref r0), some (.int x1), some (.int x2), none, none, none, none, none, none], [.int x2, .int x1, .ref r0], h_1)) rfl ?_
    obtain ⟨⟨fs3, e3⟩, w⟩ := w
    refine gw_call (jj := 133) (As := [.ref r0, .int x1, .int x2]) (rest := []) (hk _ _ rfl) (fun _ => rfl) rfl rfl (Nat.le_of_ble_eq_true rfl) (gm_rcv_v rfl e3 rfl) ?_
    refine ge_imp w (fun v3 h_3 w => ?_)
    obtain ⟨x_3, rfl, w⟩ := w
    show gV c d 131 (16, [some (.ref r0), some (.int x1), some (.int x2), none, none, none, none, none, none], [.int x_3], h_3) Post
    refine gw_pst hk 2 (st' := (18, [some (.ref r0), some (.int x1), some (.int x2), some (.int x_3), none, none, none, none, none], [.int x_3], h_3)) rfl ?_
    refine gw_br (c := x_3 = 0) (a := (21, [some (.ref r0), some (.int x1), some (.int x2), some (.int x_3), none, none, none, none, none], [], h_3)) (b := (24, [some (.ref r0), some (.int x1), some (.int x2), some (.int x_3), none, none, none, none, none], [], h_3)) (hk _ _ rfl) rfl ⟨fun z4 => ?_, fun z4 => ?_⟩
    · replace w := w.1 z4
      refine gw_pst hk 1 (st' := (23, [some (.ref r0), some (.int x1), some (.int x2), some (.int x_3), none, none, none, none, none], [.int (-2)], h_3)) rfl ?_
      exact gw_ret (hk _ _ rfl) rfl w
    · replace w := w.2 z4
      refine gw_pst hk 6 (st' := (33, [some (.ref r0), some (.int x1), some (.int x2), some (.int x_3), some (.int (-1)), some (.int 0), some (.int 0), none, none], [], h_3)) rfl ?_
      obtain ⟨n, w⟩ := w
      exact okl131_33 c d Post n _ _ _ _ _ _ _ _ w
def w132_26 (c : gx) (d : Nat) (Post : Option Value → gm_H → Prop) (xs0 : Int32) (h : gm_H) : Prop :=
  ((xs0 = 0 ∨ xs0 = 1) ∧ Post (some (.int xs0)) h)
theorem ok132_26 (c : gx) (d : Nat) (Post : Option Value → gm_H → Prop)  (xs0 : Int32) (h : gm_H) (w : w132_26 c d Post xs0 h) : gV c d 132 (26, [none, none], [.int xs0], h) Post := by
  have hk : ∀ pc i, gm_find gk_132 pc = some i → gm_code (gt_T c.1 c.2.1 c.2.2.1) 132 pc = some i := fun _ _ z => z
  unfold w132_26 at w
  unfold gV
  exact gw_retZ (hk _ _ rfl) rfl w.1 w.2
def w132_25 (c : gx) (d : Nat) (Post : Option Value → gm_H → Prop)  (h : gm_H) : Prop :=
  w132_26 c d Post 0 h
theorem ok132_25 (c : gx) (d : Nat) (Post : Option Value → gm_H → Prop)   (h : gm_H) (w : w132_25 c d Post  h) : gV c d 132 (25, [none, none], [], h) Post := by
  have hk : ∀ pc i, gm_find gk_132 pc = some i → gm_code (gt_T c.1 c.2.1 c.2.2.1) 132 pc = some i := fun _ _ z => z
  unfold w132_25 at w
  unfold gV
  refine gw_pst hk 1 (st' := (26, [none, none], [.int 0], h)) rfl ?_
  exact ok132_26 c d Post _ _ w
/-- CommandByTurns.isOldWar(II)Z -/
def wm132 (c : gx) (d : Nat) (Post : Option Value → gm_H → Prop) (x0 : Int32) (x1 : Int32) (h : gm_H) : Prop :=
  ((x0 < 1 → w132_25 c d Post h) ∧ (¬ (x0 < 1) → ((20 < x0 → w132_25 c d Post h) ∧ (¬ (20 < x0) → ((x1 < 1 → w132_25 c d Post h) ∧ (¬ (x1 < 1) → ((3 < x1 → w132_25 c d Post h) ∧ (¬ (3 < x1) → w132_26 c d Post 1 h))))))))
theorem okm132 (c : gx) (d : Nat) (Post : Option Value → gm_H → Prop) (x0 : Int32) (x1 : Int32) (h : gm_H) (w : wm132 c d Post x0 x1 h) : gE c (d + 1) 132 [.int x0, .int x1] h Post := by
  have hk : ∀ pc i, gm_find gk_132 pc = some i → gm_code (gt_T c.1 c.2.1 c.2.2.1) 132 pc = some i := fun _ _ z => z
  unfold wm132 at w
  refine ge_of (by decide) (Nat.le_of_ble_eq_true rfl) ?_
  show gV c d 132 (0, [some (.int x0), some (.int x1)], [], h) Post
  unfold gV
  refine gw_pst hk 2 (st' := (2, [some (.int x0), some (.int x1)], [.int 1, .int x0], h)) rfl ?_
  refine gw_br (c := x0 < 1) (a := (25, [some (.int x0), some (.int x1)], [], h)) (b := (5, [some (.int x0), some (.int x1)], [], h)) (hk _ _ rfl) rfl ⟨fun z1 => ?_, fun z1 => ?_⟩
  · replace w := w.1 z1
    refine gw_le (L' := [none, none]) (gm_le_n _ (gm_le_n _ gm_le_nil)) ?_
    exact ok132_25 c d Post _ w
  · replace w := w.2 z1
    refine gw_pst hk 2 (st' := (8, [some (.int x0), some (.int x1)], [.int 20, .int x0], h)) rfl ?_
    refine gw_br (c := 20 < x0) (a := (25, [some (.int x0), some (.int x1)], [], h)) (b := (11, [some (.int x0), some (.int x1)], [], h)) (hk _ _ rfl) rfl ⟨fun z2 => ?_, fun z2 => ?_⟩
    · replace w := w.1 z2
      refine gw_le (L' := [none, none]) (gm_le_n _ (gm_le_n _ gm_le_nil)) ?_
      exact ok132_25 c d Post _ w
    · replace w := w.2 z2
      refine gw_pst hk 2 (st' := (13, [some (.int x0), some (.int x1)], [.int 1, .int x1], h)) rfl ?_
      refine gw_br (c := x1 < 1) (a := (25, [some (.int x0), some (.int x1)], [], h)) (b := (16, [some (.int x0), some (.int x1)], [], h)) (hk _ _ rfl) rfl ⟨fun z3 => ?_, fun z3 => ?_⟩
      · replace w := w.1 z3
        refine gw_le (L' := [none, none]) (gm_le_n _ (gm_le_n _ gm_le_nil)) ?_
        exact ok132_25 c d Post _ w
      · replace w := w.2 z3
        refine gw_pst hk 2 (st' := (18, [some (.int x0), some (.int x1)], [.int 3, .int x1], h)) rfl ?_
        refine gw_br (c := 3 < x1) (a := (25, [some (.int x0), some (.int x1)], [], h)) (b := (21, [some (.int x0), some (.int x1)], [], h)) (hk _ _ rfl) rfl ⟨fun z4 => ?_, fun z4 => ?_⟩
        · replace w := w.1 z4
          refine gw_le (L' := [none, none]) (gm_le_n _ (gm_le_n _ gm_le_nil)) ?_
          exact ok132_25 c d Post _ w
        · replace w := w.2 z4
          refine gw_pst hk 2 (st' := (26, [some (.int x0), some (.int x1)], [.int 1], h)) rfl ?_
          refine gw_le (L' := [none, none]) (gm_le_n _ (gm_le_n _ gm_le_nil)) ?_
          exact ok132_26 c d Post _ _ w
/-- CommandByTurns.waysThatFit(II)I -/
def wm133 (c : gx) (d : Nat) (Post : Option Value → gm_H → Prop) (r0 : Nat) (x1 : Int32) (x2 : Int32) (h : gm_H) : Prop :=
  ∃ q_1 : Nat, gm_fld h r0 9 13 = some (.ref q_1) ∧ ∃ q_2 : Nat, gm_fld h r0 9 3 = some (.ref q_2) ∧ (∃ fs3, gm_get h q_2 = some (.inr (2, fs3))) ∧ gE c d 31 [.ref q_2] h (fun v3 h_3 => ∃ x_3 : Int32, v3 = some (.int x_3) ∧ ∃ q_4 : Nat, gm_fld h_3 r0 9 4 = some (.ref q_4) ∧ (∃ fs5, gm_get h_3 q_4 = some (.inr (2, fs5))) ∧ gE c d 31 [.ref q_4] h_3 (fun v5 h_5 => ∃ x_5 : Int32, v5 = some (.int x_5) ∧ (∃ fs6, gm_get h_5 q_1 = some (.inr (3, fs6))) ∧ gE c d 34 [.ref q_1, .int x_3, .int x_5] h_5 (fun v6 h_6 => v6 = none ∧ ∃ q_7 : Nat, gm_fld h_6 r0 9 13 = some (.ref q_7) ∧ (∃ fs8, gm_get h_6 q_7 = some (.inr (3, fs8))) ∧ gE c d 36 [.ref q_7, .int x1, .int x2] h_6 (fun v8 h_8 => ∃ x_8 : Int32, v8 = some (.int x_8) ∧ Post (some (.int x_8)) h_8))))
theorem okm133 (c : gx) (d : Nat) (Post : Option Value → gm_H → Prop) (r0 : Nat) (x1 : Int32) (x2 : Int32) (h : gm_H) (w : wm133 c d Post r0 x1 x2 h) : gE c (d + 1) 133 [.ref r0, .int x1, .int x2] h Post := by
  have hk : ∀ pc i, gm_find gk_133 pc = some i → gm_code (gt_T c.1 c.2.1 c.2.2.1) 133 pc = some i := fun _ _ z => z
  unfold wm133 at w
  refine ge_of (by decide) (Nat.le_of_ble_eq_true rfl) ?_
  show gV c d 133 (0, [some (.ref r0), some (.int x1), some (.int x2)], [], h) Post
  unfold gV
  refine gw_pst hk 1 (st' := (1, [some (.ref r0), some (.int x1), some (.int x2)], [.ref r0], h)) rfl ?_
  obtain ⟨q_1, e1, w⟩ := w
  refine gw_gf (hk _ _ rfl) e1 ?_
  refine gw_pst hk 1 (st' := (5, [some (.ref r0), some (.int x1), some (.int x2)], [.ref r0, .ref q_1], h)) rfl ?_
  obtain ⟨q_2, e2, w⟩ := w
  refine gw_gf (hk _ _ rfl) e2 ?_
  obtain ⟨⟨fs3, e3⟩, w⟩ := w
  refine gw_call (jj := 31) (As := [.ref q_2]) (rest := [.ref q_1]) (hk _ _ rfl) (fun _ => rfl) rfl rfl (Nat.le_of_ble_eq_true rfl) (gm_rcv_v rfl e3 rfl) ?_
  refine ge_imp w (fun v3 h_3 w => ?_)
  obtain ⟨x_3, rfl, w⟩ := w
  show gV c d 133 (11, [some (.ref r0), some (.int x1), some (.int x2)], [.int x_3, .ref q_1], h_3) Post
  refine gw_pst hk 1 (st' := (12, [some (.ref r0), some (.int x1), some (.int x2)], [.ref r0, .int x_3, .ref q_1], h_3)) rfl ?_
  obtain ⟨q_4, e4, w⟩ := w
  refine gw_gf (hk _ _ rfl) e4 ?_
  obtain ⟨⟨fs5, e5⟩, w⟩ := w
  refine gw_call (jj := 31) (As := [.ref q_4]) (rest := [.int x_3, .ref q_1]) (hk _ _ rfl) (fun _ => rfl) rfl rfl (Nat.le_of_ble_eq_true rfl) (gm_rcv_v rfl e5 rfl) ?_
  refine ge_imp w (fun v5 h_5 w => ?_)
  obtain ⟨x_5, rfl, w⟩ := w
  show gV c d 133 (18, [some (.ref r0), some (.int x1), some (.int x2)], [.int x_5, .int x_3, .ref q_1], h_5) Post
  obtain ⟨⟨fs6, e6⟩, w⟩ := w
  refine gw_call (jj := 34) (As := [.ref q_1, .int x_3, .int x_5]) (rest := []) (hk _ _ rfl) (fun _ => rfl) rfl rfl (Nat.le_of_ble_eq_true rfl) (gm_rcv_v rfl e6 rfl) ?_
  refine ge_imp w (fun v6 h_6 w => ?_)
  obtain ⟨rfl, w⟩ := w
  show gV c d 133 (21, [some (.ref r0), some (.int x1), some (.int x2)], [], h_6) Post
  refine gw_pst hk 1 (st' := (22, [some (.ref r0), some (.int x1), some (.int x2)], [.ref r0], h_6)) rfl ?_
  obtain ⟨q_7, e7, w⟩ := w
  refine gw_gf (hk _ _ rfl) e7 ?_
  refine gw_pst hk 2 (st' := (27, [some (.ref r0), some (.int x1), some (.int x2)], [.int x2, .int x1, .ref q_7], h_6)) rfl ?_
  obtain ⟨⟨fs8, e8⟩, w⟩ := w
  refine gw_call (jj := 36) (As := [.ref q_7, .int x1, .int x2]) (rest := []) (hk _ _ rfl) (fun _ => rfl) rfl rfl (Nat.le_of_ble_eq_true rfl) (gm_rcv_v rfl e8 rfl) ?_
  refine ge_imp w (fun v8 h_8 w => ?_)
  obtain ⟨x_8, rfl, w⟩ := w
  show gV c d 133 (30, [some (.ref r0), some (.int x1), some (.int x2)], [.int x_8], h_8) Post
  exact gw_ret (hk _ _ rfl) rfl w
def w134_20 (c : gx) (d : Nat) (Post : Option Value → gm_H → Prop)  (h : gm_H) : Prop :=
  Post (some (.int (-1))) h
theorem ok134_20 (c : gx) (d : Nat) (Post : Option Value → gm_H → Prop)   (h : gm_H) (w : w134_20 c d Post  h) : gV c d 134 (20, [none, none, none, none, none, none, none, none, none], [], h) Post := by
  have hk : ∀ pc i, gm_find gk_134 pc = some i → gm_code (gt_T c.1 c.2.1 c.2.2.1) 134 pc = some i := fun _ _ z => z
  unfold w134_20 at w
  unfold gV
  refine gw_pst hk 1 (st' := (21, [none, none, none, none, none, none, none, none, none], [.int (-1)], h)) rfl ?_
  exact gw_ret (hk _ _ rfl) rfl w
def w134_97 (c : gx) (d : Nat) (Post : Option Value → gm_H → Prop)  (h : gm_H) : Prop :=
  Post (some (.int 0)) h
theorem ok134_97 (c : gx) (d : Nat) (Post : Option Value → gm_H → Prop)   (h : gm_H) (w : w134_97 c d Post  h) : gV c d 134 (97, [none, none, none, none, none, none, none, none, none], [], h) Post := by
  have hk : ∀ pc i, gm_find gk_134 pc = some i → gm_code (gt_T c.1 c.2.1 c.2.2.1) 134 pc = some i := fun _ _ z => z
  unfold w134_97 at w
  unfold gV
  refine gw_pst hk 1 (st' := (98, [none, none, none, none, none, none, none, none, none], [.int 0], h)) rfl ?_
  exact gw_ret (hk _ _ rfl) rfl w
def wb134_30 (c : gx) (d : Nat) (Post : Option Value → gm_H → Prop) (K30 : Nat → Int32 → Int32 → Int64 → Int64 → Int32 → gm_H → Prop) (r0 : Nat) (x1 : Int32) (x2 : Int32) (x3 : Int64) (x5 : Int64) (x7 : Int32) (h : gm_H) : Prop :=
  ((x1 ≤ x7 → gE c d 135 [.long x3, .long x5] h (fun v2 h_2 => ∃ y_2 : Int64, v2 = some (.long y_2) ∧ (((lg_cmp y_2 0) ≤ 0 → w134_97 c d Post h_2) ∧ (¬ ((lg_cmp y_2 0) ≤ 0) → ∃ q_4 : Nat, gm_fld h_2 r0 9 11 = some (.ref q_4) ∧ ¬ y_2 = 0 ∧ ¬ y_2 = 0 ∧ (∃ fs7, gm_get h_2 q_4 = some (.inr (5, fs7))) ∧ gE c d 46 [.ref q_4, .long (x3 / y_2), .long (x5 / y_2)] h_2 (fun v7 h_7 => v7 = none ∧ w134_97 c d Post h_7))))) ∧ (¬ (x1 ≤ x7) → K30 r0 x1 x2 ((x3 * ((x2 : Int32).toInt64)) + ((x5 - x3) * ((10 - x2 : Int32).toInt64))) (x5 * 10) (x7 + 1) h))
theorem okb134_30 (c : gx) (d : Nat) (Post : Option Value → gm_H → Prop) (K30 : Nat → Int32 → Int32 → Int64 → Int64 → Int32 → gm_H → Prop)  (hK30 : ∀ (r0 : Nat) (x1 : Int32) (x2 : Int32) (x3 : Int64) (x5 : Int64) (x7 : Int32) (h : gm_H), K30 r0 x1 x2 x3 x5 x7 h → gV c d 134 (30, [some (.ref r0), some (.int x1), some (.int x2), some (.long x3), none, some (.long x5), none, some (.int x7), none], [], h) Post) (r0 : Nat) (x1 : Int32) (x2 : Int32) (x3 : Int64) (x5 : Int64) (x7 : Int32) (h : gm_H) (w : wb134_30 c d Post K30 r0 x1 x2 x3 x5 x7 h) : gV c d 134 (30, [some (.ref r0), some (.int x1), some (.int x2), some (.long x3), none, some (.long x5), none, some (.int x7), none], [], h) Post := by
  have hk : ∀ pc i, gm_find gk_134 pc = some i → gm_code (gt_T c.1 c.2.1 c.2.2.1) 134 pc = some i := fun _ _ z => z
  unfold wb134_30 at w
  unfold gV
  refine gw_pst hk 2 (st' := (33, [some (.ref r0), some (.int x1), some (.int x2), some (.long x3), none, some (.long x5), none, some (.int x7), none], [.int x1, .int x7], h)) rfl ?_
  refine gw_br (c := x1 ≤ x7) (a := (66, [some (.ref r0), some (.int x1), some (.int x2), some (.long x3), none, some (.long x5), none, some (.int x7), none], [], h)) (b := (36, [some (.ref r0), some (.int x1), some (.int x2), some (.long x3), none, some (.long x5), none, some (.int x7), none], [], h)) (hk _ _ rfl) rfl ⟨fun z1 => ?_, fun z1 => ?_⟩
  · replace w := w.1 z1
    refine gw_pst hk 2 (st' := (69, [some (.ref r0), some (.int x1), some (.int x2), some (.long x3), none, some (.long x5), none, some (.int x7), none], [.long x5, .long x3], h)) rfl ?_
    refine gw_call (jj := 135) (As := [.long x3, .long x5]) (rest := []) (hk _ _ rfl) (fun _ => rfl) rfl rfl (Nat.le_of_ble_eq_true rfl) rfl ?_
    refine ge_imp w (fun v2 h_2 w => ?_)
    obtain ⟨y_2, rfl, w⟩ := w
    show gV c d 134 (72, [some (.ref r0), some (.int x1), some (.int x2), some (.long x3), none, some (.long x5), none, some (.int x7), none], [.long y_2], h_2) Post
    refine gw_pst hk 4 (st' := (78, [some (.ref r0), some (.int x1), some (.int x2), some (.long x3), none, some (.long x5), none, some (.long y_2), none], [.int (lg_cmp y_2 0)], h_2)) rfl ?_
    refine gw_br (c := (lg_cmp y_2 0) ≤ 0) (a := (97, [some (.ref r0), some (.int x1), some (.int x2), some (.long x3), none, some (.long x5), none, some (.long y_2), none], [], h_2)) (b := (81, [some (.ref r0), some (.int x1), some (.int x2), some (.long x3), none, some (.long x5), none, some (.long y_2), none], [], h_2)) (hk _ _ rfl) rfl ⟨fun z3 => ?_, fun z3 => ?_⟩
    · replace w := w.1 z3
      refine gw_le (L' := [none, none, none, none, none, none, none, none, none]) (gm_le_n _ (gm_le_n _ (gm_le_n _ (gm_le_n _ (gm_le_k _ (gm_le_n _ (gm_le_k _ (gm_le_n _ (gm_le_k _ gm_le_nil))))))))) ?_
      exact ok134_97 c d Post _ w
    · replace w := w.2 z3
      refine gw_pst hk 1 (st' := (82, [some (.ref r0), some (.int x1), some (.int x2), some (.long x3), none, some (.long x5), none, some (.long y_2), none], [.ref r0], h_2)) rfl ?_
      obtain ⟨q_4, e4, w⟩ := w
      refine gw_gf (hk _ _ rfl) e4 ?_
      refine gw_pst hk 2 (st' := (88, [some (.ref r0), some (.int x1), some (.int x2), some (.long x3), none, some (.long x5), none, some (.long y_2), none], [.long y_2, .long x3, .ref q_4], h_2)) rfl ?_
      obtain ⟨z5, w⟩ := w
      refine gw_ldiv (hk _ _ rfl) z5 ?_ rfl
      refine gw_pst hk 2 (st' := (93, [some (.ref r0), some (.int x1), some (.int x2), some (.long x3), none, some (.long x5), none, some (.long y_2), none], [.long y_2, .long x5, .long (x3 / y_2), .ref q_4], h_2)) rfl ?_
      obtain ⟨z6, w⟩ := w
      refine gw_ldiv (hk _ _ rfl) z6 ?_ rfl
      obtain ⟨⟨fs7, e7⟩, w⟩ := w
      refine gw_call (jj := 46) (As := [.ref q_4, .long (x3 / y_2), .long (x5 / y_2)]) (rest := []) (hk _ _ rfl) (fun _ => rfl) rfl rfl (Nat.le_of_ble_eq_true rfl) (gm_rcv_v rfl e7 rfl) ?_
      refine ge_imp w (fun v7 h_7 w => ?_)
      obtain ⟨rfl, w⟩ := w
      show gV c d 134 (97, [some (.ref r0), some (.int x1), some (.int x2), some (.long x3), none, some (.long x5), none, some (.long y_2), none], [], h_7) Post
      refine gw_le (L' := [none, none, none, none, none, none, none, none, none]) (gm_le_n _ (gm_le_n _ (gm_le_n _ (gm_le_n _ (gm_le_k _ (gm_le_n _ (gm_le_k _ (gm_le_n _ (gm_le_k _ gm_le_nil))))))))) ?_
      exact ok134_97 c d Post _ w
  · replace w := w.2 z1
    refine gw_pst hk 20 (st' := (30, [some (.ref r0), some (.int x1), some (.int x2), some (.long ((x3 * ((x2 : Int32).toInt64)) + ((x5 - x3) * ((10 - x2 : Int32).toInt64)))), none, some (.long (x5 * 10)), none, some (.int (x7 + 1)), none], [], h)) rfl ?_
    exact hK30 _ _ _ _ _ _ _ w
def wl134_30 (c : gx) (d : Nat) (Post : Option Value → gm_H → Prop) : Nat → Nat → Int32 → Int32 → Int64 → Int64 → Int32 → gm_H → Prop
  | 0 => fun _ _ _ _ _ _ _ => False
  | n + 1 => wb134_30 c d Post (wl134_30 c d Post n)
theorem okl134_30 (c : gx) (d : Nat) (Post : Option Value → gm_H → Prop) : ∀ (n : Nat) (r0 : Nat) (x1 : Int32) (x2 : Int32) (x3 : Int64) (x5 : Int64) (x7 : Int32) (h : gm_H), wl134_30 c d Post n r0 x1 x2 x3 x5 x7 h → gV c d 134 (30, [some (.ref r0), some (.int x1), some (.int x2), some (.long x3), none, some (.long x5), none, some (.int x7), none], [], h) Post
  | 0, _, _, _, _, _, _, _, w => w.elim
  | n + 1, r0, x1, x2, x3, x5, x7, h, w => okb134_30 c d Post (wl134_30 c d Post n) (okl134_30 c d Post n) r0 x1 x2 x3 x5 x7 h w
/-- CommandByTurns.rain(II)I -/
def wm134 (c : gx) (d : Nat) (Post : Option Value → gm_H → Prop) (r0 : Nat) (x1 : Int32) (x2 : Int32) (h : gm_H) : Prop :=
  ((x1 < 0 → w134_20 c d Post h) ∧ (¬ (x1 < 0) → ((12 < x1 → w134_20 c d Post h) ∧ (¬ (12 < x1) → ((x2 < 0 → w134_20 c d Post h) ∧ (¬ (x2 < 0) → ((x2 ≤ 10 → ∃ n, wl134_30 c d Post n r0 x1 x2 1 1 0 h) ∧ (¬ (x2 ≤ 10) → w134_20 c d Post h))))))))
theorem okm134 (c : gx) (d : Nat) (Post : Option Value → gm_H → Prop) (r0 : Nat) (x1 : Int32) (x2 : Int32) (h : gm_H) (w : wm134 c d Post r0 x1 x2 h) : gE c (d + 1) 134 [.ref r0, .int x1, .int x2] h Post := by
  have hk : ∀ pc i, gm_find gk_134 pc = some i → gm_code (gt_T c.1 c.2.1 c.2.2.1) 134 pc = some i := fun _ _ z => z
  unfold wm134 at w
  refine ge_of (by decide) (Nat.le_of_ble_eq_true rfl) ?_
  show gV c d 134 (0, [some (.ref r0), some (.int x1), some (.int x2), none, none, none, none, none, none], [], h) Post
  unfold gV
  refine gw_pst hk 1 (st' := (1, [some (.ref r0), some (.int x1), some (.int x2), none, none, none, none, none, none], [.int x1], h)) rfl ?_
  refine gw_br (c := x1 < 0) (a := (20, [some (.ref r0), some (.int x1), some (.int x2), none, none, none, none, none, none], [], h)) (b := (4, [some (.ref r0), some (.int x1), some (.int x2), none, none, none, none, none, none], [], h)) (hk _ _ rfl) rfl ⟨fun z1 => ?_, fun z1 => ?_⟩
  · replace w := w.1 z1
    refine gw_le (L' := [none, none, none, none, none, none, none, none, none]) (gm_le_n _ (gm_le_n _ (gm_le_n _ (gm_le_k _ (gm_le_k _ (gm_le_k _ (gm_le_k _ (gm_le_k _ (gm_le_k _ gm_le_nil))))))))) ?_
    exact ok134_20 c d Post _ w
  · replace w := w.2 z1
    refine gw_pst hk 2 (st' := (7, [some (.ref r0), some (.int x1), some (.int x2), none, none, none, none, none, none], [.int 12, .int x1], h)) rfl ?_
    refine gw_br (c := 12 < x1) (a := (20, [some (.ref r0), some (.int x1), some (.int x2), none, none, none, none, none, none], [], h)) (b := (10, [some (.ref r0), some (.int x1), some (.int x2), none, none, none, none, none, none], [], h)) (hk _ _ rfl) rfl ⟨fun z2 => ?_, fun z2 => ?_⟩
    · replace w := w.1 z2
      refine gw_le (L' := [none, none, none, none, none, none, none, none, none]) (gm_le_n _ (gm_le_n _ (gm_le_n _ (gm_le_k _ (gm_le_k _ (gm_le_k _ (gm_le_k _ (gm_le_k _ (gm_le_k _ gm_le_nil))))))))) ?_
      exact ok134_20 c d Post _ w
    · replace w := w.2 z2
      refine gw_pst hk 1 (st' := (11, [some (.ref r0), some (.int x1), some (.int x2), none, none, none, none, none, none], [.int x2], h)) rfl ?_
      refine gw_br (c := x2 < 0) (a := (20, [some (.ref r0), some (.int x1), some (.int x2), none, none, none, none, none, none], [], h)) (b := (14, [some (.ref r0), some (.int x1), some (.int x2), none, none, none, none, none, none], [], h)) (hk _ _ rfl) rfl ⟨fun z3 => ?_, fun z3 => ?_⟩
      · replace w := w.1 z3
        refine gw_le (L' := [none, none, none, none, none, none, none, none, none]) (gm_le_n _ (gm_le_n _ (gm_le_n _ (gm_le_k _ (gm_le_k _ (gm_le_k _ (gm_le_k _ (gm_le_k _ (gm_le_k _ gm_le_nil))))))))) ?_
        exact ok134_20 c d Post _ w
      · replace w := w.2 z3
        refine gw_pst hk 2 (st' := (17, [some (.ref r0), some (.int x1), some (.int x2), none, none, none, none, none, none], [.int 10, .int x2], h)) rfl ?_
        refine gw_br (c := x2 ≤ 10) (a := (22, [some (.ref r0), some (.int x1), some (.int x2), none, none, none, none, none, none], [], h)) (b := (20, [some (.ref r0), some (.int x1), some (.int x2), none, none, none, none, none, none], [], h)) (hk _ _ rfl) rfl ⟨fun z4 => ?_, fun z4 => ?_⟩
        · replace w := w.1 z4
          refine gw_pst hk 6 (st' := (30, [some (.ref r0), some (.int x1), some (.int x2), some (.long 1), none, some (.long 1), none, some (.int 0), none], [], h)) rfl ?_
          obtain ⟨n, w⟩ := w
          exact okl134_30 c d Post n _ _ _ _ _ _ _ w
        · replace w := w.2 z4
          refine gw_le (L' := [none, none, none, none, none, none, none, none, none]) (gm_le_n _ (gm_le_n _ (gm_le_n _ (gm_le_k _ (gm_le_k _ (gm_le_k _ (gm_le_k _ (gm_le_k _ (gm_le_k _ gm_le_nil))))))))) ?_
          exact ok134_20 c d Post _ w
def w135_45 (c : gx) (d : Nat) (Post : Option Value → gm_H → Prop) (x4 : Int64) (h : gm_H) : Prop :=
  Post (some (.long x4)) h
theorem ok135_45 (c : gx) (d : Nat) (Post : Option Value → gm_H → Prop)  (x4 : Int64) (h : gm_H) (w : w135_45 c d Post x4 h) : gV c d 135 (45, [none, none, none, none, some (.long x4), none, none, none, none, none, none], [], h) Post := by
  have hk : ∀ pc i, gm_find gk_135 pc = some i → gm_code (gt_T c.1 c.2.1 c.2.2.1) 135 pc = some i := fun _ _ z => z
  unfold w135_45 at w
  unfold gV
  refine gw_pst hk 1 (st' := (47, [none, none, none, none, some (.long x4), none, none, none, none, none, none], [.long x4], h)) rfl ?_
  exact gw_ret (hk _ _ rfl) rfl w
def wb135_9 (c : gx) (d : Nat) (Post : Option Value → gm_H → Prop) (K9 : Int64 → Int64 → Int32 → gm_H → Prop) (x4 : Int64) (x6 : Int64) (x8 : Int32) (h : gm_H) : Prop :=
  ((1000 ≤ x8 → w135_45 c d Post x4 h) ∧ (¬ (1000 ≤ x8) → (((lg_cmp x6 0) = 0 → w135_45 c d Post x4 h) ∧ (¬ ((lg_cmp x6 0) = 0) → ¬ x6 = 0 ∧ K9 x6 (x4 - x4 / x6 * x6) (x8 + 1) h))))
theorem okb135_9 (c : gx) (d : Nat) (Post : Option Value → gm_H → Prop) (K9 : Int64 → Int64 → Int32 → gm_H → Prop)  (hK9 : ∀ (x4 : Int64) (x6 : Int64) (x8 : Int32) (h : gm_H), K9 x4 x6 x8 h → gV c d 135 (9, [none, none, none, none, some (.long x4), none, some (.long x6), none, some (.int x8), none, none], [], h) Post) (x4 : Int64) (x6 : Int64) (x8 : Int32) (h : gm_H) (w : wb135_9 c d Post K9 x4 x6 x8 h) : gV c d 135 (9, [none, none, none, none, some (.long x4), none, some (.long x6), none, some (.int x8), none, none], [], h) Post := by
  have hk : ∀ pc i, gm_find gk_135 pc = some i → gm_code (gt_T c.1 c.2.1 c.2.2.1) 135 pc = some i := fun _ _ z => z
  unfold wb135_9 at w
  unfold gV
  refine gw_pst hk 2 (st' := (14, [none, none, none, none, some (.long x4), none, some (.long x6), none, some (.int x8), none, none], [.int 1000, .int x8], h)) rfl ?_
  refine gw_br (c := 1000 ≤ x8) (a := (45, [none, none, none, none, some (.long x4), none, some (.long x6), none, some (.int x8), none, none], [], h)) (b := (17, [none, none, none, none, some (.long x4), none, some (.long x6), none, some (.int x8), none, none], [], h)) (hk _ _ rfl) rfl ⟨fun z1 => ?_, fun z1 => ?_⟩
  · replace w := w.1 z1
    refine gw_le (L' := [none, none, none, none, some (.long x4), none, none, none, none, none, none]) (gm_le_k _ (gm_le_k _ (gm_le_k _ (gm_le_k _ (gm_le_k _ (gm_le_k _ (gm_le_n _ (gm_le_k _ (gm_le_n _ (gm_le_k _ (gm_le_k _ gm_le_nil))))))))))) ?_
    exact ok135_45 c d Post _ _ w
  · replace w := w.2 z1
    refine gw_pst hk 3 (st' := (21, [none, none, none, none, some (.long x4), none, some (.long x6), none, some (.int x8), none, none], [.int (lg_cmp x6 0)], h)) rfl ?_
    refine gw_br (c := (lg_cmp x6 0) = 0) (a := (45, [none, none, none, none, some (.long x4), none, some (.long x6), none, some (.int x8), none, none], [], h)) (b := (24, [none, none, none, none, some (.long x4), none, some (.long x6), none, some (.int x8), none, none], [], h)) (hk _ _ rfl) rfl ⟨fun z2 => ?_, fun z2 => ?_⟩
    · replace w := w.1 z2
      refine gw_le (L' := [none, none, none, none, some (.long x4), none, none, none, none, none, none]) (gm_le_k _ (gm_le_k _ (gm_le_k _ (gm_le_k _ (gm_le_k _ (gm_le_k _ (gm_le_n _ (gm_le_k _ (gm_le_n _ (gm_le_k _ (gm_le_k _ gm_le_nil))))))))))) ?_
      exact ok135_45 c d Post _ _ w
    · replace w := w.2 z2
      refine gw_pst hk 2 (st' := (28, [none, none, none, none, some (.long x4), none, some (.long x6), none, some (.int x8), none, none], [.long x6, .long x4], h)) rfl ?_
      obtain ⟨z3, w⟩ := w
      refine gw_lrem (hk _ _ rfl) z3 ?_ rfl
      refine gw_pst hk 7 (st' := (9, [none, none, none, none, some (.long x6), none, some (.long (x4 - x4 / x6 * x6)), none, some (.int (x8 + 1)), some (.long (x4 - x4 / x6 * x6)), none], [], h)) rfl ?_
      refine gw_le (L' := [none, none, none, none, some (.long x6), none, some (.long (x4 - x4 / x6 * x6)), none, some (.int (x8 + 1)), none, none]) (gm_le_k _ (gm_le_k _ (gm_le_k _ (gm_le_k _ (gm_le_k _ (gm_le_k _ (gm_le_k _ (gm_le_k _ (gm_le_k _ (gm_le_n _ (gm_le_k _ gm_le_nil))))))))))) ?_
      exact hK9 _ _ _ _ w
def wl135_9 (c : gx) (d : Nat) (Post : Option Value → gm_H → Prop) : Nat → Int64 → Int64 → Int32 → gm_H → Prop
  | 0 => fun _ _ _ _ => False
  | n + 1 => wb135_9 c d Post (wl135_9 c d Post n)
theorem okl135_9 (c : gx) (d : Nat) (Post : Option Value → gm_H → Prop) : ∀ (n : Nat) (x4 : Int64) (x6 : Int64) (x8 : Int32) (h : gm_H), wl135_9 c d Post n x4 x6 x8 h → gV c d 135 (9, [none, none, none, none, some (.long x4), none, some (.long x6), none, some (.int x8), none, none], [], h) Post
  | 0, _, _, _, _, w => w.elim
  | n + 1, x4, x6, x8, h, w => okb135_9 c d Post (wl135_9 c d Post n) (okl135_9 c d Post n) x4 x6 x8 h w
/-- CommandByTurns.commonDivisor(JJ)J -/
def wm135 (c : gx) (d : Nat) (Post : Option Value → gm_H → Prop) (x0 : Int64) (x2 : Int64) (h : gm_H) : Prop :=
  ∃ n, wl135_9 c d Post n x2 x0 0 h
theorem okm135 (c : gx) (d : Nat) (Post : Option Value → gm_H → Prop) (x0 : Int64) (x2 : Int64) (h : gm_H) (w : wm135 c d Post x0 x2 h) : gE c (d + 1) 135 [.long x0, .long x2] h Post := by
  have hk : ∀ pc i, gm_find gk_135 pc = some i → gm_code (gt_T c.1 c.2.1 c.2.2.1) 135 pc = some i := fun _ _ z => z
  unfold wm135 at w
  refine ge_of (by decide) (Nat.le_of_ble_eq_true rfl) ?_
  show gV c d 135 (0, [some (.long x0), none, some (.long x2), none, none, none, none, none, none, none, none], [], h) Post
  unfold gV
  refine gw_pst hk 6 (st' := (9, [some (.long x0), none, some (.long x2), none, some (.long x2), none, some (.long x0), none, some (.int 0), none, none], [], h)) rfl ?_
  refine gw_le (L' := [none, none, none, none, some (.long x2), none, some (.long x0), none, some (.int 0), none, none]) (gm_le_n _ (gm_le_k _ (gm_le_n _ (gm_le_k _ (gm_le_k _ (gm_le_k _ (gm_le_k _ (gm_le_k _ (gm_le_k _ (gm_le_k _ (gm_le_k _ gm_le_nil))))))))))) ?_
  obtain ⟨n, w⟩ := w
  exact okl135_9 c d Post n _ _ _ _ w
def w136_21 (c : gx) (d : Nat) (Post : Option Value → gm_H → Prop)  (h : gm_H) : Prop :=
  Post (some (.int (-1))) h
theorem ok136_21 (c : gx) (d : Nat) (Post : Option Value → gm_H → Prop)   (h : gm_H) (w : w136_21 c d Post  h) : gV c d 136 (21, [none, none, none, none, none, none, none, none], [], h) Post := by
  have hk : ∀ pc i, gm_find gk_136 pc = some i → gm_code (gt_T c.1 c.2.1 c.2.2.1) 136 pc = some i := fun _ _ z => z
  unfold w136_21 at w
  unfold gV
  refine gw_pst hk 1 (st' := (22, [none, none, none, none, none, none, none, none], [.int (-1)], h)) rfl ?_
  exact gw_ret (hk _ _ rfl) rfl w
def w136_69 (c : gx) (d : Nat) (Post : Option Value → gm_H → Prop) (K31 : Int32 → Int32 → Int64 → Int64 → Int32 → gm_H → Prop) (x1 : Int32) (x2 : Int32) (x3 : Int64) (x5 : Int64) (x7 : Int32) (h : gm_H) : Prop :=
  ¬ ((x7 + 1 : Int32).toInt64) = 0 ∧ K31 x1 x2 x3 ((x5 * ((x1 - x7 : Int32).toInt64)) / ((x7 + 1 : Int32).toInt64)) (x7 + 1) h
theorem ok136_69 (c : gx) (d : Nat) (Post : Option Value → gm_H → Prop) (K31 : Int32 → Int32 → Int64 → Int64 → Int32 → gm_H → Prop)  (hK31 : ∀ (x1 : Int32) (x2 : Int32) (x3 : Int64) (x5 : Int64) (x7 : Int32) (h : gm_H), K31 x1 x2 x3 x5 x7 h → gV c d 136 (31, [none, some (.int x1), some (.int x2), some (.long x3), none, some (.long x5), none, some (.int x7)], [], h) Post) (x1 : Int32) (x2 : Int32) (x3 : Int64) (x5 : Int64) (x7 : Int32) (h : gm_H) (w : w136_69 c d Post K31 x1 x2 x3 x5 x7 h) : gV c d 136 (69, [none, some (.int x1), some (.int x2), some (.long x3), none, some (.long x5), none, some (.int x7)], [], h) Post := by
  have hk : ∀ pc i, gm_find gk_136 pc = some i → gm_code (gt_T c.1 c.2.1 c.2.2.1) 136 pc = some i := fun _ _ z => z
  unfold w136_69 at w
  unfold gV
  refine gw_pst hk 10 (st' := (82, [none, some (.int x1), some (.int x2), some (.long x3), none, some (.long x5), none, some (.int x7)], [.long ((x7 + 1 : Int32).toInt64), .long (x5 * ((x1 - x7 : Int32).toInt64))], h)) rfl ?_
  obtain ⟨z1, w⟩ := w
  refine gw_ldiv (hk _ _ rfl) z1 ?_ rfl
  refine gw_pst hk 3 (st' := (31, [none, some (.int x1), some (.int x2), some (.long x3), none, some (.long ((x5 * ((x1 - x7 : Int32).toInt64)) / ((x7 + 1 : Int32).toInt64))), none, some (.int (x7 + 1))], [], h)) rfl ?_
  exact hK31 _ _ _ _ _ _ w
def w136_126 (c : gx) (d : Nat) (Post : Option Value → gm_H → Prop) (xs0 : Int64) (h : gm_H) : Prop :=
  Post (some (.int ((xs0).toInt32))) h
theorem ok136_126 (c : gx) (d : Nat) (Post : Option Value → gm_H → Prop)  (xs0 : Int64) (h : gm_H) (w : w136_126 c d Post xs0 h) : gV c d 136 (126, [none, none, none, none, none, none, none, none], [.long xs0], h) Post := by
  have hk : ∀ pc i, gm_find gk_136 pc = some i → gm_code (gt_T c.1 c.2.1 c.2.2.1) 136 pc = some i := fun _ _ z => z
  unfold w136_126 at w
  unfold gV
  refine gw_pst hk 1 (st' := (127, [none, none, none, none, none, none, none, none], [.int ((xs0).toInt32)], h)) rfl ?_
  exact gw_ret (hk _ _ rfl) rfl w
def wb136_31 (c : gx) (d : Nat) (Post : Option Value → gm_H → Prop) (K31 : Int32 → Int32 → Int64 → Int64 → Int32 → gm_H → Prop) (x1 : Int32) (x2 : Int32) (x3 : Int64) (x5 : Int64) (x7 : Int32) (h : gm_H) : Prop :=
  ((x1 < x7 → ((6 < x1 → gE c d 137 [.int 10, .int (x1 - 6)] h (fun v3 h_3 => ∃ y_3 : Int64, v3 = some (.long y_3) ∧ ¬ (if y_3 < 1 then 1 else y_3) = 0 ∧ w136_126 c d Post (x3 / (if y_3 < 1 then 1 else y_3)) h_3)) ∧ (¬ (6 < x1) → gE c d 137 [.int 10, .int (6 - x1)] h (fun v5 h_5 => ∃ y_5 : Int64, v5 = some (.long y_5) ∧ w136_126 c d Post (x3 * y_5) h_5)))) ∧ (¬ (x1 < x7) → (((3 * x7) < x1 → w136_69 c d Post K31 x1 x2 x3 x5 x7 h) ∧ (¬ ((3 * x7) < x1) → gE c d 137 [.int x2, .int x7] h (fun v7 h_7 => ∃ y_7 : Int64, v7 = some (.long y_7) ∧ gE c d 137 [.int (10 - x2), .int (x1 - x7)] h_7 (fun v8 h_8 => ∃ y_8 : Int64, v8 = some (.long y_8) ∧ w136_69 c d Post K31 x1 x2 (x3 + ((x5 * y_7) * y_8)) x5 x7 h_8))))))
theorem okb136_31 (c : gx) (d : Nat) (Post : Option Value → gm_H → Prop) (K31 : Int32 → Int32 → Int64 → Int64 → Int32 → gm_H → Prop)  (hK31 : ∀ (x1 : Int32) (x2 : Int32) (x3 : Int64) (x5 : Int64) (x7 : Int32) (h : gm_H), K31 x1 x2 x3 x5 x7 h → gV c d 136 (31, [none, some (.int x1), some (.int x2), some (.long x3), none, some (.long x5), none, some (.int x7)], [], h) Post) (x1 : Int32) (x2 : Int32) (x3 : Int64) (x5 : Int64) (x7 : Int32) (h : gm_H) (w : wb136_31 c d Post K31 x1 x2 x3 x5 x7 h) : gV c d 136 (31, [none, some (.int x1), some (.int x2), some (.long x3), none, some (.long x5), none, some (.int x7)], [], h) Post := by
  have hk : ∀ pc i, gm_find gk_136 pc = some i → gm_code (gt_T c.1 c.2.1 c.2.2.1) 136 pc = some i := fun _ _ z => z
  unfold wb136_31 at w
  unfold gV
  refine gw_pst hk 2 (st' := (34, [none, some (.int x1), some (.int x2), some (.long x3), none, some (.long x5), none, some (.int x7)], [.int x1, .int x7], h)) rfl ?_
  refine gw_br (c := x1 < x7) (a := (91, [none, some (.int x1), some (.int x2), some (.long x3), none, some (.long x5), none, some (.int x7)], [], h)) (b := (37, [none, some (.int x1), some (.int x2), some (.long x3), none, some (.long x5), none, some (.int x7)], [], h)) (hk _ _ rfl) rfl ⟨fun z1 => ?_, fun z1 => ?_⟩
  · replace w := w.1 z1
    refine gw_pst hk 2 (st' := (94, [none, some (.int x1), some (.int x2), some (.long x3), none, some (.long x5), none, some (.int x7)], [.int 6, .int x1], h)) rfl ?_
    refine gw_br (c := 6 < x1) (a := (111, [none, some (.int x1), some (.int x2), some (.long x3), none, some (.long x5), none, some (.int x7)], [], h)) (b := (97, [none, some (.int x1), some (.int x2), some (.long x3), none, some (.long x5), none, some (.int x7)], [], h)) (hk _ _ rfl) rfl ⟨fun z2 => ?_, fun z2 => ?_⟩
    · replace w := w.1 z2
      refine gw_pst hk 6 (st' := (119, [none, some (.int x1), some (.int x2), some (.long x3), none, some (.long x5), none, some (.int x7)], [.int (x1 - 6), .int 10, .long 1, .long x3], h)) rfl ?_
      refine gw_call (jj := 137) (As := [.int 10, .int (x1 - 6)]) (rest := [.long 1, .long x3]) (hk _ _ rfl) (fun _ => rfl) rfl rfl (Nat.le_of_ble_eq_true rfl) rfl ?_
      refine ge_imp w (fun v3 h_3 w => ?_)
      obtain ⟨y_3, rfl, w⟩ := w
      show gV c d 136 (122, [none, some (.int x1), some (.int x2), some (.long x3), none, some (.long x5), none, some (.int x7)], [.long y_3, .long 1, .long x3], h_3) Post
      refine gw_pst hk 1 (st' := (125, [none, some (.int x1), some (.int x2), some (.long x3), none, some (.long x5), none, some (.int x7)], [.long (if y_3 < 1 then 1 else y_3), .long x3], h_3)) rfl ?_
      obtain ⟨z4, w⟩ := w
      refine gw_ldiv (hk _ _ rfl) z4 ?_ rfl
      refine gw_le (L' := [none, none, none, none, none, none, none, none]) (gm_le_k _ (gm_le_n _ (gm_le_n _ (gm_le_n _ (gm_le_k _ (gm_le_n _ (gm_le_k _ (gm_le_n _ gm_le_nil)))))))) ?_
      exact ok136_126 c d Post _ _ w
    · replace w := w.2 z2
      refine gw_pst hk 5 (st' := (104, [none, some (.int x1), some (.int x2), some (.long x3), none, some (.long x5), none, some (.int x7)], [.int (6 - x1), .int 10, .long x3], h)) rfl ?_
      refine gw_call (jj := 137) (As := [.int 10, .int (6 - x1)]) (rest := [.long x3]) (hk _ _ rfl) (fun _ => rfl) rfl rfl (Nat.le_of_ble_eq_true rfl) rfl ?_
      refine ge_imp w (fun v5 h_5 w => ?_)
      obtain ⟨y_5, rfl, w⟩ := w
      show gV c d 136 (107, [none, some (.int x1), some (.int x2), some (.long x3), none, some (.long x5), none, some (.int x7)], [.long y_5, .long x3], h_5) Post
      refine gw_pst hk 2 (st' := (126, [none, some (.int x1), some (.int x2), some (.long x3), none, some (.long x5), none, some (.int x7)], [.long (x3 * y_5)], h_5)) rfl ?_
      refine gw_le (L' := [none, none, none, none, none, none, none, none]) (gm_le_k _ (gm_le_n _ (gm_le_n _ (gm_le_n _ (gm_le_k _ (gm_le_n _ (gm_le_k _ (gm_le_n _ gm_le_nil)))))))) ?_
      exact ok136_126 c d Post _ _ w
  · replace w := w.2 z1
    refine gw_pst hk 4 (st' := (42, [none, some (.int x1), some (.int x2), some (.long x3), none, some (.long x5), none, some (.int x7)], [.int x1, .int (3 * x7)], h)) rfl ?_
    refine gw_br (c := (3 * x7) < x1) (a := (69, [none, some (.int x1), some (.int x2), some (.long x3), none, some (.long x5), none, some (.int x7)], [], h)) (b := (45, [none, some (.int x1), some (.int x2), some (.long x3), none, some (.long x5), none, some (.int x7)], [], h)) (hk _ _ rfl) rfl ⟨fun z6 => ?_, fun z6 => ?_⟩
    · replace w := w.1 z6
      exact ok136_69 c d Post K31 hK31 _ _ _ _ _ _ w
    · replace w := w.2 z6
      refine gw_pst hk 4 (st' := (51, [none, some (.int x1), some (.int x2), some (.long x3), none, some (.long x5), none, some (.int x7)], [.int x7, .int x2, .long x5, .long x3], h)) rfl ?_
      refine gw_call (jj := 137) (As := [.int x2, .int x7]) (rest := [.long x5, .long x3]) (hk _ _ rfl) (fun _ => rfl) rfl rfl (Nat.le_of_ble_eq_true rfl) rfl ?_
      refine ge_imp w (fun v7 h_7 w => ?_)
      obtain ⟨y_7, rfl, w⟩ := w
      show gV c d 136 (54, [none, some (.int x1), some (.int x2), some (.long x3), none, some (.long x5), none, some (.int x7)], [.long y_7, .long x5, .long x3], h_7) Post
      refine gw_pst hk 7 (st' := (63, [none, some (.int x1), some (.int x2), some (.long x3), none, some (.long x5), none, some (.int x7)], [.int (x1 - x7), .int (10 - x2), .long (x5 * y_7), .long x3], h_7)) rfl ?_
      refine gw_call (jj := 137) (As := [.int (10 - x2), .int (x1 - x7)]) (rest := [.long (x5 * y_7), .long x3]) (hk _ _ rfl) (fun _ => rfl) rfl rfl (Nat.le_of_ble_eq_true rfl) rfl ?_
      refine ge_imp w (fun v8 h_8 w => ?_)
      obtain ⟨y_8, rfl, w⟩ := w
      show gV c d 136 (66, [none, some (.int x1), some (.int x2), some (.long x3), none, some (.long x5), none, some (.int x7)], [.long y_8, .long (x5 * y_7), .long x3], h_8) Post
      refine gw_pst hk 3 (st' := (69, [none, some (.int x1), some (.int x2), some (.long (x3 + ((x5 * y_7) * y_8))), none, some (.long x5), none, some (.int x7)], [], h_8)) rfl ?_
      exact ok136_69 c d Post K31 hK31 _ _ _ _ _ _ w
def wl136_31 (c : gx) (d : Nat) (Post : Option Value → gm_H → Prop) : Nat → Int32 → Int32 → Int64 → Int64 → Int32 → gm_H → Prop
  | 0 => fun _ _ _ _ _ _ => False
  | n + 1 => wb136_31 c d Post (wl136_31 c d Post n)
theorem okl136_31 (c : gx) (d : Nat) (Post : Option Value → gm_H → Prop) : ∀ (n : Nat) (x1 : Int32) (x2 : Int32) (x3 : Int64) (x5 : Int64) (x7 : Int32) (h : gm_H), wl136_31 c d Post n x1 x2 x3 x5 x7 h → gV c d 136 (31, [none, some (.int x1), some (.int x2), some (.long x3), none, some (.long x5), none, some (.int x7)], [], h) Post
  | 0, _, _, _, _, _, _, w => w.elim
  | n + 1, x1, x2, x3, x5, x7, h, w => okb136_31 c d Post (wl136_31 c d Post n) (okl136_31 c d Post n) x1 x2 x3 x5 x7 h w
/-- CommandByTurns.stops(II)I -/
def wm136 (c : gx) (d : Nat) (Post : Option Value → gm_H → Prop) (r0 : Nat) (x1 : Int32) (x2 : Int32) (h : gm_H) : Prop :=
  ((x1 < 1 → w136_21 c d Post h) ∧ (¬ (x1 < 1) → ((15 < x1 → w136_21 c d Post h) ∧ (¬ (15 < x1) → ((x2 < 0 → w136_21 c d Post h) ∧ (¬ (x2 < 0) → ((x2 ≤ 10 → ∃ n, wl136_31 c d Post n x1 x2 0 1 0 h) ∧ (¬ (x2 ≤ 10) → w136_21 c d Post h))))))))
theorem okm136 (c : gx) (d : Nat) (Post : Option Value → gm_H → Prop) (r0 : Nat) (x1 : Int32) (x2 : Int32) (h : gm_H) (w : wm136 c d Post r0 x1 x2 h) : gE c (d + 1) 136 [.ref r0, .int x1, .int x2] h Post := by
  have hk : ∀ pc i, gm_find gk_136 pc = some i → gm_code (gt_T c.1 c.2.1 c.2.2.1) 136 pc = some i := fun _ _ z => z
  unfold wm136 at w
  refine ge_of (by decide) (Nat.le_of_ble_eq_true rfl) ?_
  show gV c d 136 (0, [some (.ref r0), some (.int x1), some (.int x2), none, none, none, none, none], [], h) Post
  unfold gV
  refine gw_pst hk 2 (st' := (2, [some (.ref r0), some (.int x1), some (.int x2), none, none, none, none, none], [.int 1, .int x1], h)) rfl ?_
  refine gw_br (c := x1 < 1) (a := (21, [some (.ref r0), some (.int x1), some (.int x2), none, none, none, none, none], [], h)) (b := (5, [some (.ref r0), some (.int x1), some (.int x2), none, none, none, none, none], [], h)) (hk _ _ rfl) rfl ⟨fun z1 => ?_, fun z1 => ?_⟩
  · replace w := w.1 z1
    refine gw_le (L' := [none, none, none, none, none, none, none, none]) (gm_le_n _ (gm_le_n _ (gm_le_n _ (gm_le_k _ (gm_le_k _ (gm_le_k _ (gm_le_k _ (gm_le_k _ gm_le_nil)))))))) ?_
    exact ok136_21 c d Post _ w
  · replace w := w.2 z1
    refine gw_pst hk 2 (st' := (8, [some (.ref r0), some (.int x1), some (.int x2), none, none, none, none, none], [.int 15, .int x1], h)) rfl ?_
    refine gw_br (c := 15 < x1) (a := (21, [some (.ref r0), some (.int x1), some (.int x2), none, none, none, none, none], [], h)) (b := (11, [some (.ref r0), some (.int x1), some (.int x2), none, none, none, none, none], [], h)) (hk _ _ rfl) rfl ⟨fun z2 => ?_, fun z2 => ?_⟩
    · replace w := w.1 z2
      refine gw_le (L' := [none, none, none, none, none, none, none, none]) (gm_le_n _ (gm_le_n _ (gm_le_n _ (gm_le_k _ (gm_le_k _ (gm_le_k _ (gm_le_k _ (gm_le_k _ gm_le_nil)))))))) ?_
      exact ok136_21 c d Post _ w
    · replace w := w.2 z2
      refine gw_pst hk 1 (st' := (12, [some (.ref r0), some (.int x1), some (.int x2), none, none, none, none, none], [.int x2], h)) rfl ?_
      refine gw_br (c := x2 < 0) (a := (21, [some (.ref r0), some (.int x1), some (.int x2), none, none, none, none, none], [], h)) (b := (15, [some (.ref r0), some (.int x1), some (.int x2), none, none, none, none, none], [], h)) (hk _ _ rfl) rfl ⟨fun z3 => ?_, fun z3 => ?_⟩
      · replace w := w.1 z3
        refine gw_le (L' := [none, none, none, none, none, none, none, none]) (gm_le_n _ (gm_le_n _ (gm_le_n _ (gm_le_k _ (gm_le_k _ (gm_le_k _ (gm_le_k _ (gm_le_k _ gm_le_nil)))))))) ?_
        exact ok136_21 c d Post _ w
      · replace w := w.2 z3
        refine gw_pst hk 2 (st' := (18, [some (.ref r0), some (.int x1), some (.int x2), none, none, none, none, none], [.int 10, .int x2], h)) rfl ?_
        refine gw_br (c := x2 ≤ 10) (a := (23, [some (.ref r0), some (.int x1), some (.int x2), none, none, none, none, none], [], h)) (b := (21, [some (.ref r0), some (.int x1), some (.int x2), none, none, none, none, none], [], h)) (hk _ _ rfl) rfl ⟨fun z4 => ?_, fun z4 => ?_⟩
        · replace w := w.1 z4
          refine gw_pst hk 6 (st' := (31, [some (.ref r0), some (.int x1), some (.int x2), some (.long 0), none, some (.long 1), none, some (.int 0)], [], h)) rfl ?_
          refine gw_le (L' := [none, some (.int x1), some (.int x2), some (.long 0), none, some (.long 1), none, some (.int 0)]) (gm_le_n _ (gm_le_k _ (gm_le_k _ (gm_le_k _ (gm_le_k _ (gm_le_k _ (gm_le_k _ (gm_le_k _ gm_le_nil)))))))) ?_
          obtain ⟨n, w⟩ := w
          exact okl136_31 c d Post n _ _ _ _ _ _ w
        · replace w := w.2 z4
          refine gw_le (L' := [none, none, none, none, none, none, none, none]) (gm_le_n _ (gm_le_n _ (gm_le_n _ (gm_le_k _ (gm_le_k _ (gm_le_k _ (gm_le_k _ (gm_le_k _ gm_le_nil)))))))) ?_
          exact ok136_21 c d Post _ w
def wb137_5 (c : gx) (d : Nat) (Post : Option Value → gm_H → Prop) (K5 : Int32 → Int32 → Int64 → Int32 → gm_H → Prop) (x0 : Int32) (x1 : Int32) (x2 : Int64) (x4 : Int32) (h : gm_H) : Prop :=
  ((x1 ≤ x4 → Post (some (.long x2)) h) ∧ (¬ (x1 ≤ x4) → K5 x0 x1 (x2 * ((x0 : Int32).toInt64)) (x4 + 1) h))
theorem okb137_5 (c : gx) (d : Nat) (Post : Option Value → gm_H → Prop) (K5 : Int32 → Int32 → Int64 → Int32 → gm_H → Prop)  (hK5 : ∀ (x0 : Int32) (x1 : Int32) (x2 : Int64) (x4 : Int32) (h : gm_H), K5 x0 x1 x2 x4 h → gV c d 137 (5, [some (.int x0), some (.int x1), some (.long x2), none, some (.int x4)], [], h) Post) (x0 : Int32) (x1 : Int32) (x2 : Int64) (x4 : Int32) (h : gm_H) (w : wb137_5 c d Post K5 x0 x1 x2 x4 h) : gV c d 137 (5, [some (.int x0), some (.int x1), some (.long x2), none, some (.int x4)], [], h) Post := by
  have hk : ∀ pc i, gm_find gk_137 pc = some i → gm_code (gt_T c.1 c.2.1 c.2.2.1) 137 pc = some i := fun _ _ z => z
  unfold wb137_5 at w
  unfold gV
  refine gw_pst hk 2 (st' := (8, [some (.int x0), some (.int x1), some (.long x2), none, some (.int x4)], [.int x1, .int x4], h)) rfl ?_
  refine gw_br (c := x1 ≤ x4) (a := (22, [some (.int x0), some (.int x1), some (.long x2), none, some (.int x4)], [], h)) (b := (11, [some (.int x0), some (.int x1), some (.long x2), none, some (.int x4)], [], h)) (hk _ _ rfl) rfl ⟨fun z1 => ?_, fun z1 => ?_⟩
  · replace w := w.1 z1
    refine gw_pst hk 1 (st' := (23, [some (.int x0), some (.int x1), some (.long x2), none, some (.int x4)], [.long x2], h)) rfl ?_
    exact gw_ret (hk _ _ rfl) rfl w
  · replace w := w.2 z1
    refine gw_pst hk 7 (st' := (5, [some (.int x0), some (.int x1), some (.long (x2 * ((x0 : Int32).toInt64))), none, some (.int (x4 + 1))], [], h)) rfl ?_
    exact hK5 _ _ _ _ _ w
def wl137_5 (c : gx) (d : Nat) (Post : Option Value → gm_H → Prop) : Nat → Int32 → Int32 → Int64 → Int32 → gm_H → Prop
  | 0 => fun _ _ _ _ _ => False
  | n + 1 => wb137_5 c d Post (wl137_5 c d Post n)
theorem okl137_5 (c : gx) (d : Nat) (Post : Option Value → gm_H → Prop) : ∀ (n : Nat) (x0 : Int32) (x1 : Int32) (x2 : Int64) (x4 : Int32) (h : gm_H), wl137_5 c d Post n x0 x1 x2 x4 h → gV c d 137 (5, [some (.int x0), some (.int x1), some (.long x2), none, some (.int x4)], [], h) Post
  | 0, _, _, _, _, _, w => w.elim
  | n + 1, x0, x1, x2, x4, h, w => okb137_5 c d Post (wl137_5 c d Post n) (okl137_5 c d Post n) x0 x1 x2 x4 h w
/-- CommandByTurns.power(II)J -/
def wm137 (c : gx) (d : Nat) (Post : Option Value → gm_H → Prop) (x0 : Int32) (x1 : Int32) (h : gm_H) : Prop :=
  ∃ n, wl137_5 c d Post n x0 x1 1 0 h
theorem okm137 (c : gx) (d : Nat) (Post : Option Value → gm_H → Prop) (x0 : Int32) (x1 : Int32) (h : gm_H) (w : wm137 c d Post x0 x1 h) : gE c (d + 1) 137 [.int x0, .int x1] h Post := by
  have hk : ∀ pc i, gm_find gk_137 pc = some i → gm_code (gt_T c.1 c.2.1 c.2.2.1) 137 pc = some i := fun _ _ z => z
  unfold wm137 at w
  refine ge_of (by decide) (Nat.le_of_ble_eq_true rfl) ?_
  show gV c d 137 (0, [some (.int x0), some (.int x1), none, none, none], [], h) Post
  unfold gV
  refine gw_pst hk 4 (st' := (5, [some (.int x0), some (.int x1), some (.long 1), none, some (.int 0)], [], h)) rfl ?_
  obtain ⟨n, w⟩ := w
  exact okl137_5 c d Post n _ _ _ _ _ w
def w138_60 (c : gx) (d : Nat) (Post : Option Value → gm_H → Prop) (K12 : Nat → Int32 → Int32 → gm_H → Prop) (K20 : Nat → Int32 → Int32 → Int32 → gm_H → Prop) (r0 : Nat) (x1 : Int32) (x2 : Int32) (x3 : Int32) (h : gm_H) : Prop :=
  K20 r0 x1 x2 (x3 + 1) h
theorem ok138_60 (c : gx) (d : Nat) (Post : Option Value → gm_H → Prop) (K12 : Nat → Int32 → Int32 → gm_H → Prop) (K20 : Nat → Int32 → Int32 → Int32 → gm_H → Prop)  (hK12 : ∀ (r0 : Nat) (x1 : Int32) (x2 : Int32) (h : gm_H), K12 r0 x1 x2 h → gV c d 138 (12, [some (.ref r0), some (.int x1), some (.int x2), none], [], h) Post) (hK20 : ∀ (r0 : Nat) (x1 : Int32) (x2 : Int32) (x3 : Int32) (h : gm_H), K20 r0 x1 x2 x3 h → gV c d 138 (20, [some (.ref r0), some (.int x1), some (.int x2), some (.int x3)], [], h) Post) (r0 : Nat) (x1 : Int32) (x2 : Int32) (x3 : Int32) (h : gm_H) (w : w138_60 c d Post K12 K20 r0 x1 x2 x3 h) : gV c d 138 (60, [some (.ref r0), some (.int x1), some (.int x2), some (.int x3)], [], h) Post := by
  have hk : ∀ pc i, gm_find gk_138 pc = some i → gm_code (gt_T c.1 c.2.1 c.2.2.1) 138 pc = some i := fun _ _ z => z
  unfold w138_60 at w
  unfold gV
  refine gw_pst hk 2 (st' := (20, [some (.ref r0), some (.int x1), some (.int x2), some (.int (x3 + 1))], [], h)) rfl ?_
  exact hK20 _ _ _ _ _ w
def w138_57 (c : gx) (d : Nat) (Post : Option Value → gm_H → Prop) (K12 : Nat → Int32 → Int32 → gm_H → Prop) (K20 : Nat → Int32 → Int32 → Int32 → gm_H → Prop) (r0 : Nat) (x1 : Int32) (x2 : Int32) (x3 : Int32) (h : gm_H) : Prop :=
  w138_60 c d Post K12 K20 r0 (x1 + 1) x2 x3 h
theorem ok138_57 (c : gx) (d : Nat) (Post : Option Value → gm_H → Prop) (K12 : Nat → Int32 → Int32 → gm_H → Prop) (K20 : Nat → Int32 → Int32 → Int32 → gm_H → Prop)  (hK12 : ∀ (r0 : Nat) (x1 : Int32) (x2 : Int32) (h : gm_H), K12 r0 x1 x2 h → gV c d 138 (12, [some (.ref r0), some (.int x1), some (.int x2), none], [], h) Post) (hK20 : ∀ (r0 : Nat) (x1 : Int32) (x2 : Int32) (x3 : Int32) (h : gm_H), K20 r0 x1 x2 x3 h → gV c d 138 (20, [some (.ref r0), some (.int x1), some (.int x2), some (.int x3)], [], h) Post) (r0 : Nat) (x1 : Int32) (x2 : Int32) (x3 : Int32) (h : gm_H) (w : w138_57 c d Post K12 K20 r0 x1 x2 x3 h) : gV c d 138 (57, [some (.ref r0), some (.int x1), some (.int x2), some (.int x3)], [], h) Post := by
  have hk : ∀ pc i, gm_find gk_138 pc = some i → gm_code (gt_T c.1 c.2.1 c.2.2.1) 138 pc = some i := fun _ _ z => z
  unfold w138_57 at w
  unfold gV
  refine gw_pst hk 1 (st' := (60, [some (.ref r0), some (.int (x1 + 1)), some (.int x2), some (.int x3)], [], h)) rfl ?_
  exact ok138_60 c d Post K12 K20 hK12 hK20 _ _ _ _ _ w
def wb138_20 (c : gx) (d : Nat) (Post : Option Value → gm_H → Prop) (K12 : Nat → Int32 → Int32 → gm_H → Prop) (K20 : Nat → Int32 → Int32 → Int32 → gm_H → Prop) (r0 : Nat) (x1 : Int32) (x2 : Int32) (x3 : Int32) (h : gm_H) : Prop :=
  ((9 < x3 → K12 r0 x1 (x2 + 1) h) ∧ (¬ (9 < x3) → gE c d 139 [.int x2, .int x3] h (fun v2 h_2 => ∃ x_2 : Int32, v2 = some (.int x_2) ∧ ((x_2 = 0 → w138_60 c d Post K12 K20 r0 x1 x2 x3 h_2) ∧ (¬ (x_2 = 0) → gE c d 139 [.int x3, .int x2] h_2 (fun v4 h_4 => ∃ x_4 : Int32, v4 = some (.int x_4) ∧ ((x_4 = 0 → w138_60 c d Post K12 K20 r0 x1 x2 x3 h_4) ∧ (¬ (x_4 = 0) → ((x1 = 0 → ∃ q_7 : Nat, gm_fld h_4 r0 9 11 = some (.ref q_7) ∧ (∃ fs8, gm_get h_4 q_7 = some (.inr (5, fs8))) ∧ gE c d 46 [.ref q_7, .long ((x2 : Int32).toInt64), .long ((x3 : Int32).toInt64)] h_4 (fun v8 h_8 => v8 = none ∧ w138_57 c d Post K12 K20 r0 x1 x2 x3 h_8)) ∧ (¬ (x1 = 0) → w138_57 c d Post K12 K20 r0 x1 x2 x3 h_4))))))))))
theorem okb138_20 (c : gx) (d : Nat) (Post : Option Value → gm_H → Prop) (K12 : Nat → Int32 → Int32 → gm_H → Prop) (K20 : Nat → Int32 → Int32 → Int32 → gm_H → Prop)  (hK12 : ∀ (r0 : Nat) (x1 : Int32) (x2 : Int32) (h : gm_H), K12 r0 x1 x2 h → gV c d 138 (12, [some (.ref r0), some (.int x1), some (.int x2), none], [], h) Post) (hK20 : ∀ (r0 : Nat) (x1 : Int32) (x2 : Int32) (x3 : Int32) (h : gm_H), K20 r0 x1 x2 x3 h → gV c d 138 (20, [some (.ref r0), some (.int x1), some (.int x2), some (.int x3)], [], h) Post) (r0 : Nat) (x1 : Int32) (x2 : Int32) (x3 : Int32) (h : gm_H) (w : wb138_20 c d Post K12 K20 r0 x1 x2 x3 h) : gV c d 138 (20, [some (.ref r0), some (.int x1), some (.int x2), some (.int x3)], [], h) Post := by
  have hk : ∀ pc i, gm_find gk_138 pc = some i → gm_code (gt_T c.1 c.2.1 c.2.2.1) 138 pc = some i := fun _ _ z => z
  unfold wb138_20 at w
  unfold gV
  refine gw_pst hk 2 (st' := (23, [some (.ref r0), some (.int x1), some (.int x2), some (.int x3)], [.int 9, .int x3], h)) rfl ?_
  refine gw_br (c := 9 < x3) (a := (66, [some (.ref r0), some (.int x1), some (.int x2), some (.int x3)], [], h)) (b := (26, [some (.ref r0), some (.int x1), some (.int x2), some (.int x3)], [], h)) (hk _ _ rfl) rfl ⟨fun z1 => ?_, fun z1 => ?_⟩
  · replace w := w.1 z1
    refine gw_pst hk 2 (st' := (12, [some (.ref r0), some (.int x1), some (.int (x2 + 1)), some (.int x3)], [], h)) rfl ?_
    refine gw_le (L' := [some (.ref r0), some (.int x1), some (.int (x2 + 1)), none]) (gm_le_k _ (gm_le_k _ (gm_le_k _ (gm_le_n _ gm_le_nil)))) ?_
    exact hK12 _ _ _ _ w
  · replace w := w.2 z1
    refine gw_pst hk 2 (st' := (28, [some (.ref r0), some (.int x1), some (.int x2), some (.int x3)], [.int x3, .int x2], h)) rfl ?_
    refine gw_call (jj := 139) (As := [.int x2, .int x3]) (rest := []) (hk _ _ rfl) (fun _ => rfl) rfl rfl (Nat.le_of_ble_eq_true rfl) rfl ?_
    refine ge_imp w (fun v2 h_2 w => ?_)
    obtain ⟨x_2, rfl, w⟩ := w
    show gV c d 138 (31, [some (.ref r0), some (.int x1), some (.int x2), some (.int x3)], [.int x_2], h_2) Post
    refine gw_br (c := x_2 = 0) (a := (60, [some (.ref r0), some (.int x1), some (.int x2), some (.int x3)], [], h_2)) (b := (34, [some (.ref r0), some (.int x1), some (.int x2), some (.int x3)], [], h_2)) (hk _ _ rfl) rfl ⟨fun z3 => ?_, fun z3 => ?_⟩
    · replace w := w.1 z3
      exact ok138_60 c d Post K12 K20 hK12 hK20 _ _ _ _ _ w
    · replace w := w.2 z3
      refine gw_pst hk 2 (st' := (36, [some (.ref r0), some (.int x1), some (.int x2), some (.int x3)], [.int x2, .int x3], h_2)) rfl ?_
      refine gw_call (jj := 139) (As := [.int x3, .int x2]) (rest := []) (hk _ _ rfl) (fun _ => rfl) rfl rfl (Nat.le_of_ble_eq_true rfl) rfl ?_
      refine ge_imp w (fun v4 h_4 w => ?_)
      obtain ⟨x_4, rfl, w⟩ := w
      show gV c d 138 (39, [some (.ref r0), some (.int x1), some (.int x2), some (.int x3)], [.int x_4], h_4) Post
      refine gw_br (c := x_4 = 0) (a := (60, [some (.ref r0), some (.int x1), some (.int x2), some (.int x3)], [], h_4)) (b := (42, [some (.ref r0), some (.int x1), some (.int x2), some (.int x3)], [], h_4)) (hk _ _ rfl) rfl ⟨fun z5 => ?_, fun z5 => ?_⟩
      · replace w := w.1 z5
        exact ok138_60 c d Post K12 K20 hK12 hK20 _ _ _ _ _ w
      · replace w := w.2 z5
        refine gw_pst hk 1 (st' := (43, [some (.ref r0), some (.int x1), some (.int x2), some (.int x3)], [.int x1], h_4)) rfl ?_
        refine gw_br (c := x1 = 0) (a := (46, [some (.ref r0), some (.int x1), some (.int x2), some (.int x3)], [], h_4)) (b := (57, [some (.ref r0), some (.int x1), some (.int x2), some (.int x3)], [], h_4)) (hk _ _ rfl) rfl ⟨fun z6 => ?_, fun z6 => ?_⟩
        · replace w := w.1 z6
          refine gw_pst hk 1 (st' := (47, [some (.ref r0), some (.int x1), some (.int x2), some (.int x3)], [.ref r0], h_4)) rfl ?_
          obtain ⟨q_7, e7, w⟩ := w
          refine gw_gf (hk _ _ rfl) e7 ?_
          refine gw_pst hk 4 (st' := (54, [some (.ref r0), some (.int x1), some (.int x2), some (.int x3)], [.long ((x3 : Int32).toInt64), .long ((x2 : Int32).toInt64), .ref q_7], h_4)) rfl ?_
          obtain ⟨⟨fs8, e8⟩, w⟩ := w
          refine gw_call (jj := 46) (As := [.ref q_7, .long ((x2 : Int32).toInt64), .long ((x3 : Int32).toInt64)]) (rest := []) (hk _ _ rfl) (fun _ => rfl) rfl rfl (Nat.le_of_ble_eq_true rfl) (gm_rcv_v rfl e8 rfl) ?_
          refine ge_imp w (fun v8 h_8 w => ?_)
          obtain ⟨rfl, w⟩ := w
          show gV c d 138 (57, [some (.ref r0), some (.int x1), some (.int x2), some (.int x3)], [], h_8) Post
          exact ok138_57 c d Post K12 K20 hK12 hK20 _ _ _ _ _ w
        · replace w := w.2 z6
          exact ok138_57 c d Post K12 K20 hK12 hK20 _ _ _ _ _ w
def wl138_20 (c : gx) (d : Nat) (Post : Option Value → gm_H → Prop) (K12 : Nat → Int32 → Int32 → gm_H → Prop) : Nat → Nat → Int32 → Int32 → Int32 → gm_H → Prop
  | 0 => fun _ _ _ _ _ => False
  | n + 1 => wb138_20 c d Post K12 (wl138_20 c d Post K12 n)
theorem okl138_20 (c : gx) (d : Nat) (Post : Option Value → gm_H → Prop) (K12 : Nat → Int32 → Int32 → gm_H → Prop) (hK12 : ∀ (r0 : Nat) (x1 : Int32) (x2 : Int32) (h : gm_H), K12 r0 x1 x2 h → gV c d 138 (12, [some (.ref r0), some (.int x1), some (.int x2), none], [], h) Post) : ∀ (n : Nat) (r0 : Nat) (x1 : Int32) (x2 : Int32) (x3 : Int32) (h : gm_H), wl138_20 c d Post K12 n r0 x1 x2 x3 h → gV c d 138 (20, [some (.ref r0), some (.int x1), some (.int x2), some (.int x3)], [], h) Post
  | 0, _, _, _, _, _, w => w.elim
  | n + 1, r0, x1, x2, x3, h, w => okb138_20 c d Post K12 (wl138_20 c d Post K12 n) hK12 (okl138_20 c d Post K12 hK12 n) r0 x1 x2 x3 h w
def wb138_12 (c : gx) (d : Nat) (Post : Option Value → gm_H → Prop) (K12 : Nat → Int32 → Int32 → gm_H → Prop) (r0 : Nat) (x1 : Int32) (x2 : Int32) (h : gm_H) : Prop :=
  ((9 < x2 → Post (some (.int x1)) h) ∧ (¬ (9 < x2) → ∃ n, wl138_20 c d Post K12 n r0 x1 x2 0 h))
theorem okb138_12 (c : gx) (d : Nat) (Post : Option Value → gm_H → Prop) (K12 : Nat → Int32 → Int32 → gm_H → Prop)  (hK12 : ∀ (r0 : Nat) (x1 : Int32) (x2 : Int32) (h : gm_H), K12 r0 x1 x2 h → gV c d 138 (12, [some (.ref r0), some (.int x1), some (.int x2), none], [], h) Post) (r0 : Nat) (x1 : Int32) (x2 : Int32) (h : gm_H) (w : wb138_12 c d Post K12 r0 x1 x2 h) : gV c d 138 (12, [some (.ref r0), some (.int x1), some (.int x2), none], [], h) Post := by
  have hk : ∀ pc i, gm_find gk_138 pc = some i → gm_code (gt_T c.1 c.2.1 c.2.2.1) 138 pc = some i := fun _ _ z => z
  unfold wb138_12 at w
  unfold gV
  refine gw_pst hk 2 (st' := (15, [some (.ref r0), some (.int x1), some (.int x2), none], [.int 9, .int x2], h)) rfl ?_
  refine gw_br (c := 9 < x2) (a := (72, [some (.ref r0), some (.int x1), some (.int x2), none], [], h)) (b := (18, [some (.ref r0), some (.int x1), some (.int x2), none], [], h)) (hk _ _ rfl) rfl ⟨fun z1 => ?_, fun z1 => ?_⟩
  · replace w := w.1 z1
    refine gw_pst hk 1 (st' := (73, [some (.ref r0), some (.int x1), some (.int x2), none], [.int x1], h)) rfl ?_
    exact gw_ret (hk _ _ rfl) rfl w
  · replace w := w.2 z1
    refine gw_pst hk 2 (st' := (20, [some (.ref r0), some (.int x1), some (.int x2), some (.int 0)], [], h)) rfl ?_
    obtain ⟨n, w⟩ := w
    exact okl138_20 c d Post K12 hK12 n _ _ _ _ _ w
def wl138_12 (c : gx) (d : Nat) (Post : Option Value → gm_H → Prop) : Nat → Nat → Int32 → Int32 → gm_H → Prop
  | 0 => fun _ _ _ _ => False
  | n + 1 => wb138_12 c d Post (wl138_12 c d Post n)
theorem okl138_12 (c : gx) (d : Nat) (Post : Option Value → gm_H → Prop) : ∀ (n : Nat) (r0 : Nat) (x1 : Int32) (x2 : Int32) (h : gm_H), wl138_12 c d Post n r0 x1 x2 h → gV c d 138 (12, [some (.ref r0), some (.int x1), some (.int x2), none], [], h) Post
  | 0, _, _, _, _, w => w.elim
  | n + 1, r0, x1, x2, h, w => okb138_12 c d Post (wl138_12 c d Post n) (okl138_12 c d Post n) r0 x1 x2 h w
/-- CommandByTurns.rests()I -/
def wm138 (c : gx) (d : Nat) (Post : Option Value → gm_H → Prop) (r0 : Nat) (h : gm_H) : Prop :=
  ∃ q_1 : Nat, gm_fld h r0 9 11 = some (.ref q_1) ∧ ∃ fs2 : List Value, gm_get h q_1 = some (.inr (5, fs2)) ∧ 1 < fs2.length ∧ ∀ h_2 : gm_H, h_2 = gm_put h q_1 (.inr (5, fs2.set 1 (.int 0))) → ∃ n, wl138_12 c d Post n r0 0 0 h_2
theorem okm138 (c : gx) (d : Nat) (Post : Option Value → gm_H → Prop) (r0 : Nat) (h : gm_H) (w : wm138 c d Post r0 h) : gE c (d + 1) 138 [.ref r0] h Post := by
  have hk : ∀ pc i, gm_find gk_138 pc = some i → gm_code (gt_T c.1 c.2.1 c.2.2.1) 138 pc = some i := fun _ _ z => z
  unfold wm138 at w
  refine ge_of (by decide) (Nat.le_of_ble_eq_true rfl) ?_
  show gV c d 138 (0, [some (.ref r0), none, none, none], [], h) Post
  unfold gV
  refine gw_pst hk 3 (st' := (3, [some (.ref r0), some (.int 0), none, none], [.ref r0], h)) rfl ?_
  obtain ⟨q_1, e1, w⟩ := w
  refine gw_gf (hk _ _ rfl) e1 ?_
  refine gw_pst hk 1 (st' := (7, [some (.ref r0), some (.int 0), none, none], [.int 0, .ref q_1], h)) rfl ?_
  obtain ⟨fs2, e2, l2, w⟩ := w
  refine gw_pf (hk _ _ rfl) e2 l2 rfl ?_
  obtain ⟨h_2, eh2⟩ : ∃ z, z = gm_put h q_1 (.inr (5, fs2.set 1 (.int 0))) := ⟨_, rfl⟩
  rw [← eh2]
  replace w := w h_2 eh2
  refine gw_pst hk 2 (st' := (12, [some (.ref r0), some (.int 0), some (.int 0), none], [], h_2)) rfl ?_
  obtain ⟨n, w⟩ := w
  exact okl138_12 c d Post n _ _ _ _ w
def wb139_2 (c : gx) (d : Nat) (Post : Option Value → gm_H → Prop) (K2 : Int32 → Int32 → Int32 → gm_H → Prop) (x0 : Int32) (x1 : Int32) (x2 : Int32) (h : gm_H) : Prop :=
  ((9 < x2 → Post (some (.int 1)) h) ∧ (¬ (9 < x2) → gE c d 140 [.int x2, .int x1] h (fun v2 h_2 => ∃ x_2 : Int32, v2 = some (.int x_2) ∧ gE c d 140 [.int x0, .int x1] h_2 (fun v3 h_3 => ∃ x_3 : Int32, v3 = some (.int x_3) ∧ ((x_2 ≤ x_3 → K2 x0 x1 (x2 + 1) h_3) ∧ (¬ (x_2 ≤ x_3) → Post (some (.int 0)) h_3))))))
theorem okb139_2 (c : gx) (d : Nat) (Post : Option Value → gm_H → Prop) (K2 : Int32 → Int32 → Int32 → gm_H → Prop)  (hK2 : ∀ (x0 : Int32) (x1 : Int32) (x2 : Int32) (h : gm_H), K2 x0 x1 x2 h → gV c d 139 (2, [some (.int x0), some (.int x1), some (.int x2)], [], h) Post) (x0 : Int32) (x1 : Int32) (x2 : Int32) (h : gm_H) (w : wb139_2 c d Post K2 x0 x1 x2 h) : gV c d 139 (2, [some (.int x0), some (.int x1), some (.int x2)], [], h) Post := by
  have hk : ∀ pc i, gm_find gk_139 pc = some i → gm_code (gt_T c.1 c.2.1 c.2.2.1) 139 pc = some i := fun _ _ z => z
  unfold wb139_2 at w
  unfold gV
  refine gw_pst hk 2 (st' := (5, [some (.int x0), some (.int x1), some (.int x2)], [.int 9, .int x2], h)) rfl ?_
  refine gw_br (c := 9 < x2) (a := (29, [some (.int x0), some (.int x1), some (.int x2)], [], h)) (b := (8, [some (.int x0), some (.int x1), some (.int x2)], [], h)) (hk _ _ rfl) rfl ⟨fun z1 => ?_, fun z1 => ?_⟩
  · replace w := w.1 z1
    refine gw_pst hk 1 (st' := (30, [some (.int x0), some (.int x1), some (.int x2)], [.int 1], h)) rfl ?_
    exact gw_ret (hk _ _ rfl) rfl w
  · replace w := w.2 z1
    refine gw_pst hk 2 (st' := (10, [some (.int x0), some (.int x1), some (.int x2)], [.int x1, .int x2], h)) rfl ?_
    refine gw_call (jj := 140) (As := [.int x2, .int x1]) (rest := []) (hk _ _ rfl) (fun _ => rfl) rfl rfl (Nat.le_of_ble_eq_true rfl) rfl ?_
    refine ge_imp w (fun v2 h_2 w => ?_)
    obtain ⟨x_2, rfl, w⟩ := w
    show gV c d 139 (13, [some (.int x0), some (.int x1), some (.int x2)], [.int x_2], h_2) Post
    refine gw_pst hk 2 (st' := (15, [some (.int x0), some (.int x1), some (.int x2)], [.int x1, .int x0, .int x_2], h_2)) rfl ?_
    refine gw_call (jj := 140) (As := [.int x0, .int x1]) (rest := [.int x_2]) (hk _ _ rfl) (fun _ => rfl) rfl rfl (Nat.le_of_ble_eq_true rfl) rfl ?_
    refine ge_imp w (fun v3 h_3 w => ?_)
    obtain ⟨x_3, rfl, w⟩ := w
    show gV c d 139 (18, [some (.int x0), some (.int x1), some (.int x2)], [.int x_3, .int x_2], h_3) Post
    refine gw_br (c := x_2 ≤ x_3) (a := (23, [some (.int x0), some (.int x1), some (.int x2)], [], h_3)) (b := (21, [some (.int x0), some (.int x1), some (.int x2)], [], h_3)) (hk _ _ rfl) rfl ⟨fun z4 => ?_, fun z4 => ?_⟩
    · replace w := w.1 z4
      refine gw_pst hk 2 (st' := (2, [some (.int x0), some (.int x1), some (.int (x2 + 1))], [], h_3)) rfl ?_
      exact hK2 _ _ _ _ w
    · replace w := w.2 z4
      refine gw_pst hk 1 (st' := (22, [some (.int x0), some (.int x1), some (.int x2)], [.int 0], h_3)) rfl ?_
      exact gw_ret (hk _ _ rfl) rfl w
def wl139_2 (c : gx) (d : Nat) (Post : Option Value → gm_H → Prop) : Nat → Int32 → Int32 → Int32 → gm_H → Prop
  | 0 => fun _ _ _ _ => False
  | n + 1 => wb139_2 c d Post (wl139_2 c d Post n)
theorem okl139_2 (c : gx) (d : Nat) (Post : Option Value → gm_H → Prop) : ∀ (n : Nat) (x0 : Int32) (x1 : Int32) (x2 : Int32) (h : gm_H), wl139_2 c d Post n x0 x1 x2 h → gV c d 139 (2, [some (.int x0), some (.int x1), some (.int x2)], [], h) Post
  | 0, _, _, _, _, w => w.elim
  | n + 1, x0, x1, x2, h, w => okb139_2 c d Post (wl139_2 c d Post n) (okl139_2 c d Post n) x0 x1 x2 h w
/-- CommandByTurns.isBestAgainst(II)Z -/
def wm139 (c : gx) (d : Nat) (Post : Option Value → gm_H → Prop) (x0 : Int32) (x1 : Int32) (h : gm_H) : Prop :=
  ∃ n, wl139_2 c d Post n x0 x1 0 h
theorem okm139 (c : gx) (d : Nat) (Post : Option Value → gm_H → Prop) (x0 : Int32) (x1 : Int32) (h : gm_H) (w : wm139 c d Post x0 x1 h) : gE c (d + 1) 139 [.int x0, .int x1] h Post := by
  have hk : ∀ pc i, gm_find gk_139 pc = some i → gm_code (gt_T c.1 c.2.1 c.2.2.1) 139 pc = some i := fun _ _ z => z
  unfold wm139 at w
  refine ge_of (by decide) (Nat.le_of_ble_eq_true rfl) ?_
  show gV c d 139 (0, [some (.int x0), some (.int x1), none], [], h) Post
  unfold gV
  refine gw_pst hk 2 (st' := (2, [some (.int x0), some (.int x1), some (.int 0)], [], h)) rfl ?_
  obtain ⟨n, w⟩ := w
  exact okl139_2 c d Post n _ _ _ _ w
def w140_35 (c : gx) (d : Nat) (Post : Option Value → gm_H → Prop) (xs0 : Int32) (h : gm_H) : Prop :=
  Post (some (.int xs0)) h
theorem ok140_35 (c : gx) (d : Nat) (Post : Option Value → gm_H → Prop)  (xs0 : Int32) (h : gm_H) (w : w140_35 c d Post xs0 h) : gV c d 140 (35, [none, none, none], [.int xs0], h) Post := by
  have hk : ∀ pc i, gm_find gk_140 pc = some i → gm_code (gt_T c.1 c.2.1 c.2.2.1) 140 pc = some i := fun _ _ z => z
  unfold w140_35 at w
  unfold gV
  exact gw_ret (hk _ _ rfl) rfl w
/-- CommandByTurns.legions(II)I -/
def wm140 (c : gx) (d : Nat) (Post : Option Value → gm_H → Prop) (x0 : Int32) (x1 : Int32) (h : gm_H) : Prop :=
  ((9 < (x0 + x1) → ((x0 = x1 → w140_35 c d Post (if 0 < ((if 0 < (9 - x1) then (9 - x1) else 0) - 1) then ((if 0 < (9 - x1) then (9 - x1) else 0) - 1) else 0) h) ∧ (¬ (x0 = x1) → w140_35 c d Post (if 0 < (9 - x1) then (9 - x1) else 0) h))) ∧ (¬ (9 < (x0 + x1)) → Post (some (.int x0)) h))
theorem okm140 (c : gx) (d : Nat) (Post : Option Value → gm_H → Prop) (x0 : Int32) (x1 : Int32) (h : gm_H) (w : wm140 c d Post x0 x1 h) : gE c (d + 1) 140 [.int x0, .int x1] h Post := by
  have hk : ∀ pc i, gm_find gk_140 pc = some i → gm_code (gt_T c.1 c.2.1 c.2.2.1) 140 pc = some i := fun _ _ z => z
  unfold wm140 at w
  refine ge_of (by decide) (Nat.le_of_ble_eq_true rfl) ?_
  show gV c d 140 (0, [some (.int x0), some (.int x1), none], [], h) Post
  unfold gV
  refine gw_pst hk 4 (st' := (5, [some (.int x0), some (.int x1), none], [.int 9, .int (x0 + x1)], h)) rfl ?_
  refine gw_br (c := 9 < (x0 + x1)) (a := (10, [some (.int x0), some (.int x1), none], [], h)) (b := (8, [some (.int x0), some (.int x1), none], [], h)) (hk _ _ rfl) rfl ⟨fun z1 => ?_, fun z1 => ?_⟩
  · replace w := w.1 z1
    refine gw_pst hk 8 (st' := (21, [some (.int x0), some (.int x1), some (.int (if 0 < (9 - x1) then (9 - x1) else 0))], [.int x1, .int x0], h)) rfl ?_
    refine gw_br (c := x0 = x1) (a := (24, [some (.int x0), some (.int x1), some (.int (if 0 < (9 - x1) then (9 - x1) else 0))], [], h)) (b := (34, [some (.int x0), some (.int x1), some (.int (if 0 < (9 - x1) then (9 - x1) else 0))], [], h)) (hk _ _ rfl) rfl ⟨fun z2 => ?_, fun z2 => ?_⟩
    · replace w := w.1 z2
      refine gw_pst hk 6 (st' := (35, [some (.int x0), some (.int x1), some (.int (if 0 < (9 - x1) then (9 - x1) else 0))], [.int (if 0 < ((if 0 < (9 - x1) then (9 - x1) else 0) - 1) then ((if 0 < (9 - x1) then (9 - x1) else 0) - 1) else 0)], h)) rfl ?_
      refine gw_le (L' := [none, none, none]) (gm_le_n _ (gm_le_n _ (gm_le_n _ gm_le_nil))) ?_
      exact ok140_35 c d Post _ _ w
    · replace w := w.2 z2
      refine gw_pst hk 1 (st' := (35, [some (.int x0), some (.int x1), some (.int (if 0 < (9 - x1) then (9 - x1) else 0))], [.int (if 0 < (9 - x1) then (9 - x1) else 0)], h)) rfl ?_
      refine gw_le (L' := [none, none, none]) (gm_le_n _ (gm_le_n _ (gm_le_n _ gm_le_nil))) ?_
      exact ok140_35 c d Post _ _ w
  · replace w := w.2 z1
    refine gw_pst hk 1 (st' := (9, [some (.int x0), some (.int x1), none], [.int x0], h)) rfl ?_
    exact gw_ret (hk _ _ rfl) rfl w
def w141_11 (c : gx) (d : Nat) (Post : Option Value → gm_H → Prop)  (h : gm_H) : Prop :=
  Post (some (.int (-1))) h
theorem ok141_11 (c : gx) (d : Nat) (Post : Option Value → gm_H → Prop)   (h : gm_H) (w : w141_11 c d Post  h) : gV c d 141 (11, [none, none, none, none, none, none, none, none], [], h) Post := by
  have hk : ∀ pc i, gm_find gk_141 pc = some i → gm_code (gt_T c.1 c.2.1 c.2.2.1) 141 pc = some i := fun _ _ z => z
  unfold w141_11 at w
  unfold gV
  refine gw_pst hk 1 (st' := (12, [none, none, none, none, none, none, none, none], [.int (-1)], h)) rfl ?_
  exact gw_ret (hk _ _ rfl) rfl w
def w141_92 (c : gx) (d : Nat) (Post : Option Value → gm_H → Prop) (K32 : Nat → Int32 → Int32 → Int32 → Int32 → gm_H → Prop) (r0 : Nat) (x2 : Int32) (x3 : Int32) (x4 : Int32) (x5 : Int32) (h : gm_H) : Prop :=
  ∃ q_1 : Nat, gm_fld h r0 9 7 = some (.ref q_1) ∧ (∃ fs2, gm_get h q_1 = some (.inr (6, fs2))) ∧ gE c d 58 [.ref q_1] h (fun v2 h_2 => v2 = none ∧ K32 r0 x2 x3 x4 (x5 + 1) h_2)
theorem ok141_92 (c : gx) (d : Nat) (Post : Option Value → gm_H → Prop) (K32 : Nat → Int32 → Int32 → Int32 → Int32 → gm_H → Prop)  (hK32 : ∀ (r0 : Nat) (x2 : Int32) (x3 : Int32) (x4 : Int32) (x5 : Int32) (h : gm_H), K32 r0 x2 x3 x4 x5 h → gV c d 141 (32, [some (.ref r0), none, some (.int x2), some (.int x3), some (.int x4), some (.int x5), none, none], [], h) Post) (r0 : Nat) (x2 : Int32) (x3 : Int32) (x4 : Int32) (x5 : Int32) (h : gm_H) (w : w141_92 c d Post K32 r0 x2 x3 x4 x5 h) : gV c d 141 (92, [some (.ref r0), none, some (.int x2), some (.int x3), some (.int x4), some (.int x5), none, none], [], h) Post := by
  have hk : ∀ pc i, gm_find gk_141 pc = some i → gm_code (gt_T c.1 c.2.1 c.2.2.1) 141 pc = some i := fun _ _ z => z
  unfold w141_92 at w
  unfold gV
  refine gw_pst hk 1 (st' := (93, [some (.ref r0), none, some (.int x2), some (.int x3), some (.int x4), some (.int x5), none, none], [.ref r0], h)) rfl ?_
  obtain ⟨q_1, e1, w⟩ := w
  refine gw_gf (hk _ _ rfl) e1 ?_
  obtain ⟨⟨fs2, e2⟩, w⟩ := w
  refine gw_call (jj := 58) (As := [.ref q_1]) (rest := []) (hk _ _ rfl) (fun _ => rfl) rfl rfl (Nat.le_of_ble_eq_true rfl) (gm_rcv_v rfl e2 rfl) ?_
  refine ge_imp w (fun v2 h_2 w => ?_)
  obtain ⟨rfl, w⟩ := w
  show gV c d 141 (99, [some (.ref r0), none, some (.int x2), some (.int x3), some (.int x4), some (.int x5), none, none], [], h_2) Post
  refine gw_pst hk 2 (st' := (32, [some (.ref r0), none, some (.int x2), some (.int x3), some (.int x4), some (.int (x5 + 1)), none, none], [], h_2)) rfl ?_
  exact hK32 _ _ _ _ _ _ w
def wb141_32 (c : gx) (d : Nat) (Post : Option Value → gm_H → Prop) (K32 : Nat → Int32 → Int32 → Int32 → Int32 → gm_H → Prop) (r0 : Nat) (x2 : Int32) (x3 : Int32) (x4 : Int32) (x5 : Int32) (h : gm_H) : Prop :=
  ((x2 ≤ x5 → ∃ q_2 : Nat, gm_fld h r0 9 11 = some (.ref q_2) ∧ ∃ fs3 : List Value, gm_get h q_2 = some (.inr (5, fs3)) ∧ 1 < fs3.length ∧ ∀ h_3 : gm_H, h_3 = gm_put h q_2 (.inr (5, fs3.set 1 (.int 0))) → ∃ q_4 : Nat, gm_fld h_3 r0 9 11 = some (.ref q_4) ∧ ∃ q_5 : Nat, gm_fld h_3 r0 9 7 = some (.ref q_5) ∧ ∃ x_6 : Int32, gm_fld h_3 q_5 6 3 = some (.int x_6) ∧ (∃ fs7, gm_get h_3 q_4 = some (.inr (5, fs7))) ∧ gE c d 44 [.ref q_4, .long ((x_6 : Int32).toInt64)] h_3 (fun v7 h_7 => v7 = none ∧ ∃ q_8 : Nat, gm_fld h_7 r0 9 11 = some (.ref q_8) ∧ ∃ q_9 : Nat, gm_fld h_7 r0 9 7 = some (.ref q_9) ∧ ∃ x_10 : Int32, gm_fld h_7 q_9 6 4 = some (.int x_10) ∧ (∃ fs11, gm_get h_7 q_8 = some (.inr (5, fs11))) ∧ gE c d 44 [.ref q_8, .long ((x_10 : Int32).toInt64)] h_7 (fun v11 h_11 => v11 = none ∧ ∃ q_12 : Nat, gm_fld h_11 r0 9 11 = some (.ref q_12) ∧ ∃ q_13 : Nat, gm_fld h_11 r0 9 7 = some (.ref q_13) ∧ ∃ x_14 : Int32, gm_fld h_11 q_13 6 5 = some (.int x_14) ∧ (∃ fs15, gm_get h_11 q_12 = some (.inr (5, fs15))) ∧ gE c d 44 [.ref q_12, .long ((x_14 : Int32).toInt64)] h_11 (fun v15 h_15 => v15 = none ∧ Post (some (.int x3)) h_15)))) ∧ (¬ (x2 ≤ x5) → ∃ q_16 : Nat, gm_fld h r0 9 7 = some (.ref q_16) ∧ ∃ q_17 : Nat, gm_fld h r0 9 7 = some (.ref q_17) ∧ ∃ x_18 : Int32, gm_fld h q_17 6 0 = some (.int x_18) ∧ (∃ fs19, gm_get h q_16 = some (.inr (6, fs19))) ∧ gE c d 51 [.ref q_16, .int x_18] h (fun v19 h_19 => ∃ x_19 : Int32, v19 = some (.int x_19) ∧ ((x_19 = (-1) → w141_92 c d Post K32 r0 x2 x3 ((x4 * 1103515245) + 12345) x5 h_19) ∧ (¬ (x_19 = (-1)) → (∃ fs21, gm_get h_19 r0 = some (.inr (9, fs21))) ∧ gE c d 142 [.ref r0, .int ((((((x4 * 1103515245) + 12345)).toUInt32 >>> ((16 : Int32).toUInt32 &&& Int32.toUInt32 31)).toInt32) - (((((x4 * 1103515245) + 12345)).toUInt32 >>> ((16 : Int32).toUInt32 &&& Int32.toUInt32 31)).toInt32) / 4 * 4), .int x_19] h_19 (fun v21 h_21 => ∃ x_21 : Int32, v21 = some (.int x_21) ∧ w141_92 c d Post K32 r0 x2 (x3 + x_21) ((x4 * 1103515245) + 12345) x5 h_21))))))
theorem okb141_32 (c : gx) (d : Nat) (Post : Option Value → gm_H → Prop) (K32 : Nat → Int32 → Int32 → Int32 → Int32 → gm_H → Prop)  (hK32 : ∀ (r0 : Nat) (x2 : Int32) (x3 : Int32) (x4 : Int32) (x5 : Int32) (h : gm_H), K32 r0 x2 x3 x4 x5 h → gV c d 141 (32, [some (.ref r0), none, some (.int x2), some (.int x3), some (.int x4), some (.int x5), none, none], [], h) Post) (r0 : Nat) (x2 : Int32) (x3 : Int32) (x4 : Int32) (x5 : Int32) (h : gm_H) (w : wb141_32 c d Post K32 r0 x2 x3 x4 x5 h) : gV c d 141 (32, [some (.ref r0), none, some (.int x2), some (.int x3), some (.int x4), some (.int x5), none, none], [], h) Post := by
  have hk : ∀ pc i, gm_find gk_141 pc = some i → gm_code (gt_T c.1 c.2.1 c.2.2.1) 141 pc = some i := fun _ _ z => z
  unfold wb141_32 at w
  unfold gV
  refine gw_pst hk 2 (st' := (35, [some (.ref r0), none, some (.int x2), some (.int x3), some (.int x4), some (.int x5), none, none], [.int x2, .int x5], h)) rfl ?_
  refine gw_br (c := x2 ≤ x5) (a := (105, [some (.ref r0), none, some (.int x2), some (.int x3), some (.int x4), some (.int x5), none, none], [], h)) (b := (38, [some (.ref r0), none, some (.int x2), some (.int x3), some (.int x4), some (.int x5), none, none], [], h)) (hk _ _ rfl) rfl ⟨fun z1 => ?_, fun z1 => ?_⟩
  · replace w := w.1 z1
    refine gw_pst hk 1 (st' := (106, [some (.ref r0), none, some (.int x2), some (.int x3), some (.int x4), some (.int x5), none, none], [.ref r0], h)) rfl ?_
    obtain ⟨q_2, e2, w⟩ := w
    refine gw_gf (hk _ _ rfl) e2 ?_
    refine gw_pst hk 1 (st' := (110, [some (.ref r0), none, some (.int x2), some (.int x3), some (.int x4), some (.int x5), none, none], [.int 0, .ref q_2], h)) rfl ?_
    obtain ⟨fs3, e3, l3, w⟩ := w
    refine gw_pf (hk _ _ rfl) e3 l3 rfl ?_
    obtain ⟨h_3, eh3⟩ : ∃ z, z = gm_put h q_2 (.inr (5, fs3.set 1 (.int 0))) := ⟨_, rfl⟩
    rw [← eh3]
    replace w := w h_3 eh3
    refine gw_pst hk 1 (st' := (114, [some (.ref r0), none, some (.int x2), some (.int x3), some (.int x4), some (.int x5), none, none], [.ref r0], h_3)) rfl ?_
    obtain ⟨q_4, e4, w⟩ := w
    refine gw_gf (hk _ _ rfl) e4 ?_
    refine gw_pst hk 1 (st' := (118, [some (.ref r0), none, some (.int x2), some (.int x3), some (.int x4), some (.int x5), none, none], [.ref r0, .ref q_4], h_3)) rfl ?_
    obtain ⟨q_5, e5, w⟩ := w
    refine gw_gf (hk _ _ rfl) e5 ?_
    obtain ⟨x_6, e6, w⟩ := w
    refine gw_gf (hk _ _ rfl) e6 ?_
    refine gw_pst hk 1 (st' := (125, [some (.ref r0), none, some (.int x2), some (.int x3), some (.int x4), some (.int x5), none, none], [.long ((x_6 : Int32).toInt64), .ref q_4], h_3)) rfl ?_
    obtain ⟨⟨fs7, e7⟩, w⟩ := w
    refine gw_call (jj := 44) (As := [.ref q_4, .long ((x_6 : Int32).toInt64)]) (rest := []) (hk _ _ rfl) (fun _ => rfl) rfl rfl (Nat.le_of_ble_eq_true rfl) (gm_rcv_v rfl e7 rfl) ?_
    refine ge_imp w (fun v7 h_7 w => ?_)
    obtain ⟨rfl, w⟩ := w
    show gV c d 141 (128, [some (.ref r0), none, some (.int x2), some (.int x3), some (.int x4), some (.int x5), none, none], [], h_7) Post
    refine gw_pst hk 1 (st' := (129, [some (.ref r0), none, some (.int x2), some (.int x3), some (.int x4), some (.int x5), none, none], [.ref r0], h_7)) rfl ?_
    obtain ⟨q_8, e8, w⟩ := w
    refine gw_gf (hk _ _ rfl) e8 ?_
    refine gw_pst hk 1 (st' := (133, [some (.ref r0), none, some (.int x2), some (.int x3), some (.int x4), some (.int x5), none, none], [.ref r0, .ref q_8], h_7)) rfl ?_
    obtain ⟨q_9, e9, w⟩ := w
    refine gw_gf (hk _ _ rfl) e9 ?_
    obtain ⟨x_10, e10, w⟩ := w
    refine gw_gf (hk _ _ rfl) e10 ?_
    refine gw_pst hk 1 (st' := (140, [some (.ref r0), none, some (.int x2), some (.int x3), some (.int x4), some (.int x5), none, none], [.long ((x_10 : Int32).toInt64), .ref q_8], h_7)) rfl ?_
    obtain ⟨⟨fs11, e11⟩, w⟩ := w
    refine gw_call (jj := 44) (As := [.ref q_8, .long ((x_10 : Int32).toInt64)]) (rest := []) (hk _ _ rfl) (fun _ => rfl) rfl rfl (Nat.le_of_ble_eq_true rfl) (gm_rcv_v rfl e11 rfl) ?_
    refine ge_imp w (fun v11 h_11 w => ?_)
    obtain ⟨rfl, w⟩ := w
    show gV c d 141 (143, [some (.ref r0), none, some (.int x2), some (.int x3), some (.int x4), some (.int x5), none, none], [], h_11) Post
    refine gw_pst hk 1 (st' := (144, [some (.ref r0), none, some (.int x2), some (.int x3), some (.int x4), some (.int x5), none, none], [.ref r0], h_11)) rfl ?_
    obtain ⟨q_12, e12, w⟩ := w
    refine gw_gf (hk _ _ rfl) e12 ?_
    refine gw_pst hk 1 (st' := (148, [some (.ref r0), none, some (.int x2), some (.int x3), some (.int x4), some (.int x5), none, none], [.ref r0, .ref q_12], h_11)) rfl ?_
    obtain ⟨q_13, e13, w⟩ := w
    refine gw_gf (hk _ _ rfl) e13 ?_
    obtain ⟨x_14, e14, w⟩ := w
    refine gw_gf (hk _ _ rfl) e14 ?_
    refine gw_pst hk 1 (st' := (155, [some (.ref r0), none, some (.int x2), some (.int x3), some (.int x4), some (.int x5), none, none], [.long ((x_14 : Int32).toInt64), .ref q_12], h_11)) rfl ?_
    obtain ⟨⟨fs15, e15⟩, w⟩ := w
    refine gw_call (jj := 44) (As := [.ref q_12, .long ((x_14 : Int32).toInt64)]) (rest := []) (hk _ _ rfl) (fun _ => rfl) rfl rfl (Nat.le_of_ble_eq_true rfl) (gm_rcv_v rfl e15 rfl) ?_
    refine ge_imp w (fun v15 h_15 w => ?_)
    obtain ⟨rfl, w⟩ := w
    show gV c d 141 (158, [some (.ref r0), none, some (.int x2), some (.int x3), some (.int x4), some (.int x5), none, none], [], h_15) Post
    refine gw_pst hk 1 (st' := (159, [some (.ref r0), none, some (.int x2), some (.int x3), some (.int x4), some (.int x5), none, none], [.int x3], h_15)) rfl ?_
    exact gw_ret (hk _ _ rfl) rfl w
  · replace w := w.2 z1
    refine gw_pst hk 10 (st' := (56, [some (.ref r0), none, some (.int x2), some (.int x3), some (.int ((x4 * 1103515245) + 12345)), some (.int x5), none, none], [.int 4, .int (((((x4 * 1103515245) + 12345)).toUInt32 >>> ((16 : Int32).toUInt32 &&& Int32.toUInt32 31)).toInt32)], h)) rfl ?_
    refine gw_irem (hk _ _ rfl) (by decide) ?_ rfl
    refine gw_pst hk 2 (st' := (60, [some (.ref r0), none, some (.int x2), some (.int x3), some (.int ((x4 * 1103515245) + 12345)), some (.int x5), some (.int ((((((x4 * 1103515245) + 12345)).toUInt32 >>> ((16 : Int32).toUInt32 &&& Int32.toUInt32 31)).toInt32) - (((((x4 * 1103515245) + 12345)).toUInt32 >>> ((16 : Int32).toUInt32 &&& Int32.toUInt32 31)).toInt32) / 4 * 4)), none], [.ref r0], h)) rfl ?_
    obtain ⟨q_16, e16, w⟩ := w
    refine gw_gf (hk _ _ rfl) e16 ?_
    refine gw_pst hk 1 (st' := (64, [some (.ref r0), none, some (.int x2), some (.int x3), some (.int ((x4 * 1103515245) + 12345)), some (.int x5), some (.int ((((((x4 * 1103515245) + 12345)).toUInt32 >>> ((16 : Int32).toUInt32 &&& Int32.toUInt32 31)).toInt32) - (((((x4 * 1103515245) + 12345)).toUInt32 >>> ((16 : Int32).toUInt32 &&& Int32.toUInt32 31)).toInt32) / 4 * 4)), none], [.ref r0, .ref q_16], h)) rfl ?_
    obtain ⟨q_17, e17, w⟩ := w
    refine gw_gf (hk _ _ rfl) e17 ?_
    obtain ⟨x_18, e18, w⟩ := w
    refine gw_gf (hk _ _ rfl) e18 ?_
    obtain ⟨⟨fs19, e19⟩, w⟩ := w
    refine gw_call (jj := 51) (As := [.ref q_16, .int x_18]) (rest := []) (hk _ _ rfl) (fun _ => rfl) rfl rfl (Nat.le_of_ble_eq_true rfl) (gm_rcv_v rfl e19 rfl) ?_
    refine ge_imp w (fun v19 h_19 w => ?_)
    obtain ⟨x_19, rfl, w⟩ := w
    show gV c d 141 (73, [some (.ref r0), none, some (.int x2), some (.int x3), some (.int ((x4 * 1103515245) + 12345)), some (.int x5), some (.int ((((((x4 * 1103515245) + 12345)).toUInt32 >>> ((16 : Int32).toUInt32 &&& Int32.toUInt32 31)).toInt32) - (((((x4 * 1103515245) + 12345)).toUInt32 >>> ((16 : Int32).toUInt32 &&& Int32.toUInt32 31)).toInt32) / 4 * 4)), none], [.int x_19], h_19) Post
    refine gw_pst hk 3 (st' := (78, [some (.ref r0), none, some (.int x2), some (.int x3), some (.int ((x4 * 1103515245) + 12345)), some (.int x5), some (.int ((((((x4 * 1103515245) + 12345)).toUInt32 >>> ((16 : Int32).toUInt32 &&& Int32.toUInt32 31)).toInt32) - (((((x4 * 1103515245) + 12345)).toUInt32 >>> ((16 : Int32).toUInt32 &&& Int32.toUInt32 31)).toInt32) / 4 * 4)), some (.int x_19)], [.int (-1), .int x_19], h_19)) rfl ?_
    refine gw_br (c := x_19 = (-1)) (a := (92, [some (.ref r0), none, some (.int x2), some (.int x3), some (.int ((x4 * 1103515245) + 12345)), some (.int x5), some (.int ((((((x4 * 1103515245) + 12345)).toUInt32 >>> ((16 : Int32).toUInt32 &&& Int32.toUInt32 31)).toInt32) - (((((x4 * 1103515245) + 12345)).toUInt32 >>> ((16 : Int32).toUInt32 &&& Int32.toUInt32 31)).toInt32) / 4 * 4)), some (.int x_19)], [], h_19)) (b := (81, [some (.ref r0), none, some (.int x2), some (.int x3), some (.int ((x4 * 1103515245) + 12345)), some (.int x5), some (.int ((((((x4 * 1103515245) + 12345)).toUInt32 >>> ((16 : Int32).toUInt32 &&& Int32.toUInt32 31)).toInt32) - (((((x4 * 1103515245) + 12345)).toUInt32 >>> ((16 : Int32).toUInt32 &&& Int32.toUInt32 31)).toInt32) / 4 * 4)), some (.int x_19)], [], h_19)) (hk _ _ rfl) rfl ⟨fun z20 => ?_, fun z20 => ?_⟩
    · replace w := w.1 z20
      refine gw_le (L' := [some (.ref r0), none, some (.int x2), some (.int x3), some (.int ((x4 * 1103515245) + 12345)), some (.int x5), none, none]) (gm_le_k _ (gm_le_k _ (gm_le_k _ (gm_le_k _ (gm_le_k _ (gm_le_k _ (gm_le_n _ (gm_le_n _ gm_le_nil)))))))) ?_
      exact ok141_92 c d Post K32 hK32 _ _ _ _ _ _ w
    · replace w := w.2 z20
      refine gw_pst hk 4 (st' := (87, [some (.ref r0), none, some (.int x2), some (.int x3), some (.int ((x4 * 1103515245) + 12345)), some (.int x5), some (.int ((((((x4 * 1103515245) + 12345)).toUInt32 >>> ((16 : Int32).toUInt32 &&& Int32.toUInt32 31)).toInt32) - (((((x4 * 1103515245) + 12345)).toUInt32 >>> ((16 : Int32).toUInt32 &&& Int32.toUInt32 31)).toInt32) / 4 * 4)), some (.int x_19)], [.int x_19, .int ((((((x4 * 1103515245) + 12345)).toUInt32 >>> ((16 : Int32).toUInt32 &&& Int32.toUInt32 31)).toInt32) - (((((x4 * 1103515245) + 12345)).toUInt32 >>> ((16 : Int32).toUInt32 &&& Int32.toUInt32 31)).toInt32) / 4 * 4), .ref r0, .int x3], h_19)) rfl ?_
      obtain ⟨⟨fs21, e21⟩, w⟩ := w
      refine gw_call (jj := 142) (As := [.ref r0, .int ((((((x4 * 1103515245) + 12345)).toUInt32 >>> ((16 : Int32).toUInt32 &&& Int32.toUInt32 31)).toInt32) - (((((x4 * 1103515245) + 12345)).toUInt32 >>> ((16 : Int32).toUInt32 &&& Int32.toUInt32 31)).toInt32) / 4 * 4), .int x_19]) (rest := [.int x3]) (hk _ _ rfl) (fun _ => rfl) rfl rfl (Nat.le_of_ble_eq_true rfl) (gm_rcv_v rfl e21 rfl) ?_
      refine ge_imp w (fun v21 h_21 w => ?_)
      obtain ⟨x_21, rfl, w⟩ := w
      show gV c d 141 (90, [some (.ref r0), none, some (.int x2), some (.int x3), some (.int ((x4 * 1103515245) + 12345)), some (.int x5), some (.int ((((((x4 * 1103515245) + 12345)).toUInt32 >>> ((16 : Int32).toUInt32 &&& Int32.toUInt32 31)).toInt32) - (((((x4 * 1103515245) + 12345)).toUInt32 >>> ((16 : Int32).toUInt32 &&& Int32.toUInt32 31)).toInt32) / 4 * 4)), some (.int x_19)], [.int x_21, .int x3], h_21) Post
      refine gw_pst hk 2 (st' := (92, [some (.ref r0), none, some (.int x2), some (.int (x3 + x_21)), some (.int ((x4 * 1103515245) + 12345)), some (.int x5), some (.int ((((((x4 * 1103515245) + 12345)).toUInt32 >>> ((16 : Int32).toUInt32 &&& Int32.toUInt32 31)).toInt32) - (((((x4 * 1103515245) + 12345)).toUInt32 >>> ((16 : Int32).toUInt32 &&& Int32.toUInt32 31)).toInt32) / 4 * 4)), some (.int x_19)], [], h_21)) rfl ?_
      refine gw_le (L' := [some (.ref r0), none, some (.int x2), some (.int (x3 + x_21)), some (.int ((x4 * 1103515245) + 12345)), some (.int x5), none, none]) (gm_le_k _ (gm_le_k _ (gm_le_k _ (gm_le_k _ (gm_le_k _ (gm_le_k _ (gm_le_n _ (gm_le_n _ gm_le_nil)))))))) ?_
      exact ok141_92 c d Post K32 hK32 _ _ _ _ _ _ w
def wl141_32 (c : gx) (d : Nat) (Post : Option Value → gm_H → Prop) : Nat → Nat → Int32 → Int32 → Int32 → Int32 → gm_H → Prop
  | 0 => fun _ _ _ _ _ _ => False
  | n + 1 => wb141_32 c d Post (wl141_32 c d Post n)
theorem okl141_32 (c : gx) (d : Nat) (Post : Option Value → gm_H → Prop) : ∀ (n : Nat) (r0 : Nat) (x2 : Int32) (x3 : Int32) (x4 : Int32) (x5 : Int32) (h : gm_H), wl141_32 c d Post n r0 x2 x3 x4 x5 h → gV c d 141 (32, [some (.ref r0), none, some (.int x2), some (.int x3), some (.int x4), some (.int x5), none, none], [], h) Post
  | 0, _, _, _, _, _, _, w => w.elim
  | n + 1, r0, x2, x3, x4, x5, h, w => okb141_32 c d Post (wl141_32 c d Post n) (okl141_32 c d Post n) r0 x2 x3 x4 x5 h w
/-- CommandByTurns.years(II)I -/
def wm141 (c : gx) (d : Nat) (Post : Option Value → gm_H → Prop) (r0 : Nat) (x1 : Int32) (x2 : Int32) (h : gm_H) : Prop :=
  ((x2 < 1 → w141_11 c d Post h) ∧ (¬ (x2 < 1) → ((x2 ≤ 60 → ∃ q_3 : Nat, gm_fld h r0 9 7 = some (.ref q_3) ∧ ∃ q_4 : Nat, gm_fld h r0 9 5 = some (.ref q_4) ∧ (∃ fs5, gm_get h q_3 = some (.inr (6, fs5))) ∧ gE c d 48 [.ref q_3, .ref q_4] h (fun v5 h_5 => v5 = none ∧ ∃ n, wl141_32 c d Post n r0 x2 0 x1 0 h_5)) ∧ (¬ (x2 ≤ 60) → w141_11 c d Post h))))
theorem okm141 (c : gx) (d : Nat) (Post : Option Value → gm_H → Prop) (r0 : Nat) (x1 : Int32) (x2 : Int32) (h : gm_H) (w : wm141 c d Post r0 x1 x2 h) : gE c (d + 1) 141 [.ref r0, .int x1, .int x2] h Post := by
  have hk : ∀ pc i, gm_find gk_141 pc = some i → gm_code (gt_T c.1 c.2.1 c.2.2.1) 141 pc = some i := fun _ _ z => z
  unfold wm141 at w
  refine ge_of (by decide) (Nat.le_of_ble_eq_true rfl) ?_
  show gV c d 141 (0, [some (.ref r0), some (.int x1), some (.int x2), none, none, none, none, none], [], h) Post
  unfold gV
  refine gw_pst hk 2 (st' := (2, [some (.ref r0), some (.int x1), some (.int x2), none, none, none, none, none], [.int 1, .int x2], h)) rfl ?_
  refine gw_br (c := x2 < 1) (a := (11, [some (.ref r0), some (.int x1), some (.int x2), none, none, none, none, none], [], h)) (b := (5, [some (.ref r0), some (.int x1), some (.int x2), none, none, none, none, none], [], h)) (hk _ _ rfl) rfl ⟨fun z1 => ?_, fun z1 => ?_⟩
  · replace w := w.1 z1
    refine gw_le (L' := [none, none, none, none, none, none, none, none]) (gm_le_n _ (gm_le_n _ (gm_le_n _ (gm_le_k _ (gm_le_k _ (gm_le_k _ (gm_le_k _ (gm_le_k _ gm_le_nil)))))))) ?_
    exact ok141_11 c d Post _ w
  · replace w := w.2 z1
    refine gw_pst hk 2 (st' := (8, [some (.ref r0), some (.int x1), some (.int x2), none, none, none, none, none], [.int 60, .int x2], h)) rfl ?_
    refine gw_br (c := x2 ≤ 60) (a := (13, [some (.ref r0), some (.int x1), some (.int x2), none, none, none, none, none], [], h)) (b := (11, [some (.ref r0), some (.int x1), some (.int x2), none, none, none, none, none], [], h)) (hk _ _ rfl) rfl ⟨fun z2 => ?_, fun z2 => ?_⟩
    · replace w := w.1 z2
      refine gw_pst hk 1 (st' := (14, [some (.ref r0), some (.int x1), some (.int x2), none, none, none, none, none], [.ref r0], h)) rfl ?_
      obtain ⟨q_3, e3, w⟩ := w
      refine gw_gf (hk _ _ rfl) e3 ?_
      refine gw_pst hk 1 (st' := (18, [some (.ref r0), some (.int x1), some (.int x2), none, none, none, none, none], [.ref r0, .ref q_3], h)) rfl ?_
      obtain ⟨q_4, e4, w⟩ := w
      refine gw_gf (hk _ _ rfl) e4 ?_
      obtain ⟨⟨fs5, e5⟩, w⟩ := w
      refine gw_call (jj := 48) (As := [.ref q_3, .ref q_4]) (rest := []) (hk _ _ rfl) (fun _ => rfl) rfl rfl (Nat.le_of_ble_eq_true rfl) (gm_rcv_v rfl e5 rfl) ?_
      refine ge_imp w (fun v5 h_5 w => ?_)
      obtain ⟨rfl, w⟩ := w
      show gV c d 141 (24, [some (.ref r0), some (.int x1), some (.int x2), none, none, none, none, none], [], h_5) Post
      refine gw_pst hk 6 (st' := (32, [some (.ref r0), some (.int x1), some (.int x2), some (.int 0), some (.int x1), some (.int 0), none, none], [], h_5)) rfl ?_
      refine gw_le (L' := [some (.ref r0), none, some (.int x2), some (.int 0), some (.int x1), some (.int 0), none, none]) (gm_le_k _ (gm_le_n _ (gm_le_k _ (gm_le_k _ (gm_le_k _ (gm_le_k _ (gm_le_k _ (gm_le_k _ gm_le_nil)))))))) ?_
      obtain ⟨n, w⟩ := w
      exact okl141_32 c d Post n _ _ _ _ _ _ w
    · replace w := w.2 z2
      refine gw_le (L' := [none, none, none, none, none, none, none, none]) (gm_le_n _ (gm_le_n _ (gm_le_n _ (gm_le_k _ (gm_le_k _ (gm_le_k _ (gm_le_k _ (gm_le_k _ gm_le_nil)))))))) ?_
      exact ok141_11 c d Post _ w
def w142_204 (c : gx) (d : Nat) (Post : Option Value → gm_H → Prop)  (h : gm_H) : Prop :=
  Post (some (.int 0)) h
theorem ok142_204 (c : gx) (d : Nat) (Post : Option Value → gm_H → Prop)   (h : gm_H) (w : w142_204 c d Post  h) : gV c d 142 (204, [none, none, none, none, none], [], h) Post := by
  have hk : ∀ pc i, gm_find gk_142 pc = some i → gm_code (gt_T c.1 c.2.1 c.2.2.1) 142 pc = some i := fun _ _ z => z
  unfold w142_204 at w
  unfold gV
  refine gw_pst hk 1 (st' := (205, [none, none, none, none, none], [.int 0], h)) rfl ?_
  exact gw_ret (hk _ _ rfl) rfl w
def w142_124 (c : gx) (d : Nat) (Post : Option Value → gm_H → Prop)  (h : gm_H) : Prop :=
  w142_204 c d Post h
theorem ok142_124 (c : gx) (d : Nat) (Post : Option Value → gm_H → Prop)   (h : gm_H) (w : w142_124 c d Post  h) : gV c d 142 (124, [none, none, none, none, none], [], h) Post := by
  have hk : ∀ pc i, gm_find gk_142 pc = some i → gm_code (gt_T c.1 c.2.1 c.2.2.1) 142 pc = some i := fun _ _ z => z
  unfold w142_124 at w
  unfold gV
  refine gw_pst hk 1 (st' := (204, [none, none, none, none, none], [], h)) rfl ?_
  exact ok142_204 c d Post _ w
def w142_88 (c : gx) (d : Nat) (Post : Option Value → gm_H → Prop) (r0 : Nat) (xs0 : Int32) (h : gm_H) : Prop :=
  ∃ q_1 : Nat, gm_fld h r0 9 1 = some (.ref q_1) ∧ ∃ q_2 : Nat, gm_fld h r0 9 7 = some (.ref q_2) ∧ ∃ x_3 : Int32, gm_fld h q_2 6 1 = some (.int x_3) ∧ (∃ fs4, gm_get h q_1 = some (.inr (1, fs4))) ∧ gE c d 14 [.ref q_1, .int (x_3 + xs0)] h (fun v4 h_4 => ∃ x_4 : Int32, v4 = some (.int x_4) ∧ ((x_4 = 0 → w142_124 c d Post h_4) ∧ (¬ (x_4 = 0) → ∃ q_6 : Nat, gm_fld h_4 r0 9 7 = some (.ref q_6) ∧ ∃ x_7 : Int32, gm_fld h_4 q_6 6 1 = some (.int x_7) ∧ ∃ fs8 : List Value, gm_get h_4 q_6 = some (.inr (6, fs8)) ∧ 1 < fs8.length ∧ ∀ h_8 : gm_H, h_8 = gm_put h_4 q_6 (.inr (6, fs8.set 1 (.int (x_7 + xs0)))) → w142_124 c d Post h_8)))
theorem ok142_88 (c : gx) (d : Nat) (Post : Option Value → gm_H → Prop)  (r0 : Nat) (xs0 : Int32) (h : gm_H) (w : w142_88 c d Post r0 xs0 h) : gV c d 142 (88, [some (.ref r0), none, none, none, none], [.int xs0], h) Post := by
  have hk : ∀ pc i, gm_find gk_142 pc = some i → gm_code (gt_T c.1 c.2.1 c.2.2.1) 142 pc = some i := fun _ _ z => z
  unfold w142_88 at w
  unfold gV
  refine gw_pst hk 2 (st' := (91, [some (.ref r0), none, none, none, some (.int xs0)], [.ref r0], h)) rfl ?_
  obtain ⟨q_1, e1, w⟩ := w
  refine gw_gf (hk _ _ rfl) e1 ?_
  refine gw_pst hk 1 (st' := (95, [some (.ref r0), none, none, none, some (.int xs0)], [.ref r0, .ref q_1], h)) rfl ?_
  obtain ⟨q_2, e2, w⟩ := w
  refine gw_gf (hk _ _ rfl) e2 ?_
  obtain ⟨x_3, e3, w⟩ := w
  refine gw_gf (hk _ _ rfl) e3 ?_
  refine gw_pst hk 2 (st' := (104, [some (.ref r0), none, none, none, some (.int xs0)], [.int (x_3 + xs0), .ref q_1], h)) rfl ?_
  obtain ⟨⟨fs4, e4⟩, w⟩ := w
  refine gw_call (jj := 14) (As := [.ref q_1, .int (x_3 + xs0)]) (rest := []) (hk _ _ rfl) (fun _ => rfl) rfl rfl (Nat.le_of_ble_eq_true rfl) (gm_rcv_v rfl e4 rfl) ?_
  refine ge_imp w (fun v4 h_4 w => ?_)
  obtain ⟨x_4, rfl, w⟩ := w
  show gV c d 142 (107, [some (.ref r0), none, none, none, some (.int xs0)], [.int x_4], h_4) Post
  refine gw_br (c := x_4 = 0) (a := (124, [some (.ref r0), none, none, none, some (.int xs0)], [], h_4)) (b := (110, [some (.ref r0), none, none, none, some (.int xs0)], [], h_4)) (hk _ _ rfl) rfl ⟨fun z5 => ?_, fun z5 => ?_⟩
  · replace w := w.1 z5
    refine gw_le (L' := [none, none, none, none, none]) (gm_le_n _ (gm_le_k _ (gm_le_k _ (gm_le_k _ (gm_le_n _ gm_le_nil))))) ?_
    exact ok142_124 c d Post _ w
  · replace w := w.2 z5
    refine gw_pst hk 1 (st' := (111, [some (.ref r0), none, none, none, some (.int xs0)], [.ref r0], h_4)) rfl ?_
    obtain ⟨q_6, e6, w⟩ := w
    refine gw_gf (hk _ _ rfl) e6 ?_
    refine gw_pst hk 1 (st' := (115, [some (.ref r0), none, none, none, some (.int xs0)], [.ref q_6, .ref q_6], h_4)) rfl ?_
    obtain ⟨x_7, e7, w⟩ := w
    refine gw_gf (hk _ _ rfl) e7 ?_
    refine gw_pst hk 2 (st' := (121, [some (.ref r0), none, none, none, some (.int xs0)], [.int (x_7 + xs0), .ref q_6], h_4)) rfl ?_
    obtain ⟨fs8, e8, l8, w⟩ := w
    refine gw_pf (hk _ _ rfl) e8 l8 rfl ?_
    obtain ⟨h_8, eh8⟩ : ∃ z, z = gm_put h_4 q_6 (.inr (6, fs8.set 1 (.int (x_7 + xs0)))) := ⟨_, rfl⟩
    rw [← eh8]
    replace w := w h_8 eh8
    refine gw_le (L' := [none, none, none, none, none]) (gm_le_n _ (gm_le_k _ (gm_le_k _ (gm_le_k _ (gm_le_n _ gm_le_nil))))) ?_
    exact ok142_124 c d Post _ w
def w142_60 (c : gx) (d : Nat) (Post : Option Value → gm_H → Prop) (r0 : Nat) (x1 : Int32) (x2 : Int32) (x3 : Int32) (h : gm_H) : Prop :=
  ((x1 = 1 → ∃ q_2 : Nat, gm_fld h r0 9 7 = some (.ref q_2) ∧ ∃ x_3 : Int32, gm_fld h q_2 6 1 = some (.int x_3) ∧ ∃ q_4 : Nat, gm_fld h r0 9 7 = some (.ref q_4) ∧ ∃ x_5 : Int32, gm_fld h q_4 6 2 = some (.int x_5) ∧ ((x_3 = x_5 → w142_88 c d Post r0 (-1) h) ∧ (¬ (x_3 = x_5) → w142_88 c d Post r0 (-x3) h))) ∧ (¬ (x1 = 1) → ((x1 = 2 → ∃ q_8 : Nat, gm_fld h r0 9 7 = some (.ref q_8) ∧ ∃ x_9 : Int32, gm_fld h q_8 6 1 = some (.int x_9) ∧ ∃ q_10 : Nat, gm_fld h r0 9 7 = some (.ref q_10) ∧ ∃ x_11 : Int32, gm_fld h q_10 6 2 = some (.int x_11) ∧ gE c d 16 [.int x_9, .int x_11] h (fun v12 h_12 => ∃ x_12 : Int32, v12 = some (.int x_12) ∧ ((x_12 = 0 → w142_204 c d Post h_12) ∧ (¬ (x_12 = 0) → ∃ q_14 : Nat, gm_fld h_12 r0 9 7 = some (.ref q_14) ∧ ∃ x_15 : Int32, gm_fld h_12 q_14 6 3 = some (.int x_15) ∧ ((x_15 ≤ 0 → w142_204 c d Post h_12) ∧ (¬ (x_15 ≤ 0) → ∃ q_17 : Nat, gm_fld h_12 r0 9 7 = some (.ref q_17) ∧ ∃ x_18 : Int32, gm_fld h_12 q_17 6 4 = some (.int x_18) ∧ ((x_18 ≤ 0 → w142_204 c d Post h_12) ∧ (¬ (x_18 ≤ 0) → ∃ q_20 : Nat, gm_fld h_12 r0 9 7 = some (.ref q_20) ∧ ∃ q_21 : Nat, gm_fld h_12 r0 9 7 = some (.ref q_21) ∧ ∃ q_22 : Nat, gm_fld h_12 r0 9 7 = some (.ref q_22) ∧ ∃ x_23 : Int32, gm_fld h_12 q_22 6 1 = some (.int x_23) ∧ ∃ q_24 : Nat, gm_fld h_12 r0 9 7 = some (.ref q_24) ∧ ∃ x_25 : Int32, gm_fld h_12 q_24 6 0 = some (.int x_25) ∧ (∃ fs26, gm_get h_12 r0 = some (.inr (9, fs26))) ∧ gE c d 150 [.ref r0, .ref q_21, .int x_23, .int x2, .int x_25] h_12 (fun v26 h_26 => ∃ x_26 : Int32, v26 = some (.int x_26) ∧ (∃ fs27, gm_get h_26 q_20 = some (.inr (6, fs27))) ∧ gE c d 56 [.ref q_20, .int x_26] h_26 (fun v27 h_27 => v27 = none ∧ Post (some (.int 1)) h_27)))))))))) ∧ (¬ (x1 = 2) → w142_204 c d Post h))))
theorem ok142_60 (c : gx) (d : Nat) (Post : Option Value → gm_H → Prop)  (r0 : Nat) (x1 : Int32) (x2 : Int32) (x3 : Int32) (h : gm_H) (w : w142_60 c d Post r0 x1 x2 x3 h) : gV c d 142 (60, [some (.ref r0), some (.int x1), some (.int x2), some (.int x3), none], [], h) Post := by
  have hk : ∀ pc i, gm_find gk_142 pc = some i → gm_code (gt_T c.1 c.2.1 c.2.2.1) 142 pc = some i := fun _ _ z => z
  unfold w142_60 at w
  unfold gV
  refine gw_pst hk 2 (st' := (62, [some (.ref r0), some (.int x1), some (.int x2), some (.int x3), none], [.int 1, .int x1], h)) rfl ?_
  refine gw_br (c := x1 = 1) (a := (65, [some (.ref r0), some (.int x1), some (.int x2), some (.int x3), none], [], h)) (b := (127, [some (.ref r0), some (.int x1), some (.int x2), some (.int x3), none], [], h)) (hk _ _ rfl) rfl ⟨fun z1 => ?_, fun z1 => ?_⟩
  · replace w := w.1 z1
    refine gw_pst hk 1 (st' := (66, [some (.ref r0), some (.int x1), some (.int x2), some (.int x3), none], [.ref r0], h)) rfl ?_
    obtain ⟨q_2, e2, w⟩ := w
    refine gw_gf (hk _ _ rfl) e2 ?_
    obtain ⟨x_3, e3, w⟩ := w
    refine gw_gf (hk _ _ rfl) e3 ?_
    refine gw_pst hk 1 (st' := (73, [some (.ref r0), some (.int x1), some (.int x2), some (.int x3), none], [.ref r0, .int x_3], h)) rfl ?_
    obtain ⟨q_4, e4, w⟩ := w
    refine gw_gf (hk _ _ rfl) e4 ?_
    obtain ⟨x_5, e5, w⟩ := w
    refine gw_gf (hk _ _ rfl) e5 ?_
    refine gw_br (c := x_3 = x_5) (a := (82, [some (.ref r0), some (.int x1), some (.int x2), some (.int x3), none], [], h)) (b := (86, [some (.ref r0), some (.int x1), some (.int x2), some (.int x3), none], [], h)) (hk _ _ rfl) rfl ⟨fun z6 => ?_, fun z6 => ?_⟩
    · replace w := w.1 z6
      refine gw_pst hk 2 (st' := (88, [some (.ref r0), some (.int x1), some (.int x2), some (.int x3), none], [.int (-1)], h)) rfl ?_
      refine gw_le (L' := [some (.ref r0), none, none, none, none]) (gm_le_k _ (gm_le_n _ (gm_le_n _ (gm_le_n _ (gm_le_k _ gm_le_nil))))) ?_
      exact ok142_88 c d Post _ _ _ w
    · replace w := w.2 z6
      refine gw_pst hk 2 (st' := (88, [some (.ref r0), some (.int x1), some (.int x2), some (.int x3), none], [.int (-x3)], h)) rfl ?_
      refine gw_le (L' := [some (.ref r0), none, none, none, none]) (gm_le_k _ (gm_le_n _ (gm_le_n _ (gm_le_n _ (gm_le_k _ gm_le_nil))))) ?_
      exact ok142_88 c d Post _ _ _ w
  · replace w := w.2 z1
    refine gw_pst hk 2 (st' := (129, [some (.ref r0), some (.int x1), some (.int x2), some (.int x3), none], [.int 2, .int x1], h)) rfl ?_
    refine gw_br (c := x1 = 2) (a := (132, [some (.ref r0), some (.int x1), some (.int x2), some (.int x3), none], [], h)) (b := (204, [some (.ref r0), some (.int x1), some (.int x2), some (.int x3), none], [], h)) (hk _ _ rfl) rfl ⟨fun z7 => ?_, fun z7 => ?_⟩
    · replace w := w.1 z7
      refine gw_pst hk 1 (st' := (133, [some (.ref r0), some (.int x1), some (.int x2), some (.int x3), none], [.ref r0], h)) rfl ?_
      obtain ⟨q_8, e8, w⟩ := w
      refine gw_gf (hk _ _ rfl) e8 ?_
      obtain ⟨x_9, e9, w⟩ := w
      refine gw_gf (hk _ _ rfl) e9 ?_
      refine gw_pst hk 1 (st' := (140, [some (.ref r0), some (.int x1), some (.int x2), some (.int x3), none], [.ref r0, .int x_9], h)) rfl ?_
      obtain ⟨q_10, e10, w⟩ := w
      refine gw_gf (hk _ _ rfl) e10 ?_
      obtain ⟨x_11, e11, w⟩ := w
      refine gw_gf (hk _ _ rfl) e11 ?_
      refine gw_call (jj := 16) (As := [.int x_9, .int x_11]) (rest := []) (hk _ _ rfl) (fun _ => rfl) rfl rfl (Nat.le_of_ble_eq_true rfl) rfl ?_
      refine ge_imp w (fun v12 h_12 w => ?_)
      obtain ⟨x_12, rfl, w⟩ := w
      show gV c d 142 (149, [some (.ref r0), some (.int x1), some (.int x2), some (.int x3), none], [.int x_12], h_12) Post
      refine gw_br (c := x_12 = 0) (a := (204, [some (.ref r0), some (.int x1), some (.int x2), some (.int x3), none], [], h_12)) (b := (152, [some (.ref r0), some (.int x1), some (.int x2), some (.int x3), none], [], h_12)) (hk _ _ rfl) rfl ⟨fun z13 => ?_, fun z13 => ?_⟩
      · replace w := w.1 z13
        refine gw_le (L' := [none, none, none, none, none]) (gm_le_n _ (gm_le_n _ (gm_le_n _ (gm_le_n _ (gm_le_k _ gm_le_nil))))) ?_
        exact ok142_204 c d Post _ w
      · replace w := w.2 z13
        refine gw_pst hk 1 (st' := (153, [some (.ref r0), some (.int x1), some (.int x2), some (.int x3), none], [.ref r0], h_12)) rfl ?_
        obtain ⟨q_14, e14, w⟩ := w
        refine gw_gf (hk _ _ rfl) e14 ?_
        obtain ⟨x_15, e15, w⟩ := w
        refine gw_gf (hk _ _ rfl) e15 ?_
        refine gw_br (c := x_15 ≤ 0) (a := (204, [some (.ref r0), some (.int x1), some (.int x2), some (.int x3), none], [], h_12)) (b := (162, [some (.ref r0), some (.int x1), some (.int x2), some (.int x3), none], [], h_12)) (hk _ _ rfl) rfl ⟨fun z16 => ?_, fun z16 => ?_⟩
        · replace w := w.1 z16
          refine gw_le (L' := [none, none, none, none, none]) (gm_le_n _ (gm_le_n _ (gm_le_n _ (gm_le_n _ (gm_le_k _ gm_le_nil))))) ?_
          exact ok142_204 c d Post _ w
        · replace w := w.2 z16
          refine gw_pst hk 1 (st' := (163, [some (.ref r0), some (.int x1), some (.int x2), some (.int x3), none], [.ref r0], h_12)) rfl ?_
          obtain ⟨q_17, e17, w⟩ := w
          refine gw_gf (hk _ _ rfl) e17 ?_
          obtain ⟨x_18, e18, w⟩ := w
          refine gw_gf (hk _ _ rfl) e18 ?_
          refine gw_br (c := x_18 ≤ 0) (a := (204, [some (.ref r0), some (.int x1), some (.int x2), some (.int x3), none], [], h_12)) (b := (172, [some (.ref r0), some (.int x1), some (.int x2), some (.int x3), none], [], h_12)) (hk _ _ rfl) rfl ⟨fun z19 => ?_, fun z19 => ?_⟩
          · replace w := w.1 z19
            refine gw_le (L' := [none, none, none, none, none]) (gm_le_n _ (gm_le_n _ (gm_le_n _ (gm_le_n _ (gm_le_k _ gm_le_nil))))) ?_
            exact ok142_204 c d Post _ w
          · replace w := w.2 z19
            refine gw_pst hk 1 (st' := (173, [some (.ref r0), some (.int x1), some (.int x2), some (.int x3), none], [.ref r0], h_12)) rfl ?_
            obtain ⟨q_20, e20, w⟩ := w
            refine gw_gf (hk _ _ rfl) e20 ?_
            refine gw_pst hk 2 (st' := (178, [some (.ref r0), some (.int x1), some (.int x2), some (.int x3), none], [.ref r0, .ref r0, .ref q_20], h_12)) rfl ?_
            obtain ⟨q_21, e21, w⟩ := w
            refine gw_gf (hk _ _ rfl) e21 ?_
            refine gw_pst hk 1 (st' := (182, [some (.ref r0), some (.int x1), some (.int x2), some (.int x3), none], [.ref r0, .ref q_21, .ref r0, .ref q_20], h_12)) rfl ?_
            obtain ⟨q_22, e22, w⟩ := w
            refine gw_gf (hk _ _ rfl) e22 ?_
            obtain ⟨x_23, e23, w⟩ := w
            refine gw_gf (hk _ _ rfl) e23 ?_
            refine gw_pst hk 2 (st' := (190, [some (.ref r0), some (.int x1), some (.int x2), some (.int x3), none], [.ref r0, .int x2, .int x_23, .ref q_21, .ref r0, .ref q_20], h_12)) rfl ?_
            obtain ⟨q_24, e24, w⟩ := w
            refine gw_gf (hk _ _ rfl) e24 ?_
            obtain ⟨x_25, e25, w⟩ := w
            refine gw_gf (hk _ _ rfl) e25 ?_
            obtain ⟨⟨fs26, e26⟩, w⟩ := w
            refine gw_call (jj := 150) (As := [.ref r0, .ref q_21, .int x_23, .int x2, .int x_25]) (rest := [.ref q_20]) (hk _ _ rfl) (fun _ => rfl) rfl rfl (Nat.le_of_ble_eq_true rfl) (gm_rcv_v rfl e26 rfl) ?_
            refine ge_imp w (fun v26 h_26 w => ?_)
            obtain ⟨x_26, rfl, w⟩ := w
            show gV c d 142 (199, [some (.ref r0), some (.int x1), some (.int x2), some (.int x3), none], [.int x_26, .ref q_20], h_26) Post
            obtain ⟨⟨fs27, e27⟩, w⟩ := w
            refine gw_call (jj := 56) (As := [.ref q_20, .int x_26]) (rest := []) (hk _ _ rfl) (fun _ => rfl) rfl rfl (Nat.le_of_ble_eq_true rfl) (gm_rcv_v rfl e27 rfl) ?_
            refine ge_imp w (fun v27 h_27 w => ?_)
            obtain ⟨rfl, w⟩ := w
            show gV c d 142 (202, [some (.ref r0), some (.int x1), some (.int x2), some (.int x3), none], [], h_27) Post
            refine gw_pst hk 1 (st' := (203, [some (.ref r0), some (.int x1), some (.int x2), some (.int x3), none], [.int 1], h_27)) rfl ?_
            exact gw_ret (hk _ _ rfl) rfl w
    · replace w := w.2 z7
      refine gw_le (L' := [none, none, none, none, none]) (gm_le_n _ (gm_le_n _ (gm_le_n _ (gm_le_n _ (gm_le_k _ gm_le_nil))))) ?_
      exact ok142_204 c d Post _ w
def w142_22 (c : gx) (d : Nat) (Post : Option Value → gm_H → Prop) (r0 : Nat) (x1 : Int32) (x2 : Int32) (xs0 : Int32) (h : gm_H) : Prop :=
  ((x1 = 0 → ∃ q_2 : Nat, gm_fld h r0 9 7 = some (.ref q_2) ∧ ∃ x_3 : Int32, gm_fld h q_2 6 1 = some (.int x_3) ∧ ∃ q_4 : Nat, gm_fld h r0 9 7 = some (.ref q_4) ∧ ∃ x_5 : Int32, gm_fld h q_4 6 2 = some (.int x_5) ∧ ((x_3 = x_5 → w142_60 c d Post r0 x1 x2 xs0 h) ∧ (¬ (x_3 = x_5) → ∃ q_7 : Nat, gm_fld h r0 9 7 = some (.ref q_7) ∧ ∃ x_8 : Int32, gm_fld h q_7 6 1 = some (.int x_8) ∧ ∃ fs9 : List Value, gm_get h q_7 = some (.inr (6, fs9)) ∧ 1 < fs9.length ∧ ∀ h_9 : gm_H, h_9 = gm_put h q_7 (.inr (6, fs9.set 1 (.int (x_8 + xs0)))) → w142_204 c d Post h_9))) ∧ (¬ (x1 = 0) → w142_60 c d Post r0 x1 x2 xs0 h))
theorem ok142_22 (c : gx) (d : Nat) (Post : Option Value → gm_H → Prop)  (r0 : Nat) (x1 : Int32) (x2 : Int32) (xs0 : Int32) (h : gm_H) (w : w142_22 c d Post r0 x1 x2 xs0 h) : gV c d 142 (22, [some (.ref r0), some (.int x1), some (.int x2), none, none], [.int xs0], h) Post := by
  have hk : ∀ pc i, gm_find gk_142 pc = some i → gm_code (gt_T c.1 c.2.1 c.2.2.1) 142 pc = some i := fun _ _ z => z
  unfold w142_22 at w
  unfold gV
  refine gw_pst hk 2 (st' := (24, [some (.ref r0), some (.int x1), some (.int x2), some (.int xs0), none], [.int x1], h)) rfl ?_
  refine gw_br (c := x1 = 0) (a := (27, [some (.ref r0), some (.int x1), some (.int x2), some (.int xs0), none], [], h)) (b := (60, [some (.ref r0), some (.int x1), some (.int x2), some (.int xs0), none], [], h)) (hk _ _ rfl) rfl ⟨fun z1 => ?_, fun z1 => ?_⟩
  · replace w := w.1 z1
    refine gw_pst hk 1 (st' := (28, [some (.ref r0), some (.int x1), some (.int x2), some (.int xs0), none], [.ref r0], h)) rfl ?_
    obtain ⟨q_2, e2, w⟩ := w
    refine gw_gf (hk _ _ rfl) e2 ?_
    obtain ⟨x_3, e3, w⟩ := w
    refine gw_gf (hk _ _ rfl) e3 ?_
    refine gw_pst hk 1 (st' := (35, [some (.ref r0), some (.int x1), some (.int x2), some (.int xs0), none], [.ref r0, .int x_3], h)) rfl ?_
    obtain ⟨q_4, e4, w⟩ := w
    refine gw_gf (hk _ _ rfl) e4 ?_
    obtain ⟨x_5, e5, w⟩ := w
    refine gw_gf (hk _ _ rfl) e5 ?_
    refine gw_br (c := x_3 = x_5) (a := (60, [some (.ref r0), some (.int x1), some (.int x2), some (.int xs0), none], [], h)) (b := (44, [some (.ref r0), some (.int x1), some (.int x2), some (.int xs0), none], [], h)) (hk _ _ rfl) rfl ⟨fun z6 => ?_, fun z6 => ?_⟩
    · replace w := w.1 z6
      exact ok142_60 c d Post _ _ _ _ _ w
    · replace w := w.2 z6
      refine gw_pst hk 1 (st' := (45, [some (.ref r0), some (.int x1), some (.int x2), some (.int xs0), none], [.ref r0], h)) rfl ?_
      obtain ⟨q_7, e7, w⟩ := w
      refine gw_gf (hk _ _ rfl) e7 ?_
      refine gw_pst hk 1 (st' := (49, [some (.ref r0), some (.int x1), some (.int x2), some (.int xs0), none], [.ref q_7, .ref q_7], h)) rfl ?_
      obtain ⟨x_8, e8, w⟩ := w
      refine gw_gf (hk _ _ rfl) e8 ?_
      refine gw_pst hk 2 (st' := (54, [some (.ref r0), some (.int x1), some (.int x2), some (.int xs0), none], [.int (x_8 + xs0), .ref q_7], h)) rfl ?_
      obtain ⟨fs9, e9, l9, w⟩ := w
      refine gw_pf (hk _ _ rfl) e9 l9 rfl ?_
      obtain ⟨h_9, eh9⟩ : ∃ z, z = gm_put h q_7 (.inr (6, fs9.set 1 (.int (x_8 + xs0)))) := ⟨_, rfl⟩
      rw [← eh9]
      replace w := w h_9 eh9
      refine gw_pst hk 1 (st' := (204, [some (.ref r0), some (.int x1), some (.int x2), some (.int xs0), none], [], h_9)) rfl ?_
      refine gw_le (L' := [none, none, none, none, none]) (gm_le_n _ (gm_le_n _ (gm_le_n _ (gm_le_n _ (gm_le_k _ gm_le_nil))))) ?_
      exact ok142_204 c d Post _ w
  · replace w := w.2 z1
    exact ok142_60 c d Post _ _ _ _ _ w
/-- CommandByTurns.liveDay(II)I -/
def wm142 (c : gx) (d : Nat) (Post : Option Value → gm_H → Prop) (r0 : Nat) (x1 : Int32) (x2 : Int32) (h : gm_H) : Prop :=
  ∃ q_1 : Nat, gm_fld h r0 9 7 = some (.ref q_1) ∧ ∃ x_2 : Int32, gm_fld h q_1 6 2 = some (.int x_2) ∧ ∃ q_3 : Nat, gm_fld h r0 9 7 = some (.ref q_3) ∧ ∃ x_4 : Int32, gm_fld h q_3 6 1 = some (.int x_4) ∧ ((x_2 ≤ x_4 → w142_22 c d Post r0 x1 x2 (-1) h) ∧ (¬ (x_2 ≤ x_4) → w142_22 c d Post r0 x1 x2 1 h))
theorem okm142 (c : gx) (d : Nat) (Post : Option Value → gm_H → Prop) (r0 : Nat) (x1 : Int32) (x2 : Int32) (h : gm_H) (w : wm142 c d Post r0 x1 x2 h) : gE c (d + 1) 142 [.ref r0, .int x1, .int x2] h Post := by
  have hk : ∀ pc i, gm_find gk_142 pc = some i → gm_code (gt_T c.1 c.2.1 c.2.2.1) 142 pc = some i := fun _ _ z => z
  unfold wm142 at w
  refine ge_of (by decide) (Nat.le_of_ble_eq_true rfl) ?_
  show gV c d 142 (0, [some (.ref r0), some (.int x1), some (.int x2), none, none], [], h) Post
  unfold gV
  refine gw_pst hk 1 (st' := (1, [some (.ref r0), some (.int x1), some (.int x2), none, none], [.ref r0], h)) rfl ?_
  obtain ⟨q_1, e1, w⟩ := w
  refine gw_gf (hk _ _ rfl) e1 ?_
  obtain ⟨x_2, e2, w⟩ := w
  refine gw_gf (hk _ _ rfl) e2 ?_
  refine gw_pst hk 1 (st' := (8, [some (.ref r0), some (.int x1), some (.int x2), none, none], [.ref r0, .int x_2], h)) rfl ?_
  obtain ⟨q_3, e3, w⟩ := w
  refine gw_gf (hk _ _ rfl) e3 ?_
  obtain ⟨x_4, e4, w⟩ := w
  refine gw_gf (hk _ _ rfl) e4 ?_
  refine gw_br (c := x_2 ≤ x_4) (a := (21, [some (.ref r0), some (.int x1), some (.int x2), none, none], [], h)) (b := (17, [some (.ref r0), some (.int x1), some (.int x2), none, none], [], h)) (hk _ _ rfl) rfl ⟨fun z5 => ?_, fun z5 => ?_⟩
  · replace w := w.1 z5
    refine gw_pst hk 1 (st' := (22, [some (.ref r0), some (.int x1), some (.int x2), none, none], [.int (-1)], h)) rfl ?_
    exact ok142_22 c d Post _ _ _ _ _ w
  · replace w := w.2 z5
    refine gw_pst hk 2 (st' := (22, [some (.ref r0), some (.int x1), some (.int x2), none, none], [.int 1], h)) rfl ?_
    exact ok142_22 c d Post _ _ _ _ _ w
def w143_13 (c : gx) (d : Nat) (Post : Option Value → gm_H → Prop)  (h : gm_H) : Prop :=
  Post (some (.int 0)) h
theorem ok143_13 (c : gx) (d : Nat) (Post : Option Value → gm_H → Prop)   (h : gm_H) (w : w143_13 c d Post  h) : gV c d 143 (13, [none, none], [], h) Post := by
  have hk : ∀ pc i, gm_find gk_143 pc = some i → gm_code (gt_T c.1 c.2.1 c.2.2.1) 143 pc = some i := fun _ _ z => z
  unfold w143_13 at w
  unfold gV
  refine gw_pst hk 1 (st' := (14, [none, none], [.int 0], h)) rfl ?_
  exact gw_ret (hk _ _ rfl) rfl w
/-- CommandByTurns.keep(I)Z -/
def wm143 (c : gx) (d : Nat) (Post : Option Value → gm_H → Prop) (r0 : Nat) (x1 : Int32) (h : gm_H) : Prop :=
  ((x1 < 0 → w143_13 c d Post h) ∧ (¬ (x1 < 0) → ∃ q_2 : Nat, gm_fld h r0 9 9 = some (.ref q_2) ∧ ∃ (n3 : Nat) (f3 : Nat → Option Nat), gm_get h q_2 = some (.inl (5, n3, .inr (.inr (.inr (.inr f3))))) ∧ ((x1 < (Int32.ofNat n3) → ∃ q_5 : Nat, gm_fld h r0 9 9 = some (.ref q_5) ∧ ∃ (n6 : Nat) (f6 : Nat → Option Nat) (q_6 : Nat), gm_get h q_5 = some (.inl (5, n6, .inr (.inr (.inr (.inr f6))))) ∧ vp_in x1 n6 ∧ f6 (x1 : Int32).toNatClampNeg = some q_6 ∧ ∃ q_7 : Nat, gm_fld h r0 9 5 = some (.ref q_7) ∧ (∃ fs8, gm_get h q_6 = some (.inr (6, fs8))) ∧ gE c d 48 [.ref q_6, .ref q_7] h (fun v8 h_8 => v8 = none ∧ ∃ x_9 : Int32, gm_fld h_8 r0 9 10 = some (.int x_9) ∧ ∃ fs10 : List Value, gm_get h_8 r0 = some (.inr (9, fs10)) ∧ 10 < fs10.length ∧ ∀ h_10 : gm_H, h_10 = gm_put h_8 r0 (.inr (9, fs10.set 10 (.int (x_9 ||| (1 <<< (x1 &&& 31)))))) → Post (some (.int 1)) h_10)) ∧ (¬ (x1 < (Int32.ofNat n3)) → w143_13 c d Post h))))
theorem okm143 (c : gx) (d : Nat) (Post : Option Value → gm_H → Prop) (r0 : Nat) (x1 : Int32) (h : gm_H) (w : wm143 c d Post r0 x1 h) : gE c (d + 1) 143 [.ref r0, .int x1] h Post := by
  have hk : ∀ pc i, gm_find gk_143 pc = some i → gm_code (gt_T c.1 c.2.1 c.2.2.1) 143 pc = some i := fun _ _ z => z
  unfold wm143 at w
  refine ge_of (by decide) (Nat.le_of_ble_eq_true rfl) ?_
  show gV c d 143 (0, [some (.ref r0), some (.int x1)], [], h) Post
  unfold gV
  refine gw_pst hk 1 (st' := (1, [some (.ref r0), some (.int x1)], [.int x1], h)) rfl ?_
  refine gw_br (c := x1 < 0) (a := (13, [some (.ref r0), some (.int x1)], [], h)) (b := (4, [some (.ref r0), some (.int x1)], [], h)) (hk _ _ rfl) rfl ⟨fun z1 => ?_, fun z1 => ?_⟩
  · replace w := w.1 z1
    refine gw_le (L' := [none, none]) (gm_le_n _ (gm_le_n _ gm_le_nil)) ?_
    exact ok143_13 c d Post _ w
  · replace w := w.2 z1
    refine gw_pst hk 2 (st' := (6, [some (.ref r0), some (.int x1)], [.ref r0, .int x1], h)) rfl ?_
    obtain ⟨q_2, e2, w⟩ := w
    refine gw_gf (hk _ _ rfl) e2 ?_
    obtain ⟨n3, f3, e3, w⟩ := w
    refine gw_alen (hk _ _ rfl) e3 (by decide) ?_
    refine gw_br (c := x1 < (Int32.ofNat n3)) (a := (15, [some (.ref r0), some (.int x1)], [], h)) (b := (13, [some (.ref r0), some (.int x1)], [], h)) (hk _ _ rfl) rfl ⟨fun z4 => ?_, fun z4 => ?_⟩
    · replace w := w.1 z4
      refine gw_pst hk 1 (st' := (16, [some (.ref r0), some (.int x1)], [.ref r0], h)) rfl ?_
      obtain ⟨q_5, e5, w⟩ := w
      refine gw_gf (hk _ _ rfl) e5 ?_
      refine gw_pst hk 1 (st' := (20, [some (.ref r0), some (.int x1)], [.int x1, .ref q_5], h)) rfl ?_
      obtain ⟨n6, f6, q_6, e6, b6, g6, w⟩ := w
      refine gw_aald (hk _ _ rfl) e6 b6 g6 ?_
      refine gw_pst hk 1 (st' := (22, [some (.ref r0), some (.int x1)], [.ref r0, .ref q_6], h)) rfl ?_
      obtain ⟨q_7, e7, w⟩ := w
      refine gw_gf (hk _ _ rfl) e7 ?_
      obtain ⟨⟨fs8, e8⟩, w⟩ := w
      refine gw_call (jj := 48) (As := [.ref q_6, .ref q_7]) (rest := []) (hk _ _ rfl) (fun _ => rfl) rfl rfl (Nat.le_of_ble_eq_true rfl) (gm_rcv_v rfl e8 rfl) ?_
      refine ge_imp w (fun v8 h_8 w => ?_)
      obtain ⟨rfl, w⟩ := w
      show gV c d 143 (28, [some (.ref r0), some (.int x1)], [], h_8) Post
      refine gw_pst hk 2 (st' := (30, [some (.ref r0), some (.int x1)], [.ref r0, .ref r0], h_8)) rfl ?_
      obtain ⟨x_9, e9, w⟩ := w
      refine gw_gf (hk _ _ rfl) e9 ?_
      refine gw_pst hk 4 (st' := (37, [some (.ref r0), some (.int x1)], [.int (x_9 ||| (1 <<< (x1 &&& 31))), .ref r0], h_8)) rfl ?_
      obtain ⟨fs10, e10, l10, w⟩ := w
      refine gw_pf (hk _ _ rfl) e10 l10 rfl ?_
      obtain ⟨h_10, eh10⟩ : ∃ z, z = gm_put h_8 r0 (.inr (9, fs10.set 10 (.int (x_9 ||| (1 <<< (x1 &&& 31)))))) := ⟨_, rfl⟩
      rw [← eh10]
      replace w := w h_10 eh10
      refine gw_pst hk 1 (st' := (41, [some (.ref r0), some (.int x1)], [.int 1], h_10)) rfl ?_
      exact gw_ret (hk _ _ rfl) rfl w
    · replace w := w.2 z4
      refine gw_le (L' := [none, none]) (gm_le_n _ (gm_le_n _ gm_le_nil)) ?_
      exact ok143_13 c d Post _ w
def w144_24 (c : gx) (d : Nat) (Post : Option Value → gm_H → Prop)  (h : gm_H) : Prop :=
  Post (some (.int 0)) h
theorem ok144_24 (c : gx) (d : Nat) (Post : Option Value → gm_H → Prop)   (h : gm_H) (w : w144_24 c d Post  h) : gV c d 144 (24, [none, none], [], h) Post := by
  have hk : ∀ pc i, gm_find gk_144 pc = some i → gm_code (gt_T c.1 c.2.1 c.2.2.1) 144 pc = some i := fun _ _ z => z
  unfold w144_24 at w
  unfold gV
  refine gw_pst hk 1 (st' := (25, [none, none], [.int 0], h)) rfl ?_
  exact gw_ret (hk _ _ rfl) rfl w
/-- CommandByTurns.again(I)Z -/
def wm144 (c : gx) (d : Nat) (Post : Option Value → gm_H → Prop) (r0 : Nat) (x1 : Int32) (h : gm_H) : Prop :=
  ((x1 < 0 → w144_24 c d Post h) ∧ (¬ (x1 < 0) → ∃ q_2 : Nat, gm_fld h r0 9 9 = some (.ref q_2) ∧ ∃ (n3 : Nat) (f3 : Nat → Option Nat), gm_get h q_2 = some (.inl (5, n3, .inr (.inr (.inr (.inr f3))))) ∧ (((Int32.ofNat n3) ≤ x1 → w144_24 c d Post h) ∧ (¬ ((Int32.ofNat n3) ≤ x1) → ∃ x_5 : Int32, gm_fld h r0 9 10 = some (.int x_5) ∧ (((x_5 &&& (1 <<< (x1 &&& 31))) = 0 → w144_24 c d Post h) ∧ (¬ ((x_5 &&& (1 <<< (x1 &&& 31))) = 0) → ∃ q_7 : Nat, gm_fld h r0 9 5 = some (.ref q_7) ∧ ∃ q_8 : Nat, gm_fld h r0 9 9 = some (.ref q_8) ∧ ∃ (n9 : Nat) (f9 : Nat → Option Nat) (q_9 : Nat), gm_get h q_8 = some (.inl (5, n9, .inr (.inr (.inr (.inr f9))))) ∧ vp_in x1 n9 ∧ f9 (x1 : Int32).toNatClampNeg = some q_9 ∧ (∃ fs10, gm_get h q_7 = some (.inr (6, fs10))) ∧ gE c d 48 [.ref q_7, .ref q_9] h (fun v10 h_10 => v10 = none ∧ ∃ q_11 : Nat, gm_fld h_10 r0 9 8 = some (.ref q_11) ∧ ∃ fs12 : List Value, gm_get h_10 q_11 = some (.inr (4, fs12)) ∧ 2 < fs12.length ∧ ∀ h_12 : gm_H, h_12 = gm_put h_10 q_11 (.inr (4, fs12.set 2 (.int 0))) → Post (some (.int 1)) h_12)))))))
theorem okm144 (c : gx) (d : Nat) (Post : Option Value → gm_H → Prop) (r0 : Nat) (x1 : Int32) (h : gm_H) (w : wm144 c d Post r0 x1 h) : gE c (d + 1) 144 [.ref r0, .int x1] h Post := by
  have hk : ∀ pc i, gm_find gk_144 pc = some i → gm_code (gt_T c.1 c.2.1 c.2.2.1) 144 pc = some i := fun _ _ z => z
  unfold wm144 at w
  refine ge_of (by decide) (Nat.le_of_ble_eq_true rfl) ?_
  show gV c d 144 (0, [some (.ref r0), some (.int x1)], [], h) Post
  unfold gV
  refine gw_pst hk 1 (st' := (1, [some (.ref r0), some (.int x1)], [.int x1], h)) rfl ?_
  refine gw_br (c := x1 < 0) (a := (24, [some (.ref r0), some (.int x1)], [], h)) (b := (4, [some (.ref r0), some (.int x1)], [], h)) (hk _ _ rfl) rfl ⟨fun z1 => ?_, fun z1 => ?_⟩
  · replace w := w.1 z1
    refine gw_le (L' := [none, none]) (gm_le_n _ (gm_le_n _ gm_le_nil)) ?_
    exact ok144_24 c d Post _ w
  · replace w := w.2 z1
    refine gw_pst hk 2 (st' := (6, [some (.ref r0), some (.int x1)], [.ref r0, .int x1], h)) rfl ?_
    obtain ⟨q_2, e2, w⟩ := w
    refine gw_gf (hk _ _ rfl) e2 ?_
    obtain ⟨n3, f3, e3, w⟩ := w
    refine gw_alen (hk _ _ rfl) e3 (by decide) ?_
    refine gw_br (c := (Int32.ofNat n3) ≤ x1) (a := (24, [some (.ref r0), some (.int x1)], [], h)) (b := (13, [some (.ref r0), some (.int x1)], [], h)) (hk _ _ rfl) rfl ⟨fun z4 => ?_, fun z4 => ?_⟩
    · replace w := w.1 z4
      refine gw_le (L' := [none, none]) (gm_le_n _ (gm_le_n _ gm_le_nil)) ?_
      exact ok144_24 c d Post _ w
    · replace w := w.2 z4
      refine gw_pst hk 1 (st' := (14, [some (.ref r0), some (.int x1)], [.ref r0], h)) rfl ?_
      obtain ⟨x_5, e5, w⟩ := w
      refine gw_gf (hk _ _ rfl) e5 ?_
      refine gw_pst hk 4 (st' := (21, [some (.ref r0), some (.int x1)], [.int (x_5 &&& (1 <<< (x1 &&& 31)))], h)) rfl ?_
      refine gw_br (c := (x_5 &&& (1 <<< (x1 &&& 31))) = 0) (a := (24, [some (.ref r0), some (.int x1)], [], h)) (b := (26, [some (.ref r0), some (.int x1)], [], h)) (hk _ _ rfl) rfl ⟨fun z6 => ?_, fun z6 => ?_⟩
      · replace w := w.1 z6
        refine gw_le (L' := [none, none]) (gm_le_n _ (gm_le_n _ gm_le_nil)) ?_
        exact ok144_24 c d Post _ w
      · replace w := w.2 z6
        refine gw_pst hk 1 (st' := (27, [some (.ref r0), some (.int x1)], [.ref r0], h)) rfl ?_
        obtain ⟨q_7, e7, w⟩ := w
        refine gw_gf (hk _ _ rfl) e7 ?_
        refine gw_pst hk 1 (st' := (31, [some (.ref r0), some (.int x1)], [.ref r0, .ref q_7], h)) rfl ?_
        obtain ⟨q_8, e8, w⟩ := w
        refine gw_gf (hk _ _ rfl) e8 ?_
        refine gw_pst hk 1 (st' := (35, [some (.ref r0), some (.int x1)], [.int x1, .ref q_8, .ref q_7], h)) rfl ?_
        obtain ⟨n9, f9, q_9, e9, b9, g9, w⟩ := w
        refine gw_aald (hk _ _ rfl) e9 b9 g9 ?_
        obtain ⟨⟨fs10, e10⟩, w⟩ := w
        refine gw_call (jj := 48) (As := [.ref q_7, .ref q_9]) (rest := []) (hk _ _ rfl) (fun _ => rfl) rfl rfl (Nat.le_of_ble_eq_true rfl) (gm_rcv_v rfl e10 rfl) ?_
        refine ge_imp w (fun v10 h_10 w => ?_)
        obtain ⟨rfl, w⟩ := w
        show gV c d 144 (39, [some (.ref r0), some (.int x1)], [], h_10) Post
        refine gw_pst hk 1 (st' := (40, [some (.ref r0), some (.int x1)], [.ref r0], h_10)) rfl ?_
        obtain ⟨q_11, e11, w⟩ := w
        refine gw_gf (hk _ _ rfl) e11 ?_
        refine gw_pst hk 1 (st' := (44, [some (.ref r0), some (.int x1)], [.int 0, .ref q_11], h_10)) rfl ?_
        obtain ⟨fs12, e12, l12, w⟩ := w
        refine gw_pf (hk _ _ rfl) e12 l12 rfl ?_
        obtain ⟨h_12, eh12⟩ : ∃ z, z = gm_put h_10 q_11 (.inr (4, fs12.set 2 (.int 0))) := ⟨_, rfl⟩
        rw [← eh12]
        replace w := w h_12 eh12
        refine gw_pst hk 1 (st' := (48, [some (.ref r0), some (.int x1)], [.int 1], h_12)) rfl ?_
        exact gw_ret (hk _ _ rfl) rfl w
def w145_164 (c : gx) (d : Nat) (Post : Option Value → gm_H → Prop) (xs0 : Int32) (h : gm_H) : Prop :=
  Post (some (.int xs0)) h
theorem ok145_164 (c : gx) (d : Nat) (Post : Option Value → gm_H → Prop)  (xs0 : Int32) (h : gm_H) (w : w145_164 c d Post xs0 h) : gV c d 145 (164, [none, none], [.int xs0], h) Post := by
  have hk : ∀ pc i, gm_find gk_145 pc = some i → gm_code (gt_T c.1 c.2.1 c.2.2.1) 145 pc = some i := fun _ _ z => z
  unfold w145_164 at w
  unfold gV
  exact gw_ret (hk _ _ rfl) rfl w
/-- CommandByTurns.count(I)I -/
def wm145 (c : gx) (d : Nat) (Post : Option Value → gm_H → Prop) (r0 : Nat) (x1 : Int32) (h : gm_H) : Prop :=
  ((x1 = 0 → ∃ q_2 : Nat, gm_fld h r0 9 1 = some (.ref q_2) ∧ ∃ x_3 : Int32, gm_fld h q_2 1 2 = some (.int x_3) ∧ Post (some (.int x_3)) h) ∧ (x1 = 1 → ∃ q_4 : Nat, gm_fld h r0 9 5 = some (.ref q_4) ∧ ∃ x_5 : Int32, gm_fld h q_4 6 0 = some (.int x_5) ∧ Post (some (.int x_5)) h) ∧ (x1 = 2 → ∃ q_6 : Nat, gm_fld h r0 9 5 = some (.ref q_6) ∧ ∃ x_7 : Int32, gm_fld h q_6 6 1 = some (.int x_7) ∧ Post (some (.int x_7)) h) ∧ (x1 = 3 → ∃ q_8 : Nat, gm_fld h r0 9 5 = some (.ref q_8) ∧ ∃ x_9 : Int32, gm_fld h q_8 6 2 = some (.int x_9) ∧ Post (some (.int x_9)) h) ∧ (x1 = 4 → ∃ q_10 : Nat, gm_fld h r0 9 5 = some (.ref q_10) ∧ ∃ x_11 : Int32, gm_fld h q_10 6 3 = some (.int x_11) ∧ Post (some (.int x_11)) h) ∧ (x1 = 5 → ∃ q_12 : Nat, gm_fld h r0 9 5 = some (.ref q_12) ∧ ∃ x_13 : Int32, gm_fld h q_12 6 4 = some (.int x_13) ∧ Post (some (.int x_13)) h) ∧ (x1 = 6 → ∃ q_14 : Nat, gm_fld h r0 9 5 = some (.ref q_14) ∧ ∃ x_15 : Int32, gm_fld h q_14 6 5 = some (.int x_15) ∧ Post (some (.int x_15)) h) ∧ (x1 = 7 → ∃ q_16 : Nat, gm_fld h r0 9 5 = some (.ref q_16) ∧ ∃ q_17 : Nat, gm_fld h r0 9 5 = some (.ref q_17) ∧ ∃ x_18 : Int32, gm_fld h q_17 6 0 = some (.int x_18) ∧ (∃ fs19, gm_get h q_16 = some (.inr (6, fs19))) ∧ gE c d 54 [.ref q_16, .int x_18] h (fun v19 h_19 => ∃ x_19 : Int32, v19 = some (.int x_19) ∧ Post (some (.int x_19)) h_19)) ∧ (x1 = 8 → ∃ q_20 : Nat, gm_fld h r0 9 5 = some (.ref q_20) ∧ ∃ x_21 : Int32, gm_fld h q_20 6 1 = some (.int x_21) ∧ ∃ q_22 : Nat, gm_fld h r0 9 5 = some (.ref q_22) ∧ ∃ x_23 : Int32, gm_fld h q_22 6 2 = some (.int x_23) ∧ gE c d 16 [.int x_21, .int x_23] h (fun v24 h_24 => ∃ x_24 : Int32, v24 = some (.int x_24) ∧ ((x_24 = 0 → w145_164 c d Post 0 h_24) ∧ (¬ (x_24 = 0) → w145_164 c d Post 1 h_24)))) ∧ (x1 = 9 → ∃ q_26 : Nat, gm_fld h r0 9 13 = some (.ref q_26) ∧ ∃ x_27 : Int32, gm_fld h q_26 3 1 = some (.int x_27) ∧ Post (some (.int x_27)) h) ∧ (x1 = 10 → ∃ q_28 : Nat, gm_fld h r0 9 8 = some (.ref q_28) ∧ ∃ x_29 : Int32, gm_fld h q_28 4 2 = some (.int x_29) ∧ Post (some (.int x_29)) h) ∧ (x1 = 11 → ∃ q_30 : Nat, gm_fld h r0 9 11 = some (.ref q_30) ∧ ∃ x_31 : Int32, gm_fld h q_30 5 1 = some (.int x_31) ∧ Post (some (.int x_31)) h) ∧ (x1 = 12 → ∃ q_32 : Nat, gm_fld h r0 9 0 = some (.ref q_32) ∧ ∃ x_33 : Int32, gm_fld h q_32 7 1 = some (.int x_33) ∧ Post (some (.int x_33)) h) ∧ ((x1 : Int32).toInt < 0 ∨ 12 < (x1 : Int32).toInt → Post (some (.int (-1))) h))
theorem okm145 (c : gx) (d : Nat) (Post : Option Value → gm_H → Prop) (r0 : Nat) (x1 : Int32) (h : gm_H) (w : wm145 c d Post r0 x1 h) : gE c (d + 1) 145 [.ref r0, .int x1] h Post := by
  have hk : ∀ pc i, gm_find gk_145 pc = some i → gm_code (gt_T c.1 c.2.1 c.2.2.1) 145 pc = some i := fun _ _ z => z
  unfold wm145 at w
  refine ge_of (by decide) (Nat.le_of_ble_eq_true rfl) ?_
  show gV c d 145 (0, [some (.ref r0), some (.int x1)], [], h) Post
  unfold gV
  refine gw_pst hk 1 (st' := (1, [some (.ref r0), some (.int x1)], [.int x1], h)) rfl ?_
  by_cases z1_0 : x1 = 0
  · replace w := w.1 z1_0
    refine gw_swk (st' := (68, [some (.ref r0), some (.int x1)], [], h)) (hk _ _ rfl) z1_0 rfl ?_
    refine gw_pst hk 1 (st' := (69, [some (.ref r0), some (.int x1)], [.ref r0], h)) rfl ?_
    obtain ⟨q_2, e2, w⟩ := w
    refine gw_gf (hk _ _ rfl) e2 ?_
    obtain ⟨x_3, e3, w⟩ := w
    refine gw_gf (hk _ _ rfl) e3 ?_
    exact gw_ret (hk _ _ rfl) rfl w
  by_cases z1_1 : x1 = 1
  · replace w := w.2.1 z1_1
    refine gw_swk (st' := (76, [some (.ref r0), some (.int x1)], [], h)) (hk _ _ rfl) z1_1 rfl ?_
    refine gw_pst hk 1 (st' := (77, [some (.ref r0), some (.int x1)], [.ref r0], h)) rfl ?_
    obtain ⟨q_4, e4, w⟩ := w
    refine gw_gf (hk _ _ rfl) e4 ?_
    obtain ⟨x_5, e5, w⟩ := w
    refine gw_gf (hk _ _ rfl) e5 ?_
    exact gw_ret (hk _ _ rfl) rfl w
  by_cases z1_2 : x1 = 2
  · replace w := w.2.2.1 z1_2
    refine gw_swk (st' := (84, [some (.ref r0), some (.int x1)], [], h)) (hk _ _ rfl) z1_2 rfl ?_
    refine gw_pst hk 1 (st' := (85, [some (.ref r0), some (.int x1)], [.ref r0], h)) rfl ?_
    obtain ⟨q_6, e6, w⟩ := w
    refine gw_gf (hk _ _ rfl) e6 ?_
    obtain ⟨x_7, e7, w⟩ := w
    refine gw_gf (hk _ _ rfl) e7 ?_
    exact gw_ret (hk _ _ rfl) rfl w
  by_cases z1_3 : x1 = 3
  · replace w := w.2.2.2.1 z1_3
    refine gw_swk (st' := (92, [some (.ref r0), some (.int x1)], [], h)) (hk _ _ rfl) z1_3 rfl ?_
    refine gw_pst hk 1 (st' := (93, [some (.ref r0), some (.int x1)], [.ref r0], h)) rfl ?_
    obtain ⟨q_8, e8, w⟩ := w
    refine gw_gf (hk _ _ rfl) e8 ?_
    obtain ⟨x_9, e9, w⟩ := w
    refine gw_gf (hk _ _ rfl) e9 ?_
    exact gw_ret (hk _ _ rfl) rfl w
  by_cases z1_4 : x1 = 4
  · replace w := w.2.2.2.2.1 z1_4
    refine gw_swk (st' := (100, [some (.ref r0), some (.int x1)], [], h)) (hk _ _ rfl) z1_4 rfl ?_
    refine gw_pst hk 1 (st' := (101, [some (.ref r0), some (.int x1)], [.ref r0], h)) rfl ?_
    obtain ⟨q_10, e10, w⟩ := w
    refine gw_gf (hk _ _ rfl) e10 ?_
    obtain ⟨x_11, e11, w⟩ := w
    refine gw_gf (hk _ _ rfl) e11 ?_
    exact gw_ret (hk _ _ rfl) rfl w
  by_cases z1_5 : x1 = 5
  · replace w := w.2.2.2.2.2.1 z1_5
    refine gw_swk (st' := (108, [some (.ref r0), some (.int x1)], [], h)) (hk _ _ rfl) z1_5 rfl ?_
    refine gw_pst hk 1 (st' := (109, [some (.ref r0), some (.int x1)], [.ref r0], h)) rfl ?_
    obtain ⟨q_12, e12, w⟩ := w
    refine gw_gf (hk _ _ rfl) e12 ?_
    obtain ⟨x_13, e13, w⟩ := w
    refine gw_gf (hk _ _ rfl) e13 ?_
    exact gw_ret (hk _ _ rfl) rfl w
  by_cases z1_6 : x1 = 6
  · replace w := w.2.2.2.2.2.2.1 z1_6
    refine gw_swk (st' := (116, [some (.ref r0), some (.int x1)], [], h)) (hk _ _ rfl) z1_6 rfl ?_
    refine gw_pst hk 1 (st' := (117, [some (.ref r0), some (.int x1)], [.ref r0], h)) rfl ?_
    obtain ⟨q_14, e14, w⟩ := w
    refine gw_gf (hk _ _ rfl) e14 ?_
    obtain ⟨x_15, e15, w⟩ := w
    refine gw_gf (hk _ _ rfl) e15 ?_
    exact gw_ret (hk _ _ rfl) rfl w
  by_cases z1_7 : x1 = 7
  · replace w := w.2.2.2.2.2.2.2.1 z1_7
    refine gw_swk (st' := (124, [some (.ref r0), some (.int x1)], [], h)) (hk _ _ rfl) z1_7 rfl ?_
    refine gw_pst hk 1 (st' := (125, [some (.ref r0), some (.int x1)], [.ref r0], h)) rfl ?_
    obtain ⟨q_16, e16, w⟩ := w
    refine gw_gf (hk _ _ rfl) e16 ?_
    refine gw_pst hk 1 (st' := (129, [some (.ref r0), some (.int x1)], [.ref r0, .ref q_16], h)) rfl ?_
    obtain ⟨q_17, e17, w⟩ := w
    refine gw_gf (hk _ _ rfl) e17 ?_
    obtain ⟨x_18, e18, w⟩ := w
    refine gw_gf (hk _ _ rfl) e18 ?_
    obtain ⟨⟨fs19, e19⟩, w⟩ := w
    refine gw_call (jj := 54) (As := [.ref q_16, .int x_18]) (rest := []) (hk _ _ rfl) (fun _ => rfl) rfl rfl (Nat.le_of_ble_eq_true rfl) (gm_rcv_v rfl e19 rfl) ?_
    refine ge_imp w (fun v19 h_19 w => ?_)
    obtain ⟨x_19, rfl, w⟩ := w
    show gV c d 145 (138, [some (.ref r0), some (.int x1)], [.int x_19], h_19) Post
    exact gw_ret (hk _ _ rfl) rfl w
  by_cases z1_8 : x1 = 8
  · replace w := w.2.2.2.2.2.2.2.2.1 z1_8
    refine gw_swk (st' := (139, [some (.ref r0), some (.int x1)], [], h)) (hk _ _ rfl) z1_8 rfl ?_
    refine gw_pst hk 1 (st' := (140, [some (.ref r0), some (.int x1)], [.ref r0], h)) rfl ?_
    obtain ⟨q_20, e20, w⟩ := w
    refine gw_gf (hk _ _ rfl) e20 ?_
    obtain ⟨x_21, e21, w⟩ := w
    refine gw_gf (hk _ _ rfl) e21 ?_
    refine gw_pst hk 1 (st' := (147, [some (.ref r0), some (.int x1)], [.ref r0, .int x_21], h)) rfl ?_
    obtain ⟨q_22, e22, w⟩ := w
    refine gw_gf (hk _ _ rfl) e22 ?_
    obtain ⟨x_23, e23, w⟩ := w
    refine gw_gf (hk _ _ rfl) e23 ?_
    refine gw_call (jj := 16) (As := [.int x_21, .int x_23]) (rest := []) (hk _ _ rfl) (fun _ => rfl) rfl rfl (Nat.le_of_ble_eq_true rfl) rfl ?_
    refine ge_imp w (fun v24 h_24 w => ?_)
    obtain ⟨x_24, rfl, w⟩ := w
    show gV c d 145 (156, [some (.ref r0), some (.int x1)], [.int x_24], h_24) Post
    refine gw_br (c := x_24 = 0) (a := (163, [some (.ref r0), some (.int x1)], [], h_24)) (b := (159, [some (.ref r0), some (.int x1)], [], h_24)) (hk _ _ rfl) rfl ⟨fun z25 => ?_, fun z25 => ?_⟩
    · replace w := w.1 z25
      refine gw_pst hk 1 (st' := (164, [some (.ref r0), some (.int x1)], [.int 0], h_24)) rfl ?_
      refine gw_le (L' := [none, none]) (gm_le_n _ (gm_le_n _ gm_le_nil)) ?_
      exact ok145_164 c d Post _ _ w
    · replace w := w.2 z25
      refine gw_pst hk 2 (st' := (164, [some (.ref r0), some (.int x1)], [.int 1], h_24)) rfl ?_
      refine gw_le (L' := [none, none]) (gm_le_n _ (gm_le_n _ gm_le_nil)) ?_
      exact ok145_164 c d Post _ _ w
  by_cases z1_9 : x1 = 9
  · replace w := w.2.2.2.2.2.2.2.2.2.1 z1_9
    refine gw_swk (st' := (165, [some (.ref r0), some (.int x1)], [], h)) (hk _ _ rfl) z1_9 rfl ?_
    refine gw_pst hk 1 (st' := (166, [some (.ref r0), some (.int x1)], [.ref r0], h)) rfl ?_
    obtain ⟨q_26, e26, w⟩ := w
    refine gw_gf (hk _ _ rfl) e26 ?_
    obtain ⟨x_27, e27, w⟩ := w
    refine gw_gf (hk _ _ rfl) e27 ?_
    exact gw_ret (hk _ _ rfl) rfl w
  by_cases z1_10 : x1 = 10
  · replace w := w.2.2.2.2.2.2.2.2.2.2.1 z1_10
    refine gw_swk (st' := (173, [some (.ref r0), some (.int x1)], [], h)) (hk _ _ rfl) z1_10 rfl ?_
    refine gw_pst hk 1 (st' := (174, [some (.ref r0), some (.int x1)], [.ref r0], h)) rfl ?_
    obtain ⟨q_28, e28, w⟩ := w
    refine gw_gf (hk _ _ rfl) e28 ?_
    obtain ⟨x_29, e29, w⟩ := w
    refine gw_gf (hk _ _ rfl) e29 ?_
    exact gw_ret (hk _ _ rfl) rfl w
  by_cases z1_11 : x1 = 11
  · replace w := w.2.2.2.2.2.2.2.2.2.2.2.1 z1_11
    refine gw_swk (st' := (181, [some (.ref r0), some (.int x1)], [], h)) (hk _ _ rfl) z1_11 rfl ?_
    refine gw_pst hk 1 (st' := (182, [some (.ref r0), some (.int x1)], [.ref r0], h)) rfl ?_
    obtain ⟨q_30, e30, w⟩ := w
    refine gw_gf (hk _ _ rfl) e30 ?_
    obtain ⟨x_31, e31, w⟩ := w
    refine gw_gf (hk _ _ rfl) e31 ?_
    exact gw_ret (hk _ _ rfl) rfl w
  by_cases z1_12 : x1 = 12
  · replace w := w.2.2.2.2.2.2.2.2.2.2.2.2.1 z1_12
    refine gw_swk (st' := (189, [some (.ref r0), some (.int x1)], [], h)) (hk _ _ rfl) z1_12 rfl ?_
    refine gw_pst hk 1 (st' := (190, [some (.ref r0), some (.int x1)], [.ref r0], h)) rfl ?_
    obtain ⟨q_32, e32, w⟩ := w
    refine gw_gf (hk _ _ rfl) e32 ?_
    obtain ⟨x_33, e33, w⟩ := w
    refine gw_gf (hk _ _ rfl) e33 ?_
    exact gw_ret (hk _ _ rfl) rfl w
  have zd1 : (x1 : Int32).toInt < 0 ∨ 12 < (x1 : Int32).toInt := by
    have y0 : (x1 : Int32).toInt ≠ 0 := fun z => z1_0 (Int32.toInt_inj.mp z)
    have y1 : (x1 : Int32).toInt ≠ 1 := fun z => z1_1 (Int32.toInt_inj.mp z)
    have y2 : (x1 : Int32).toInt ≠ 2 := fun z => z1_2 (Int32.toInt_inj.mp z)
    have y3 : (x1 : Int32).toInt ≠ 3 := fun z => z1_3 (Int32.toInt_inj.mp z)
    have y4 : (x1 : Int32).toInt ≠ 4 := fun z => z1_4 (Int32.toInt_inj.mp z)
    have y5 : (x1 : Int32).toInt ≠ 5 := fun z => z1_5 (Int32.toInt_inj.mp z)
    have y6 : (x1 : Int32).toInt ≠ 6 := fun z => z1_6 (Int32.toInt_inj.mp z)
    have y7 : (x1 : Int32).toInt ≠ 7 := fun z => z1_7 (Int32.toInt_inj.mp z)
    have y8 : (x1 : Int32).toInt ≠ 8 := fun z => z1_8 (Int32.toInt_inj.mp z)
    have y9 : (x1 : Int32).toInt ≠ 9 := fun z => z1_9 (Int32.toInt_inj.mp z)
    have y10 : (x1 : Int32).toInt ≠ 10 := fun z => z1_10 (Int32.toInt_inj.mp z)
    have y11 : (x1 : Int32).toInt ≠ 11 := fun z => z1_11 (Int32.toInt_inj.mp z)
    have y12 : (x1 : Int32).toInt ≠ 12 := fun z => z1_12 (Int32.toInt_inj.mp z)
    omega
  replace w := w.2.2.2.2.2.2.2.2.2.2.2.2.2 zd1
  refine gw_tsd (st' := (197, [some (.ref r0), some (.int x1)], [], h)) (hk _ _ rfl) zd1 rfl ?_
  refine gw_pst hk 1 (st' := (198, [some (.ref r0), some (.int x1)], [.int (-1)], h)) rfl ?_
  exact gw_ret (hk _ _ rfl) rfl w
/-- CommandByTurns.row(I)J -/
def wm146 (c : gx) (d : Nat) (Post : Option Value → gm_H → Prop) (r0 : Nat) (x1 : Int32) (h : gm_H) : Prop :=
  ((x1 < 0 → False) ∧ (¬ (x1 < 0) → ∃ q_2 : Nat, gm_fld h r0 9 11 = some (.ref q_2) ∧ ∃ x_3 : Int32, gm_fld h q_2 5 1 = some (.int x_3) ∧ ((x_3 ≤ x1 → False) ∧ (¬ (x_3 ≤ x1) → ∃ q_5 : Nat, gm_fld h r0 9 11 = some (.ref q_5) ∧ ∃ q_6 : Nat, gm_fld h q_5 5 0 = some (.ref q_6) ∧ ∃ (n7 : Nat) (f7 : Nat → Int64), gm_get h q_6 = some (.inl (2, n7, .inr (.inl f7))) ∧ ((x1 < (Int32.ofNat n7) → ∃ q_9 : Nat, gm_fld h r0 9 11 = some (.ref q_9) ∧ ∃ q_10 : Nat, gm_fld h q_9 5 0 = some (.ref q_10) ∧ ∃ (n11 : Nat) (f11 : Nat → Int64), gm_get h q_10 = some (.inl (2, n11, .inr (.inl f11))) ∧ vp_in x1 n11 ∧ Post (some (.long (f11 (x1 : Int32).toNatClampNeg))) h) ∧ (¬ (x1 < (Int32.ofNat n7)) → False))))))
theorem okm146 (c : gx) (d : Nat) (Post : Option Value → gm_H → Prop) (r0 : Nat) (x1 : Int32) (h : gm_H) (w : wm146 c d Post r0 x1 h) : gE c (d + 1) 146 [.ref r0, .int x1] h Post := by
  have hk : ∀ pc i, gm_find gk_146 pc = some i → gm_code (gt_T c.1 c.2.1 c.2.2.1) 146 pc = some i := fun _ _ z => z
  unfold wm146 at w
  refine ge_of (by decide) (Nat.le_of_ble_eq_true rfl) ?_
  show gV c d 146 (0, [some (.ref r0), some (.int x1)], [], h) Post
  unfold gV
  refine gw_pst hk 1 (st' := (1, [some (.ref r0), some (.int x1)], [.int x1], h)) rfl ?_
  refine gw_br (c := x1 < 0) (a := (27, [some (.ref r0), some (.int x1)], [], h)) (b := (4, [some (.ref r0), some (.int x1)], [], h)) (hk _ _ rfl) rfl ⟨fun z1 => ?_, fun z1 => ?_⟩
  · replace w := w.1 z1
    exact w.elim
  · replace w := w.2 z1
    refine gw_pst hk 2 (st' := (6, [some (.ref r0), some (.int x1)], [.ref r0, .int x1], h)) rfl ?_
    obtain ⟨q_2, e2, w⟩ := w
    refine gw_gf (hk _ _ rfl) e2 ?_
    obtain ⟨x_3, e3, w⟩ := w
    refine gw_gf (hk _ _ rfl) e3 ?_
    refine gw_br (c := x_3 ≤ x1) (a := (27, [some (.ref r0), some (.int x1)], [], h)) (b := (15, [some (.ref r0), some (.int x1)], [], h)) (hk _ _ rfl) rfl ⟨fun z4 => ?_, fun z4 => ?_⟩
    · replace w := w.1 z4
      exact w.elim
    · replace w := w.2 z4
      refine gw_pst hk 2 (st' := (17, [some (.ref r0), some (.int x1)], [.ref r0, .int x1], h)) rfl ?_
      obtain ⟨q_5, e5, w⟩ := w
      refine gw_gf (hk _ _ rfl) e5 ?_
      obtain ⟨q_6, e6, w⟩ := w
      refine gw_gf (hk _ _ rfl) e6 ?_
      obtain ⟨n7, f7, e7, w⟩ := w
      refine gw_alen (hk _ _ rfl) e7 (by decide) ?_
      refine gw_br (c := x1 < (Int32.ofNat n7)) (a := (38, [some (.ref r0), some (.int x1)], [], h)) (b := (27, [some (.ref r0), some (.int x1)], [], h)) (hk _ _ rfl) rfl ⟨fun z8 => ?_, fun z8 => ?_⟩
      · replace w := w.1 z8
        refine gw_pst hk 1 (st' := (39, [some (.ref r0), some (.int x1)], [.ref r0], h)) rfl ?_
        obtain ⟨q_9, e9, w⟩ := w
        refine gw_gf (hk _ _ rfl) e9 ?_
        obtain ⟨q_10, e10, w⟩ := w
        refine gw_gf (hk _ _ rfl) e10 ?_
        refine gw_pst hk 1 (st' := (46, [some (.ref r0), some (.int x1)], [.int x1, .ref q_10], h)) rfl ?_
        obtain ⟨n11, f11, e11, b11, w⟩ := w
        refine gw_lald (hk _ _ rfl) e11 b11 ?_
        exact gw_ret (hk _ _ rfl) rfl w
      · replace w := w.2 z8
        exact w.elim
def w147_14 (c : gx) (d : Nat) (Post : Option Value → gm_H → Prop) (xs0 : Int32) (h : gm_H) : Prop :=
  ((xs0 = 0 ∨ xs0 = 1) ∧ Post (some (.int xs0)) h)
theorem ok147_14 (c : gx) (d : Nat) (Post : Option Value → gm_H → Prop)  (xs0 : Int32) (h : gm_H) (w : w147_14 c d Post xs0 h) : gV c d 147 (14, [none], [.int xs0], h) Post := by
  have hk : ∀ pc i, gm_find gk_147 pc = some i → gm_code (gt_T c.1 c.2.1 c.2.2.1) 147 pc = some i := fun _ _ z => z
  unfold w147_14 at w
  unfold gV
  exact gw_retZ (hk _ _ rfl) rfl w.1 w.2
def w147_9 (c : gx) (d : Nat) (Post : Option Value → gm_H → Prop)  (h : gm_H) : Prop :=
  w147_14 c d Post 1 h
theorem ok147_9 (c : gx) (d : Nat) (Post : Option Value → gm_H → Prop)   (h : gm_H) (w : w147_9 c d Post  h) : gV c d 147 (9, [none], [], h) Post := by
  have hk : ∀ pc i, gm_find gk_147 pc = some i → gm_code (gt_T c.1 c.2.1 c.2.2.1) 147 pc = some i := fun _ _ z => z
  unfold w147_9 at w
  unfold gV
  refine gw_pst hk 2 (st' := (14, [none], [.int 1], h)) rfl ?_
  exact ok147_14 c d Post _ _ w
/-- CommandByTurns.isConsul(I)Z -/
def wm147 (c : gx) (d : Nat) (Post : Option Value → gm_H → Prop) (x0 : Int32) (h : gm_H) : Prop :=
  ((x0 = 0 → w147_9 c d Post h) ∧ (¬ (x0 = 0) → ((x0 = 1 → w147_9 c d Post h) ∧ (¬ (x0 = 1) → w147_14 c d Post 0 h))))
theorem okm147 (c : gx) (d : Nat) (Post : Option Value → gm_H → Prop) (x0 : Int32) (h : gm_H) (w : wm147 c d Post x0 h) : gE c (d + 1) 147 [.int x0] h Post := by
  have hk : ∀ pc i, gm_find gk_147 pc = some i → gm_code (gt_T c.1 c.2.1 c.2.2.1) 147 pc = some i := fun _ _ z => z
  unfold wm147 at w
  refine ge_of (by decide) (Nat.le_of_ble_eq_true rfl) ?_
  show gV c d 147 (0, [some (.int x0)], [], h) Post
  unfold gV
  refine gw_pst hk 1 (st' := (1, [some (.int x0)], [.int x0], h)) rfl ?_
  refine gw_br (c := x0 = 0) (a := (9, [some (.int x0)], [], h)) (b := (4, [some (.int x0)], [], h)) (hk _ _ rfl) rfl ⟨fun z1 => ?_, fun z1 => ?_⟩
  · replace w := w.1 z1
    refine gw_le (L' := [none]) (gm_le_n _ gm_le_nil) ?_
    exact ok147_9 c d Post _ w
  · replace w := w.2 z1
    refine gw_pst hk 2 (st' := (6, [some (.int x0)], [.int 1, .int x0], h)) rfl ?_
    refine gw_br (c := x0 = 1) (a := (9, [some (.int x0)], [], h)) (b := (13, [some (.int x0)], [], h)) (hk _ _ rfl) rfl ⟨fun z2 => ?_, fun z2 => ?_⟩
    · replace w := w.1 z2
      refine gw_le (L' := [none]) (gm_le_n _ gm_le_nil) ?_
      exact ok147_9 c d Post _ w
    · replace w := w.2 z2
      refine gw_pst hk 1 (st' := (14, [some (.int x0)], [.int 0], h)) rfl ?_
      refine gw_le (L' := [none]) (gm_le_n _ gm_le_nil) ?_
      exact ok147_14 c d Post _ _ w
def w148_16 (c : gx) (d : Nat) (Post : Option Value → gm_H → Prop) (rs0 : Nat) (h : gm_H) : Prop :=
  Post (some (.ref rs0)) h
theorem ok148_16 (c : gx) (d : Nat) (Post : Option Value → gm_H → Prop)  (rs0 : Nat) (h : gm_H) (w : w148_16 c d Post rs0 h) : gV c d 148 (16, [none, none], [.ref rs0], h) Post := by
  have hk : ∀ pc i, gm_find gk_148 pc = some i → gm_code (gt_T c.1 c.2.1 c.2.2.1) 148 pc = some i := fun _ _ z => z
  unfold w148_16 at w
  unfold gV
  exact gw_ret (hk _ _ rfl) rfl w
/-- CommandByTurns.leader(I)LCommandByTurns$Leader; -/
def wm148 (c : gx) (d : Nat) (Post : Option Value → gm_H → Prop) (r0 : Nat) (x1 : Int32) (h : gm_H) : Prop :=
  ((x1 = 1 → ∃ q_2 : Nat, gm_fld h r0 9 4 = some (.ref q_2) ∧ w148_16 c d Post q_2 h) ∧ (¬ (x1 = 1) → ∃ q_3 : Nat, gm_fld h r0 9 3 = some (.ref q_3) ∧ w148_16 c d Post q_3 h))
theorem okm148 (c : gx) (d : Nat) (Post : Option Value → gm_H → Prop) (r0 : Nat) (x1 : Int32) (h : gm_H) (w : wm148 c d Post r0 x1 h) : gE c (d + 1) 148 [.ref r0, .int x1] h Post := by
  have hk : ∀ pc i, gm_find gk_148 pc = some i → gm_code (gt_T c.1 c.2.1 c.2.2.1) 148 pc = some i := fun _ _ z => z
  unfold wm148 at w
  refine ge_of (by decide) (Nat.le_of_ble_eq_true rfl) ?_
  show gV c d 148 (0, [some (.ref r0), some (.int x1)], [], h) Post
  unfold gV
  refine gw_pst hk 2 (st' := (2, [some (.ref r0), some (.int x1)], [.int 1, .int x1], h)) rfl ?_
  refine gw_br (c := x1 = 1) (a := (5, [some (.ref r0), some (.int x1)], [], h)) (b := (12, [some (.ref r0), some (.int x1)], [], h)) (hk _ _ rfl) rfl ⟨fun z1 => ?_, fun z1 => ?_⟩
  · replace w := w.1 z1
    refine gw_pst hk 1 (st' := (6, [some (.ref r0), some (.int x1)], [.ref r0], h)) rfl ?_
    obtain ⟨q_2, e2, w⟩ := w
    refine gw_gf (hk _ _ rfl) e2 ?_
    refine gw_pst hk 1 (st' := (16, [some (.ref r0), some (.int x1)], [.ref q_2], h)) rfl ?_
    refine gw_le (L' := [none, none]) (gm_le_n _ (gm_le_n _ gm_le_nil)) ?_
    exact ok148_16 c d Post _ _ w
  · replace w := w.2 z1
    refine gw_pst hk 1 (st' := (13, [some (.ref r0), some (.int x1)], [.ref r0], h)) rfl ?_
    obtain ⟨q_3, e3, w⟩ := w
    refine gw_gf (hk _ _ rfl) e3 ?_
    refine gw_le (L' := [none, none]) (gm_le_n _ (gm_le_n _ gm_le_nil)) ?_
    exact ok148_16 c d Post _ _ w
/-- CommandByTurns.gap(II)I -/
def wm149 (c : gx) (d : Nat) (Post : Option Value → gm_H → Prop) (r0 : Nat) (x1 : Int32) (x2 : Int32) (h : gm_H) : Prop :=
  ∃ q_1 : Nat, gm_fld h r0 9 1 = some (.ref q_1) ∧ (∃ fs2, gm_get h q_1 = some (.inr (1, fs2))) ∧ gE c d 15 [.ref q_1, .int x1] h (fun v2 h_2 => ∃ x_2 : Int32, v2 = some (.int x_2) ∧ ∃ q_3 : Nat, gm_fld h_2 r0 9 1 = some (.ref q_3) ∧ (∃ fs4, gm_get h_2 q_3 = some (.inr (1, fs4))) ∧ gE c d 15 [.ref q_3, .int x2] h_2 (fun v4 h_4 => ∃ x_4 : Int32, v4 = some (.int x_4) ∧ Post (some (.int (x_2 - x_4))) h_4))
theorem okm149 (c : gx) (d : Nat) (Post : Option Value → gm_H → Prop) (r0 : Nat) (x1 : Int32) (x2 : Int32) (h : gm_H) (w : wm149 c d Post r0 x1 x2 h) : gE c (d + 1) 149 [.ref r0, .int x1, .int x2] h Post := by
  have hk : ∀ pc i, gm_find gk_149 pc = some i → gm_code (gt_T c.1 c.2.1 c.2.2.1) 149 pc = some i := fun _ _ z => z
  unfold wm149 at w
  refine ge_of (by decide) (Nat.le_of_ble_eq_true rfl) ?_
  show gV c d 149 (0, [some (.ref r0), some (.int x1), some (.int x2)], [], h) Post
  unfold gV
  refine gw_pst hk 1 (st' := (1, [some (.ref r0), some (.int x1), some (.int x2)], [.ref r0], h)) rfl ?_
  obtain ⟨q_1, e1, w⟩ := w
  refine gw_gf (hk _ _ rfl) e1 ?_
  refine gw_pst hk 1 (st' := (5, [some (.ref r0), some (.int x1), some (.int x2)], [.int x1, .ref q_1], h)) rfl ?_
  obtain ⟨⟨fs2, e2⟩, w⟩ := w
  refine gw_call (jj := 15) (As := [.ref q_1, .int x1]) (rest := []) (hk _ _ rfl) (fun _ => rfl) rfl rfl (Nat.le_of_ble_eq_true rfl) (gm_rcv_v rfl e2 rfl) ?_
  refine ge_imp w (fun v2 h_2 w => ?_)
  obtain ⟨x_2, rfl, w⟩ := w
  show gV c d 149 (8, [some (.ref r0), some (.int x1), some (.int x2)], [.int x_2], h_2) Post
  refine gw_pst hk 1 (st' := (9, [some (.ref r0), some (.int x1), some (.int x2)], [.ref r0, .int x_2], h_2)) rfl ?_
  obtain ⟨q_3, e3, w⟩ := w
  refine gw_gf (hk _ _ rfl) e3 ?_
  refine gw_pst hk 1 (st' := (13, [some (.ref r0), some (.int x1), some (.int x2)], [.int x2, .ref q_3, .int x_2], h_2)) rfl ?_
  obtain ⟨⟨fs4, e4⟩, w⟩ := w
  refine gw_call (jj := 15) (As := [.ref q_3, .int x2]) (rest := [.int x_2]) (hk _ _ rfl) (fun _ => rfl) rfl rfl (Nat.le_of_ble_eq_true rfl) (gm_rcv_v rfl e4 rfl) ?_
  refine ge_imp w (fun v4 h_4 w => ?_)
  obtain ⟨x_4, rfl, w⟩ := w
  show gV c d 149 (16, [some (.ref r0), some (.int x1), some (.int x2)], [.int x_4, .int x_2], h_4) Post
  refine gw_pst hk 1 (st' := (17, [some (.ref r0), some (.int x1), some (.int x2)], [.int (x_2 - x_4)], h_4)) rfl ?_
  exact gw_ret (hk _ _ rfl) rfl w
