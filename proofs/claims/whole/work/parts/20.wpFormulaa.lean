/-! What must hold for a run to end with Post: by program (wip/whole/gen_wp.py). -/
def w1_199 (c : gx) (d : Nat) (Post : Option Value → gm_H → Prop) (K12 : Nat → Int32 → Int32 → Int32 → Int32 → Int32 → gm_H → Prop) (r0 : Nat) (x1 : Int32) (x2 : Int32) (x3 : Int32) (x4 : Int32) (x5 : Int32) (h : gm_H) : Prop :=
  K12 r0 x1 x2 x3 x4 (x5 + 1) h
theorem ok1_199 (c : gx) (d : Nat) (Post : Option Value → gm_H → Prop) (K12 : Nat → Int32 → Int32 → Int32 → Int32 → Int32 → gm_H → Prop)  (hK12 : ∀ (r0 : Nat) (x1 : Int32) (x2 : Int32) (x3 : Int32) (x4 : Int32) (x5 : Int32) (h : gm_H), K12 r0 x1 x2 x3 x4 x5 h → gV c d 1 (12, [some (.ref r0), some (.int x1), some (.int x2), some (.int x3), some (.int x4), some (.int x5), none], [], h) Post) (r0 : Nat) (x1 : Int32) (x2 : Int32) (x3 : Int32) (x4 : Int32) (x5 : Int32) (h : gm_H) (w : w1_199 c d Post K12 r0 x1 x2 x3 x4 x5 h) : gV c d 1 (199, [some (.ref r0), some (.int x1), some (.int x2), some (.int x3), some (.int x4), some (.int x5), none], [], h) Post := by
  have hk : ∀ pc i, gm_find gk_1 pc = some i → gm_code (gt_T c.1 c.2.1 c.2.2.1) 1 pc = some i := fun _ _ z => z
  unfold w1_199 at w
  unfold gV
  refine gw_pst hk 2 (st' := (12, [some (.ref r0), some (.int x1), some (.int x2), some (.int x3), some (.int x4), some (.int (x5 + 1)), none], [], h)) rfl ?_
  exact hK12 _ _ _ _ _ _ _ w
def w1_89 (c : gx) (d : Nat) (Post : Option Value → gm_H → Prop) (K12 : Nat → Int32 → Int32 → Int32 → Int32 → Int32 → gm_H → Prop) (r0 : Nat) (x3 : Int32) (x4 : Int32) (x5 : Int32) (xs0 : Int32) (h : gm_H) : Prop :=
  w1_199 c d Post K12 r0 0 xs0 x3 x4 x5 h
theorem ok1_89 (c : gx) (d : Nat) (Post : Option Value → gm_H → Prop) (K12 : Nat → Int32 → Int32 → Int32 → Int32 → Int32 → gm_H → Prop)  (hK12 : ∀ (r0 : Nat) (x1 : Int32) (x2 : Int32) (x3 : Int32) (x4 : Int32) (x5 : Int32) (h : gm_H), K12 r0 x1 x2 x3 x4 x5 h → gV c d 1 (12, [some (.ref r0), some (.int x1), some (.int x2), some (.int x3), some (.int x4), some (.int x5), none], [], h) Post) (r0 : Nat) (x3 : Int32) (x4 : Int32) (x5 : Int32) (xs0 : Int32) (h : gm_H) (w : w1_89 c d Post K12 r0 x3 x4 x5 xs0 h) : gV c d 1 (89, [some (.ref r0), none, none, some (.int x3), some (.int x4), some (.int x5), none], [.int xs0], h) Post := by
  have hk : ∀ pc i, gm_find gk_1 pc = some i → gm_code (gt_T c.1 c.2.1 c.2.2.1) 1 pc = some i := fun _ _ z => z
  unfold w1_89 at w
  unfold gV
  refine gw_pst hk 4 (st' := (199, [some (.ref r0), some (.int 0), some (.int xs0), some (.int x3), some (.int x4), some (.int x5), none], [], h)) rfl ?_
  exact ok1_199 c d Post K12 hK12 _ _ _ _ _ _ _ w
def w1_68 (c : gx) (d : Nat) (Post : Option Value → gm_H → Prop) (K12 : Nat → Int32 → Int32 → Int32 → Int32 → Int32 → gm_H → Prop) (r0 : Nat) (x1 : Int32) (x2 : Int32) (x3 : Int32) (x4 : Int32) (x5 : Int32) (x6 : Int32) (h : gm_H) : Prop :=
  gE c d 2 [.int x6] h (fun v1 h_1 => ∃ x_1 : Int32, v1 = some (.int x_1) ∧ ((x_1 = 0 → ((x6 = 45 → w1_199 c d Post K12 r0 x1 x2 x3 x4 x5 h_1) ∧ (¬ (x6 = 45) → Post (some (.int x5)) h_1))) ∧ (¬ (x_1 = 0) → gE c d 60 [.int x6] h_1 (fun v4 h_4 => ∃ x_4 : Int32, v4 = some (.int x_4) ∧ ((x_4 = 0 → w1_89 c d Post K12 r0 x3 x4 x5 3 h_4) ∧ (¬ (x_4 = 0) → w1_89 c d Post K12 r0 x3 x4 x5 1 h_4))))))
theorem ok1_68 (c : gx) (d : Nat) (Post : Option Value → gm_H → Prop) (K12 : Nat → Int32 → Int32 → Int32 → Int32 → Int32 → gm_H → Prop)  (hK12 : ∀ (r0 : Nat) (x1 : Int32) (x2 : Int32) (x3 : Int32) (x4 : Int32) (x5 : Int32) (h : gm_H), K12 r0 x1 x2 x3 x4 x5 h → gV c d 1 (12, [some (.ref r0), some (.int x1), some (.int x2), some (.int x3), some (.int x4), some (.int x5), none], [], h) Post) (r0 : Nat) (x1 : Int32) (x2 : Int32) (x3 : Int32) (x4 : Int32) (x5 : Int32) (x6 : Int32) (h : gm_H) (w : w1_68 c d Post K12 r0 x1 x2 x3 x4 x5 x6 h) : gV c d 1 (68, [some (.ref r0), some (.int x1), some (.int x2), some (.int x3), some (.int x4), some (.int x5), some (.int x6)], [], h) Post := by
  have hk : ∀ pc i, gm_find gk_1 pc = some i → gm_code (gt_T c.1 c.2.1 c.2.2.1) 1 pc = some i := fun _ _ z => z
  unfold w1_68 at w
  unfold gV
  refine gw_pst hk 1 (st' := (70, [some (.ref r0), some (.int x1), some (.int x2), some (.int x3), some (.int x4), some (.int x5), some (.int x6)], [.int x6], h)) rfl ?_
  refine gw_call (jj := 2) (As := [.int x6]) (rest := []) (hk _ _ rfl) (fun _ => rfl) rfl rfl (Nat.le_of_ble_eq_true rfl) rfl ?_
  refine ge_imp w (fun v1 h_1 w => ?_)
  obtain ⟨x_1, rfl, w⟩ := w
  show gV c d 1 (73, [some (.ref r0), some (.int x1), some (.int x2), some (.int x3), some (.int x4), some (.int x5), some (.int x6)], [.int x_1], h_1) Post
  refine gw_br (c := x_1 = 0) (a := (95, [some (.ref r0), some (.int x1), some (.int x2), some (.int x3), some (.int x4), some (.int x5), some (.int x6)], [], h_1)) (b := (76, [some (.ref r0), some (.int x1), some (.int x2), some (.int x3), some (.int x4), some (.int x5), some (.int x6)], [], h_1)) (hk _ _ rfl) rfl ⟨fun z2 => ?_, fun z2 => ?_⟩
  · replace w := w.1 z2
    refine gw_pst hk 2 (st' := (99, [some (.ref r0), some (.int x1), some (.int x2), some (.int x3), some (.int x4), some (.int x5), some (.int x6)], [.int 45, .int x6], h_1)) rfl ?_
    refine gw_br (c := x6 = 45) (a := (199, [some (.ref r0), some (.int x1), some (.int x2), some (.int x3), some (.int x4), some (.int x5), some (.int x6)], [], h_1)) (b := (102, [some (.ref r0), some (.int x1), some (.int x2), some (.int x3), some (.int x4), some (.int x5), some (.int x6)], [], h_1)) (hk _ _ rfl) rfl ⟨fun z3 => ?_, fun z3 => ?_⟩
    · replace w := w.1 z3
      refine gw_le (L' := [some (.ref r0), some (.int x1), some (.int x2), some (.int x3), some (.int x4), some (.int x5), none]) (gm_le_k _ (gm_le_k _ (gm_le_k _ (gm_le_k _ (gm_le_k _ (gm_le_k _ (gm_le_n _ gm_le_nil))))))) ?_
      exact ok1_199 c d Post K12 hK12 _ _ _ _ _ _ _ w
    · replace w := w.2 z3
      refine gw_pst hk 1 (st' := (104, [some (.ref r0), some (.int x1), some (.int x2), some (.int x3), some (.int x4), some (.int x5), some (.int x6)], [.int x5], h_1)) rfl ?_
      exact gw_ret (hk _ _ rfl) rfl w
  · replace w := w.2 z2
    refine gw_pst hk 1 (st' := (78, [some (.ref r0), some (.int x1), some (.int x2), some (.int x3), some (.int x4), some (.int x5), some (.int x6)], [.int x6], h_1)) rfl ?_
    refine gw_call (jj := 60) (As := [.int x6]) (rest := []) (hk _ _ rfl) (fun _ => rfl) rfl rfl (Nat.le_of_ble_eq_true rfl) rfl ?_
    refine ge_imp w (fun v4 h_4 w => ?_)
    obtain ⟨x_4, rfl, w⟩ := w
    show gV c d 1 (81, [some (.ref r0), some (.int x1), some (.int x2), some (.int x3), some (.int x4), some (.int x5), some (.int x6)], [.int x_4], h_4) Post
    refine gw_br (c := x_4 = 0) (a := (88, [some (.ref r0), some (.int x1), some (.int x2), some (.int x3), some (.int x4), some (.int x5), some (.int x6)], [], h_4)) (b := (84, [some (.ref r0), some (.int x1), some (.int x2), some (.int x3), some (.int x4), some (.int x5), some (.int x6)], [], h_4)) (hk _ _ rfl) rfl ⟨fun z5 => ?_, fun z5 => ?_⟩
    · replace w := w.1 z5
      refine gw_pst hk 1 (st' := (89, [some (.ref r0), some (.int x1), some (.int x2), some (.int x3), some (.int x4), some (.int x5), some (.int x6)], [.int 3], h_4)) rfl ?_
      refine gw_le (L' := [some (.ref r0), none, none, some (.int x3), some (.int x4), some (.int x5), none]) (gm_le_k _ (gm_le_n _ (gm_le_n _ (gm_le_k _ (gm_le_k _ (gm_le_k _ (gm_le_n _ gm_le_nil))))))) ?_
      exact ok1_89 c d Post K12 hK12 _ _ _ _ _ _ w
    · replace w := w.2 z5
      refine gw_pst hk 2 (st' := (89, [some (.ref r0), some (.int x1), some (.int x2), some (.int x3), some (.int x4), some (.int x5), some (.int x6)], [.int 1], h_4)) rfl ?_
      refine gw_le (L' := [some (.ref r0), none, none, some (.int x3), some (.int x4), some (.int x5), none]) (gm_le_k _ (gm_le_n _ (gm_le_n _ (gm_le_k _ (gm_le_k _ (gm_le_k _ (gm_le_n _ gm_le_nil))))))) ?_
      exact ok1_89 c d Post K12 hK12 _ _ _ _ _ _ w
def w1_188 (c : gx) (d : Nat) (Post : Option Value → gm_H → Prop) (K12 : Nat → Int32 → Int32 → Int32 → Int32 → Int32 → gm_H → Prop) (r0 : Nat) (x2 : Int32) (x3 : Int32) (x5 : Int32) (xs0 : Int32) (xs1 : Int32) (h : gm_H) : Prop :=
  w1_199 c d Post K12 r0 1 x2 x3 (xs0 ||| xs1) x5 h
theorem ok1_188 (c : gx) (d : Nat) (Post : Option Value → gm_H → Prop) (K12 : Nat → Int32 → Int32 → Int32 → Int32 → Int32 → gm_H → Prop)  (hK12 : ∀ (r0 : Nat) (x1 : Int32) (x2 : Int32) (x3 : Int32) (x4 : Int32) (x5 : Int32) (h : gm_H), K12 r0 x1 x2 x3 x4 x5 h → gV c d 1 (12, [some (.ref r0), some (.int x1), some (.int x2), some (.int x3), some (.int x4), some (.int x5), none], [], h) Post) (r0 : Nat) (x2 : Int32) (x3 : Int32) (x5 : Int32) (xs0 : Int32) (xs1 : Int32) (h : gm_H) (w : w1_188 c d Post K12 r0 x2 x3 x5 xs0 xs1 h) : gV c d 1 (188, [some (.ref r0), none, some (.int x2), some (.int x3), none, some (.int x5), none], [.int xs1, .int xs0], h) Post := by
  have hk : ∀ pc i, gm_find gk_1 pc = some i → gm_code (gt_T c.1 c.2.1 c.2.2.1) 1 pc = some i := fun _ _ z => z
  unfold w1_188 at w
  unfold gV
  refine gw_pst hk 5 (st' := (199, [some (.ref r0), some (.int 1), some (.int x2), some (.int x3), some (.int (xs0 ||| xs1)), some (.int x5), none], [], h)) rfl ?_
  exact ok1_199 c d Post K12 hK12 _ _ _ _ _ _ _ w
def w1_170 (c : gx) (d : Nat) (Post : Option Value → gm_H → Prop) (K12 : Nat → Int32 → Int32 → Int32 → Int32 → Int32 → gm_H → Prop) (r0 : Nat) (x2 : Int32) (x3 : Int32) (x4 : Int32) (x5 : Int32) (x6 : Int32) (h : gm_H) : Prop :=
  gE c d 3 [.int x6] h (fun v1 h_1 => ∃ x_1 : Int32, v1 = some (.int x_1) ∧ ((x_1 = 1 → w1_188 c d Post K12 r0 x2 x3 x5 x4 (1 <<< (x3 &&& 31)) h_1) ∧ (¬ (x_1 = 1) → w1_188 c d Post K12 r0 x2 x3 x5 x4 0 h_1)))
theorem ok1_170 (c : gx) (d : Nat) (Post : Option Value → gm_H → Prop) (K12 : Nat → Int32 → Int32 → Int32 → Int32 → Int32 → gm_H → Prop)  (hK12 : ∀ (r0 : Nat) (x1 : Int32) (x2 : Int32) (x3 : Int32) (x4 : Int32) (x5 : Int32) (h : gm_H), K12 r0 x1 x2 x3 x4 x5 h → gV c d 1 (12, [some (.ref r0), some (.int x1), some (.int x2), some (.int x3), some (.int x4), some (.int x5), none], [], h) Post) (r0 : Nat) (x2 : Int32) (x3 : Int32) (x4 : Int32) (x5 : Int32) (x6 : Int32) (h : gm_H) (w : w1_170 c d Post K12 r0 x2 x3 x4 x5 x6 h) : gV c d 1 (170, [some (.ref r0), none, some (.int x2), some (.int x3), some (.int x4), some (.int x5), some (.int x6)], [], h) Post := by
  have hk : ∀ pc i, gm_find gk_1 pc = some i → gm_code (gt_T c.1 c.2.1 c.2.2.1) 1 pc = some i := fun _ _ z => z
  unfold w1_170 at w
  unfold gV
  refine gw_pst hk 2 (st' := (174, [some (.ref r0), none, some (.int x2), some (.int x3), some (.int x4), some (.int x5), some (.int x6)], [.int x6, .int x4], h)) rfl ?_
  refine gw_call (jj := 3) (As := [.int x6]) (rest := [.int x4]) (hk _ _ rfl) (fun _ => rfl) rfl rfl (Nat.le_of_ble_eq_true rfl) rfl ?_
  refine ge_imp w (fun v1 h_1 w => ?_)
  obtain ⟨x_1, rfl, w⟩ := w
  show gV c d 1 (177, [some (.ref r0), none, some (.int x2), some (.int x3), some (.int x4), some (.int x5), some (.int x6)], [.int x_1, .int x4], h_1) Post
  refine gw_pst hk 1 (st' := (178, [some (.ref r0), none, some (.int x2), some (.int x3), some (.int x4), some (.int x5), some (.int x6)], [.int 1, .int x_1, .int x4], h_1)) rfl ?_
  refine gw_br (c := x_1 = 1) (a := (181, [some (.ref r0), none, some (.int x2), some (.int x3), some (.int x4), some (.int x5), some (.int x6)], [.int x4], h_1)) (b := (187, [some (.ref r0), none, some (.int x2), some (.int x3), some (.int x4), some (.int x5), some (.int x6)], [.int x4], h_1)) (hk _ _ rfl) rfl ⟨fun z2 => ?_, fun z2 => ?_⟩
  · replace w := w.1 z2
    refine gw_pst hk 4 (st' := (188, [some (.ref r0), none, some (.int x2), some (.int x3), some (.int x4), some (.int x5), some (.int x6)], [.int (1 <<< (x3 &&& 31)), .int x4], h_1)) rfl ?_
    refine gw_le (L' := [some (.ref r0), none, some (.int x2), some (.int x3), none, some (.int x5), none]) (gm_le_k _ (gm_le_k _ (gm_le_k _ (gm_le_k _ (gm_le_n _ (gm_le_k _ (gm_le_n _ gm_le_nil))))))) ?_
    exact ok1_188 c d Post K12 hK12 _ _ _ _ _ _ _ w
  · replace w := w.2 z2
    refine gw_pst hk 1 (st' := (188, [some (.ref r0), none, some (.int x2), some (.int x3), some (.int x4), some (.int x5), some (.int x6)], [.int 0, .int x4], h_1)) rfl ?_
    refine gw_le (L' := [some (.ref r0), none, some (.int x2), some (.int x3), none, some (.int x5), none]) (gm_le_k _ (gm_le_k _ (gm_le_k _ (gm_le_k _ (gm_le_n _ (gm_le_k _ (gm_le_n _ gm_le_nil))))))) ?_
    exact ok1_188 c d Post K12 hK12 _ _ _ _ _ _ _ w
def w1_196 (c : gx) (d : Nat) (Post : Option Value → gm_H → Prop) (x5 : Int32) (h : gm_H) : Prop :=
  Post (some (.int x5)) h
theorem ok1_196 (c : gx) (d : Nat) (Post : Option Value → gm_H → Prop)  (x5 : Int32) (h : gm_H) (w : w1_196 c d Post x5 h) : gV c d 1 (196, [none, none, none, none, none, some (.int x5), none], [], h) Post := by
  have hk : ∀ pc i, gm_find gk_1 pc = some i → gm_code (gt_T c.1 c.2.1 c.2.2.1) 1 pc = some i := fun _ _ z => z
  unfold w1_196 at w
  unfold gV
  refine gw_pst hk 1 (st' := (198, [none, none, none, none, none, some (.int x5), none], [.int x5], h)) rfl ?_
  exact gw_ret (hk _ _ rfl) rfl w
def w1_143 (c : gx) (d : Nat) (Post : Option Value → gm_H → Prop) (K12 : Nat → Int32 → Int32 → Int32 → Int32 → Int32 → gm_H → Prop) (r0 : Nat) (x2 : Int32) (x3 : Int32) (x4 : Int32) (x5 : Int32) (x6 : Int32) (h : gm_H) : Prop :=
  gE c d 3 [.int x6] h (fun v1 h_1 => ∃ x_1 : Int32, v1 = some (.int x_1) ∧ ((1 < x_1 → w1_170 c d Post K12 r0 x2 x3 x4 x5 x6 h_1) ∧ (¬ (1 < x_1) → gE c d 3 [.int x6] h_1 (fun v3 h_3 => ∃ x_3 : Int32, v3 = some (.int x_3) ∧ ((x_3 = 1 → ((((x4 >>> (x3 &&& 31)) &&& 1) = 0 → w1_170 c d Post K12 r0 x2 x3 x4 x5 x6 h_3) ∧ (¬ (((x4 >>> (x3 &&& 31)) &&& 1) = 0) → w1_196 c d Post x5 h_3))) ∧ (¬ (x_3 = 1) → w1_196 c d Post x5 h_3))))))
theorem ok1_143 (c : gx) (d : Nat) (Post : Option Value → gm_H → Prop) (K12 : Nat → Int32 → Int32 → Int32 → Int32 → Int32 → gm_H → Prop)  (hK12 : ∀ (r0 : Nat) (x1 : Int32) (x2 : Int32) (x3 : Int32) (x4 : Int32) (x5 : Int32) (h : gm_H), K12 r0 x1 x2 x3 x4 x5 h → gV c d 1 (12, [some (.ref r0), some (.int x1), some (.int x2), some (.int x3), some (.int x4), some (.int x5), none], [], h) Post) (r0 : Nat) (x2 : Int32) (x3 : Int32) (x4 : Int32) (x5 : Int32) (x6 : Int32) (h : gm_H) (w : w1_143 c d Post K12 r0 x2 x3 x4 x5 x6 h) : gV c d 1 (143, [some (.ref r0), none, some (.int x2), some (.int x3), some (.int x4), some (.int x5), some (.int x6)], [], h) Post := by
  have hk : ∀ pc i, gm_find gk_1 pc = some i → gm_code (gt_T c.1 c.2.1 c.2.2.1) 1 pc = some i := fun _ _ z => z
  unfold w1_143 at w
  unfold gV
  refine gw_pst hk 1 (st' := (145, [some (.ref r0), none, some (.int x2), some (.int x3), some (.int x4), some (.int x5), some (.int x6)], [.int x6], h)) rfl ?_
  refine gw_call (jj := 3) (As := [.int x6]) (rest := []) (hk _ _ rfl) (fun _ => rfl) rfl rfl (Nat.le_of_ble_eq_true rfl) rfl ?_
  refine ge_imp w (fun v1 h_1 w => ?_)
  obtain ⟨x_1, rfl, w⟩ := w
  show gV c d 1 (148, [some (.ref r0), none, some (.int x2), some (.int x3), some (.int x4), some (.int x5), some (.int x6)], [.int x_1], h_1) Post
  refine gw_pst hk 1 (st' := (149, [some (.ref r0), none, some (.int x2), some (.int x3), some (.int x4), some (.int x5), some (.int x6)], [.int 1, .int x_1], h_1)) rfl ?_
  refine gw_br (c := 1 < x_1) (a := (170, [some (.ref r0), none, some (.int x2), some (.int x3), some (.int x4), some (.int x5), some (.int x6)], [], h_1)) (b := (152, [some (.ref r0), none, some (.int x2), some (.int x3), some (.int x4), some (.int x5), some (.int x6)], [], h_1)) (hk _ _ rfl) rfl ⟨fun z2 => ?_, fun z2 => ?_⟩
  · replace w := w.1 z2
    exact ok1_170 c d Post K12 hK12 _ _ _ _ _ _ _ w
  · replace w := w.2 z2
    refine gw_pst hk 1 (st' := (154, [some (.ref r0), none, some (.int x2), some (.int x3), some (.int x4), some (.int x5), some (.int x6)], [.int x6], h_1)) rfl ?_
    refine gw_call (jj := 3) (As := [.int x6]) (rest := []) (hk _ _ rfl) (fun _ => rfl) rfl rfl (Nat.le_of_ble_eq_true rfl) rfl ?_
    refine ge_imp w (fun v3 h_3 w => ?_)
    obtain ⟨x_3, rfl, w⟩ := w
    show gV c d 1 (157, [some (.ref r0), none, some (.int x2), some (.int x3), some (.int x4), some (.int x5), some (.int x6)], [.int x_3], h_3) Post
    refine gw_pst hk 1 (st' := (158, [some (.ref r0), none, some (.int x2), some (.int x3), some (.int x4), some (.int x5), some (.int x6)], [.int 1, .int x_3], h_3)) rfl ?_
    refine gw_br (c := x_3 = 1) (a := (161, [some (.ref r0), none, some (.int x2), some (.int x3), some (.int x4), some (.int x5), some (.int x6)], [], h_3)) (b := (196, [some (.ref r0), none, some (.int x2), some (.int x3), some (.int x4), some (.int x5), some (.int x6)], [], h_3)) (hk _ _ rfl) rfl ⟨fun z4 => ?_, fun z4 => ?_⟩
    · replace w := w.1 z4
      refine gw_pst hk 5 (st' := (167, [some (.ref r0), none, some (.int x2), some (.int x3), some (.int x4), some (.int x5), some (.int x6)], [.int ((x4 >>> (x3 &&& 31)) &&& 1)], h_3)) rfl ?_
      refine gw_br (c := ((x4 >>> (x3 &&& 31)) &&& 1) = 0) (a := (170, [some (.ref r0), none, some (.int x2), some (.int x3), some (.int x4), some (.int x5), some (.int x6)], [], h_3)) (b := (196, [some (.ref r0), none, some (.int x2), some (.int x3), some (.int x4), some (.int x5), some (.int x6)], [], h_3)) (hk _ _ rfl) rfl ⟨fun z5 => ?_, fun z5 => ?_⟩
      · replace w := w.1 z5
        exact ok1_170 c d Post K12 hK12 _ _ _ _ _ _ _ w
      · replace w := w.2 z5
        refine gw_le (L' := [none, none, none, none, none, some (.int x5), none]) (gm_le_n _ (gm_le_k _ (gm_le_n _ (gm_le_n _ (gm_le_n _ (gm_le_k _ (gm_le_n _ gm_le_nil))))))) ?_
        exact ok1_196 c d Post _ _ w
    · replace w := w.2 z4
      refine gw_le (L' := [none, none, none, none, none, some (.int x5), none]) (gm_le_n _ (gm_le_k _ (gm_le_n _ (gm_le_n _ (gm_le_n _ (gm_le_k _ (gm_le_n _ gm_le_nil))))))) ?_
      exact ok1_196 c d Post _ _ w
def w1_124 (c : gx) (d : Nat) (Post : Option Value → gm_H → Prop) (K12 : Nat → Int32 → Int32 → Int32 → Int32 → Int32 → gm_H → Prop) (r0 : Nat) (x1 : Int32) (x2 : Int32) (x3 : Int32) (x4 : Int32) (x5 : Int32) (x6 : Int32) (h : gm_H) : Prop :=
  ((x6 = 41 → ((x3 ≤ 0 → w1_143 c d Post K12 r0 x2 x3 x4 x5 x6 h) ∧ (¬ (x3 ≤ 0) → w1_199 c d Post K12 r0 x1 3 (x3 + (-1)) x4 x5 h))) ∧ (¬ (x6 = 41) → w1_143 c d Post K12 r0 x2 x3 x4 x5 x6 h))
theorem ok1_124 (c : gx) (d : Nat) (Post : Option Value → gm_H → Prop) (K12 : Nat → Int32 → Int32 → Int32 → Int32 → Int32 → gm_H → Prop)  (hK12 : ∀ (r0 : Nat) (x1 : Int32) (x2 : Int32) (x3 : Int32) (x4 : Int32) (x5 : Int32) (h : gm_H), K12 r0 x1 x2 x3 x4 x5 h → gV c d 1 (12, [some (.ref r0), some (.int x1), some (.int x2), some (.int x3), some (.int x4), some (.int x5), none], [], h) Post) (r0 : Nat) (x1 : Int32) (x2 : Int32) (x3 : Int32) (x4 : Int32) (x5 : Int32) (x6 : Int32) (h : gm_H) (w : w1_124 c d Post K12 r0 x1 x2 x3 x4 x5 x6 h) : gV c d 1 (124, [some (.ref r0), some (.int x1), some (.int x2), some (.int x3), some (.int x4), some (.int x5), some (.int x6)], [], h) Post := by
  have hk : ∀ pc i, gm_find gk_1 pc = some i → gm_code (gt_T c.1 c.2.1 c.2.2.1) 1 pc = some i := fun _ _ z => z
  unfold w1_124 at w
  unfold gV
  refine gw_pst hk 2 (st' := (128, [some (.ref r0), some (.int x1), some (.int x2), some (.int x3), some (.int x4), some (.int x5), some (.int x6)], [.int 41, .int x6], h)) rfl ?_
  refine gw_br (c := x6 = 41) (a := (131, [some (.ref r0), some (.int x1), some (.int x2), some (.int x3), some (.int x4), some (.int x5), some (.int x6)], [], h)) (b := (143, [some (.ref r0), some (.int x1), some (.int x2), some (.int x3), some (.int x4), some (.int x5), some (.int x6)], [], h)) (hk _ _ rfl) rfl ⟨fun z1 => ?_, fun z1 => ?_⟩
  · replace w := w.1 z1
    refine gw_pst hk 1 (st' := (132, [some (.ref r0), some (.int x1), some (.int x2), some (.int x3), some (.int x4), some (.int x5), some (.int x6)], [.int x3], h)) rfl ?_
    refine gw_br (c := x3 ≤ 0) (a := (143, [some (.ref r0), some (.int x1), some (.int x2), some (.int x3), some (.int x4), some (.int x5), some (.int x6)], [], h)) (b := (135, [some (.ref r0), some (.int x1), some (.int x2), some (.int x3), some (.int x4), some (.int x5), some (.int x6)], [], h)) (hk _ _ rfl) rfl ⟨fun z2 => ?_, fun z2 => ?_⟩
    · replace w := w.1 z2
      refine gw_le (L' := [some (.ref r0), none, some (.int x2), some (.int x3), some (.int x4), some (.int x5), some (.int x6)]) (gm_le_k _ (gm_le_n _ (gm_le_k _ (gm_le_k _ (gm_le_k _ (gm_le_k _ (gm_le_k _ gm_le_nil))))))) ?_
      exact ok1_143 c d Post K12 hK12 _ _ _ _ _ _ _ w
    · replace w := w.2 z2
      refine gw_pst hk 4 (st' := (199, [some (.ref r0), some (.int x1), some (.int 3), some (.int (x3 + (-1))), some (.int x4), some (.int x5), some (.int x6)], [], h)) rfl ?_
      refine gw_le (L' := [some (.ref r0), some (.int x1), some (.int 3), some (.int (x3 + (-1))), some (.int x4), some (.int x5), none]) (gm_le_k _ (gm_le_k _ (gm_le_k _ (gm_le_k _ (gm_le_k _ (gm_le_k _ (gm_le_n _ gm_le_nil))))))) ?_
      exact ok1_199 c d Post K12 hK12 _ _ _ _ _ _ _ w
  · replace w := w.2 z1
    refine gw_le (L' := [some (.ref r0), none, some (.int x2), some (.int x3), some (.int x4), some (.int x5), some (.int x6)]) (gm_le_k _ (gm_le_n _ (gm_le_k _ (gm_le_k _ (gm_le_k _ (gm_le_k _ (gm_le_k _ gm_le_nil))))))) ?_
    exact ok1_143 c d Post K12 hK12 _ _ _ _ _ _ _ w
def w1_233 (c : gx) (d : Nat) (Post : Option Value → gm_H → Prop) (xs0 : Int32) (h : gm_H) : Prop :=
  Post (some (.int xs0)) h
theorem ok1_233 (c : gx) (d : Nat) (Post : Option Value → gm_H → Prop)  (xs0 : Int32) (h : gm_H) (w : w1_233 c d Post xs0 h) : gV c d 1 (233, [none, none, none, none, none, none, none], [.int xs0], h) Post := by
  have hk : ∀ pc i, gm_find gk_1 pc = some i → gm_code (gt_T c.1 c.2.1 c.2.2.1) 1 pc = some i := fun _ _ z => z
  unfold w1_233 at w
  unfold gV
  exact gw_ret (hk _ _ rfl) rfl w
def w1_225 (c : gx) (d : Nat) (Post : Option Value → gm_H → Prop) (r0 : Nat) (h : gm_H) : Prop :=
  ∃ x_1 : Int32, gm_fld h r0 7 1 = some (.int x_1) ∧ w1_233 c d Post x_1 h
theorem ok1_225 (c : gx) (d : Nat) (Post : Option Value → gm_H → Prop)  (r0 : Nat) (h : gm_H) (w : w1_225 c d Post r0 h) : gV c d 1 (225, [some (.ref r0), none, none, none, none, none, none], [], h) Post := by
  have hk : ∀ pc i, gm_find gk_1 pc = some i → gm_code (gt_T c.1 c.2.1 c.2.2.1) 1 pc = some i := fun _ _ z => z
  unfold w1_225 at w
  unfold gV
  refine gw_pst hk 1 (st' := (226, [some (.ref r0), none, none, none, none, none, none], [.ref r0], h)) rfl ?_
  obtain ⟨x_1, e1, w⟩ := w
  refine gw_gf (hk _ _ rfl) e1 ?_
  refine gw_pst hk 1 (st' := (233, [some (.ref r0), none, none, none, none, none, none], [.int x_1], h)) rfl ?_
  refine gw_le (L' := [none, none, none, none, none, none, none]) (gm_le_n _ (gm_le_k _ (gm_le_k _ (gm_le_k _ (gm_le_k _ (gm_le_k _ (gm_le_k _ gm_le_nil))))))) ?_
  exact ok1_233 c d Post _ _ w
def w1_205 (c : gx) (d : Nat) (Post : Option Value → gm_H → Prop) (r0 : Nat) (x1 : Int32) (x3 : Int32) (h : gm_H) : Prop :=
  ∃ x_1 : Int32, gm_fld h r0 7 1 = some (.int x_1) ∧ ((x_1 ≤ 40 → ((x1 = 0 → ((x3 ≤ 0 → w1_233 c d Post (-1) h) ∧ (¬ (x3 ≤ 0) → w1_225 c d Post r0 h))) ∧ (¬ (x1 = 0) → w1_225 c d Post r0 h))) ∧ (¬ (x_1 ≤ 40) → Post (some (.int 40)) h))
theorem ok1_205 (c : gx) (d : Nat) (Post : Option Value → gm_H → Prop)  (r0 : Nat) (x1 : Int32) (x3 : Int32) (h : gm_H) (w : w1_205 c d Post r0 x1 x3 h) : gV c d 1 (205, [some (.ref r0), some (.int x1), none, some (.int x3), none, none, none], [], h) Post := by
  have hk : ∀ pc i, gm_find gk_1 pc = some i → gm_code (gt_T c.1 c.2.1 c.2.2.1) 1 pc = some i := fun _ _ z => z
  unfold w1_205 at w
  unfold gV
  refine gw_pst hk 1 (st' := (206, [some (.ref r0), some (.int x1), none, some (.int x3), none, none, none], [.ref r0], h)) rfl ?_
  obtain ⟨x_1, e1, w⟩ := w
  refine gw_gf (hk _ _ rfl) e1 ?_
  refine gw_pst hk 1 (st' := (211, [some (.ref r0), some (.int x1), none, some (.int x3), none, none, none], [.int 40, .int x_1], h)) rfl ?_
  refine gw_br (c := x_1 ≤ 40) (a := (217, [some (.ref r0), some (.int x1), none, some (.int x3), none, none, none], [], h)) (b := (214, [some (.ref r0), some (.int x1), none, some (.int x3), none, none, none], [], h)) (hk _ _ rfl) rfl ⟨fun z2 => ?_, fun z2 => ?_⟩
  · replace w := w.1 z2
    refine gw_pst hk 1 (st' := (218, [some (.ref r0), some (.int x1), none, some (.int x3), none, none, none], [.int x1], h)) rfl ?_
    refine gw_br (c := x1 = 0) (a := (221, [some (.ref r0), some (.int x1), none, some (.int x3), none, none, none], [], h)) (b := (225, [some (.ref r0), some (.int x1), none, some (.int x3), none, none, none], [], h)) (hk _ _ rfl) rfl ⟨fun z3 => ?_, fun z3 => ?_⟩
    · replace w := w.1 z3
      refine gw_pst hk 1 (st' := (222, [some (.ref r0), some (.int x1), none, some (.int x3), none, none, none], [.int x3], h)) rfl ?_
      refine gw_br (c := x3 ≤ 0) (a := (232, [some (.ref r0), some (.int x1), none, some (.int x3), none, none, none], [], h)) (b := (225, [some (.ref r0), some (.int x1), none, some (.int x3), none, none, none], [], h)) (hk _ _ rfl) rfl ⟨fun z4 => ?_, fun z4 => ?_⟩
      · replace w := w.1 z4
        refine gw_pst hk 1 (st' := (233, [some (.ref r0), some (.int x1), none, some (.int x3), none, none, none], [.int (-1)], h)) rfl ?_
        refine gw_le (L' := [none, none, none, none, none, none, none]) (gm_le_n _ (gm_le_n _ (gm_le_k _ (gm_le_n _ (gm_le_k _ (gm_le_k _ (gm_le_k _ gm_le_nil))))))) ?_
        exact ok1_233 c d Post _ _ w
      · replace w := w.2 z4
        refine gw_le (L' := [some (.ref r0), none, none, none, none, none, none]) (gm_le_k _ (gm_le_n _ (gm_le_k _ (gm_le_n _ (gm_le_k _ (gm_le_k _ (gm_le_k _ gm_le_nil))))))) ?_
        exact ok1_225 c d Post _ _ w
    · replace w := w.2 z3
      refine gw_le (L' := [some (.ref r0), none, none, none, none, none, none]) (gm_le_k _ (gm_le_n _ (gm_le_k _ (gm_le_n _ (gm_le_k _ (gm_le_k _ (gm_le_k _ gm_le_nil))))))) ?_
      exact ok1_225 c d Post _ _ w
  · replace w := w.2 z2
    refine gw_pst hk 1 (st' := (216, [some (.ref r0), some (.int x1), none, some (.int x3), none, none, none], [.int 40], h)) rfl ?_
    exact gw_ret (hk _ _ rfl) rfl w
def wb1_12 (c : gx) (d : Nat) (Post : Option Value → gm_H → Prop) (K12 : Nat → Int32 → Int32 → Int32 → Int32 → Int32 → gm_H → Prop) (r0 : Nat) (x1 : Int32) (x2 : Int32) (x3 : Int32) (x4 : Int32) (x5 : Int32) (h : gm_H) : Prop :=
  ∃ x_1 : Int32, gm_fld h r0 7 1 = some (.int x_1) ∧ ((x_1 ≤ x5 → w1_205 c d Post r0 x1 x3 h) ∧ (¬ (x_1 ≤ x5) → ((40 ≤ x5 → w1_205 c d Post r0 x1 x3 h) ∧ (¬ (40 ≤ x5) → (∃ fs4, gm_get h r0 = some (.inr (7, fs4))) ∧ gE c d 61 [.ref r0, .int x5] h (fun v4 h_4 => ∃ x_4 : Int32, v4 = some (.int x_4) ∧ ((x1 = 0 → gE c d 60 [.int x_4] h_4 (fun v6 h_6 => ∃ x_6 : Int32, v6 = some (.int x_6) ∧ ((x_6 = 0 → w1_124 c d Post K12 r0 x1 x2 x3 x4 x5 x_4 h_6) ∧ (¬ (x_6 = 0) → ((3 ≤ x2 → w1_124 c d Post K12 r0 x1 x2 x3 x4 x5 x_4 h_6) ∧ (¬ (3 ≤ x2) → w1_199 c d Post K12 r0 x1 (x2 + 1) x3 x4 x5 h_6)))))) ∧ (¬ (x1 = 0) → ((x_4 = 40 → ((4 ≤ x3 → w1_68 c d Post K12 r0 x1 x2 x3 x4 x5 x_4 h_4) ∧ (¬ (4 ≤ x3) → w1_199 c d Post K12 r0 x1 x2 (x3 + 1) (x4 &&& ((1 <<< ((x3 + 1) &&& 31)) ^^^ (-1))) x5 h_4))) ∧ (¬ (x_4 = 40) → w1_68 c d Post K12 r0 x1 x2 x3 x4 x5 x_4 h_4)))))))))
theorem okb1_12 (c : gx) (d : Nat) (Post : Option Value → gm_H → Prop) (K12 : Nat → Int32 → Int32 → Int32 → Int32 → Int32 → gm_H → Prop)  (hK12 : ∀ (r0 : Nat) (x1 : Int32) (x2 : Int32) (x3 : Int32) (x4 : Int32) (x5 : Int32) (h : gm_H), K12 r0 x1 x2 x3 x4 x5 h → gV c d 1 (12, [some (.ref r0), some (.int x1), some (.int x2), some (.int x3), some (.int x4), some (.int x5), none], [], h) Post) (r0 : Nat) (x1 : Int32) (x2 : Int32) (x3 : Int32) (x4 : Int32) (x5 : Int32) (h : gm_H) (w : wb1_12 c d Post K12 r0 x1 x2 x3 x4 x5 h) : gV c d 1 (12, [some (.ref r0), some (.int x1), some (.int x2), some (.int x3), some (.int x4), some (.int x5), none], [], h) Post := by
  have hk : ∀ pc i, gm_find gk_1 pc = some i → gm_code (gt_T c.1 c.2.1 c.2.2.1) 1 pc = some i := fun _ _ z => z
  unfold wb1_12 at w
  unfold gV
  refine gw_pst hk 2 (st' := (15, [some (.ref r0), some (.int x1), some (.int x2), some (.int x3), some (.int x4), some (.int x5), none], [.ref r0, .int x5], h)) rfl ?_
  obtain ⟨x_1, e1, w⟩ := w
  refine gw_gf (hk _ _ rfl) e1 ?_
  refine gw_br (c := x_1 ≤ x5) (a := (205, [some (.ref r0), some (.int x1), some (.int x2), some (.int x3), some (.int x4), some (.int x5), none], [], h)) (b := (21, [some (.ref r0), some (.int x1), some (.int x2), some (.int x3), some (.int x4), some (.int x5), none], [], h)) (hk _ _ rfl) rfl ⟨fun z2 => ?_, fun z2 => ?_⟩
  · replace w := w.1 z2
    refine gw_le (L' := [some (.ref r0), some (.int x1), none, some (.int x3), none, none, none]) (gm_le_k _ (gm_le_k _ (gm_le_n _ (gm_le_k _ (gm_le_n _ (gm_le_n _ (gm_le_k _ gm_le_nil))))))) ?_
    exact ok1_205 c d Post _ _ _ _ w
  · replace w := w.2 z2
    refine gw_pst hk 2 (st' := (25, [some (.ref r0), some (.int x1), some (.int x2), some (.int x3), some (.int x4), some (.int x5), none], [.int 40, .int x5], h)) rfl ?_
    refine gw_br (c := 40 ≤ x5) (a := (205, [some (.ref r0), some (.int x1), some (.int x2), some (.int x3), some (.int x4), some (.int x5), none], [], h)) (b := (28, [some (.ref r0), some (.int x1), some (.int x2), some (.int x3), some (.int x4), some (.int x5), none], [], h)) (hk _ _ rfl) rfl ⟨fun z3 => ?_, fun z3 => ?_⟩
    · replace w := w.1 z3
      refine gw_le (L' := [some (.ref r0), some (.int x1), none, some (.int x3), none, none, none]) (gm_le_k _ (gm_le_k _ (gm_le_n _ (gm_le_k _ (gm_le_n _ (gm_le_n _ (gm_le_k _ gm_le_nil))))))) ?_
      exact ok1_205 c d Post _ _ _ _ w
    · replace w := w.2 z3
      refine gw_pst hk 2 (st' := (31, [some (.ref r0), some (.int x1), some (.int x2), some (.int x3), some (.int x4), some (.int x5), none], [.int x5, .ref r0], h)) rfl ?_
      obtain ⟨⟨fs4, e4⟩, w⟩ := w
      refine gw_call (jj := 61) (As := [.ref r0, .int x5]) (rest := []) (hk _ _ rfl) (fun _ => rfl) rfl rfl (Nat.le_of_ble_eq_true rfl) (gm_rcv_v rfl e4 rfl) ?_
      refine ge_imp w (fun v4 h_4 w => ?_)
      obtain ⟨x_4, rfl, w⟩ := w
      show gV c d 1 (34, [some (.ref r0), some (.int x1), some (.int x2), some (.int x3), some (.int x4), some (.int x5), none], [.int x_4], h_4) Post
      refine gw_pst hk 2 (st' := (37, [some (.ref r0), some (.int x1), some (.int x2), some (.int x3), some (.int x4), some (.int x5), some (.int x_4)], [.int x1], h_4)) rfl ?_
      refine gw_br (c := x1 = 0) (a := (105, [some (.ref r0), some (.int x1), some (.int x2), some (.int x3), some (.int x4), some (.int x5), some (.int x_4)], [], h_4)) (b := (40, [some (.ref r0), some (.int x1), some (.int x2), some (.int x3), some (.int x4), some (.int x5), some (.int x_4)], [], h_4)) (hk _ _ rfl) rfl ⟨fun z5 => ?_, fun z5 => ?_⟩
      · replace w := w.1 z5
        refine gw_pst hk 1 (st' := (107, [some (.ref r0), some (.int x1), some (.int x2), some (.int x3), some (.int x4), some (.int x5), some (.int x_4)], [.int x_4], h_4)) rfl ?_
        refine gw_call (jj := 60) (As := [.int x_4]) (rest := []) (hk _ _ rfl) (fun _ => rfl) rfl rfl (Nat.le_of_ble_eq_true rfl) rfl ?_
        refine ge_imp w (fun v6 h_6 w => ?_)
        obtain ⟨x_6, rfl, w⟩ := w
        show gV c d 1 (110, [some (.ref r0), some (.int x1), some (.int x2), some (.int x3), some (.int x4), some (.int x5), some (.int x_4)], [.int x_6], h_6) Post
        refine gw_br (c := x_6 = 0) (a := (124, [some (.ref r0), some (.int x1), some (.int x2), some (.int x3), some (.int x4), some (.int x5), some (.int x_4)], [], h_6)) (b := (113, [some (.ref r0), some (.int x1), some (.int x2), some (.int x3), some (.int x4), some (.int x5), some (.int x_4)], [], h_6)) (hk _ _ rfl) rfl ⟨fun z7 => ?_, fun z7 => ?_⟩
        · replace w := w.1 z7
          exact ok1_124 c d Post K12 hK12 _ _ _ _ _ _ _ _ w
        · replace w := w.2 z7
          refine gw_pst hk 2 (st' := (115, [some (.ref r0), some (.int x1), some (.int x2), some (.int x3), some (.int x4), some (.int x5), some (.int x_4)], [.int 3, .int x2], h_6)) rfl ?_
          refine gw_br (c := 3 ≤ x2) (a := (124, [some (.ref r0), some (.int x1), some (.int x2), some (.int x3), some (.int x4), some (.int x5), some (.int x_4)], [], h_6)) (b := (118, [some (.ref r0), some (.int x1), some (.int x2), some (.int x3), some (.int x4), some (.int x5), some (.int x_4)], [], h_6)) (hk _ _ rfl) rfl ⟨fun z8 => ?_, fun z8 => ?_⟩
          · replace w := w.1 z8
            exact ok1_124 c d Post K12 hK12 _ _ _ _ _ _ _ _ w
          · replace w := w.2 z8
            refine gw_pst hk 2 (st' := (199, [some (.ref r0), some (.int x1), some (.int (x2 + 1)), some (.int x3), some (.int x4), some (.int x5), some (.int x_4)], [], h_6)) rfl ?_
            refine gw_le (L' := [some (.ref r0), some (.int x1), some (.int (x2 + 1)), some (.int x3), some (.int x4), some (.int x5), none]) (gm_le_k _ (gm_le_k _ (gm_le_k _ (gm_le_k _ (gm_le_k _ (gm_le_k _ (gm_le_n _ gm_le_nil))))))) ?_
            exact ok1_199 c d Post K12 hK12 _ _ _ _ _ _ _ w
      · replace w := w.2 z5
        refine gw_pst hk 2 (st' := (44, [some (.ref r0), some (.int x1), some (.int x2), some (.int x3), some (.int x4), some (.int x5), some (.int x_4)], [.int 40, .int x_4], h_4)) rfl ?_
        refine gw_br (c := x_4 = 40) (a := (47, [some (.ref r0), some (.int x1), some (.int x2), some (.int x3), some (.int x4), some (.int x5), some (.int x_4)], [], h_4)) (b := (68, [some (.ref r0), some (.int x1), some (.int x2), some (.int x3), some (.int x4), some (.int x5), some (.int x_4)], [], h_4)) (hk _ _ rfl) rfl ⟨fun z9 => ?_, fun z9 => ?_⟩
        · replace w := w.1 z9
          refine gw_pst hk 2 (st' := (49, [some (.ref r0), some (.int x1), some (.int x2), some (.int x3), some (.int x4), some (.int x5), some (.int x_4)], [.int 4, .int x3], h_4)) rfl ?_
          refine gw_br (c := 4 ≤ x3) (a := (68, [some (.ref r0), some (.int x1), some (.int x2), some (.int x3), some (.int x4), some (.int x5), some (.int x_4)], [], h_4)) (b := (52, [some (.ref r0), some (.int x1), some (.int x2), some (.int x3), some (.int x4), some (.int x5), some (.int x_4)], [], h_4)) (hk _ _ rfl) rfl ⟨fun z10 => ?_, fun z10 => ?_⟩
          · replace w := w.1 z10
            exact ok1_68 c d Post K12 hK12 _ _ _ _ _ _ _ _ w
          · replace w := w.2 z10
            refine gw_pst hk 10 (st' := (199, [some (.ref r0), some (.int x1), some (.int x2), some (.int (x3 + 1)), some (.int (x4 &&& ((1 <<< ((x3 + 1) &&& 31)) ^^^ (-1)))), some (.int x5), some (.int x_4)], [], h_4)) rfl ?_
            refine gw_le (L' := [some (.ref r0), some (.int x1), some (.int x2), some (.int (x3 + 1)), some (.int (x4 &&& ((1 <<< ((x3 + 1) &&& 31)) ^^^ (-1)))), some (.int x5), none]) (gm_le_k _ (gm_le_k _ (gm_le_k _ (gm_le_k _ (gm_le_k _ (gm_le_k _ (gm_le_n _ gm_le_nil))))))) ?_
            exact ok1_199 c d Post K12 hK12 _ _ _ _ _ _ _ w
        · replace w := w.2 z9
          exact ok1_68 c d Post K12 hK12 _ _ _ _ _ _ _ _ w
def wl1_12 (c : gx) (d : Nat) (Post : Option Value → gm_H → Prop) : Nat → Nat → Int32 → Int32 → Int32 → Int32 → Int32 → gm_H → Prop
  | 0 => fun _ _ _ _ _ _ _ => False
  | n + 1 => wb1_12 c d Post (wl1_12 c d Post n)
theorem okl1_12 (c : gx) (d : Nat) (Post : Option Value → gm_H → Prop) : ∀ (n : Nat) (r0 : Nat) (x1 : Int32) (x2 : Int32) (x3 : Int32) (x4 : Int32) (x5 : Int32) (h : gm_H), wl1_12 c d Post n r0 x1 x2 x3 x4 x5 h → gV c d 1 (12, [some (.ref r0), some (.int x1), some (.int x2), some (.int x3), some (.int x4), some (.int x5), none], [], h) Post
  | 0, _, _, _, _, _, _, _, w => w.elim
  | n + 1, r0, x1, x2, x3, x4, x5, h, w => okb1_12 c d Post (wl1_12 c d Post n) (okl1_12 c d Post n) r0 x1 x2 x3 x4 x5 h w
/-- CommandByTurns$Formula.misreadAt(LCommandByTurns$Text;)I -/
def wm1 (c : gx) (d : Nat) (Post : Option Value → gm_H → Prop) (r0 : Nat) (h : gm_H) : Prop :=
  ∃ n, wl1_12 c d Post n r0 1 0 0 0 0 h
theorem okm1 (c : gx) (d : Nat) (Post : Option Value → gm_H → Prop) (r0 : Nat) (h : gm_H) (w : wm1 c d Post r0 h) : gE c (d + 1) 1 [.ref r0] h Post := by
  have hk : ∀ pc i, gm_find gk_1 pc = some i → gm_code (gt_T c.1 c.2.1 c.2.2.1) 1 pc = some i := fun _ _ z => z
  unfold wm1 at w
  refine ge_of (by decide) (Nat.le_of_ble_eq_true rfl) ?_
  show gV c d 1 (0, [some (.ref r0), none, none, none, none, none, none], [], h) Post
  unfold gV
  refine gw_pst hk 10 (st' := (12, [some (.ref r0), some (.int 1), some (.int 0), some (.int 0), some (.int 0), some (.int 0), none], [], h)) rfl ?_
  obtain ⟨n, w⟩ := w
  exact okl1_12 c d Post n _ _ _ _ _ _ _ w
def w2_21 (c : gx) (d : Nat) (Post : Option Value → gm_H → Prop) (xs0 : Int32) (h : gm_H) : Prop :=
  ((xs0 = 0 ∨ xs0 = 1) ∧ Post (some (.int xs0)) h)
theorem ok2_21 (c : gx) (d : Nat) (Post : Option Value → gm_H → Prop)  (xs0 : Int32) (h : gm_H) (w : w2_21 c d Post xs0 h) : gV c d 2 (21, [none], [.int xs0], h) Post := by
  have hk : ∀ pc i, gm_find gk_2 pc = some i → gm_code (gt_T c.1 c.2.1 c.2.2.1) 2 pc = some i := fun _ _ z => z
  unfold w2_21 at w
  unfold gV
  exact gw_retZ (hk _ _ rfl) rfl w.1 w.2
def w2_16 (c : gx) (d : Nat) (Post : Option Value → gm_H → Prop)  (h : gm_H) : Prop :=
  w2_21 c d Post 1 h
theorem ok2_16 (c : gx) (d : Nat) (Post : Option Value → gm_H → Prop)   (h : gm_H) (w : w2_16 c d Post  h) : gV c d 2 (16, [none], [], h) Post := by
  have hk : ∀ pc i, gm_find gk_2 pc = some i → gm_code (gt_T c.1 c.2.1 c.2.2.1) 2 pc = some i := fun _ _ z => z
  unfold w2_16 at w
  unfold gV
  refine gw_pst hk 2 (st' := (21, [none], [.int 1], h)) rfl ?_
  exact ok2_21 c d Post _ _ w
/-- CommandByTurns$Formula.isOperand(C)Z -/
def wm2 (c : gx) (d : Nat) (Post : Option Value → gm_H → Prop) (x0 : Int32) (h : gm_H) : Prop :=
  gE c d 60 [.int x0] h (fun v1 h_1 => ∃ x_1 : Int32, v1 = some (.int x_1) ∧ ((x_1 = 0 → gE c d 1002 [.float 0, .int x0] h_1 (fun v3 h_3 => ∃ x_3 : Int32, v3 = some (.int x_3) ∧ ((x_3 < 0 → w2_21 c d Post 0 h_3) ∧ (¬ (x_3 < 0) → w2_16 c d Post h_3)))) ∧ (¬ (x_1 = 0) → w2_16 c d Post h_1)))
theorem okm2 (c : gx) (d : Nat) (Post : Option Value → gm_H → Prop) (x0 : Int32) (h : gm_H) (w : wm2 c d Post x0 h) : gE c (d + 1) 2 [.int x0] h Post := by
  have hk : ∀ pc i, gm_find gk_2 pc = some i → gm_code (gt_T c.1 c.2.1 c.2.2.1) 2 pc = some i := fun _ _ z => z
  unfold wm2 at w
  refine ge_of (by decide) (Nat.le_of_ble_eq_true rfl) ?_
  show gV c d 2 (0, [some (.int x0)], [], h) Post
  unfold gV
  refine gw_pst hk 1 (st' := (1, [some (.int x0)], [.int x0], h)) rfl ?_
  refine gw_call (jj := 60) (As := [.int x0]) (rest := []) (hk _ _ rfl) (fun _ => rfl) rfl rfl (Nat.le_of_ble_eq_true rfl) rfl ?_
  refine ge_imp w (fun v1 h_1 w => ?_)
  obtain ⟨x_1, rfl, w⟩ := w
  show gV c d 2 (4, [some (.int x0)], [.int x_1], h_1) Post
  refine gw_br (c := x_1 = 0) (a := (7, [some (.int x0)], [], h_1)) (b := (16, [some (.int x0)], [], h_1)) (hk _ _ rfl) rfl ⟨fun z2 => ?_, fun z2 => ?_⟩
  · replace w := w.1 z2
    refine gw_pst hk 2 (st' := (10, [some (.int x0)], [.int x0, .float 0], h_1)) rfl ?_
    refine gw_call (jj := 1002) (As := [.float 0, .int x0]) (rest := []) (hk _ _ rfl) (fun _ => rfl) rfl rfl (Nat.le_of_ble_eq_true rfl) rfl ?_
    refine ge_imp w (fun v3 h_3 w => ?_)
    obtain ⟨x_3, rfl, w⟩ := w
    show gV c d 2 (13, [some (.int x0)], [.int x_3], h_3) Post
    refine gw_br (c := x_3 < 0) (a := (20, [some (.int x0)], [], h_3)) (b := (16, [some (.int x0)], [], h_3)) (hk _ _ rfl) rfl ⟨fun z4 => ?_, fun z4 => ?_⟩
    · replace w := w.1 z4
      refine gw_pst hk 1 (st' := (21, [some (.int x0)], [.int 0], h_3)) rfl ?_
      refine gw_le (L' := [none]) (gm_le_n _ gm_le_nil) ?_
      exact ok2_21 c d Post _ _ w
    · replace w := w.2 z4
      refine gw_le (L' := [none]) (gm_le_n _ gm_le_nil) ?_
      exact ok2_16 c d Post _ w
  · replace w := w.2 z2
    refine gw_le (L' := [none]) (gm_le_n _ gm_le_nil) ?_
    exact ok2_16 c d Post _ w
def w3_76 (c : gx) (d : Nat) (Post : Option Value → gm_H → Prop)  (h : gm_H) : Prop :=
  Post (some (.int 1)) h
theorem ok3_76 (c : gx) (d : Nat) (Post : Option Value → gm_H → Prop)   (h : gm_H) (w : w3_76 c d Post  h) : gV c d 3 (76, [none], [], h) Post := by
  have hk : ∀ pc i, gm_find gk_3 pc = some i → gm_code (gt_T c.1 c.2.1 c.2.2.1) 3 pc = some i := fun _ _ z => z
  unfold w3_76 at w
  unfold gV
  refine gw_pst hk 1 (st' := (77, [none], [.int 1], h)) rfl ?_
  exact gw_ret (hk _ _ rfl) rfl w
def w3_78 (c : gx) (d : Nat) (Post : Option Value → gm_H → Prop)  (h : gm_H) : Prop :=
  Post (some (.int 2)) h
theorem ok3_78 (c : gx) (d : Nat) (Post : Option Value → gm_H → Prop)   (h : gm_H) (w : w3_78 c d Post  h) : gV c d 3 (78, [none], [], h) Post := by
  have hk : ∀ pc i, gm_find gk_3 pc = some i → gm_code (gt_T c.1 c.2.1 c.2.2.1) 3 pc = some i := fun _ _ z => z
  unfold w3_78 at w
  unfold gV
  refine gw_pst hk 1 (st' := (79, [none], [.int 2], h)) rfl ?_
  exact gw_ret (hk _ _ rfl) rfl w
def w3_80 (c : gx) (d : Nat) (Post : Option Value → gm_H → Prop)  (h : gm_H) : Prop :=
  Post (some (.int 3)) h
theorem ok3_80 (c : gx) (d : Nat) (Post : Option Value → gm_H → Prop)   (h : gm_H) (w : w3_80 c d Post  h) : gV c d 3 (80, [none], [], h) Post := by
  have hk : ∀ pc i, gm_find gk_3 pc = some i → gm_code (gt_T c.1 c.2.1 c.2.2.1) 3 pc = some i := fun _ _ z => z
  unfold w3_80 at w
  unfold gV
  refine gw_pst hk 1 (st' := (81, [none], [.int 3], h)) rfl ?_
  exact gw_ret (hk _ _ rfl) rfl w
/-- CommandByTurns$Formula.rank(I)I -/
def wm3 (c : gx) (d : Nat) (Post : Option Value → gm_H → Prop) (x0 : Int32) (h : gm_H) : Prop :=
  ((x0 = 42 → w3_80 c d Post h) ∧ (x0 = 43 → w3_78 c d Post h) ∧ (x0 = 45 → w3_78 c d Post h) ∧ (x0 = 47 → w3_80 c d Post h) ∧ (x0 = 60 → w3_76 c d Post h) ∧ (x0 = 61 → w3_76 c d Post h) ∧ (x0 = 62 → w3_76 c d Post h) ∧ (x0 = 256 → Post (some (.int 4)) h) ∧ (¬ x0 = 42 ∧ ¬ x0 = 43 ∧ ¬ x0 = 45 ∧ ¬ x0 = 47 ∧ ¬ x0 = 60 ∧ ¬ x0 = 61 ∧ ¬ x0 = 62 ∧ ¬ x0 = 256 → Post (some (.int 0)) h))
theorem okm3 (c : gx) (d : Nat) (Post : Option Value → gm_H → Prop) (x0 : Int32) (h : gm_H) (w : wm3 c d Post x0 h) : gE c (d + 1) 3 [.int x0] h Post := by
  have hk : ∀ pc i, gm_find gk_3 pc = some i → gm_code (gt_T c.1 c.2.1 c.2.2.1) 3 pc = some i := fun _ _ z => z
  unfold wm3 at w
  refine ge_of (by decide) (Nat.le_of_ble_eq_true rfl) ?_
  show gV c d 3 (0, [some (.int x0)], [], h) Post
  unfold gV
  refine gw_pst hk 1 (st' := (1, [some (.int x0)], [.int x0], h)) rfl ?_
  by_cases z1_0 : x0 = 42
  · replace w := w.1 z1_0
    refine gw_swk (st' := (80, [some (.int x0)], [], h)) (hk _ _ rfl) z1_0 rfl ?_
    refine gw_le (L' := [none]) (gm_le_n _ gm_le_nil) ?_
    exact ok3_80 c d Post _ w
  by_cases z1_1 : x0 = 43
  · replace w := w.2.1 z1_1
    refine gw_swk (st' := (78, [some (.int x0)], [], h)) (hk _ _ rfl) z1_1 rfl ?_
    refine gw_le (L' := [none]) (gm_le_n _ gm_le_nil) ?_
    exact ok3_78 c d Post _ w
  by_cases z1_2 : x0 = 45
  · replace w := w.2.2.1 z1_2
    refine gw_swk (st' := (78, [some (.int x0)], [], h)) (hk _ _ rfl) z1_2 rfl ?_
    refine gw_le (L' := [none]) (gm_le_n _ gm_le_nil) ?_
    exact ok3_78 c d Post _ w
  by_cases z1_3 : x0 = 47
  · replace w := w.2.2.2.1 z1_3
    refine gw_swk (st' := (80, [some (.int x0)], [], h)) (hk _ _ rfl) z1_3 rfl ?_
    refine gw_le (L' := [none]) (gm_le_n _ gm_le_nil) ?_
    exact ok3_80 c d Post _ w
  by_cases z1_4 : x0 = 60
  · replace w := w.2.2.2.2.1 z1_4
    refine gw_swk (st' := (76, [some (.int x0)], [], h)) (hk _ _ rfl) z1_4 rfl ?_
    refine gw_le (L' := [none]) (gm_le_n _ gm_le_nil) ?_
    exact ok3_76 c d Post _ w
  by_cases z1_5 : x0 = 61
  · replace w := w.2.2.2.2.2.1 z1_5
    refine gw_swk (st' := (76, [some (.int x0)], [], h)) (hk _ _ rfl) z1_5 rfl ?_
    refine gw_le (L' := [none]) (gm_le_n _ gm_le_nil) ?_
    exact ok3_76 c d Post _ w
  by_cases z1_6 : x0 = 62
  · replace w := w.2.2.2.2.2.2.1 z1_6
    refine gw_swk (st' := (76, [some (.int x0)], [], h)) (hk _ _ rfl) z1_6 rfl ?_
    refine gw_le (L' := [none]) (gm_le_n _ gm_le_nil) ?_
    exact ok3_76 c d Post _ w
  by_cases z1_7 : x0 = 256
  · replace w := w.2.2.2.2.2.2.2.1 z1_7
    refine gw_swk (st' := (82, [some (.int x0)], [], h)) (hk _ _ rfl) z1_7 rfl ?_
    refine gw_pst hk 1 (st' := (83, [some (.int x0)], [.int 4], h)) rfl ?_
    exact gw_ret (hk _ _ rfl) rfl w
  replace w := w.2.2.2.2.2.2.2.2 ⟨z1_0, z1_1, z1_2, z1_3, z1_4, z1_5, z1_6, z1_7⟩
  refine gw_lsd (st' := (84, [some (.int x0)], [], h)) (hk _ _ rfl) (by
      have y0 : ¬ 42 = (x0 : Int32).toInt := fun z => z1_0 (Int32.toInt_inj.mp z.symm)
      have y1 : ¬ 43 = (x0 : Int32).toInt := fun z => z1_1 (Int32.toInt_inj.mp z.symm)
      have y2 : ¬ 45 = (x0 : Int32).toInt := fun z => z1_2 (Int32.toInt_inj.mp z.symm)
      have y3 : ¬ 47 = (x0 : Int32).toInt := fun z => z1_3 (Int32.toInt_inj.mp z.symm)
      have y4 : ¬ 60 = (x0 : Int32).toInt := fun z => z1_4 (Int32.toInt_inj.mp z.symm)
      have y5 : ¬ 61 = (x0 : Int32).toInt := fun z => z1_5 (Int32.toInt_inj.mp z.symm)
      have y6 : ¬ 62 = (x0 : Int32).toInt := fun z => z1_6 (Int32.toInt_inj.mp z.symm)
      have y7 : ¬ 256 = (x0 : Int32).toInt := fun z => z1_7 (Int32.toInt_inj.mp z.symm)
      simp [Op.lookupswitch.offset, y0, y1, y2, y3, y4, y5, y6, y7]) rfl ?_
  refine gw_pst hk 1 (st' := (85, [some (.int x0)], [.int 0], h)) rfl ?_
  exact gw_ret (hk _ _ rfl) rfl w
def w4_73 (c : gx) (d : Nat) (Post : Option Value → gm_H → Prop) (K46 : Nat → Nat → Int32 → Int32 → Int32 → Int32 → gm_H → Prop) (r0 : Nat) (r1 : Nat) (x2 : Int32) (x3 : Int32) (x4 : Int32) (x5 : Int32) (rs0 : Nat) (xs1 : Int32) (h : gm_H) : Prop :=
  (∃ fs1, gm_get h rs0 = some (.inr (0, fs1))) ∧ gE c d 5 [.ref rs0, .int xs1, .int x4] h (fun v1 h_1 => ∃ x_1 : Int32, v1 = some (.int x_1) ∧ K46 r0 r1 x2 x3 x_1 (x5 + 1) h_1)
theorem ok4_73 (c : gx) (d : Nat) (Post : Option Value → gm_H → Prop) (K46 : Nat → Nat → Int32 → Int32 → Int32 → Int32 → gm_H → Prop)  (hK46 : ∀ (r0 : Nat) (r1 : Nat) (x2 : Int32) (x3 : Int32) (x4 : Int32) (x5 : Int32) (h : gm_H), K46 r0 r1 x2 x3 x4 x5 h → gV c d 4 (46, [some (.ref r0), some (.ref r1), some (.int x2), some (.int x3), some (.int x4), some (.int x5)], [], h) Post) (r0 : Nat) (r1 : Nat) (x2 : Int32) (x3 : Int32) (x4 : Int32) (x5 : Int32) (rs0 : Nat) (xs1 : Int32) (h : gm_H) (w : w4_73 c d Post K46 r0 r1 x2 x3 x4 x5 rs0 xs1 h) : gV c d 4 (73, [some (.ref r0), some (.ref r1), some (.int x2), some (.int x3), some (.int x4), some (.int x5)], [.int xs1, .ref rs0], h) Post := by
  have hk : ∀ pc i, gm_find gk_4 pc = some i → gm_code (gt_T c.1 c.2.1 c.2.2.1) 4 pc = some i := fun _ _ z => z
  unfold w4_73 at w
  unfold gV
  refine gw_pst hk 1 (st' := (75, [some (.ref r0), some (.ref r1), some (.int x2), some (.int x3), some (.int x4), some (.int x5)], [.int x4, .int xs1, .ref rs0], h)) rfl ?_
  obtain ⟨⟨fs1, e1⟩, w⟩ := w
  refine gw_call (jj := 5) (As := [.ref rs0, .int xs1, .int x4]) (rest := []) (hk _ _ rfl) (fun _ => rfl) rfl rfl (Nat.le_of_ble_eq_true rfl) (gm_rcv_v rfl e1 rfl) ?_
  refine ge_imp w (fun v1 h_1 w => ?_)
  obtain ⟨x_1, rfl, w⟩ := w
  show gV c d 4 (78, [some (.ref r0), some (.ref r1), some (.int x2), some (.int x3), some (.int x4), some (.int x5)], [.int x_1], h_1) Post
  refine gw_pst hk 3 (st' := (46, [some (.ref r0), some (.ref r1), some (.int x2), some (.int x3), some (.int x_1), some (.int (x5 + 1))], [], h_1)) rfl ?_
  exact hK46 _ _ _ _ _ _ _ w
def wb4_46 (c : gx) (d : Nat) (Post : Option Value → gm_H → Prop) (K46 : Nat → Nat → Int32 → Int32 → Int32 → Int32 → gm_H → Prop) (r0 : Nat) (r1 : Nat) (x2 : Int32) (x3 : Int32) (x4 : Int32) (x5 : Int32) (h : gm_H) : Prop :=
  ((x3 ≤ x5 → (∃ fs2, gm_get h r0 = some (.inr (0, fs2))) ∧ gE c d 7 [.ref r0, .int 1] h (fun v2 h_2 => v2 = none ∧ Post none h_2)) ∧ (¬ (x3 ≤ x5) → ((x2 = 0 → (∃ fs4, gm_get h r1 = some (.inr (7, fs4))) ∧ gE c d 61 [.ref r1, .int x5] h (fun v4 h_4 => ∃ x_4 : Int32, v4 = some (.int x_4) ∧ w4_73 c d Post K46 r0 r1 x2 x3 x4 x5 r0 x_4 h_4)) ∧ (¬ (x2 = 0) → gE c d 1001 [.float 1, .int x5] h (fun v5 h_5 => ∃ x_5 : Int32, v5 = some (.int x_5) ∧ w4_73 c d Post K46 r0 r1 x2 x3 x4 x5 r0 x_5 h_5)))))
theorem okb4_46 (c : gx) (d : Nat) (Post : Option Value → gm_H → Prop) (K46 : Nat → Nat → Int32 → Int32 → Int32 → Int32 → gm_H → Prop)  (hK46 : ∀ (r0 : Nat) (r1 : Nat) (x2 : Int32) (x3 : Int32) (x4 : Int32) (x5 : Int32) (h : gm_H), K46 r0 r1 x2 x3 x4 x5 h → gV c d 4 (46, [some (.ref r0), some (.ref r1), some (.int x2), some (.int x3), some (.int x4), some (.int x5)], [], h) Post) (r0 : Nat) (r1 : Nat) (x2 : Int32) (x3 : Int32) (x4 : Int32) (x5 : Int32) (h : gm_H) (w : wb4_46 c d Post K46 r0 r1 x2 x3 x4 x5 h) : gV c d 4 (46, [some (.ref r0), some (.ref r1), some (.int x2), some (.int x3), some (.int x4), some (.int x5)], [], h) Post := by
  have hk : ∀ pc i, gm_find gk_4 pc = some i → gm_code (gt_T c.1 c.2.1 c.2.2.1) 4 pc = some i := fun _ _ z => z
  unfold wb4_46 at w
  unfold gV
  refine gw_pst hk 2 (st' := (49, [some (.ref r0), some (.ref r1), some (.int x2), some (.int x3), some (.int x4), some (.int x5)], [.int x3, .int x5], h)) rfl ?_
  refine gw_br (c := x3 ≤ x5) (a := (86, [some (.ref r0), some (.ref r1), some (.int x2), some (.int x3), some (.int x4), some (.int x5)], [], h)) (b := (52, [some (.ref r0), some (.ref r1), some (.int x2), some (.int x3), some (.int x4), some (.int x5)], [], h)) (hk _ _ rfl) rfl ⟨fun z1 => ?_, fun z1 => ?_⟩
  · replace w := w.1 z1
    refine gw_pst hk 2 (st' := (88, [some (.ref r0), some (.ref r1), some (.int x2), some (.int x3), some (.int x4), some (.int x5)], [.int 1, .ref r0], h)) rfl ?_
    obtain ⟨⟨fs2, e2⟩, w⟩ := w
    refine gw_call (jj := 7) (As := [.ref r0, .int 1]) (rest := []) (hk _ _ rfl) (fun _ => rfl) rfl rfl (Nat.le_of_ble_eq_true rfl) (gm_rcv_v rfl e2 rfl) ?_
    refine ge_imp w (fun v2 h_2 w => ?_)
    obtain ⟨rfl, w⟩ := w
    show gV c d 4 (91, [some (.ref r0), some (.ref r1), some (.int x2), some (.int x3), some (.int x4), some (.int x5)], [], h_2) Post
    exact gw_ret (hk _ _ rfl) rfl w
  · replace w := w.2 z1
    refine gw_pst hk 2 (st' := (54, [some (.ref r0), some (.ref r1), some (.int x2), some (.int x3), some (.int x4), some (.int x5)], [.int x2, .ref r0], h)) rfl ?_
    refine gw_br (c := x2 = 0) (a := (67, [some (.ref r0), some (.ref r1), some (.int x2), some (.int x3), some (.int x4), some (.int x5)], [.ref r0], h)) (b := (57, [some (.ref r0), some (.ref r1), some (.int x2), some (.int x3), some (.int x4), some (.int x5)], [.ref r0], h)) (hk _ _ rfl) rfl ⟨fun z3 => ?_, fun z3 => ?_⟩
    · replace w := w.1 z3
      refine gw_pst hk 2 (st' := (70, [some (.ref r0), some (.ref r1), some (.int x2), some (.int x3), some (.int x4), some (.int x5)], [.int x5, .ref r1, .ref r0], h)) rfl ?_
      obtain ⟨⟨fs4, e4⟩, w⟩ := w
      refine gw_call (jj := 61) (As := [.ref r1, .int x5]) (rest := [.ref r0]) (hk _ _ rfl) (fun _ => rfl) rfl rfl (Nat.le_of_ble_eq_true rfl) (gm_rcv_v rfl e4 rfl) ?_
      refine ge_imp w (fun v4 h_4 w => ?_)
      obtain ⟨x_4, rfl, w⟩ := w
      show gV c d 4 (73, [some (.ref r0), some (.ref r1), some (.int x2), some (.int x3), some (.int x4), some (.int x5)], [.int x_4, .ref r0], h_4) Post
      exact ok4_73 c d Post K46 hK46 _ _ _ _ _ _ _ _ _ w
    · replace w := w.2 z3
      refine gw_pst hk 2 (st' := (61, [some (.ref r0), some (.ref r1), some (.int x2), some (.int x3), some (.int x4), some (.int x5)], [.int x5, .float 1, .ref r0], h)) rfl ?_
      refine gw_call (jj := 1001) (As := [.float 1, .int x5]) (rest := [.ref r0]) (hk _ _ rfl) (fun _ => rfl) rfl rfl (Nat.le_of_ble_eq_true rfl) rfl ?_
      refine ge_imp w (fun v5 h_5 w => ?_)
      obtain ⟨x_5, rfl, w⟩ := w
      show gV c d 4 (64, [some (.ref r0), some (.ref r1), some (.int x2), some (.int x3), some (.int x4), some (.int x5)], [.int x_5, .ref r0], h_5) Post
      refine gw_pst hk 1 (st' := (73, [some (.ref r0), some (.ref r1), some (.int x2), some (.int x3), some (.int x4), some (.int x5)], [.int x_5, .ref r0], h_5)) rfl ?_
      exact ok4_73 c d Post K46 hK46 _ _ _ _ _ _ _ _ _ w
def wl4_46 (c : gx) (d : Nat) (Post : Option Value → gm_H → Prop) : Nat → Nat → Nat → Int32 → Int32 → Int32 → Int32 → gm_H → Prop
  | 0 => fun _ _ _ _ _ _ _ => False
  | n + 1 => wb4_46 c d Post (wl4_46 c d Post n)
theorem okl4_46 (c : gx) (d : Nat) (Post : Option Value → gm_H → Prop) : ∀ (n : Nat) (r0 : Nat) (r1 : Nat) (x2 : Int32) (x3 : Int32) (x4 : Int32) (x5 : Int32) (h : gm_H), wl4_46 c d Post n r0 r1 x2 x3 x4 x5 h → gV c d 4 (46, [some (.ref r0), some (.ref r1), some (.int x2), some (.int x3), some (.int x4), some (.int x5)], [], h) Post
  | 0, _, _, _, _, _, _, _, w => w.elim
  | n + 1, r0, r1, x2, x3, x4, x5, h, w => okb4_46 c d Post (wl4_46 c d Post n) (okl4_46 c d Post n) r0 r1 x2 x3 x4 x5 h w
def w4_29 (c : gx) (d : Nat) (Post : Option Value → gm_H → Prop) (r0 : Nat) (r1 : Nat) (x2 : Int32) (xs0 : Int32) (h : gm_H) : Prop :=
  ∃ fs1 : List Value, gm_get h r0 = some (.inr (0, fs1)) ∧ 1 < fs1.length ∧ ∀ h_1 : gm_H, h_1 = gm_put h r0 (.inr (0, fs1.set 1 (.int 0))) → ∃ fs2 : List Value, gm_get h_1 r0 = some (.inr (0, fs2)) ∧ 3 < fs2.length ∧ ∀ h_2 : gm_H, h_2 = gm_put h_1 r0 (.inr (0, fs2.set 3 (.int 0))) → ∃ n, wl4_46 c d Post n r0 r1 x2 xs0 1 0 h_2
theorem ok4_29 (c : gx) (d : Nat) (Post : Option Value → gm_H → Prop)  (r0 : Nat) (r1 : Nat) (x2 : Int32) (xs0 : Int32) (h : gm_H) (w : w4_29 c d Post r0 r1 x2 xs0 h) : gV c d 4 (29, [some (.ref r0), some (.ref r1), some (.int x2), none, none, none], [.int xs0], h) Post := by
  have hk : ∀ pc i, gm_find gk_4 pc = some i → gm_code (gt_T c.1 c.2.1 c.2.2.1) 4 pc = some i := fun _ _ z => z
  unfold w4_29 at w
  unfold gV
  refine gw_pst hk 3 (st' := (32, [some (.ref r0), some (.ref r1), some (.int x2), some (.int xs0), none, none], [.int 0, .ref r0], h)) rfl ?_
  obtain ⟨fs1, e1, l1, w⟩ := w
  refine gw_pf (hk _ _ rfl) e1 l1 rfl ?_
  obtain ⟨h_1, eh1⟩ : ∃ z, z = gm_put h r0 (.inr (0, fs1.set 1 (.int 0))) := ⟨_, rfl⟩
  rw [← eh1]
  replace w := w h_1 eh1
  refine gw_pst hk 2 (st' := (37, [some (.ref r0), some (.ref r1), some (.int x2), some (.int xs0), none, none], [.int 0, .ref r0], h_1)) rfl ?_
  obtain ⟨fs2, e2, l2, w⟩ := w
  refine gw_pf (hk _ _ rfl) e2 l2 rfl ?_
  obtain ⟨h_2, eh2⟩ : ∃ z, z = gm_put h_1 r0 (.inr (0, fs2.set 3 (.int 0))) := ⟨_, rfl⟩
  rw [← eh2]
  replace w := w h_2 eh2
  refine gw_pst hk 4 (st' := (46, [some (.ref r0), some (.ref r1), some (.int x2), some (.int xs0), some (.int 1), some (.int 0)], [], h_2)) rfl ?_
  obtain ⟨n, w⟩ := w
  exact okl4_46 c d Post n _ _ _ _ _ _ _ w
def w4_12 (c : gx) (d : Nat) (Post : Option Value → gm_H → Prop) (r0 : Nat) (r1 : Nat) (xs0 : Int32) (h : gm_H) : Prop :=
  ((xs0 = 0 → ∃ x_2 : Int32, gm_fld h r1 7 1 = some (.int x_2) ∧ w4_29 c d Post r0 r1 xs0 x_2 h) ∧ (¬ (xs0 = 0) → gE c d 1000 [.float 1] h (fun v3 h_3 => ∃ x_3 : Int32, v3 = some (.int x_3) ∧ w4_29 c d Post r0 r1 xs0 x_3 h_3)))
theorem ok4_12 (c : gx) (d : Nat) (Post : Option Value → gm_H → Prop)  (r0 : Nat) (r1 : Nat) (xs0 : Int32) (h : gm_H) (w : w4_12 c d Post r0 r1 xs0 h) : gV c d 4 (12, [some (.ref r0), some (.ref r1), none, none, none, none], [.int xs0], h) Post := by
  have hk : ∀ pc i, gm_find gk_4 pc = some i → gm_code (gt_T c.1 c.2.1 c.2.2.1) 4 pc = some i := fun _ _ z => z
  unfold w4_12 at w
  unfold gV
  refine gw_pst hk 2 (st' := (14, [some (.ref r0), some (.ref r1), some (.int xs0), none, none, none], [.int xs0], h)) rfl ?_
  refine gw_br (c := xs0 = 0) (a := (25, [some (.ref r0), some (.ref r1), some (.int xs0), none, none, none], [], h)) (b := (17, [some (.ref r0), some (.ref r1), some (.int xs0), none, none, none], [], h)) (hk _ _ rfl) rfl ⟨fun z1 => ?_, fun z1 => ?_⟩
  · replace w := w.1 z1
    refine gw_pst hk 1 (st' := (26, [some (.ref r0), some (.ref r1), some (.int xs0), none, none, none], [.ref r1], h)) rfl ?_
    obtain ⟨x_2, e2, w⟩ := w
    refine gw_gf (hk _ _ rfl) e2 ?_
    exact ok4_29 c d Post _ _ _ _ _ w
  · replace w := w.2 z1
    refine gw_pst hk 1 (st' := (19, [some (.ref r0), some (.ref r1), some (.int xs0), none, none, none], [.float 1], h)) rfl ?_
    refine gw_call (jj := 1000) (As := [.float 1]) (rest := []) (hk _ _ rfl) (fun _ => rfl) rfl rfl (Nat.le_of_ble_eq_true rfl) rfl ?_
    refine ge_imp w (fun v3 h_3 w => ?_)
    obtain ⟨x_3, rfl, w⟩ := w
    show gV c d 4 (22, [some (.ref r0), some (.ref r1), some (.int xs0), none, none, none], [.int x_3], h_3) Post
    refine gw_pst hk 1 (st' := (29, [some (.ref r0), some (.ref r1), some (.int xs0), none, none, none], [.int x_3], h_3)) rfl ?_
    exact ok4_29 c d Post _ _ _ _ _ w
/-- CommandByTurns$Formula.read(LCommandByTurns$Text;)V -/
def wm4 (c : gx) (d : Nat) (Post : Option Value → gm_H → Prop) (r0 : Nat) (r1 : Nat) (h : gm_H) : Prop :=
  ∃ x_1 : Int32, gm_fld h r1 7 1 = some (.int x_1) ∧ ((x_1 = 0 → w4_12 c d Post r0 r1 1 h) ∧ (¬ (x_1 = 0) → w4_12 c d Post r0 r1 0 h))
theorem okm4 (c : gx) (d : Nat) (Post : Option Value → gm_H → Prop) (r0 : Nat) (r1 : Nat) (h : gm_H) (w : wm4 c d Post r0 r1 h) : gE c (d + 1) 4 [.ref r0, .ref r1] h Post := by
  have hk : ∀ pc i, gm_find gk_4 pc = some i → gm_code (gt_T c.1 c.2.1 c.2.2.1) 4 pc = some i := fun _ _ z => z
  unfold wm4 at w
  refine ge_of (by decide) (Nat.le_of_ble_eq_true rfl) ?_
  show gV c d 4 (0, [some (.ref r0), some (.ref r1), none, none, none, none], [], h) Post
  unfold gV
  refine gw_pst hk 1 (st' := (1, [some (.ref r0), some (.ref r1), none, none, none, none], [.ref r1], h)) rfl ?_
  obtain ⟨x_1, e1, w⟩ := w
  refine gw_gf (hk _ _ rfl) e1 ?_
  refine gw_br (c := x_1 = 0) (a := (7, [some (.ref r0), some (.ref r1), none, none, none, none], [], h)) (b := (11, [some (.ref r0), some (.ref r1), none, none, none, none], [], h)) (hk _ _ rfl) rfl ⟨fun z2 => ?_, fun z2 => ?_⟩
  · replace w := w.1 z2
    refine gw_pst hk 2 (st' := (12, [some (.ref r0), some (.ref r1), none, none, none, none], [.int 1], h)) rfl ?_
    exact ok4_12 c d Post _ _ _ _ w
  · replace w := w.2 z2
    refine gw_pst hk 1 (st' := (12, [some (.ref r0), some (.ref r1), none, none, none, none], [.int 0], h)) rfl ?_
    exact ok4_12 c d Post _ _ _ _ w
def w5_102 (c : gx) (d : Nat) (Post : Option Value → gm_H → Prop)  (h : gm_H) : Prop :=
  Post (some (.int 1)) h
theorem ok5_102 (c : gx) (d : Nat) (Post : Option Value → gm_H → Prop)   (h : gm_H) (w : w5_102 c d Post  h) : gV c d 5 (102, [none, none, none], [], h) Post := by
  have hk : ∀ pc i, gm_find gk_5 pc = some i → gm_code (gt_T c.1 c.2.1 c.2.2.1) 5 pc = some i := fun _ _ z => z
  unfold w5_102 at w
  unfold gV
  refine gw_pst hk 1 (st' := (103, [none, none, none], [.int 1], h)) rfl ?_
  exact gw_ret (hk _ _ rfl) rfl w
/-- CommandByTurns$Formula.readSign(CZ)Z -/
def wm5 (c : gx) (d : Nat) (Post : Option Value → gm_H → Prop) (r0 : Nat) (x1 : Int32) (x2 : Int32) (h : gm_H) : Prop :=
  gE c d 60 [.int x1] h (fun v1 h_1 => ∃ x_1 : Int32, v1 = some (.int x_1) ∧ ((x_1 = 0 → gE c d 1002 [.float 0, .int x1] h_1 (fun v3 h_3 => ∃ x_3 : Int32, v3 = some (.int x_3) ∧ ((x_3 < 0 → ((x1 = 41 → (∃ fs6, gm_get h_3 r0 = some (.inr (0, fs6))) ∧ gE c d 7 [.ref r0, .int 1] h_3 (fun v6 h_6 => v6 = none ∧ (∃ fs7, gm_get h_6 r0 = some (.inr (0, fs7))) ∧ gE c d 10 [.ref r0] h_6 (fun v7 h_7 => ∃ x_7 : Int32, v7 = some (.int x_7) ∧ Post (some (.int 0)) h_7))) ∧ (¬ (x1 = 41) → ((x1 = 40 → (∃ fs9, gm_get h_3 r0 = some (.inr (0, fs9))) ∧ gE c d 9 [.ref r0, .int x1] h_3 (fun v9 h_9 => v9 = none ∧ w5_102 c d Post h_9)) ∧ (¬ (x1 = 40) → ((x2 = 0 → gE c d 3 [.int x1] h_3 (fun v11 h_11 => ∃ x_11 : Int32, v11 = some (.int x_11) ∧ (∃ fs12, gm_get h_11 r0 = some (.inr (0, fs12))) ∧ gE c d 7 [.ref r0, .int x_11] h_11 (fun v12 h_12 => v12 = none ∧ (∃ fs13, gm_get h_12 r0 = some (.inr (0, fs13))) ∧ gE c d 9 [.ref r0, .int x1] h_12 (fun v13 h_13 => v13 = none ∧ w5_102 c d Post h_13)))) ∧ (¬ (x2 = 0) → (∃ fs14, gm_get h_3 r0 = some (.inr (0, fs14))) ∧ gE c d 9 [.ref r0, .int 256] h_3 (fun v14 h_14 => v14 = none ∧ w5_102 c d Post h_14)))))))) ∧ (¬ (x_3 < 0) → gE c d 1002 [.float 0, .int x1] h_3 (fun v15 h_15 => ∃ x_15 : Int32, v15 = some (.int x_15) ∧ (∃ fs16, gm_get h_15 r0 = some (.inr (0, fs16))) ∧ gE c d 8 [.ref r0, .int (1000 + x_15)] h_15 (fun v16 h_16 => v16 = none ∧ Post (some (.int 0)) h_16)))))) ∧ (¬ (x_1 = 0) → (∃ fs17, gm_get h_1 r0 = some (.inr (0, fs17))) ∧ gE c d 6 [.ref r0, .int (x1 - 48), .int x2] h_1 (fun v17 h_17 => v17 = none ∧ Post (some (.int 0)) h_17))))
theorem okm5 (c : gx) (d : Nat) (Post : Option Value → gm_H → Prop) (r0 : Nat) (x1 : Int32) (x2 : Int32) (h : gm_H) (w : wm5 c d Post r0 x1 x2 h) : gE c (d + 1) 5 [.ref r0, .int x1, .int x2] h Post := by
  have hk : ∀ pc i, gm_find gk_5 pc = some i → gm_code (gt_T c.1 c.2.1 c.2.2.1) 5 pc = some i := fun _ _ z => z
  unfold wm5 at w
  refine ge_of (by decide) (Nat.le_of_ble_eq_true rfl) ?_
  show gV c d 5 (0, [some (.ref r0), some (.int x1), some (.int x2)], [], h) Post
  unfold gV
  refine gw_pst hk 1 (st' := (1, [some (.ref r0), some (.int x1), some (.int x2)], [.int x1], h)) rfl ?_
  refine gw_call (jj := 60) (As := [.int x1]) (rest := []) (hk _ _ rfl) (fun _ => rfl) rfl rfl (Nat.le_of_ble_eq_true rfl) rfl ?_
  refine ge_imp w (fun v1 h_1 w => ?_)
  obtain ⟨x_1, rfl, w⟩ := w
  show gV c d 5 (4, [some (.ref r0), some (.int x1), some (.int x2)], [.int x_1], h_1) Post
  refine gw_br (c := x_1 = 0) (a := (18, [some (.ref r0), some (.int x1), some (.int x2)], [], h_1)) (b := (7, [some (.ref r0), some (.int x1), some (.int x2)], [], h_1)) (hk _ _ rfl) rfl ⟨fun z2 => ?_, fun z2 => ?_⟩
  · replace w := w.1 z2
    refine gw_pst hk 2 (st' := (21, [some (.ref r0), some (.int x1), some (.int x2)], [.int x1, .float 0], h_1)) rfl ?_
    refine gw_call (jj := 1002) (As := [.float 0, .int x1]) (rest := []) (hk _ _ rfl) (fun _ => rfl) rfl rfl (Nat.le_of_ble_eq_true rfl) rfl ?_
    refine ge_imp w (fun v3 h_3 w => ?_)
    obtain ⟨x_3, rfl, w⟩ := w
    show gV c d 5 (24, [some (.ref r0), some (.int x1), some (.int x2)], [.int x_3], h_3) Post
    refine gw_br (c := x_3 < 0) (a := (43, [some (.ref r0), some (.int x1), some (.int x2)], [], h_3)) (b := (27, [some (.ref r0), some (.int x1), some (.int x2)], [], h_3)) (hk _ _ rfl) rfl ⟨fun z4 => ?_, fun z4 => ?_⟩
    · replace w := w.1 z4
      refine gw_pst hk 2 (st' := (46, [some (.ref r0), some (.int x1), some (.int x2)], [.int 41, .int x1], h_3)) rfl ?_
      refine gw_br (c := x1 = 41) (a := (49, [some (.ref r0), some (.int x1), some (.int x2)], [], h_3)) (b := (61, [some (.ref r0), some (.int x1), some (.int x2)], [], h_3)) (hk _ _ rfl) rfl ⟨fun z5 => ?_, fun z5 => ?_⟩
      · replace w := w.1 z5
        refine gw_pst hk 2 (st' := (51, [some (.ref r0), some (.int x1), some (.int x2)], [.int 1, .ref r0], h_3)) rfl ?_
        obtain ⟨⟨fs6, e6⟩, w⟩ := w
        refine gw_call (jj := 7) (As := [.ref r0, .int 1]) (rest := []) (hk _ _ rfl) (fun _ => rfl) rfl rfl (Nat.le_of_ble_eq_true rfl) (gm_rcv_v rfl e6 rfl) ?_
        refine ge_imp w (fun v6 h_6 w => ?_)
        obtain ⟨rfl, w⟩ := w
        show gV c d 5 (54, [some (.ref r0), some (.int x1), some (.int x2)], [], h_6) Post
        refine gw_pst hk 1 (st' := (55, [some (.ref r0), some (.int x1), some (.int x2)], [.ref r0], h_6)) rfl ?_
        obtain ⟨⟨fs7, e7⟩, w⟩ := w
        refine gw_call (jj := 10) (As := [.ref r0]) (rest := []) (hk _ _ rfl) (fun _ => rfl) rfl rfl (Nat.le_of_ble_eq_true rfl) (gm_rcv_v rfl e7 rfl) ?_
        refine ge_imp w (fun v7 h_7 w => ?_)
        obtain ⟨x_7, rfl, w⟩ := w
        show gV c d 5 (58, [some (.ref r0), some (.int x1), some (.int x2)], [.int x_7], h_7) Post
        refine gw_pst hk 2 (st' := (60, [some (.ref r0), some (.int x1), some (.int x2)], [.int 0], h_7)) rfl ?_
        exact gw_ret (hk _ _ rfl) rfl w
      · replace w := w.2 z5
        refine gw_pst hk 2 (st' := (64, [some (.ref r0), some (.int x1), some (.int x2)], [.int 40, .int x1], h_3)) rfl ?_
        refine gw_br (c := x1 = 40) (a := (67, [some (.ref r0), some (.int x1), some (.int x2)], [], h_3)) (b := (75, [some (.ref r0), some (.int x1), some (.int x2)], [], h_3)) (hk _ _ rfl) rfl ⟨fun z8 => ?_, fun z8 => ?_⟩
        · replace w := w.1 z8
          refine gw_pst hk 2 (st' := (69, [some (.ref r0), some (.int x1), some (.int x2)], [.int x1, .ref r0], h_3)) rfl ?_
          obtain ⟨⟨fs9, e9⟩, w⟩ := w
          refine gw_call (jj := 9) (As := [.ref r0, .int x1]) (rest := []) (hk _ _ rfl) (fun _ => rfl) rfl rfl (Nat.le_of_ble_eq_true rfl) (gm_rcv_v rfl e9 rfl) ?_
          refine ge_imp w (fun v9 h_9 w => ?_)
          obtain ⟨rfl, w⟩ := w
          show gV c d 5 (72, [some (.ref r0), some (.int x1), some (.int x2)], [], h_9) Post
          refine gw_pst hk 1 (st' := (102, [some (.ref r0), some (.int x1), some (.int x2)], [], h_9)) rfl ?_
          refine gw_le (L' := [none, none, none]) (gm_le_n _ (gm_le_n _ (gm_le_n _ gm_le_nil))) ?_
          exact ok5_102 c d Post _ w
        · replace w := w.2 z8
          refine gw_pst hk 1 (st' := (76, [some (.ref r0), some (.int x1), some (.int x2)], [.int x2], h_3)) rfl ?_
          refine gw_br (c := x2 = 0) (a := (89, [some (.ref r0), some (.int x1), some (.int x2)], [], h_3)) (b := (79, [some (.ref r0), some (.int x1), some (.int x2)], [], h_3)) (hk _ _ rfl) rfl ⟨fun z10 => ?_, fun z10 => ?_⟩
          · replace w := w.1 z10
            refine gw_pst hk 2 (st' := (91, [some (.ref r0), some (.int x1), some (.int x2)], [.int x1, .ref r0], h_3)) rfl ?_
            refine gw_call (jj := 3) (As := [.int x1]) (rest := [.ref r0]) (hk _ _ rfl) (fun _ => rfl) rfl rfl (Nat.le_of_ble_eq_true rfl) rfl ?_
            refine ge_imp w (fun v11 h_11 w => ?_)
            obtain ⟨x_11, rfl, w⟩ := w
            show gV c d 5 (94, [some (.ref r0), some (.int x1), some (.int x2)], [.int x_11, .ref r0], h_11) Post
            obtain ⟨⟨fs12, e12⟩, w⟩ := w
            refine gw_call (jj := 7) (As := [.ref r0, .int x_11]) (rest := []) (hk _ _ rfl) (fun _ => rfl) rfl rfl (Nat.le_of_ble_eq_true rfl) (gm_rcv_v rfl e12 rfl) ?_
            refine ge_imp w (fun v12 h_12 w => ?_)
            obtain ⟨rfl, w⟩ := w
            show gV c d 5 (97, [some (.ref r0), some (.int x1), some (.int x2)], [], h_12) Post
            refine gw_pst hk 2 (st' := (99, [some (.ref r0), some (.int x1), some (.int x2)], [.int x1, .ref r0], h_12)) rfl ?_
            obtain ⟨⟨fs13, e13⟩, w⟩ := w
            refine gw_call (jj := 9) (As := [.ref r0, .int x1]) (rest := []) (hk _ _ rfl) (fun _ => rfl) rfl rfl (Nat.le_of_ble_eq_true rfl) (gm_rcv_v rfl e13 rfl) ?_
            refine ge_imp w (fun v13 h_13 w => ?_)
            obtain ⟨rfl, w⟩ := w
            show gV c d 5 (102, [some (.ref r0), some (.int x1), some (.int x2)], [], h_13) Post
            refine gw_le (L' := [none, none, none]) (gm_le_n _ (gm_le_n _ (gm_le_n _ gm_le_nil))) ?_
            exact ok5_102 c d Post _ w
          · replace w := w.2 z10
            refine gw_pst hk 2 (st' := (83, [some (.ref r0), some (.int x1), some (.int x2)], [.int 256, .ref r0], h_3)) rfl ?_
            obtain ⟨⟨fs14, e14⟩, w⟩ := w
            refine gw_call (jj := 9) (As := [.ref r0, .int 256]) (rest := []) (hk _ _ rfl) (fun _ => rfl) rfl rfl (Nat.le_of_ble_eq_true rfl) (gm_rcv_v rfl e14 rfl) ?_
            refine ge_imp w (fun v14 h_14 w => ?_)
            obtain ⟨rfl, w⟩ := w
            show gV c d 5 (86, [some (.ref r0), some (.int x1), some (.int x2)], [], h_14) Post
            refine gw_pst hk 1 (st' := (102, [some (.ref r0), some (.int x1), some (.int x2)], [], h_14)) rfl ?_
            refine gw_le (L' := [none, none, none]) (gm_le_n _ (gm_le_n _ (gm_le_n _ gm_le_nil))) ?_
            exact ok5_102 c d Post _ w
    · replace w := w.2 z4
      refine gw_pst hk 4 (st' := (34, [some (.ref r0), some (.int x1), some (.int x2)], [.int x1, .float 0, .int 1000, .ref r0], h_3)) rfl ?_
      refine gw_call (jj := 1002) (As := [.float 0, .int x1]) (rest := [.int 1000, .ref r0]) (hk _ _ rfl) (fun _ => rfl) rfl rfl (Nat.le_of_ble_eq_true rfl) rfl ?_
      refine ge_imp w (fun v15 h_15 w => ?_)
      obtain ⟨x_15, rfl, w⟩ := w
      show gV c d 5 (37, [some (.ref r0), some (.int x1), some (.int x2)], [.int x_15, .int 1000, .ref r0], h_15) Post
      refine gw_pst hk 1 (st' := (38, [some (.ref r0), some (.int x1), some (.int x2)], [.int (1000 + x_15), .ref r0], h_15)) rfl ?_
      obtain ⟨⟨fs16, e16⟩, w⟩ := w
      refine gw_call (jj := 8) (As := [.ref r0, .int (1000 + x_15)]) (rest := []) (hk _ _ rfl) (fun _ => rfl) rfl rfl (Nat.le_of_ble_eq_true rfl) (gm_rcv_v rfl e16 rfl) ?_
      refine ge_imp w (fun v16 h_16 w => ?_)
      obtain ⟨rfl, w⟩ := w
      show gV c d 5 (41, [some (.ref r0), some (.int x1), some (.int x2)], [], h_16) Post
      refine gw_pst hk 1 (st' := (42, [some (.ref r0), some (.int x1), some (.int x2)], [.int 0], h_16)) rfl ?_
      exact gw_ret (hk _ _ rfl) rfl w
  · replace w := w.2 z2
    refine gw_pst hk 5 (st' := (13, [some (.ref r0), some (.int x1), some (.int x2)], [.int x2, .int (x1 - 48), .ref r0], h_1)) rfl ?_
    obtain ⟨⟨fs17, e17⟩, w⟩ := w
    refine gw_call (jj := 6) (As := [.ref r0, .int (x1 - 48), .int x2]) (rest := []) (hk _ _ rfl) (fun _ => rfl) rfl rfl (Nat.le_of_ble_eq_true rfl) (gm_rcv_v rfl e17 rfl) ?_
    refine ge_imp w (fun v17 h_17 w => ?_)
    obtain ⟨rfl, w⟩ := w
    show gV c d 5 (16, [some (.ref r0), some (.int x1), some (.int x2)], [], h_17) Post
    refine gw_pst hk 1 (st' := (17, [some (.ref r0), some (.int x1), some (.int x2)], [.int 0], h_17)) rfl ?_
    exact gw_ret (hk _ _ rfl) rfl w
def w6_58 (c : gx) (d : Nat) (Post : Option Value → gm_H → Prop)  (h : gm_H) : Prop :=
  Post none h
theorem ok6_58 (c : gx) (d : Nat) (Post : Option Value → gm_H → Prop)   (h : gm_H) (w : w6_58 c d Post  h) : gV c d 6 (58, [none, none, none], [], h) Post := by
  have hk : ∀ pc i, gm_find gk_6 pc = some i → gm_code (gt_T c.1 c.2.1 c.2.2.1) 6 pc = some i := fun _ _ z => z
  unfold w6_58 at w
  unfold gV
  exact gw_ret (hk _ _ rfl) rfl w
/-- CommandByTurns$Formula.readDigit(IZ)V -/
def wm6 (c : gx) (d : Nat) (Post : Option Value → gm_H → Prop) (r0 : Nat) (x1 : Int32) (x2 : Int32) (h : gm_H) : Prop :=
  ((x2 = 0 → ∃ x_2 : Int32, gm_fld h r0 0 1 = some (.int x_2) ∧ ((x_2 ≤ 0 → w6_58 c d Post h) ∧ (¬ (x_2 ≤ 0) → ∃ x_4 : Int32, gm_fld h r0 0 1 = some (.int x_4) ∧ ∃ q_5 : Nat, gm_fld h r0 0 0 = some (.ref q_5) ∧ ∃ (n6 : Nat) (f6 : Nat → Int32), gm_get h q_5 = some (.inl (0, n6, .inl f6)) ∧ (((Int32.ofNat n6) < x_4 → w6_58 c d Post h) ∧ (¬ ((Int32.ofNat n6) < x_4) → ∃ q_8 : Nat, gm_fld h r0 0 0 = some (.ref q_8) ∧ ∃ x_9 : Int32, gm_fld h r0 0 1 = some (.int x_9) ∧ ∃ q_10 : Nat, gm_fld h r0 0 0 = some (.ref q_10) ∧ ∃ x_11 : Int32, gm_fld h r0 0 1 = some (.int x_11) ∧ ∃ (n12 : Nat) (f12 : Nat → Int32), gm_get h q_10 = some (.inl (0, n12, .inl f12)) ∧ vp_in (x_11 - 1) n12 ∧ ∃ (n13 : Nat) (f13 : Nat → Int32), gm_get h q_8 = some (.inl (0, n13, .inl f13)) ∧ vp_in (x_9 - 1) n13 ∧ ∀ h_13 : gm_H, h_13 = gm_put h q_8 (.inl (0, n13, .inl (upd f13 (x_9 - 1 : Int32).toNatClampNeg (vp_nar .int (((f12 (x_11 - 1 : Int32).toNatClampNeg) * 10) + x1))))) → w6_58 c d Post h_13))))) ∧ (¬ (x2 = 0) → (∃ fs14, gm_get h r0 = some (.inr (0, fs14))) ∧ gE c d 8 [.ref r0, .int x1] h (fun v14 h_14 => v14 = none ∧ w6_58 c d Post h_14)))
theorem okm6 (c : gx) (d : Nat) (Post : Option Value → gm_H → Prop) (r0 : Nat) (x1 : Int32) (x2 : Int32) (h : gm_H) (w : wm6 c d Post r0 x1 x2 h) : gE c (d + 1) 6 [.ref r0, .int x1, .int x2] h Post := by
  have hk : ∀ pc i, gm_find gk_6 pc = some i → gm_code (gt_T c.1 c.2.1 c.2.2.1) 6 pc = some i := fun _ _ z => z
  unfold wm6 at w
  refine ge_of (by decide) (Nat.le_of_ble_eq_true rfl) ?_
  show gV c d 6 (0, [some (.ref r0), some (.int x1), some (.int x2)], [], h) Post
  unfold gV
  refine gw_pst hk 1 (st' := (1, [some (.ref r0), some (.int x1), some (.int x2)], [.int x2], h)) rfl ?_
  refine gw_br (c := x2 = 0) (a := (12, [some (.ref r0), some (.int x1), some (.int x2)], [], h)) (b := (4, [some (.ref r0), some (.int x1), some (.int x2)], [], h)) (hk _ _ rfl) rfl ⟨fun z1 => ?_, fun z1 => ?_⟩
  · replace w := w.1 z1
    refine gw_pst hk 1 (st' := (13, [some (.ref r0), some (.int x1), some (.int x2)], [.ref r0], h)) rfl ?_
    obtain ⟨x_2, e2, w⟩ := w
    refine gw_gf (hk _ _ rfl) e2 ?_
    refine gw_br (c := x_2 ≤ 0) (a := (58, [some (.ref r0), some (.int x1), some (.int x2)], [], h)) (b := (19, [some (.ref r0), some (.int x1), some (.int x2)], [], h)) (hk _ _ rfl) rfl ⟨fun z3 => ?_, fun z3 => ?_⟩
    · replace w := w.1 z3
      refine gw_le (L' := [none, none, none]) (gm_le_n _ (gm_le_n _ (gm_le_n _ gm_le_nil))) ?_
      exact ok6_58 c d Post _ w
    · replace w := w.2 z3
      refine gw_pst hk 1 (st' := (20, [some (.ref r0), some (.int x1), some (.int x2)], [.ref r0], h)) rfl ?_
      obtain ⟨x_4, e4, w⟩ := w
      refine gw_gf (hk _ _ rfl) e4 ?_
      refine gw_pst hk 1 (st' := (24, [some (.ref r0), some (.int x1), some (.int x2)], [.ref r0, .int x_4], h)) rfl ?_
      obtain ⟨q_5, e5, w⟩ := w
      refine gw_gf (hk _ _ rfl) e5 ?_
      obtain ⟨n6, f6, e6, w⟩ := w
      refine gw_alen (hk _ _ rfl) e6 (by decide) ?_
      refine gw_br (c := (Int32.ofNat n6) < x_4) (a := (58, [some (.ref r0), some (.int x1), some (.int x2)], [], h)) (b := (31, [some (.ref r0), some (.int x1), some (.int x2)], [], h)) (hk _ _ rfl) rfl ⟨fun z7 => ?_, fun z7 => ?_⟩
      · replace w := w.1 z7
        refine gw_le (L' := [none, none, none]) (gm_le_n _ (gm_le_n _ (gm_le_n _ gm_le_nil))) ?_
        exact ok6_58 c d Post _ w
      · replace w := w.2 z7
        refine gw_pst hk 1 (st' := (32, [some (.ref r0), some (.int x1), some (.int x2)], [.ref r0], h)) rfl ?_
        obtain ⟨q_8, e8, w⟩ := w
        refine gw_gf (hk _ _ rfl) e8 ?_
        refine gw_pst hk 1 (st' := (36, [some (.ref r0), some (.int x1), some (.int x2)], [.ref r0, .ref q_8], h)) rfl ?_
        obtain ⟨x_9, e9, w⟩ := w
        refine gw_gf (hk _ _ rfl) e9 ?_
        refine gw_pst hk 3 (st' := (42, [some (.ref r0), some (.int x1), some (.int x2)], [.ref r0, .int (x_9 - 1), .ref q_8], h)) rfl ?_
        obtain ⟨q_10, e10, w⟩ := w
        refine gw_gf (hk _ _ rfl) e10 ?_
        refine gw_pst hk 1 (st' := (46, [some (.ref r0), some (.int x1), some (.int x2)], [.ref r0, .ref q_10, .int (x_9 - 1), .ref q_8], h)) rfl ?_
        obtain ⟨x_11, e11, w⟩ := w
        refine gw_gf (hk _ _ rfl) e11 ?_
        refine gw_pst hk 2 (st' := (51, [some (.ref r0), some (.int x1), some (.int x2)], [.int (x_11 - 1), .ref q_10, .int (x_9 - 1), .ref q_8], h)) rfl ?_
        obtain ⟨n12, f12, e12, b12, w⟩ := w
        refine gw_ald (hk _ _ rfl) (Or.inl ⟨rfl, rfl⟩) e12 b12 ?_
        refine gw_pst hk 4 (st' := (57, [some (.ref r0), some (.int x1), some (.int x2)], [.int (((f12 (x_11 - 1 : Int32).toNatClampNeg) * 10) + x1), .int (x_9 - 1), .ref q_8], h)) rfl ?_
        obtain ⟨n13, f13, e13, b13, w⟩ := w
        refine gw_ast (hk _ _ rfl) (Or.inl ⟨rfl, rfl, rfl⟩) e13 b13 ?_
        obtain ⟨h_13, eh13⟩ : ∃ z, z = gm_put h q_8 (.inl (0, n13, .inl (upd f13 (x_9 - 1 : Int32).toNatClampNeg (vp_nar .int (((f12 (x_11 - 1 : Int32).toNatClampNeg) * 10) + x1))))) := ⟨_, rfl⟩
        rw [← eh13]
        replace w := w h_13 eh13
        refine gw_le (L' := [none, none, none]) (gm_le_n _ (gm_le_n _ (gm_le_n _ gm_le_nil))) ?_
        exact ok6_58 c d Post _ w
  · replace w := w.2 z1
    refine gw_pst hk 2 (st' := (6, [some (.ref r0), some (.int x1), some (.int x2)], [.int x1, .ref r0], h)) rfl ?_
    obtain ⟨⟨fs14, e14⟩, w⟩ := w
    refine gw_call (jj := 8) (As := [.ref r0, .int x1]) (rest := []) (hk _ _ rfl) (fun _ => rfl) rfl rfl (Nat.le_of_ble_eq_true rfl) (gm_rcv_v rfl e14 rfl) ?_
    refine ge_imp w (fun v14 h_14 w => ?_)
    obtain ⟨rfl, w⟩ := w
    show gV c d 6 (9, [some (.ref r0), some (.int x1), some (.int x2)], [], h_14) Post
    refine gw_pst hk 1 (st' := (58, [some (.ref r0), some (.int x1), some (.int x2)], [], h_14)) rfl ?_
    refine gw_le (L' := [none, none, none]) (gm_le_n _ (gm_le_n _ (gm_le_n _ gm_le_nil))) ?_
    exact ok6_58 c d Post _ w
def w7_42 (c : gx) (d : Nat) (Post : Option Value → gm_H → Prop)  (h : gm_H) : Prop :=
  Post none h
theorem ok7_42 (c : gx) (d : Nat) (Post : Option Value → gm_H → Prop)   (h : gm_H) (w : w7_42 c d Post  h) : gV c d 7 (42, [none, none, none], [], h) Post := by
  have hk : ∀ pc i, gm_find gk_7 pc = some i → gm_code (gt_T c.1 c.2.1 c.2.2.1) 7 pc = some i := fun _ _ z => z
  unfold w7_42 at w
  unfold gV
  exact gw_ret (hk _ _ rfl) rfl w
def wb7_5 (c : gx) (d : Nat) (Post : Option Value → gm_H → Prop) (K5 : Nat → Int32 → Int32 → gm_H → Prop) (r0 : Nat) (x1 : Int32) (x2 : Int32) (h : gm_H) : Prop :=
  ((x2 ≤ 0 → w7_42 c d Post h) ∧ (¬ (x2 ≤ 0) → ∃ q_2 : Nat, gm_fld h r0 0 2 = some (.ref q_2) ∧ ∃ (n3 : Nat) (f3 : Nat → Int32), gm_get h q_2 = some (.inl (0, n3, .inl f3)) ∧ vp_in (x2 - 1) n3 ∧ gE c d 3 [.int (f3 (x2 - 1 : Int32).toNatClampNeg)] h (fun v4 h_4 => ∃ x_4 : Int32, v4 = some (.int x_4) ∧ ((x_4 < x1 → w7_42 c d Post h_4) ∧ (¬ (x_4 < x1) → (∃ fs6, gm_get h_4 r0 = some (.inr (0, fs6))) ∧ gE c d 10 [.ref r0] h_4 (fun v6 h_6 => ∃ x_6 : Int32, v6 = some (.int x_6) ∧ (∃ fs7, gm_get h_6 r0 = some (.inr (0, fs7))) ∧ gE c d 8 [.ref r0, .int (2000 + x_6)] h_6 (fun v7 h_7 => v7 = none ∧ K5 r0 x1 (x2 + (-1)) h_7)))))))
theorem okb7_5 (c : gx) (d : Nat) (Post : Option Value → gm_H → Prop) (K5 : Nat → Int32 → Int32 → gm_H → Prop)  (hK5 : ∀ (r0 : Nat) (x1 : Int32) (x2 : Int32) (h : gm_H), K5 r0 x1 x2 h → gV c d 7 (5, [some (.ref r0), some (.int x1), some (.int x2)], [], h) Post) (r0 : Nat) (x1 : Int32) (x2 : Int32) (h : gm_H) (w : wb7_5 c d Post K5 r0 x1 x2 h) : gV c d 7 (5, [some (.ref r0), some (.int x1), some (.int x2)], [], h) Post := by
  have hk : ∀ pc i, gm_find gk_7 pc = some i → gm_code (gt_T c.1 c.2.1 c.2.2.1) 7 pc = some i := fun _ _ z => z
  unfold wb7_5 at w
  unfold gV
  refine gw_pst hk 1 (st' := (6, [some (.ref r0), some (.int x1), some (.int x2)], [.int x2], h)) rfl ?_
  refine gw_br (c := x2 ≤ 0) (a := (42, [some (.ref r0), some (.int x1), some (.int x2)], [], h)) (b := (9, [some (.ref r0), some (.int x1), some (.int x2)], [], h)) (hk _ _ rfl) rfl ⟨fun z1 => ?_, fun z1 => ?_⟩
  · replace w := w.1 z1
    refine gw_le (L' := [none, none, none]) (gm_le_n _ (gm_le_n _ (gm_le_n _ gm_le_nil))) ?_
    exact ok7_42 c d Post _ w
  · replace w := w.2 z1
    refine gw_pst hk 1 (st' := (10, [some (.ref r0), some (.int x1), some (.int x2)], [.ref r0], h)) rfl ?_
    obtain ⟨q_2, e2, w⟩ := w
    refine gw_gf (hk _ _ rfl) e2 ?_
    refine gw_pst hk 3 (st' := (16, [some (.ref r0), some (.int x1), some (.int x2)], [.int (x2 - 1), .ref q_2], h)) rfl ?_
    obtain ⟨n3, f3, e3, b3, w⟩ := w
    refine gw_ald (hk _ _ rfl) (Or.inl ⟨rfl, rfl⟩) e3 b3 ?_
    refine gw_call (jj := 3) (As := [.int (f3 (x2 - 1 : Int32).toNatClampNeg)]) (rest := []) (hk _ _ rfl) (fun _ => rfl) rfl rfl (Nat.le_of_ble_eq_true rfl) rfl ?_
    refine ge_imp w (fun v4 h_4 w => ?_)
    obtain ⟨x_4, rfl, w⟩ := w
    show gV c d 7 (20, [some (.ref r0), some (.int x1), some (.int x2)], [.int x_4], h_4) Post
    refine gw_pst hk 1 (st' := (21, [some (.ref r0), some (.int x1), some (.int x2)], [.int x1, .int x_4], h_4)) rfl ?_
    refine gw_br (c := x_4 < x1) (a := (42, [some (.ref r0), some (.int x1), some (.int x2)], [], h_4)) (b := (24, [some (.ref r0), some (.int x1), some (.int x2)], [], h_4)) (hk _ _ rfl) rfl ⟨fun z5 => ?_, fun z5 => ?_⟩
    · replace w := w.1 z5
      refine gw_le (L' := [none, none, none]) (gm_le_n _ (gm_le_n _ (gm_le_n _ gm_le_nil))) ?_
      exact ok7_42 c d Post _ w
    · replace w := w.2 z5
      refine gw_pst hk 3 (st' := (29, [some (.ref r0), some (.int x1), some (.int x2)], [.ref r0, .int 2000, .ref r0], h_4)) rfl ?_
      obtain ⟨⟨fs6, e6⟩, w⟩ := w
      refine gw_call (jj := 10) (As := [.ref r0]) (rest := [.int 2000, .ref r0]) (hk _ _ rfl) (fun _ => rfl) rfl rfl (Nat.le_of_ble_eq_true rfl) (gm_rcv_v rfl e6 rfl) ?_
      refine ge_imp w (fun v6 h_6 w => ?_)
      obtain ⟨x_6, rfl, w⟩ := w
      show gV c d 7 (32, [some (.ref r0), some (.int x1), some (.int x2)], [.int x_6, .int 2000, .ref r0], h_6) Post
      refine gw_pst hk 1 (st' := (33, [some (.ref r0), some (.int x1), some (.int x2)], [.int (2000 + x_6), .ref r0], h_6)) rfl ?_
      obtain ⟨⟨fs7, e7⟩, w⟩ := w
      refine gw_call (jj := 8) (As := [.ref r0, .int (2000 + x_6)]) (rest := []) (hk _ _ rfl) (fun _ => rfl) rfl rfl (Nat.le_of_ble_eq_true rfl) (gm_rcv_v rfl e7 rfl) ?_
      refine ge_imp w (fun v7 h_7 w => ?_)
      obtain ⟨rfl, w⟩ := w
      show gV c d 7 (36, [some (.ref r0), some (.int x1), some (.int x2)], [], h_7) Post
      refine gw_pst hk 2 (st' := (5, [some (.ref r0), some (.int x1), some (.int (x2 + (-1)))], [], h_7)) rfl ?_
      exact hK5 _ _ _ _ w
def wl7_5 (c : gx) (d : Nat) (Post : Option Value → gm_H → Prop) : Nat → Nat → Int32 → Int32 → gm_H → Prop
  | 0 => fun _ _ _ _ => False
  | n + 1 => wb7_5 c d Post (wl7_5 c d Post n)
theorem okl7_5 (c : gx) (d : Nat) (Post : Option Value → gm_H → Prop) : ∀ (n : Nat) (r0 : Nat) (x1 : Int32) (x2 : Int32) (h : gm_H), wl7_5 c d Post n r0 x1 x2 h → gV c d 7 (5, [some (.ref r0), some (.int x1), some (.int x2)], [], h) Post
  | 0, _, _, _, _, w => w.elim
  | n + 1, r0, x1, x2, h, w => okb7_5 c d Post (wl7_5 c d Post n) (okl7_5 c d Post n) r0 x1 x2 h w
/-- CommandByTurns$Formula.writeWaiting(I)V -/
def wm7 (c : gx) (d : Nat) (Post : Option Value → gm_H → Prop) (r0 : Nat) (x1 : Int32) (h : gm_H) : Prop :=
  ∃ x_1 : Int32, gm_fld h r0 0 3 = some (.int x_1) ∧ ∃ n, wl7_5 c d Post n r0 x1 x_1 h
theorem okm7 (c : gx) (d : Nat) (Post : Option Value → gm_H → Prop) (r0 : Nat) (x1 : Int32) (h : gm_H) (w : wm7 c d Post r0 x1 h) : gE c (d + 1) 7 [.ref r0, .int x1] h Post := by
  have hk : ∀ pc i, gm_find gk_7 pc = some i → gm_code (gt_T c.1 c.2.1 c.2.2.1) 7 pc = some i := fun _ _ z => z
  unfold wm7 at w
  refine ge_of (by decide) (Nat.le_of_ble_eq_true rfl) ?_
  show gV c d 7 (0, [some (.ref r0), some (.int x1), none], [], h) Post
  unfold gV
  refine gw_pst hk 1 (st' := (1, [some (.ref r0), some (.int x1), none], [.ref r0], h)) rfl ?_
  obtain ⟨x_1, e1, w⟩ := w
  refine gw_gf (hk _ _ rfl) e1 ?_
  refine gw_pst hk 1 (st' := (5, [some (.ref r0), some (.int x1), some (.int x_1)], [], h)) rfl ?_
  obtain ⟨n, w⟩ := w
  exact okl7_5 c d Post n _ _ _ _ w
def w8_39 (c : gx) (d : Nat) (Post : Option Value → gm_H → Prop)  (h : gm_H) : Prop :=
  Post none h
theorem ok8_39 (c : gx) (d : Nat) (Post : Option Value → gm_H → Prop)   (h : gm_H) (w : w8_39 c d Post  h) : gV c d 8 (39, [none, none], [], h) Post := by
  have hk : ∀ pc i, gm_find gk_8 pc = some i → gm_code (gt_T c.1 c.2.1 c.2.2.1) 8 pc = some i := fun _ _ z => z
  unfold w8_39 at w
  unfold gV
  exact gw_ret (hk _ _ rfl) rfl w
/-- CommandByTurns$Formula.write(I)V -/
def wm8 (c : gx) (d : Nat) (Post : Option Value → gm_H → Prop) (r0 : Nat) (x1 : Int32) (h : gm_H) : Prop :=
  ∃ x_1 : Int32, gm_fld h r0 0 1 = some (.int x_1) ∧ ((x_1 < 0 → w8_39 c d Post h) ∧ (¬ (x_1 < 0) → ∃ x_3 : Int32, gm_fld h r0 0 1 = some (.int x_3) ∧ ∃ q_4 : Nat, gm_fld h r0 0 0 = some (.ref q_4) ∧ ∃ (n5 : Nat) (f5 : Nat → Int32), gm_get h q_4 = some (.inl (0, n5, .inl f5)) ∧ (((Int32.ofNat n5) ≤ x_3 → w8_39 c d Post h) ∧ (¬ ((Int32.ofNat n5) ≤ x_3) → ∃ q_7 : Nat, gm_fld h r0 0 0 = some (.ref q_7) ∧ ∃ x_8 : Int32, gm_fld h r0 0 1 = some (.int x_8) ∧ ∃ (n9 : Nat) (f9 : Nat → Int32), gm_get h q_7 = some (.inl (0, n9, .inl f9)) ∧ vp_in x_8 n9 ∧ ∀ h_9 : gm_H, h_9 = gm_put h q_7 (.inl (0, n9, .inl (upd f9 (x_8 : Int32).toNatClampNeg (vp_nar .int x1)))) → ∃ x_10 : Int32, gm_fld h_9 r0 0 1 = some (.int x_10) ∧ ∃ fs11 : List Value, gm_get h_9 r0 = some (.inr (0, fs11)) ∧ 1 < fs11.length ∧ ∀ h_11 : gm_H, h_11 = gm_put h_9 r0 (.inr (0, fs11.set 1 (.int (x_10 + 1)))) → w8_39 c d Post h_11))))
theorem okm8 (c : gx) (d : Nat) (Post : Option Value → gm_H → Prop) (r0 : Nat) (x1 : Int32) (h : gm_H) (w : wm8 c d Post r0 x1 h) : gE c (d + 1) 8 [.ref r0, .int x1] h Post := by
  have hk : ∀ pc i, gm_find gk_8 pc = some i → gm_code (gt_T c.1 c.2.1 c.2.2.1) 8 pc = some i := fun _ _ z => z
  unfold wm8 at w
  refine ge_of (by decide) (Nat.le_of_ble_eq_true rfl) ?_
  show gV c d 8 (0, [some (.ref r0), some (.int x1)], [], h) Post
  unfold gV
  refine gw_pst hk 1 (st' := (1, [some (.ref r0), some (.int x1)], [.ref r0], h)) rfl ?_
  obtain ⟨x_1, e1, w⟩ := w
  refine gw_gf (hk _ _ rfl) e1 ?_
  refine gw_br (c := x_1 < 0) (a := (39, [some (.ref r0), some (.int x1)], [], h)) (b := (7, [some (.ref r0), some (.int x1)], [], h)) (hk _ _ rfl) rfl ⟨fun z2 => ?_, fun z2 => ?_⟩
  · replace w := w.1 z2
    refine gw_le (L' := [none, none]) (gm_le_n _ (gm_le_n _ gm_le_nil)) ?_
    exact ok8_39 c d Post _ w
  · replace w := w.2 z2
    refine gw_pst hk 1 (st' := (8, [some (.ref r0), some (.int x1)], [.ref r0], h)) rfl ?_
    obtain ⟨x_3, e3, w⟩ := w
    refine gw_gf (hk _ _ rfl) e3 ?_
    refine gw_pst hk 1 (st' := (12, [some (.ref r0), some (.int x1)], [.ref r0, .int x_3], h)) rfl ?_
    obtain ⟨q_4, e4, w⟩ := w
    refine gw_gf (hk _ _ rfl) e4 ?_
    obtain ⟨n5, f5, e5, w⟩ := w
    refine gw_alen (hk _ _ rfl) e5 (by decide) ?_
    refine gw_br (c := (Int32.ofNat n5) ≤ x_3) (a := (39, [some (.ref r0), some (.int x1)], [], h)) (b := (19, [some (.ref r0), some (.int x1)], [], h)) (hk _ _ rfl) rfl ⟨fun z6 => ?_, fun z6 => ?_⟩
    · replace w := w.1 z6
      refine gw_le (L' := [none, none]) (gm_le_n _ (gm_le_n _ gm_le_nil)) ?_
      exact ok8_39 c d Post _ w
    · replace w := w.2 z6
      refine gw_pst hk 1 (st' := (20, [some (.ref r0), some (.int x1)], [.ref r0], h)) rfl ?_
      obtain ⟨q_7, e7, w⟩ := w
      refine gw_gf (hk _ _ rfl) e7 ?_
      refine gw_pst hk 1 (st' := (24, [some (.ref r0), some (.int x1)], [.ref r0, .ref q_7], h)) rfl ?_
      obtain ⟨x_8, e8, w⟩ := w
      refine gw_gf (hk _ _ rfl) e8 ?_
      refine gw_pst hk 1 (st' := (28, [some (.ref r0), some (.int x1)], [.int x1, .int x_8, .ref q_7], h)) rfl ?_
      obtain ⟨n9, f9, e9, b9, w⟩ := w
      refine gw_ast (hk _ _ rfl) (Or.inl ⟨rfl, rfl, rfl⟩) e9 b9 ?_
      obtain ⟨h_9, eh9⟩ : ∃ z, z = gm_put h q_7 (.inl (0, n9, .inl (upd f9 (x_8 : Int32).toNatClampNeg (vp_nar .int x1)))) := ⟨_, rfl⟩
      rw [← eh9]
      replace w := w h_9 eh9
      refine gw_pst hk 2 (st' := (31, [some (.ref r0), some (.int x1)], [.ref r0, .ref r0], h_9)) rfl ?_
      obtain ⟨x_10, e10, w⟩ := w
      refine gw_gf (hk _ _ rfl) e10 ?_
      refine gw_pst hk 2 (st' := (36, [some (.ref r0), some (.int x1)], [.int (x_10 + 1), .ref r0], h_9)) rfl ?_
      obtain ⟨fs11, e11, l11, w⟩ := w
      refine gw_pf (hk _ _ rfl) e11 l11 rfl ?_
      obtain ⟨h_11, eh11⟩ : ∃ z, z = gm_put h_9 r0 (.inr (0, fs11.set 1 (.int (x_10 + 1)))) := ⟨_, rfl⟩
      rw [← eh11]
      replace w := w h_11 eh11
      refine gw_le (L' := [none, none]) (gm_le_n _ (gm_le_n _ gm_le_nil)) ?_
      exact ok8_39 c d Post _ w
def w9_39 (c : gx) (d : Nat) (Post : Option Value → gm_H → Prop)  (h : gm_H) : Prop :=
  Post none h
theorem ok9_39 (c : gx) (d : Nat) (Post : Option Value → gm_H → Prop)   (h : gm_H) (w : w9_39 c d Post  h) : gV c d 9 (39, [none, none], [], h) Post := by
  have hk : ∀ pc i, gm_find gk_9 pc = some i → gm_code (gt_T c.1 c.2.1 c.2.2.1) 9 pc = some i := fun _ _ z => z
  unfold w9_39 at w
  unfold gV
  exact gw_ret (hk _ _ rfl) rfl w
/-- CommandByTurns$Formula.push(I)V -/
def wm9 (c : gx) (d : Nat) (Post : Option Value → gm_H → Prop) (r0 : Nat) (x1 : Int32) (h : gm_H) : Prop :=
  ∃ x_1 : Int32, gm_fld h r0 0 3 = some (.int x_1) ∧ ((x_1 < 0 → w9_39 c d Post h) ∧ (¬ (x_1 < 0) → ∃ x_3 : Int32, gm_fld h r0 0 3 = some (.int x_3) ∧ ∃ q_4 : Nat, gm_fld h r0 0 2 = some (.ref q_4) ∧ ∃ (n5 : Nat) (f5 : Nat → Int32), gm_get h q_4 = some (.inl (0, n5, .inl f5)) ∧ (((Int32.ofNat n5) ≤ x_3 → w9_39 c d Post h) ∧ (¬ ((Int32.ofNat n5) ≤ x_3) → ∃ q_7 : Nat, gm_fld h r0 0 2 = some (.ref q_7) ∧ ∃ x_8 : Int32, gm_fld h r0 0 3 = some (.int x_8) ∧ ∃ (n9 : Nat) (f9 : Nat → Int32), gm_get h q_7 = some (.inl (0, n9, .inl f9)) ∧ vp_in x_8 n9 ∧ ∀ h_9 : gm_H, h_9 = gm_put h q_7 (.inl (0, n9, .inl (upd f9 (x_8 : Int32).toNatClampNeg (vp_nar .int x1)))) → ∃ x_10 : Int32, gm_fld h_9 r0 0 3 = some (.int x_10) ∧ ∃ fs11 : List Value, gm_get h_9 r0 = some (.inr (0, fs11)) ∧ 3 < fs11.length ∧ ∀ h_11 : gm_H, h_11 = gm_put h_9 r0 (.inr (0, fs11.set 3 (.int (x_10 + 1)))) → w9_39 c d Post h_11))))
theorem okm9 (c : gx) (d : Nat) (Post : Option Value → gm_H → Prop) (r0 : Nat) (x1 : Int32) (h : gm_H) (w : wm9 c d Post r0 x1 h) : gE c (d + 1) 9 [.ref r0, .int x1] h Post := by
  have hk : ∀ pc i, gm_find gk_9 pc = some i → gm_code (gt_T c.1 c.2.1 c.2.2.1) 9 pc = some i := fun _ _ z => z
  unfold wm9 at w
  refine ge_of (by decide) (Nat.le_of_ble_eq_true rfl) ?_
  show gV c d 9 (0, [some (.ref r0), some (.int x1)], [], h) Post
  unfold gV
  refine gw_pst hk 1 (st' := (1, [some (.ref r0), some (.int x1)], [.ref r0], h)) rfl ?_
  obtain ⟨x_1, e1, w⟩ := w
  refine gw_gf (hk _ _ rfl) e1 ?_
  refine gw_br (c := x_1 < 0) (a := (39, [some (.ref r0), some (.int x1)], [], h)) (b := (7, [some (.ref r0), some (.int x1)], [], h)) (hk _ _ rfl) rfl ⟨fun z2 => ?_, fun z2 => ?_⟩
  · replace w := w.1 z2
    refine gw_le (L' := [none, none]) (gm_le_n _ (gm_le_n _ gm_le_nil)) ?_
    exact ok9_39 c d Post _ w
  · replace w := w.2 z2
    refine gw_pst hk 1 (st' := (8, [some (.ref r0), some (.int x1)], [.ref r0], h)) rfl ?_
    obtain ⟨x_3, e3, w⟩ := w
    refine gw_gf (hk _ _ rfl) e3 ?_
    refine gw_pst hk 1 (st' := (12, [some (.ref r0), some (.int x1)], [.ref r0, .int x_3], h)) rfl ?_
    obtain ⟨q_4, e4, w⟩ := w
    refine gw_gf (hk _ _ rfl) e4 ?_
    obtain ⟨n5, f5, e5, w⟩ := w
    refine gw_alen (hk _ _ rfl) e5 (by decide) ?_
    refine gw_br (c := (Int32.ofNat n5) ≤ x_3) (a := (39, [some (.ref r0), some (.int x1)], [], h)) (b := (19, [some (.ref r0), some (.int x1)], [], h)) (hk _ _ rfl) rfl ⟨fun z6 => ?_, fun z6 => ?_⟩
    · replace w := w.1 z6
      refine gw_le (L' := [none, none]) (gm_le_n _ (gm_le_n _ gm_le_nil)) ?_
      exact ok9_39 c d Post _ w
    · replace w := w.2 z6
      refine gw_pst hk 1 (st' := (20, [some (.ref r0), some (.int x1)], [.ref r0], h)) rfl ?_
      obtain ⟨q_7, e7, w⟩ := w
      refine gw_gf (hk _ _ rfl) e7 ?_
      refine gw_pst hk 1 (st' := (24, [some (.ref r0), some (.int x1)], [.ref r0, .ref q_7], h)) rfl ?_
      obtain ⟨x_8, e8, w⟩ := w
      refine gw_gf (hk _ _ rfl) e8 ?_
      refine gw_pst hk 1 (st' := (28, [some (.ref r0), some (.int x1)], [.int x1, .int x_8, .ref q_7], h)) rfl ?_
      obtain ⟨n9, f9, e9, b9, w⟩ := w
      refine gw_ast (hk _ _ rfl) (Or.inl ⟨rfl, rfl, rfl⟩) e9 b9 ?_
      obtain ⟨h_9, eh9⟩ : ∃ z, z = gm_put h q_7 (.inl (0, n9, .inl (upd f9 (x_8 : Int32).toNatClampNeg (vp_nar .int x1)))) := ⟨_, rfl⟩
      rw [← eh9]
      replace w := w h_9 eh9
      refine gw_pst hk 2 (st' := (31, [some (.ref r0), some (.int x1)], [.ref r0, .ref r0], h_9)) rfl ?_
      obtain ⟨x_10, e10, w⟩ := w
      refine gw_gf (hk _ _ rfl) e10 ?_
      refine gw_pst hk 2 (st' := (36, [some (.ref r0), some (.int x1)], [.int (x_10 + 1), .ref r0], h_9)) rfl ?_
      obtain ⟨fs11, e11, l11, w⟩ := w
      refine gw_pf (hk _ _ rfl) e11 l11 rfl ?_
      obtain ⟨h_11, eh11⟩ : ∃ z, z = gm_put h_9 r0 (.inr (0, fs11.set 3 (.int (x_10 + 1)))) := ⟨_, rfl⟩
      rw [← eh11]
      replace w := w h_11 eh11
      refine gw_le (L' := [none, none]) (gm_le_n _ (gm_le_n _ gm_le_nil)) ?_
      exact ok9_39 c d Post _ w
def w10_19 (c : gx) (d : Nat) (Post : Option Value → gm_H → Prop)  (h : gm_H) : Prop :=
  Post (some (.int 0)) h
theorem ok10_19 (c : gx) (d : Nat) (Post : Option Value → gm_H → Prop)   (h : gm_H) (w : w10_19 c d Post  h) : gV c d 10 (19, [none], [], h) Post := by
  have hk : ∀ pc i, gm_find gk_10 pc = some i → gm_code (gt_T c.1 c.2.1 c.2.2.1) 10 pc = some i := fun _ _ z => z
  unfold w10_19 at w
  unfold gV
  refine gw_pst hk 1 (st' := (20, [none], [.int 0], h)) rfl ?_
  exact gw_ret (hk _ _ rfl) rfl w
/-- CommandByTurns$Formula.take()I -/
def wm10 (c : gx) (d : Nat) (Post : Option Value → gm_H → Prop) (r0 : Nat) (h : gm_H) : Prop :=
  ∃ x_1 : Int32, gm_fld h r0 0 3 = some (.int x_1) ∧ ((x_1 ≤ 0 → w10_19 c d Post h) ∧ (¬ (x_1 ≤ 0) → ∃ x_3 : Int32, gm_fld h r0 0 3 = some (.int x_3) ∧ ∃ q_4 : Nat, gm_fld h r0 0 2 = some (.ref q_4) ∧ ∃ (n5 : Nat) (f5 : Nat → Int32), gm_get h q_4 = some (.inl (0, n5, .inl f5)) ∧ ((x_3 ≤ (Int32.ofNat n5) → ∃ x_7 : Int32, gm_fld h r0 0 3 = some (.int x_7) ∧ ∃ fs8 : List Value, gm_get h r0 = some (.inr (0, fs8)) ∧ 3 < fs8.length ∧ ∀ h_8 : gm_H, h_8 = gm_put h r0 (.inr (0, fs8.set 3 (.int (x_7 - 1)))) → ∃ q_9 : Nat, gm_fld h_8 r0 0 2 = some (.ref q_9) ∧ ∃ x_10 : Int32, gm_fld h_8 r0 0 3 = some (.int x_10) ∧ ∃ (n11 : Nat) (f11 : Nat → Int32), gm_get h_8 q_9 = some (.inl (0, n11, .inl f11)) ∧ vp_in x_10 n11 ∧ Post (some (.int (f11 (x_10 : Int32).toNatClampNeg))) h_8) ∧ (¬ (x_3 ≤ (Int32.ofNat n5)) → w10_19 c d Post h))))
theorem okm10 (c : gx) (d : Nat) (Post : Option Value → gm_H → Prop) (r0 : Nat) (h : gm_H) (w : wm10 c d Post r0 h) : gE c (d + 1) 10 [.ref r0] h Post := by
  have hk : ∀ pc i, gm_find gk_10 pc = some i → gm_code (gt_T c.1 c.2.1 c.2.2.1) 10 pc = some i := fun _ _ z => z
  unfold wm10 at w
  refine ge_of (by decide) (Nat.le_of_ble_eq_true rfl) ?_
  show gV c d 10 (0, [some (.ref r0)], [], h) Post
  unfold gV
  refine gw_pst hk 1 (st' := (1, [some (.ref r0)], [.ref r0], h)) rfl ?_
  obtain ⟨x_1, e1, w⟩ := w
  refine gw_gf (hk _ _ rfl) e1 ?_
  refine gw_br (c := x_1 ≤ 0) (a := (19, [some (.ref r0)], [], h)) (b := (7, [some (.ref r0)], [], h)) (hk _ _ rfl) rfl ⟨fun z2 => ?_, fun z2 => ?_⟩
  · replace w := w.1 z2
    refine gw_le (L' := [none]) (gm_le_n _ gm_le_nil) ?_
    exact ok10_19 c d Post _ w
  · replace w := w.2 z2
    refine gw_pst hk 1 (st' := (8, [some (.ref r0)], [.ref r0], h)) rfl ?_
    obtain ⟨x_3, e3, w⟩ := w
    refine gw_gf (hk _ _ rfl) e3 ?_
    refine gw_pst hk 1 (st' := (12, [some (.ref r0)], [.ref r0, .int x_3], h)) rfl ?_
    obtain ⟨q_4, e4, w⟩ := w
    refine gw_gf (hk _ _ rfl) e4 ?_
    obtain ⟨n5, f5, e5, w⟩ := w
    refine gw_alen (hk _ _ rfl) e5 (by decide) ?_
    refine gw_br (c := x_3 ≤ (Int32.ofNat n5)) (a := (21, [some (.ref r0)], [], h)) (b := (19, [some (.ref r0)], [], h)) (hk _ _ rfl) rfl ⟨fun z6 => ?_, fun z6 => ?_⟩
    · replace w := w.1 z6
      refine gw_pst hk 2 (st' := (23, [some (.ref r0)], [.ref r0, .ref r0], h)) rfl ?_
      obtain ⟨x_7, e7, w⟩ := w
      refine gw_gf (hk _ _ rfl) e7 ?_
      refine gw_pst hk 2 (st' := (28, [some (.ref r0)], [.int (x_7 - 1), .ref r0], h)) rfl ?_
      obtain ⟨fs8, e8, l8, w⟩ := w
      refine gw_pf (hk _ _ rfl) e8 l8 rfl ?_
      obtain ⟨h_8, eh8⟩ : ∃ z, z = gm_put h r0 (.inr (0, fs8.set 3 (.int (x_7 - 1)))) := ⟨_, rfl⟩
      rw [← eh8]
      replace w := w h_8 eh8
      refine gw_pst hk 1 (st' := (32, [some (.ref r0)], [.ref r0], h_8)) rfl ?_
      obtain ⟨q_9, e9, w⟩ := w
      refine gw_gf (hk _ _ rfl) e9 ?_
      refine gw_pst hk 1 (st' := (36, [some (.ref r0)], [.ref r0, .ref q_9], h_8)) rfl ?_
      obtain ⟨x_10, e10, w⟩ := w
      refine gw_gf (hk _ _ rfl) e10 ?_
      obtain ⟨n11, f11, e11, b11, w⟩ := w
      refine gw_ald (hk _ _ rfl) (Or.inl ⟨rfl, rfl⟩) e11 b11 ?_
      exact gw_ret (hk _ _ rfl) rfl w
    · replace w := w.2 z6
      refine gw_le (L' := [none]) (gm_le_n _ gm_le_nil) ?_
      exact ok10_19 c d Post _ w
def w11_129 (c : gx) (d : Nat) (Post : Option Value → gm_H → Prop) (K7 : Nat → Nat → Int32 → gm_H → Prop) (r0 : Nat) (r1 : Nat) (x2 : Int32) (h : gm_H) : Prop :=
  K7 r0 r1 (x2 + 1) h
theorem ok11_129 (c : gx) (d : Nat) (Post : Option Value → gm_H → Prop) (K7 : Nat → Nat → Int32 → gm_H → Prop)  (hK7 : ∀ (r0 : Nat) (r1 : Nat) (x2 : Int32) (h : gm_H), K7 r0 r1 x2 h → gV c d 11 (7, [some (.ref r0), some (.ref r1), some (.int x2), none, none, none], [], h) Post) (r0 : Nat) (r1 : Nat) (x2 : Int32) (h : gm_H) (w : w11_129 c d Post K7 r0 r1 x2 h) : gV c d 11 (129, [some (.ref r0), some (.ref r1), some (.int x2), none, none, none], [], h) Post := by
  have hk : ∀ pc i, gm_find gk_11 pc = some i → gm_code (gt_T c.1 c.2.1 c.2.2.1) 11 pc = some i := fun _ _ z => z
  unfold w11_129 at w
  unfold gV
  refine gw_pst hk 2 (st' := (7, [some (.ref r0), some (.ref r1), some (.int (x2 + 1)), none, none, none], [], h)) rfl ?_
  exact hK7 _ _ _ _ w
def w11_76 (c : gx) (d : Nat) (Post : Option Value → gm_H → Prop) (K7 : Nat → Nat → Int32 → gm_H → Prop) (r0 : Nat) (r1 : Nat) (x2 : Int32) (rs0 : Nat) (xs1 : Int32) (h : gm_H) : Prop :=
  (∃ fs1, gm_get h rs0 = some (.inr (0, fs1))) ∧ gE c d 9 [.ref rs0, .int xs1] h (fun v1 h_1 => v1 = none ∧ w11_129 c d Post K7 r0 r1 x2 h_1)
theorem ok11_76 (c : gx) (d : Nat) (Post : Option Value → gm_H → Prop) (K7 : Nat → Nat → Int32 → gm_H → Prop)  (hK7 : ∀ (r0 : Nat) (r1 : Nat) (x2 : Int32) (h : gm_H), K7 r0 r1 x2 h → gV c d 11 (7, [some (.ref r0), some (.ref r1), some (.int x2), none, none, none], [], h) Post) (r0 : Nat) (r1 : Nat) (x2 : Int32) (rs0 : Nat) (xs1 : Int32) (h : gm_H) (w : w11_76 c d Post K7 r0 r1 x2 rs0 xs1 h) : gV c d 11 (76, [some (.ref r0), some (.ref r1), some (.int x2), none, none, none], [.int xs1, .ref rs0], h) Post := by
  have hk : ∀ pc i, gm_find gk_11 pc = some i → gm_code (gt_T c.1 c.2.1 c.2.2.1) 11 pc = some i := fun _ _ z => z
  unfold w11_76 at w
  unfold gV
  obtain ⟨⟨fs1, e1⟩, w⟩ := w
  refine gw_call (jj := 9) (As := [.ref rs0, .int xs1]) (rest := []) (hk _ _ rfl) (fun _ => rfl) rfl rfl (Nat.le_of_ble_eq_true rfl) (gm_rcv_v rfl e1 rfl) ?_
  refine ge_imp w (fun v1 h_1 w => ?_)
  obtain ⟨rfl, w⟩ := w
  show gV c d 11 (79, [some (.ref r0), some (.ref r1), some (.int x2), none, none, none], [], h_1) Post
  refine gw_pst hk 1 (st' := (129, [some (.ref r0), some (.ref r1), some (.int x2), none, none, none], [], h_1)) rfl ?_
  exact ok11_129 c d Post K7 hK7 _ _ _ _ w
def w11_135 (c : gx) (d : Nat) (Post : Option Value → gm_H → Prop) (r0 : Nat) (h : gm_H) : Prop :=
  (∃ fs1, gm_get h r0 = some (.inr (0, fs1))) ∧ gE c d 10 [.ref r0] h (fun v1 h_1 => ∃ x_1 : Int32, v1 = some (.int x_1) ∧ Post (some (.int x_1)) h_1)
theorem ok11_135 (c : gx) (d : Nat) (Post : Option Value → gm_H → Prop)  (r0 : Nat) (h : gm_H) (w : w11_135 c d Post r0 h) : gV c d 11 (135, [some (.ref r0), none, none, none, none, none], [], h) Post := by
  have hk : ∀ pc i, gm_find gk_11 pc = some i → gm_code (gt_T c.1 c.2.1 c.2.2.1) 11 pc = some i := fun _ _ z => z
  unfold w11_135 at w
  unfold gV
  refine gw_pst hk 1 (st' := (136, [some (.ref r0), none, none, none, none, none], [.ref r0], h)) rfl ?_
  obtain ⟨⟨fs1, e1⟩, w⟩ := w
  refine gw_call (jj := 10) (As := [.ref r0]) (rest := []) (hk _ _ rfl) (fun _ => rfl) rfl rfl (Nat.le_of_ble_eq_true rfl) (gm_rcv_v rfl e1 rfl) ?_
  refine ge_imp w (fun v1 h_1 w => ?_)
  obtain ⟨x_1, rfl, w⟩ := w
  show gV c d 11 (139, [some (.ref r0), none, none, none, none, none], [.int x_1], h_1) Post
  exact gw_ret (hk _ _ rfl) rfl w
def wb11_7 (c : gx) (d : Nat) (Post : Option Value → gm_H → Prop) (K7 : Nat → Nat → Int32 → gm_H → Prop) (r0 : Nat) (r1 : Nat) (x2 : Int32) (h : gm_H) : Prop :=
  ∃ x_1 : Int32, gm_fld h r0 0 1 = some (.int x_1) ∧ ((x_1 ≤ x2 → w11_135 c d Post r0 h) ∧ (¬ (x_1 ≤ x2) → ∃ q_3 : Nat, gm_fld h r0 0 0 = some (.ref q_3) ∧ ∃ (n4 : Nat) (f4 : Nat → Int32), gm_get h q_3 = some (.inl (0, n4, .inl f4)) ∧ (((Int32.ofNat n4) ≤ x2 → w11_135 c d Post r0 h) ∧ (¬ ((Int32.ofNat n4) ≤ x2) → ∃ q_6 : Nat, gm_fld h r0 0 0 = some (.ref q_6) ∧ ∃ (n7 : Nat) (f7 : Nat → Int32), gm_get h q_6 = some (.inl (0, n7, .inl f7)) ∧ vp_in x2 n7 ∧ ((1000 ≤ (f7 (x2 : Int32).toNatClampNeg) → ((2000 ≤ (f7 (x2 : Int32).toNatClampNeg) → (((f7 (x2 : Int32).toNatClampNeg) = 2256 → (∃ fs11, gm_get h r0 = some (.inr (0, fs11))) ∧ gE c d 10 [.ref r0] h (fun v11 h_11 => ∃ x_11 : Int32, v11 = some (.int x_11) ∧ (∃ fs12, gm_get h_11 r0 = some (.inr (0, fs12))) ∧ gE c d 9 [.ref r0, .int (-x_11)] h_11 (fun v12 h_12 => v12 = none ∧ w11_129 c d Post K7 r0 r1 x2 h_12))) ∧ (¬ ((f7 (x2 : Int32).toNatClampNeg) = 2256) → (∃ fs13, gm_get h r0 = some (.inr (0, fs13))) ∧ gE c d 10 [.ref r0] h (fun v13 h_13 => ∃ x_13 : Int32, v13 = some (.int x_13) ∧ (∃ fs14, gm_get h_13 r0 = some (.inr (0, fs14))) ∧ gE c d 10 [.ref r0] h_13 (fun v14 h_14 => ∃ x_14 : Int32, v14 = some (.int x_14) ∧ gE c d 12 [.int ((f7 (x2 : Int32).toNatClampNeg) - 2000), .int x_14, .int x_13] h_14 (fun v15 h_15 => ∃ x_15 : Int32, v15 = some (.int x_15) ∧ (∃ fs16, gm_get h_15 r0 = some (.inr (0, fs16))) ∧ gE c d 9 [.ref r0, .int x_15] h_15 (fun v16 h_16 => v16 = none ∧ w11_129 c d Post K7 r0 r1 x2 h_16))))))) ∧ (¬ (2000 ≤ (f7 (x2 : Int32).toNatClampNeg)) → ∃ (n17 : Nat) (f17 : Nat → Int32), gm_get h r1 = some (.inl (0, n17, .inl f17)) ∧ (((Int32.ofNat n17) ≤ ((f7 (x2 : Int32).toNatClampNeg) - 1000) → w11_76 c d Post K7 r0 r1 x2 r0 0 h) ∧ (¬ ((Int32.ofNat n17) ≤ ((f7 (x2 : Int32).toNatClampNeg) - 1000)) → ∃ (n19 : Nat) (f19 : Nat → Int32), gm_get h r1 = some (.inl (0, n19, .inl f19)) ∧ vp_in ((f7 (x2 : Int32).toNatClampNeg) - 1000) n19 ∧ w11_76 c d Post K7 r0 r1 x2 r0 (f19 ((f7 (x2 : Int32).toNatClampNeg) - 1000 : Int32).toNatClampNeg) h))))) ∧ (¬ (1000 ≤ (f7 (x2 : Int32).toNatClampNeg)) → (∃ fs20, gm_get h r0 = some (.inr (0, fs20))) ∧ gE c d 9 [.ref r0, .int (f7 (x2 : Int32).toNatClampNeg)] h (fun v20 h_20 => v20 = none ∧ w11_129 c d Post K7 r0 r1 x2 h_20)))))))
theorem okb11_7 (c : gx) (d : Nat) (Post : Option Value → gm_H → Prop) (K7 : Nat → Nat → Int32 → gm_H → Prop)  (hK7 : ∀ (r0 : Nat) (r1 : Nat) (x2 : Int32) (h : gm_H), K7 r0 r1 x2 h → gV c d 11 (7, [some (.ref r0), some (.ref r1), some (.int x2), none, none, none], [], h) Post) (r0 : Nat) (r1 : Nat) (x2 : Int32) (h : gm_H) (w : wb11_7 c d Post K7 r0 r1 x2 h) : gV c d 11 (7, [some (.ref r0), some (.ref r1), some (.int x2), none, none, none], [], h) Post := by
  have hk : ∀ pc i, gm_find gk_11 pc = some i → gm_code (gt_T c.1 c.2.1 c.2.2.1) 11 pc = some i := fun _ _ z => z
  unfold wb11_7 at w
  unfold gV
  refine gw_pst hk 2 (st' := (9, [some (.ref r0), some (.ref r1), some (.int x2), none, none, none], [.ref r0, .int x2], h)) rfl ?_
  obtain ⟨x_1, e1, w⟩ := w
  refine gw_gf (hk _ _ rfl) e1 ?_
  refine gw_br (c := x_1 ≤ x2) (a := (135, [some (.ref r0), some (.ref r1), some (.int x2), none, none, none], [], h)) (b := (15, [some (.ref r0), some (.ref r1), some (.int x2), none, none, none], [], h)) (hk _ _ rfl) rfl ⟨fun z2 => ?_, fun z2 => ?_⟩
  · replace w := w.1 z2
    refine gw_le (L' := [some (.ref r0), none, none, none, none, none]) (gm_le_k _ (gm_le_n _ (gm_le_n _ (gm_le_k _ (gm_le_k _ (gm_le_k _ gm_le_nil)))))) ?_
    exact ok11_135 c d Post _ _ w
  · replace w := w.2 z2
    refine gw_pst hk 2 (st' := (17, [some (.ref r0), some (.ref r1), some (.int x2), none, none, none], [.ref r0, .int x2], h)) rfl ?_
    obtain ⟨q_3, e3, w⟩ := w
    refine gw_gf (hk _ _ rfl) e3 ?_
    obtain ⟨n4, f4, e4, w⟩ := w
    refine gw_alen (hk _ _ rfl) e4 (by decide) ?_
    refine gw_br (c := (Int32.ofNat n4) ≤ x2) (a := (135, [some (.ref r0), some (.ref r1), some (.int x2), none, none, none], [], h)) (b := (24, [some (.ref r0), some (.ref r1), some (.int x2), none, none, none], [], h)) (hk _ _ rfl) rfl ⟨fun z5 => ?_, fun z5 => ?_⟩
    · replace w := w.1 z5
      refine gw_le (L' := [some (.ref r0), none, none, none, none, none]) (gm_le_k _ (gm_le_n _ (gm_le_n _ (gm_le_k _ (gm_le_k _ (gm_le_k _ gm_le_nil)))))) ?_
      exact ok11_135 c d Post _ _ w
    · replace w := w.2 z5
      refine gw_pst hk 1 (st' := (25, [some (.ref r0), some (.ref r1), some (.int x2), none, none, none], [.ref r0], h)) rfl ?_
      obtain ⟨q_6, e6, w⟩ := w
      refine gw_gf (hk _ _ rfl) e6 ?_
      refine gw_pst hk 1 (st' := (29, [some (.ref r0), some (.ref r1), some (.int x2), none, none, none], [.int x2, .ref q_6], h)) rfl ?_
      obtain ⟨n7, f7, e7, b7, w⟩ := w
      refine gw_ald (hk _ _ rfl) (Or.inl ⟨rfl, rfl⟩) e7 b7 ?_
      refine gw_pst hk 3 (st' := (35, [some (.ref r0), some (.ref r1), some (.int x2), some (.int (f7 (x2 : Int32).toNatClampNeg)), none, none], [.int 1000, .int (f7 (x2 : Int32).toNatClampNeg)], h)) rfl ?_
      refine gw_br (c := 1000 ≤ (f7 (x2 : Int32).toNatClampNeg)) (a := (46, [some (.ref r0), some (.ref r1), some (.int x2), some (.int (f7 (x2 : Int32).toNatClampNeg)), none, none], [], h)) (b := (38, [some (.ref r0), some (.ref r1), some (.int x2), some (.int (f7 (x2 : Int32).toNatClampNeg)), none, none], [], h)) (hk _ _ rfl) rfl ⟨fun z8 => ?_, fun z8 => ?_⟩
      · replace w := w.1 z8
        refine gw_pst hk 2 (st' := (50, [some (.ref r0), some (.ref r1), some (.int x2), some (.int (f7 (x2 : Int32).toNatClampNeg)), none, none], [.int 2000, .int (f7 (x2 : Int32).toNatClampNeg)], h)) rfl ?_
        refine gw_br (c := 2000 ≤ (f7 (x2 : Int32).toNatClampNeg)) (a := (82, [some (.ref r0), some (.ref r1), some (.int x2), some (.int (f7 (x2 : Int32).toNatClampNeg)), none, none], [], h)) (b := (53, [some (.ref r0), some (.ref r1), some (.int x2), some (.int (f7 (x2 : Int32).toNatClampNeg)), none, none], [], h)) (hk _ _ rfl) rfl ⟨fun z9 => ?_, fun z9 => ?_⟩
        · replace w := w.1 z9
          refine gw_pst hk 2 (st' := (86, [some (.ref r0), some (.ref r1), some (.int x2), some (.int (f7 (x2 : Int32).toNatClampNeg)), none, none], [.int 2256, .int (f7 (x2 : Int32).toNatClampNeg)], h)) rfl ?_
          refine gw_br (c := (f7 (x2 : Int32).toNatClampNeg) = 2256) (a := (89, [some (.ref r0), some (.ref r1), some (.int x2), some (.int (f7 (x2 : Int32).toNatClampNeg)), none, none], [], h)) (b := (101, [some (.ref r0), some (.ref r1), some (.int x2), some (.int (f7 (x2 : Int32).toNatClampNeg)), none, none], [], h)) (hk _ _ rfl) rfl ⟨fun z10 => ?_, fun z10 => ?_⟩
          · replace w := w.1 z10
            refine gw_pst hk 2 (st' := (91, [some (.ref r0), some (.ref r1), some (.int x2), some (.int (f7 (x2 : Int32).toNatClampNeg)), none, none], [.ref r0, .ref r0], h)) rfl ?_
            obtain ⟨⟨fs11, e11⟩, w⟩ := w
            refine gw_call (jj := 10) (As := [.ref r0]) (rest := [.ref r0]) (hk _ _ rfl) (fun _ => rfl) rfl rfl (Nat.le_of_ble_eq_true rfl) (gm_rcv_v rfl e11 rfl) ?_
            refine ge_imp w (fun v11 h_11 w => ?_)
            obtain ⟨x_11, rfl, w⟩ := w
            show gV c d 11 (94, [some (.ref r0), some (.ref r1), some (.int x2), some (.int (f7 (x2 : Int32).toNatClampNeg)), none, none], [.int x_11, .ref r0], h_11) Post
            refine gw_pst hk 1 (st' := (95, [some (.ref r0), some (.ref r1), some (.int x2), some (.int (f7 (x2 : Int32).toNatClampNeg)), none, none], [.int (-x_11), .ref r0], h_11)) rfl ?_
            obtain ⟨⟨fs12, e12⟩, w⟩ := w
            refine gw_call (jj := 9) (As := [.ref r0, .int (-x_11)]) (rest := []) (hk _ _ rfl) (fun _ => rfl) rfl rfl (Nat.le_of_ble_eq_true rfl) (gm_rcv_v rfl e12 rfl) ?_
            refine ge_imp w (fun v12 h_12 w => ?_)
            obtain ⟨rfl, w⟩ := w
            show gV c d 11 (98, [some (.ref r0), some (.ref r1), some (.int x2), some (.int (f7 (x2 : Int32).toNatClampNeg)), none, none], [], h_12) Post
            refine gw_pst hk 1 (st' := (129, [some (.ref r0), some (.ref r1), some (.int x2), some (.int (f7 (x2 : Int32).toNatClampNeg)), none, none], [], h_12)) rfl ?_
            refine gw_le (L' := [some (.ref r0), some (.ref r1), some (.int x2), none, none, none]) (gm_le_k _ (gm_le_k _ (gm_le_k _ (gm_le_n _ (gm_le_k _ (gm_le_k _ gm_le_nil)))))) ?_
            exact ok11_129 c d Post K7 hK7 _ _ _ _ w
          · replace w := w.2 z10
            refine gw_pst hk 1 (st' := (102, [some (.ref r0), some (.ref r1), some (.int x2), some (.int (f7 (x2 : Int32).toNatClampNeg)), none, none], [.ref r0], h)) rfl ?_
            obtain ⟨⟨fs13, e13⟩, w⟩ := w
            refine gw_call (jj := 10) (As := [.ref r0]) (rest := []) (hk _ _ rfl) (fun _ => rfl) rfl rfl (Nat.le_of_ble_eq_true rfl) (gm_rcv_v rfl e13 rfl) ?_
            refine ge_imp w (fun v13 h_13 w => ?_)
            obtain ⟨x_13, rfl, w⟩ := w
            show gV c d 11 (105, [some (.ref r0), some (.ref r1), some (.int x2), some (.int (f7 (x2 : Int32).toNatClampNeg)), none, none], [.int x_13], h_13) Post
            refine gw_pst hk 2 (st' := (108, [some (.ref r0), some (.ref r1), some (.int x2), some (.int (f7 (x2 : Int32).toNatClampNeg)), some (.int x_13), none], [.ref r0], h_13)) rfl ?_
            obtain ⟨⟨fs14, e14⟩, w⟩ := w
            refine gw_call (jj := 10) (As := [.ref r0]) (rest := []) (hk _ _ rfl) (fun _ => rfl) rfl rfl (Nat.le_of_ble_eq_true rfl) (gm_rcv_v rfl e14 rfl) ?_
            refine ge_imp w (fun v14 h_14 w => ?_)
            obtain ⟨x_14, rfl, w⟩ := w
            show gV c d 11 (111, [some (.ref r0), some (.ref r1), some (.int x2), some (.int (f7 (x2 : Int32).toNatClampNeg)), some (.int x_13), none], [.int x_14], h_14) Post
            refine gw_pst hk 7 (st' := (123, [some (.ref r0), some (.ref r1), some (.int x2), some (.int (f7 (x2 : Int32).toNatClampNeg)), some (.int x_13), some (.int x_14)], [.int x_13, .int x_14, .int ((f7 (x2 : Int32).toNatClampNeg) - 2000), .ref r0], h_14)) rfl ?_
            refine gw_call (jj := 12) (As := [.int ((f7 (x2 : Int32).toNatClampNeg) - 2000), .int x_14, .int x_13]) (rest := [.ref r0]) (hk _ _ rfl) (fun _ => rfl) rfl rfl (Nat.le_of_ble_eq_true rfl) rfl ?_
            refine ge_imp w (fun v15 h_15 w => ?_)
            obtain ⟨x_15, rfl, w⟩ := w
            show gV c d 11 (126, [some (.ref r0), some (.ref r1), some (.int x2), some (.int (f7 (x2 : Int32).toNatClampNeg)), some (.int x_13), some (.int x_14)], [.int x_15, .ref r0], h_15) Post
            obtain ⟨⟨fs16, e16⟩, w⟩ := w
            refine gw_call (jj := 9) (As := [.ref r0, .int x_15]) (rest := []) (hk _ _ rfl) (fun _ => rfl) rfl rfl (Nat.le_of_ble_eq_true rfl) (gm_rcv_v rfl e16 rfl) ?_
            refine ge_imp w (fun v16 h_16 w => ?_)
            obtain ⟨rfl, w⟩ := w
            show gV c d 11 (129, [some (.ref r0), some (.ref r1), some (.int x2), some (.int (f7 (x2 : Int32).toNatClampNeg)), some (.int x_13), some (.int x_14)], [], h_16) Post
            refine gw_le (L' := [some (.ref r0), some (.ref r1), some (.int x2), none, none, none]) (gm_le_k _ (gm_le_k _ (gm_le_k _ (gm_le_n _ (gm_le_n _ (gm_le_n _ gm_le_nil)))))) ?_
            exact ok11_129 c d Post K7 hK7 _ _ _ _ w
        · replace w := w.2 z9
          refine gw_pst hk 7 (st' := (64, [some (.ref r0), some (.ref r1), some (.int x2), some (.int (f7 (x2 : Int32).toNatClampNeg)), some (.int ((f7 (x2 : Int32).toNatClampNeg) - 1000)), none], [.ref r1, .int ((f7 (x2 : Int32).toNatClampNeg) - 1000), .ref r0], h)) rfl ?_
          obtain ⟨n17, f17, e17, w⟩ := w
          refine gw_alen (hk _ _ rfl) e17 (by decide) ?_
          refine gw_br (c := (Int32.ofNat n17) ≤ ((f7 (x2 : Int32).toNatClampNeg) - 1000)) (a := (75, [some (.ref r0), some (.ref r1), some (.int x2), some (.int (f7 (x2 : Int32).toNatClampNeg)), some (.int ((f7 (x2 : Int32).toNatClampNeg) - 1000)), none], [.ref r0], h)) (b := (68, [some (.ref r0), some (.ref r1), some (.int x2), some (.int (f7 (x2 : Int32).toNatClampNeg)), some (.int ((f7 (x2 : Int32).toNatClampNeg) - 1000)), none], [.ref r0], h)) (hk _ _ rfl) rfl ⟨fun z18 => ?_, fun z18 => ?_⟩
          · replace w := w.1 z18
            refine gw_pst hk 1 (st' := (76, [some (.ref r0), some (.ref r1), some (.int x2), some (.int (f7 (x2 : Int32).toNatClampNeg)), some (.int ((f7 (x2 : Int32).toNatClampNeg) - 1000)), none], [.int 0, .ref r0], h)) rfl ?_
            refine gw_le (L' := [some (.ref r0), some (.ref r1), some (.int x2), none, none, none]) (gm_le_k _ (gm_le_k _ (gm_le_k _ (gm_le_n _ (gm_le_n _ (gm_le_k _ gm_le_nil)))))) ?_
            exact ok11_76 c d Post K7 hK7 _ _ _ _ _ _ w
          · replace w := w.2 z18
            refine gw_pst hk 2 (st' := (71, [some (.ref r0), some (.ref r1), some (.int x2), some (.int (f7 (x2 : Int32).toNatClampNeg)), some (.int ((f7 (x2 : Int32).toNatClampNeg) - 1000)), none], [.int ((f7 (x2 : Int32).toNatClampNeg) - 1000), .ref r1, .ref r0], h)) rfl ?_
            obtain ⟨n19, f19, e19, b19, w⟩ := w
            refine gw_ald (hk _ _ rfl) (Or.inl ⟨rfl, rfl⟩) e19 b19 ?_
            refine gw_pst hk 1 (st' := (76, [some (.ref r0), some (.ref r1), some (.int x2), some (.int (f7 (x2 : Int32).toNatClampNeg)), some (.int ((f7 (x2 : Int32).toNatClampNeg) - 1000)), none], [.int (f19 ((f7 (x2 : Int32).toNatClampNeg) - 1000 : Int32).toNatClampNeg), .ref r0], h)) rfl ?_
            refine gw_le (L' := [some (.ref r0), some (.ref r1), some (.int x2), none, none, none]) (gm_le_k _ (gm_le_k _ (gm_le_k _ (gm_le_n _ (gm_le_n _ (gm_le_k _ gm_le_nil)))))) ?_
            exact ok11_76 c d Post K7 hK7 _ _ _ _ _ _ w
      · replace w := w.2 z8
        refine gw_pst hk 2 (st' := (40, [some (.ref r0), some (.ref r1), some (.int x2), some (.int (f7 (x2 : Int32).toNatClampNeg)), none, none], [.int (f7 (x2 : Int32).toNatClampNeg), .ref r0], h)) rfl ?_
        obtain ⟨⟨fs20, e20⟩, w⟩ := w
        refine gw_call (jj := 9) (As := [.ref r0, .int (f7 (x2 : Int32).toNatClampNeg)]) (rest := []) (hk _ _ rfl) (fun _ => rfl) rfl rfl (Nat.le_of_ble_eq_true rfl) (gm_rcv_v rfl e20 rfl) ?_
        refine ge_imp w (fun v20 h_20 w => ?_)
        obtain ⟨rfl, w⟩ := w
        show gV c d 11 (43, [some (.ref r0), some (.ref r1), some (.int x2), some (.int (f7 (x2 : Int32).toNatClampNeg)), none, none], [], h_20) Post
        refine gw_pst hk 1 (st' := (129, [some (.ref r0), some (.ref r1), some (.int x2), some (.int (f7 (x2 : Int32).toNatClampNeg)), none, none], [], h_20)) rfl ?_
        refine gw_le (L' := [some (.ref r0), some (.ref r1), some (.int x2), none, none, none]) (gm_le_k _ (gm_le_k _ (gm_le_k _ (gm_le_n _ (gm_le_k _ (gm_le_k _ gm_le_nil)))))) ?_
        exact ok11_129 c d Post K7 hK7 _ _ _ _ w
def wl11_7 (c : gx) (d : Nat) (Post : Option Value → gm_H → Prop) : Nat → Nat → Nat → Int32 → gm_H → Prop
  | 0 => fun _ _ _ _ => False
  | n + 1 => wb11_7 c d Post (wl11_7 c d Post n)
theorem okl11_7 (c : gx) (d : Nat) (Post : Option Value → gm_H → Prop) : ∀ (n : Nat) (r0 : Nat) (r1 : Nat) (x2 : Int32) (h : gm_H), wl11_7 c d Post n r0 r1 x2 h → gV c d 11 (7, [some (.ref r0), some (.ref r1), some (.int x2), none, none, none], [], h) Post
  | 0, _, _, _, _, w => w.elim
  | n + 1, r0, r1, x2, h, w => okb11_7 c d Post (wl11_7 c d Post n) (okl11_7 c d Post n) r0 r1 x2 h w
/-- CommandByTurns$Formula.valueOf([I)I -/
def wm11 (c : gx) (d : Nat) (Post : Option Value → gm_H → Prop) (r0 : Nat) (r1 : Nat) (h : gm_H) : Prop :=
  ∃ fs1 : List Value, gm_get h r0 = some (.inr (0, fs1)) ∧ 3 < fs1.length ∧ ∀ h_1 : gm_H, h_1 = gm_put h r0 (.inr (0, fs1.set 3 (.int 0))) → ∃ n, wl11_7 c d Post n r0 r1 0 h_1
theorem okm11 (c : gx) (d : Nat) (Post : Option Value → gm_H → Prop) (r0 : Nat) (r1 : Nat) (h : gm_H) (w : wm11 c d Post r0 r1 h) : gE c (d + 1) 11 [.ref r0, .ref r1] h Post := by
  have hk : ∀ pc i, gm_find gk_11 pc = some i → gm_code (gt_T c.1 c.2.1 c.2.2.1) 11 pc = some i := fun _ _ z => z
  unfold wm11 at w
  refine ge_of (by decide) (Nat.le_of_ble_eq_true rfl) ?_
  show gV c d 11 (0, [some (.ref r0), some (.ref r1), none, none, none, none], [], h) Post
  unfold gV
  refine gw_pst hk 2 (st' := (2, [some (.ref r0), some (.ref r1), none, none, none, none], [.int 0, .ref r0], h)) rfl ?_
  obtain ⟨fs1, e1, l1, w⟩ := w
  refine gw_pf (hk _ _ rfl) e1 l1 rfl ?_
  obtain ⟨h_1, eh1⟩ : ∃ z, z = gm_put h r0 (.inr (0, fs1.set 3 (.int 0))) := ⟨_, rfl⟩
  rw [← eh1]
  replace w := w h_1 eh1
  refine gw_pst hk 2 (st' := (7, [some (.ref r0), some (.ref r1), some (.int 0), none, none, none], [], h_1)) rfl ?_
  obtain ⟨n, w⟩ := w
  exact okl11_7 c d Post n _ _ _ _ w
def w12_70 (c : gx) (d : Nat) (Post : Option Value → gm_H → Prop) (xs0 : Int32) (h : gm_H) : Prop :=
  Post (some (.int xs0)) h
theorem ok12_70 (c : gx) (d : Nat) (Post : Option Value → gm_H → Prop)  (xs0 : Int32) (h : gm_H) (w : w12_70 c d Post xs0 h) : gV c d 12 (70, [none, none, none], [.int xs0], h) Post := by
  have hk : ∀ pc i, gm_find gk_12 pc = some i → gm_code (gt_T c.1 c.2.1 c.2.2.1) 12 pc = some i := fun _ _ z => z
  unfold w12_70 at w
  unfold gV
  exact gw_ret (hk _ _ rfl) rfl w
def w12_81 (c : gx) (d : Nat) (Post : Option Value → gm_H → Prop) (xs0 : Int32) (h : gm_H) : Prop :=
  Post (some (.int xs0)) h
theorem ok12_81 (c : gx) (d : Nat) (Post : Option Value → gm_H → Prop)  (xs0 : Int32) (h : gm_H) (w : w12_81 c d Post xs0 h) : gV c d 12 (81, [none, none, none], [.int xs0], h) Post := by
  have hk : ∀ pc i, gm_find gk_12 pc = some i → gm_code (gt_T c.1 c.2.1 c.2.2.1) 12 pc = some i := fun _ _ z => z
  unfold w12_81 at w
  unfold gV
  exact gw_ret (hk _ _ rfl) rfl w
def w12_92 (c : gx) (d : Nat) (Post : Option Value → gm_H → Prop) (xs0 : Int32) (h : gm_H) : Prop :=
  Post (some (.int xs0)) h
theorem ok12_92 (c : gx) (d : Nat) (Post : Option Value → gm_H → Prop)  (xs0 : Int32) (h : gm_H) (w : w12_92 c d Post xs0 h) : gV c d 12 (92, [none, none, none], [.int xs0], h) Post := by
  have hk : ∀ pc i, gm_find gk_12 pc = some i → gm_code (gt_T c.1 c.2.1 c.2.2.1) 12 pc = some i := fun _ _ z => z
  unfold w12_92 at w
  unfold gV
  exact gw_ret (hk _ _ rfl) rfl w
def w12_116 (c : gx) (d : Nat) (Post : Option Value → gm_H → Prop) (xs0 : Int32) (h : gm_H) : Prop :=
  Post (some (.int xs0)) h
theorem ok12_116 (c : gx) (d : Nat) (Post : Option Value → gm_H → Prop)  (xs0 : Int32) (h : gm_H) (w : w12_116 c d Post xs0 h) : gV c d 12 (116, [none, none, none], [.int xs0], h) Post := by
  have hk : ∀ pc i, gm_find gk_12 pc = some i → gm_code (gt_T c.1 c.2.1 c.2.2.1) 12 pc = some i := fun _ _ z => z
  unfold w12_116 at w
  unfold gV
  exact gw_ret (hk _ _ rfl) rfl w
/-- CommandByTurns$Formula.joined(III)I -/
def wm12 (c : gx) (d : Nat) (Post : Option Value → gm_H → Prop) (x0 : Int32) (x1 : Int32) (x2 : Int32) (h : gm_H) : Prop :=
  ((x0 = 42 → Post (some (.int (x1 * x2))) h) ∧ (x0 = 43 → Post (some (.int (x1 + x2))) h) ∧ (x0 = 45 → Post (some (.int (x1 - x2))) h) ∧ (x0 = 60 → ((x2 ≤ x1 → w12_70 c d Post 0 h) ∧ (¬ (x2 ≤ x1) → w12_70 c d Post 1 h))) ∧ (x0 = 61 → ((x1 = x2 → w12_92 c d Post 1 h) ∧ (¬ (x1 = x2) → w12_92 c d Post 0 h))) ∧ (x0 = 62 → ((x1 ≤ x2 → w12_81 c d Post 0 h) ∧ (¬ (x1 ≤ x2) → w12_81 c d Post 1 h))) ∧ (¬ x0 = 42 ∧ ¬ x0 = 43 ∧ ¬ x0 = 45 ∧ ¬ x0 = 60 ∧ ¬ x0 = 61 ∧ ¬ x0 = 62 → ((x2 = 0 → w12_116 c d Post 0 h) ∧ (¬ (x2 = 0) → ¬ x2 = 0 ∧ w12_116 c d Post (x1 / x2) h))))
theorem okm12 (c : gx) (d : Nat) (Post : Option Value → gm_H → Prop) (x0 : Int32) (x1 : Int32) (x2 : Int32) (h : gm_H) (w : wm12 c d Post x0 x1 x2 h) : gE c (d + 1) 12 [.int x0, .int x1, .int x2] h Post := by
  have hk : ∀ pc i, gm_find gk_12 pc = some i → gm_code (gt_T c.1 c.2.1 c.2.2.1) 12 pc = some i := fun _ _ z => z
  unfold wm12 at w
  refine ge_of (by decide) (Nat.le_of_ble_eq_true rfl) ?_
  show gV c d 12 (0, [some (.int x0), some (.int x1), some (.int x2)], [], h) Post
  unfold gV
  refine gw_pst hk 1 (st' := (1, [some (.int x0), some (.int x1), some (.int x2)], [.int x0], h)) rfl ?_
  by_cases z1_0 : x0 = 42
  · replace w := w.1 z1_0
    refine gw_swk (st' := (101, [some (.int x0), some (.int x1), some (.int x2)], [], h)) (hk _ _ rfl) z1_0 rfl ?_
    refine gw_pst hk 3 (st' := (104, [some (.int x0), some (.int x1), some (.int x2)], [.int (x1 * x2)], h)) rfl ?_
    exact gw_ret (hk _ _ rfl) rfl w
  by_cases z1_1 : x0 = 43
  · replace w := w.2.1 z1_1
    refine gw_swk (st' := (93, [some (.int x0), some (.int x1), some (.int x2)], [], h)) (hk _ _ rfl) z1_1 rfl ?_
    refine gw_pst hk 3 (st' := (96, [some (.int x0), some (.int x1), some (.int x2)], [.int (x1 + x2)], h)) rfl ?_
    exact gw_ret (hk _ _ rfl) rfl w
  by_cases z1_2 : x0 = 45
  · replace w := w.2.2.1 z1_2
    refine gw_swk (st' := (97, [some (.int x0), some (.int x1), some (.int x2)], [], h)) (hk _ _ rfl) z1_2 rfl ?_
    refine gw_pst hk 3 (st' := (100, [some (.int x0), some (.int x1), some (.int x2)], [.int (x1 - x2)], h)) rfl ?_
    exact gw_ret (hk _ _ rfl) rfl w
  by_cases z1_3 : x0 = 60
  · replace w := w.2.2.2.1 z1_3
    refine gw_swk (st' := (60, [some (.int x0), some (.int x1), some (.int x2)], [], h)) (hk _ _ rfl) z1_3 rfl ?_
    refine gw_pst hk 2 (st' := (62, [some (.int x0), some (.int x1), some (.int x2)], [.int x2, .int x1], h)) rfl ?_
    refine gw_br (c := x2 ≤ x1) (a := (69, [some (.int x0), some (.int x1), some (.int x2)], [], h)) (b := (65, [some (.int x0), some (.int x1), some (.int x2)], [], h)) (hk _ _ rfl) rfl ⟨fun z2 => ?_, fun z2 => ?_⟩
    · replace w := w.1 z2
      refine gw_pst hk 1 (st' := (70, [some (.int x0), some (.int x1), some (.int x2)], [.int 0], h)) rfl ?_
      refine gw_le (L' := [none, none, none]) (gm_le_n _ (gm_le_n _ (gm_le_n _ gm_le_nil))) ?_
      exact ok12_70 c d Post _ _ w
    · replace w := w.2 z2
      refine gw_pst hk 2 (st' := (70, [some (.int x0), some (.int x1), some (.int x2)], [.int 1], h)) rfl ?_
      refine gw_le (L' := [none, none, none]) (gm_le_n _ (gm_le_n _ (gm_le_n _ gm_le_nil))) ?_
      exact ok12_70 c d Post _ _ w
  by_cases z1_4 : x0 = 61
  · replace w := w.2.2.2.2.1 z1_4
    refine gw_swk (st' := (82, [some (.int x0), some (.int x1), some (.int x2)], [], h)) (hk _ _ rfl) z1_4 rfl ?_
    refine gw_pst hk 2 (st' := (84, [some (.int x0), some (.int x1), some (.int x2)], [.int x2, .int x1], h)) rfl ?_
    refine gw_br (c := x1 = x2) (a := (87, [some (.int x0), some (.int x1), some (.int x2)], [], h)) (b := (91, [some (.int x0), some (.int x1), some (.int x2)], [], h)) (hk _ _ rfl) rfl ⟨fun z3 => ?_, fun z3 => ?_⟩
    · replace w := w.1 z3
      refine gw_pst hk 2 (st' := (92, [some (.int x0), some (.int x1), some (.int x2)], [.int 1], h)) rfl ?_
      refine gw_le (L' := [none, none, none]) (gm_le_n _ (gm_le_n _ (gm_le_n _ gm_le_nil))) ?_
      exact ok12_92 c d Post _ _ w
    · replace w := w.2 z3
      refine gw_pst hk 1 (st' := (92, [some (.int x0), some (.int x1), some (.int x2)], [.int 0], h)) rfl ?_
      refine gw_le (L' := [none, none, none]) (gm_le_n _ (gm_le_n _ (gm_le_n _ gm_le_nil))) ?_
      exact ok12_92 c d Post _ _ w
  by_cases z1_5 : x0 = 62
  · replace w := w.2.2.2.2.2.1 z1_5
    refine gw_swk (st' := (71, [some (.int x0), some (.int x1), some (.int x2)], [], h)) (hk _ _ rfl) z1_5 rfl ?_
    refine gw_pst hk 2 (st' := (73, [some (.int x0), some (.int x1), some (.int x2)], [.int x2, .int x1], h)) rfl ?_
    refine gw_br (c := x1 ≤ x2) (a := (80, [some (.int x0), some (.int x1), some (.int x2)], [], h)) (b := (76, [some (.int x0), some (.int x1), some (.int x2)], [], h)) (hk _ _ rfl) rfl ⟨fun z4 => ?_, fun z4 => ?_⟩
    · replace w := w.1 z4
      refine gw_pst hk 1 (st' := (81, [some (.int x0), some (.int x1), some (.int x2)], [.int 0], h)) rfl ?_
      refine gw_le (L' := [none, none, none]) (gm_le_n _ (gm_le_n _ (gm_le_n _ gm_le_nil))) ?_
      exact ok12_81 c d Post _ _ w
    · replace w := w.2 z4
      refine gw_pst hk 2 (st' := (81, [some (.int x0), some (.int x1), some (.int x2)], [.int 1], h)) rfl ?_
      refine gw_le (L' := [none, none, none]) (gm_le_n _ (gm_le_n _ (gm_le_n _ gm_le_nil))) ?_
      exact ok12_81 c d Post _ _ w
  replace w := w.2.2.2.2.2.2 ⟨z1_0, z1_1, z1_2, z1_3, z1_4, z1_5⟩
  refine gw_lsd (st' := (105, [some (.int x0), some (.int x1), some (.int x2)], [], h)) (hk _ _ rfl) (by
      have y0 : ¬ 42 = (x0 : Int32).toInt := fun z => z1_0 (Int32.toInt_inj.mp z.symm)
      have y1 : ¬ 43 = (x0 : Int32).toInt := fun z => z1_1 (Int32.toInt_inj.mp z.symm)
      have y2 : ¬ 45 = (x0 : Int32).toInt := fun z => z1_2 (Int32.toInt_inj.mp z.symm)
      have y3 : ¬ 60 = (x0 : Int32).toInt := fun z => z1_3 (Int32.toInt_inj.mp z.symm)
      have y4 : ¬ 61 = (x0 : Int32).toInt := fun z => z1_4 (Int32.toInt_inj.mp z.symm)
      have y5 : ¬ 62 = (x0 : Int32).toInt := fun z => z1_5 (Int32.toInt_inj.mp z.symm)
      simp [Op.lookupswitch.offset, y0, y1, y2, y3, y4, y5]) rfl ?_
  refine gw_pst hk 1 (st' := (106, [some (.int x0), some (.int x1), some (.int x2)], [.int x2], h)) rfl ?_
  refine gw_br (c := x2 = 0) (a := (109, [some (.int x0), some (.int x1), some (.int x2)], [], h)) (b := (113, [some (.int x0), some (.int x1), some (.int x2)], [], h)) (hk _ _ rfl) rfl ⟨fun z5 => ?_, fun z5 => ?_⟩
  · replace w := w.1 z5
    refine gw_pst hk 2 (st' := (116, [some (.int x0), some (.int x1), some (.int x2)], [.int 0], h)) rfl ?_
    refine gw_le (L' := [none, none, none]) (gm_le_n _ (gm_le_n _ (gm_le_n _ gm_le_nil))) ?_
    exact ok12_116 c d Post _ _ w
  · replace w := w.2 z5
    refine gw_pst hk 2 (st' := (115, [some (.int x0), some (.int x1), some (.int x2)], [.int x2, .int x1], h)) rfl ?_
    obtain ⟨z6, w⟩ := w
    refine gw_idiv (hk _ _ rfl) z6 ?_ rfl
    refine gw_le (L' := [none, none, none]) (gm_le_n _ (gm_le_n _ (gm_le_n _ gm_le_nil))) ?_
    exact ok12_116 c d Post _ _ w
