/-! What must hold for a run to end with Post: by program (wip/whole/gen_wp.py). -/
def w1_199 (c : gx) (d : Nat) (Post : Option Value → gs → Prop) (K12 : Int32 → Int32 → Int32 → Int32 → Int32 → gs → Prop) (x1 : Int32) (x2 : Int32) (x3 : Int32) (x4 : Int32) (x5 : Int32) (s : gs) : Prop :=
  K12 x1 x2 x3 x4 (x5 + 1) s
theorem ok1_199 (c : gx) (d : Nat) (Post : Option Value → gs → Prop) (K12 : Int32 → Int32 → Int32 → Int32 → Int32 → gs → Prop)  (hK12 : ∀ (x1 : Int32) (x2 : Int32) (x3 : Int32) (x4 : Int32) (x5 : Int32) (s : gs), K12 x1 x2 x3 x4 x5 s → tV c d 1 12 [some (.ref 1), some (.int x1), some (.int x2), some (.int x3), some (.int x4), some (.int x5), none] [] s Post) (x1 : Int32) (x2 : Int32) (x3 : Int32) (x4 : Int32) (x5 : Int32) (s : gs) (w : w1_199 c d Post K12 x1 x2 x3 x4 x5 s) : tV c d 1 199 [some (.ref 1), some (.int x1), some (.int x2), some (.int x3), some (.int x4), some (.int x5), none] [] s Post := by
  intro h hR
  have hk : ∀ pc i, gm_find gk_1 pc = some i → gm_code (gt_T c.1 c.2.1 c.2.2.1) 1 pc = some i := fun _ _ z => z
  unfold w1_199 at w
  unfold gV
  refine gw_pst hk 2 (st' := (12, [some (.ref 1), some (.int x1), some (.int x2), some (.int x3), some (.int x4), some (.int (x5 + 1)), none], [], h)) rfl ?_
  exact hK12 _ _ _ _ _ _ w _ hR
def w1_89 (c : gx) (d : Nat) (Post : Option Value → gs → Prop) (K12 : Int32 → Int32 → Int32 → Int32 → Int32 → gs → Prop) (x3 : Int32) (x4 : Int32) (x5 : Int32) (xs0 : Int32) (s : gs) : Prop :=
  w1_199 c d Post K12 0 xs0 x3 x4 x5 s
theorem ok1_89 (c : gx) (d : Nat) (Post : Option Value → gs → Prop) (K12 : Int32 → Int32 → Int32 → Int32 → Int32 → gs → Prop)  (hK12 : ∀ (x1 : Int32) (x2 : Int32) (x3 : Int32) (x4 : Int32) (x5 : Int32) (s : gs), K12 x1 x2 x3 x4 x5 s → tV c d 1 12 [some (.ref 1), some (.int x1), some (.int x2), some (.int x3), some (.int x4), some (.int x5), none] [] s Post) (x3 : Int32) (x4 : Int32) (x5 : Int32) (xs0 : Int32) (s : gs) (w : w1_89 c d Post K12 x3 x4 x5 xs0 s) : tV c d 1 89 [some (.ref 1), none, none, some (.int x3), some (.int x4), some (.int x5), none] [.int xs0] s Post := by
  intro h hR
  have hk : ∀ pc i, gm_find gk_1 pc = some i → gm_code (gt_T c.1 c.2.1 c.2.2.1) 1 pc = some i := fun _ _ z => z
  unfold w1_89 at w
  unfold gV
  refine gw_pst hk 4 (st' := (199, [some (.ref 1), some (.int 0), some (.int xs0), some (.int x3), some (.int x4), some (.int x5), none], [], h)) rfl ?_
  exact ok1_199 c d Post K12 hK12 _ _ _ _ _ _ w _ hR
def w1_68 (c : gx) (d : Nat) (Post : Option Value → gs → Prop) (K12 : Int32 → Int32 → Int32 → Int32 → Int32 → gs → Prop) (x1 : Int32) (x2 : Int32) (x3 : Int32) (x4 : Int32) (x5 : Int32) (x6 : Int32) (s : gs) : Prop :=
  tE c d 2 [.int x6] s (fun v1 s_1 => ∃ x_1 : Int32, v1 = some (.int x_1) ∧ ((x_1 = 0 → ((x6 = 45 → w1_199 c d Post K12 x1 x2 x3 x4 x5 s_1) ∧ (¬ (x6 = 45) → Post (some (.int x5)) s_1))) ∧ (¬ (x_1 = 0) → tE c d 60 [.int x6] s_1 (fun v4 s_4 => ∃ x_4 : Int32, v4 = some (.int x_4) ∧ ((x_4 = 0 → w1_89 c d Post K12 x3 x4 x5 3 s_4) ∧ (¬ (x_4 = 0) → w1_89 c d Post K12 x3 x4 x5 1 s_4))))))
theorem ok1_68 (c : gx) (d : Nat) (Post : Option Value → gs → Prop) (K12 : Int32 → Int32 → Int32 → Int32 → Int32 → gs → Prop)  (hK12 : ∀ (x1 : Int32) (x2 : Int32) (x3 : Int32) (x4 : Int32) (x5 : Int32) (s : gs), K12 x1 x2 x3 x4 x5 s → tV c d 1 12 [some (.ref 1), some (.int x1), some (.int x2), some (.int x3), some (.int x4), some (.int x5), none] [] s Post) (x1 : Int32) (x2 : Int32) (x3 : Int32) (x4 : Int32) (x5 : Int32) (x6 : Int32) (s : gs) (w : w1_68 c d Post K12 x1 x2 x3 x4 x5 x6 s) : tV c d 1 68 [some (.ref 1), some (.int x1), some (.int x2), some (.int x3), some (.int x4), some (.int x5), some (.int x6)] [] s Post := by
  intro h hR
  have hk : ∀ pc i, gm_find gk_1 pc = some i → gm_code (gt_T c.1 c.2.1 c.2.2.1) 1 pc = some i := fun _ _ z => z
  unfold w1_68 at w
  unfold gV
  refine gw_pst hk 1 (st' := (70, [some (.ref 1), some (.int x1), some (.int x2), some (.int x3), some (.int x4), some (.int x5), some (.int x6)], [.int x6], h)) rfl ?_
  refine gw_call (jj := 2) (As := [.int x6]) (rest := []) (hk _ _ rfl) (fun _ => rfl) rfl rfl (Nat.le_of_ble_eq_true rfl) rfl ?_
  refine ge_imp (w h hR) (fun v1 h w => ?_)
  obtain ⟨s_1, hR, x_1, rfl, w⟩ := w
  show gw (gt_T c.1 c.2.1 c.2.2.1) c.2.2.2 d 1 (73, [some (.ref 1), some (.int x1), some (.int x2), some (.int x3), some (.int x4), some (.int x5), some (.int x6)], [.int x_1], h) _
  refine gw_br (c := x_1 = 0) (a := (95, [some (.ref 1), some (.int x1), some (.int x2), some (.int x3), some (.int x4), some (.int x5), some (.int x6)], [], h)) (b := (76, [some (.ref 1), some (.int x1), some (.int x2), some (.int x3), some (.int x4), some (.int x5), some (.int x6)], [], h)) (hk _ _ rfl) rfl ⟨fun z2 => ?_, fun z2 => ?_⟩
  · replace w := w.1 z2
    refine gw_pst hk 2 (st' := (99, [some (.ref 1), some (.int x1), some (.int x2), some (.int x3), some (.int x4), some (.int x5), some (.int x6)], [.int 45, .int x6], h)) rfl ?_
    refine gw_br (c := x6 = 45) (a := (199, [some (.ref 1), some (.int x1), some (.int x2), some (.int x3), some (.int x4), some (.int x5), some (.int x6)], [], h)) (b := (102, [some (.ref 1), some (.int x1), some (.int x2), some (.int x3), some (.int x4), some (.int x5), some (.int x6)], [], h)) (hk _ _ rfl) rfl ⟨fun z3 => ?_, fun z3 => ?_⟩
    · replace w := w.1 z3
      refine gw_le (L' := [some (.ref 1), some (.int x1), some (.int x2), some (.int x3), some (.int x4), some (.int x5), none]) (gm_le_k _ (gm_le_k _ (gm_le_k _ (gm_le_k _ (gm_le_k _ (gm_le_k _ (gm_le_n _ gm_le_nil))))))) ?_
      exact ok1_199 c d Post K12 hK12 _ _ _ _ _ _ w _ hR
    · replace w := w.2 z3
      refine gw_pst hk 1 (st' := (104, [some (.ref 1), some (.int x1), some (.int x2), some (.int x3), some (.int x4), some (.int x5), some (.int x6)], [.int x5], h)) rfl ?_
      exact gw_ret (hk _ _ rfl) rfl ⟨_, hR, w⟩
  · replace w := w.2 z2
    refine gw_pst hk 1 (st' := (78, [some (.ref 1), some (.int x1), some (.int x2), some (.int x3), some (.int x4), some (.int x5), some (.int x6)], [.int x6], h)) rfl ?_
    refine gw_call (jj := 60) (As := [.int x6]) (rest := []) (hk _ _ rfl) (fun _ => rfl) rfl rfl (Nat.le_of_ble_eq_true rfl) rfl ?_
    refine ge_imp (w h hR) (fun v4 h w => ?_)
    obtain ⟨s_4, hR, x_4, rfl, w⟩ := w
    show gw (gt_T c.1 c.2.1 c.2.2.1) c.2.2.2 d 1 (81, [some (.ref 1), some (.int x1), some (.int x2), some (.int x3), some (.int x4), some (.int x5), some (.int x6)], [.int x_4], h) _
    refine gw_br (c := x_4 = 0) (a := (88, [some (.ref 1), some (.int x1), some (.int x2), some (.int x3), some (.int x4), some (.int x5), some (.int x6)], [], h)) (b := (84, [some (.ref 1), some (.int x1), some (.int x2), some (.int x3), some (.int x4), some (.int x5), some (.int x6)], [], h)) (hk _ _ rfl) rfl ⟨fun z5 => ?_, fun z5 => ?_⟩
    · replace w := w.1 z5
      refine gw_pst hk 1 (st' := (89, [some (.ref 1), some (.int x1), some (.int x2), some (.int x3), some (.int x4), some (.int x5), some (.int x6)], [.int 3], h)) rfl ?_
      refine gw_le (L' := [some (.ref 1), none, none, some (.int x3), some (.int x4), some (.int x5), none]) (gm_le_k _ (gm_le_n _ (gm_le_n _ (gm_le_k _ (gm_le_k _ (gm_le_k _ (gm_le_n _ gm_le_nil))))))) ?_
      exact ok1_89 c d Post K12 hK12 _ _ _ _ _ w _ hR
    · replace w := w.2 z5
      refine gw_pst hk 2 (st' := (89, [some (.ref 1), some (.int x1), some (.int x2), some (.int x3), some (.int x4), some (.int x5), some (.int x6)], [.int 1], h)) rfl ?_
      refine gw_le (L' := [some (.ref 1), none, none, some (.int x3), some (.int x4), some (.int x5), none]) (gm_le_k _ (gm_le_n _ (gm_le_n _ (gm_le_k _ (gm_le_k _ (gm_le_k _ (gm_le_n _ gm_le_nil))))))) ?_
      exact ok1_89 c d Post K12 hK12 _ _ _ _ _ w _ hR
def w1_188 (c : gx) (d : Nat) (Post : Option Value → gs → Prop) (K12 : Int32 → Int32 → Int32 → Int32 → Int32 → gs → Prop) (x2 : Int32) (x3 : Int32) (x5 : Int32) (xs0 : Int32) (xs1 : Int32) (s : gs) : Prop :=
  w1_199 c d Post K12 1 x2 x3 (xs0 ||| xs1) x5 s
theorem ok1_188 (c : gx) (d : Nat) (Post : Option Value → gs → Prop) (K12 : Int32 → Int32 → Int32 → Int32 → Int32 → gs → Prop)  (hK12 : ∀ (x1 : Int32) (x2 : Int32) (x3 : Int32) (x4 : Int32) (x5 : Int32) (s : gs), K12 x1 x2 x3 x4 x5 s → tV c d 1 12 [some (.ref 1), some (.int x1), some (.int x2), some (.int x3), some (.int x4), some (.int x5), none] [] s Post) (x2 : Int32) (x3 : Int32) (x5 : Int32) (xs0 : Int32) (xs1 : Int32) (s : gs) (w : w1_188 c d Post K12 x2 x3 x5 xs0 xs1 s) : tV c d 1 188 [some (.ref 1), none, some (.int x2), some (.int x3), none, some (.int x5), none] [.int xs1, .int xs0] s Post := by
  intro h hR
  have hk : ∀ pc i, gm_find gk_1 pc = some i → gm_code (gt_T c.1 c.2.1 c.2.2.1) 1 pc = some i := fun _ _ z => z
  unfold w1_188 at w
  unfold gV
  refine gw_pst hk 5 (st' := (199, [some (.ref 1), some (.int 1), some (.int x2), some (.int x3), some (.int (xs0 ||| xs1)), some (.int x5), none], [], h)) rfl ?_
  exact ok1_199 c d Post K12 hK12 _ _ _ _ _ _ w _ hR
def w1_170 (c : gx) (d : Nat) (Post : Option Value → gs → Prop) (K12 : Int32 → Int32 → Int32 → Int32 → Int32 → gs → Prop) (x2 : Int32) (x3 : Int32) (x4 : Int32) (x5 : Int32) (x6 : Int32) (s : gs) : Prop :=
  tE c d 3 [.int x6] s (fun v1 s_1 => ∃ x_1 : Int32, v1 = some (.int x_1) ∧ ((x_1 = 1 → w1_188 c d Post K12 x2 x3 x5 x4 (1 <<< (x3 &&& 31)) s_1) ∧ (¬ (x_1 = 1) → w1_188 c d Post K12 x2 x3 x5 x4 0 s_1)))
theorem ok1_170 (c : gx) (d : Nat) (Post : Option Value → gs → Prop) (K12 : Int32 → Int32 → Int32 → Int32 → Int32 → gs → Prop)  (hK12 : ∀ (x1 : Int32) (x2 : Int32) (x3 : Int32) (x4 : Int32) (x5 : Int32) (s : gs), K12 x1 x2 x3 x4 x5 s → tV c d 1 12 [some (.ref 1), some (.int x1), some (.int x2), some (.int x3), some (.int x4), some (.int x5), none] [] s Post) (x2 : Int32) (x3 : Int32) (x4 : Int32) (x5 : Int32) (x6 : Int32) (s : gs) (w : w1_170 c d Post K12 x2 x3 x4 x5 x6 s) : tV c d 1 170 [some (.ref 1), none, some (.int x2), some (.int x3), some (.int x4), some (.int x5), some (.int x6)] [] s Post := by
  intro h hR
  have hk : ∀ pc i, gm_find gk_1 pc = some i → gm_code (gt_T c.1 c.2.1 c.2.2.1) 1 pc = some i := fun _ _ z => z
  unfold w1_170 at w
  unfold gV
  refine gw_pst hk 2 (st' := (174, [some (.ref 1), none, some (.int x2), some (.int x3), some (.int x4), some (.int x5), some (.int x6)], [.int x6, .int x4], h)) rfl ?_
  refine gw_call (jj := 3) (As := [.int x6]) (rest := [.int x4]) (hk _ _ rfl) (fun _ => rfl) rfl rfl (Nat.le_of_ble_eq_true rfl) rfl ?_
  refine ge_imp (w h hR) (fun v1 h w => ?_)
  obtain ⟨s_1, hR, x_1, rfl, w⟩ := w
  show gw (gt_T c.1 c.2.1 c.2.2.1) c.2.2.2 d 1 (177, [some (.ref 1), none, some (.int x2), some (.int x3), some (.int x4), some (.int x5), some (.int x6)], [.int x_1, .int x4], h) _
  refine gw_pst hk 1 (st' := (178, [some (.ref 1), none, some (.int x2), some (.int x3), some (.int x4), some (.int x5), some (.int x6)], [.int 1, .int x_1, .int x4], h)) rfl ?_
  refine gw_br (c := x_1 = 1) (a := (181, [some (.ref 1), none, some (.int x2), some (.int x3), some (.int x4), some (.int x5), some (.int x6)], [.int x4], h)) (b := (187, [some (.ref 1), none, some (.int x2), some (.int x3), some (.int x4), some (.int x5), some (.int x6)], [.int x4], h)) (hk _ _ rfl) rfl ⟨fun z2 => ?_, fun z2 => ?_⟩
  · replace w := w.1 z2
    refine gw_pst hk 4 (st' := (188, [some (.ref 1), none, some (.int x2), some (.int x3), some (.int x4), some (.int x5), some (.int x6)], [.int (1 <<< (x3 &&& 31)), .int x4], h)) rfl ?_
    refine gw_le (L' := [some (.ref 1), none, some (.int x2), some (.int x3), none, some (.int x5), none]) (gm_le_k _ (gm_le_k _ (gm_le_k _ (gm_le_k _ (gm_le_n _ (gm_le_k _ (gm_le_n _ gm_le_nil))))))) ?_
    exact ok1_188 c d Post K12 hK12 _ _ _ _ _ _ w _ hR
  · replace w := w.2 z2
    refine gw_pst hk 1 (st' := (188, [some (.ref 1), none, some (.int x2), some (.int x3), some (.int x4), some (.int x5), some (.int x6)], [.int 0, .int x4], h)) rfl ?_
    refine gw_le (L' := [some (.ref 1), none, some (.int x2), some (.int x3), none, some (.int x5), none]) (gm_le_k _ (gm_le_k _ (gm_le_k _ (gm_le_k _ (gm_le_n _ (gm_le_k _ (gm_le_n _ gm_le_nil))))))) ?_
    exact ok1_188 c d Post K12 hK12 _ _ _ _ _ _ w _ hR
def w1_196 (c : gx) (d : Nat) (Post : Option Value → gs → Prop) (x5 : Int32) (s : gs) : Prop :=
  Post (some (.int x5)) s
theorem ok1_196 (c : gx) (d : Nat) (Post : Option Value → gs → Prop)  (x5 : Int32) (s : gs) (w : w1_196 c d Post x5 s) : tV c d 1 196 [none, none, none, none, none, some (.int x5), none] [] s Post := by
  intro h hR
  have hk : ∀ pc i, gm_find gk_1 pc = some i → gm_code (gt_T c.1 c.2.1 c.2.2.1) 1 pc = some i := fun _ _ z => z
  unfold w1_196 at w
  unfold gV
  refine gw_pst hk 1 (st' := (198, [none, none, none, none, none, some (.int x5), none], [.int x5], h)) rfl ?_
  exact gw_ret (hk _ _ rfl) rfl ⟨_, hR, w⟩
def w1_143 (c : gx) (d : Nat) (Post : Option Value → gs → Prop) (K12 : Int32 → Int32 → Int32 → Int32 → Int32 → gs → Prop) (x2 : Int32) (x3 : Int32) (x4 : Int32) (x5 : Int32) (x6 : Int32) (s : gs) : Prop :=
  tE c d 3 [.int x6] s (fun v1 s_1 => ∃ x_1 : Int32, v1 = some (.int x_1) ∧ ((1 < x_1 → w1_170 c d Post K12 x2 x3 x4 x5 x6 s_1) ∧ (¬ (1 < x_1) → tE c d 3 [.int x6] s_1 (fun v3 s_3 => ∃ x_3 : Int32, v3 = some (.int x_3) ∧ ((x_3 = 1 → ((((x4 >>> (x3 &&& 31)) &&& 1) = 0 → w1_170 c d Post K12 x2 x3 x4 x5 x6 s_3) ∧ (¬ (((x4 >>> (x3 &&& 31)) &&& 1) = 0) → w1_196 c d Post x5 s_3))) ∧ (¬ (x_3 = 1) → w1_196 c d Post x5 s_3))))))
theorem ok1_143 (c : gx) (d : Nat) (Post : Option Value → gs → Prop) (K12 : Int32 → Int32 → Int32 → Int32 → Int32 → gs → Prop)  (hK12 : ∀ (x1 : Int32) (x2 : Int32) (x3 : Int32) (x4 : Int32) (x5 : Int32) (s : gs), K12 x1 x2 x3 x4 x5 s → tV c d 1 12 [some (.ref 1), some (.int x1), some (.int x2), some (.int x3), some (.int x4), some (.int x5), none] [] s Post) (x2 : Int32) (x3 : Int32) (x4 : Int32) (x5 : Int32) (x6 : Int32) (s : gs) (w : w1_143 c d Post K12 x2 x3 x4 x5 x6 s) : tV c d 1 143 [some (.ref 1), none, some (.int x2), some (.int x3), some (.int x4), some (.int x5), some (.int x6)] [] s Post := by
  intro h hR
  have hk : ∀ pc i, gm_find gk_1 pc = some i → gm_code (gt_T c.1 c.2.1 c.2.2.1) 1 pc = some i := fun _ _ z => z
  unfold w1_143 at w
  unfold gV
  refine gw_pst hk 1 (st' := (145, [some (.ref 1), none, some (.int x2), some (.int x3), some (.int x4), some (.int x5), some (.int x6)], [.int x6], h)) rfl ?_
  refine gw_call (jj := 3) (As := [.int x6]) (rest := []) (hk _ _ rfl) (fun _ => rfl) rfl rfl (Nat.le_of_ble_eq_true rfl) rfl ?_
  refine ge_imp (w h hR) (fun v1 h w => ?_)
  obtain ⟨s_1, hR, x_1, rfl, w⟩ := w
  show gw (gt_T c.1 c.2.1 c.2.2.1) c.2.2.2 d 1 (148, [some (.ref 1), none, some (.int x2), some (.int x3), some (.int x4), some (.int x5), some (.int x6)], [.int x_1], h) _
  refine gw_pst hk 1 (st' := (149, [some (.ref 1), none, some (.int x2), some (.int x3), some (.int x4), some (.int x5), some (.int x6)], [.int 1, .int x_1], h)) rfl ?_
  refine gw_br (c := 1 < x_1) (a := (170, [some (.ref 1), none, some (.int x2), some (.int x3), some (.int x4), some (.int x5), some (.int x6)], [], h)) (b := (152, [some (.ref 1), none, some (.int x2), some (.int x3), some (.int x4), some (.int x5), some (.int x6)], [], h)) (hk _ _ rfl) rfl ⟨fun z2 => ?_, fun z2 => ?_⟩
  · replace w := w.1 z2
    exact ok1_170 c d Post K12 hK12 _ _ _ _ _ _ w _ hR
  · replace w := w.2 z2
    refine gw_pst hk 1 (st' := (154, [some (.ref 1), none, some (.int x2), some (.int x3), some (.int x4), some (.int x5), some (.int x6)], [.int x6], h)) rfl ?_
    refine gw_call (jj := 3) (As := [.int x6]) (rest := []) (hk _ _ rfl) (fun _ => rfl) rfl rfl (Nat.le_of_ble_eq_true rfl) rfl ?_
    refine ge_imp (w h hR) (fun v3 h w => ?_)
    obtain ⟨s_3, hR, x_3, rfl, w⟩ := w
    show gw (gt_T c.1 c.2.1 c.2.2.1) c.2.2.2 d 1 (157, [some (.ref 1), none, some (.int x2), some (.int x3), some (.int x4), some (.int x5), some (.int x6)], [.int x_3], h) _
    refine gw_pst hk 1 (st' := (158, [some (.ref 1), none, some (.int x2), some (.int x3), some (.int x4), some (.int x5), some (.int x6)], [.int 1, .int x_3], h)) rfl ?_
    refine gw_br (c := x_3 = 1) (a := (161, [some (.ref 1), none, some (.int x2), some (.int x3), some (.int x4), some (.int x5), some (.int x6)], [], h)) (b := (196, [some (.ref 1), none, some (.int x2), some (.int x3), some (.int x4), some (.int x5), some (.int x6)], [], h)) (hk _ _ rfl) rfl ⟨fun z4 => ?_, fun z4 => ?_⟩
    · replace w := w.1 z4
      refine gw_pst hk 5 (st' := (167, [some (.ref 1), none, some (.int x2), some (.int x3), some (.int x4), some (.int x5), some (.int x6)], [.int ((x4 >>> (x3 &&& 31)) &&& 1)], h)) rfl ?_
      refine gw_br (c := ((x4 >>> (x3 &&& 31)) &&& 1) = 0) (a := (170, [some (.ref 1), none, some (.int x2), some (.int x3), some (.int x4), some (.int x5), some (.int x6)], [], h)) (b := (196, [some (.ref 1), none, some (.int x2), some (.int x3), some (.int x4), some (.int x5), some (.int x6)], [], h)) (hk _ _ rfl) rfl ⟨fun z5 => ?_, fun z5 => ?_⟩
      · replace w := w.1 z5
        exact ok1_170 c d Post K12 hK12 _ _ _ _ _ _ w _ hR
      · replace w := w.2 z5
        refine gw_le (L' := [none, none, none, none, none, some (.int x5), none]) (gm_le_n _ (gm_le_k _ (gm_le_n _ (gm_le_n _ (gm_le_n _ (gm_le_k _ (gm_le_n _ gm_le_nil))))))) ?_
        exact ok1_196 c d Post _ _ w _ hR
    · replace w := w.2 z4
      refine gw_le (L' := [none, none, none, none, none, some (.int x5), none]) (gm_le_n _ (gm_le_k _ (gm_le_n _ (gm_le_n _ (gm_le_n _ (gm_le_k _ (gm_le_n _ gm_le_nil))))))) ?_
      exact ok1_196 c d Post _ _ w _ hR
def w1_124 (c : gx) (d : Nat) (Post : Option Value → gs → Prop) (K12 : Int32 → Int32 → Int32 → Int32 → Int32 → gs → Prop) (x1 : Int32) (x2 : Int32) (x3 : Int32) (x4 : Int32) (x5 : Int32) (x6 : Int32) (s : gs) : Prop :=
  ((x6 = 41 → ((x3 ≤ 0 → w1_143 c d Post K12 x2 x3 x4 x5 x6 s) ∧ (¬ (x3 ≤ 0) → w1_199 c d Post K12 x1 3 (x3 + (-1)) x4 x5 s))) ∧ (¬ (x6 = 41) → w1_143 c d Post K12 x2 x3 x4 x5 x6 s))
theorem ok1_124 (c : gx) (d : Nat) (Post : Option Value → gs → Prop) (K12 : Int32 → Int32 → Int32 → Int32 → Int32 → gs → Prop)  (hK12 : ∀ (x1 : Int32) (x2 : Int32) (x3 : Int32) (x4 : Int32) (x5 : Int32) (s : gs), K12 x1 x2 x3 x4 x5 s → tV c d 1 12 [some (.ref 1), some (.int x1), some (.int x2), some (.int x3), some (.int x4), some (.int x5), none] [] s Post) (x1 : Int32) (x2 : Int32) (x3 : Int32) (x4 : Int32) (x5 : Int32) (x6 : Int32) (s : gs) (w : w1_124 c d Post K12 x1 x2 x3 x4 x5 x6 s) : tV c d 1 124 [some (.ref 1), some (.int x1), some (.int x2), some (.int x3), some (.int x4), some (.int x5), some (.int x6)] [] s Post := by
  intro h hR
  have hk : ∀ pc i, gm_find gk_1 pc = some i → gm_code (gt_T c.1 c.2.1 c.2.2.1) 1 pc = some i := fun _ _ z => z
  unfold w1_124 at w
  unfold gV
  refine gw_pst hk 2 (st' := (128, [some (.ref 1), some (.int x1), some (.int x2), some (.int x3), some (.int x4), some (.int x5), some (.int x6)], [.int 41, .int x6], h)) rfl ?_
  refine gw_br (c := x6 = 41) (a := (131, [some (.ref 1), some (.int x1), some (.int x2), some (.int x3), some (.int x4), some (.int x5), some (.int x6)], [], h)) (b := (143, [some (.ref 1), some (.int x1), some (.int x2), some (.int x3), some (.int x4), some (.int x5), some (.int x6)], [], h)) (hk _ _ rfl) rfl ⟨fun z1 => ?_, fun z1 => ?_⟩
  · replace w := w.1 z1
    refine gw_pst hk 1 (st' := (132, [some (.ref 1), some (.int x1), some (.int x2), some (.int x3), some (.int x4), some (.int x5), some (.int x6)], [.int x3], h)) rfl ?_
    refine gw_br (c := x3 ≤ 0) (a := (143, [some (.ref 1), some (.int x1), some (.int x2), some (.int x3), some (.int x4), some (.int x5), some (.int x6)], [], h)) (b := (135, [some (.ref 1), some (.int x1), some (.int x2), some (.int x3), some (.int x4), some (.int x5), some (.int x6)], [], h)) (hk _ _ rfl) rfl ⟨fun z2 => ?_, fun z2 => ?_⟩
    · replace w := w.1 z2
      refine gw_le (L' := [some (.ref 1), none, some (.int x2), some (.int x3), some (.int x4), some (.int x5), some (.int x6)]) (gm_le_k _ (gm_le_n _ (gm_le_k _ (gm_le_k _ (gm_le_k _ (gm_le_k _ (gm_le_k _ gm_le_nil))))))) ?_
      exact ok1_143 c d Post K12 hK12 _ _ _ _ _ _ w _ hR
    · replace w := w.2 z2
      refine gw_pst hk 4 (st' := (199, [some (.ref 1), some (.int x1), some (.int 3), some (.int (x3 + (-1))), some (.int x4), some (.int x5), some (.int x6)], [], h)) rfl ?_
      refine gw_le (L' := [some (.ref 1), some (.int x1), some (.int 3), some (.int (x3 + (-1))), some (.int x4), some (.int x5), none]) (gm_le_k _ (gm_le_k _ (gm_le_k _ (gm_le_k _ (gm_le_k _ (gm_le_k _ (gm_le_n _ gm_le_nil))))))) ?_
      exact ok1_199 c d Post K12 hK12 _ _ _ _ _ _ w _ hR
  · replace w := w.2 z1
    refine gw_le (L' := [some (.ref 1), none, some (.int x2), some (.int x3), some (.int x4), some (.int x5), some (.int x6)]) (gm_le_k _ (gm_le_n _ (gm_le_k _ (gm_le_k _ (gm_le_k _ (gm_le_k _ (gm_le_k _ gm_le_nil))))))) ?_
    exact ok1_143 c d Post K12 hK12 _ _ _ _ _ _ w _ hR
def w1_233 (c : gx) (d : Nat) (Post : Option Value → gs → Prop) (xs0 : Int32) (s : gs) : Prop :=
  Post (some (.int xs0)) s
theorem ok1_233 (c : gx) (d : Nat) (Post : Option Value → gs → Prop)  (xs0 : Int32) (s : gs) (w : w1_233 c d Post xs0 s) : tV c d 1 233 [none, none, none, none, none, none, none] [.int xs0] s Post := by
  intro h hR
  have hk : ∀ pc i, gm_find gk_1 pc = some i → gm_code (gt_T c.1 c.2.1 c.2.2.1) 1 pc = some i := fun _ _ z => z
  unfold w1_233 at w
  unfold gV
  exact gw_ret (hk _ _ rfl) rfl ⟨_, hR, w⟩
def w1_225 (c : gx) (d : Nat) (Post : Option Value → gs → Prop)  (s : gs) : Prop :=
  w1_233 c d Post (gsV s 1 1) s
theorem ok1_225 (c : gx) (d : Nat) (Post : Option Value → gs → Prop)   (s : gs) (w : w1_225 c d Post  s) : tV c d 1 225 [some (.ref 1), none, none, none, none, none, none] [] s Post := by
  intro h hR
  have hk : ∀ pc i, gm_find gk_1 pc = some i → gm_code (gt_T c.1 c.2.1 c.2.2.1) 1 pc = some i := fun _ _ z => z
  unfold w1_225 at w
  unfold gV
  refine gw_pst hk 1 (st' := (226, [some (.ref 1), none, none, none, none, none, none], [.ref 1], h)) rfl ?_
  refine gw_gf (hk _ _ rfl) (RL_fI hR rfl) ?_
  refine gw_pst hk 1 (st' := (233, [some (.ref 1), none, none, none, none, none, none], [.int (gsV s 1 1)], h)) rfl ?_
  refine gw_le (L' := [none, none, none, none, none, none, none]) (gm_le_n _ (gm_le_k _ (gm_le_k _ (gm_le_k _ (gm_le_k _ (gm_le_k _ (gm_le_k _ gm_le_nil))))))) ?_
  exact ok1_233 c d Post _ _ w _ hR
def w1_205 (c : gx) (d : Nat) (Post : Option Value → gs → Prop) (x1 : Int32) (x3 : Int32) (s : gs) : Prop :=
  (((gsV s 1 1) ≤ 40 → ((x1 = 0 → ((x3 ≤ 0 → w1_233 c d Post (-1) s) ∧ (¬ (x3 ≤ 0) → w1_225 c d Post s))) ∧ (¬ (x1 = 0) → w1_225 c d Post s))) ∧ (¬ ((gsV s 1 1) ≤ 40) → Post (some (.int 40)) s))
theorem ok1_205 (c : gx) (d : Nat) (Post : Option Value → gs → Prop)  (x1 : Int32) (x3 : Int32) (s : gs) (w : w1_205 c d Post x1 x3 s) : tV c d 1 205 [some (.ref 1), some (.int x1), none, some (.int x3), none, none, none] [] s Post := by
  intro h hR
  have hk : ∀ pc i, gm_find gk_1 pc = some i → gm_code (gt_T c.1 c.2.1 c.2.2.1) 1 pc = some i := fun _ _ z => z
  unfold w1_205 at w
  unfold gV
  refine gw_pst hk 1 (st' := (206, [some (.ref 1), some (.int x1), none, some (.int x3), none, none, none], [.ref 1], h)) rfl ?_
  refine gw_gf (hk _ _ rfl) (RL_fI hR rfl) ?_
  refine gw_pst hk 1 (st' := (211, [some (.ref 1), some (.int x1), none, some (.int x3), none, none, none], [.int 40, .int (gsV s 1 1)], h)) rfl ?_
  refine gw_br (c := (gsV s 1 1) ≤ 40) (a := (217, [some (.ref 1), some (.int x1), none, some (.int x3), none, none, none], [], h)) (b := (214, [some (.ref 1), some (.int x1), none, some (.int x3), none, none, none], [], h)) (hk _ _ rfl) rfl ⟨fun z2 => ?_, fun z2 => ?_⟩
  · replace w := w.1 z2
    refine gw_pst hk 1 (st' := (218, [some (.ref 1), some (.int x1), none, some (.int x3), none, none, none], [.int x1], h)) rfl ?_
    refine gw_br (c := x1 = 0) (a := (221, [some (.ref 1), some (.int x1), none, some (.int x3), none, none, none], [], h)) (b := (225, [some (.ref 1), some (.int x1), none, some (.int x3), none, none, none], [], h)) (hk _ _ rfl) rfl ⟨fun z3 => ?_, fun z3 => ?_⟩
    · replace w := w.1 z3
      refine gw_pst hk 1 (st' := (222, [some (.ref 1), some (.int x1), none, some (.int x3), none, none, none], [.int x3], h)) rfl ?_
      refine gw_br (c := x3 ≤ 0) (a := (232, [some (.ref 1), some (.int x1), none, some (.int x3), none, none, none], [], h)) (b := (225, [some (.ref 1), some (.int x1), none, some (.int x3), none, none, none], [], h)) (hk _ _ rfl) rfl ⟨fun z4 => ?_, fun z4 => ?_⟩
      · replace w := w.1 z4
        refine gw_pst hk 1 (st' := (233, [some (.ref 1), some (.int x1), none, some (.int x3), none, none, none], [.int (-1)], h)) rfl ?_
        refine gw_le (L' := [none, none, none, none, none, none, none]) (gm_le_n _ (gm_le_n _ (gm_le_k _ (gm_le_n _ (gm_le_k _ (gm_le_k _ (gm_le_k _ gm_le_nil))))))) ?_
        exact ok1_233 c d Post _ _ w _ hR
      · replace w := w.2 z4
        refine gw_le (L' := [some (.ref 1), none, none, none, none, none, none]) (gm_le_k _ (gm_le_n _ (gm_le_k _ (gm_le_n _ (gm_le_k _ (gm_le_k _ (gm_le_k _ gm_le_nil))))))) ?_
        exact ok1_225 c d Post _ w _ hR
    · replace w := w.2 z3
      refine gw_le (L' := [some (.ref 1), none, none, none, none, none, none]) (gm_le_k _ (gm_le_n _ (gm_le_k _ (gm_le_n _ (gm_le_k _ (gm_le_k _ (gm_le_k _ gm_le_nil))))))) ?_
      exact ok1_225 c d Post _ w _ hR
  · replace w := w.2 z2
    refine gw_pst hk 1 (st' := (216, [some (.ref 1), some (.int x1), none, some (.int x3), none, none, none], [.int 40], h)) rfl ?_
    exact gw_ret (hk _ _ rfl) rfl ⟨_, hR, w⟩
def wb1_12 (c : gx) (d : Nat) (Post : Option Value → gs → Prop) (K12 : Int32 → Int32 → Int32 → Int32 → Int32 → gs → Prop) (x1 : Int32) (x2 : Int32) (x3 : Int32) (x4 : Int32) (x5 : Int32) (s : gs) : Prop :=
  (((gsV s 1 1) ≤ x5 → w1_205 c d Post x1 x3 s) ∧ (¬ ((gsV s 1 1) ≤ x5) → ((40 ≤ x5 → w1_205 c d Post x1 x3 s) ∧ (¬ (40 ≤ x5) → tE c d 61 [.ref 1, .int x5] s (fun v4 s_4 => ∃ x_4 : Int32, v4 = some (.int x_4) ∧ ((x1 = 0 → tE c d 60 [.int x_4] s_4 (fun v6 s_6 => ∃ x_6 : Int32, v6 = some (.int x_6) ∧ ((x_6 = 0 → w1_124 c d Post K12 x1 x2 x3 x4 x5 x_4 s_6) ∧ (¬ (x_6 = 0) → ((3 ≤ x2 → w1_124 c d Post K12 x1 x2 x3 x4 x5 x_4 s_6) ∧ (¬ (3 ≤ x2) → w1_199 c d Post K12 x1 (x2 + 1) x3 x4 x5 s_6)))))) ∧ (¬ (x1 = 0) → ((x_4 = 40 → ((4 ≤ x3 → w1_68 c d Post K12 x1 x2 x3 x4 x5 x_4 s_4) ∧ (¬ (4 ≤ x3) → w1_199 c d Post K12 x1 x2 (x3 + 1) (x4 &&& ((1 <<< ((x3 + 1) &&& 31)) ^^^ (-1))) x5 s_4))) ∧ (¬ (x_4 = 40) → w1_68 c d Post K12 x1 x2 x3 x4 x5 x_4 s_4)))))))))
theorem okb1_12 (c : gx) (d : Nat) (Post : Option Value → gs → Prop) (K12 : Int32 → Int32 → Int32 → Int32 → Int32 → gs → Prop)  (hK12 : ∀ (x1 : Int32) (x2 : Int32) (x3 : Int32) (x4 : Int32) (x5 : Int32) (s : gs), K12 x1 x2 x3 x4 x5 s → tV c d 1 12 [some (.ref 1), some (.int x1), some (.int x2), some (.int x3), some (.int x4), some (.int x5), none] [] s Post) (x1 : Int32) (x2 : Int32) (x3 : Int32) (x4 : Int32) (x5 : Int32) (s : gs) (w : wb1_12 c d Post K12 x1 x2 x3 x4 x5 s) : tV c d 1 12 [some (.ref 1), some (.int x1), some (.int x2), some (.int x3), some (.int x4), some (.int x5), none] [] s Post := by
  intro h hR
  have hk : ∀ pc i, gm_find gk_1 pc = some i → gm_code (gt_T c.1 c.2.1 c.2.2.1) 1 pc = some i := fun _ _ z => z
  unfold wb1_12 at w
  unfold gV
  refine gw_pst hk 2 (st' := (15, [some (.ref 1), some (.int x1), some (.int x2), some (.int x3), some (.int x4), some (.int x5), none], [.ref 1, .int x5], h)) rfl ?_
  refine gw_gf (hk _ _ rfl) (RL_fI hR rfl) ?_
  refine gw_br (c := (gsV s 1 1) ≤ x5) (a := (205, [some (.ref 1), some (.int x1), some (.int x2), some (.int x3), some (.int x4), some (.int x5), none], [], h)) (b := (21, [some (.ref 1), some (.int x1), some (.int x2), some (.int x3), some (.int x4), some (.int x5), none], [], h)) (hk _ _ rfl) rfl ⟨fun z2 => ?_, fun z2 => ?_⟩
  · replace w := w.1 z2
    refine gw_le (L' := [some (.ref 1), some (.int x1), none, some (.int x3), none, none, none]) (gm_le_k _ (gm_le_k _ (gm_le_n _ (gm_le_k _ (gm_le_n _ (gm_le_n _ (gm_le_k _ gm_le_nil))))))) ?_
    exact ok1_205 c d Post _ _ _ w _ hR
  · replace w := w.2 z2
    refine gw_pst hk 2 (st' := (25, [some (.ref 1), some (.int x1), some (.int x2), some (.int x3), some (.int x4), some (.int x5), none], [.int 40, .int x5], h)) rfl ?_
    refine gw_br (c := 40 ≤ x5) (a := (205, [some (.ref 1), some (.int x1), some (.int x2), some (.int x3), some (.int x4), some (.int x5), none], [], h)) (b := (28, [some (.ref 1), some (.int x1), some (.int x2), some (.int x3), some (.int x4), some (.int x5), none], [], h)) (hk _ _ rfl) rfl ⟨fun z3 => ?_, fun z3 => ?_⟩
    · replace w := w.1 z3
      refine gw_le (L' := [some (.ref 1), some (.int x1), none, some (.int x3), none, none, none]) (gm_le_k _ (gm_le_k _ (gm_le_n _ (gm_le_k _ (gm_le_n _ (gm_le_n _ (gm_le_k _ gm_le_nil))))))) ?_
      exact ok1_205 c d Post _ _ _ w _ hR
    · replace w := w.2 z3
      refine gw_pst hk 2 (st' := (31, [some (.ref 1), some (.int x1), some (.int x2), some (.int x3), some (.int x4), some (.int x5), none], [.int x5, .ref 1], h)) rfl ?_
      obtain ⟨fs4, e4⟩ := RL_o hR (r := 1) (ci := 7) rfl
      refine gw_call (jj := 61) (As := [.ref 1, .int x5]) (rest := []) (hk _ _ rfl) (fun _ => rfl) rfl rfl (Nat.le_of_ble_eq_true rfl) (gm_rcv_v rfl e4 rfl) ?_
      refine ge_imp (w h hR) (fun v4 h w => ?_)
      obtain ⟨s_4, hR, x_4, rfl, w⟩ := w
      show gw (gt_T c.1 c.2.1 c.2.2.1) c.2.2.2 d 1 (34, [some (.ref 1), some (.int x1), some (.int x2), some (.int x3), some (.int x4), some (.int x5), none], [.int x_4], h) _
      refine gw_pst hk 2 (st' := (37, [some (.ref 1), some (.int x1), some (.int x2), some (.int x3), some (.int x4), some (.int x5), some (.int x_4)], [.int x1], h)) rfl ?_
      refine gw_br (c := x1 = 0) (a := (105, [some (.ref 1), some (.int x1), some (.int x2), some (.int x3), some (.int x4), some (.int x5), some (.int x_4)], [], h)) (b := (40, [some (.ref 1), some (.int x1), some (.int x2), some (.int x3), some (.int x4), some (.int x5), some (.int x_4)], [], h)) (hk _ _ rfl) rfl ⟨fun z5 => ?_, fun z5 => ?_⟩
      · replace w := w.1 z5
        refine gw_pst hk 1 (st' := (107, [some (.ref 1), some (.int x1), some (.int x2), some (.int x3), some (.int x4), some (.int x5), some (.int x_4)], [.int x_4], h)) rfl ?_
        refine gw_call (jj := 60) (As := [.int x_4]) (rest := []) (hk _ _ rfl) (fun _ => rfl) rfl rfl (Nat.le_of_ble_eq_true rfl) rfl ?_
        refine ge_imp (w h hR) (fun v6 h w => ?_)
        obtain ⟨s_6, hR, x_6, rfl, w⟩ := w
        show gw (gt_T c.1 c.2.1 c.2.2.1) c.2.2.2 d 1 (110, [some (.ref 1), some (.int x1), some (.int x2), some (.int x3), some (.int x4), some (.int x5), some (.int x_4)], [.int x_6], h) _
        refine gw_br (c := x_6 = 0) (a := (124, [some (.ref 1), some (.int x1), some (.int x2), some (.int x3), some (.int x4), some (.int x5), some (.int x_4)], [], h)) (b := (113, [some (.ref 1), some (.int x1), some (.int x2), some (.int x3), some (.int x4), some (.int x5), some (.int x_4)], [], h)) (hk _ _ rfl) rfl ⟨fun z7 => ?_, fun z7 => ?_⟩
        · replace w := w.1 z7
          exact ok1_124 c d Post K12 hK12 _ _ _ _ _ _ _ w _ hR
        · replace w := w.2 z7
          refine gw_pst hk 2 (st' := (115, [some (.ref 1), some (.int x1), some (.int x2), some (.int x3), some (.int x4), some (.int x5), some (.int x_4)], [.int 3, .int x2], h)) rfl ?_
          refine gw_br (c := 3 ≤ x2) (a := (124, [some (.ref 1), some (.int x1), some (.int x2), some (.int x3), some (.int x4), some (.int x5), some (.int x_4)], [], h)) (b := (118, [some (.ref 1), some (.int x1), some (.int x2), some (.int x3), some (.int x4), some (.int x5), some (.int x_4)], [], h)) (hk _ _ rfl) rfl ⟨fun z8 => ?_, fun z8 => ?_⟩
          · replace w := w.1 z8
            exact ok1_124 c d Post K12 hK12 _ _ _ _ _ _ _ w _ hR
          · replace w := w.2 z8
            refine gw_pst hk 2 (st' := (199, [some (.ref 1), some (.int x1), some (.int (x2 + 1)), some (.int x3), some (.int x4), some (.int x5), some (.int x_4)], [], h)) rfl ?_
            refine gw_le (L' := [some (.ref 1), some (.int x1), some (.int (x2 + 1)), some (.int x3), some (.int x4), some (.int x5), none]) (gm_le_k _ (gm_le_k _ (gm_le_k _ (gm_le_k _ (gm_le_k _ (gm_le_k _ (gm_le_n _ gm_le_nil))))))) ?_
            exact ok1_199 c d Post K12 hK12 _ _ _ _ _ _ w _ hR
      · replace w := w.2 z5
        refine gw_pst hk 2 (st' := (44, [some (.ref 1), some (.int x1), some (.int x2), some (.int x3), some (.int x4), some (.int x5), some (.int x_4)], [.int 40, .int x_4], h)) rfl ?_
        refine gw_br (c := x_4 = 40) (a := (47, [some (.ref 1), some (.int x1), some (.int x2), some (.int x3), some (.int x4), some (.int x5), some (.int x_4)], [], h)) (b := (68, [some (.ref 1), some (.int x1), some (.int x2), some (.int x3), some (.int x4), some (.int x5), some (.int x_4)], [], h)) (hk _ _ rfl) rfl ⟨fun z9 => ?_, fun z9 => ?_⟩
        · replace w := w.1 z9
          refine gw_pst hk 2 (st' := (49, [some (.ref 1), some (.int x1), some (.int x2), some (.int x3), some (.int x4), some (.int x5), some (.int x_4)], [.int 4, .int x3], h)) rfl ?_
          refine gw_br (c := 4 ≤ x3) (a := (68, [some (.ref 1), some (.int x1), some (.int x2), some (.int x3), some (.int x4), some (.int x5), some (.int x_4)], [], h)) (b := (52, [some (.ref 1), some (.int x1), some (.int x2), some (.int x3), some (.int x4), some (.int x5), some (.int x_4)], [], h)) (hk _ _ rfl) rfl ⟨fun z10 => ?_, fun z10 => ?_⟩
          · replace w := w.1 z10
            exact ok1_68 c d Post K12 hK12 _ _ _ _ _ _ _ w _ hR
          · replace w := w.2 z10
            refine gw_pst hk 10 (st' := (199, [some (.ref 1), some (.int x1), some (.int x2), some (.int (x3 + 1)), some (.int (x4 &&& ((1 <<< ((x3 + 1) &&& 31)) ^^^ (-1)))), some (.int x5), some (.int x_4)], [], h)) rfl ?_
            refine gw_le (L' := [some (.ref 1), some (.int x1), some (.int x2), some (.int (x3 + 1)), some (.int (x4 &&& ((1 <<< ((x3 + 1) &&& 31)) ^^^ (-1)))), some (.int x5), none]) (gm_le_k _ (gm_le_k _ (gm_le_k _ (gm_le_k _ (gm_le_k _ (gm_le_k _ (gm_le_n _ gm_le_nil))))))) ?_
            exact ok1_199 c d Post K12 hK12 _ _ _ _ _ _ w _ hR
        · replace w := w.2 z9
          exact ok1_68 c d Post K12 hK12 _ _ _ _ _ _ _ w _ hR
def wl1_12 (c : gx) (d : Nat) (Post : Option Value → gs → Prop) : Nat → Int32 → Int32 → Int32 → Int32 → Int32 → gs → Prop
  | 0 => fun _ _ _ _ _ _ => False
  | n + 1 => wb1_12 c d Post (wl1_12 c d Post n)
theorem okl1_12 (c : gx) (d : Nat) (Post : Option Value → gs → Prop) : ∀ (n : Nat) (x1 : Int32) (x2 : Int32) (x3 : Int32) (x4 : Int32) (x5 : Int32) (s : gs), wl1_12 c d Post n x1 x2 x3 x4 x5 s → tV c d 1 12 [some (.ref 1), some (.int x1), some (.int x2), some (.int x3), some (.int x4), some (.int x5), none] [] s Post
  | 0, _, _, _, _, _, _, w => w.elim
  | n + 1, x1, x2, x3, x4, x5, s, w => okb1_12 c d Post (wl1_12 c d Post n) (okl1_12 c d Post n) x1 x2 x3 x4 x5 s w
/-- CommandByTurns$Formula.misreadAt(LCommandByTurns$Text;)I -/
def wm1 (c : gx) (d : Nat) (Post : Option Value → gs → Prop)  (s : gs) : Prop :=
  ∃ n, wl1_12 c d Post n 1 0 0 0 0 s
theorem okm1 (c : gx) (d : Nat) (Post : Option Value → gs → Prop)  (s : gs) (w : wm1 c d Post  s) : tE c (d + 1) 1 [.ref 1] s Post := by
  intro h hR
  have hk : ∀ pc i, gm_find gk_1 pc = some i → gm_code (gt_T c.1 c.2.1 c.2.2.1) 1 pc = some i := fun _ _ z => z
  unfold wm1 at w
  refine ge_of (by decide) (Nat.le_of_ble_eq_true rfl) ?_
  show gw (gt_T c.1 c.2.1 c.2.2.1) c.2.2.2 d 1 (0, [some (.ref 1), none, none, none, none, none, none], [], h) _
  refine gw_pst hk 10 (st' := (12, [some (.ref 1), some (.int 1), some (.int 0), some (.int 0), some (.int 0), some (.int 0), none], [], h)) rfl ?_
  obtain ⟨n, w⟩ := w
  exact okl1_12 c d Post n _ _ _ _ _ _ w _ hR
def w2_21 (c : gx) (d : Nat) (Post : Option Value → gs → Prop) (xs0 : Int32) (s : gs) : Prop :=
  ((xs0 = 0 ∨ xs0 = 1) ∧ Post (some (.int xs0)) s)
theorem ok2_21 (c : gx) (d : Nat) (Post : Option Value → gs → Prop)  (xs0 : Int32) (s : gs) (w : w2_21 c d Post xs0 s) : tV c d 2 21 [none] [.int xs0] s Post := by
  intro h hR
  have hk : ∀ pc i, gm_find gk_2 pc = some i → gm_code (gt_T c.1 c.2.1 c.2.2.1) 2 pc = some i := fun _ _ z => z
  unfold w2_21 at w
  unfold gV
  exact gw_retZ (hk _ _ rfl) rfl w.1 ⟨_, hR, w.2⟩
def w2_16 (c : gx) (d : Nat) (Post : Option Value → gs → Prop)  (s : gs) : Prop :=
  w2_21 c d Post 1 s
theorem ok2_16 (c : gx) (d : Nat) (Post : Option Value → gs → Prop)   (s : gs) (w : w2_16 c d Post  s) : tV c d 2 16 [none] [] s Post := by
  intro h hR
  have hk : ∀ pc i, gm_find gk_2 pc = some i → gm_code (gt_T c.1 c.2.1 c.2.2.1) 2 pc = some i := fun _ _ z => z
  unfold w2_16 at w
  unfold gV
  refine gw_pst hk 2 (st' := (21, [none], [.int 1], h)) rfl ?_
  exact ok2_21 c d Post _ _ w _ hR
/-- CommandByTurns$Formula.isOperand(C)Z -/
def wm2 (c : gx) (d : Nat) (Post : Option Value → gs → Prop) (x0 : Int32) (s : gs) : Prop :=
  tE c d 60 [.int x0] s (fun v1 s_1 => ∃ x_1 : Int32, v1 = some (.int x_1) ∧ ((x_1 = 0 → tE c d 1002 [.float 0, .int x0] s_1 (fun v3 s_3 => ∃ x_3 : Int32, v3 = some (.int x_3) ∧ ((x_3 < 0 → w2_21 c d Post 0 s_3) ∧ (¬ (x_3 < 0) → w2_16 c d Post s_3)))) ∧ (¬ (x_1 = 0) → w2_16 c d Post s_1)))
theorem okm2 (c : gx) (d : Nat) (Post : Option Value → gs → Prop) (x0 : Int32) (s : gs) (w : wm2 c d Post x0 s) : tE c (d + 1) 2 [.int x0] s Post := by
  intro h hR
  have hk : ∀ pc i, gm_find gk_2 pc = some i → gm_code (gt_T c.1 c.2.1 c.2.2.1) 2 pc = some i := fun _ _ z => z
  unfold wm2 at w
  refine ge_of (by decide) (Nat.le_of_ble_eq_true rfl) ?_
  show gw (gt_T c.1 c.2.1 c.2.2.1) c.2.2.2 d 2 (0, [some (.int x0)], [], h) _
  refine gw_pst hk 1 (st' := (1, [some (.int x0)], [.int x0], h)) rfl ?_
  refine gw_call (jj := 60) (As := [.int x0]) (rest := []) (hk _ _ rfl) (fun _ => rfl) rfl rfl (Nat.le_of_ble_eq_true rfl) rfl ?_
  refine ge_imp (w h hR) (fun v1 h w => ?_)
  obtain ⟨s_1, hR, x_1, rfl, w⟩ := w
  show gw (gt_T c.1 c.2.1 c.2.2.1) c.2.2.2 d 2 (4, [some (.int x0)], [.int x_1], h) _
  refine gw_br (c := x_1 = 0) (a := (7, [some (.int x0)], [], h)) (b := (16, [some (.int x0)], [], h)) (hk _ _ rfl) rfl ⟨fun z2 => ?_, fun z2 => ?_⟩
  · replace w := w.1 z2
    refine gw_pst hk 2 (st' := (10, [some (.int x0)], [.int x0, .float 0], h)) rfl ?_
    refine gw_call (jj := 1002) (As := [.float 0, .int x0]) (rest := []) (hk _ _ rfl) (fun _ => rfl) rfl rfl (Nat.le_of_ble_eq_true rfl) rfl ?_
    refine ge_imp (w h hR) (fun v3 h w => ?_)
    obtain ⟨s_3, hR, x_3, rfl, w⟩ := w
    show gw (gt_T c.1 c.2.1 c.2.2.1) c.2.2.2 d 2 (13, [some (.int x0)], [.int x_3], h) _
    refine gw_br (c := x_3 < 0) (a := (20, [some (.int x0)], [], h)) (b := (16, [some (.int x0)], [], h)) (hk _ _ rfl) rfl ⟨fun z4 => ?_, fun z4 => ?_⟩
    · replace w := w.1 z4
      refine gw_pst hk 1 (st' := (21, [some (.int x0)], [.int 0], h)) rfl ?_
      refine gw_le (L' := [none]) (gm_le_n _ gm_le_nil) ?_
      exact ok2_21 c d Post _ _ w _ hR
    · replace w := w.2 z4
      refine gw_le (L' := [none]) (gm_le_n _ gm_le_nil) ?_
      exact ok2_16 c d Post _ w _ hR
  · replace w := w.2 z2
    refine gw_le (L' := [none]) (gm_le_n _ gm_le_nil) ?_
    exact ok2_16 c d Post _ w _ hR
def w3_76 (c : gx) (d : Nat) (Post : Option Value → gs → Prop)  (s : gs) : Prop :=
  Post (some (.int 1)) s
theorem ok3_76 (c : gx) (d : Nat) (Post : Option Value → gs → Prop)   (s : gs) (w : w3_76 c d Post  s) : tV c d 3 76 [none] [] s Post := by
  intro h hR
  have hk : ∀ pc i, gm_find gk_3 pc = some i → gm_code (gt_T c.1 c.2.1 c.2.2.1) 3 pc = some i := fun _ _ z => z
  unfold w3_76 at w
  unfold gV
  refine gw_pst hk 1 (st' := (77, [none], [.int 1], h)) rfl ?_
  exact gw_ret (hk _ _ rfl) rfl ⟨_, hR, w⟩
def w3_78 (c : gx) (d : Nat) (Post : Option Value → gs → Prop)  (s : gs) : Prop :=
  Post (some (.int 2)) s
theorem ok3_78 (c : gx) (d : Nat) (Post : Option Value → gs → Prop)   (s : gs) (w : w3_78 c d Post  s) : tV c d 3 78 [none] [] s Post := by
  intro h hR
  have hk : ∀ pc i, gm_find gk_3 pc = some i → gm_code (gt_T c.1 c.2.1 c.2.2.1) 3 pc = some i := fun _ _ z => z
  unfold w3_78 at w
  unfold gV
  refine gw_pst hk 1 (st' := (79, [none], [.int 2], h)) rfl ?_
  exact gw_ret (hk _ _ rfl) rfl ⟨_, hR, w⟩
def w3_80 (c : gx) (d : Nat) (Post : Option Value → gs → Prop)  (s : gs) : Prop :=
  Post (some (.int 3)) s
theorem ok3_80 (c : gx) (d : Nat) (Post : Option Value → gs → Prop)   (s : gs) (w : w3_80 c d Post  s) : tV c d 3 80 [none] [] s Post := by
  intro h hR
  have hk : ∀ pc i, gm_find gk_3 pc = some i → gm_code (gt_T c.1 c.2.1 c.2.2.1) 3 pc = some i := fun _ _ z => z
  unfold w3_80 at w
  unfold gV
  refine gw_pst hk 1 (st' := (81, [none], [.int 3], h)) rfl ?_
  exact gw_ret (hk _ _ rfl) rfl ⟨_, hR, w⟩
/-- CommandByTurns$Formula.rank(I)I -/
def wm3 (c : gx) (d : Nat) (Post : Option Value → gs → Prop) (x0 : Int32) (s : gs) : Prop :=
  ((x0 = 42 → w3_80 c d Post s) ∧ (x0 = 43 → w3_78 c d Post s) ∧ (x0 = 45 → w3_78 c d Post s) ∧ (x0 = 47 → w3_80 c d Post s) ∧ (x0 = 60 → w3_76 c d Post s) ∧ (x0 = 61 → w3_76 c d Post s) ∧ (x0 = 62 → w3_76 c d Post s) ∧ (x0 = 256 → Post (some (.int 4)) s) ∧ (¬ x0 = 42 ∧ ¬ x0 = 43 ∧ ¬ x0 = 45 ∧ ¬ x0 = 47 ∧ ¬ x0 = 60 ∧ ¬ x0 = 61 ∧ ¬ x0 = 62 ∧ ¬ x0 = 256 → Post (some (.int 0)) s))
theorem okm3 (c : gx) (d : Nat) (Post : Option Value → gs → Prop) (x0 : Int32) (s : gs) (w : wm3 c d Post x0 s) : tE c (d + 1) 3 [.int x0] s Post := by
  intro h hR
  have hk : ∀ pc i, gm_find gk_3 pc = some i → gm_code (gt_T c.1 c.2.1 c.2.2.1) 3 pc = some i := fun _ _ z => z
  unfold wm3 at w
  refine ge_of (by decide) (Nat.le_of_ble_eq_true rfl) ?_
  show gw (gt_T c.1 c.2.1 c.2.2.1) c.2.2.2 d 3 (0, [some (.int x0)], [], h) _
  refine gw_pst hk 1 (st' := (1, [some (.int x0)], [.int x0], h)) rfl ?_
  by_cases z1_0 : x0 = 42
  · replace w := w.1 z1_0
    refine gw_swk (st' := (80, [some (.int x0)], [], h)) (hk _ _ rfl) z1_0 rfl ?_
    refine gw_le (L' := [none]) (gm_le_n _ gm_le_nil) ?_
    exact ok3_80 c d Post _ w _ hR
  by_cases z1_1 : x0 = 43
  · replace w := w.2.1 z1_1
    refine gw_swk (st' := (78, [some (.int x0)], [], h)) (hk _ _ rfl) z1_1 rfl ?_
    refine gw_le (L' := [none]) (gm_le_n _ gm_le_nil) ?_
    exact ok3_78 c d Post _ w _ hR
  by_cases z1_2 : x0 = 45
  · replace w := w.2.2.1 z1_2
    refine gw_swk (st' := (78, [some (.int x0)], [], h)) (hk _ _ rfl) z1_2 rfl ?_
    refine gw_le (L' := [none]) (gm_le_n _ gm_le_nil) ?_
    exact ok3_78 c d Post _ w _ hR
  by_cases z1_3 : x0 = 47
  · replace w := w.2.2.2.1 z1_3
    refine gw_swk (st' := (80, [some (.int x0)], [], h)) (hk _ _ rfl) z1_3 rfl ?_
    refine gw_le (L' := [none]) (gm_le_n _ gm_le_nil) ?_
    exact ok3_80 c d Post _ w _ hR
  by_cases z1_4 : x0 = 60
  · replace w := w.2.2.2.2.1 z1_4
    refine gw_swk (st' := (76, [some (.int x0)], [], h)) (hk _ _ rfl) z1_4 rfl ?_
    refine gw_le (L' := [none]) (gm_le_n _ gm_le_nil) ?_
    exact ok3_76 c d Post _ w _ hR
  by_cases z1_5 : x0 = 61
  · replace w := w.2.2.2.2.2.1 z1_5
    refine gw_swk (st' := (76, [some (.int x0)], [], h)) (hk _ _ rfl) z1_5 rfl ?_
    refine gw_le (L' := [none]) (gm_le_n _ gm_le_nil) ?_
    exact ok3_76 c d Post _ w _ hR
  by_cases z1_6 : x0 = 62
  · replace w := w.2.2.2.2.2.2.1 z1_6
    refine gw_swk (st' := (76, [some (.int x0)], [], h)) (hk _ _ rfl) z1_6 rfl ?_
    refine gw_le (L' := [none]) (gm_le_n _ gm_le_nil) ?_
    exact ok3_76 c d Post _ w _ hR
  by_cases z1_7 : x0 = 256
  · replace w := w.2.2.2.2.2.2.2.1 z1_7
    refine gw_swk (st' := (82, [some (.int x0)], [], h)) (hk _ _ rfl) z1_7 rfl ?_
    refine gw_pst hk 1 (st' := (83, [some (.int x0)], [.int 4], h)) rfl ?_
    exact gw_ret (hk _ _ rfl) rfl ⟨_, hR, w⟩
  replace w := w.2.2.2.2.2.2.2.2 ⟨z1_0, z1_1, z1_2, z1_3, z1_4, z1_5, z1_6, z1_7⟩
  refine gw_lsd (st' := (84, [some (.int x0)], [], h)) (hk _ _ rfl) (by
      have y0 : ¬ 42 = (x0 : Int32).toInt := fun z => z1_0 (Int32.toInt_inj.mp z.symm)
      have y1 : ¬ 43 = (x0 : Int32).toInt := fun z => z1_1 (Int32.toInt_inj.mp z.symm)
      have y2 : ¬ 45 = (x0 : Int32).toInt := fun z => z1_2 (Int32.toInt_inj.mp z.symm)
      have y3 : ¬ 47 = (x0 : Int32).toInt := fun z => z1_3 (Int32.toInt_inj.mp z.symm)
      have y4 : ¬ 60 = (x0 : Int32).toInt := fun z => z1_4 (Int32.toInt_inj.mp z.symm)
      have y5 : ¬ 61 = (x0 : Int32).toInt := fun z => z1_5 (Int32.toInt_inj.mp z.symm)
      have y6 : ¬ 62 = (x0 : Int32).toInt := fun z => z1_6 (Int32.toInt_inj.mp z.symm)
      have y7 : ¬ 256 = (x0 : Int32).toInt := fun z => z1_7 (Int32.toInt_inj.mp z.symm)
      simp [Op.lookupswitch.offset, y0, y1, y2, y3, y4, y5, y6, y7]) rfl ?_
  refine gw_pst hk 1 (st' := (85, [some (.int x0)], [.int 0], h)) rfl ?_
  exact gw_ret (hk _ _ rfl) rfl ⟨_, hR, w⟩
def w4_73 (c : gx) (d : Nat) (Post : Option Value → gs → Prop) (K46 : Int32 → Int32 → Int32 → Int32 → gs → Prop) (x2 : Int32) (x3 : Int32) (x4 : Int32) (x5 : Int32) (xs1 : Int32) (s : gs) : Prop :=
  tE c d 5 [.ref 5, .int xs1, .int x4] s (fun v1 s_1 => ∃ x_1 : Int32, v1 = some (.int x_1) ∧ K46 x2 x3 x_1 (x5 + 1) s_1)
theorem ok4_73 (c : gx) (d : Nat) (Post : Option Value → gs → Prop) (K46 : Int32 → Int32 → Int32 → Int32 → gs → Prop)  (hK46 : ∀ (x2 : Int32) (x3 : Int32) (x4 : Int32) (x5 : Int32) (s : gs), K46 x2 x3 x4 x5 s → tV c d 4 46 [some (.ref 5), some (.ref 1), some (.int x2), some (.int x3), some (.int x4), some (.int x5)] [] s Post) (x2 : Int32) (x3 : Int32) (x4 : Int32) (x5 : Int32) (xs1 : Int32) (s : gs) (w : w4_73 c d Post K46 x2 x3 x4 x5 xs1 s) : tV c d 4 73 [some (.ref 5), some (.ref 1), some (.int x2), some (.int x3), some (.int x4), some (.int x5)] [.int xs1, .ref 5] s Post := by
  intro h hR
  have hk : ∀ pc i, gm_find gk_4 pc = some i → gm_code (gt_T c.1 c.2.1 c.2.2.1) 4 pc = some i := fun _ _ z => z
  unfold w4_73 at w
  unfold gV
  refine gw_pst hk 1 (st' := (75, [some (.ref 5), some (.ref 1), some (.int x2), some (.int x3), some (.int x4), some (.int x5)], [.int x4, .int xs1, .ref 5], h)) rfl ?_
  obtain ⟨fs1, e1⟩ := RL_o hR (r := 5) (ci := 0) rfl
  refine gw_call (jj := 5) (As := [.ref 5, .int xs1, .int x4]) (rest := []) (hk _ _ rfl) (fun _ => rfl) rfl rfl (Nat.le_of_ble_eq_true rfl) (gm_rcv_v rfl e1 rfl) ?_
  refine ge_imp (w h hR) (fun v1 h w => ?_)
  obtain ⟨s_1, hR, x_1, rfl, w⟩ := w
  show gw (gt_T c.1 c.2.1 c.2.2.1) c.2.2.2 d 4 (78, [some (.ref 5), some (.ref 1), some (.int x2), some (.int x3), some (.int x4), some (.int x5)], [.int x_1], h) _
  refine gw_pst hk 3 (st' := (46, [some (.ref 5), some (.ref 1), some (.int x2), some (.int x3), some (.int x_1), some (.int (x5 + 1))], [], h)) rfl ?_
  exact hK46 _ _ _ _ _ w _ hR
def wb4_46 (c : gx) (d : Nat) (Post : Option Value → gs → Prop) (K46 : Int32 → Int32 → Int32 → Int32 → gs → Prop) (x2 : Int32) (x3 : Int32) (x4 : Int32) (x5 : Int32) (s : gs) : Prop :=
  ((x3 ≤ x5 → tE c d 7 [.ref 5, .int 1] s (fun v2 s_2 => v2 = none ∧ Post none s_2)) ∧ (¬ (x3 ≤ x5) → ((x2 = 0 → tE c d 61 [.ref 1, .int x5] s (fun v4 s_4 => ∃ x_4 : Int32, v4 = some (.int x_4) ∧ w4_73 c d Post K46 x2 x3 x4 x5 x_4 s_4)) ∧ (¬ (x2 = 0) → tE c d 1001 [.float 1, .int x5] s (fun v5 s_5 => ∃ x_5 : Int32, v5 = some (.int x_5) ∧ w4_73 c d Post K46 x2 x3 x4 x5 x_5 s_5)))))
theorem okb4_46 (c : gx) (d : Nat) (Post : Option Value → gs → Prop) (K46 : Int32 → Int32 → Int32 → Int32 → gs → Prop)  (hK46 : ∀ (x2 : Int32) (x3 : Int32) (x4 : Int32) (x5 : Int32) (s : gs), K46 x2 x3 x4 x5 s → tV c d 4 46 [some (.ref 5), some (.ref 1), some (.int x2), some (.int x3), some (.int x4), some (.int x5)] [] s Post) (x2 : Int32) (x3 : Int32) (x4 : Int32) (x5 : Int32) (s : gs) (w : wb4_46 c d Post K46 x2 x3 x4 x5 s) : tV c d 4 46 [some (.ref 5), some (.ref 1), some (.int x2), some (.int x3), some (.int x4), some (.int x5)] [] s Post := by
  intro h hR
  have hk : ∀ pc i, gm_find gk_4 pc = some i → gm_code (gt_T c.1 c.2.1 c.2.2.1) 4 pc = some i := fun _ _ z => z
  unfold wb4_46 at w
  unfold gV
  refine gw_pst hk 2 (st' := (49, [some (.ref 5), some (.ref 1), some (.int x2), some (.int x3), some (.int x4), some (.int x5)], [.int x3, .int x5], h)) rfl ?_
  refine gw_br (c := x3 ≤ x5) (a := (86, [some (.ref 5), some (.ref 1), some (.int x2), some (.int x3), some (.int x4), some (.int x5)], [], h)) (b := (52, [some (.ref 5), some (.ref 1), some (.int x2), some (.int x3), some (.int x4), some (.int x5)], [], h)) (hk _ _ rfl) rfl ⟨fun z1 => ?_, fun z1 => ?_⟩
  · replace w := w.1 z1
    refine gw_pst hk 2 (st' := (88, [some (.ref 5), some (.ref 1), some (.int x2), some (.int x3), some (.int x4), some (.int x5)], [.int 1, .ref 5], h)) rfl ?_
    obtain ⟨fs2, e2⟩ := RL_o hR (r := 5) (ci := 0) rfl
    refine gw_call (jj := 7) (As := [.ref 5, .int 1]) (rest := []) (hk _ _ rfl) (fun _ => rfl) rfl rfl (Nat.le_of_ble_eq_true rfl) (gm_rcv_v rfl e2 rfl) ?_
    refine ge_imp (w h hR) (fun v2 h w => ?_)
    obtain ⟨s_2, hR, rfl, w⟩ := w
    show gw (gt_T c.1 c.2.1 c.2.2.1) c.2.2.2 d 4 (91, [some (.ref 5), some (.ref 1), some (.int x2), some (.int x3), some (.int x4), some (.int x5)], [], h) _
    exact gw_ret (hk _ _ rfl) rfl ⟨_, hR, w⟩
  · replace w := w.2 z1
    refine gw_pst hk 2 (st' := (54, [some (.ref 5), some (.ref 1), some (.int x2), some (.int x3), some (.int x4), some (.int x5)], [.int x2, .ref 5], h)) rfl ?_
    refine gw_br (c := x2 = 0) (a := (67, [some (.ref 5), some (.ref 1), some (.int x2), some (.int x3), some (.int x4), some (.int x5)], [.ref 5], h)) (b := (57, [some (.ref 5), some (.ref 1), some (.int x2), some (.int x3), some (.int x4), some (.int x5)], [.ref 5], h)) (hk _ _ rfl) rfl ⟨fun z3 => ?_, fun z3 => ?_⟩
    · replace w := w.1 z3
      refine gw_pst hk 2 (st' := (70, [some (.ref 5), some (.ref 1), some (.int x2), some (.int x3), some (.int x4), some (.int x5)], [.int x5, .ref 1, .ref 5], h)) rfl ?_
      obtain ⟨fs4, e4⟩ := RL_o hR (r := 1) (ci := 7) rfl
      refine gw_call (jj := 61) (As := [.ref 1, .int x5]) (rest := [.ref 5]) (hk _ _ rfl) (fun _ => rfl) rfl rfl (Nat.le_of_ble_eq_true rfl) (gm_rcv_v rfl e4 rfl) ?_
      refine ge_imp (w h hR) (fun v4 h w => ?_)
      obtain ⟨s_4, hR, x_4, rfl, w⟩ := w
      show gw (gt_T c.1 c.2.1 c.2.2.1) c.2.2.2 d 4 (73, [some (.ref 5), some (.ref 1), some (.int x2), some (.int x3), some (.int x4), some (.int x5)], [.int x_4, .ref 5], h) _
      exact ok4_73 c d Post K46 hK46 _ _ _ _ _ _ w _ hR
    · replace w := w.2 z3
      refine gw_pst hk 2 (st' := (61, [some (.ref 5), some (.ref 1), some (.int x2), some (.int x3), some (.int x4), some (.int x5)], [.int x5, .float 1, .ref 5], h)) rfl ?_
      refine gw_call (jj := 1001) (As := [.float 1, .int x5]) (rest := [.ref 5]) (hk _ _ rfl) (fun _ => rfl) rfl rfl (Nat.le_of_ble_eq_true rfl) rfl ?_
      refine ge_imp (w h hR) (fun v5 h w => ?_)
      obtain ⟨s_5, hR, x_5, rfl, w⟩ := w
      show gw (gt_T c.1 c.2.1 c.2.2.1) c.2.2.2 d 4 (64, [some (.ref 5), some (.ref 1), some (.int x2), some (.int x3), some (.int x4), some (.int x5)], [.int x_5, .ref 5], h) _
      refine gw_pst hk 1 (st' := (73, [some (.ref 5), some (.ref 1), some (.int x2), some (.int x3), some (.int x4), some (.int x5)], [.int x_5, .ref 5], h)) rfl ?_
      exact ok4_73 c d Post K46 hK46 _ _ _ _ _ _ w _ hR
def wl4_46 (c : gx) (d : Nat) (Post : Option Value → gs → Prop) : Nat → Int32 → Int32 → Int32 → Int32 → gs → Prop
  | 0 => fun _ _ _ _ _ => False
  | n + 1 => wb4_46 c d Post (wl4_46 c d Post n)
theorem okl4_46 (c : gx) (d : Nat) (Post : Option Value → gs → Prop) : ∀ (n : Nat) (x2 : Int32) (x3 : Int32) (x4 : Int32) (x5 : Int32) (s : gs), wl4_46 c d Post n x2 x3 x4 x5 s → tV c d 4 46 [some (.ref 5), some (.ref 1), some (.int x2), some (.int x3), some (.int x4), some (.int x5)] [] s Post
  | 0, _, _, _, _, _, w => w.elim
  | n + 1, x2, x3, x4, x5, s, w => okb4_46 c d Post (wl4_46 c d Post n) (okl4_46 c d Post n) x2 x3 x4 x5 s w
def w4_29 (c : gx) (d : Nat) (Post : Option Value → gs → Prop) (x2 : Int32) (xs0 : Int32) (s : gs) : Prop :=
  ∀ s_1 : gs, s_1 = gs_V s 5 1 0 → ∀ s_2 : gs, s_2 = gs_V s_1 5 3 0 → ∃ n, wl4_46 c d Post n x2 xs0 1 0 s_2
theorem ok4_29 (c : gx) (d : Nat) (Post : Option Value → gs → Prop)  (x2 : Int32) (xs0 : Int32) (s : gs) (w : w4_29 c d Post x2 xs0 s) : tV c d 4 29 [some (.ref 5), some (.ref 1), some (.int x2), none, none, none] [.int xs0] s Post := by
  intro h hR
  have hk : ∀ pc i, gm_find gk_4 pc = some i → gm_code (gt_T c.1 c.2.1 c.2.2.1) 4 pc = some i := fun _ _ z => z
  unfold w4_29 at w
  unfold gV
  refine gw_pst hk 3 (st' := (32, [some (.ref 5), some (.ref 1), some (.int x2), some (.int xs0), none, none], [.int 0, .ref 5], h)) rfl ?_
  obtain ⟨fs1, e1⟩ := RL_o hR (r := 5) (ci := 0) rfl
  obtain ⟨l1, hR1⟩ := RL_pI (k := 1) (x := 0) hR rfl e1
  refine gw_pf (hk _ _ rfl) e1 l1 rfl ?_
  generalize gm_put h _ _ = h at hR1 ⊢
  obtain ⟨s_1, es1⟩ : ∃ z, z = gs_V s 5 1 0 := ⟨_, rfl⟩
  rw [← es1] at hR1
  replace w := w s_1 es1
  replace hR := hR1
  refine gw_pst hk 2 (st' := (37, [some (.ref 5), some (.ref 1), some (.int x2), some (.int xs0), none, none], [.int 0, .ref 5], h)) rfl ?_
  obtain ⟨fs2, e2⟩ := RL_o hR (r := 5) (ci := 0) rfl
  obtain ⟨l2, hR2⟩ := RL_pI (k := 3) (x := 0) hR rfl e2
  refine gw_pf (hk _ _ rfl) e2 l2 rfl ?_
  generalize gm_put h _ _ = h at hR2 ⊢
  obtain ⟨s_2, es2⟩ : ∃ z, z = gs_V s_1 5 3 0 := ⟨_, rfl⟩
  rw [← es2] at hR2
  replace w := w s_2 es2
  replace hR := hR2
  refine gw_pst hk 4 (st' := (46, [some (.ref 5), some (.ref 1), some (.int x2), some (.int xs0), some (.int 1), some (.int 0)], [], h)) rfl ?_
  obtain ⟨n, w⟩ := w
  exact okl4_46 c d Post n _ _ _ _ _ w _ hR
def w4_12 (c : gx) (d : Nat) (Post : Option Value → gs → Prop) (xs0 : Int32) (s : gs) : Prop :=
  ((xs0 = 0 → w4_29 c d Post xs0 (gsV s 1 1) s) ∧ (¬ (xs0 = 0) → tE c d 1000 [.float 1] s (fun v3 s_3 => ∃ x_3 : Int32, v3 = some (.int x_3) ∧ w4_29 c d Post xs0 x_3 s_3)))
theorem ok4_12 (c : gx) (d : Nat) (Post : Option Value → gs → Prop)  (xs0 : Int32) (s : gs) (w : w4_12 c d Post xs0 s) : tV c d 4 12 [some (.ref 5), some (.ref 1), none, none, none, none] [.int xs0] s Post := by
  intro h hR
  have hk : ∀ pc i, gm_find gk_4 pc = some i → gm_code (gt_T c.1 c.2.1 c.2.2.1) 4 pc = some i := fun _ _ z => z
  unfold w4_12 at w
  unfold gV
  refine gw_pst hk 2 (st' := (14, [some (.ref 5), some (.ref 1), some (.int xs0), none, none, none], [.int xs0], h)) rfl ?_
  refine gw_br (c := xs0 = 0) (a := (25, [some (.ref 5), some (.ref 1), some (.int xs0), none, none, none], [], h)) (b := (17, [some (.ref 5), some (.ref 1), some (.int xs0), none, none, none], [], h)) (hk _ _ rfl) rfl ⟨fun z1 => ?_, fun z1 => ?_⟩
  · replace w := w.1 z1
    refine gw_pst hk 1 (st' := (26, [some (.ref 5), some (.ref 1), some (.int xs0), none, none, none], [.ref 1], h)) rfl ?_
    refine gw_gf (hk _ _ rfl) (RL_fI hR rfl) ?_
    exact ok4_29 c d Post _ _ _ w _ hR
  · replace w := w.2 z1
    refine gw_pst hk 1 (st' := (19, [some (.ref 5), some (.ref 1), some (.int xs0), none, none, none], [.float 1], h)) rfl ?_
    refine gw_call (jj := 1000) (As := [.float 1]) (rest := []) (hk _ _ rfl) (fun _ => rfl) rfl rfl (Nat.le_of_ble_eq_true rfl) rfl ?_
    refine ge_imp (w h hR) (fun v3 h w => ?_)
    obtain ⟨s_3, hR, x_3, rfl, w⟩ := w
    show gw (gt_T c.1 c.2.1 c.2.2.1) c.2.2.2 d 4 (22, [some (.ref 5), some (.ref 1), some (.int xs0), none, none, none], [.int x_3], h) _
    refine gw_pst hk 1 (st' := (29, [some (.ref 5), some (.ref 1), some (.int xs0), none, none, none], [.int x_3], h)) rfl ?_
    exact ok4_29 c d Post _ _ _ w _ hR
/-- CommandByTurns$Formula.read(LCommandByTurns$Text;)V -/
def wm4 (c : gx) (d : Nat) (Post : Option Value → gs → Prop)  (s : gs) : Prop :=
  (((gsV s 1 1) = 0 → w4_12 c d Post 1 s) ∧ (¬ ((gsV s 1 1) = 0) → w4_12 c d Post 0 s))
theorem okm4 (c : gx) (d : Nat) (Post : Option Value → gs → Prop)  (s : gs) (w : wm4 c d Post  s) : tE c (d + 1) 4 [.ref 5, .ref 1] s Post := by
  intro h hR
  have hk : ∀ pc i, gm_find gk_4 pc = some i → gm_code (gt_T c.1 c.2.1 c.2.2.1) 4 pc = some i := fun _ _ z => z
  unfold wm4 at w
  refine ge_of (by decide) (Nat.le_of_ble_eq_true rfl) ?_
  show gw (gt_T c.1 c.2.1 c.2.2.1) c.2.2.2 d 4 (0, [some (.ref 5), some (.ref 1), none, none, none, none], [], h) _
  refine gw_pst hk 1 (st' := (1, [some (.ref 5), some (.ref 1), none, none, none, none], [.ref 1], h)) rfl ?_
  refine gw_gf (hk _ _ rfl) (RL_fI hR rfl) ?_
  refine gw_br (c := (gsV s 1 1) = 0) (a := (7, [some (.ref 5), some (.ref 1), none, none, none, none], [], h)) (b := (11, [some (.ref 5), some (.ref 1), none, none, none, none], [], h)) (hk _ _ rfl) rfl ⟨fun z2 => ?_, fun z2 => ?_⟩
  · replace w := w.1 z2
    refine gw_pst hk 2 (st' := (12, [some (.ref 5), some (.ref 1), none, none, none, none], [.int 1], h)) rfl ?_
    exact ok4_12 c d Post _ _ w _ hR
  · replace w := w.2 z2
    refine gw_pst hk 1 (st' := (12, [some (.ref 5), some (.ref 1), none, none, none, none], [.int 0], h)) rfl ?_
    exact ok4_12 c d Post _ _ w _ hR
def w5_102 (c : gx) (d : Nat) (Post : Option Value → gs → Prop)  (s : gs) : Prop :=
  Post (some (.int 1)) s
theorem ok5_102 (c : gx) (d : Nat) (Post : Option Value → gs → Prop)   (s : gs) (w : w5_102 c d Post  s) : tV c d 5 102 [none, none, none] [] s Post := by
  intro h hR
  have hk : ∀ pc i, gm_find gk_5 pc = some i → gm_code (gt_T c.1 c.2.1 c.2.2.1) 5 pc = some i := fun _ _ z => z
  unfold w5_102 at w
  unfold gV
  refine gw_pst hk 1 (st' := (103, [none, none, none], [.int 1], h)) rfl ?_
  exact gw_ret (hk _ _ rfl) rfl ⟨_, hR, w⟩
/-- CommandByTurns$Formula.readSign(CZ)Z -/
def wm5 (c : gx) (d : Nat) (Post : Option Value → gs → Prop) (x1 : Int32) (x2 : Int32) (s : gs) : Prop :=
  tE c d 60 [.int x1] s (fun v1 s_1 => ∃ x_1 : Int32, v1 = some (.int x_1) ∧ ((x_1 = 0 → tE c d 1002 [.float 0, .int x1] s_1 (fun v3 s_3 => ∃ x_3 : Int32, v3 = some (.int x_3) ∧ ((x_3 < 0 → ((x1 = 41 → tE c d 7 [.ref 5, .int 1] s_3 (fun v6 s_6 => v6 = none ∧ tE c d 10 [.ref 5] s_6 (fun v7 s_7 => ∃ x_7 : Int32, v7 = some (.int x_7) ∧ Post (some (.int 0)) s_7))) ∧ (¬ (x1 = 41) → ((x1 = 40 → tE c d 9 [.ref 5, .int x1] s_3 (fun v9 s_9 => v9 = none ∧ w5_102 c d Post s_9)) ∧ (¬ (x1 = 40) → ((x2 = 0 → tE c d 3 [.int x1] s_3 (fun v11 s_11 => ∃ x_11 : Int32, v11 = some (.int x_11) ∧ tE c d 7 [.ref 5, .int x_11] s_11 (fun v12 s_12 => v12 = none ∧ tE c d 9 [.ref 5, .int x1] s_12 (fun v13 s_13 => v13 = none ∧ w5_102 c d Post s_13)))) ∧ (¬ (x2 = 0) → tE c d 9 [.ref 5, .int 256] s_3 (fun v14 s_14 => v14 = none ∧ w5_102 c d Post s_14)))))))) ∧ (¬ (x_3 < 0) → tE c d 1002 [.float 0, .int x1] s_3 (fun v15 s_15 => ∃ x_15 : Int32, v15 = some (.int x_15) ∧ tE c d 8 [.ref 5, .int (1000 + x_15)] s_15 (fun v16 s_16 => v16 = none ∧ Post (some (.int 0)) s_16)))))) ∧ (¬ (x_1 = 0) → tE c d 6 [.ref 5, .int (x1 - 48), .int x2] s_1 (fun v17 s_17 => v17 = none ∧ Post (some (.int 0)) s_17))))
theorem okm5 (c : gx) (d : Nat) (Post : Option Value → gs → Prop) (x1 : Int32) (x2 : Int32) (s : gs) (w : wm5 c d Post x1 x2 s) : tE c (d + 1) 5 [.ref 5, .int x1, .int x2] s Post := by
  intro h hR
  have hk : ∀ pc i, gm_find gk_5 pc = some i → gm_code (gt_T c.1 c.2.1 c.2.2.1) 5 pc = some i := fun _ _ z => z
  unfold wm5 at w
  refine ge_of (by decide) (Nat.le_of_ble_eq_true rfl) ?_
  show gw (gt_T c.1 c.2.1 c.2.2.1) c.2.2.2 d 5 (0, [some (.ref 5), some (.int x1), some (.int x2)], [], h) _
  refine gw_pst hk 1 (st' := (1, [some (.ref 5), some (.int x1), some (.int x2)], [.int x1], h)) rfl ?_
  refine gw_call (jj := 60) (As := [.int x1]) (rest := []) (hk _ _ rfl) (fun _ => rfl) rfl rfl (Nat.le_of_ble_eq_true rfl) rfl ?_
  refine ge_imp (w h hR) (fun v1 h w => ?_)
  obtain ⟨s_1, hR, x_1, rfl, w⟩ := w
  show gw (gt_T c.1 c.2.1 c.2.2.1) c.2.2.2 d 5 (4, [some (.ref 5), some (.int x1), some (.int x2)], [.int x_1], h) _
  refine gw_br (c := x_1 = 0) (a := (18, [some (.ref 5), some (.int x1), some (.int x2)], [], h)) (b := (7, [some (.ref 5), some (.int x1), some (.int x2)], [], h)) (hk _ _ rfl) rfl ⟨fun z2 => ?_, fun z2 => ?_⟩
  · replace w := w.1 z2
    refine gw_pst hk 2 (st' := (21, [some (.ref 5), some (.int x1), some (.int x2)], [.int x1, .float 0], h)) rfl ?_
    refine gw_call (jj := 1002) (As := [.float 0, .int x1]) (rest := []) (hk _ _ rfl) (fun _ => rfl) rfl rfl (Nat.le_of_ble_eq_true rfl) rfl ?_
    refine ge_imp (w h hR) (fun v3 h w => ?_)
    obtain ⟨s_3, hR, x_3, rfl, w⟩ := w
    show gw (gt_T c.1 c.2.1 c.2.2.1) c.2.2.2 d 5 (24, [some (.ref 5), some (.int x1), some (.int x2)], [.int x_3], h) _
    refine gw_br (c := x_3 < 0) (a := (43, [some (.ref 5), some (.int x1), some (.int x2)], [], h)) (b := (27, [some (.ref 5), some (.int x1), some (.int x2)], [], h)) (hk _ _ rfl) rfl ⟨fun z4 => ?_, fun z4 => ?_⟩
    · replace w := w.1 z4
      refine gw_pst hk 2 (st' := (46, [some (.ref 5), some (.int x1), some (.int x2)], [.int 41, .int x1], h)) rfl ?_
      refine gw_br (c := x1 = 41) (a := (49, [some (.ref 5), some (.int x1), some (.int x2)], [], h)) (b := (61, [some (.ref 5), some (.int x1), some (.int x2)], [], h)) (hk _ _ rfl) rfl ⟨fun z5 => ?_, fun z5 => ?_⟩
      · replace w := w.1 z5
        refine gw_pst hk 2 (st' := (51, [some (.ref 5), some (.int x1), some (.int x2)], [.int 1, .ref 5], h)) rfl ?_
        obtain ⟨fs6, e6⟩ := RL_o hR (r := 5) (ci := 0) rfl
        refine gw_call (jj := 7) (As := [.ref 5, .int 1]) (rest := []) (hk _ _ rfl) (fun _ => rfl) rfl rfl (Nat.le_of_ble_eq_true rfl) (gm_rcv_v rfl e6 rfl) ?_
        refine ge_imp (w h hR) (fun v6 h w => ?_)
        obtain ⟨s_6, hR, rfl, w⟩ := w
        show gw (gt_T c.1 c.2.1 c.2.2.1) c.2.2.2 d 5 (54, [some (.ref 5), some (.int x1), some (.int x2)], [], h) _
        refine gw_pst hk 1 (st' := (55, [some (.ref 5), some (.int x1), some (.int x2)], [.ref 5], h)) rfl ?_
        obtain ⟨fs7, e7⟩ := RL_o hR (r := 5) (ci := 0) rfl
        refine gw_call (jj := 10) (As := [.ref 5]) (rest := []) (hk _ _ rfl) (fun _ => rfl) rfl rfl (Nat.le_of_ble_eq_true rfl) (gm_rcv_v rfl e7 rfl) ?_
        refine ge_imp (w h hR) (fun v7 h w => ?_)
        obtain ⟨s_7, hR, x_7, rfl, w⟩ := w
        show gw (gt_T c.1 c.2.1 c.2.2.1) c.2.2.2 d 5 (58, [some (.ref 5), some (.int x1), some (.int x2)], [.int x_7], h) _
        refine gw_pst hk 2 (st' := (60, [some (.ref 5), some (.int x1), some (.int x2)], [.int 0], h)) rfl ?_
        exact gw_ret (hk _ _ rfl) rfl ⟨_, hR, w⟩
      · replace w := w.2 z5
        refine gw_pst hk 2 (st' := (64, [some (.ref 5), some (.int x1), some (.int x2)], [.int 40, .int x1], h)) rfl ?_
        refine gw_br (c := x1 = 40) (a := (67, [some (.ref 5), some (.int x1), some (.int x2)], [], h)) (b := (75, [some (.ref 5), some (.int x1), some (.int x2)], [], h)) (hk _ _ rfl) rfl ⟨fun z8 => ?_, fun z8 => ?_⟩
        · replace w := w.1 z8
          refine gw_pst hk 2 (st' := (69, [some (.ref 5), some (.int x1), some (.int x2)], [.int x1, .ref 5], h)) rfl ?_
          obtain ⟨fs9, e9⟩ := RL_o hR (r := 5) (ci := 0) rfl
          refine gw_call (jj := 9) (As := [.ref 5, .int x1]) (rest := []) (hk _ _ rfl) (fun _ => rfl) rfl rfl (Nat.le_of_ble_eq_true rfl) (gm_rcv_v rfl e9 rfl) ?_
          refine ge_imp (w h hR) (fun v9 h w => ?_)
          obtain ⟨s_9, hR, rfl, w⟩ := w
          show gw (gt_T c.1 c.2.1 c.2.2.1) c.2.2.2 d 5 (72, [some (.ref 5), some (.int x1), some (.int x2)], [], h) _
          refine gw_pst hk 1 (st' := (102, [some (.ref 5), some (.int x1), some (.int x2)], [], h)) rfl ?_
          refine gw_le (L' := [none, none, none]) (gm_le_n _ (gm_le_n _ (gm_le_n _ gm_le_nil))) ?_
          exact ok5_102 c d Post _ w _ hR
        · replace w := w.2 z8
          refine gw_pst hk 1 (st' := (76, [some (.ref 5), some (.int x1), some (.int x2)], [.int x2], h)) rfl ?_
          refine gw_br (c := x2 = 0) (a := (89, [some (.ref 5), some (.int x1), some (.int x2)], [], h)) (b := (79, [some (.ref 5), some (.int x1), some (.int x2)], [], h)) (hk _ _ rfl) rfl ⟨fun z10 => ?_, fun z10 => ?_⟩
          · replace w := w.1 z10
            refine gw_pst hk 2 (st' := (91, [some (.ref 5), some (.int x1), some (.int x2)], [.int x1, .ref 5], h)) rfl ?_
            refine gw_call (jj := 3) (As := [.int x1]) (rest := [.ref 5]) (hk _ _ rfl) (fun _ => rfl) rfl rfl (Nat.le_of_ble_eq_true rfl) rfl ?_
            refine ge_imp (w h hR) (fun v11 h w => ?_)
            obtain ⟨s_11, hR, x_11, rfl, w⟩ := w
            show gw (gt_T c.1 c.2.1 c.2.2.1) c.2.2.2 d 5 (94, [some (.ref 5), some (.int x1), some (.int x2)], [.int x_11, .ref 5], h) _
            obtain ⟨fs12, e12⟩ := RL_o hR (r := 5) (ci := 0) rfl
            refine gw_call (jj := 7) (As := [.ref 5, .int x_11]) (rest := []) (hk _ _ rfl) (fun _ => rfl) rfl rfl (Nat.le_of_ble_eq_true rfl) (gm_rcv_v rfl e12 rfl) ?_
            refine ge_imp (w h hR) (fun v12 h w => ?_)
            obtain ⟨s_12, hR, rfl, w⟩ := w
            show gw (gt_T c.1 c.2.1 c.2.2.1) c.2.2.2 d 5 (97, [some (.ref 5), some (.int x1), some (.int x2)], [], h) _
            refine gw_pst hk 2 (st' := (99, [some (.ref 5), some (.int x1), some (.int x2)], [.int x1, .ref 5], h)) rfl ?_
            obtain ⟨fs13, e13⟩ := RL_o hR (r := 5) (ci := 0) rfl
            refine gw_call (jj := 9) (As := [.ref 5, .int x1]) (rest := []) (hk _ _ rfl) (fun _ => rfl) rfl rfl (Nat.le_of_ble_eq_true rfl) (gm_rcv_v rfl e13 rfl) ?_
            refine ge_imp (w h hR) (fun v13 h w => ?_)
            obtain ⟨s_13, hR, rfl, w⟩ := w
            show gw (gt_T c.1 c.2.1 c.2.2.1) c.2.2.2 d 5 (102, [some (.ref 5), some (.int x1), some (.int x2)], [], h) _
            refine gw_le (L' := [none, none, none]) (gm_le_n _ (gm_le_n _ (gm_le_n _ gm_le_nil))) ?_
            exact ok5_102 c d Post _ w _ hR
          · replace w := w.2 z10
            refine gw_pst hk 2 (st' := (83, [some (.ref 5), some (.int x1), some (.int x2)], [.int 256, .ref 5], h)) rfl ?_
            obtain ⟨fs14, e14⟩ := RL_o hR (r := 5) (ci := 0) rfl
            refine gw_call (jj := 9) (As := [.ref 5, .int 256]) (rest := []) (hk _ _ rfl) (fun _ => rfl) rfl rfl (Nat.le_of_ble_eq_true rfl) (gm_rcv_v rfl e14 rfl) ?_
            refine ge_imp (w h hR) (fun v14 h w => ?_)
            obtain ⟨s_14, hR, rfl, w⟩ := w
            show gw (gt_T c.1 c.2.1 c.2.2.1) c.2.2.2 d 5 (86, [some (.ref 5), some (.int x1), some (.int x2)], [], h) _
            refine gw_pst hk 1 (st' := (102, [some (.ref 5), some (.int x1), some (.int x2)], [], h)) rfl ?_
            refine gw_le (L' := [none, none, none]) (gm_le_n _ (gm_le_n _ (gm_le_n _ gm_le_nil))) ?_
            exact ok5_102 c d Post _ w _ hR
    · replace w := w.2 z4
      refine gw_pst hk 4 (st' := (34, [some (.ref 5), some (.int x1), some (.int x2)], [.int x1, .float 0, .int 1000, .ref 5], h)) rfl ?_
      refine gw_call (jj := 1002) (As := [.float 0, .int x1]) (rest := [.int 1000, .ref 5]) (hk _ _ rfl) (fun _ => rfl) rfl rfl (Nat.le_of_ble_eq_true rfl) rfl ?_
      refine ge_imp (w h hR) (fun v15 h w => ?_)
      obtain ⟨s_15, hR, x_15, rfl, w⟩ := w
      show gw (gt_T c.1 c.2.1 c.2.2.1) c.2.2.2 d 5 (37, [some (.ref 5), some (.int x1), some (.int x2)], [.int x_15, .int 1000, .ref 5], h) _
      refine gw_pst hk 1 (st' := (38, [some (.ref 5), some (.int x1), some (.int x2)], [.int (1000 + x_15), .ref 5], h)) rfl ?_
      obtain ⟨fs16, e16⟩ := RL_o hR (r := 5) (ci := 0) rfl
      refine gw_call (jj := 8) (As := [.ref 5, .int (1000 + x_15)]) (rest := []) (hk _ _ rfl) (fun _ => rfl) rfl rfl (Nat.le_of_ble_eq_true rfl) (gm_rcv_v rfl e16 rfl) ?_
      refine ge_imp (w h hR) (fun v16 h w => ?_)
      obtain ⟨s_16, hR, rfl, w⟩ := w
      show gw (gt_T c.1 c.2.1 c.2.2.1) c.2.2.2 d 5 (41, [some (.ref 5), some (.int x1), some (.int x2)], [], h) _
      refine gw_pst hk 1 (st' := (42, [some (.ref 5), some (.int x1), some (.int x2)], [.int 0], h)) rfl ?_
      exact gw_ret (hk _ _ rfl) rfl ⟨_, hR, w⟩
  · replace w := w.2 z2
    refine gw_pst hk 5 (st' := (13, [some (.ref 5), some (.int x1), some (.int x2)], [.int x2, .int (x1 - 48), .ref 5], h)) rfl ?_
    obtain ⟨fs17, e17⟩ := RL_o hR (r := 5) (ci := 0) rfl
    refine gw_call (jj := 6) (As := [.ref 5, .int (x1 - 48), .int x2]) (rest := []) (hk _ _ rfl) (fun _ => rfl) rfl rfl (Nat.le_of_ble_eq_true rfl) (gm_rcv_v rfl e17 rfl) ?_
    refine ge_imp (w h hR) (fun v17 h w => ?_)
    obtain ⟨s_17, hR, rfl, w⟩ := w
    show gw (gt_T c.1 c.2.1 c.2.2.1) c.2.2.2 d 5 (16, [some (.ref 5), some (.int x1), some (.int x2)], [], h) _
    refine gw_pst hk 1 (st' := (17, [some (.ref 5), some (.int x1), some (.int x2)], [.int 0], h)) rfl ?_
    exact gw_ret (hk _ _ rfl) rfl ⟨_, hR, w⟩
def w6_58 (c : gx) (d : Nat) (Post : Option Value → gs → Prop)  (s : gs) : Prop :=
  Post none s
theorem ok6_58 (c : gx) (d : Nat) (Post : Option Value → gs → Prop)   (s : gs) (w : w6_58 c d Post  s) : tV c d 6 58 [none, none, none] [] s Post := by
  intro h hR
  have hk : ∀ pc i, gm_find gk_6 pc = some i → gm_code (gt_T c.1 c.2.1 c.2.2.1) 6 pc = some i := fun _ _ z => z
  unfold w6_58 at w
  unfold gV
  exact gw_ret (hk _ _ rfl) rfl ⟨_, hR, w⟩
/-- CommandByTurns$Formula.readDigit(IZ)V -/
def wm6 (c : gx) (d : Nat) (Post : Option Value → gs → Prop) (x1 : Int32) (x2 : Int32) (s : gs) : Prop :=
  ((x2 = 0 → (((gsV s 5 1) ≤ 0 → w6_58 c d Post s) ∧ (¬ ((gsV s 5 1) ≤ 0) → ((40 < (gsV s 5 1) → w6_58 c d Post s) ∧ (¬ (40 < (gsV s 5 1)) → vp_in ((gsV s 5 1) - 1) 40 ∧ vp_in ((gsV s 5 1) - 1) 40 ∧ ∀ s_13 : gs, s_13 = gs_A s 6 ((gsV s 5 1) - 1 : Int32).toNatClampNeg (vp_nar .int (((gsA s 6 ((gsV s 5 1) - 1 : Int32).toNatClampNeg) * 10) + x1)) → w6_58 c d Post s_13))))) ∧ (¬ (x2 = 0) → tE c d 8 [.ref 5, .int x1] s (fun v14 s_14 => v14 = none ∧ w6_58 c d Post s_14)))
theorem okm6 (c : gx) (d : Nat) (Post : Option Value → gs → Prop) (x1 : Int32) (x2 : Int32) (s : gs) (w : wm6 c d Post x1 x2 s) : tE c (d + 1) 6 [.ref 5, .int x1, .int x2] s Post := by
  intro h hR
  have hk : ∀ pc i, gm_find gk_6 pc = some i → gm_code (gt_T c.1 c.2.1 c.2.2.1) 6 pc = some i := fun _ _ z => z
  unfold wm6 at w
  refine ge_of (by decide) (Nat.le_of_ble_eq_true rfl) ?_
  show gw (gt_T c.1 c.2.1 c.2.2.1) c.2.2.2 d 6 (0, [some (.ref 5), some (.int x1), some (.int x2)], [], h) _
  refine gw_pst hk 1 (st' := (1, [some (.ref 5), some (.int x1), some (.int x2)], [.int x2], h)) rfl ?_
  refine gw_br (c := x2 = 0) (a := (12, [some (.ref 5), some (.int x1), some (.int x2)], [], h)) (b := (4, [some (.ref 5), some (.int x1), some (.int x2)], [], h)) (hk _ _ rfl) rfl ⟨fun z1 => ?_, fun z1 => ?_⟩
  · replace w := w.1 z1
    refine gw_pst hk 1 (st' := (13, [some (.ref 5), some (.int x1), some (.int x2)], [.ref 5], h)) rfl ?_
    refine gw_gf (hk _ _ rfl) (RL_fI hR rfl) ?_
    refine gw_br (c := (gsV s 5 1) ≤ 0) (a := (58, [some (.ref 5), some (.int x1), some (.int x2)], [], h)) (b := (19, [some (.ref 5), some (.int x1), some (.int x2)], [], h)) (hk _ _ rfl) rfl ⟨fun z3 => ?_, fun z3 => ?_⟩
    · replace w := w.1 z3
      refine gw_le (L' := [none, none, none]) (gm_le_n _ (gm_le_n _ (gm_le_n _ gm_le_nil))) ?_
      exact ok6_58 c d Post _ w _ hR
    · replace w := w.2 z3
      refine gw_pst hk 1 (st' := (20, [some (.ref 5), some (.int x1), some (.int x2)], [.ref 5], h)) rfl ?_
      refine gw_gf (hk _ _ rfl) (RL_fI hR rfl) ?_
      refine gw_pst hk 1 (st' := (24, [some (.ref 5), some (.int x1), some (.int x2)], [.ref 5, .int (gsV s 5 1)], h)) rfl ?_
      refine gw_gf (hk _ _ rfl) (RL_fR (n := 6) hR rfl) ?_
      refine gw_alen (hk _ _ rfl) (RL_a (t := 0) (n := 40) hR rfl (by decide)) (by decide) ?_
      refine gw_br (c := 40 < (gsV s 5 1)) (a := (58, [some (.ref 5), some (.int x1), some (.int x2)], [], h)) (b := (31, [some (.ref 5), some (.int x1), some (.int x2)], [], h)) (hk _ _ rfl) rfl ⟨fun z7 => ?_, fun z7 => ?_⟩
      · replace w := w.1 z7
        refine gw_le (L' := [none, none, none]) (gm_le_n _ (gm_le_n _ (gm_le_n _ gm_le_nil))) ?_
        exact ok6_58 c d Post _ w _ hR
      · replace w := w.2 z7
        refine gw_pst hk 1 (st' := (32, [some (.ref 5), some (.int x1), some (.int x2)], [.ref 5], h)) rfl ?_
        refine gw_gf (hk _ _ rfl) (RL_fR (n := 6) hR rfl) ?_
        refine gw_pst hk 1 (st' := (36, [some (.ref 5), some (.int x1), some (.int x2)], [.ref 5, .ref 6], h)) rfl ?_
        refine gw_gf (hk _ _ rfl) (RL_fI hR rfl) ?_
        refine gw_pst hk 3 (st' := (42, [some (.ref 5), some (.int x1), some (.int x2)], [.ref 5, .int ((gsV s 5 1) - 1), .ref 6], h)) rfl ?_
        refine gw_gf (hk _ _ rfl) (RL_fR (n := 6) hR rfl) ?_
        refine gw_pst hk 1 (st' := (46, [some (.ref 5), some (.int x1), some (.int x2)], [.ref 5, .ref 6, .int ((gsV s 5 1) - 1), .ref 6], h)) rfl ?_
        refine gw_gf (hk _ _ rfl) (RL_fI hR rfl) ?_
        refine gw_pst hk 2 (st' := (51, [some (.ref 5), some (.int x1), some (.int x2)], [.int ((gsV s 5 1) - 1), .ref 6, .int ((gsV s 5 1) - 1), .ref 6], h)) rfl ?_
        obtain ⟨b12, w⟩ := w
        refine gw_ald (hk _ _ rfl) (Or.inl ⟨rfl, rfl⟩) (RL_a (t := 0) (n := 40) hR rfl (by decide)) b12 ?_
        refine gw_pst hk 4 (st' := (57, [some (.ref 5), some (.int x1), some (.int x2)], [.int (((gsA s 6 ((gsV s 5 1) - 1 : Int32).toNatClampNeg) * 10) + x1), .int ((gsV s 5 1) - 1), .ref 6], h)) rfl ?_
        obtain ⟨b13, w⟩ := w
        have hR13 := RL_pA (a := 6) (t := 0) (n := 40) (k := ((gsV s 5 1) - 1 : Int32).toNatClampNeg) (x := (vp_nar .int (((gsA s 6 ((gsV s 5 1) - 1 : Int32).toNatClampNeg) * 10) + x1))) hR rfl (by decide)
        refine gw_ast (hk _ _ rfl) (Or.inl ⟨rfl, rfl, rfl⟩) (RL_a (t := 0) (n := 40) hR rfl (by decide)) b13 ?_
        generalize gm_put h _ _ = h at hR13 ⊢
        obtain ⟨s_13, es13⟩ : ∃ z, z = gs_A s 6 ((gsV s 5 1) - 1 : Int32).toNatClampNeg (vp_nar .int (((gsA s 6 ((gsV s 5 1) - 1 : Int32).toNatClampNeg) * 10) + x1)) := ⟨_, rfl⟩
        rw [← es13] at hR13
        replace w := w s_13 es13
        replace hR := hR13
        refine gw_le (L' := [none, none, none]) (gm_le_n _ (gm_le_n _ (gm_le_n _ gm_le_nil))) ?_
        exact ok6_58 c d Post _ w _ hR
  · replace w := w.2 z1
    refine gw_pst hk 2 (st' := (6, [some (.ref 5), some (.int x1), some (.int x2)], [.int x1, .ref 5], h)) rfl ?_
    obtain ⟨fs14, e14⟩ := RL_o hR (r := 5) (ci := 0) rfl
    refine gw_call (jj := 8) (As := [.ref 5, .int x1]) (rest := []) (hk _ _ rfl) (fun _ => rfl) rfl rfl (Nat.le_of_ble_eq_true rfl) (gm_rcv_v rfl e14 rfl) ?_
    refine ge_imp (w h hR) (fun v14 h w => ?_)
    obtain ⟨s_14, hR, rfl, w⟩ := w
    show gw (gt_T c.1 c.2.1 c.2.2.1) c.2.2.2 d 6 (9, [some (.ref 5), some (.int x1), some (.int x2)], [], h) _
    refine gw_pst hk 1 (st' := (58, [some (.ref 5), some (.int x1), some (.int x2)], [], h)) rfl ?_
    refine gw_le (L' := [none, none, none]) (gm_le_n _ (gm_le_n _ (gm_le_n _ gm_le_nil))) ?_
    exact ok6_58 c d Post _ w _ hR
def w7_42 (c : gx) (d : Nat) (Post : Option Value → gs → Prop)  (s : gs) : Prop :=
  Post none s
theorem ok7_42 (c : gx) (d : Nat) (Post : Option Value → gs → Prop)   (s : gs) (w : w7_42 c d Post  s) : tV c d 7 42 [none, none, none] [] s Post := by
  intro h hR
  have hk : ∀ pc i, gm_find gk_7 pc = some i → gm_code (gt_T c.1 c.2.1 c.2.2.1) 7 pc = some i := fun _ _ z => z
  unfold w7_42 at w
  unfold gV
  exact gw_ret (hk _ _ rfl) rfl ⟨_, hR, w⟩
def wb7_5 (c : gx) (d : Nat) (Post : Option Value → gs → Prop) (K5 : Int32 → Int32 → gs → Prop) (x1 : Int32) (x2 : Int32) (s : gs) : Prop :=
  ((x2 ≤ 0 → w7_42 c d Post s) ∧ (¬ (x2 ≤ 0) → vp_in (x2 - 1) 40 ∧ tE c d 3 [.int (gsA s 7 (x2 - 1 : Int32).toNatClampNeg)] s (fun v4 s_4 => ∃ x_4 : Int32, v4 = some (.int x_4) ∧ ((x_4 < x1 → w7_42 c d Post s_4) ∧ (¬ (x_4 < x1) → tE c d 10 [.ref 5] s_4 (fun v6 s_6 => ∃ x_6 : Int32, v6 = some (.int x_6) ∧ tE c d 8 [.ref 5, .int (2000 + x_6)] s_6 (fun v7 s_7 => v7 = none ∧ K5 x1 (x2 + (-1)) s_7)))))))
theorem okb7_5 (c : gx) (d : Nat) (Post : Option Value → gs → Prop) (K5 : Int32 → Int32 → gs → Prop)  (hK5 : ∀ (x1 : Int32) (x2 : Int32) (s : gs), K5 x1 x2 s → tV c d 7 5 [some (.ref 5), some (.int x1), some (.int x2)] [] s Post) (x1 : Int32) (x2 : Int32) (s : gs) (w : wb7_5 c d Post K5 x1 x2 s) : tV c d 7 5 [some (.ref 5), some (.int x1), some (.int x2)] [] s Post := by
  intro h hR
  have hk : ∀ pc i, gm_find gk_7 pc = some i → gm_code (gt_T c.1 c.2.1 c.2.2.1) 7 pc = some i := fun _ _ z => z
  unfold wb7_5 at w
  unfold gV
  refine gw_pst hk 1 (st' := (6, [some (.ref 5), some (.int x1), some (.int x2)], [.int x2], h)) rfl ?_
  refine gw_br (c := x2 ≤ 0) (a := (42, [some (.ref 5), some (.int x1), some (.int x2)], [], h)) (b := (9, [some (.ref 5), some (.int x1), some (.int x2)], [], h)) (hk _ _ rfl) rfl ⟨fun z1 => ?_, fun z1 => ?_⟩
  · replace w := w.1 z1
    refine gw_le (L' := [none, none, none]) (gm_le_n _ (gm_le_n _ (gm_le_n _ gm_le_nil))) ?_
    exact ok7_42 c d Post _ w _ hR
  · replace w := w.2 z1
    refine gw_pst hk 1 (st' := (10, [some (.ref 5), some (.int x1), some (.int x2)], [.ref 5], h)) rfl ?_
    refine gw_gf (hk _ _ rfl) (RL_fR (n := 7) hR rfl) ?_
    refine gw_pst hk 3 (st' := (16, [some (.ref 5), some (.int x1), some (.int x2)], [.int (x2 - 1), .ref 7], h)) rfl ?_
    obtain ⟨b3, w⟩ := w
    refine gw_ald (hk _ _ rfl) (Or.inl ⟨rfl, rfl⟩) (RL_a (t := 0) (n := 40) hR rfl (by decide)) b3 ?_
    refine gw_call (jj := 3) (As := [.int (gsA s 7 (x2 - 1 : Int32).toNatClampNeg)]) (rest := []) (hk _ _ rfl) (fun _ => rfl) rfl rfl (Nat.le_of_ble_eq_true rfl) rfl ?_
    refine ge_imp (w h hR) (fun v4 h w => ?_)
    obtain ⟨s_4, hR, x_4, rfl, w⟩ := w
    show gw (gt_T c.1 c.2.1 c.2.2.1) c.2.2.2 d 7 (20, [some (.ref 5), some (.int x1), some (.int x2)], [.int x_4], h) _
    refine gw_pst hk 1 (st' := (21, [some (.ref 5), some (.int x1), some (.int x2)], [.int x1, .int x_4], h)) rfl ?_
    refine gw_br (c := x_4 < x1) (a := (42, [some (.ref 5), some (.int x1), some (.int x2)], [], h)) (b := (24, [some (.ref 5), some (.int x1), some (.int x2)], [], h)) (hk _ _ rfl) rfl ⟨fun z5 => ?_, fun z5 => ?_⟩
    · replace w := w.1 z5
      refine gw_le (L' := [none, none, none]) (gm_le_n _ (gm_le_n _ (gm_le_n _ gm_le_nil))) ?_
      exact ok7_42 c d Post _ w _ hR
    · replace w := w.2 z5
      refine gw_pst hk 3 (st' := (29, [some (.ref 5), some (.int x1), some (.int x2)], [.ref 5, .int 2000, .ref 5], h)) rfl ?_
      obtain ⟨fs6, e6⟩ := RL_o hR (r := 5) (ci := 0) rfl
      refine gw_call (jj := 10) (As := [.ref 5]) (rest := [.int 2000, .ref 5]) (hk _ _ rfl) (fun _ => rfl) rfl rfl (Nat.le_of_ble_eq_true rfl) (gm_rcv_v rfl e6 rfl) ?_
      refine ge_imp (w h hR) (fun v6 h w => ?_)
      obtain ⟨s_6, hR, x_6, rfl, w⟩ := w
      show gw (gt_T c.1 c.2.1 c.2.2.1) c.2.2.2 d 7 (32, [some (.ref 5), some (.int x1), some (.int x2)], [.int x_6, .int 2000, .ref 5], h) _
      refine gw_pst hk 1 (st' := (33, [some (.ref 5), some (.int x1), some (.int x2)], [.int (2000 + x_6), .ref 5], h)) rfl ?_
      obtain ⟨fs7, e7⟩ := RL_o hR (r := 5) (ci := 0) rfl
      refine gw_call (jj := 8) (As := [.ref 5, .int (2000 + x_6)]) (rest := []) (hk _ _ rfl) (fun _ => rfl) rfl rfl (Nat.le_of_ble_eq_true rfl) (gm_rcv_v rfl e7 rfl) ?_
      refine ge_imp (w h hR) (fun v7 h w => ?_)
      obtain ⟨s_7, hR, rfl, w⟩ := w
      show gw (gt_T c.1 c.2.1 c.2.2.1) c.2.2.2 d 7 (36, [some (.ref 5), some (.int x1), some (.int x2)], [], h) _
      refine gw_pst hk 2 (st' := (5, [some (.ref 5), some (.int x1), some (.int (x2 + (-1)))], [], h)) rfl ?_
      exact hK5 _ _ _ w _ hR
def wl7_5 (c : gx) (d : Nat) (Post : Option Value → gs → Prop) : Nat → Int32 → Int32 → gs → Prop
  | 0 => fun _ _ _ => False
  | n + 1 => wb7_5 c d Post (wl7_5 c d Post n)
theorem okl7_5 (c : gx) (d : Nat) (Post : Option Value → gs → Prop) : ∀ (n : Nat) (x1 : Int32) (x2 : Int32) (s : gs), wl7_5 c d Post n x1 x2 s → tV c d 7 5 [some (.ref 5), some (.int x1), some (.int x2)] [] s Post
  | 0, _, _, _, w => w.elim
  | n + 1, x1, x2, s, w => okb7_5 c d Post (wl7_5 c d Post n) (okl7_5 c d Post n) x1 x2 s w
/-- CommandByTurns$Formula.writeWaiting(I)V -/
def wm7 (c : gx) (d : Nat) (Post : Option Value → gs → Prop) (x1 : Int32) (s : gs) : Prop :=
  ∃ n, wl7_5 c d Post n x1 (gsV s 5 3) s
theorem okm7 (c : gx) (d : Nat) (Post : Option Value → gs → Prop) (x1 : Int32) (s : gs) (w : wm7 c d Post x1 s) : tE c (d + 1) 7 [.ref 5, .int x1] s Post := by
  intro h hR
  have hk : ∀ pc i, gm_find gk_7 pc = some i → gm_code (gt_T c.1 c.2.1 c.2.2.1) 7 pc = some i := fun _ _ z => z
  unfold wm7 at w
  refine ge_of (by decide) (Nat.le_of_ble_eq_true rfl) ?_
  show gw (gt_T c.1 c.2.1 c.2.2.1) c.2.2.2 d 7 (0, [some (.ref 5), some (.int x1), none], [], h) _
  refine gw_pst hk 1 (st' := (1, [some (.ref 5), some (.int x1), none], [.ref 5], h)) rfl ?_
  refine gw_gf (hk _ _ rfl) (RL_fI hR rfl) ?_
  refine gw_pst hk 1 (st' := (5, [some (.ref 5), some (.int x1), some (.int (gsV s 5 3))], [], h)) rfl ?_
  obtain ⟨n, w⟩ := w
  exact okl7_5 c d Post n _ _ _ w _ hR
def w8_39 (c : gx) (d : Nat) (Post : Option Value → gs → Prop)  (s : gs) : Prop :=
  Post none s
theorem ok8_39 (c : gx) (d : Nat) (Post : Option Value → gs → Prop)   (s : gs) (w : w8_39 c d Post  s) : tV c d 8 39 [none, none] [] s Post := by
  intro h hR
  have hk : ∀ pc i, gm_find gk_8 pc = some i → gm_code (gt_T c.1 c.2.1 c.2.2.1) 8 pc = some i := fun _ _ z => z
  unfold w8_39 at w
  unfold gV
  exact gw_ret (hk _ _ rfl) rfl ⟨_, hR, w⟩
/-- CommandByTurns$Formula.write(I)V -/
def wm8 (c : gx) (d : Nat) (Post : Option Value → gs → Prop) (x1 : Int32) (s : gs) : Prop :=
  (((gsV s 5 1) < 0 → w8_39 c d Post s) ∧ (¬ ((gsV s 5 1) < 0) → ((40 ≤ (gsV s 5 1) → w8_39 c d Post s) ∧ (¬ (40 ≤ (gsV s 5 1)) → vp_in (gsV s 5 1) 40 ∧ ∀ s_9 : gs, s_9 = gs_A s 6 (gsV s 5 1 : Int32).toNatClampNeg (vp_nar .int x1) → ∀ s_11 : gs, s_11 = gs_V s_9 5 1 ((gsV s_9 5 1) + 1) → w8_39 c d Post s_11))))
theorem okm8 (c : gx) (d : Nat) (Post : Option Value → gs → Prop) (x1 : Int32) (s : gs) (w : wm8 c d Post x1 s) : tE c (d + 1) 8 [.ref 5, .int x1] s Post := by
  intro h hR
  have hk : ∀ pc i, gm_find gk_8 pc = some i → gm_code (gt_T c.1 c.2.1 c.2.2.1) 8 pc = some i := fun _ _ z => z
  unfold wm8 at w
  refine ge_of (by decide) (Nat.le_of_ble_eq_true rfl) ?_
  show gw (gt_T c.1 c.2.1 c.2.2.1) c.2.2.2 d 8 (0, [some (.ref 5), some (.int x1)], [], h) _
  refine gw_pst hk 1 (st' := (1, [some (.ref 5), some (.int x1)], [.ref 5], h)) rfl ?_
  refine gw_gf (hk _ _ rfl) (RL_fI hR rfl) ?_
  refine gw_br (c := (gsV s 5 1) < 0) (a := (39, [some (.ref 5), some (.int x1)], [], h)) (b := (7, [some (.ref 5), some (.int x1)], [], h)) (hk _ _ rfl) rfl ⟨fun z2 => ?_, fun z2 => ?_⟩
  · replace w := w.1 z2
    refine gw_le (L' := [none, none]) (gm_le_n _ (gm_le_n _ gm_le_nil)) ?_
    exact ok8_39 c d Post _ w _ hR
  · replace w := w.2 z2
    refine gw_pst hk 1 (st' := (8, [some (.ref 5), some (.int x1)], [.ref 5], h)) rfl ?_
    refine gw_gf (hk _ _ rfl) (RL_fI hR rfl) ?_
    refine gw_pst hk 1 (st' := (12, [some (.ref 5), some (.int x1)], [.ref 5, .int (gsV s 5 1)], h)) rfl ?_
    refine gw_gf (hk _ _ rfl) (RL_fR (n := 6) hR rfl) ?_
    refine gw_alen (hk _ _ rfl) (RL_a (t := 0) (n := 40) hR rfl (by decide)) (by decide) ?_
    refine gw_br (c := 40 ≤ (gsV s 5 1)) (a := (39, [some (.ref 5), some (.int x1)], [], h)) (b := (19, [some (.ref 5), some (.int x1)], [], h)) (hk _ _ rfl) rfl ⟨fun z6 => ?_, fun z6 => ?_⟩
    · replace w := w.1 z6
      refine gw_le (L' := [none, none]) (gm_le_n _ (gm_le_n _ gm_le_nil)) ?_
      exact ok8_39 c d Post _ w _ hR
    · replace w := w.2 z6
      refine gw_pst hk 1 (st' := (20, [some (.ref 5), some (.int x1)], [.ref 5], h)) rfl ?_
      refine gw_gf (hk _ _ rfl) (RL_fR (n := 6) hR rfl) ?_
      refine gw_pst hk 1 (st' := (24, [some (.ref 5), some (.int x1)], [.ref 5, .ref 6], h)) rfl ?_
      refine gw_gf (hk _ _ rfl) (RL_fI hR rfl) ?_
      refine gw_pst hk 1 (st' := (28, [some (.ref 5), some (.int x1)], [.int x1, .int (gsV s 5 1), .ref 6], h)) rfl ?_
      obtain ⟨b9, w⟩ := w
      have hR9 := RL_pA (a := 6) (t := 0) (n := 40) (k := (gsV s 5 1 : Int32).toNatClampNeg) (x := (vp_nar .int x1)) hR rfl (by decide)
      refine gw_ast (hk _ _ rfl) (Or.inl ⟨rfl, rfl, rfl⟩) (RL_a (t := 0) (n := 40) hR rfl (by decide)) b9 ?_
      generalize gm_put h _ _ = h at hR9 ⊢
      obtain ⟨s_9, es9⟩ : ∃ z, z = gs_A s 6 (gsV s 5 1 : Int32).toNatClampNeg (vp_nar .int x1) := ⟨_, rfl⟩
      rw [← es9] at hR9
      replace w := w s_9 es9
      replace hR := hR9
      refine gw_pst hk 2 (st' := (31, [some (.ref 5), some (.int x1)], [.ref 5, .ref 5], h)) rfl ?_
      refine gw_gf (hk _ _ rfl) (RL_fI hR rfl) ?_
      refine gw_pst hk 2 (st' := (36, [some (.ref 5), some (.int x1)], [.int ((gsV s_9 5 1) + 1), .ref 5], h)) rfl ?_
      obtain ⟨fs11, e11⟩ := RL_o hR (r := 5) (ci := 0) rfl
      obtain ⟨l11, hR11⟩ := RL_pI (k := 1) (x := (gsV s_9 5 1) + 1) hR rfl e11
      refine gw_pf (hk _ _ rfl) e11 l11 rfl ?_
      generalize gm_put h _ _ = h at hR11 ⊢
      obtain ⟨s_11, es11⟩ : ∃ z, z = gs_V s_9 5 1 ((gsV s_9 5 1) + 1) := ⟨_, rfl⟩
      rw [← es11] at hR11
      replace w := w s_11 es11
      replace hR := hR11
      refine gw_le (L' := [none, none]) (gm_le_n _ (gm_le_n _ gm_le_nil)) ?_
      exact ok8_39 c d Post _ w _ hR
def w9_39 (c : gx) (d : Nat) (Post : Option Value → gs → Prop)  (s : gs) : Prop :=
  Post none s
theorem ok9_39 (c : gx) (d : Nat) (Post : Option Value → gs → Prop)   (s : gs) (w : w9_39 c d Post  s) : tV c d 9 39 [none, none] [] s Post := by
  intro h hR
  have hk : ∀ pc i, gm_find gk_9 pc = some i → gm_code (gt_T c.1 c.2.1 c.2.2.1) 9 pc = some i := fun _ _ z => z
  unfold w9_39 at w
  unfold gV
  exact gw_ret (hk _ _ rfl) rfl ⟨_, hR, w⟩
/-- CommandByTurns$Formula.push(I)V -/
def wm9 (c : gx) (d : Nat) (Post : Option Value → gs → Prop) (x1 : Int32) (s : gs) : Prop :=
  (((gsV s 5 3) < 0 → w9_39 c d Post s) ∧ (¬ ((gsV s 5 3) < 0) → ((40 ≤ (gsV s 5 3) → w9_39 c d Post s) ∧ (¬ (40 ≤ (gsV s 5 3)) → vp_in (gsV s 5 3) 40 ∧ ∀ s_9 : gs, s_9 = gs_A s 7 (gsV s 5 3 : Int32).toNatClampNeg (vp_nar .int x1) → ∀ s_11 : gs, s_11 = gs_V s_9 5 3 ((gsV s_9 5 3) + 1) → w9_39 c d Post s_11))))
theorem okm9 (c : gx) (d : Nat) (Post : Option Value → gs → Prop) (x1 : Int32) (s : gs) (w : wm9 c d Post x1 s) : tE c (d + 1) 9 [.ref 5, .int x1] s Post := by
  intro h hR
  have hk : ∀ pc i, gm_find gk_9 pc = some i → gm_code (gt_T c.1 c.2.1 c.2.2.1) 9 pc = some i := fun _ _ z => z
  unfold wm9 at w
  refine ge_of (by decide) (Nat.le_of_ble_eq_true rfl) ?_
  show gw (gt_T c.1 c.2.1 c.2.2.1) c.2.2.2 d 9 (0, [some (.ref 5), some (.int x1)], [], h) _
  refine gw_pst hk 1 (st' := (1, [some (.ref 5), some (.int x1)], [.ref 5], h)) rfl ?_
  refine gw_gf (hk _ _ rfl) (RL_fI hR rfl) ?_
  refine gw_br (c := (gsV s 5 3) < 0) (a := (39, [some (.ref 5), some (.int x1)], [], h)) (b := (7, [some (.ref 5), some (.int x1)], [], h)) (hk _ _ rfl) rfl ⟨fun z2 => ?_, fun z2 => ?_⟩
  · replace w := w.1 z2
    refine gw_le (L' := [none, none]) (gm_le_n _ (gm_le_n _ gm_le_nil)) ?_
    exact ok9_39 c d Post _ w _ hR
  · replace w := w.2 z2
    refine gw_pst hk 1 (st' := (8, [some (.ref 5), some (.int x1)], [.ref 5], h)) rfl ?_
    refine gw_gf (hk _ _ rfl) (RL_fI hR rfl) ?_
    refine gw_pst hk 1 (st' := (12, [some (.ref 5), some (.int x1)], [.ref 5, .int (gsV s 5 3)], h)) rfl ?_
    refine gw_gf (hk _ _ rfl) (RL_fR (n := 7) hR rfl) ?_
    refine gw_alen (hk _ _ rfl) (RL_a (t := 0) (n := 40) hR rfl (by decide)) (by decide) ?_
    refine gw_br (c := 40 ≤ (gsV s 5 3)) (a := (39, [some (.ref 5), some (.int x1)], [], h)) (b := (19, [some (.ref 5), some (.int x1)], [], h)) (hk _ _ rfl) rfl ⟨fun z6 => ?_, fun z6 => ?_⟩
    · replace w := w.1 z6
      refine gw_le (L' := [none, none]) (gm_le_n _ (gm_le_n _ gm_le_nil)) ?_
      exact ok9_39 c d Post _ w _ hR
    · replace w := w.2 z6
      refine gw_pst hk 1 (st' := (20, [some (.ref 5), some (.int x1)], [.ref 5], h)) rfl ?_
      refine gw_gf (hk _ _ rfl) (RL_fR (n := 7) hR rfl) ?_
      refine gw_pst hk 1 (st' := (24, [some (.ref 5), some (.int x1)], [.ref 5, .ref 7], h)) rfl ?_
      refine gw_gf (hk _ _ rfl) (RL_fI hR rfl) ?_
      refine gw_pst hk 1 (st' := (28, [some (.ref 5), some (.int x1)], [.int x1, .int (gsV s 5 3), .ref 7], h)) rfl ?_
      obtain ⟨b9, w⟩ := w
      have hR9 := RL_pA (a := 7) (t := 0) (n := 40) (k := (gsV s 5 3 : Int32).toNatClampNeg) (x := (vp_nar .int x1)) hR rfl (by decide)
      refine gw_ast (hk _ _ rfl) (Or.inl ⟨rfl, rfl, rfl⟩) (RL_a (t := 0) (n := 40) hR rfl (by decide)) b9 ?_
      generalize gm_put h _ _ = h at hR9 ⊢
      obtain ⟨s_9, es9⟩ : ∃ z, z = gs_A s 7 (gsV s 5 3 : Int32).toNatClampNeg (vp_nar .int x1) := ⟨_, rfl⟩
      rw [← es9] at hR9
      replace w := w s_9 es9
      replace hR := hR9
      refine gw_pst hk 2 (st' := (31, [some (.ref 5), some (.int x1)], [.ref 5, .ref 5], h)) rfl ?_
      refine gw_gf (hk _ _ rfl) (RL_fI hR rfl) ?_
      refine gw_pst hk 2 (st' := (36, [some (.ref 5), some (.int x1)], [.int ((gsV s_9 5 3) + 1), .ref 5], h)) rfl ?_
      obtain ⟨fs11, e11⟩ := RL_o hR (r := 5) (ci := 0) rfl
      obtain ⟨l11, hR11⟩ := RL_pI (k := 3) (x := (gsV s_9 5 3) + 1) hR rfl e11
      refine gw_pf (hk _ _ rfl) e11 l11 rfl ?_
      generalize gm_put h _ _ = h at hR11 ⊢
      obtain ⟨s_11, es11⟩ : ∃ z, z = gs_V s_9 5 3 ((gsV s_9 5 3) + 1) := ⟨_, rfl⟩
      rw [← es11] at hR11
      replace w := w s_11 es11
      replace hR := hR11
      refine gw_le (L' := [none, none]) (gm_le_n _ (gm_le_n _ gm_le_nil)) ?_
      exact ok9_39 c d Post _ w _ hR
def w10_19 (c : gx) (d : Nat) (Post : Option Value → gs → Prop)  (s : gs) : Prop :=
  Post (some (.int 0)) s
theorem ok10_19 (c : gx) (d : Nat) (Post : Option Value → gs → Prop)   (s : gs) (w : w10_19 c d Post  s) : tV c d 10 19 [none] [] s Post := by
  intro h hR
  have hk : ∀ pc i, gm_find gk_10 pc = some i → gm_code (gt_T c.1 c.2.1 c.2.2.1) 10 pc = some i := fun _ _ z => z
  unfold w10_19 at w
  unfold gV
  refine gw_pst hk 1 (st' := (20, [none], [.int 0], h)) rfl ?_
  exact gw_ret (hk _ _ rfl) rfl ⟨_, hR, w⟩
/-- CommandByTurns$Formula.take()I -/
def wm10 (c : gx) (d : Nat) (Post : Option Value → gs → Prop)  (s : gs) : Prop :=
  (((gsV s 5 3) ≤ 0 → w10_19 c d Post s) ∧ (¬ ((gsV s 5 3) ≤ 0) → (((gsV s 5 3) ≤ 40 → ∀ s_8 : gs, s_8 = gs_V s 5 3 ((gsV s 5 3) - 1) → vp_in (gsV s_8 5 3) 40 ∧ Post (some (.int (gsA s_8 7 (gsV s_8 5 3 : Int32).toNatClampNeg))) s_8) ∧ (¬ ((gsV s 5 3) ≤ 40) → w10_19 c d Post s))))
theorem okm10 (c : gx) (d : Nat) (Post : Option Value → gs → Prop)  (s : gs) (w : wm10 c d Post  s) : tE c (d + 1) 10 [.ref 5] s Post := by
  intro h hR
  have hk : ∀ pc i, gm_find gk_10 pc = some i → gm_code (gt_T c.1 c.2.1 c.2.2.1) 10 pc = some i := fun _ _ z => z
  unfold wm10 at w
  refine ge_of (by decide) (Nat.le_of_ble_eq_true rfl) ?_
  show gw (gt_T c.1 c.2.1 c.2.2.1) c.2.2.2 d 10 (0, [some (.ref 5)], [], h) _
  refine gw_pst hk 1 (st' := (1, [some (.ref 5)], [.ref 5], h)) rfl ?_
  refine gw_gf (hk _ _ rfl) (RL_fI hR rfl) ?_
  refine gw_br (c := (gsV s 5 3) ≤ 0) (a := (19, [some (.ref 5)], [], h)) (b := (7, [some (.ref 5)], [], h)) (hk _ _ rfl) rfl ⟨fun z2 => ?_, fun z2 => ?_⟩
  · replace w := w.1 z2
    refine gw_le (L' := [none]) (gm_le_n _ gm_le_nil) ?_
    exact ok10_19 c d Post _ w _ hR
  · replace w := w.2 z2
    refine gw_pst hk 1 (st' := (8, [some (.ref 5)], [.ref 5], h)) rfl ?_
    refine gw_gf (hk _ _ rfl) (RL_fI hR rfl) ?_
    refine gw_pst hk 1 (st' := (12, [some (.ref 5)], [.ref 5, .int (gsV s 5 3)], h)) rfl ?_
    refine gw_gf (hk _ _ rfl) (RL_fR (n := 7) hR rfl) ?_
    refine gw_alen (hk _ _ rfl) (RL_a (t := 0) (n := 40) hR rfl (by decide)) (by decide) ?_
    refine gw_br (c := (gsV s 5 3) ≤ 40) (a := (21, [some (.ref 5)], [], h)) (b := (19, [some (.ref 5)], [], h)) (hk _ _ rfl) rfl ⟨fun z6 => ?_, fun z6 => ?_⟩
    · replace w := w.1 z6
      refine gw_pst hk 2 (st' := (23, [some (.ref 5)], [.ref 5, .ref 5], h)) rfl ?_
      refine gw_gf (hk _ _ rfl) (RL_fI hR rfl) ?_
      refine gw_pst hk 2 (st' := (28, [some (.ref 5)], [.int ((gsV s 5 3) - 1), .ref 5], h)) rfl ?_
      obtain ⟨fs8, e8⟩ := RL_o hR (r := 5) (ci := 0) rfl
      obtain ⟨l8, hR8⟩ := RL_pI (k := 3) (x := (gsV s 5 3) - 1) hR rfl e8
      refine gw_pf (hk _ _ rfl) e8 l8 rfl ?_
      generalize gm_put h _ _ = h at hR8 ⊢
      obtain ⟨s_8, es8⟩ : ∃ z, z = gs_V s 5 3 ((gsV s 5 3) - 1) := ⟨_, rfl⟩
      rw [← es8] at hR8
      replace w := w s_8 es8
      replace hR := hR8
      refine gw_pst hk 1 (st' := (32, [some (.ref 5)], [.ref 5], h)) rfl ?_
      refine gw_gf (hk _ _ rfl) (RL_fR (n := 7) hR rfl) ?_
      refine gw_pst hk 1 (st' := (36, [some (.ref 5)], [.ref 5, .ref 7], h)) rfl ?_
      refine gw_gf (hk _ _ rfl) (RL_fI hR rfl) ?_
      obtain ⟨b11, w⟩ := w
      refine gw_ald (hk _ _ rfl) (Or.inl ⟨rfl, rfl⟩) (RL_a (t := 0) (n := 40) hR rfl (by decide)) b11 ?_
      exact gw_ret (hk _ _ rfl) rfl ⟨_, hR, w⟩
    · replace w := w.2 z6
      refine gw_le (L' := [none]) (gm_le_n _ gm_le_nil) ?_
      exact ok10_19 c d Post _ w _ hR
def w11_129 (c : gx) (d : Nat) (Post : Option Value → gs → Prop) (K7 : Int32 → gs → Prop) (x2 : Int32) (s : gs) : Prop :=
  K7 (x2 + 1) s
theorem ok11_129 (c : gx) (d : Nat) (Post : Option Value → gs → Prop) (K7 : Int32 → gs → Prop)  (hK7 : ∀ (x2 : Int32) (s : gs), K7 x2 s → tV c d 11 7 [some (.ref 5), some (.ref 45), some (.int x2), none, none, none] [] s Post) (x2 : Int32) (s : gs) (w : w11_129 c d Post K7 x2 s) : tV c d 11 129 [some (.ref 5), some (.ref 45), some (.int x2), none, none, none] [] s Post := by
  intro h hR
  have hk : ∀ pc i, gm_find gk_11 pc = some i → gm_code (gt_T c.1 c.2.1 c.2.2.1) 11 pc = some i := fun _ _ z => z
  unfold w11_129 at w
  unfold gV
  refine gw_pst hk 2 (st' := (7, [some (.ref 5), some (.ref 45), some (.int (x2 + 1)), none, none, none], [], h)) rfl ?_
  exact hK7 _ _ w _ hR
def w11_76 (c : gx) (d : Nat) (Post : Option Value → gs → Prop) (K7 : Int32 → gs → Prop) (x2 : Int32) (xs1 : Int32) (s : gs) : Prop :=
  tE c d 9 [.ref 5, .int xs1] s (fun v1 s_1 => v1 = none ∧ w11_129 c d Post K7 x2 s_1)
theorem ok11_76 (c : gx) (d : Nat) (Post : Option Value → gs → Prop) (K7 : Int32 → gs → Prop)  (hK7 : ∀ (x2 : Int32) (s : gs), K7 x2 s → tV c d 11 7 [some (.ref 5), some (.ref 45), some (.int x2), none, none, none] [] s Post) (x2 : Int32) (xs1 : Int32) (s : gs) (w : w11_76 c d Post K7 x2 xs1 s) : tV c d 11 76 [some (.ref 5), some (.ref 45), some (.int x2), none, none, none] [.int xs1, .ref 5] s Post := by
  intro h hR
  have hk : ∀ pc i, gm_find gk_11 pc = some i → gm_code (gt_T c.1 c.2.1 c.2.2.1) 11 pc = some i := fun _ _ z => z
  unfold w11_76 at w
  unfold gV
  obtain ⟨fs1, e1⟩ := RL_o hR (r := 5) (ci := 0) rfl
  refine gw_call (jj := 9) (As := [.ref 5, .int xs1]) (rest := []) (hk _ _ rfl) (fun _ => rfl) rfl rfl (Nat.le_of_ble_eq_true rfl) (gm_rcv_v rfl e1 rfl) ?_
  refine ge_imp (w h hR) (fun v1 h w => ?_)
  obtain ⟨s_1, hR, rfl, w⟩ := w
  show gw (gt_T c.1 c.2.1 c.2.2.1) c.2.2.2 d 11 (79, [some (.ref 5), some (.ref 45), some (.int x2), none, none, none], [], h) _
  refine gw_pst hk 1 (st' := (129, [some (.ref 5), some (.ref 45), some (.int x2), none, none, none], [], h)) rfl ?_
  exact ok11_129 c d Post K7 hK7 _ _ w _ hR
def w11_135 (c : gx) (d : Nat) (Post : Option Value → gs → Prop)  (s : gs) : Prop :=
  tE c d 10 [.ref 5] s (fun v1 s_1 => ∃ x_1 : Int32, v1 = some (.int x_1) ∧ Post (some (.int x_1)) s_1)
theorem ok11_135 (c : gx) (d : Nat) (Post : Option Value → gs → Prop)   (s : gs) (w : w11_135 c d Post  s) : tV c d 11 135 [some (.ref 5), none, none, none, none, none] [] s Post := by
  intro h hR
  have hk : ∀ pc i, gm_find gk_11 pc = some i → gm_code (gt_T c.1 c.2.1 c.2.2.1) 11 pc = some i := fun _ _ z => z
  unfold w11_135 at w
  unfold gV
  refine gw_pst hk 1 (st' := (136, [some (.ref 5), none, none, none, none, none], [.ref 5], h)) rfl ?_
  obtain ⟨fs1, e1⟩ := RL_o hR (r := 5) (ci := 0) rfl
  refine gw_call (jj := 10) (As := [.ref 5]) (rest := []) (hk _ _ rfl) (fun _ => rfl) rfl rfl (Nat.le_of_ble_eq_true rfl) (gm_rcv_v rfl e1 rfl) ?_
  refine ge_imp (w h hR) (fun v1 h w => ?_)
  obtain ⟨s_1, hR, x_1, rfl, w⟩ := w
  show gw (gt_T c.1 c.2.1 c.2.2.1) c.2.2.2 d 11 (139, [some (.ref 5), none, none, none, none, none], [.int x_1], h) _
  exact gw_ret (hk _ _ rfl) rfl ⟨_, hR, w⟩
def wb11_7 (c : gx) (d : Nat) (Post : Option Value → gs → Prop) (K7 : Int32 → gs → Prop) (x2 : Int32) (s : gs) : Prop :=
  (((gsV s 5 1) ≤ x2 → w11_135 c d Post s) ∧ (¬ ((gsV s 5 1) ≤ x2) → ((40 ≤ x2 → w11_135 c d Post s) ∧ (¬ (40 ≤ x2) → vp_in x2 40 ∧ ((1000 ≤ (gsA s 6 (x2 : Int32).toNatClampNeg) → ((2000 ≤ (gsA s 6 (x2 : Int32).toNatClampNeg) → (((gsA s 6 (x2 : Int32).toNatClampNeg) = 2256 → tE c d 10 [.ref 5] s (fun v11 s_11 => ∃ x_11 : Int32, v11 = some (.int x_11) ∧ tE c d 9 [.ref 5, .int (-x_11)] s_11 (fun v12 s_12 => v12 = none ∧ w11_129 c d Post K7 x2 s_12))) ∧ (¬ ((gsA s 6 (x2 : Int32).toNatClampNeg) = 2256) → tE c d 10 [.ref 5] s (fun v13 s_13 => ∃ x_13 : Int32, v13 = some (.int x_13) ∧ tE c d 10 [.ref 5] s_13 (fun v14 s_14 => ∃ x_14 : Int32, v14 = some (.int x_14) ∧ tE c d 12 [.int ((gsA s 6 (x2 : Int32).toNatClampNeg) - 2000), .int x_14, .int x_13] s_14 (fun v15 s_15 => ∃ x_15 : Int32, v15 = some (.int x_15) ∧ tE c d 9 [.ref 5, .int x_15] s_15 (fun v16 s_16 => v16 = none ∧ w11_129 c d Post K7 x2 s_16))))))) ∧ (¬ (2000 ≤ (gsA s 6 (x2 : Int32).toNatClampNeg)) → ((8 ≤ ((gsA s 6 (x2 : Int32).toNatClampNeg) - 1000) → w11_76 c d Post K7 x2 0 s) ∧ (¬ (8 ≤ ((gsA s 6 (x2 : Int32).toNatClampNeg) - 1000)) → vp_in ((gsA s 6 (x2 : Int32).toNatClampNeg) - 1000) 8 ∧ w11_76 c d Post K7 x2 (gsA s 45 ((gsA s 6 (x2 : Int32).toNatClampNeg) - 1000 : Int32).toNatClampNeg) s))))) ∧ (¬ (1000 ≤ (gsA s 6 (x2 : Int32).toNatClampNeg)) → tE c d 9 [.ref 5, .int (gsA s 6 (x2 : Int32).toNatClampNeg)] s (fun v20 s_20 => v20 = none ∧ w11_129 c d Post K7 x2 s_20)))))))
theorem okb11_7 (c : gx) (d : Nat) (Post : Option Value → gs → Prop) (K7 : Int32 → gs → Prop)  (hK7 : ∀ (x2 : Int32) (s : gs), K7 x2 s → tV c d 11 7 [some (.ref 5), some (.ref 45), some (.int x2), none, none, none] [] s Post) (x2 : Int32) (s : gs) (w : wb11_7 c d Post K7 x2 s) : tV c d 11 7 [some (.ref 5), some (.ref 45), some (.int x2), none, none, none] [] s Post := by
  intro h hR
  have hk : ∀ pc i, gm_find gk_11 pc = some i → gm_code (gt_T c.1 c.2.1 c.2.2.1) 11 pc = some i := fun _ _ z => z
  unfold wb11_7 at w
  unfold gV
  refine gw_pst hk 2 (st' := (9, [some (.ref 5), some (.ref 45), some (.int x2), none, none, none], [.ref 5, .int x2], h)) rfl ?_
  refine gw_gf (hk _ _ rfl) (RL_fI hR rfl) ?_
  refine gw_br (c := (gsV s 5 1) ≤ x2) (a := (135, [some (.ref 5), some (.ref 45), some (.int x2), none, none, none], [], h)) (b := (15, [some (.ref 5), some (.ref 45), some (.int x2), none, none, none], [], h)) (hk _ _ rfl) rfl ⟨fun z2 => ?_, fun z2 => ?_⟩
  · replace w := w.1 z2
    refine gw_le (L' := [some (.ref 5), none, none, none, none, none]) (gm_le_k _ (gm_le_n _ (gm_le_n _ (gm_le_k _ (gm_le_k _ (gm_le_k _ gm_le_nil)))))) ?_
    exact ok11_135 c d Post _ w _ hR
  · replace w := w.2 z2
    refine gw_pst hk 2 (st' := (17, [some (.ref 5), some (.ref 45), some (.int x2), none, none, none], [.ref 5, .int x2], h)) rfl ?_
    refine gw_gf (hk _ _ rfl) (RL_fR (n := 6) hR rfl) ?_
    refine gw_alen (hk _ _ rfl) (RL_a (t := 0) (n := 40) hR rfl (by decide)) (by decide) ?_
    refine gw_br (c := 40 ≤ x2) (a := (135, [some (.ref 5), some (.ref 45), some (.int x2), none, none, none], [], h)) (b := (24, [some (.ref 5), some (.ref 45), some (.int x2), none, none, none], [], h)) (hk _ _ rfl) rfl ⟨fun z5 => ?_, fun z5 => ?_⟩
    · replace w := w.1 z5
      refine gw_le (L' := [some (.ref 5), none, none, none, none, none]) (gm_le_k _ (gm_le_n _ (gm_le_n _ (gm_le_k _ (gm_le_k _ (gm_le_k _ gm_le_nil)))))) ?_
      exact ok11_135 c d Post _ w _ hR
    · replace w := w.2 z5
      refine gw_pst hk 1 (st' := (25, [some (.ref 5), some (.ref 45), some (.int x2), none, none, none], [.ref 5], h)) rfl ?_
      refine gw_gf (hk _ _ rfl) (RL_fR (n := 6) hR rfl) ?_
      refine gw_pst hk 1 (st' := (29, [some (.ref 5), some (.ref 45), some (.int x2), none, none, none], [.int x2, .ref 6], h)) rfl ?_
      obtain ⟨b7, w⟩ := w
      refine gw_ald (hk _ _ rfl) (Or.inl ⟨rfl, rfl⟩) (RL_a (t := 0) (n := 40) hR rfl (by decide)) b7 ?_
      refine gw_pst hk 3 (st' := (35, [some (.ref 5), some (.ref 45), some (.int x2), some (.int (gsA s 6 (x2 : Int32).toNatClampNeg)), none, none], [.int 1000, .int (gsA s 6 (x2 : Int32).toNatClampNeg)], h)) rfl ?_
      refine gw_br (c := 1000 ≤ (gsA s 6 (x2 : Int32).toNatClampNeg)) (a := (46, [some (.ref 5), some (.ref 45), some (.int x2), some (.int (gsA s 6 (x2 : Int32).toNatClampNeg)), none, none], [], h)) (b := (38, [some (.ref 5), some (.ref 45), some (.int x2), some (.int (gsA s 6 (x2 : Int32).toNatClampNeg)), none, none], [], h)) (hk _ _ rfl) rfl ⟨fun z8 => ?_, fun z8 => ?_⟩
      · replace w := w.1 z8
        refine gw_pst hk 2 (st' := (50, [some (.ref 5), some (.ref 45), some (.int x2), some (.int (gsA s 6 (x2 : Int32).toNatClampNeg)), none, none], [.int 2000, .int (gsA s 6 (x2 : Int32).toNatClampNeg)], h)) rfl ?_
        refine gw_br (c := 2000 ≤ (gsA s 6 (x2 : Int32).toNatClampNeg)) (a := (82, [some (.ref 5), some (.ref 45), some (.int x2), some (.int (gsA s 6 (x2 : Int32).toNatClampNeg)), none, none], [], h)) (b := (53, [some (.ref 5), some (.ref 45), some (.int x2), some (.int (gsA s 6 (x2 : Int32).toNatClampNeg)), none, none], [], h)) (hk _ _ rfl) rfl ⟨fun z9 => ?_, fun z9 => ?_⟩
        · replace w := w.1 z9
          refine gw_pst hk 2 (st' := (86, [some (.ref 5), some (.ref 45), some (.int x2), some (.int (gsA s 6 (x2 : Int32).toNatClampNeg)), none, none], [.int 2256, .int (gsA s 6 (x2 : Int32).toNatClampNeg)], h)) rfl ?_
          refine gw_br (c := (gsA s 6 (x2 : Int32).toNatClampNeg) = 2256) (a := (89, [some (.ref 5), some (.ref 45), some (.int x2), some (.int (gsA s 6 (x2 : Int32).toNatClampNeg)), none, none], [], h)) (b := (101, [some (.ref 5), some (.ref 45), some (.int x2), some (.int (gsA s 6 (x2 : Int32).toNatClampNeg)), none, none], [], h)) (hk _ _ rfl) rfl ⟨fun z10 => ?_, fun z10 => ?_⟩
          · replace w := w.1 z10
            refine gw_pst hk 2 (st' := (91, [some (.ref 5), some (.ref 45), some (.int x2), some (.int (gsA s 6 (x2 : Int32).toNatClampNeg)), none, none], [.ref 5, .ref 5], h)) rfl ?_
            obtain ⟨fs11, e11⟩ := RL_o hR (r := 5) (ci := 0) rfl
            refine gw_call (jj := 10) (As := [.ref 5]) (rest := [.ref 5]) (hk _ _ rfl) (fun _ => rfl) rfl rfl (Nat.le_of_ble_eq_true rfl) (gm_rcv_v rfl e11 rfl) ?_
            refine ge_imp (w h hR) (fun v11 h w => ?_)
            obtain ⟨s_11, hR, x_11, rfl, w⟩ := w
            show gw (gt_T c.1 c.2.1 c.2.2.1) c.2.2.2 d 11 (94, [some (.ref 5), some (.ref 45), some (.int x2), some (.int (gsA s 6 (x2 : Int32).toNatClampNeg)), none, none], [.int x_11, .ref 5], h) _
            refine gw_pst hk 1 (st' := (95, [some (.ref 5), some (.ref 45), some (.int x2), some (.int (gsA s 6 (x2 : Int32).toNatClampNeg)), none, none], [.int (-x_11), .ref 5], h)) rfl ?_
            obtain ⟨fs12, e12⟩ := RL_o hR (r := 5) (ci := 0) rfl
            refine gw_call (jj := 9) (As := [.ref 5, .int (-x_11)]) (rest := []) (hk _ _ rfl) (fun _ => rfl) rfl rfl (Nat.le_of_ble_eq_true rfl) (gm_rcv_v rfl e12 rfl) ?_
            refine ge_imp (w h hR) (fun v12 h w => ?_)
            obtain ⟨s_12, hR, rfl, w⟩ := w
            show gw (gt_T c.1 c.2.1 c.2.2.1) c.2.2.2 d 11 (98, [some (.ref 5), some (.ref 45), some (.int x2), some (.int (gsA s 6 (x2 : Int32).toNatClampNeg)), none, none], [], h) _
            refine gw_pst hk 1 (st' := (129, [some (.ref 5), some (.ref 45), some (.int x2), some (.int (gsA s 6 (x2 : Int32).toNatClampNeg)), none, none], [], h)) rfl ?_
            refine gw_le (L' := [some (.ref 5), some (.ref 45), some (.int x2), none, none, none]) (gm_le_k _ (gm_le_k _ (gm_le_k _ (gm_le_n _ (gm_le_k _ (gm_le_k _ gm_le_nil)))))) ?_
            exact ok11_129 c d Post K7 hK7 _ _ w _ hR
          · replace w := w.2 z10
            refine gw_pst hk 1 (st' := (102, [some (.ref 5), some (.ref 45), some (.int x2), some (.int (gsA s 6 (x2 : Int32).toNatClampNeg)), none, none], [.ref 5], h)) rfl ?_
            obtain ⟨fs13, e13⟩ := RL_o hR (r := 5) (ci := 0) rfl
            refine gw_call (jj := 10) (As := [.ref 5]) (rest := []) (hk _ _ rfl) (fun _ => rfl) rfl rfl (Nat.le_of_ble_eq_true rfl) (gm_rcv_v rfl e13 rfl) ?_
            refine ge_imp (w h hR) (fun v13 h w => ?_)
            obtain ⟨s_13, hR, x_13, rfl, w⟩ := w
            show gw (gt_T c.1 c.2.1 c.2.2.1) c.2.2.2 d 11 (105, [some (.ref 5), some (.ref 45), some (.int x2), some (.int (gsA s 6 (x2 : Int32).toNatClampNeg)), none, none], [.int x_13], h) _
            refine gw_pst hk 2 (st' := (108, [some (.ref 5), some (.ref 45), some (.int x2), some (.int (gsA s 6 (x2 : Int32).toNatClampNeg)), some (.int x_13), none], [.ref 5], h)) rfl ?_
            obtain ⟨fs14, e14⟩ := RL_o hR (r := 5) (ci := 0) rfl
            refine gw_call (jj := 10) (As := [.ref 5]) (rest := []) (hk _ _ rfl) (fun _ => rfl) rfl rfl (Nat.le_of_ble_eq_true rfl) (gm_rcv_v rfl e14 rfl) ?_
            refine ge_imp (w h hR) (fun v14 h w => ?_)
            obtain ⟨s_14, hR, x_14, rfl, w⟩ := w
            show gw (gt_T c.1 c.2.1 c.2.2.1) c.2.2.2 d 11 (111, [some (.ref 5), some (.ref 45), some (.int x2), some (.int (gsA s 6 (x2 : Int32).toNatClampNeg)), some (.int x_13), none], [.int x_14], h) _
            refine gw_pst hk 7 (st' := (123, [some (.ref 5), some (.ref 45), some (.int x2), some (.int (gsA s 6 (x2 : Int32).toNatClampNeg)), some (.int x_13), some (.int x_14)], [.int x_13, .int x_14, .int ((gsA s 6 (x2 : Int32).toNatClampNeg) - 2000), .ref 5], h)) rfl ?_
            refine gw_call (jj := 12) (As := [.int ((gsA s 6 (x2 : Int32).toNatClampNeg) - 2000), .int x_14, .int x_13]) (rest := [.ref 5]) (hk _ _ rfl) (fun _ => rfl) rfl rfl (Nat.le_of_ble_eq_true rfl) rfl ?_
            refine ge_imp (w h hR) (fun v15 h w => ?_)
            obtain ⟨s_15, hR, x_15, rfl, w⟩ := w
            show gw (gt_T c.1 c.2.1 c.2.2.1) c.2.2.2 d 11 (126, [some (.ref 5), some (.ref 45), some (.int x2), some (.int (gsA s 6 (x2 : Int32).toNatClampNeg)), some (.int x_13), some (.int x_14)], [.int x_15, .ref 5], h) _
            obtain ⟨fs16, e16⟩ := RL_o hR (r := 5) (ci := 0) rfl
            refine gw_call (jj := 9) (As := [.ref 5, .int x_15]) (rest := []) (hk _ _ rfl) (fun _ => rfl) rfl rfl (Nat.le_of_ble_eq_true rfl) (gm_rcv_v rfl e16 rfl) ?_
            refine ge_imp (w h hR) (fun v16 h w => ?_)
            obtain ⟨s_16, hR, rfl, w⟩ := w
            show gw (gt_T c.1 c.2.1 c.2.2.1) c.2.2.2 d 11 (129, [some (.ref 5), some (.ref 45), some (.int x2), some (.int (gsA s 6 (x2 : Int32).toNatClampNeg)), some (.int x_13), some (.int x_14)], [], h) _
            refine gw_le (L' := [some (.ref 5), some (.ref 45), some (.int x2), none, none, none]) (gm_le_k _ (gm_le_k _ (gm_le_k _ (gm_le_n _ (gm_le_n _ (gm_le_n _ gm_le_nil)))))) ?_
            exact ok11_129 c d Post K7 hK7 _ _ w _ hR
        · replace w := w.2 z9
          refine gw_pst hk 7 (st' := (64, [some (.ref 5), some (.ref 45), some (.int x2), some (.int (gsA s 6 (x2 : Int32).toNatClampNeg)), some (.int ((gsA s 6 (x2 : Int32).toNatClampNeg) - 1000)), none], [.ref 45, .int ((gsA s 6 (x2 : Int32).toNatClampNeg) - 1000), .ref 5], h)) rfl ?_
          refine gw_alen (hk _ _ rfl) (RL_a (t := 0) (n := 8) hR rfl (by decide)) (by decide) ?_
          refine gw_br (c := 8 ≤ ((gsA s 6 (x2 : Int32).toNatClampNeg) - 1000)) (a := (75, [some (.ref 5), some (.ref 45), some (.int x2), some (.int (gsA s 6 (x2 : Int32).toNatClampNeg)), some (.int ((gsA s 6 (x2 : Int32).toNatClampNeg) - 1000)), none], [.ref 5], h)) (b := (68, [some (.ref 5), some (.ref 45), some (.int x2), some (.int (gsA s 6 (x2 : Int32).toNatClampNeg)), some (.int ((gsA s 6 (x2 : Int32).toNatClampNeg) - 1000)), none], [.ref 5], h)) (hk _ _ rfl) rfl ⟨fun z18 => ?_, fun z18 => ?_⟩
          · replace w := w.1 z18
            refine gw_pst hk 1 (st' := (76, [some (.ref 5), some (.ref 45), some (.int x2), some (.int (gsA s 6 (x2 : Int32).toNatClampNeg)), some (.int ((gsA s 6 (x2 : Int32).toNatClampNeg) - 1000)), none], [.int 0, .ref 5], h)) rfl ?_
            refine gw_le (L' := [some (.ref 5), some (.ref 45), some (.int x2), none, none, none]) (gm_le_k _ (gm_le_k _ (gm_le_k _ (gm_le_n _ (gm_le_n _ (gm_le_k _ gm_le_nil)))))) ?_
            exact ok11_76 c d Post K7 hK7 _ _ _ w _ hR
          · replace w := w.2 z18
            refine gw_pst hk 2 (st' := (71, [some (.ref 5), some (.ref 45), some (.int x2), some (.int (gsA s 6 (x2 : Int32).toNatClampNeg)), some (.int ((gsA s 6 (x2 : Int32).toNatClampNeg) - 1000)), none], [.int ((gsA s 6 (x2 : Int32).toNatClampNeg) - 1000), .ref 45, .ref 5], h)) rfl ?_
            obtain ⟨b19, w⟩ := w
            refine gw_ald (hk _ _ rfl) (Or.inl ⟨rfl, rfl⟩) (RL_a (t := 0) (n := 8) hR rfl (by decide)) b19 ?_
            refine gw_pst hk 1 (st' := (76, [some (.ref 5), some (.ref 45), some (.int x2), some (.int (gsA s 6 (x2 : Int32).toNatClampNeg)), some (.int ((gsA s 6 (x2 : Int32).toNatClampNeg) - 1000)), none], [.int (gsA s 45 ((gsA s 6 (x2 : Int32).toNatClampNeg) - 1000 : Int32).toNatClampNeg), .ref 5], h)) rfl ?_
            refine gw_le (L' := [some (.ref 5), some (.ref 45), some (.int x2), none, none, none]) (gm_le_k _ (gm_le_k _ (gm_le_k _ (gm_le_n _ (gm_le_n _ (gm_le_k _ gm_le_nil)))))) ?_
            exact ok11_76 c d Post K7 hK7 _ _ _ w _ hR
      · replace w := w.2 z8
        refine gw_pst hk 2 (st' := (40, [some (.ref 5), some (.ref 45), some (.int x2), some (.int (gsA s 6 (x2 : Int32).toNatClampNeg)), none, none], [.int (gsA s 6 (x2 : Int32).toNatClampNeg), .ref 5], h)) rfl ?_
        obtain ⟨fs20, e20⟩ := RL_o hR (r := 5) (ci := 0) rfl
        refine gw_call (jj := 9) (As := [.ref 5, .int (gsA s 6 (x2 : Int32).toNatClampNeg)]) (rest := []) (hk _ _ rfl) (fun _ => rfl) rfl rfl (Nat.le_of_ble_eq_true rfl) (gm_rcv_v rfl e20 rfl) ?_
        refine ge_imp (w h hR) (fun v20 h w => ?_)
        obtain ⟨s_20, hR, rfl, w⟩ := w
        show gw (gt_T c.1 c.2.1 c.2.2.1) c.2.2.2 d 11 (43, [some (.ref 5), some (.ref 45), some (.int x2), some (.int (gsA s 6 (x2 : Int32).toNatClampNeg)), none, none], [], h) _
        refine gw_pst hk 1 (st' := (129, [some (.ref 5), some (.ref 45), some (.int x2), some (.int (gsA s 6 (x2 : Int32).toNatClampNeg)), none, none], [], h)) rfl ?_
        refine gw_le (L' := [some (.ref 5), some (.ref 45), some (.int x2), none, none, none]) (gm_le_k _ (gm_le_k _ (gm_le_k _ (gm_le_n _ (gm_le_k _ (gm_le_k _ gm_le_nil)))))) ?_
        exact ok11_129 c d Post K7 hK7 _ _ w _ hR
def wl11_7 (c : gx) (d : Nat) (Post : Option Value → gs → Prop) : Nat → Int32 → gs → Prop
  | 0 => fun _ _ => False
  | n + 1 => wb11_7 c d Post (wl11_7 c d Post n)
theorem okl11_7 (c : gx) (d : Nat) (Post : Option Value → gs → Prop) : ∀ (n : Nat) (x2 : Int32) (s : gs), wl11_7 c d Post n x2 s → tV c d 11 7 [some (.ref 5), some (.ref 45), some (.int x2), none, none, none] [] s Post
  | 0, _, _, w => w.elim
  | n + 1, x2, s, w => okb11_7 c d Post (wl11_7 c d Post n) (okl11_7 c d Post n) x2 s w
/-- CommandByTurns$Formula.valueOf([I)I -/
def wm11 (c : gx) (d : Nat) (Post : Option Value → gs → Prop)  (s : gs) : Prop :=
  ∀ s_1 : gs, s_1 = gs_V s 5 3 0 → ∃ n, wl11_7 c d Post n 0 s_1
theorem okm11 (c : gx) (d : Nat) (Post : Option Value → gs → Prop)  (s : gs) (w : wm11 c d Post  s) : tE c (d + 1) 11 [.ref 5, .ref 45] s Post := by
  intro h hR
  have hk : ∀ pc i, gm_find gk_11 pc = some i → gm_code (gt_T c.1 c.2.1 c.2.2.1) 11 pc = some i := fun _ _ z => z
  unfold wm11 at w
  refine ge_of (by decide) (Nat.le_of_ble_eq_true rfl) ?_
  show gw (gt_T c.1 c.2.1 c.2.2.1) c.2.2.2 d 11 (0, [some (.ref 5), some (.ref 45), none, none, none, none], [], h) _
  refine gw_pst hk 2 (st' := (2, [some (.ref 5), some (.ref 45), none, none, none, none], [.int 0, .ref 5], h)) rfl ?_
  obtain ⟨fs1, e1⟩ := RL_o hR (r := 5) (ci := 0) rfl
  obtain ⟨l1, hR1⟩ := RL_pI (k := 3) (x := 0) hR rfl e1
  refine gw_pf (hk _ _ rfl) e1 l1 rfl ?_
  generalize gm_put h _ _ = h at hR1 ⊢
  obtain ⟨s_1, es1⟩ : ∃ z, z = gs_V s 5 3 0 := ⟨_, rfl⟩
  rw [← es1] at hR1
  replace w := w s_1 es1
  replace hR := hR1
  refine gw_pst hk 2 (st' := (7, [some (.ref 5), some (.ref 45), some (.int 0), none, none, none], [], h)) rfl ?_
  obtain ⟨n, w⟩ := w
  exact okl11_7 c d Post n _ _ w _ hR
def w12_70 (c : gx) (d : Nat) (Post : Option Value → gs → Prop) (xs0 : Int32) (s : gs) : Prop :=
  Post (some (.int xs0)) s
theorem ok12_70 (c : gx) (d : Nat) (Post : Option Value → gs → Prop)  (xs0 : Int32) (s : gs) (w : w12_70 c d Post xs0 s) : tV c d 12 70 [none, none, none] [.int xs0] s Post := by
  intro h hR
  have hk : ∀ pc i, gm_find gk_12 pc = some i → gm_code (gt_T c.1 c.2.1 c.2.2.1) 12 pc = some i := fun _ _ z => z
  unfold w12_70 at w
  unfold gV
  exact gw_ret (hk _ _ rfl) rfl ⟨_, hR, w⟩
def w12_81 (c : gx) (d : Nat) (Post : Option Value → gs → Prop) (xs0 : Int32) (s : gs) : Prop :=
  Post (some (.int xs0)) s
theorem ok12_81 (c : gx) (d : Nat) (Post : Option Value → gs → Prop)  (xs0 : Int32) (s : gs) (w : w12_81 c d Post xs0 s) : tV c d 12 81 [none, none, none] [.int xs0] s Post := by
  intro h hR
  have hk : ∀ pc i, gm_find gk_12 pc = some i → gm_code (gt_T c.1 c.2.1 c.2.2.1) 12 pc = some i := fun _ _ z => z
  unfold w12_81 at w
  unfold gV
  exact gw_ret (hk _ _ rfl) rfl ⟨_, hR, w⟩
def w12_92 (c : gx) (d : Nat) (Post : Option Value → gs → Prop) (xs0 : Int32) (s : gs) : Prop :=
  Post (some (.int xs0)) s
theorem ok12_92 (c : gx) (d : Nat) (Post : Option Value → gs → Prop)  (xs0 : Int32) (s : gs) (w : w12_92 c d Post xs0 s) : tV c d 12 92 [none, none, none] [.int xs0] s Post := by
  intro h hR
  have hk : ∀ pc i, gm_find gk_12 pc = some i → gm_code (gt_T c.1 c.2.1 c.2.2.1) 12 pc = some i := fun _ _ z => z
  unfold w12_92 at w
  unfold gV
  exact gw_ret (hk _ _ rfl) rfl ⟨_, hR, w⟩
def w12_116 (c : gx) (d : Nat) (Post : Option Value → gs → Prop) (xs0 : Int32) (s : gs) : Prop :=
  Post (some (.int xs0)) s
theorem ok12_116 (c : gx) (d : Nat) (Post : Option Value → gs → Prop)  (xs0 : Int32) (s : gs) (w : w12_116 c d Post xs0 s) : tV c d 12 116 [none, none, none] [.int xs0] s Post := by
  intro h hR
  have hk : ∀ pc i, gm_find gk_12 pc = some i → gm_code (gt_T c.1 c.2.1 c.2.2.1) 12 pc = some i := fun _ _ z => z
  unfold w12_116 at w
  unfold gV
  exact gw_ret (hk _ _ rfl) rfl ⟨_, hR, w⟩
/-- CommandByTurns$Formula.joined(III)I -/
def wm12 (c : gx) (d : Nat) (Post : Option Value → gs → Prop) (x0 : Int32) (x1 : Int32) (x2 : Int32) (s : gs) : Prop :=
  ((x0 = 42 → Post (some (.int (x1 * x2))) s) ∧ (x0 = 43 → Post (some (.int (x1 + x2))) s) ∧ (x0 = 45 → Post (some (.int (x1 - x2))) s) ∧ (x0 = 60 → ((x2 ≤ x1 → w12_70 c d Post 0 s) ∧ (¬ (x2 ≤ x1) → w12_70 c d Post 1 s))) ∧ (x0 = 61 → ((x1 = x2 → w12_92 c d Post 1 s) ∧ (¬ (x1 = x2) → w12_92 c d Post 0 s))) ∧ (x0 = 62 → ((x1 ≤ x2 → w12_81 c d Post 0 s) ∧ (¬ (x1 ≤ x2) → w12_81 c d Post 1 s))) ∧ (¬ x0 = 42 ∧ ¬ x0 = 43 ∧ ¬ x0 = 45 ∧ ¬ x0 = 60 ∧ ¬ x0 = 61 ∧ ¬ x0 = 62 → ((x2 = 0 → w12_116 c d Post 0 s) ∧ (¬ (x2 = 0) → ¬ x2 = 0 ∧ w12_116 c d Post (x1 / x2) s))))
theorem okm12 (c : gx) (d : Nat) (Post : Option Value → gs → Prop) (x0 : Int32) (x1 : Int32) (x2 : Int32) (s : gs) (w : wm12 c d Post x0 x1 x2 s) : tE c (d + 1) 12 [.int x0, .int x1, .int x2] s Post := by
  intro h hR
  have hk : ∀ pc i, gm_find gk_12 pc = some i → gm_code (gt_T c.1 c.2.1 c.2.2.1) 12 pc = some i := fun _ _ z => z
  unfold wm12 at w
  refine ge_of (by decide) (Nat.le_of_ble_eq_true rfl) ?_
  show gw (gt_T c.1 c.2.1 c.2.2.1) c.2.2.2 d 12 (0, [some (.int x0), some (.int x1), some (.int x2)], [], h) _
  refine gw_pst hk 1 (st' := (1, [some (.int x0), some (.int x1), some (.int x2)], [.int x0], h)) rfl ?_
  by_cases z1_0 : x0 = 42
  · replace w := w.1 z1_0
    refine gw_swk (st' := (101, [some (.int x0), some (.int x1), some (.int x2)], [], h)) (hk _ _ rfl) z1_0 rfl ?_
    refine gw_pst hk 3 (st' := (104, [some (.int x0), some (.int x1), some (.int x2)], [.int (x1 * x2)], h)) rfl ?_
    exact gw_ret (hk _ _ rfl) rfl ⟨_, hR, w⟩
  by_cases z1_1 : x0 = 43
  · replace w := w.2.1 z1_1
    refine gw_swk (st' := (93, [some (.int x0), some (.int x1), some (.int x2)], [], h)) (hk _ _ rfl) z1_1 rfl ?_
    refine gw_pst hk 3 (st' := (96, [some (.int x0), some (.int x1), some (.int x2)], [.int (x1 + x2)], h)) rfl ?_
    exact gw_ret (hk _ _ rfl) rfl ⟨_, hR, w⟩
  by_cases z1_2 : x0 = 45
  · replace w := w.2.2.1 z1_2
    refine gw_swk (st' := (97, [some (.int x0), some (.int x1), some (.int x2)], [], h)) (hk _ _ rfl) z1_2 rfl ?_
    refine gw_pst hk 3 (st' := (100, [some (.int x0), some (.int x1), some (.int x2)], [.int (x1 - x2)], h)) rfl ?_
    exact gw_ret (hk _ _ rfl) rfl ⟨_, hR, w⟩
  by_cases z1_3 : x0 = 60
  · replace w := w.2.2.2.1 z1_3
    refine gw_swk (st' := (60, [some (.int x0), some (.int x1), some (.int x2)], [], h)) (hk _ _ rfl) z1_3 rfl ?_
    refine gw_pst hk 2 (st' := (62, [some (.int x0), some (.int x1), some (.int x2)], [.int x2, .int x1], h)) rfl ?_
    refine gw_br (c := x2 ≤ x1) (a := (69, [some (.int x0), some (.int x1), some (.int x2)], [], h)) (b := (65, [some (.int x0), some (.int x1), some (.int x2)], [], h)) (hk _ _ rfl) rfl ⟨fun z2 => ?_, fun z2 => ?_⟩
    · replace w := w.1 z2
      refine gw_pst hk 1 (st' := (70, [some (.int x0), some (.int x1), some (.int x2)], [.int 0], h)) rfl ?_
      refine gw_le (L' := [none, none, none]) (gm_le_n _ (gm_le_n _ (gm_le_n _ gm_le_nil))) ?_
      exact ok12_70 c d Post _ _ w _ hR
    · replace w := w.2 z2
      refine gw_pst hk 2 (st' := (70, [some (.int x0), some (.int x1), some (.int x2)], [.int 1], h)) rfl ?_
      refine gw_le (L' := [none, none, none]) (gm_le_n _ (gm_le_n _ (gm_le_n _ gm_le_nil))) ?_
      exact ok12_70 c d Post _ _ w _ hR
  by_cases z1_4 : x0 = 61
  · replace w := w.2.2.2.2.1 z1_4
    refine gw_swk (st' := (82, [some (.int x0), some (.int x1), some (.int x2)], [], h)) (hk _ _ rfl) z1_4 rfl ?_
    refine gw_pst hk 2 (st' := (84, [some (.int x0), some (.int x1), some (.int x2)], [.int x2, .int x1], h)) rfl ?_
    refine gw_br (c := x1 = x2) (a := (87, [some (.int x0), some (.int x1), some (.int x2)], [], h)) (b := (91, [some (.int x0), some (.int x1), some (.int x2)], [], h)) (hk _ _ rfl) rfl ⟨fun z3 => ?_, fun z3 => ?_⟩
    · replace w := w.1 z3
      refine gw_pst hk 2 (st' := (92, [some (.int x0), some (.int x1), some (.int x2)], [.int 1], h)) rfl ?_
      refine gw_le (L' := [none, none, none]) (gm_le_n _ (gm_le_n _ (gm_le_n _ gm_le_nil))) ?_
      exact ok12_92 c d Post _ _ w _ hR
    · replace w := w.2 z3
      refine gw_pst hk 1 (st' := (92, [some (.int x0), some (.int x1), some (.int x2)], [.int 0], h)) rfl ?_
      refine gw_le (L' := [none, none, none]) (gm_le_n _ (gm_le_n _ (gm_le_n _ gm_le_nil))) ?_
      exact ok12_92 c d Post _ _ w _ hR
  by_cases z1_5 : x0 = 62
  · replace w := w.2.2.2.2.2.1 z1_5
    refine gw_swk (st' := (71, [some (.int x0), some (.int x1), some (.int x2)], [], h)) (hk _ _ rfl) z1_5 rfl ?_
    refine gw_pst hk 2 (st' := (73, [some (.int x0), some (.int x1), some (.int x2)], [.int x2, .int x1], h)) rfl ?_
    refine gw_br (c := x1 ≤ x2) (a := (80, [some (.int x0), some (.int x1), some (.int x2)], [], h)) (b := (76, [some (.int x0), some (.int x1), some (.int x2)], [], h)) (hk _ _ rfl) rfl ⟨fun z4 => ?_, fun z4 => ?_⟩
    · replace w := w.1 z4
      refine gw_pst hk 1 (st' := (81, [some (.int x0), some (.int x1), some (.int x2)], [.int 0], h)) rfl ?_
      refine gw_le (L' := [none, none, none]) (gm_le_n _ (gm_le_n _ (gm_le_n _ gm_le_nil))) ?_
      exact ok12_81 c d Post _ _ w _ hR
    · replace w := w.2 z4
      refine gw_pst hk 2 (st' := (81, [some (.int x0), some (.int x1), some (.int x2)], [.int 1], h)) rfl ?_
      refine gw_le (L' := [none, none, none]) (gm_le_n _ (gm_le_n _ (gm_le_n _ gm_le_nil))) ?_
      exact ok12_81 c d Post _ _ w _ hR
  replace w := w.2.2.2.2.2.2 ⟨z1_0, z1_1, z1_2, z1_3, z1_4, z1_5⟩
  refine gw_lsd (st' := (105, [some (.int x0), some (.int x1), some (.int x2)], [], h)) (hk _ _ rfl) (by
      have y0 : ¬ 42 = (x0 : Int32).toInt := fun z => z1_0 (Int32.toInt_inj.mp z.symm)
      have y1 : ¬ 43 = (x0 : Int32).toInt := fun z => z1_1 (Int32.toInt_inj.mp z.symm)
      have y2 : ¬ 45 = (x0 : Int32).toInt := fun z => z1_2 (Int32.toInt_inj.mp z.symm)
      have y3 : ¬ 60 = (x0 : Int32).toInt := fun z => z1_3 (Int32.toInt_inj.mp z.symm)
      have y4 : ¬ 61 = (x0 : Int32).toInt := fun z => z1_4 (Int32.toInt_inj.mp z.symm)
      have y5 : ¬ 62 = (x0 : Int32).toInt := fun z => z1_5 (Int32.toInt_inj.mp z.symm)
      simp [Op.lookupswitch.offset, y0, y1, y2, y3, y4, y5]) rfl ?_
  refine gw_pst hk 1 (st' := (106, [some (.int x0), some (.int x1), some (.int x2)], [.int x2], h)) rfl ?_
  refine gw_br (c := x2 = 0) (a := (109, [some (.int x0), some (.int x1), some (.int x2)], [], h)) (b := (113, [some (.int x0), some (.int x1), some (.int x2)], [], h)) (hk _ _ rfl) rfl ⟨fun z5 => ?_, fun z5 => ?_⟩
  · replace w := w.1 z5
    refine gw_pst hk 2 (st' := (116, [some (.int x0), some (.int x1), some (.int x2)], [.int 0], h)) rfl ?_
    refine gw_le (L' := [none, none, none]) (gm_le_n _ (gm_le_n _ (gm_le_n _ gm_le_nil))) ?_
    exact ok12_116 c d Post _ _ w _ hR
  · replace w := w.2 z5
    refine gw_pst hk 2 (st' := (115, [some (.int x0), some (.int x1), some (.int x2)], [.int x2, .int x1], h)) rfl ?_
    obtain ⟨z6, w⟩ := w
    refine gw_idiv (hk _ _ rfl) z6 ?_ rfl
    refine gw_le (L' := [none, none, none]) (gm_le_n _ (gm_le_n _ (gm_le_n _ gm_le_nil))) ?_
    exact ok12_116 c d Post _ _ w _ hR
