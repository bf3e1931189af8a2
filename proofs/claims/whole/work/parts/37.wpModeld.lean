/-! What must hold for a run to end with Post: by program (wip/whole/gen_wp.py). -/
def w216_23 (c : gx) (d : Nat) (Post : Option Value → gs → Prop)  (s : gs) : Prop :=
  Post (some (.int (-1))) s
theorem ok216_23 (c : gx) (d : Nat) (Post : Option Value → gs → Prop)   (s : gs) (w : w216_23 c d Post  s) : tV c d 216 23 [none, none, none, none] [] s Post := by
  intro h hR
  have hk : ∀ pc i, gm_find gk_216 pc = some i → gm_code (gt_T c.1 c.2.1 c.2.2.1) 216 pc = some i := fun _ _ z => z
  unfold w216_23 at w
  unfold gV
  refine gw_pst hk 1 (st' := (24, [none, none, none, none], [.int (-1)], h)) rfl ?_
  exact gw_ret (hk _ _ rfl) rfl ⟨_, hR, w⟩
/-- CommandByTurnsModel.issue(II)I -/
def wm216 (c : gx) (d : Nat) (Post : Option Value → gs → Prop) (x1 : Int32) (x2 : Int32) (s : gs) : Prop :=
  ∀ s_1 : gs, s_1 = gs_V s 48 13 0 → tE c d 158 [.ref 48, .int x1] s_1 (fun v2 s_2 => ∃ x_2 : Int32, v2 = some (.int x_2) ∧ ((x_2 = 0 → w216_23 c d Post s_2) ∧ (¬ (x_2 = 0) → tE c d 154 [.int x2, .int 0, .int 30] s_2 (fun v4 s_4 => ∃ x_4 : Int32, v4 = some (.int x_4) ∧ ((x_4 = 0 → w216_23 c d Post s_4) ∧ (¬ (x_4 = 0) → vp_in 0 108 ∧ tE c d 184 [.ref 49, .int ((gsA s_4 49 (0 : Int32).toNatClampNeg) + x2)] s_4 (fun v9 s_9 => ∃ x_9 : Int32, v9 = some (.int x_9) ∧ ((x_9 = (-1) → Post (some (.int (-2))) s_9) ∧ (¬ (x_9 = (-1)) → vp_in 2 108 ∧ tE c d 185 [.int x1, .int (gsA s_9 49 (2 : Int32).toNatClampNeg)] s_9 (fun v13 s_13 => ∃ x_13 : Int32, v13 = some (.int x_13) ∧ ((x_13 = 0 → Post (some (.int (-3))) s_13) ∧ (¬ (x_13 = 0) → ∀ s_15 : gs, s_15 = gs_V s_13 48 12 0 → tE c d 157 [.ref 48, .long ((x_9 : Int32).toInt64)] s_15 (fun v16 s_16 => v16 = none ∧ vp_in 0 108 ∧ tE c d 182 [.ref 48, .ref 49, .int x_9, .int x1, .int ((gsA s_16 49 (0 : Int32).toNatClampNeg) + x2)] s_16 (fun v20 s_20 => ∃ x_20 : Int32, v20 = some (.int x_20) ∧ Post (some (.int (501 + x_20))) s_20))))))))))))))
theorem okm216 (c : gx) (d : Nat) (Post : Option Value → gs → Prop) (x1 : Int32) (x2 : Int32) (s : gs) (w : wm216 c d Post x1 x2 s) : tE c (d + 1) 216 [.ref 48, .int x1, .int x2] s Post := by
  intro h hR
  have hk : ∀ pc i, gm_find gk_216 pc = some i → gm_code (gt_T c.1 c.2.1 c.2.2.1) 216 pc = some i := fun _ _ z => z
  unfold wm216 at w
  refine ge_of (by decide) (Nat.le_of_ble_eq_true rfl) ?_
  show gw (gt_T c.1 c.2.1 c.2.2.1) c.2.2.2 d 216 (0, [some (.ref 48), some (.int x1), some (.int x2), none], [], h) _
  refine gw_pst hk 2 (st' := (2, [some (.ref 48), some (.int x1), some (.int x2), none], [.int 0, .ref 48], h)) rfl ?_
  obtain ⟨fs1, e1⟩ := RL_o hR (r := 48) (ci := 10) rfl
  obtain ⟨l1, hR1⟩ := RL_pI (k := 13) (x := 0) hR rfl e1
  refine gw_pf (hk _ _ rfl) e1 l1 rfl ?_
  generalize gm_put h _ _ = h at hR1 ⊢
  obtain ⟨s_1, es1⟩ : ∃ z, z = gs_V s 48 13 0 := ⟨_, rfl⟩
  rw [← es1] at hR1
  replace w := w s_1 es1
  replace hR := hR1
  refine gw_pst hk 2 (st' := (7, [some (.ref 48), some (.int x1), some (.int x2), none], [.int x1, .ref 48], h)) rfl ?_
  obtain ⟨fs2, e2⟩ := RL_o hR (r := 48) (ci := 10) rfl
  refine gw_call (jj := 158) (As := [.ref 48, .int x1]) (rest := []) (hk _ _ rfl) (fun _ => rfl) rfl rfl (Nat.le_of_ble_eq_true rfl) (gm_rcv_v rfl e2 rfl) ?_
  refine ge_imp (w h hR) (fun v2 h w => ?_)
  obtain ⟨s_2, hR, x_2, rfl, w⟩ := w
  show gw (gt_T c.1 c.2.1 c.2.2.1) c.2.2.2 d 216 (10, [some (.ref 48), some (.int x1), some (.int x2), none], [.int x_2], h) _
  refine gw_br (c := x_2 = 0) (a := (23, [some (.ref 48), some (.int x1), some (.int x2), none], [], h)) (b := (13, [some (.ref 48), some (.int x1), some (.int x2), none], [], h)) (hk _ _ rfl) rfl ⟨fun z3 => ?_, fun z3 => ?_⟩
  · replace w := w.1 z3
    refine gw_le (L' := [none, none, none, none]) (gm_le_n _ (gm_le_n _ (gm_le_n _ (gm_le_k _ gm_le_nil)))) ?_
    exact ok216_23 c d Post _ w _ hR
  · replace w := w.2 z3
    refine gw_pst hk 3 (st' := (17, [some (.ref 48), some (.int x1), some (.int x2), none], [.int 30, .int 0, .int x2], h)) rfl ?_
    refine gw_call (jj := 154) (As := [.int x2, .int 0, .int 30]) (rest := []) (hk _ _ rfl) (fun _ => rfl) rfl rfl (Nat.le_of_ble_eq_true rfl) rfl ?_
    refine ge_imp (w h hR) (fun v4 h w => ?_)
    obtain ⟨s_4, hR, x_4, rfl, w⟩ := w
    show gw (gt_T c.1 c.2.1 c.2.2.1) c.2.2.2 d 216 (20, [some (.ref 48), some (.int x1), some (.int x2), none], [.int x_4], h) _
    refine gw_br (c := x_4 = 0) (a := (23, [some (.ref 48), some (.int x1), some (.int x2), none], [], h)) (b := (25, [some (.ref 48), some (.int x1), some (.int x2), none], [], h)) (hk _ _ rfl) rfl ⟨fun z5 => ?_, fun z5 => ?_⟩
    · replace w := w.1 z5
      refine gw_le (L' := [none, none, none, none]) (gm_le_n _ (gm_le_n _ (gm_le_n _ (gm_le_k _ gm_le_nil)))) ?_
      exact ok216_23 c d Post _ w _ hR
    · replace w := w.2 z5
      refine gw_pst hk 1 (st' := (26, [some (.ref 48), some (.int x1), some (.int x2), none], [.ref 48], h)) rfl ?_
      refine gw_gf (hk _ _ rfl) (RL_fR (n := 49) hR rfl) ?_
      refine gw_pst hk 1 (st' := (30, [some (.ref 48), some (.int x1), some (.int x2), none], [.ref 48, .ref 49], h)) rfl ?_
      refine gw_gf (hk _ _ rfl) (RL_fR (n := 49) hR rfl) ?_
      refine gw_pst hk 1 (st' := (34, [some (.ref 48), some (.int x1), some (.int x2), none], [.int 0, .ref 49, .ref 49], h)) rfl ?_
      obtain ⟨b8, w⟩ := w
      refine gw_ald (hk _ _ rfl) (Or.inl ⟨rfl, rfl⟩) (RL_a (t := 0) (n := 108) hR rfl (by decide)) b8 ?_
      refine gw_pst hk 2 (st' := (37, [some (.ref 48), some (.int x1), some (.int x2), none], [.int ((gsA s_4 49 (0 : Int32).toNatClampNeg) + x2), .ref 49], h)) rfl ?_
      refine gw_call (jj := 184) (As := [.ref 49, .int ((gsA s_4 49 (0 : Int32).toNatClampNeg) + x2)]) (rest := []) (hk _ _ rfl) (fun _ => rfl) rfl rfl (Nat.le_of_ble_eq_true rfl) rfl ?_
      refine ge_imp (w h hR) (fun v9 h w => ?_)
      obtain ⟨s_9, hR, x_9, rfl, w⟩ := w
      show gw (gt_T c.1 c.2.1 c.2.2.1) c.2.2.2 d 216 (40, [some (.ref 48), some (.int x1), some (.int x2), none], [.int x_9], h) _
      refine gw_pst hk 3 (st' := (43, [some (.ref 48), some (.int x1), some (.int x2), some (.int x_9)], [.int (-1), .int x_9], h)) rfl ?_
      refine gw_br (c := x_9 = (-1)) (a := (46, [some (.ref 48), some (.int x1), some (.int x2), some (.int x_9)], [], h)) (b := (49, [some (.ref 48), some (.int x1), some (.int x2), some (.int x_9)], [], h)) (hk _ _ rfl) rfl ⟨fun z10 => ?_, fun z10 => ?_⟩
      · replace w := w.1 z10
        refine gw_pst hk 1 (st' := (48, [some (.ref 48), some (.int x1), some (.int x2), some (.int x_9)], [.int (-2)], h)) rfl ?_
        exact gw_ret (hk _ _ rfl) rfl ⟨_, hR, w⟩
      · replace w := w.2 z10
        refine gw_pst hk 2 (st' := (51, [some (.ref 48), some (.int x1), some (.int x2), some (.int x_9)], [.ref 48, .int x1], h)) rfl ?_
        refine gw_gf (hk _ _ rfl) (RL_fR (n := 49) hR rfl) ?_
        refine gw_pst hk 1 (st' := (55, [some (.ref 48), some (.int x1), some (.int x2), some (.int x_9)], [.int 2, .ref 49, .int x1], h)) rfl ?_
        obtain ⟨b12, w⟩ := w
        refine gw_ald (hk _ _ rfl) (Or.inl ⟨rfl, rfl⟩) (RL_a (t := 0) (n := 108) hR rfl (by decide)) b12 ?_
        refine gw_call (jj := 185) (As := [.int x1, .int (gsA s_9 49 (2 : Int32).toNatClampNeg)]) (rest := []) (hk _ _ rfl) (fun _ => rfl) rfl rfl (Nat.le_of_ble_eq_true rfl) rfl ?_
        refine ge_imp (w h hR) (fun v13 h w => ?_)
        obtain ⟨s_13, hR, x_13, rfl, w⟩ := w
        show gw (gt_T c.1 c.2.1 c.2.2.1) c.2.2.2 d 216 (59, [some (.ref 48), some (.int x1), some (.int x2), some (.int x_9)], [.int x_13], h) _
        refine gw_br (c := x_13 = 0) (a := (62, [some (.ref 48), some (.int x1), some (.int x2), some (.int x_9)], [], h)) (b := (65, [some (.ref 48), some (.int x1), some (.int x2), some (.int x_9)], [], h)) (hk _ _ rfl) rfl ⟨fun z14 => ?_, fun z14 => ?_⟩
        · replace w := w.1 z14
          refine gw_pst hk 1 (st' := (64, [some (.ref 48), some (.int x1), some (.int x2), some (.int x_9)], [.int (-3)], h)) rfl ?_
          exact gw_ret (hk _ _ rfl) rfl ⟨_, hR, w⟩
        · replace w := w.2 z14
          refine gw_pst hk 2 (st' := (67, [some (.ref 48), some (.int x1), some (.int x2), some (.int x_9)], [.int 0, .ref 48], h)) rfl ?_
          obtain ⟨fs15, e15⟩ := RL_o hR (r := 48) (ci := 10) rfl
          obtain ⟨l15, hR15⟩ := RL_pI (k := 12) (x := 0) hR rfl e15
          refine gw_pf (hk _ _ rfl) e15 l15 rfl ?_
          generalize gm_put h _ _ = h at hR15 ⊢
          obtain ⟨s_15, es15⟩ : ∃ z, z = gs_V s_13 48 12 0 := ⟨_, rfl⟩
          rw [← es15] at hR15
          replace w := w s_15 es15
          replace hR := hR15
          refine gw_pst hk 3 (st' := (73, [some (.ref 48), some (.int x1), some (.int x2), some (.int x_9)], [.long ((x_9 : Int32).toInt64), .ref 48], h)) rfl ?_
          obtain ⟨fs16, e16⟩ := RL_o hR (r := 48) (ci := 10) rfl
          refine gw_call (jj := 157) (As := [.ref 48, .long ((x_9 : Int32).toInt64)]) (rest := []) (hk _ _ rfl) (fun _ => rfl) rfl rfl (Nat.le_of_ble_eq_true rfl) (gm_rcv_v rfl e16 rfl) ?_
          refine ge_imp (w h hR) (fun v16 h w => ?_)
          obtain ⟨s_16, hR, rfl, w⟩ := w
          show gw (gt_T c.1 c.2.1 c.2.2.1) c.2.2.2 d 216 (76, [some (.ref 48), some (.int x1), some (.int x2), some (.int x_9)], [], h) _
          refine gw_pst hk 3 (st' := (81, [some (.ref 48), some (.int x1), some (.int x2), some (.int x_9)], [.ref 48, .ref 48, .int 501], h)) rfl ?_
          refine gw_gf (hk _ _ rfl) (RL_fR (n := 49) hR rfl) ?_
          refine gw_pst hk 3 (st' := (87, [some (.ref 48), some (.int x1), some (.int x2), some (.int x_9)], [.ref 48, .int x1, .int x_9, .ref 49, .ref 48, .int 501], h)) rfl ?_
          refine gw_gf (hk _ _ rfl) (RL_fR (n := 49) hR rfl) ?_
          refine gw_pst hk 1 (st' := (91, [some (.ref 48), some (.int x1), some (.int x2), some (.int x_9)], [.int 0, .ref 49, .int x1, .int x_9, .ref 49, .ref 48, .int 501], h)) rfl ?_
          obtain ⟨b19, w⟩ := w
          refine gw_ald (hk _ _ rfl) (Or.inl ⟨rfl, rfl⟩) (RL_a (t := 0) (n := 108) hR rfl (by decide)) b19 ?_
          refine gw_pst hk 2 (st' := (94, [some (.ref 48), some (.int x1), some (.int x2), some (.int x_9)], [.int ((gsA s_16 49 (0 : Int32).toNatClampNeg) + x2), .int x1, .int x_9, .ref 49, .ref 48, .int 501], h)) rfl ?_
          obtain ⟨fs20, e20⟩ := RL_o hR (r := 48) (ci := 10) rfl
          refine gw_call (jj := 182) (As := [.ref 48, .ref 49, .int x_9, .int x1, .int ((gsA s_16 49 (0 : Int32).toNatClampNeg) + x2)]) (rest := [.int 501]) (hk _ _ rfl) (fun _ => rfl) rfl rfl (Nat.le_of_ble_eq_true rfl) (gm_rcv_v rfl e20 rfl) ?_
          refine ge_imp (w h hR) (fun v20 h w => ?_)
          obtain ⟨s_20, hR, x_20, rfl, w⟩ := w
          show gw (gt_T c.1 c.2.1 c.2.2.1) c.2.2.2 d 216 (97, [some (.ref 48), some (.int x1), some (.int x2), some (.int x_9)], [.int x_20, .int 501], h) _
          refine gw_pst hk 1 (st' := (98, [some (.ref 48), some (.int x1), some (.int x2), some (.int x_9)], [.int (501 + x_20)], h)) rfl ?_
          exact gw_ret (hk _ _ rfl) rfl ⟨_, hR, w⟩
/-- CommandByTurnsModel.reach(I)I -/
def wm217 (c : gx) (d : Nat) (Post : Option Value → gs → Prop) (x1 : Int32) (s : gs) : Prop :=
  ∀ s_1 : gs, s_1 = gs_V s 48 13 0 → tE c d 159 [.int x1] s_1 (fun v2 s_2 => ∃ x_2 : Int32, v2 = some (.int x_2) ∧ ((x_2 = 0 → Post (some (.int (-1))) s_2) ∧ (¬ (x_2 = 0) → vp_in 1 108 ∧ vp_in 2 108 ∧ tE c d 189 [.ref 48, .int x1, .int (gsA s_2 49 (1 : Int32).toNatClampNeg), .int (gsA s_2 49 (2 : Int32).toNatClampNeg)] s_2 (fun v8 s_8 => ∃ x_8 : Int32, v8 = some (.int x_8) ∧ ∀ s_9 : gs, s_9 = gs_V s_8 48 12 0 → tE c d 266 [.int x_8] s_9 (fun v10 s_10 => ∃ x_10 : Int32, v10 = some (.int x_10) ∧ tE c d 157 [.ref 48, .long ((x_10 : Int32).toInt64)] s_10 (fun v11 s_11 => v11 = none ∧ Post (some (.int x_8)) s_11))))))
theorem okm217 (c : gx) (d : Nat) (Post : Option Value → gs → Prop) (x1 : Int32) (s : gs) (w : wm217 c d Post x1 s) : tE c (d + 1) 217 [.ref 48, .int x1] s Post := by
  intro h hR
  have hk : ∀ pc i, gm_find gk_217 pc = some i → gm_code (gt_T c.1 c.2.1 c.2.2.1) 217 pc = some i := fun _ _ z => z
  unfold wm217 at w
  refine ge_of (by decide) (Nat.le_of_ble_eq_true rfl) ?_
  show gw (gt_T c.1 c.2.1 c.2.2.1) c.2.2.2 d 217 (0, [some (.ref 48), some (.int x1), none], [], h) _
  refine gw_pst hk 2 (st' := (2, [some (.ref 48), some (.int x1), none], [.int 0, .ref 48], h)) rfl ?_
  obtain ⟨fs1, e1⟩ := RL_o hR (r := 48) (ci := 10) rfl
  obtain ⟨l1, hR1⟩ := RL_pI (k := 13) (x := 0) hR rfl e1
  refine gw_pf (hk _ _ rfl) e1 l1 rfl ?_
  generalize gm_put h _ _ = h at hR1 ⊢
  obtain ⟨s_1, es1⟩ : ∃ z, z = gs_V s 48 13 0 := ⟨_, rfl⟩
  rw [← es1] at hR1
  replace w := w s_1 es1
  replace hR := hR1
  refine gw_pst hk 1 (st' := (6, [some (.ref 48), some (.int x1), none], [.int x1], h)) rfl ?_
  refine gw_call (jj := 159) (As := [.int x1]) (rest := []) (hk _ _ rfl) (fun _ => rfl) rfl rfl (Nat.le_of_ble_eq_true rfl) rfl ?_
  refine ge_imp (w h hR) (fun v2 h w => ?_)
  obtain ⟨s_2, hR, x_2, rfl, w⟩ := w
  show gw (gt_T c.1 c.2.1 c.2.2.1) c.2.2.2 d 217 (9, [some (.ref 48), some (.int x1), none], [.int x_2], h) _
  refine gw_br (c := x_2 = 0) (a := (12, [some (.ref 48), some (.int x1), none], [], h)) (b := (14, [some (.ref 48), some (.int x1), none], [], h)) (hk _ _ rfl) rfl ⟨fun z3 => ?_, fun z3 => ?_⟩
  · replace w := w.1 z3
    refine gw_pst hk 1 (st' := (13, [some (.ref 48), some (.int x1), none], [.int (-1)], h)) rfl ?_
    exact gw_ret (hk _ _ rfl) rfl ⟨_, hR, w⟩
  · replace w := w.2 z3
    refine gw_pst hk 3 (st' := (17, [some (.ref 48), some (.int x1), none], [.ref 48, .int x1, .ref 48], h)) rfl ?_
    refine gw_gf (hk _ _ rfl) (RL_fR (n := 49) hR rfl) ?_
    refine gw_pst hk 1 (st' := (21, [some (.ref 48), some (.int x1), none], [.int 1, .ref 49, .int x1, .ref 48], h)) rfl ?_
    obtain ⟨b5, w⟩ := w
    refine gw_ald (hk _ _ rfl) (Or.inl ⟨rfl, rfl⟩) (RL_a (t := 0) (n := 108) hR rfl (by decide)) b5 ?_
    refine gw_pst hk 1 (st' := (23, [some (.ref 48), some (.int x1), none], [.ref 48, .int (gsA s_2 49 (1 : Int32).toNatClampNeg), .int x1, .ref 48], h)) rfl ?_
    refine gw_gf (hk _ _ rfl) (RL_fR (n := 49) hR rfl) ?_
    refine gw_pst hk 1 (st' := (27, [some (.ref 48), some (.int x1), none], [.int 2, .ref 49, .int (gsA s_2 49 (1 : Int32).toNatClampNeg), .int x1, .ref 48], h)) rfl ?_
    obtain ⟨b7, w⟩ := w
    refine gw_ald (hk _ _ rfl) (Or.inl ⟨rfl, rfl⟩) (RL_a (t := 0) (n := 108) hR rfl (by decide)) b7 ?_
    obtain ⟨fs8, e8⟩ := RL_o hR (r := 48) (ci := 10) rfl
    refine gw_call (jj := 189) (As := [.ref 48, .int x1, .int (gsA s_2 49 (1 : Int32).toNatClampNeg), .int (gsA s_2 49 (2 : Int32).toNatClampNeg)]) (rest := []) (hk _ _ rfl) (fun _ => rfl) rfl rfl (Nat.le_of_ble_eq_true rfl) (gm_rcv_v rfl e8 rfl) ?_
    refine ge_imp (w h hR) (fun v8 h w => ?_)
    obtain ⟨s_8, hR, x_8, rfl, w⟩ := w
    show gw (gt_T c.1 c.2.1 c.2.2.1) c.2.2.2 d 217 (31, [some (.ref 48), some (.int x1), none], [.int x_8], h) _
    refine gw_pst hk 3 (st' := (34, [some (.ref 48), some (.int x1), some (.int x_8)], [.int 0, .ref 48], h)) rfl ?_
    obtain ⟨fs9, e9⟩ := RL_o hR (r := 48) (ci := 10) rfl
    obtain ⟨l9, hR9⟩ := RL_pI (k := 12) (x := 0) hR rfl e9
    refine gw_pf (hk _ _ rfl) e9 l9 rfl ?_
    generalize gm_put h _ _ = h at hR9 ⊢
    obtain ⟨s_9, es9⟩ : ∃ z, z = gs_V s_8 48 12 0 := ⟨_, rfl⟩
    rw [← es9] at hR9
    replace w := w s_9 es9
    replace hR := hR9
    refine gw_pst hk 2 (st' := (39, [some (.ref 48), some (.int x1), some (.int x_8)], [.int x_8, .ref 48], h)) rfl ?_
    refine gw_call (jj := 266) (As := [.int x_8]) (rest := [.ref 48]) (hk _ _ rfl) (fun _ => rfl) rfl rfl (Nat.le_of_ble_eq_true rfl) rfl ?_
    refine ge_imp (w h hR) (fun v10 h w => ?_)
    obtain ⟨s_10, hR, x_10, rfl, w⟩ := w
    show gw (gt_T c.1 c.2.1 c.2.2.1) c.2.2.2 d 217 (42, [some (.ref 48), some (.int x1), some (.int x_8)], [.int x_10, .ref 48], h) _
    refine gw_pst hk 1 (st' := (43, [some (.ref 48), some (.int x1), some (.int x_8)], [.long ((x_10 : Int32).toInt64), .ref 48], h)) rfl ?_
    obtain ⟨fs11, e11⟩ := RL_o hR (r := 48) (ci := 10) rfl
    refine gw_call (jj := 157) (As := [.ref 48, .long ((x_10 : Int32).toInt64)]) (rest := []) (hk _ _ rfl) (fun _ => rfl) rfl rfl (Nat.le_of_ble_eq_true rfl) (gm_rcv_v rfl e11 rfl) ?_
    refine ge_imp (w h hR) (fun v11 h w => ?_)
    obtain ⟨s_11, hR, rfl, w⟩ := w
    show gw (gt_T c.1 c.2.1 c.2.2.1) c.2.2.2 d 217 (46, [some (.ref 48), some (.int x1), some (.int x_8)], [], h) _
    refine gw_pst hk 1 (st' := (47, [some (.ref 48), some (.int x1), some (.int x_8)], [.int x_8], h)) rfl ?_
    exact gw_ret (hk _ _ rfl) rfl ⟨_, hR, w⟩
def w218_193 (c : gx) (d : Nat) (Post : Option Value → gs → Prop) (K70 : Int32 → Int32 → Int32 → Int32 → Int32 → gs → Prop) (K90 : Int32 → Int32 → Int32 → Int32 → Int32 → Int32 → gs → Prop) (x2 : Int32) (x3 : Int32) (x4 : Int32) (x5 : Int32) (x6 : Int32) (x7 : Int32) (s : gs) : Prop :=
  K90 x2 x3 x4 x5 x6 (x7 + (if 1 < (2 * x6) then (2 * x6) else 1)) s
theorem ok218_193 (c : gx) (d : Nat) (Post : Option Value → gs → Prop) (K70 : Int32 → Int32 → Int32 → Int32 → Int32 → gs → Prop) (K90 : Int32 → Int32 → Int32 → Int32 → Int32 → Int32 → gs → Prop)  (hK70 : ∀ (x2 : Int32) (x3 : Int32) (x4 : Int32) (x5 : Int32) (x6 : Int32) (s : gs), K70 x2 x3 x4 x5 x6 s → tV c d 218 70 [some (.ref 48), none, some (.int x2), some (.int x3), some (.int x4), some (.int x5), some (.int x6), none, none] [] s Post) (hK90 : ∀ (x2 : Int32) (x3 : Int32) (x4 : Int32) (x5 : Int32) (x6 : Int32) (x7 : Int32) (s : gs), K90 x2 x3 x4 x5 x6 x7 s → tV c d 218 90 [some (.ref 48), none, some (.int x2), some (.int x3), some (.int x4), some (.int x5), some (.int x6), some (.int x7), none] [] s Post) (x2 : Int32) (x3 : Int32) (x4 : Int32) (x5 : Int32) (x6 : Int32) (x7 : Int32) (s : gs) (w : w218_193 c d Post K70 K90 x2 x3 x4 x5 x6 x7 s) : tV c d 218 193 [some (.ref 48), none, some (.int x2), some (.int x3), some (.int x4), some (.int x5), some (.int x6), some (.int x7), none] [] s Post := by
  intro h hR
  have hk : ∀ pc i, gm_find gk_218 pc = some i → gm_code (gt_T c.1 c.2.1 c.2.2.1) 218 pc = some i := fun _ _ z => z
  unfold w218_193 at w
  unfold gV
  refine gw_pst hk 9 (st' := (90, [some (.ref 48), none, some (.int x2), some (.int x3), some (.int x4), some (.int x5), some (.int x6), some (.int (x7 + (if 1 < (2 * x6) then (2 * x6) else 1))), none], [], h)) rfl ?_
  exact hK90 _ _ _ _ _ _ _ w _ hR
def w218_185 (c : gx) (d : Nat) (Post : Option Value → gs → Prop) (K70 : Int32 → Int32 → Int32 → Int32 → Int32 → gs → Prop) (K90 : Int32 → Int32 → Int32 → Int32 → Int32 → Int32 → gs → Prop) (x2 : Int32) (x3 : Int32) (x6 : Int32) (x7 : Int32) (x8 : Int32) (s : gs) : Prop :=
  w218_193 c d Post K70 K90 x2 x3 x7 x8 x6 x7 s
theorem ok218_185 (c : gx) (d : Nat) (Post : Option Value → gs → Prop) (K70 : Int32 → Int32 → Int32 → Int32 → Int32 → gs → Prop) (K90 : Int32 → Int32 → Int32 → Int32 → Int32 → Int32 → gs → Prop)  (hK70 : ∀ (x2 : Int32) (x3 : Int32) (x4 : Int32) (x5 : Int32) (x6 : Int32) (s : gs), K70 x2 x3 x4 x5 x6 s → tV c d 218 70 [some (.ref 48), none, some (.int x2), some (.int x3), some (.int x4), some (.int x5), some (.int x6), none, none] [] s Post) (hK90 : ∀ (x2 : Int32) (x3 : Int32) (x4 : Int32) (x5 : Int32) (x6 : Int32) (x7 : Int32) (s : gs), K90 x2 x3 x4 x5 x6 x7 s → tV c d 218 90 [some (.ref 48), none, some (.int x2), some (.int x3), some (.int x4), some (.int x5), some (.int x6), some (.int x7), none] [] s Post) (x2 : Int32) (x3 : Int32) (x6 : Int32) (x7 : Int32) (x8 : Int32) (s : gs) (w : w218_185 c d Post K70 K90 x2 x3 x6 x7 x8 s) : tV c d 218 185 [some (.ref 48), none, some (.int x2), some (.int x3), none, none, some (.int x6), some (.int x7), some (.int x8)] [] s Post := by
  intro h hR
  have hk : ∀ pc i, gm_find gk_218 pc = some i → gm_code (gt_T c.1 c.2.1 c.2.2.1) 218 pc = some i := fun _ _ z => z
  unfold w218_185 at w
  unfold gV
  refine gw_pst hk 4 (st' := (193, [some (.ref 48), none, some (.int x2), some (.int x3), some (.int x7), some (.int x8), some (.int x6), some (.int x7), some (.int x8)], [], h)) rfl ?_
  refine gw_le (L' := [some (.ref 48), none, some (.int x2), some (.int x3), some (.int x7), some (.int x8), some (.int x6), some (.int x7), none]) (gm_le_k _ (gm_le_k _ (gm_le_k _ (gm_le_k _ (gm_le_k _ (gm_le_k _ (gm_le_k _ (gm_le_k _ (gm_le_n _ gm_le_nil))))))))) ?_
  exact ok218_193 c d Post K70 K90 hK70 hK90 _ _ _ _ _ _ _ w _ hR
def w218_167 (c : gx) (d : Nat) (Post : Option Value → gs → Prop) (K70 : Int32 → Int32 → Int32 → Int32 → Int32 → gs → Prop) (K90 : Int32 → Int32 → Int32 → Int32 → Int32 → Int32 → gs → Prop) (x2 : Int32) (x3 : Int32) (x4 : Int32) (x5 : Int32) (x6 : Int32) (x7 : Int32) (xs0 : Int32) (s : gs) : Prop :=
  ((x4 = (-1) → w218_185 c d Post K70 K90 x2 x3 x6 x7 xs0 s) ∧ (¬ (x4 = (-1)) → ((x5 < xs0 → w218_185 c d Post K70 K90 x2 x3 x6 x7 xs0 s) ∧ (¬ (x5 < xs0) → w218_193 c d Post K70 K90 x2 x3 x4 x5 x6 x7 s))))
theorem ok218_167 (c : gx) (d : Nat) (Post : Option Value → gs → Prop) (K70 : Int32 → Int32 → Int32 → Int32 → Int32 → gs → Prop) (K90 : Int32 → Int32 → Int32 → Int32 → Int32 → Int32 → gs → Prop)  (hK70 : ∀ (x2 : Int32) (x3 : Int32) (x4 : Int32) (x5 : Int32) (x6 : Int32) (s : gs), K70 x2 x3 x4 x5 x6 s → tV c d 218 70 [some (.ref 48), none, some (.int x2), some (.int x3), some (.int x4), some (.int x5), some (.int x6), none, none] [] s Post) (hK90 : ∀ (x2 : Int32) (x3 : Int32) (x4 : Int32) (x5 : Int32) (x6 : Int32) (x7 : Int32) (s : gs), K90 x2 x3 x4 x5 x6 x7 s → tV c d 218 90 [some (.ref 48), none, some (.int x2), some (.int x3), some (.int x4), some (.int x5), some (.int x6), some (.int x7), none] [] s Post) (x2 : Int32) (x3 : Int32) (x4 : Int32) (x5 : Int32) (x6 : Int32) (x7 : Int32) (xs0 : Int32) (s : gs) (w : w218_167 c d Post K70 K90 x2 x3 x4 x5 x6 x7 xs0 s) : tV c d 218 167 [some (.ref 48), none, some (.int x2), some (.int x3), some (.int x4), some (.int x5), some (.int x6), some (.int x7), none] [.int xs0] s Post := by
  intro h hR
  have hk : ∀ pc i, gm_find gk_218 pc = some i → gm_code (gt_T c.1 c.2.1 c.2.2.1) 218 pc = some i := fun _ _ z => z
  unfold w218_167 at w
  unfold gV
  refine gw_pst hk 3 (st' := (172, [some (.ref 48), none, some (.int x2), some (.int x3), some (.int x4), some (.int x5), some (.int x6), some (.int x7), some (.int xs0)], [.int (-1), .int x4], h)) rfl ?_
  refine gw_br (c := x4 = (-1)) (a := (185, [some (.ref 48), none, some (.int x2), some (.int x3), some (.int x4), some (.int x5), some (.int x6), some (.int x7), some (.int xs0)], [], h)) (b := (175, [some (.ref 48), none, some (.int x2), some (.int x3), some (.int x4), some (.int x5), some (.int x6), some (.int x7), some (.int xs0)], [], h)) (hk _ _ rfl) rfl ⟨fun z1 => ?_, fun z1 => ?_⟩
  · replace w := w.1 z1
    refine gw_le (L' := [some (.ref 48), none, some (.int x2), some (.int x3), none, none, some (.int x6), some (.int x7), some (.int xs0)]) (gm_le_k _ (gm_le_k _ (gm_le_k _ (gm_le_k _ (gm_le_n _ (gm_le_n _ (gm_le_k _ (gm_le_k _ (gm_le_k _ gm_le_nil))))))))) ?_
    exact ok218_185 c d Post K70 K90 hK70 hK90 _ _ _ _ _ _ w _ hR
  · replace w := w.2 z1
    refine gw_pst hk 2 (st' := (179, [some (.ref 48), none, some (.int x2), some (.int x3), some (.int x4), some (.int x5), some (.int x6), some (.int x7), some (.int xs0)], [.int x5, .int xs0], h)) rfl ?_
    refine gw_br (c := x5 < xs0) (a := (185, [some (.ref 48), none, some (.int x2), some (.int x3), some (.int x4), some (.int x5), some (.int x6), some (.int x7), some (.int xs0)], [], h)) (b := (182, [some (.ref 48), none, some (.int x2), some (.int x3), some (.int x4), some (.int x5), some (.int x6), some (.int x7), some (.int xs0)], [], h)) (hk _ _ rfl) rfl ⟨fun z2 => ?_, fun z2 => ?_⟩
    · replace w := w.1 z2
      refine gw_le (L' := [some (.ref 48), none, some (.int x2), some (.int x3), none, none, some (.int x6), some (.int x7), some (.int xs0)]) (gm_le_k _ (gm_le_k _ (gm_le_k _ (gm_le_k _ (gm_le_n _ (gm_le_n _ (gm_le_k _ (gm_le_k _ (gm_le_k _ gm_le_nil))))))))) ?_
      exact ok218_185 c d Post K70 K90 hK70 hK90 _ _ _ _ _ _ w _ hR
    · replace w := w.2 z2
      refine gw_pst hk 1 (st' := (193, [some (.ref 48), none, some (.int x2), some (.int x3), some (.int x4), some (.int x5), some (.int x6), some (.int x7), some (.int xs0)], [], h)) rfl ?_
      refine gw_le (L' := [some (.ref 48), none, some (.int x2), some (.int x3), some (.int x4), some (.int x5), some (.int x6), some (.int x7), none]) (gm_le_k _ (gm_le_k _ (gm_le_k _ (gm_le_k _ (gm_le_k _ (gm_le_k _ (gm_le_k _ (gm_le_k _ (gm_le_n _ gm_le_nil))))))))) ?_
      exact ok218_193 c d Post K70 K90 hK70 hK90 _ _ _ _ _ _ _ w _ hR
def w218_144 (c : gx) (d : Nat) (Post : Option Value → gs → Prop) (K70 : Int32 → Int32 → Int32 → Int32 → Int32 → gs → Prop) (K90 : Int32 → Int32 → Int32 → Int32 → Int32 → Int32 → gs → Prop) (x2 : Int32) (x3 : Int32) (x4 : Int32) (x5 : Int32) (x6 : Int32) (x7 : Int32) (s : gs) : Prop :=
  w218_167 c d Post K70 K90 x2 x3 x4 x5 x6 x7 0 s
theorem ok218_144 (c : gx) (d : Nat) (Post : Option Value → gs → Prop) (K70 : Int32 → Int32 → Int32 → Int32 → Int32 → gs → Prop) (K90 : Int32 → Int32 → Int32 → Int32 → Int32 → Int32 → gs → Prop)  (hK70 : ∀ (x2 : Int32) (x3 : Int32) (x4 : Int32) (x5 : Int32) (x6 : Int32) (s : gs), K70 x2 x3 x4 x5 x6 s → tV c d 218 70 [some (.ref 48), none, some (.int x2), some (.int x3), some (.int x4), some (.int x5), some (.int x6), none, none] [] s Post) (hK90 : ∀ (x2 : Int32) (x3 : Int32) (x4 : Int32) (x5 : Int32) (x6 : Int32) (x7 : Int32) (s : gs), K90 x2 x3 x4 x5 x6 x7 s → tV c d 218 90 [some (.ref 48), none, some (.int x2), some (.int x3), some (.int x4), some (.int x5), some (.int x6), some (.int x7), none] [] s Post) (x2 : Int32) (x3 : Int32) (x4 : Int32) (x5 : Int32) (x6 : Int32) (x7 : Int32) (s : gs) (w : w218_144 c d Post K70 K90 x2 x3 x4 x5 x6 x7 s) : tV c d 218 144 [some (.ref 48), none, some (.int x2), some (.int x3), some (.int x4), some (.int x5), some (.int x6), some (.int x7), none] [] s Post := by
  intro h hR
  have hk : ∀ pc i, gm_find gk_218 pc = some i → gm_code (gt_T c.1 c.2.1 c.2.2.1) 218 pc = some i := fun _ _ z => z
  unfold w218_144 at w
  unfold gV
  refine gw_pst hk 2 (st' := (167, [some (.ref 48), none, some (.int x2), some (.int x3), some (.int x4), some (.int x5), some (.int x6), some (.int x7), none], [.int 0], h)) rfl ?_
  exact ok218_167 c d Post K70 K90 hK70 hK90 _ _ _ _ _ _ _ _ w _ hR
def wb218_90 (c : gx) (d : Nat) (Post : Option Value → gs → Prop) (K70 : Int32 → Int32 → Int32 → Int32 → Int32 → gs → Prop) (K90 : Int32 → Int32 → Int32 → Int32 → Int32 → Int32 → gs → Prop) (x2 : Int32) (x3 : Int32) (x4 : Int32) (x5 : Int32) (x6 : Int32) (x7 : Int32) (s : gs) : Prop :=
  vp_in 1 108 ∧ ((((gsA s 49 (1 : Int32).toNatClampNeg) + x6) < x7 → K70 x2 x3 x4 x5 (x6 + 1) s) ∧ (¬ (((gsA s 49 (1 : Int32).toNatClampNeg) + x6) < x7) → tE c d 158 [.ref 48, .int x7] s (fun v4 s_4 => ∃ x_4 : Int32, v4 = some (.int x_4) ∧ ((x_4 = 0 → w218_193 c d Post K70 K90 x2 x3 x4 x5 x6 x7 s_4) ∧ (¬ (x_4 = 0) → tE c d 155 [.int x3, .int x7] s_4 (fun v6 s_6 => ∃ x_6 : Int32, v6 = some (.int x_6) ∧ ((x_6 = 0 → w218_193 c d Post K70 K90 x2 x3 x4 x5 x6 x7 s_6) ∧ (¬ (x_6 = 0) → ((x2 = (-1) → w218_144 c d Post K70 K90 x2 x3 x4 x5 x6 x7 s_6) ∧ (¬ (x2 = (-1)) → vp_in 2 108 ∧ tE c d 185 [.int x7, .int (gsA s_6 49 (2 : Int32).toNatClampNeg)] s_6 (fun v11 s_11 => ∃ x_11 : Int32, v11 = some (.int x_11) ∧ ((x_11 = 0 → w218_144 c d Post K70 K90 x2 x3 x4 x5 x6 x7 s_11) ∧ (¬ (x_11 = 0) → vp_in 0 108 ∧ tE c d 182 [.ref 48, .ref 49, .int x2, .int x7, .int ((gsA s_11 49 (0 : Int32).toNatClampNeg) + 1)] s_11 (fun v16 s_16 => ∃ x_16 : Int32, v16 = some (.int x_16) ∧ w218_167 c d Post K70 K90 x2 x3 x4 x5 x6 x7 x_16 s_16))))))))))))))
theorem okb218_90 (c : gx) (d : Nat) (Post : Option Value → gs → Prop) (K70 : Int32 → Int32 → Int32 → Int32 → Int32 → gs → Prop) (K90 : Int32 → Int32 → Int32 → Int32 → Int32 → Int32 → gs → Prop)  (hK70 : ∀ (x2 : Int32) (x3 : Int32) (x4 : Int32) (x5 : Int32) (x6 : Int32) (s : gs), K70 x2 x3 x4 x5 x6 s → tV c d 218 70 [some (.ref 48), none, some (.int x2), some (.int x3), some (.int x4), some (.int x5), some (.int x6), none, none] [] s Post) (hK90 : ∀ (x2 : Int32) (x3 : Int32) (x4 : Int32) (x5 : Int32) (x6 : Int32) (x7 : Int32) (s : gs), K90 x2 x3 x4 x5 x6 x7 s → tV c d 218 90 [some (.ref 48), none, some (.int x2), some (.int x3), some (.int x4), some (.int x5), some (.int x6), some (.int x7), none] [] s Post) (x2 : Int32) (x3 : Int32) (x4 : Int32) (x5 : Int32) (x6 : Int32) (x7 : Int32) (s : gs) (w : wb218_90 c d Post K70 K90 x2 x3 x4 x5 x6 x7 s) : tV c d 218 90 [some (.ref 48), none, some (.int x2), some (.int x3), some (.int x4), some (.int x5), some (.int x6), some (.int x7), none] [] s Post := by
  intro h hR
  have hk : ∀ pc i, gm_find gk_218 pc = some i → gm_code (gt_T c.1 c.2.1 c.2.2.1) 218 pc = some i := fun _ _ z => z
  unfold wb218_90 at w
  unfold gV
  refine gw_pst hk 2 (st' := (93, [some (.ref 48), none, some (.int x2), some (.int x3), some (.int x4), some (.int x5), some (.int x6), some (.int x7), none], [.ref 48, .int x7], h)) rfl ?_
  refine gw_gf (hk _ _ rfl) (RL_fR (n := 49) hR rfl) ?_
  refine gw_pst hk 1 (st' := (97, [some (.ref 48), none, some (.int x2), some (.int x3), some (.int x4), some (.int x5), some (.int x6), some (.int x7), none], [.int 1, .ref 49, .int x7], h)) rfl ?_
  obtain ⟨b2, w⟩ := w
  refine gw_ald (hk _ _ rfl) (Or.inl ⟨rfl, rfl⟩) (RL_a (t := 0) (n := 108) hR rfl (by decide)) b2 ?_
  refine gw_pst hk 2 (st' := (101, [some (.ref 48), none, some (.int x2), some (.int x3), some (.int x4), some (.int x5), some (.int x6), some (.int x7), none], [.int ((gsA s 49 (1 : Int32).toNatClampNeg) + x6), .int x7], h)) rfl ?_
  refine gw_br (c := ((gsA s 49 (1 : Int32).toNatClampNeg) + x6) < x7) (a := (209, [some (.ref 48), none, some (.int x2), some (.int x3), some (.int x4), some (.int x5), some (.int x6), some (.int x7), none], [], h)) (b := (104, [some (.ref 48), none, some (.int x2), some (.int x3), some (.int x4), some (.int x5), some (.int x6), some (.int x7), none], [], h)) (hk _ _ rfl) rfl ⟨fun z3 => ?_, fun z3 => ?_⟩
  · replace w := w.1 z3
    refine gw_pst hk 2 (st' := (70, [some (.ref 48), none, some (.int x2), some (.int x3), some (.int x4), some (.int x5), some (.int (x6 + 1)), some (.int x7), none], [], h)) rfl ?_
    refine gw_le (L' := [some (.ref 48), none, some (.int x2), some (.int x3), some (.int x4), some (.int x5), some (.int (x6 + 1)), none, none]) (gm_le_k _ (gm_le_k _ (gm_le_k _ (gm_le_k _ (gm_le_k _ (gm_le_k _ (gm_le_k _ (gm_le_n _ (gm_le_k _ gm_le_nil))))))))) ?_
    exact hK70 _ _ _ _ _ _ w _ hR
  · replace w := w.2 z3
    refine gw_pst hk 2 (st' := (107, [some (.ref 48), none, some (.int x2), some (.int x3), some (.int x4), some (.int x5), some (.int x6), some (.int x7), none], [.int x7, .ref 48], h)) rfl ?_
    obtain ⟨fs4, e4⟩ := RL_o hR (r := 48) (ci := 10) rfl
    refine gw_call (jj := 158) (As := [.ref 48, .int x7]) (rest := []) (hk _ _ rfl) (fun _ => rfl) rfl rfl (Nat.le_of_ble_eq_true rfl) (gm_rcv_v rfl e4 rfl) ?_
    refine ge_imp (w h hR) (fun v4 h w => ?_)
    obtain ⟨s_4, hR, x_4, rfl, w⟩ := w
    show gw (gt_T c.1 c.2.1 c.2.2.1) c.2.2.2 d 218 (110, [some (.ref 48), none, some (.int x2), some (.int x3), some (.int x4), some (.int x5), some (.int x6), some (.int x7), none], [.int x_4], h) _
    refine gw_br (c := x_4 = 0) (a := (193, [some (.ref 48), none, some (.int x2), some (.int x3), some (.int x4), some (.int x5), some (.int x6), some (.int x7), none], [], h)) (b := (113, [some (.ref 48), none, some (.int x2), some (.int x3), some (.int x4), some (.int x5), some (.int x6), some (.int x7), none], [], h)) (hk _ _ rfl) rfl ⟨fun z5 => ?_, fun z5 => ?_⟩
    · replace w := w.1 z5
      exact ok218_193 c d Post K70 K90 hK70 hK90 _ _ _ _ _ _ _ w _ hR
    · replace w := w.2 z5
      refine gw_pst hk 2 (st' := (116, [some (.ref 48), none, some (.int x2), some (.int x3), some (.int x4), some (.int x5), some (.int x6), some (.int x7), none], [.int x7, .int x3], h)) rfl ?_
      refine gw_call (jj := 155) (As := [.int x3, .int x7]) (rest := []) (hk _ _ rfl) (fun _ => rfl) rfl rfl (Nat.le_of_ble_eq_true rfl) rfl ?_
      refine ge_imp (w h hR) (fun v6 h w => ?_)
      obtain ⟨s_6, hR, x_6, rfl, w⟩ := w
      show gw (gt_T c.1 c.2.1 c.2.2.1) c.2.2.2 d 218 (119, [some (.ref 48), none, some (.int x2), some (.int x3), some (.int x4), some (.int x5), some (.int x6), some (.int x7), none], [.int x_6], h) _
      refine gw_br (c := x_6 = 0) (a := (122, [some (.ref 48), none, some (.int x2), some (.int x3), some (.int x4), some (.int x5), some (.int x6), some (.int x7), none], [], h)) (b := (125, [some (.ref 48), none, some (.int x2), some (.int x3), some (.int x4), some (.int x5), some (.int x6), some (.int x7), none], [], h)) (hk _ _ rfl) rfl ⟨fun z7 => ?_, fun z7 => ?_⟩
      · replace w := w.1 z7
        refine gw_pst hk 1 (st' := (193, [some (.ref 48), none, some (.int x2), some (.int x3), some (.int x4), some (.int x5), some (.int x6), some (.int x7), none], [], h)) rfl ?_
        exact ok218_193 c d Post K70 K90 hK70 hK90 _ _ _ _ _ _ _ w _ hR
      · replace w := w.2 z7
        refine gw_pst hk 2 (st' := (127, [some (.ref 48), none, some (.int x2), some (.int x3), some (.int x4), some (.int x5), some (.int x6), some (.int x7), none], [.int (-1), .int x2], h)) rfl ?_
        refine gw_br (c := x2 = (-1)) (a := (144, [some (.ref 48), none, some (.int x2), some (.int x3), some (.int x4), some (.int x5), some (.int x6), some (.int x7), none], [], h)) (b := (130, [some (.ref 48), none, some (.int x2), some (.int x3), some (.int x4), some (.int x5), some (.int x6), some (.int x7), none], [], h)) (hk _ _ rfl) rfl ⟨fun z8 => ?_, fun z8 => ?_⟩
        · replace w := w.1 z8
          exact ok218_144 c d Post K70 K90 hK70 hK90 _ _ _ _ _ _ _ w _ hR
        · replace w := w.2 z8
          refine gw_pst hk 2 (st' := (133, [some (.ref 48), none, some (.int x2), some (.int x3), some (.int x4), some (.int x5), some (.int x6), some (.int x7), none], [.ref 48, .int x7], h)) rfl ?_
          refine gw_gf (hk _ _ rfl) (RL_fR (n := 49) hR rfl) ?_
          refine gw_pst hk 1 (st' := (137, [some (.ref 48), none, some (.int x2), some (.int x3), some (.int x4), some (.int x5), some (.int x6), some (.int x7), none], [.int 2, .ref 49, .int x7], h)) rfl ?_
          obtain ⟨b10, w⟩ := w
          refine gw_ald (hk _ _ rfl) (Or.inl ⟨rfl, rfl⟩) (RL_a (t := 0) (n := 108) hR rfl (by decide)) b10 ?_
          refine gw_call (jj := 185) (As := [.int x7, .int (gsA s_6 49 (2 : Int32).toNatClampNeg)]) (rest := []) (hk _ _ rfl) (fun _ => rfl) rfl rfl (Nat.le_of_ble_eq_true rfl) rfl ?_
          refine ge_imp (w h hR) (fun v11 h w => ?_)
          obtain ⟨s_11, hR, x_11, rfl, w⟩ := w
          show gw (gt_T c.1 c.2.1 c.2.2.1) c.2.2.2 d 218 (141, [some (.ref 48), none, some (.int x2), some (.int x3), some (.int x4), some (.int x5), some (.int x6), some (.int x7), none], [.int x_11], h) _
          refine gw_br (c := x_11 = 0) (a := (144, [some (.ref 48), none, some (.int x2), some (.int x3), some (.int x4), some (.int x5), some (.int x6), some (.int x7), none], [], h)) (b := (148, [some (.ref 48), none, some (.int x2), some (.int x3), some (.int x4), some (.int x5), some (.int x6), some (.int x7), none], [], h)) (hk _ _ rfl) rfl ⟨fun z12 => ?_, fun z12 => ?_⟩
          · replace w := w.1 z12
            exact ok218_144 c d Post K70 K90 hK70 hK90 _ _ _ _ _ _ _ w _ hR
          · replace w := w.2 z12
            refine gw_pst hk 2 (st' := (150, [some (.ref 48), none, some (.int x2), some (.int x3), some (.int x4), some (.int x5), some (.int x6), some (.int x7), none], [.ref 48, .ref 48], h)) rfl ?_
            refine gw_gf (hk _ _ rfl) (RL_fR (n := 49) hR rfl) ?_
            refine gw_pst hk 3 (st' := (157, [some (.ref 48), none, some (.int x2), some (.int x3), some (.int x4), some (.int x5), some (.int x6), some (.int x7), none], [.ref 48, .int x7, .int x2, .ref 49, .ref 48], h)) rfl ?_
            refine gw_gf (hk _ _ rfl) (RL_fR (n := 49) hR rfl) ?_
            refine gw_pst hk 1 (st' := (161, [some (.ref 48), none, some (.int x2), some (.int x3), some (.int x4), some (.int x5), some (.int x6), some (.int x7), none], [.int 0, .ref 49, .int x7, .int x2, .ref 49, .ref 48], h)) rfl ?_
            obtain ⟨b15, w⟩ := w
            refine gw_ald (hk _ _ rfl) (Or.inl ⟨rfl, rfl⟩) (RL_a (t := 0) (n := 108) hR rfl (by decide)) b15 ?_
            refine gw_pst hk 2 (st' := (164, [some (.ref 48), none, some (.int x2), some (.int x3), some (.int x4), some (.int x5), some (.int x6), some (.int x7), none], [.int ((gsA s_11 49 (0 : Int32).toNatClampNeg) + 1), .int x7, .int x2, .ref 49, .ref 48], h)) rfl ?_
            obtain ⟨fs16, e16⟩ := RL_o hR (r := 48) (ci := 10) rfl
            refine gw_call (jj := 182) (As := [.ref 48, .ref 49, .int x2, .int x7, .int ((gsA s_11 49 (0 : Int32).toNatClampNeg) + 1)]) (rest := []) (hk _ _ rfl) (fun _ => rfl) rfl rfl (Nat.le_of_ble_eq_true rfl) (gm_rcv_v rfl e16 rfl) ?_
            refine ge_imp (w h hR) (fun v16 h w => ?_)
            obtain ⟨s_16, hR, x_16, rfl, w⟩ := w
            show gw (gt_T c.1 c.2.1 c.2.2.1) c.2.2.2 d 218 (167, [some (.ref 48), none, some (.int x2), some (.int x3), some (.int x4), some (.int x5), some (.int x6), some (.int x7), none], [.int x_16], h) _
            exact ok218_167 c d Post K70 K90 hK70 hK90 _ _ _ _ _ _ _ _ w _ hR
def wl218_90 (c : gx) (d : Nat) (Post : Option Value → gs → Prop) (K70 : Int32 → Int32 → Int32 → Int32 → Int32 → gs → Prop) : Nat → Int32 → Int32 → Int32 → Int32 → Int32 → Int32 → gs → Prop
  | 0 => fun _ _ _ _ _ _ _ => False
  | n + 1 => wb218_90 c d Post K70 (wl218_90 c d Post K70 n)
theorem okl218_90 (c : gx) (d : Nat) (Post : Option Value → gs → Prop) (K70 : Int32 → Int32 → Int32 → Int32 → Int32 → gs → Prop) (hK70 : ∀ (x2 : Int32) (x3 : Int32) (x4 : Int32) (x5 : Int32) (x6 : Int32) (s : gs), K70 x2 x3 x4 x5 x6 s → tV c d 218 70 [some (.ref 48), none, some (.int x2), some (.int x3), some (.int x4), some (.int x5), some (.int x6), none, none] [] s Post) : ∀ (n : Nat) (x2 : Int32) (x3 : Int32) (x4 : Int32) (x5 : Int32) (x6 : Int32) (x7 : Int32) (s : gs), wl218_90 c d Post K70 n x2 x3 x4 x5 x6 x7 s → tV c d 218 90 [some (.ref 48), none, some (.int x2), some (.int x3), some (.int x4), some (.int x5), some (.int x6), some (.int x7), none] [] s Post
  | 0, _, _, _, _, _, _, _, w => w.elim
  | n + 1, x2, x3, x4, x5, x6, x7, s, w => okb218_90 c d Post K70 (wl218_90 c d Post K70 n) hK70 (okl218_90 c d Post K70 hK70 n) x2 x3 x4 x5 x6 x7 s w
def wb218_70 (c : gx) (d : Nat) (Post : Option Value → gs → Prop) (K70 : Int32 → Int32 → Int32 → Int32 → Int32 → gs → Prop) (x2 : Int32) (x3 : Int32) (x4 : Int32) (x5 : Int32) (x6 : Int32) (s : gs) : Prop :=
  (((gsV s 48 1) ≤ x6 → ∀ s_3 : gs, s_3 = gs_V s 48 12 0 → tE c d 157 [.ref 48, .long ((501 + x5 : Int32).toInt64)] s_3 (fun v4 s_4 => v4 = none ∧ Post (some (.int x4)) s_4)) ∧ (¬ ((gsV s 48 1) ≤ x6) → vp_in 1 108 ∧ ∃ n, wl218_90 c d Post K70 n x2 x3 x4 x5 x6 ((gsA s 49 (1 : Int32).toNatClampNeg) - x6) s))
theorem okb218_70 (c : gx) (d : Nat) (Post : Option Value → gs → Prop) (K70 : Int32 → Int32 → Int32 → Int32 → Int32 → gs → Prop)  (hK70 : ∀ (x2 : Int32) (x3 : Int32) (x4 : Int32) (x5 : Int32) (x6 : Int32) (s : gs), K70 x2 x3 x4 x5 x6 s → tV c d 218 70 [some (.ref 48), none, some (.int x2), some (.int x3), some (.int x4), some (.int x5), some (.int x6), none, none] [] s Post) (x2 : Int32) (x3 : Int32) (x4 : Int32) (x5 : Int32) (x6 : Int32) (s : gs) (w : wb218_70 c d Post K70 x2 x3 x4 x5 x6 s) : tV c d 218 70 [some (.ref 48), none, some (.int x2), some (.int x3), some (.int x4), some (.int x5), some (.int x6), none, none] [] s Post := by
  intro h hR
  have hk : ∀ pc i, gm_find gk_218 pc = some i → gm_code (gt_T c.1 c.2.1 c.2.2.1) 218 pc = some i := fun _ _ z => z
  unfold wb218_70 at w
  unfold gV
  refine gw_pst hk 2 (st' := (73, [some (.ref 48), none, some (.int x2), some (.int x3), some (.int x4), some (.int x5), some (.int x6), none, none], [.ref 48, .int x6], h)) rfl ?_
  refine gw_gf (hk _ _ rfl) (RL_fI hR rfl) ?_
  refine gw_br (c := (gsV s 48 1) ≤ x6) (a := (215, [some (.ref 48), none, some (.int x2), some (.int x3), some (.int x4), some (.int x5), some (.int x6), none, none], [], h)) (b := (79, [some (.ref 48), none, some (.int x2), some (.int x3), some (.int x4), some (.int x5), some (.int x6), none, none], [], h)) (hk _ _ rfl) rfl ⟨fun z2 => ?_, fun z2 => ?_⟩
  · replace w := w.1 z2
    refine gw_pst hk 2 (st' := (217, [some (.ref 48), none, some (.int x2), some (.int x3), some (.int x4), some (.int x5), some (.int x6), none, none], [.int 0, .ref 48], h)) rfl ?_
    obtain ⟨fs3, e3⟩ := RL_o hR (r := 48) (ci := 10) rfl
    obtain ⟨l3, hR3⟩ := RL_pI (k := 12) (x := 0) hR rfl e3
    refine gw_pf (hk _ _ rfl) e3 l3 rfl ?_
    generalize gm_put h _ _ = h at hR3 ⊢
    obtain ⟨s_3, es3⟩ : ∃ z, z = gs_V s 48 12 0 := ⟨_, rfl⟩
    rw [← es3] at hR3
    replace w := w s_3 es3
    replace hR := hR3
    refine gw_pst hk 5 (st' := (228, [some (.ref 48), none, some (.int x2), some (.int x3), some (.int x4), some (.int x5), some (.int x6), none, none], [.long ((501 + x5 : Int32).toInt64), .ref 48], h)) rfl ?_
    obtain ⟨fs4, e4⟩ := RL_o hR (r := 48) (ci := 10) rfl
    refine gw_call (jj := 157) (As := [.ref 48, .long ((501 + x5 : Int32).toInt64)]) (rest := []) (hk _ _ rfl) (fun _ => rfl) rfl rfl (Nat.le_of_ble_eq_true rfl) (gm_rcv_v rfl e4 rfl) ?_
    refine ge_imp (w h hR) (fun v4 h w => ?_)
    obtain ⟨s_4, hR, rfl, w⟩ := w
    show gw (gt_T c.1 c.2.1 c.2.2.1) c.2.2.2 d 218 (231, [some (.ref 48), none, some (.int x2), some (.int x3), some (.int x4), some (.int x5), some (.int x6), none, none], [], h) _
    refine gw_pst hk 1 (st' := (233, [some (.ref 48), none, some (.int x2), some (.int x3), some (.int x4), some (.int x5), some (.int x6), none, none], [.int x4], h)) rfl ?_
    exact gw_ret (hk _ _ rfl) rfl ⟨_, hR, w⟩
  · replace w := w.2 z2
    refine gw_pst hk 1 (st' := (80, [some (.ref 48), none, some (.int x2), some (.int x3), some (.int x4), some (.int x5), some (.int x6), none, none], [.ref 48], h)) rfl ?_
    refine gw_gf (hk _ _ rfl) (RL_fR (n := 49) hR rfl) ?_
    refine gw_pst hk 1 (st' := (84, [some (.ref 48), none, some (.int x2), some (.int x3), some (.int x4), some (.int x5), some (.int x6), none, none], [.int 1, .ref 49], h)) rfl ?_
    obtain ⟨b6, w⟩ := w
    refine gw_ald (hk _ _ rfl) (Or.inl ⟨rfl, rfl⟩) (RL_a (t := 0) (n := 108) hR rfl (by decide)) b6 ?_
    refine gw_pst hk 3 (st' := (90, [some (.ref 48), none, some (.int x2), some (.int x3), some (.int x4), some (.int x5), some (.int x6), some (.int ((gsA s 49 (1 : Int32).toNatClampNeg) - x6)), none], [], h)) rfl ?_
    obtain ⟨n, w⟩ := w
    exact okl218_90 c d Post K70 hK70 n _ _ _ _ _ _ _ w _ hR
def wl218_70 (c : gx) (d : Nat) (Post : Option Value → gs → Prop) : Nat → Int32 → Int32 → Int32 → Int32 → Int32 → gs → Prop
  | 0 => fun _ _ _ _ _ _ => False
  | n + 1 => wb218_70 c d Post (wl218_70 c d Post n)
theorem okl218_70 (c : gx) (d : Nat) (Post : Option Value → gs → Prop) : ∀ (n : Nat) (x2 : Int32) (x3 : Int32) (x4 : Int32) (x5 : Int32) (x6 : Int32) (s : gs), wl218_70 c d Post n x2 x3 x4 x5 x6 s → tV c d 218 70 [some (.ref 48), none, some (.int x2), some (.int x3), some (.int x4), some (.int x5), some (.int x6), none, none] [] s Post
  | 0, _, _, _, _, _, _, w => w.elim
  | n + 1, x2, x3, x4, x5, x6, s, w => okb218_70 c d Post (wl218_70 c d Post n) (okl218_70 c d Post n) x2 x3 x4 x5 x6 s w
/-- CommandByTurnsModel.evening()I -/
def wm218 (c : gx) (d : Nat) (Post : Option Value → gs → Prop)  (s : gs) : Prop :=
  ∀ s_1 : gs, s_1 = gs_V s 48 13 0 → vp_in 0 108 ∧ tE c d 184 [.ref 49, .int (gsA s_1 49 (0 : Int32).toNatClampNeg)] s_1 (fun v5 s_5 => ∃ x_5 : Int32, v5 = some (.int x_5) ∧ ((x_5 = (-1) → Post (some (.int (-2))) s_5) ∧ (¬ (x_5 = (-1)) → vp_in 0 108 ∧ tE c d 184 [.ref 49, .int ((gsA s_5 49 (0 : Int32).toNatClampNeg) + 1)] s_5 (fun v10 s_10 => ∃ x_10 : Int32, v10 = some (.int x_10) ∧ vp_in 1 108 ∧ vp_in 2 108 ∧ tE c d 189 [.ref 48, .int x_5, .int (gsA s_10 49 (1 : Int32).toNatClampNeg), .int (gsA s_10 49 (2 : Int32).toNatClampNeg)] s_10 (fun v15 s_15 => ∃ x_15 : Int32, v15 = some (.int x_15) ∧ ∃ n, wl218_70 c d Post n x_10 x_15 (-1) 0 0 s_15)))))
theorem okm218 (c : gx) (d : Nat) (Post : Option Value → gs → Prop)  (s : gs) (w : wm218 c d Post  s) : tE c (d + 1) 218 [.ref 48] s Post := by
  intro h hR
  have hk : ∀ pc i, gm_find gk_218 pc = some i → gm_code (gt_T c.1 c.2.1 c.2.2.1) 218 pc = some i := fun _ _ z => z
  unfold wm218 at w
  refine ge_of (by decide) (Nat.le_of_ble_eq_true rfl) ?_
  show gw (gt_T c.1 c.2.1 c.2.2.1) c.2.2.2 d 218 (0, [some (.ref 48), none, none, none, none, none, none, none, none], [], h) _
  refine gw_pst hk 2 (st' := (2, [some (.ref 48), none, none, none, none, none, none, none, none], [.int 0, .ref 48], h)) rfl ?_
  obtain ⟨fs1, e1⟩ := RL_o hR (r := 48) (ci := 10) rfl
  obtain ⟨l1, hR1⟩ := RL_pI (k := 13) (x := 0) hR rfl e1
  refine gw_pf (hk _ _ rfl) e1 l1 rfl ?_
  generalize gm_put h _ _ = h at hR1 ⊢
  obtain ⟨s_1, es1⟩ : ∃ z, z = gs_V s 48 13 0 := ⟨_, rfl⟩
  rw [← es1] at hR1
  replace w := w s_1 es1
  replace hR := hR1
  refine gw_pst hk 1 (st' := (6, [some (.ref 48), none, none, none, none, none, none, none, none], [.ref 48], h)) rfl ?_
  refine gw_gf (hk _ _ rfl) (RL_fR (n := 49) hR rfl) ?_
  refine gw_pst hk 1 (st' := (10, [some (.ref 48), none, none, none, none, none, none, none, none], [.ref 48, .ref 49], h)) rfl ?_
  refine gw_gf (hk _ _ rfl) (RL_fR (n := 49) hR rfl) ?_
  refine gw_pst hk 1 (st' := (14, [some (.ref 48), none, none, none, none, none, none, none, none], [.int 0, .ref 49, .ref 49], h)) rfl ?_
  obtain ⟨b4, w⟩ := w
  refine gw_ald (hk _ _ rfl) (Or.inl ⟨rfl, rfl⟩) (RL_a (t := 0) (n := 108) hR rfl (by decide)) b4 ?_
  refine gw_call (jj := 184) (As := [.ref 49, .int (gsA s_1 49 (0 : Int32).toNatClampNeg)]) (rest := []) (hk _ _ rfl) (fun _ => rfl) rfl rfl (Nat.le_of_ble_eq_true rfl) rfl ?_
  refine ge_imp (w h hR) (fun v5 h w => ?_)
  obtain ⟨s_5, hR, x_5, rfl, w⟩ := w
  show gw (gt_T c.1 c.2.1 c.2.2.1) c.2.2.2 d 218 (18, [some (.ref 48), none, none, none, none, none, none, none, none], [.int x_5], h) _
  refine gw_pst hk 3 (st' := (21, [some (.ref 48), some (.int x_5), none, none, none, none, none, none, none], [.int (-1), .int x_5], h)) rfl ?_
  refine gw_br (c := x_5 = (-1)) (a := (24, [some (.ref 48), some (.int x_5), none, none, none, none, none, none, none], [], h)) (b := (27, [some (.ref 48), some (.int x_5), none, none, none, none, none, none, none], [], h)) (hk _ _ rfl) rfl ⟨fun z6 => ?_, fun z6 => ?_⟩
  · replace w := w.1 z6
    refine gw_pst hk 1 (st' := (26, [some (.ref 48), some (.int x_5), none, none, none, none, none, none, none], [.int (-2)], h)) rfl ?_
    exact gw_ret (hk _ _ rfl) rfl ⟨_, hR, w⟩
  · replace w := w.2 z6
    refine gw_pst hk 1 (st' := (28, [some (.ref 48), some (.int x_5), none, none, none, none, none, none, none], [.ref 48], h)) rfl ?_
    refine gw_gf (hk _ _ rfl) (RL_fR (n := 49) hR rfl) ?_
    refine gw_pst hk 1 (st' := (32, [some (.ref 48), some (.int x_5), none, none, none, none, none, none, none], [.ref 48, .ref 49], h)) rfl ?_
    refine gw_gf (hk _ _ rfl) (RL_fR (n := 49) hR rfl) ?_
    refine gw_pst hk 1 (st' := (36, [some (.ref 48), some (.int x_5), none, none, none, none, none, none, none], [.int 0, .ref 49, .ref 49], h)) rfl ?_
    obtain ⟨b9, w⟩ := w
    refine gw_ald (hk _ _ rfl) (Or.inl ⟨rfl, rfl⟩) (RL_a (t := 0) (n := 108) hR rfl (by decide)) b9 ?_
    refine gw_pst hk 2 (st' := (39, [some (.ref 48), some (.int x_5), none, none, none, none, none, none, none], [.int ((gsA s_5 49 (0 : Int32).toNatClampNeg) + 1), .ref 49], h)) rfl ?_
    refine gw_call (jj := 184) (As := [.ref 49, .int ((gsA s_5 49 (0 : Int32).toNatClampNeg) + 1)]) (rest := []) (hk _ _ rfl) (fun _ => rfl) rfl rfl (Nat.le_of_ble_eq_true rfl) rfl ?_
    refine ge_imp (w h hR) (fun v10 h w => ?_)
    obtain ⟨s_10, hR, x_10, rfl, w⟩ := w
    show gw (gt_T c.1 c.2.1 c.2.2.1) c.2.2.2 d 218 (42, [some (.ref 48), some (.int x_5), none, none, none, none, none, none, none], [.int x_10], h) _
    refine gw_pst hk 4 (st' := (46, [some (.ref 48), some (.int x_5), some (.int x_10), none, none, none, none, none, none], [.ref 48, .int x_5, .ref 48], h)) rfl ?_
    refine gw_gf (hk _ _ rfl) (RL_fR (n := 49) hR rfl) ?_
    refine gw_pst hk 1 (st' := (50, [some (.ref 48), some (.int x_5), some (.int x_10), none, none, none, none, none, none], [.int 1, .ref 49, .int x_5, .ref 48], h)) rfl ?_
    obtain ⟨b12, w⟩ := w
    refine gw_ald (hk _ _ rfl) (Or.inl ⟨rfl, rfl⟩) (RL_a (t := 0) (n := 108) hR rfl (by decide)) b12 ?_
    refine gw_pst hk 1 (st' := (52, [some (.ref 48), some (.int x_5), some (.int x_10), none, none, none, none, none, none], [.ref 48, .int (gsA s_10 49 (1 : Int32).toNatClampNeg), .int x_5, .ref 48], h)) rfl ?_
    refine gw_gf (hk _ _ rfl) (RL_fR (n := 49) hR rfl) ?_
    refine gw_pst hk 1 (st' := (56, [some (.ref 48), some (.int x_5), some (.int x_10), none, none, none, none, none, none], [.int 2, .ref 49, .int (gsA s_10 49 (1 : Int32).toNatClampNeg), .int x_5, .ref 48], h)) rfl ?_
    obtain ⟨b14, w⟩ := w
    refine gw_ald (hk _ _ rfl) (Or.inl ⟨rfl, rfl⟩) (RL_a (t := 0) (n := 108) hR rfl (by decide)) b14 ?_
    obtain ⟨fs15, e15⟩ := RL_o hR (r := 48) (ci := 10) rfl
    refine gw_call (jj := 189) (As := [.ref 48, .int x_5, .int (gsA s_10 49 (1 : Int32).toNatClampNeg), .int (gsA s_10 49 (2 : Int32).toNatClampNeg)]) (rest := []) (hk _ _ rfl) (fun _ => rfl) rfl rfl (Nat.le_of_ble_eq_true rfl) (gm_rcv_v rfl e15 rfl) ?_
    refine ge_imp (w h hR) (fun v15 h w => ?_)
    obtain ⟨s_15, hR, x_15, rfl, w⟩ := w
    show gw (gt_T c.1 c.2.1 c.2.2.1) c.2.2.2 d 218 (60, [some (.ref 48), some (.int x_5), some (.int x_10), none, none, none, none, none, none], [.int x_15], h) _
    refine gw_pst hk 7 (st' := (70, [some (.ref 48), some (.int x_5), some (.int x_10), some (.int x_15), some (.int (-1)), some (.int 0), some (.int 0), none, none], [], h)) rfl ?_
    refine gw_le (L' := [some (.ref 48), none, some (.int x_10), some (.int x_15), some (.int (-1)), some (.int 0), some (.int 0), none, none]) (gm_le_k _ (gm_le_n _ (gm_le_k _ (gm_le_k _ (gm_le_k _ (gm_le_k _ (gm_le_k _ (gm_le_k _ (gm_le_k _ gm_le_nil))))))))) ?_
    obtain ⟨n, w⟩ := w
    exact okl218_70 c d Post n _ _ _ _ _ _ w _ hR
def wb219_14 (c : gx) (d : Nat) (Post : Option Value → gs → Prop) (K14 : Int32 → Int32 → gs → Prop) (x1 : Int32) (x2 : Int32) (s : gs) : Prop :=
  ((100 ≤ x2 → Post (some (.int (-2))) s) ∧ (¬ (100 ≤ x2) → tE c d 196 [.ref 49] s (fun v3 s_3 => ∃ x_3 : Int32, v3 = some (.int x_3) ∧ ((x_3 ≤ x1 → tE c d 196 [.ref 49] s_3 (fun v6 s_6 => ∃ x_6 : Int32, v6 = some (.int x_6) ∧ K14 (x1 - x_6) (x2 + 1) s_6)) ∧ (¬ (x_3 ≤ x1) → Post (some (.int x2)) s_3)))))
theorem okb219_14 (c : gx) (d : Nat) (Post : Option Value → gs → Prop) (K14 : Int32 → Int32 → gs → Prop)  (hK14 : ∀ (x1 : Int32) (x2 : Int32) (s : gs), K14 x1 x2 s → tV c d 219 14 [some (.ref 48), some (.int x1), some (.int x2)] [] s Post) (x1 : Int32) (x2 : Int32) (s : gs) (w : wb219_14 c d Post K14 x1 x2 s) : tV c d 219 14 [some (.ref 48), some (.int x1), some (.int x2)] [] s Post := by
  intro h hR
  have hk : ∀ pc i, gm_find gk_219 pc = some i → gm_code (gt_T c.1 c.2.1 c.2.2.1) 219 pc = some i := fun _ _ z => z
  unfold wb219_14 at w
  unfold gV
  refine gw_pst hk 2 (st' := (17, [some (.ref 48), some (.int x1), some (.int x2)], [.int 100, .int x2], h)) rfl ?_
  refine gw_br (c := 100 ≤ x2) (a := (49, [some (.ref 48), some (.int x1), some (.int x2)], [], h)) (b := (20, [some (.ref 48), some (.int x1), some (.int x2)], [], h)) (hk _ _ rfl) rfl ⟨fun z1 => ?_, fun z1 => ?_⟩
  · replace w := w.1 z1
    refine gw_pst hk 1 (st' := (51, [some (.ref 48), some (.int x1), some (.int x2)], [.int (-2)], h)) rfl ?_
    exact gw_ret (hk _ _ rfl) rfl ⟨_, hR, w⟩
  · replace w := w.2 z1
    refine gw_pst hk 2 (st' := (22, [some (.ref 48), some (.int x1), some (.int x2)], [.ref 48, .int x1], h)) rfl ?_
    refine gw_gf (hk _ _ rfl) (RL_fR (n := 49) hR rfl) ?_
    refine gw_call (jj := 196) (As := [.ref 49]) (rest := [.int x1]) (hk _ _ rfl) (fun _ => rfl) rfl rfl (Nat.le_of_ble_eq_true rfl) rfl ?_
    refine ge_imp (w h hR) (fun v3 h w => ?_)
    obtain ⟨s_3, hR, x_3, rfl, w⟩ := w
    show gw (gt_T c.1 c.2.1 c.2.2.1) c.2.2.2 d 219 (28, [some (.ref 48), some (.int x1), some (.int x2)], [.int x_3, .int x1], h) _
    refine gw_br (c := x_3 ≤ x1) (a := (33, [some (.ref 48), some (.int x1), some (.int x2)], [], h)) (b := (31, [some (.ref 48), some (.int x1), some (.int x2)], [], h)) (hk _ _ rfl) rfl ⟨fun z4 => ?_, fun z4 => ?_⟩
    · replace w := w.1 z4
      refine gw_pst hk 2 (st' := (35, [some (.ref 48), some (.int x1), some (.int x2)], [.ref 48, .int x1], h)) rfl ?_
      refine gw_gf (hk _ _ rfl) (RL_fR (n := 49) hR rfl) ?_
      refine gw_call (jj := 196) (As := [.ref 49]) (rest := [.int x1]) (hk _ _ rfl) (fun _ => rfl) rfl rfl (Nat.le_of_ble_eq_true rfl) rfl ?_
      refine ge_imp (w h hR) (fun v6 h w => ?_)
      obtain ⟨s_6, hR, x_6, rfl, w⟩ := w
      show gw (gt_T c.1 c.2.1 c.2.2.1) c.2.2.2 d 219 (41, [some (.ref 48), some (.int x1), some (.int x2)], [.int x_6, .int x1], h) _
      refine gw_pst hk 4 (st' := (14, [some (.ref 48), some (.int (x1 - x_6)), some (.int (x2 + 1))], [], h)) rfl ?_
      exact hK14 _ _ _ w _ hR
    · replace w := w.2 z4
      refine gw_pst hk 1 (st' := (32, [some (.ref 48), some (.int x1), some (.int x2)], [.int x2], h)) rfl ?_
      exact gw_ret (hk _ _ rfl) rfl ⟨_, hR, w⟩
def wl219_14 (c : gx) (d : Nat) (Post : Option Value → gs → Prop) : Nat → Int32 → Int32 → gs → Prop
  | 0 => fun _ _ _ => False
  | n + 1 => wb219_14 c d Post (wl219_14 c d Post n)
theorem okl219_14 (c : gx) (d : Nat) (Post : Option Value → gs → Prop) : ∀ (n : Nat) (x1 : Int32) (x2 : Int32) (s : gs), wl219_14 c d Post n x1 x2 s → tV c d 219 14 [some (.ref 48), some (.int x1), some (.int x2)] [] s Post
  | 0, _, _, _, w => w.elim
  | n + 1, x1, x2, s, w => okb219_14 c d Post (wl219_14 c d Post n) (okl219_14 c d Post n) x1 x2 s w
/-- CommandByTurnsModel.lasts()I -/
def wm219 (c : gx) (d : Nat) (Post : Option Value → gs → Prop)  (s : gs) : Prop :=
  ∀ s_1 : gs, s_1 = gs_V s 48 13 0 → vp_in 5 108 ∧ ∃ n, wl219_14 c d Post n (gsA s_1 49 (5 : Int32).toNatClampNeg) 1 s_1
theorem okm219 (c : gx) (d : Nat) (Post : Option Value → gs → Prop)  (s : gs) (w : wm219 c d Post  s) : tE c (d + 1) 219 [.ref 48] s Post := by
  intro h hR
  have hk : ∀ pc i, gm_find gk_219 pc = some i → gm_code (gt_T c.1 c.2.1 c.2.2.1) 219 pc = some i := fun _ _ z => z
  unfold wm219 at w
  refine ge_of (by decide) (Nat.le_of_ble_eq_true rfl) ?_
  show gw (gt_T c.1 c.2.1 c.2.2.1) c.2.2.2 d 219 (0, [some (.ref 48), none, none], [], h) _
  refine gw_pst hk 2 (st' := (2, [some (.ref 48), none, none], [.int 0, .ref 48], h)) rfl ?_
  obtain ⟨fs1, e1⟩ := RL_o hR (r := 48) (ci := 10) rfl
  obtain ⟨l1, hR1⟩ := RL_pI (k := 13) (x := 0) hR rfl e1
  refine gw_pf (hk _ _ rfl) e1 l1 rfl ?_
  generalize gm_put h _ _ = h at hR1 ⊢
  obtain ⟨s_1, es1⟩ : ∃ z, z = gs_V s 48 13 0 := ⟨_, rfl⟩
  rw [← es1] at hR1
  replace w := w s_1 es1
  replace hR := hR1
  refine gw_pst hk 1 (st' := (6, [some (.ref 48), none, none], [.ref 48], h)) rfl ?_
  refine gw_gf (hk _ _ rfl) (RL_fR (n := 49) hR rfl) ?_
  refine gw_pst hk 1 (st' := (10, [some (.ref 48), none, none], [.int 5, .ref 49], h)) rfl ?_
  obtain ⟨b3, w⟩ := w
  refine gw_ald (hk _ _ rfl) (Or.inl ⟨rfl, rfl⟩) (RL_a (t := 0) (n := 108) hR rfl (by decide)) b3 ?_
  refine gw_pst hk 3 (st' := (14, [some (.ref 48), some (.int (gsA s_1 49 (5 : Int32).toNatClampNeg)), some (.int 1)], [], h)) rfl ?_
  obtain ⟨n, w⟩ := w
  exact okl219_14 c d Post n _ _ _ w _ hR
def wb220_31 (c : gx) (d : Nat) (Post : Option Value → gs → Prop) (K31 : Int32 → Int32 → gs → Prop) (x1 : Int32) (x2 : Int32) (s : gs) : Prop :=
  ((x1 ≤ x2 → ∀ s_2 : gs, s_2 = gs_V s 48 12 0 → vp_in 5 108 ∧ tE c d 157 [.ref 48, .long ((gsA s_2 65 (5 : Int32).toNatClampNeg : Int32).toInt64)] s_2 (fun v5 s_5 => v5 = none ∧ vp_in 3 108 ∧ Post (some (.int (gsA s_5 65 (3 : Int32).toNatClampNeg))) s_5)) ∧ (¬ (x1 ≤ x2) → tE c d 197 [.ref 65] s (fun v9 s_9 => v9 = none ∧ K31 x1 (x2 + 1) s_9)))
theorem okb220_31 (c : gx) (d : Nat) (Post : Option Value → gs → Prop) (K31 : Int32 → Int32 → gs → Prop)  (hK31 : ∀ (x1 : Int32) (x2 : Int32) (s : gs), K31 x1 x2 s → tV c d 220 31 [some (.ref 48), some (.int x1), some (.int x2)] [] s Post) (x1 : Int32) (x2 : Int32) (s : gs) (w : wb220_31 c d Post K31 x1 x2 s) : tV c d 220 31 [some (.ref 48), some (.int x1), some (.int x2)] [] s Post := by
  intro h hR
  have hk : ∀ pc i, gm_find gk_220 pc = some i → gm_code (gt_T c.1 c.2.1 c.2.2.1) 220 pc = some i := fun _ _ z => z
  unfold wb220_31 at w
  unfold gV
  refine gw_pst hk 2 (st' := (33, [some (.ref 48), some (.int x1), some (.int x2)], [.int x1, .int x2], h)) rfl ?_
  refine gw_br (c := x1 ≤ x2) (a := (49, [some (.ref 48), some (.int x1), some (.int x2)], [], h)) (b := (36, [some (.ref 48), some (.int x1), some (.int x2)], [], h)) (hk _ _ rfl) rfl ⟨fun z1 => ?_, fun z1 => ?_⟩
  · replace w := w.1 z1
    refine gw_pst hk 2 (st' := (51, [some (.ref 48), some (.int x1), some (.int x2)], [.int 0, .ref 48], h)) rfl ?_
    obtain ⟨fs2, e2⟩ := RL_o hR (r := 48) (ci := 10) rfl
    obtain ⟨l2, hR2⟩ := RL_pI (k := 12) (x := 0) hR rfl e2
    refine gw_pf (hk _ _ rfl) e2 l2 rfl ?_
    generalize gm_put h _ _ = h at hR2 ⊢
    obtain ⟨s_2, es2⟩ : ∃ z, z = gs_V s 48 12 0 := ⟨_, rfl⟩
    rw [← es2] at hR2
    replace w := w s_2 es2
    replace hR := hR2
    refine gw_pst hk 2 (st' := (56, [some (.ref 48), some (.int x1), some (.int x2)], [.ref 48, .ref 48], h)) rfl ?_
    refine gw_gf (hk _ _ rfl) (RL_fR (n := 65) hR rfl) ?_
    refine gw_pst hk 1 (st' := (60, [some (.ref 48), some (.int x1), some (.int x2)], [.int 5, .ref 65, .ref 48], h)) rfl ?_
    obtain ⟨b4, w⟩ := w
    refine gw_ald (hk _ _ rfl) (Or.inl ⟨rfl, rfl⟩) (RL_a (t := 0) (n := 108) hR rfl (by decide)) b4 ?_
    refine gw_pst hk 1 (st' := (62, [some (.ref 48), some (.int x1), some (.int x2)], [.long ((gsA s_2 65 (5 : Int32).toNatClampNeg : Int32).toInt64), .ref 48], h)) rfl ?_
    obtain ⟨fs5, e5⟩ := RL_o hR (r := 48) (ci := 10) rfl
    refine gw_call (jj := 157) (As := [.ref 48, .long ((gsA s_2 65 (5 : Int32).toNatClampNeg : Int32).toInt64)]) (rest := []) (hk _ _ rfl) (fun _ => rfl) rfl rfl (Nat.le_of_ble_eq_true rfl) (gm_rcv_v rfl e5 rfl) ?_
    refine ge_imp (w h hR) (fun v5 h w => ?_)
    obtain ⟨s_5, hR, rfl, w⟩ := w
    show gw (gt_T c.1 c.2.1 c.2.2.1) c.2.2.2 d 220 (65, [some (.ref 48), some (.int x1), some (.int x2)], [], h) _
    refine gw_pst hk 1 (st' := (66, [some (.ref 48), some (.int x1), some (.int x2)], [.ref 48], h)) rfl ?_
    refine gw_gf (hk _ _ rfl) (RL_fR (n := 65) hR rfl) ?_
    refine gw_pst hk 1 (st' := (70, [some (.ref 48), some (.int x1), some (.int x2)], [.int 3, .ref 65], h)) rfl ?_
    obtain ⟨b7, w⟩ := w
    refine gw_ald (hk _ _ rfl) (Or.inl ⟨rfl, rfl⟩) (RL_a (t := 0) (n := 108) hR rfl (by decide)) b7 ?_
    exact gw_ret (hk _ _ rfl) rfl ⟨_, hR, w⟩
  · replace w := w.2 z1
    refine gw_pst hk 1 (st' := (37, [some (.ref 48), some (.int x1), some (.int x2)], [.ref 48], h)) rfl ?_
    refine gw_gf (hk _ _ rfl) (RL_fR (n := 65) hR rfl) ?_
    refine gw_call (jj := 197) (As := [.ref 65]) (rest := []) (hk _ _ rfl) (fun _ => rfl) rfl rfl (Nat.le_of_ble_eq_true rfl) rfl ?_
    refine ge_imp (w h hR) (fun v9 h w => ?_)
    obtain ⟨s_9, hR, rfl, w⟩ := w
    show gw (gt_T c.1 c.2.1 c.2.2.1) c.2.2.2 d 220 (43, [some (.ref 48), some (.int x1), some (.int x2)], [], h) _
    refine gw_pst hk 2 (st' := (31, [some (.ref 48), some (.int x1), some (.int (x2 + 1))], [], h)) rfl ?_
    exact hK31 _ _ _ w _ hR
def wl220_31 (c : gx) (d : Nat) (Post : Option Value → gs → Prop) : Nat → Int32 → Int32 → gs → Prop
  | 0 => fun _ _ _ => False
  | n + 1 => wb220_31 c d Post (wl220_31 c d Post n)
theorem okl220_31 (c : gx) (d : Nat) (Post : Option Value → gs → Prop) : ∀ (n : Nat) (x1 : Int32) (x2 : Int32) (s : gs), wl220_31 c d Post n x1 x2 s → tV c d 220 31 [some (.ref 48), some (.int x1), some (.int x2)] [] s Post
  | 0, _, _, _, w => w.elim
  | n + 1, x1, x2, s, w => okb220_31 c d Post (wl220_31 c d Post n) (okl220_31 c d Post n) x1 x2 s w
/-- CommandByTurnsModel.feeds(I)I -/
def wm220 (c : gx) (d : Nat) (Post : Option Value → gs → Prop) (x1 : Int32) (s : gs) : Prop :=
  ∀ s_1 : gs, s_1 = gs_V s 48 13 0 → tE c d 154 [.int x1, .int 0, .int 99] s_1 (fun v2 s_2 => ∃ x_2 : Int32, v2 = some (.int x_2) ∧ ((x_2 = 0 → Post (some (.int (-1))) s_2) ∧ (¬ (x_2 = 0) → tE c d 194 [.ref 49, .ref 65, .int 0] s_2 (fun v6 s_6 => v6 = none ∧ ∃ n, wl220_31 c d Post n x1 0 s_6))))
theorem okm220 (c : gx) (d : Nat) (Post : Option Value → gs → Prop) (x1 : Int32) (s : gs) (w : wm220 c d Post x1 s) : tE c (d + 1) 220 [.ref 48, .int x1] s Post := by
  intro h hR
  have hk : ∀ pc i, gm_find gk_220 pc = some i → gm_code (gt_T c.1 c.2.1 c.2.2.1) 220 pc = some i := fun _ _ z => z
  unfold wm220 at w
  refine ge_of (by decide) (Nat.le_of_ble_eq_true rfl) ?_
  show gw (gt_T c.1 c.2.1 c.2.2.1) c.2.2.2 d 220 (0, [some (.ref 48), some (.int x1), none], [], h) _
  refine gw_pst hk 2 (st' := (2, [some (.ref 48), some (.int x1), none], [.int 0, .ref 48], h)) rfl ?_
  obtain ⟨fs1, e1⟩ := RL_o hR (r := 48) (ci := 10) rfl
  obtain ⟨l1, hR1⟩ := RL_pI (k := 13) (x := 0) hR rfl e1
  refine gw_pf (hk _ _ rfl) e1 l1 rfl ?_
  generalize gm_put h _ _ = h at hR1 ⊢
  obtain ⟨s_1, es1⟩ : ∃ z, z = gs_V s 48 13 0 := ⟨_, rfl⟩
  rw [← es1] at hR1
  replace w := w s_1 es1
  replace hR := hR1
  refine gw_pst hk 3 (st' := (9, [some (.ref 48), some (.int x1), none], [.int 99, .int 0, .int x1], h)) rfl ?_
  refine gw_call (jj := 154) (As := [.int x1, .int 0, .int 99]) (rest := []) (hk _ _ rfl) (fun _ => rfl) rfl rfl (Nat.le_of_ble_eq_true rfl) rfl ?_
  refine ge_imp (w h hR) (fun v2 h w => ?_)
  obtain ⟨s_2, hR, x_2, rfl, w⟩ := w
  show gw (gt_T c.1 c.2.1 c.2.2.1) c.2.2.2 d 220 (12, [some (.ref 48), some (.int x1), none], [.int x_2], h) _
  refine gw_br (c := x_2 = 0) (a := (15, [some (.ref 48), some (.int x1), none], [], h)) (b := (17, [some (.ref 48), some (.int x1), none], [], h)) (hk _ _ rfl) rfl ⟨fun z3 => ?_, fun z3 => ?_⟩
  · replace w := w.1 z3
    refine gw_pst hk 1 (st' := (16, [some (.ref 48), some (.int x1), none], [.int (-1)], h)) rfl ?_
    exact gw_ret (hk _ _ rfl) rfl ⟨_, hR, w⟩
  · replace w := w.2 z3
    refine gw_pst hk 1 (st' := (18, [some (.ref 48), some (.int x1), none], [.ref 48], h)) rfl ?_
    refine gw_gf (hk _ _ rfl) (RL_fR (n := 49) hR rfl) ?_
    refine gw_pst hk 1 (st' := (22, [some (.ref 48), some (.int x1), none], [.ref 48, .ref 49], h)) rfl ?_
    refine gw_gf (hk _ _ rfl) (RL_fR (n := 65) hR rfl) ?_
    refine gw_pst hk 1 (st' := (26, [some (.ref 48), some (.int x1), none], [.int 0, .ref 65, .ref 49], h)) rfl ?_
    refine gw_call (jj := 194) (As := [.ref 49, .ref 65, .int 0]) (rest := []) (hk _ _ rfl) (fun _ => rfl) rfl rfl (Nat.le_of_ble_eq_true rfl) rfl ?_
    refine ge_imp (w h hR) (fun v6 h w => ?_)
    obtain ⟨s_6, hR, rfl, w⟩ := w
    show gw (gt_T c.1 c.2.1 c.2.2.1) c.2.2.2 d 220 (29, [some (.ref 48), some (.int x1), none], [], h) _
    refine gw_pst hk 2 (st' := (31, [some (.ref 48), some (.int x1), some (.int 0)], [], h)) rfl ?_
    obtain ⟨n, w⟩ := w
    exact okl220_31 c d Post n _ _ _ w _ hR
/-- CommandByTurnsModel.boldness(I)I -/
def wm221 (c : gx) (d : Nat) (Post : Option Value → gs → Prop) (x1 : Int32) (s : gs) : Prop :=
  ∀ s_1 : gs, s_1 = gs_V s 48 13 0 → tE c d 158 [.ref 48, .int x1] s_1 (fun v2 s_2 => ∃ x_2 : Int32, v2 = some (.int x_2) ∧ ((x_2 = 0 → Post (some (.int (-1000))) s_2) ∧ (¬ (x_2 = 0) → vp_in 2 108 ∧ tE c d 185 [.int x1, .int (gsA s_2 49 (2 : Int32).toNatClampNeg)] s_2 (fun v6 s_6 => ∃ x_6 : Int32, v6 = some (.int x_6) ∧ ((x_6 = 0 → Post (some (.int (-2000))) s_6) ∧ (¬ (x_6 = 0) → vp_in 0 108 ∧ tE c d 182 [.ref 48, .ref 49, .int 0, .int x1, .int (gsA s_6 49 (0 : Int32).toNatClampNeg)] s_6 (fun v11 s_11 => ∃ x_11 : Int32, v11 = some (.int x_11) ∧ vp_in 0 108 ∧ tE c d 182 [.ref 48, .ref 49, .int 1, .int x1, .int (gsA s_11 49 (0 : Int32).toNatClampNeg)] s_11 (fun v15 s_15 => ∃ x_15 : Int32, v15 = some (.int x_15) ∧ ∀ s_16 : gs, s_16 = gs_V s_15 48 12 0 → tE c d 157 [.ref 48, .long ((501 + x_11 : Int32).toInt64)] s_16 (fun v17 s_17 => v17 = none ∧ tE c d 157 [.ref 48, .long ((501 + x_15 : Int32).toInt64)] s_17 (fun v18 s_18 => v18 = none ∧ Post (some (.int (x_11 - x_15))) s_18))))))))))
theorem okm221 (c : gx) (d : Nat) (Post : Option Value → gs → Prop) (x1 : Int32) (s : gs) (w : wm221 c d Post x1 s) : tE c (d + 1) 221 [.ref 48, .int x1] s Post := by
  intro h hR
  have hk : ∀ pc i, gm_find gk_221 pc = some i → gm_code (gt_T c.1 c.2.1 c.2.2.1) 221 pc = some i := fun _ _ z => z
  unfold wm221 at w
  refine ge_of (by decide) (Nat.le_of_ble_eq_true rfl) ?_
  show gw (gt_T c.1 c.2.1 c.2.2.1) c.2.2.2 d 221 (0, [some (.ref 48), some (.int x1), none, none], [], h) _
  refine gw_pst hk 2 (st' := (2, [some (.ref 48), some (.int x1), none, none], [.int 0, .ref 48], h)) rfl ?_
  obtain ⟨fs1, e1⟩ := RL_o hR (r := 48) (ci := 10) rfl
  obtain ⟨l1, hR1⟩ := RL_pI (k := 13) (x := 0) hR rfl e1
  refine gw_pf (hk _ _ rfl) e1 l1 rfl ?_
  generalize gm_put h _ _ = h at hR1 ⊢
  obtain ⟨s_1, es1⟩ : ∃ z, z = gs_V s 48 13 0 := ⟨_, rfl⟩
  rw [← es1] at hR1
  replace w := w s_1 es1
  replace hR := hR1
  refine gw_pst hk 2 (st' := (7, [some (.ref 48), some (.int x1), none, none], [.int x1, .ref 48], h)) rfl ?_
  obtain ⟨fs2, e2⟩ := RL_o hR (r := 48) (ci := 10) rfl
  refine gw_call (jj := 158) (As := [.ref 48, .int x1]) (rest := []) (hk _ _ rfl) (fun _ => rfl) rfl rfl (Nat.le_of_ble_eq_true rfl) (gm_rcv_v rfl e2 rfl) ?_
  refine ge_imp (w h hR) (fun v2 h w => ?_)
  obtain ⟨s_2, hR, x_2, rfl, w⟩ := w
  show gw (gt_T c.1 c.2.1 c.2.2.1) c.2.2.2 d 221 (10, [some (.ref 48), some (.int x1), none, none], [.int x_2], h) _
  refine gw_br (c := x_2 = 0) (a := (13, [some (.ref 48), some (.int x1), none, none], [], h)) (b := (17, [some (.ref 48), some (.int x1), none, none], [], h)) (hk _ _ rfl) rfl ⟨fun z3 => ?_, fun z3 => ?_⟩
  · replace w := w.1 z3
    refine gw_pst hk 1 (st' := (16, [some (.ref 48), some (.int x1), none, none], [.int (-1000)], h)) rfl ?_
    exact gw_ret (hk _ _ rfl) rfl ⟨_, hR, w⟩
  · replace w := w.2 z3
    refine gw_pst hk 2 (st' := (19, [some (.ref 48), some (.int x1), none, none], [.ref 48, .int x1], h)) rfl ?_
    refine gw_gf (hk _ _ rfl) (RL_fR (n := 49) hR rfl) ?_
    refine gw_pst hk 1 (st' := (23, [some (.ref 48), some (.int x1), none, none], [.int 2, .ref 49, .int x1], h)) rfl ?_
    obtain ⟨b5, w⟩ := w
    refine gw_ald (hk _ _ rfl) (Or.inl ⟨rfl, rfl⟩) (RL_a (t := 0) (n := 108) hR rfl (by decide)) b5 ?_
    refine gw_call (jj := 185) (As := [.int x1, .int (gsA s_2 49 (2 : Int32).toNatClampNeg)]) (rest := []) (hk _ _ rfl) (fun _ => rfl) rfl rfl (Nat.le_of_ble_eq_true rfl) rfl ?_
    refine ge_imp (w h hR) (fun v6 h w => ?_)
    obtain ⟨s_6, hR, x_6, rfl, w⟩ := w
    show gw (gt_T c.1 c.2.1 c.2.2.1) c.2.2.2 d 221 (27, [some (.ref 48), some (.int x1), none, none], [.int x_6], h) _
    refine gw_br (c := x_6 = 0) (a := (30, [some (.ref 48), some (.int x1), none, none], [], h)) (b := (34, [some (.ref 48), some (.int x1), none, none], [], h)) (hk _ _ rfl) rfl ⟨fun z7 => ?_, fun z7 => ?_⟩
    · replace w := w.1 z7
      refine gw_pst hk 1 (st' := (33, [some (.ref 48), some (.int x1), none, none], [.int (-2000)], h)) rfl ?_
      exact gw_ret (hk _ _ rfl) rfl ⟨_, hR, w⟩
    · replace w := w.2 z7
      refine gw_pst hk 2 (st' := (36, [some (.ref 48), some (.int x1), none, none], [.ref 48, .ref 48], h)) rfl ?_
      refine gw_gf (hk _ _ rfl) (RL_fR (n := 49) hR rfl) ?_
      refine gw_pst hk 3 (st' := (42, [some (.ref 48), some (.int x1), none, none], [.ref 48, .int x1, .int 0, .ref 49, .ref 48], h)) rfl ?_
      refine gw_gf (hk _ _ rfl) (RL_fR (n := 49) hR rfl) ?_
      refine gw_pst hk 1 (st' := (46, [some (.ref 48), some (.int x1), none, none], [.int 0, .ref 49, .int x1, .int 0, .ref 49, .ref 48], h)) rfl ?_
      obtain ⟨b10, w⟩ := w
      refine gw_ald (hk _ _ rfl) (Or.inl ⟨rfl, rfl⟩) (RL_a (t := 0) (n := 108) hR rfl (by decide)) b10 ?_
      obtain ⟨fs11, e11⟩ := RL_o hR (r := 48) (ci := 10) rfl
      refine gw_call (jj := 182) (As := [.ref 48, .ref 49, .int 0, .int x1, .int (gsA s_6 49 (0 : Int32).toNatClampNeg)]) (rest := []) (hk _ _ rfl) (fun _ => rfl) rfl rfl (Nat.le_of_ble_eq_true rfl) (gm_rcv_v rfl e11 rfl) ?_
      refine ge_imp (w h hR) (fun v11 h w => ?_)
      obtain ⟨s_11, hR, x_11, rfl, w⟩ := w
      show gw (gt_T c.1 c.2.1 c.2.2.1) c.2.2.2 d 221 (50, [some (.ref 48), some (.int x1), none, none], [.int x_11], h) _
      refine gw_pst hk 3 (st' := (53, [some (.ref 48), some (.int x1), some (.int x_11), none], [.ref 48, .ref 48], h)) rfl ?_
      refine gw_gf (hk _ _ rfl) (RL_fR (n := 49) hR rfl) ?_
      refine gw_pst hk 3 (st' := (59, [some (.ref 48), some (.int x1), some (.int x_11), none], [.ref 48, .int x1, .int 1, .ref 49, .ref 48], h)) rfl ?_
      refine gw_gf (hk _ _ rfl) (RL_fR (n := 49) hR rfl) ?_
      refine gw_pst hk 1 (st' := (63, [some (.ref 48), some (.int x1), some (.int x_11), none], [.int 0, .ref 49, .int x1, .int 1, .ref 49, .ref 48], h)) rfl ?_
      obtain ⟨b14, w⟩ := w
      refine gw_ald (hk _ _ rfl) (Or.inl ⟨rfl, rfl⟩) (RL_a (t := 0) (n := 108) hR rfl (by decide)) b14 ?_
      obtain ⟨fs15, e15⟩ := RL_o hR (r := 48) (ci := 10) rfl
      refine gw_call (jj := 182) (As := [.ref 48, .ref 49, .int 1, .int x1, .int (gsA s_11 49 (0 : Int32).toNatClampNeg)]) (rest := []) (hk _ _ rfl) (fun _ => rfl) rfl rfl (Nat.le_of_ble_eq_true rfl) (gm_rcv_v rfl e15 rfl) ?_
      refine ge_imp (w h hR) (fun v15 h w => ?_)
      obtain ⟨s_15, hR, x_15, rfl, w⟩ := w
      show gw (gt_T c.1 c.2.1 c.2.2.1) c.2.2.2 d 221 (67, [some (.ref 48), some (.int x1), some (.int x_11), none], [.int x_15], h) _
      refine gw_pst hk 3 (st' := (70, [some (.ref 48), some (.int x1), some (.int x_11), some (.int x_15)], [.int 0, .ref 48], h)) rfl ?_
      obtain ⟨fs16, e16⟩ := RL_o hR (r := 48) (ci := 10) rfl
      obtain ⟨l16, hR16⟩ := RL_pI (k := 12) (x := 0) hR rfl e16
      refine gw_pf (hk _ _ rfl) e16 l16 rfl ?_
      generalize gm_put h _ _ = h at hR16 ⊢
      obtain ⟨s_16, es16⟩ : ∃ z, z = gs_V s_15 48 12 0 := ⟨_, rfl⟩
      rw [← es16] at hR16
      replace w := w s_16 es16
      replace hR := hR16
      refine gw_pst hk 5 (st' := (80, [some (.ref 48), some (.int x1), some (.int x_11), some (.int x_15)], [.long ((501 + x_11 : Int32).toInt64), .ref 48], h)) rfl ?_
      obtain ⟨fs17, e17⟩ := RL_o hR (r := 48) (ci := 10) rfl
      refine gw_call (jj := 157) (As := [.ref 48, .long ((501 + x_11 : Int32).toInt64)]) (rest := []) (hk _ _ rfl) (fun _ => rfl) rfl rfl (Nat.le_of_ble_eq_true rfl) (gm_rcv_v rfl e17 rfl) ?_
      refine ge_imp (w h hR) (fun v17 h w => ?_)
      obtain ⟨s_17, hR, rfl, w⟩ := w
      show gw (gt_T c.1 c.2.1 c.2.2.1) c.2.2.2 d 221 (83, [some (.ref 48), some (.int x1), some (.int x_11), some (.int x_15)], [], h) _
      refine gw_pst hk 5 (st' := (90, [some (.ref 48), some (.int x1), some (.int x_11), some (.int x_15)], [.long ((501 + x_15 : Int32).toInt64), .ref 48], h)) rfl ?_
      obtain ⟨fs18, e18⟩ := RL_o hR (r := 48) (ci := 10) rfl
      refine gw_call (jj := 157) (As := [.ref 48, .long ((501 + x_15 : Int32).toInt64)]) (rest := []) (hk _ _ rfl) (fun _ => rfl) rfl rfl (Nat.le_of_ble_eq_true rfl) (gm_rcv_v rfl e18 rfl) ?_
      refine ge_imp (w h hR) (fun v18 h w => ?_)
      obtain ⟨s_18, hR, rfl, w⟩ := w
      show gw (gt_T c.1 c.2.1 c.2.2.1) c.2.2.2 d 221 (93, [some (.ref 48), some (.int x1), some (.int x_11), some (.int x_15)], [], h) _
      refine gw_pst hk 3 (st' := (96, [some (.ref 48), some (.int x1), some (.int x_11), some (.int x_15)], [.int (x_11 - x_15)], h)) rfl ?_
      exact gw_ret (hk _ _ rfl) rfl ⟨_, hR, w⟩
def w222_39 (c : gx) (d : Nat) (Post : Option Value → gs → Prop) (xs0 : Int32) (s : gs) : Prop :=
  Post (some (.int xs0)) s
theorem ok222_39 (c : gx) (d : Nat) (Post : Option Value → gs → Prop)  (xs0 : Int32) (s : gs) (w : w222_39 c d Post xs0 s) : tV c d 222 39 [none, none, none, none] [.int xs0] s Post := by
  intro h hR
  have hk : ∀ pc i, gm_find gk_222 pc = some i → gm_code (gt_T c.1 c.2.1 c.2.2.1) 222 pc = some i := fun _ _ z => z
  unfold w222_39 at w
  unfold gV
  exact gw_ret (hk _ _ rfl) rfl ⟨_, hR, w⟩
/-- CommandByTurnsModel.moves(II)I -/
def wm222 (c : gx) (d : Nat) (Post : Option Value → gs → Prop) (x1 : Int32) (x2 : Int32) (s : gs) : Prop :=
  vp_in 0 108 ∧ tE c d 184 [.ref 49, .int ((gsA s 49 (0 : Int32).toNatClampNeg) + x1)] s (fun v4 s_4 => ∃ x_4 : Int32, v4 = some (.int x_4) ∧ ((x_4 = (-1) → w222_39 c d Post (1 <<< (x2 &&& 31)) s_4) ∧ (¬ (x_4 = (-1)) → vp_in 2 108 ∧ tE c d 189 [.ref 48, .int x_4, .int x2, .int (gsA s_4 49 (2 : Int32).toNatClampNeg)] s_4 (fun v8 s_8 => ∃ x_8 : Int32, v8 = some (.int x_8) ∧ w222_39 c d Post x_8 s_8))))
theorem okm222 (c : gx) (d : Nat) (Post : Option Value → gs → Prop) (x1 : Int32) (x2 : Int32) (s : gs) (w : wm222 c d Post x1 x2 s) : tE c (d + 1) 222 [.ref 48, .int x1, .int x2] s Post := by
  intro h hR
  have hk : ∀ pc i, gm_find gk_222 pc = some i → gm_code (gt_T c.1 c.2.1 c.2.2.1) 222 pc = some i := fun _ _ z => z
  unfold wm222 at w
  refine ge_of (by decide) (Nat.le_of_ble_eq_true rfl) ?_
  show gw (gt_T c.1 c.2.1 c.2.2.1) c.2.2.2 d 222 (0, [some (.ref 48), some (.int x1), some (.int x2), none], [], h) _
  refine gw_pst hk 1 (st' := (1, [some (.ref 48), some (.int x1), some (.int x2), none], [.ref 48], h)) rfl ?_
  refine gw_gf (hk _ _ rfl) (RL_fR (n := 49) hR rfl) ?_
  refine gw_pst hk 1 (st' := (5, [some (.ref 48), some (.int x1), some (.int x2), none], [.ref 48, .ref 49], h)) rfl ?_
  refine gw_gf (hk _ _ rfl) (RL_fR (n := 49) hR rfl) ?_
  refine gw_pst hk 1 (st' := (9, [some (.ref 48), some (.int x1), some (.int x2), none], [.int 0, .ref 49, .ref 49], h)) rfl ?_
  obtain ⟨b3, w⟩ := w
  refine gw_ald (hk _ _ rfl) (Or.inl ⟨rfl, rfl⟩) (RL_a (t := 0) (n := 108) hR rfl (by decide)) b3 ?_
  refine gw_pst hk 2 (st' := (12, [some (.ref 48), some (.int x1), some (.int x2), none], [.int ((gsA s 49 (0 : Int32).toNatClampNeg) + x1), .ref 49], h)) rfl ?_
  refine gw_call (jj := 184) (As := [.ref 49, .int ((gsA s 49 (0 : Int32).toNatClampNeg) + x1)]) (rest := []) (hk _ _ rfl) (fun _ => rfl) rfl rfl (Nat.le_of_ble_eq_true rfl) rfl ?_
  refine ge_imp (w h hR) (fun v4 h w => ?_)
  obtain ⟨s_4, hR, x_4, rfl, w⟩ := w
  show gw (gt_T c.1 c.2.1 c.2.2.1) c.2.2.2 d 222 (15, [some (.ref 48), some (.int x1), some (.int x2), none], [.int x_4], h) _
  refine gw_pst hk 3 (st' := (18, [some (.ref 48), some (.int x1), some (.int x2), some (.int x_4)], [.int (-1), .int x_4], h)) rfl ?_
  refine gw_br (c := x_4 = (-1)) (a := (21, [some (.ref 48), some (.int x1), some (.int x2), some (.int x_4)], [], h)) (b := (27, [some (.ref 48), some (.int x1), some (.int x2), some (.int x_4)], [], h)) (hk _ _ rfl) rfl ⟨fun z5 => ?_, fun z5 => ?_⟩
  · replace w := w.1 z5
    refine gw_pst hk 4 (st' := (39, [some (.ref 48), some (.int x1), some (.int x2), some (.int x_4)], [.int (1 <<< (x2 &&& 31))], h)) rfl ?_
    refine gw_le (L' := [none, none, none, none]) (gm_le_n _ (gm_le_n _ (gm_le_n _ (gm_le_n _ gm_le_nil)))) ?_
    exact ok222_39 c d Post _ _ w _ hR
  · replace w := w.2 z5
    refine gw_pst hk 4 (st' := (31, [some (.ref 48), some (.int x1), some (.int x2), some (.int x_4)], [.ref 48, .int x2, .int x_4, .ref 48], h)) rfl ?_
    refine gw_gf (hk _ _ rfl) (RL_fR (n := 49) hR rfl) ?_
    refine gw_pst hk 1 (st' := (35, [some (.ref 48), some (.int x1), some (.int x2), some (.int x_4)], [.int 2, .ref 49, .int x2, .int x_4, .ref 48], h)) rfl ?_
    obtain ⟨b7, w⟩ := w
    refine gw_ald (hk _ _ rfl) (Or.inl ⟨rfl, rfl⟩) (RL_a (t := 0) (n := 108) hR rfl (by decide)) b7 ?_
    obtain ⟨fs8, e8⟩ := RL_o hR (r := 48) (ci := 10) rfl
    refine gw_call (jj := 189) (As := [.ref 48, .int x_4, .int x2, .int (gsA s_4 49 (2 : Int32).toNatClampNeg)]) (rest := []) (hk _ _ rfl) (fun _ => rfl) rfl rfl (Nat.le_of_ble_eq_true rfl) (gm_rcv_v rfl e8 rfl) ?_
    refine ge_imp (w h hR) (fun v8 h w => ?_)
    obtain ⟨s_8, hR, x_8, rfl, w⟩ := w
    show gw (gt_T c.1 c.2.1 c.2.2.1) c.2.2.2 d 222 (39, [some (.ref 48), some (.int x1), some (.int x2), some (.int x_4)], [.int x_8], h) _
    refine gw_le (L' := [none, none, none, none]) (gm_le_n _ (gm_le_n _ (gm_le_n _ (gm_le_n _ gm_le_nil)))) ?_
    exact ok222_39 c d Post _ _ w _ hR
def w223_70 (c : gx) (d : Nat) (Post : Option Value → gs → Prop) (K13 : Int32 → gs → Prop) (K27 : Int32 → Int32 → gs → Prop) (x3 : Int32) (x4 : Int32) (rs0 : Nat) (xs1 : Int32) (xs2 : Int32) (xs3 : Int32) (s : gs) : Prop :=
  ∃ n1, gs_isA rs0 0 n1 = true ∧ vp_in xs1 n1 ∧ ∀ s_1 : gs, s_1 = gs_A s rs0 (xs1 : Int32).toNatClampNeg (vp_nar .int (xs2 ||| xs3)) → K27 x3 (x4 + 1) s_1
theorem ok223_70 (c : gx) (d : Nat) (Post : Option Value → gs → Prop) (K13 : Int32 → gs → Prop) (K27 : Int32 → Int32 → gs → Prop)  (hK13 : ∀ (x3 : Int32) (s : gs), K13 x3 s → tV c d 223 13 [some (.ref 48), none, none, some (.int x3), none] [] s Post) (hK27 : ∀ (x3 : Int32) (x4 : Int32) (s : gs), K27 x3 x4 s → tV c d 223 27 [some (.ref 48), none, none, some (.int x3), some (.int x4)] [] s Post) (x3 : Int32) (x4 : Int32) (rs0 : Nat) (xs1 : Int32) (xs2 : Int32) (xs3 : Int32) (s : gs) (w : w223_70 c d Post K13 K27 x3 x4 rs0 xs1 xs2 xs3 s) : tV c d 223 70 [some (.ref 48), none, none, some (.int x3), some (.int x4)] [.int xs3, .int xs2, .int xs1, .ref rs0] s Post := by
  intro h hR
  have hk : ∀ pc i, gm_find gk_223 pc = some i → gm_code (gt_T c.1 c.2.1 c.2.2.1) 223 pc = some i := fun _ _ z => z
  unfold w223_70 at w
  unfold gV
  refine gw_pst hk 1 (st' := (71, [some (.ref 48), none, none, some (.int x3), some (.int x4)], [.int (xs2 ||| xs3), .int xs1, .ref rs0], h)) rfl ?_
  obtain ⟨n1, a1, b1, w⟩ := w
  have hR1 := RL_pA (a := rs0) (t := 0) (n := n1) (k := (xs1 : Int32).toNatClampNeg) (x := (vp_nar .int (xs2 ||| xs3))) hR a1 (by decide)
  refine gw_ast (hk _ _ rfl) (Or.inl ⟨rfl, rfl, rfl⟩) (RL_a (t := 0) (n := n1) hR a1 (by decide)) b1 ?_
  generalize gm_put h _ _ = h at hR1 ⊢
  obtain ⟨s_1, es1⟩ : ∃ z, z = gs_A s rs0 (xs1 : Int32).toNatClampNeg (vp_nar .int (xs2 ||| xs3)) := ⟨_, rfl⟩
  rw [← es1] at hR1
  replace w := w s_1 es1
  replace hR := hR1
  refine gw_pst hk 2 (st' := (27, [some (.ref 48), none, none, some (.int x3), some (.int (x4 + 1))], [], h)) rfl ?_
  exact hK27 _ _ _ w _ hR
def wb223_27 (c : gx) (d : Nat) (Post : Option Value → gs → Prop) (K13 : Int32 → gs → Prop) (K27 : Int32 → Int32 → gs → Prop) (x3 : Int32) (x4 : Int32) (s : gs) : Prop :=
  (((gsV s 48 1) ≤ x4 → K13 (x3 + (-1)) s) ∧ (¬ ((gsV s 48 1) ≤ x4) → vp_in x3 21 ∧ tE c d 222 [.ref 48, .int x3, .int x4] s (fun v5 s_5 => ∃ x_5 : Int32, v5 = some (.int x_5) ∧ vp_in (x3 + 1) 21 ∧ (((x_5 &&& (gsA s_5 67 (x3 + 1 : Int32).toNatClampNeg)) = 0 → w223_70 c d Post K13 K27 x3 x4 67 x3 (gsA s 67 (x3 : Int32).toNatClampNeg) 0 s_5) ∧ (¬ ((x_5 &&& (gsA s_5 67 (x3 + 1 : Int32).toNatClampNeg)) = 0) → w223_70 c d Post K13 K27 x3 x4 67 x3 (gsA s 67 (x3 : Int32).toNatClampNeg) (1 <<< (x4 &&& 31)) s_5)))))
theorem okb223_27 (c : gx) (d : Nat) (Post : Option Value → gs → Prop) (K13 : Int32 → gs → Prop) (K27 : Int32 → Int32 → gs → Prop)  (hK13 : ∀ (x3 : Int32) (s : gs), K13 x3 s → tV c d 223 13 [some (.ref 48), none, none, some (.int x3), none] [] s Post) (hK27 : ∀ (x3 : Int32) (x4 : Int32) (s : gs), K27 x3 x4 s → tV c d 223 27 [some (.ref 48), none, none, some (.int x3), some (.int x4)] [] s Post) (x3 : Int32) (x4 : Int32) (s : gs) (w : wb223_27 c d Post K13 K27 x3 x4 s) : tV c d 223 27 [some (.ref 48), none, none, some (.int x3), some (.int x4)] [] s Post := by
  intro h hR
  have hk : ∀ pc i, gm_find gk_223 pc = some i → gm_code (gt_T c.1 c.2.1 c.2.2.1) 223 pc = some i := fun _ _ z => z
  unfold wb223_27 at w
  unfold gV
  refine gw_pst hk 2 (st' := (30, [some (.ref 48), none, none, some (.int x3), some (.int x4)], [.ref 48, .int x4], h)) rfl ?_
  refine gw_gf (hk _ _ rfl) (RL_fI hR rfl) ?_
  refine gw_br (c := (gsV s 48 1) ≤ x4) (a := (78, [some (.ref 48), none, none, some (.int x3), some (.int x4)], [], h)) (b := (36, [some (.ref 48), none, none, some (.int x3), some (.int x4)], [], h)) (hk _ _ rfl) rfl ⟨fun z2 => ?_, fun z2 => ?_⟩
  · replace w := w.1 z2
    refine gw_pst hk 2 (st' := (13, [some (.ref 48), none, none, some (.int (x3 + (-1))), some (.int x4)], [], h)) rfl ?_
    refine gw_le (L' := [some (.ref 48), none, none, some (.int (x3 + (-1))), none]) (gm_le_k _ (gm_le_k _ (gm_le_k _ (gm_le_k _ (gm_le_n _ gm_le_nil))))) ?_
    exact hK13 _ _ w _ hR
  · replace w := w.2 z2
    refine gw_pst hk 1 (st' := (37, [some (.ref 48), none, none, some (.int x3), some (.int x4)], [.ref 48], h)) rfl ?_
    refine gw_gf (hk _ _ rfl) (RL_fR (n := 67) hR rfl) ?_
    refine gw_pst hk 2 (st' := (42, [some (.ref 48), none, none, some (.int x3), some (.int x4)], [.int x3, .ref 67, .int x3, .ref 67], h)) rfl ?_
    obtain ⟨b4, w⟩ := w
    refine gw_ald (hk _ _ rfl) (Or.inl ⟨rfl, rfl⟩) (RL_a (t := 0) (n := 21) hR rfl (by decide)) b4 ?_
    refine gw_pst hk 3 (st' := (47, [some (.ref 48), none, none, some (.int x3), some (.int x4)], [.int x4, .int x3, .ref 48, .int (gsA s 67 (x3 : Int32).toNatClampNeg), .int x3, .ref 67], h)) rfl ?_
    obtain ⟨fs5, e5⟩ := RL_o hR (r := 48) (ci := 10) rfl
    refine gw_call (jj := 222) (As := [.ref 48, .int x3, .int x4]) (rest := [.int (gsA s 67 (x3 : Int32).toNatClampNeg), .int x3, .ref 67]) (hk _ _ rfl) (fun _ => rfl) rfl rfl (Nat.le_of_ble_eq_true rfl) (gm_rcv_v rfl e5 rfl) ?_
    refine ge_imp (w h hR) (fun v5 h w => ?_)
    obtain ⟨s_5, hR, x_5, rfl, w⟩ := w
    show gw (gt_T c.1 c.2.1 c.2.2.1) c.2.2.2 d 223 (50, [some (.ref 48), none, none, some (.int x3), some (.int x4)], [.int x_5, .int (gsA s 67 (x3 : Int32).toNatClampNeg), .int x3, .ref 67], h) _
    refine gw_pst hk 1 (st' := (51, [some (.ref 48), none, none, some (.int x3), some (.int x4)], [.ref 48, .int x_5, .int (gsA s 67 (x3 : Int32).toNatClampNeg), .int x3, .ref 67], h)) rfl ?_
    refine gw_gf (hk _ _ rfl) (RL_fR (n := 67) hR rfl) ?_
    refine gw_pst hk 3 (st' := (57, [some (.ref 48), none, none, some (.int x3), some (.int x4)], [.int (x3 + 1), .ref 67, .int x_5, .int (gsA s 67 (x3 : Int32).toNatClampNeg), .int x3, .ref 67], h)) rfl ?_
    obtain ⟨b7, w⟩ := w
    refine gw_ald (hk _ _ rfl) (Or.inl ⟨rfl, rfl⟩) (RL_a (t := 0) (n := 21) hR rfl (by decide)) b7 ?_
    refine gw_pst hk 1 (st' := (59, [some (.ref 48), none, none, some (.int x3), some (.int x4)], [.int (x_5 &&& (gsA s_5 67 (x3 + 1 : Int32).toNatClampNeg)), .int (gsA s 67 (x3 : Int32).toNatClampNeg), .int x3, .ref 67], h)) rfl ?_
    refine gw_br (c := (x_5 &&& (gsA s_5 67 (x3 + 1 : Int32).toNatClampNeg)) = 0) (a := (69, [some (.ref 48), none, none, some (.int x3), some (.int x4)], [.int (gsA s 67 (x3 : Int32).toNatClampNeg), .int x3, .ref 67], h)) (b := (62, [some (.ref 48), none, none, some (.int x3), some (.int x4)], [.int (gsA s 67 (x3 : Int32).toNatClampNeg), .int x3, .ref 67], h)) (hk _ _ rfl) rfl ⟨fun z8 => ?_, fun z8 => ?_⟩
    · replace w := w.1 z8
      refine gw_pst hk 1 (st' := (70, [some (.ref 48), none, none, some (.int x3), some (.int x4)], [.int 0, .int (gsA s 67 (x3 : Int32).toNatClampNeg), .int x3, .ref 67], h)) rfl ?_
      exact ok223_70 c d Post K13 K27 hK13 hK27 _ _ _ _ _ _ _ w _ hR
    · replace w := w.2 z8
      refine gw_pst hk 4 (st' := (70, [some (.ref 48), none, none, some (.int x3), some (.int x4)], [.int (1 <<< (x4 &&& 31)), .int (gsA s 67 (x3 : Int32).toNatClampNeg), .int x3, .ref 67], h)) rfl ?_
      exact ok223_70 c d Post K13 K27 hK13 hK27 _ _ _ _ _ _ _ w _ hR
def wl223_27 (c : gx) (d : Nat) (Post : Option Value → gs → Prop) (K13 : Int32 → gs → Prop) : Nat → Int32 → Int32 → gs → Prop
  | 0 => fun _ _ _ => False
  | n + 1 => wb223_27 c d Post K13 (wl223_27 c d Post K13 n)
theorem okl223_27 (c : gx) (d : Nat) (Post : Option Value → gs → Prop) (K13 : Int32 → gs → Prop) (hK13 : ∀ (x3 : Int32) (s : gs), K13 x3 s → tV c d 223 13 [some (.ref 48), none, none, some (.int x3), none] [] s Post) : ∀ (n : Nat) (x3 : Int32) (x4 : Int32) (s : gs), wl223_27 c d Post K13 n x3 x4 s → tV c d 223 27 [some (.ref 48), none, none, some (.int x3), some (.int x4)] [] s Post
  | 0, _, _, _, w => w.elim
  | n + 1, x3, x4, s, w => okb223_27 c d Post K13 (wl223_27 c d Post K13 n) hK13 (okl223_27 c d Post K13 hK13 n) x3 x4 s w
def wb223_13 (c : gx) (d : Nat) (Post : Option Value → gs → Prop) (K13 : Int32 → gs → Prop) (x3 : Int32) (s : gs) : Prop :=
  ((x3 < 0 → vp_in 0 21 ∧ vp_in 1 108 ∧ tE c d 155 [.int (gsA s 67 (0 : Int32).toNatClampNeg), .int (gsA s 49 (1 : Int32).toNatClampNeg)] s (fun v6 s_6 => ∃ x_6 : Int32, v6 = some (.int x_6) ∧ ((x_6 = 0 ∨ x_6 = 1) ∧ Post (some (.int x_6)) s_6))) ∧ (¬ (x3 < 0) → vp_in x3 21 ∧ ∀ s_8 : gs, s_8 = gs_A s 67 (x3 : Int32).toNatClampNeg (vp_nar .int 0) → ∃ n, wl223_27 c d Post K13 n x3 0 s_8))
theorem okb223_13 (c : gx) (d : Nat) (Post : Option Value → gs → Prop) (K13 : Int32 → gs → Prop)  (hK13 : ∀ (x3 : Int32) (s : gs), K13 x3 s → tV c d 223 13 [some (.ref 48), none, none, some (.int x3), none] [] s Post) (x3 : Int32) (s : gs) (w : wb223_13 c d Post K13 x3 s) : tV c d 223 13 [some (.ref 48), none, none, some (.int x3), none] [] s Post := by
  intro h hR
  have hk : ∀ pc i, gm_find gk_223 pc = some i → gm_code (gt_T c.1 c.2.1 c.2.2.1) 223 pc = some i := fun _ _ z => z
  unfold wb223_13 at w
  unfold gV
  refine gw_pst hk 1 (st' := (14, [some (.ref 48), none, none, some (.int x3), none], [.int x3], h)) rfl ?_
  refine gw_br (c := x3 < 0) (a := (84, [some (.ref 48), none, none, some (.int x3), none], [], h)) (b := (17, [some (.ref 48), none, none, some (.int x3), none], [], h)) (hk _ _ rfl) rfl ⟨fun z1 => ?_, fun z1 => ?_⟩
  · replace w := w.1 z1
    refine gw_pst hk 1 (st' := (85, [some (.ref 48), none, none, some (.int x3), none], [.ref 48], h)) rfl ?_
    refine gw_gf (hk _ _ rfl) (RL_fR (n := 67) hR rfl) ?_
    refine gw_pst hk 1 (st' := (89, [some (.ref 48), none, none, some (.int x3), none], [.int 0, .ref 67], h)) rfl ?_
    obtain ⟨b3, w⟩ := w
    refine gw_ald (hk _ _ rfl) (Or.inl ⟨rfl, rfl⟩) (RL_a (t := 0) (n := 21) hR rfl (by decide)) b3 ?_
    refine gw_pst hk 1 (st' := (91, [some (.ref 48), none, none, some (.int x3), none], [.ref 48, .int (gsA s 67 (0 : Int32).toNatClampNeg)], h)) rfl ?_
    refine gw_gf (hk _ _ rfl) (RL_fR (n := 49) hR rfl) ?_
    refine gw_pst hk 1 (st' := (95, [some (.ref 48), none, none, some (.int x3), none], [.int 1, .ref 49, .int (gsA s 67 (0 : Int32).toNatClampNeg)], h)) rfl ?_
    obtain ⟨b5, w⟩ := w
    refine gw_ald (hk _ _ rfl) (Or.inl ⟨rfl, rfl⟩) (RL_a (t := 0) (n := 108) hR rfl (by decide)) b5 ?_
    refine gw_call (jj := 155) (As := [.int (gsA s 67 (0 : Int32).toNatClampNeg), .int (gsA s 49 (1 : Int32).toNatClampNeg)]) (rest := []) (hk _ _ rfl) (fun _ => rfl) rfl rfl (Nat.le_of_ble_eq_true rfl) rfl ?_
    refine ge_imp (w h hR) (fun v6 h w => ?_)
    obtain ⟨s_6, hR, x_6, rfl, w⟩ := w
    show gw (gt_T c.1 c.2.1 c.2.2.1) c.2.2.2 d 223 (99, [some (.ref 48), none, none, some (.int x3), none], [.int x_6], h) _
    exact gw_retZ (hk _ _ rfl) rfl w.1 ⟨_, hR, w.2⟩
  · replace w := w.2 z1
    refine gw_pst hk 1 (st' := (18, [some (.ref 48), none, none, some (.int x3), none], [.ref 48], h)) rfl ?_
    refine gw_gf (hk _ _ rfl) (RL_fR (n := 67) hR rfl) ?_
    refine gw_pst hk 2 (st' := (23, [some (.ref 48), none, none, some (.int x3), none], [.int 0, .int x3, .ref 67], h)) rfl ?_
    obtain ⟨b8, w⟩ := w
    have hR8 := RL_pA (a := 67) (t := 0) (n := 21) (k := (x3 : Int32).toNatClampNeg) (x := (vp_nar .int 0)) hR rfl (by decide)
    refine gw_ast (hk _ _ rfl) (Or.inl ⟨rfl, rfl, rfl⟩) (RL_a (t := 0) (n := 21) hR rfl (by decide)) b8 ?_
    generalize gm_put h _ _ = h at hR8 ⊢
    obtain ⟨s_8, es8⟩ : ∃ z, z = gs_A s 67 (x3 : Int32).toNatClampNeg (vp_nar .int 0) := ⟨_, rfl⟩
    rw [← es8] at hR8
    replace w := w s_8 es8
    replace hR := hR8
    refine gw_pst hk 2 (st' := (27, [some (.ref 48), none, none, some (.int x3), some (.int 0)], [], h)) rfl ?_
    obtain ⟨n, w⟩ := w
    exact okl223_27 c d Post K13 hK13 n _ _ _ w _ hR
def wl223_13 (c : gx) (d : Nat) (Post : Option Value → gs → Prop) : Nat → Int32 → gs → Prop
  | 0 => fun _ _ => False
  | n + 1 => wb223_13 c d Post (wl223_13 c d Post n)
theorem okl223_13 (c : gx) (d : Nat) (Post : Option Value → gs → Prop) : ∀ (n : Nat) (x3 : Int32) (s : gs), wl223_13 c d Post n x3 s → tV c d 223 13 [some (.ref 48), none, none, some (.int x3), none] [] s Post
  | 0, _, _, w => w.elim
  | n + 1, x3, s, w => okb223_13 c d Post (wl223_13 c d Post n) (okl223_13 c d Post n) x3 s w
/-- CommandByTurnsModel.canArrive(II)Z -/
def wm223 (c : gx) (d : Nat) (Post : Option Value → gs → Prop) (x1 : Int32) (x2 : Int32) (s : gs) : Prop :=
  vp_in x1 21 ∧ ∀ s_2 : gs, s_2 = gs_A s 67 (x1 : Int32).toNatClampNeg (vp_nar .int (1 <<< (x2 &&& 31))) → ∃ n, wl223_13 c d Post n (x1 - 1) s_2
theorem okm223 (c : gx) (d : Nat) (Post : Option Value → gs → Prop) (x1 : Int32) (x2 : Int32) (s : gs) (w : wm223 c d Post x1 x2 s) : tE c (d + 1) 223 [.ref 48, .int x1, .int x2] s Post := by
  intro h hR
  have hk : ∀ pc i, gm_find gk_223 pc = some i → gm_code (gt_T c.1 c.2.1 c.2.2.1) 223 pc = some i := fun _ _ z => z
  unfold wm223 at w
  refine ge_of (by decide) (Nat.le_of_ble_eq_true rfl) ?_
  show gw (gt_T c.1 c.2.1 c.2.2.1) c.2.2.2 d 223 (0, [some (.ref 48), some (.int x1), some (.int x2), none, none], [], h) _
  refine gw_pst hk 1 (st' := (1, [some (.ref 48), some (.int x1), some (.int x2), none, none], [.ref 48], h)) rfl ?_
  refine gw_gf (hk _ _ rfl) (RL_fR (n := 67) hR rfl) ?_
  refine gw_pst hk 4 (st' := (8, [some (.ref 48), some (.int x1), some (.int x2), none, none], [.int (1 <<< (x2 &&& 31)), .int x1, .ref 67], h)) rfl ?_
  obtain ⟨b2, w⟩ := w
  have hR2 := RL_pA (a := 67) (t := 0) (n := 21) (k := (x1 : Int32).toNatClampNeg) (x := (vp_nar .int (1 <<< (x2 &&& 31)))) hR rfl (by decide)
  refine gw_ast (hk _ _ rfl) (Or.inl ⟨rfl, rfl, rfl⟩) (RL_a (t := 0) (n := 21) hR rfl (by decide)) b2 ?_
  generalize gm_put h _ _ = h at hR2 ⊢
  obtain ⟨s_2, es2⟩ : ∃ z, z = gs_A s 67 (x1 : Int32).toNatClampNeg (vp_nar .int (1 <<< (x2 &&& 31))) := ⟨_, rfl⟩
  rw [← es2] at hR2
  replace w := w s_2 es2
  replace hR := hR2
  refine gw_pst hk 4 (st' := (13, [some (.ref 48), some (.int x1), some (.int x2), some (.int (x1 - 1)), none], [], h)) rfl ?_
  refine gw_le (L' := [some (.ref 48), none, none, some (.int (x1 - 1)), none]) (gm_le_k _ (gm_le_n _ (gm_le_n _ (gm_le_k _ (gm_le_k _ gm_le_nil))))) ?_
  obtain ⟨n, w⟩ := w
  exact okl223_13 c d Post n _ _ w _ hR
def wb224_62 (c : gx) (d : Nat) (Post : Option Value → gs → Prop) (K62 : Int32 → Int32 → Int32 → gs → Prop) (x2 : Int32) (x3 : Int32) (x4 : Int32) (s : gs) : Prop :=
  ((x2 ≤ x4 → Post (some (.int x2)) s) ∧ (¬ (x2 ≤ x4) → tE c d 222 [.ref 48, .int x4, .int x3] s (fun v2 s_2 => ∃ x_2 : Int32, v2 = some (.int x_2) ∧ vp_in (x4 + 1) 21 ∧ tE c d 265 [.int (x_2 &&& (gsA s_2 67 (x4 + 1 : Int32).toNatClampNeg))] s_2 (fun v5 s_5 => ∃ x_5 : Int32, v5 = some (.int x_5) ∧ tE c d 157 [.ref 48, .long ((x_5 : Int32).toInt64)] s_5 (fun v6 s_6 => v6 = none ∧ K62 x2 x_5 (x4 + 1) s_6)))))
theorem okb224_62 (c : gx) (d : Nat) (Post : Option Value → gs → Prop) (K62 : Int32 → Int32 → Int32 → gs → Prop)  (hK62 : ∀ (x2 : Int32) (x3 : Int32) (x4 : Int32) (s : gs), K62 x2 x3 x4 s → tV c d 224 62 [some (.ref 48), none, some (.int x2), some (.int x3), some (.int x4)] [] s Post) (x2 : Int32) (x3 : Int32) (x4 : Int32) (s : gs) (w : wb224_62 c d Post K62 x2 x3 x4 s) : tV c d 224 62 [some (.ref 48), none, some (.int x2), some (.int x3), some (.int x4)] [] s Post := by
  intro h hR
  have hk : ∀ pc i, gm_find gk_224 pc = some i → gm_code (gt_T c.1 c.2.1 c.2.2.1) 224 pc = some i := fun _ _ z => z
  unfold wb224_62 at w
  unfold gV
  refine gw_pst hk 2 (st' := (65, [some (.ref 48), none, some (.int x2), some (.int x3), some (.int x4)], [.int x2, .int x4], h)) rfl ?_
  refine gw_br (c := x2 ≤ x4) (a := (101, [some (.ref 48), none, some (.int x2), some (.int x3), some (.int x4)], [], h)) (b := (68, [some (.ref 48), none, some (.int x2), some (.int x3), some (.int x4)], [], h)) (hk _ _ rfl) rfl ⟨fun z1 => ?_, fun z1 => ?_⟩
  · replace w := w.1 z1
    refine gw_pst hk 1 (st' := (102, [some (.ref 48), none, some (.int x2), some (.int x3), some (.int x4)], [.int x2], h)) rfl ?_
    exact gw_ret (hk _ _ rfl) rfl ⟨_, hR, w⟩
  · replace w := w.2 z1
    refine gw_pst hk 3 (st' := (72, [some (.ref 48), none, some (.int x2), some (.int x3), some (.int x4)], [.int x3, .int x4, .ref 48], h)) rfl ?_
    obtain ⟨fs2, e2⟩ := RL_o hR (r := 48) (ci := 10) rfl
    refine gw_call (jj := 222) (As := [.ref 48, .int x4, .int x3]) (rest := []) (hk _ _ rfl) (fun _ => rfl) rfl rfl (Nat.le_of_ble_eq_true rfl) (gm_rcv_v rfl e2 rfl) ?_
    refine ge_imp (w h hR) (fun v2 h w => ?_)
    obtain ⟨s_2, hR, x_2, rfl, w⟩ := w
    show gw (gt_T c.1 c.2.1 c.2.2.1) c.2.2.2 d 224 (75, [some (.ref 48), none, some (.int x2), some (.int x3), some (.int x4)], [.int x_2], h) _
    refine gw_pst hk 1 (st' := (76, [some (.ref 48), none, some (.int x2), some (.int x3), some (.int x4)], [.ref 48, .int x_2], h)) rfl ?_
    refine gw_gf (hk _ _ rfl) (RL_fR (n := 67) hR rfl) ?_
    refine gw_pst hk 3 (st' := (83, [some (.ref 48), none, some (.int x2), some (.int x3), some (.int x4)], [.int (x4 + 1), .ref 67, .int x_2], h)) rfl ?_
    obtain ⟨b4, w⟩ := w
    refine gw_ald (hk _ _ rfl) (Or.inl ⟨rfl, rfl⟩) (RL_a (t := 0) (n := 21) hR rfl (by decide)) b4 ?_
    refine gw_pst hk 1 (st' := (85, [some (.ref 48), none, some (.int x2), some (.int x3), some (.int x4)], [.int (x_2 &&& (gsA s_2 67 (x4 + 1 : Int32).toNatClampNeg))], h)) rfl ?_
    refine gw_call (jj := 265) (As := [.int (x_2 &&& (gsA s_2 67 (x4 + 1 : Int32).toNatClampNeg))]) (rest := []) (hk _ _ rfl) (fun _ => rfl) rfl rfl (Nat.le_of_ble_eq_true rfl) rfl ?_
    refine ge_imp (w h hR) (fun v5 h w => ?_)
    obtain ⟨s_5, hR, x_5, rfl, w⟩ := w
    show gw (gt_T c.1 c.2.1 c.2.2.1) c.2.2.2 d 224 (88, [some (.ref 48), none, some (.int x2), some (.int x3), some (.int x4)], [.int x_5], h) _
    refine gw_pst hk 4 (st' := (92, [some (.ref 48), none, some (.int x2), some (.int x_5), some (.int x4)], [.long ((x_5 : Int32).toInt64), .ref 48], h)) rfl ?_
    obtain ⟨fs6, e6⟩ := RL_o hR (r := 48) (ci := 10) rfl
    refine gw_call (jj := 157) (As := [.ref 48, .long ((x_5 : Int32).toInt64)]) (rest := []) (hk _ _ rfl) (fun _ => rfl) rfl rfl (Nat.le_of_ble_eq_true rfl) (gm_rcv_v rfl e6 rfl) ?_
    refine ge_imp (w h hR) (fun v6 h w => ?_)
    obtain ⟨s_6, hR, rfl, w⟩ := w
    show gw (gt_T c.1 c.2.1 c.2.2.1) c.2.2.2 d 224 (95, [some (.ref 48), none, some (.int x2), some (.int x_5), some (.int x4)], [], h) _
    refine gw_pst hk 2 (st' := (62, [some (.ref 48), none, some (.int x2), some (.int x_5), some (.int (x4 + 1))], [], h)) rfl ?_
    exact hK62 _ _ _ _ w _ hR
def wl224_62 (c : gx) (d : Nat) (Post : Option Value → gs → Prop) : Nat → Int32 → Int32 → Int32 → gs → Prop
  | 0 => fun _ _ _ _ => False
  | n + 1 => wb224_62 c d Post (wl224_62 c d Post n)
theorem okl224_62 (c : gx) (d : Nat) (Post : Option Value → gs → Prop) : ∀ (n : Nat) (x2 : Int32) (x3 : Int32) (x4 : Int32) (s : gs), wl224_62 c d Post n x2 x3 x4 s → tV c d 224 62 [some (.ref 48), none, some (.int x2), some (.int x3), some (.int x4)] [] s Post
  | 0, _, _, _, _, w => w.elim
  | n + 1, x2, x3, x4, s, w => okb224_62 c d Post (wl224_62 c d Post n) (okl224_62 c d Post n) x2 x3 x4 s w
def w224_38 (c : gx) (d : Nat) (Post : Option Value → gs → Prop) (x2 : Int32) (s : gs) : Prop :=
  ((x2 ≤ 20 → ∀ s_2 : gs, s_2 = gs_V s 48 12 0 → vp_in 1 108 ∧ ∃ n, wl224_62 c d Post n x2 (gsA s_2 49 (1 : Int32).toNatClampNeg) 0 s_2) ∧ (¬ (x2 ≤ 20) → Post (some (.int (-2))) s))
theorem ok224_38 (c : gx) (d : Nat) (Post : Option Value → gs → Prop)  (x2 : Int32) (s : gs) (w : w224_38 c d Post x2 s) : tV c d 224 38 [some (.ref 48), none, some (.int x2), none, none] [] s Post := by
  intro h hR
  have hk : ∀ pc i, gm_find gk_224 pc = some i → gm_code (gt_T c.1 c.2.1 c.2.2.1) 224 pc = some i := fun _ _ z => z
  unfold w224_38 at w
  unfold gV
  refine gw_pst hk 2 (st' := (41, [some (.ref 48), none, some (.int x2), none, none], [.int 20, .int x2], h)) rfl ?_
  refine gw_br (c := x2 ≤ 20) (a := (47, [some (.ref 48), none, some (.int x2), none, none], [], h)) (b := (44, [some (.ref 48), none, some (.int x2), none, none], [], h)) (hk _ _ rfl) rfl ⟨fun z1 => ?_, fun z1 => ?_⟩
  · replace w := w.1 z1
    refine gw_pst hk 2 (st' := (49, [some (.ref 48), none, some (.int x2), none, none], [.int 0, .ref 48], h)) rfl ?_
    obtain ⟨fs2, e2⟩ := RL_o hR (r := 48) (ci := 10) rfl
    obtain ⟨l2, hR2⟩ := RL_pI (k := 12) (x := 0) hR rfl e2
    refine gw_pf (hk _ _ rfl) e2 l2 rfl ?_
    generalize gm_put h _ _ = h at hR2 ⊢
    obtain ⟨s_2, es2⟩ : ∃ z, z = gs_V s 48 12 0 := ⟨_, rfl⟩
    rw [← es2] at hR2
    replace w := w s_2 es2
    replace hR := hR2
    refine gw_pst hk 1 (st' := (53, [some (.ref 48), none, some (.int x2), none, none], [.ref 48], h)) rfl ?_
    refine gw_gf (hk _ _ rfl) (RL_fR (n := 49) hR rfl) ?_
    refine gw_pst hk 1 (st' := (57, [some (.ref 48), none, some (.int x2), none, none], [.int 1, .ref 49], h)) rfl ?_
    obtain ⟨b4, w⟩ := w
    refine gw_ald (hk _ _ rfl) (Or.inl ⟨rfl, rfl⟩) (RL_a (t := 0) (n := 108) hR rfl (by decide)) b4 ?_
    refine gw_pst hk 3 (st' := (62, [some (.ref 48), none, some (.int x2), some (.int (gsA s_2 49 (1 : Int32).toNatClampNeg)), some (.int 0)], [], h)) rfl ?_
    obtain ⟨n, w⟩ := w
    exact okl224_62 c d Post n _ _ _ _ w _ hR
  · replace w := w.2 z1
    refine gw_pst hk 1 (st' := (46, [some (.ref 48), none, some (.int x2), none, none], [.int (-2)], h)) rfl ?_
    exact gw_ret (hk _ _ rfl) rfl ⟨_, hR, w⟩
def wb224_17 (c : gx) (d : Nat) (Post : Option Value → gs → Prop) (K17 : Int32 → Int32 → gs → Prop) (x1 : Int32) (x2 : Int32) (s : gs) : Prop :=
  ((20 < x2 → w224_38 c d Post x2 s) ∧ (¬ (20 < x2) → tE c d 223 [.ref 48, .int x2, .int x1] s (fun v2 s_2 => ∃ x_2 : Int32, v2 = some (.int x_2) ∧ ((x_2 = 0 → K17 x1 (x2 + 1) s_2) ∧ (¬ (x_2 = 0) → w224_38 c d Post x2 s_2)))))
theorem okb224_17 (c : gx) (d : Nat) (Post : Option Value → gs → Prop) (K17 : Int32 → Int32 → gs → Prop)  (hK17 : ∀ (x1 : Int32) (x2 : Int32) (s : gs), K17 x1 x2 s → tV c d 224 17 [some (.ref 48), some (.int x1), some (.int x2), none, none] [] s Post) (x1 : Int32) (x2 : Int32) (s : gs) (w : wb224_17 c d Post K17 x1 x2 s) : tV c d 224 17 [some (.ref 48), some (.int x1), some (.int x2), none, none] [] s Post := by
  intro h hR
  have hk : ∀ pc i, gm_find gk_224 pc = some i → gm_code (gt_T c.1 c.2.1 c.2.2.1) 224 pc = some i := fun _ _ z => z
  unfold wb224_17 at w
  unfold gV
  refine gw_pst hk 2 (st' := (20, [some (.ref 48), some (.int x1), some (.int x2), none, none], [.int 20, .int x2], h)) rfl ?_
  refine gw_br (c := 20 < x2) (a := (38, [some (.ref 48), some (.int x1), some (.int x2), none, none], [], h)) (b := (23, [some (.ref 48), some (.int x1), some (.int x2), none, none], [], h)) (hk _ _ rfl) rfl ⟨fun z1 => ?_, fun z1 => ?_⟩
  · replace w := w.1 z1
    refine gw_le (L' := [some (.ref 48), none, some (.int x2), none, none]) (gm_le_k _ (gm_le_n _ (gm_le_k _ (gm_le_k _ (gm_le_k _ gm_le_nil))))) ?_
    exact ok224_38 c d Post _ _ w _ hR
  · replace w := w.2 z1
    refine gw_pst hk 3 (st' := (26, [some (.ref 48), some (.int x1), some (.int x2), none, none], [.int x1, .int x2, .ref 48], h)) rfl ?_
    obtain ⟨fs2, e2⟩ := RL_o hR (r := 48) (ci := 10) rfl
    refine gw_call (jj := 223) (As := [.ref 48, .int x2, .int x1]) (rest := []) (hk _ _ rfl) (fun _ => rfl) rfl rfl (Nat.le_of_ble_eq_true rfl) (gm_rcv_v rfl e2 rfl) ?_
    refine ge_imp (w h hR) (fun v2 h w => ?_)
    obtain ⟨s_2, hR, x_2, rfl, w⟩ := w
    show gw (gt_T c.1 c.2.1 c.2.2.1) c.2.2.2 d 224 (29, [some (.ref 48), some (.int x1), some (.int x2), none, none], [.int x_2], h) _
    refine gw_br (c := x_2 = 0) (a := (32, [some (.ref 48), some (.int x1), some (.int x2), none, none], [], h)) (b := (38, [some (.ref 48), some (.int x1), some (.int x2), none, none], [], h)) (hk _ _ rfl) rfl ⟨fun z3 => ?_, fun z3 => ?_⟩
    · replace w := w.1 z3
      refine gw_pst hk 2 (st' := (17, [some (.ref 48), some (.int x1), some (.int (x2 + 1)), none, none], [], h)) rfl ?_
      exact hK17 _ _ _ w _ hR
    · replace w := w.2 z3
      refine gw_le (L' := [some (.ref 48), none, some (.int x2), none, none]) (gm_le_k _ (gm_le_n _ (gm_le_k _ (gm_le_k _ (gm_le_k _ gm_le_nil))))) ?_
      exact ok224_38 c d Post _ _ w _ hR
def wl224_17 (c : gx) (d : Nat) (Post : Option Value → gs → Prop) : Nat → Int32 → Int32 → gs → Prop
  | 0 => fun _ _ _ => False
  | n + 1 => wb224_17 c d Post (wl224_17 c d Post n)
theorem okl224_17 (c : gx) (d : Nat) (Post : Option Value → gs → Prop) : ∀ (n : Nat) (x1 : Int32) (x2 : Int32) (s : gs), wl224_17 c d Post n x1 x2 s → tV c d 224 17 [some (.ref 48), some (.int x1), some (.int x2), none, none] [] s Post
  | 0, _, _, _, w => w.elim
  | n + 1, x1, x2, s, w => okb224_17 c d Post (wl224_17 c d Post n) (okl224_17 c d Post n) x1 x2 s w
/-- CommandByTurnsModel.arrives(I)I -/
def wm224 (c : gx) (d : Nat) (Post : Option Value → gs → Prop) (x1 : Int32) (s : gs) : Prop :=
  ∀ s_1 : gs, s_1 = gs_V s 48 13 0 → tE c d 158 [.ref 48, .int x1] s_1 (fun v2 s_2 => ∃ x_2 : Int32, v2 = some (.int x_2) ∧ ((x_2 = 0 → Post (some (.int (-1))) s_2) ∧ (¬ (x_2 = 0) → ∃ n, wl224_17 c d Post n x1 0 s_2)))
theorem okm224 (c : gx) (d : Nat) (Post : Option Value → gs → Prop) (x1 : Int32) (s : gs) (w : wm224 c d Post x1 s) : tE c (d + 1) 224 [.ref 48, .int x1] s Post := by
  intro h hR
  have hk : ∀ pc i, gm_find gk_224 pc = some i → gm_code (gt_T c.1 c.2.1 c.2.2.1) 224 pc = some i := fun _ _ z => z
  unfold wm224 at w
  refine ge_of (by decide) (Nat.le_of_ble_eq_true rfl) ?_
  show gw (gt_T c.1 c.2.1 c.2.2.1) c.2.2.2 d 224 (0, [some (.ref 48), some (.int x1), none, none, none], [], h) _
  refine gw_pst hk 2 (st' := (2, [some (.ref 48), some (.int x1), none, none, none], [.int 0, .ref 48], h)) rfl ?_
  obtain ⟨fs1, e1⟩ := RL_o hR (r := 48) (ci := 10) rfl
  obtain ⟨l1, hR1⟩ := RL_pI (k := 13) (x := 0) hR rfl e1
  refine gw_pf (hk _ _ rfl) e1 l1 rfl ?_
  generalize gm_put h _ _ = h at hR1 ⊢
  obtain ⟨s_1, es1⟩ : ∃ z, z = gs_V s 48 13 0 := ⟨_, rfl⟩
  rw [← es1] at hR1
  replace w := w s_1 es1
  replace hR := hR1
  refine gw_pst hk 2 (st' := (7, [some (.ref 48), some (.int x1), none, none, none], [.int x1, .ref 48], h)) rfl ?_
  obtain ⟨fs2, e2⟩ := RL_o hR (r := 48) (ci := 10) rfl
  refine gw_call (jj := 158) (As := [.ref 48, .int x1]) (rest := []) (hk _ _ rfl) (fun _ => rfl) rfl rfl (Nat.le_of_ble_eq_true rfl) (gm_rcv_v rfl e2 rfl) ?_
  refine ge_imp (w h hR) (fun v2 h w => ?_)
  obtain ⟨s_2, hR, x_2, rfl, w⟩ := w
  show gw (gt_T c.1 c.2.1 c.2.2.1) c.2.2.2 d 224 (10, [some (.ref 48), some (.int x1), none, none, none], [.int x_2], h) _
  refine gw_br (c := x_2 = 0) (a := (13, [some (.ref 48), some (.int x1), none, none, none], [], h)) (b := (15, [some (.ref 48), some (.int x1), none, none, none], [], h)) (hk _ _ rfl) rfl ⟨fun z3 => ?_, fun z3 => ?_⟩
  · replace w := w.1 z3
    refine gw_pst hk 1 (st' := (14, [some (.ref 48), some (.int x1), none, none, none], [.int (-1)], h)) rfl ?_
    exact gw_ret (hk _ _ rfl) rfl ⟨_, hR, w⟩
  · replace w := w.2 z3
    refine gw_pst hk 2 (st' := (17, [some (.ref 48), some (.int x1), some (.int 0), none, none], [], h)) rfl ?_
    obtain ⟨n, w⟩ := w
    exact okl224_17 c d Post n _ _ _ w _ hR
def w225_43 (c : gx) (d : Nat) (Post : Option Value → gs → Prop) (xs0 : Int32) (s : gs) : Prop :=
  Post (some (.int xs0)) s
theorem ok225_43 (c : gx) (d : Nat) (Post : Option Value → gs → Prop)  (xs0 : Int32) (s : gs) (w : w225_43 c d Post xs0 s) : tV c d 225 43 [none, none, none] [.int xs0] s Post := by
  intro h hR
  have hk : ∀ pc i, gm_find gk_225 pc = some i → gm_code (gt_T c.1 c.2.1 c.2.2.1) 225 pc = some i := fun _ _ z => z
  unfold w225_43 at w
  unfold gV
  exact gw_ret (hk _ _ rfl) rfl ⟨_, hR, w⟩
def w225_42 (c : gx) (d : Nat) (Post : Option Value → gs → Prop) (x2 : Int32) (s : gs) : Prop :=
  w225_43 c d Post x2 s
theorem ok225_42 (c : gx) (d : Nat) (Post : Option Value → gs → Prop)  (x2 : Int32) (s : gs) (w : w225_42 c d Post x2 s) : tV c d 225 42 [none, none, some (.int x2)] [] s Post := by
  intro h hR
  have hk : ∀ pc i, gm_find gk_225 pc = some i → gm_code (gt_T c.1 c.2.1 c.2.2.1) 225 pc = some i := fun _ _ z => z
  unfold w225_42 at w
  unfold gV
  refine gw_pst hk 1 (st' := (43, [none, none, some (.int x2)], [.int x2], h)) rfl ?_
  refine gw_le (L' := [none, none, none]) (gm_le_k _ (gm_le_k _ (gm_le_n _ gm_le_nil))) ?_
  exact ok225_43 c d Post _ _ w _ hR
/-- CommandByTurnsModel.playsOn(I)I -/
def wm225 (c : gx) (d : Nat) (Post : Option Value → gs → Prop) (x1 : Int32) (s : gs) : Prop :=
  vp_in 0 108 ∧ tE c d 184 [.ref 49, .int ((gsA s 49 (0 : Int32).toNatClampNeg) + x1)] s (fun v4 s_4 => ∃ x_4 : Int32, v4 = some (.int x_4) ∧ ((x_4 = 1 → ((31 ≤ x1 → w225_42 c d Post x_4 s_4) ∧ (¬ (31 ≤ x1) → tE c d 155 [.int (gsV s_4 48 32), .int x1] s_4 (fun v8 s_8 => ∃ x_8 : Int32, v8 = some (.int x_8) ∧ ((x_8 = 0 → w225_42 c d Post x_4 s_8) ∧ (¬ (x_8 = 0) → w225_43 c d Post 0 s_8)))))) ∧ (¬ (x_4 = 1) → w225_42 c d Post x_4 s_4)))
theorem okm225 (c : gx) (d : Nat) (Post : Option Value → gs → Prop) (x1 : Int32) (s : gs) (w : wm225 c d Post x1 s) : tE c (d + 1) 225 [.ref 48, .int x1] s Post := by
  intro h hR
  have hk : ∀ pc i, gm_find gk_225 pc = some i → gm_code (gt_T c.1 c.2.1 c.2.2.1) 225 pc = some i := fun _ _ z => z
  unfold wm225 at w
  refine ge_of (by decide) (Nat.le_of_ble_eq_true rfl) ?_
  show gw (gt_T c.1 c.2.1 c.2.2.1) c.2.2.2 d 225 (0, [some (.ref 48), some (.int x1), none], [], h) _
  refine gw_pst hk 1 (st' := (1, [some (.ref 48), some (.int x1), none], [.ref 48], h)) rfl ?_
  refine gw_gf (hk _ _ rfl) (RL_fR (n := 49) hR rfl) ?_
  refine gw_pst hk 1 (st' := (5, [some (.ref 48), some (.int x1), none], [.ref 48, .ref 49], h)) rfl ?_
  refine gw_gf (hk _ _ rfl) (RL_fR (n := 49) hR rfl) ?_
  refine gw_pst hk 1 (st' := (9, [some (.ref 48), some (.int x1), none], [.int 0, .ref 49, .ref 49], h)) rfl ?_
  obtain ⟨b3, w⟩ := w
  refine gw_ald (hk _ _ rfl) (Or.inl ⟨rfl, rfl⟩) (RL_a (t := 0) (n := 108) hR rfl (by decide)) b3 ?_
  refine gw_pst hk 2 (st' := (12, [some (.ref 48), some (.int x1), none], [.int ((gsA s 49 (0 : Int32).toNatClampNeg) + x1), .ref 49], h)) rfl ?_
  refine gw_call (jj := 184) (As := [.ref 49, .int ((gsA s 49 (0 : Int32).toNatClampNeg) + x1)]) (rest := []) (hk _ _ rfl) (fun _ => rfl) rfl rfl (Nat.le_of_ble_eq_true rfl) rfl ?_
  refine ge_imp (w h hR) (fun v4 h w => ?_)
  obtain ⟨s_4, hR, x_4, rfl, w⟩ := w
  show gw (gt_T c.1 c.2.1 c.2.2.1) c.2.2.2 d 225 (15, [some (.ref 48), some (.int x1), none], [.int x_4], h) _
  refine gw_pst hk 3 (st' := (18, [some (.ref 48), some (.int x1), some (.int x_4)], [.int 1, .int x_4], h)) rfl ?_
  refine gw_br (c := x_4 = 1) (a := (21, [some (.ref 48), some (.int x1), some (.int x_4)], [], h)) (b := (42, [some (.ref 48), some (.int x1), some (.int x_4)], [], h)) (hk _ _ rfl) rfl ⟨fun z5 => ?_, fun z5 => ?_⟩
  · replace w := w.1 z5
    refine gw_pst hk 2 (st' := (24, [some (.ref 48), some (.int x1), some (.int x_4)], [.int 31, .int x1], h)) rfl ?_
    refine gw_br (c := 31 ≤ x1) (a := (42, [some (.ref 48), some (.int x1), some (.int x_4)], [], h)) (b := (27, [some (.ref 48), some (.int x1), some (.int x_4)], [], h)) (hk _ _ rfl) rfl ⟨fun z6 => ?_, fun z6 => ?_⟩
    · replace w := w.1 z6
      refine gw_le (L' := [none, none, some (.int x_4)]) (gm_le_n _ (gm_le_n _ (gm_le_k _ gm_le_nil))) ?_
      exact ok225_42 c d Post _ _ w _ hR
    · replace w := w.2 z6
      refine gw_pst hk 1 (st' := (28, [some (.ref 48), some (.int x1), some (.int x_4)], [.ref 48], h)) rfl ?_
      refine gw_gf (hk _ _ rfl) (RL_fI hR rfl) ?_
      refine gw_pst hk 1 (st' := (32, [some (.ref 48), some (.int x1), some (.int x_4)], [.int x1, .int (gsV s_4 48 32)], h)) rfl ?_
      refine gw_call (jj := 155) (As := [.int (gsV s_4 48 32), .int x1]) (rest := []) (hk _ _ rfl) (fun _ => rfl) rfl rfl (Nat.le_of_ble_eq_true rfl) rfl ?_
      refine ge_imp (w h hR) (fun v8 h w => ?_)
      obtain ⟨s_8, hR, x_8, rfl, w⟩ := w
      show gw (gt_T c.1 c.2.1 c.2.2.1) c.2.2.2 d 225 (35, [some (.ref 48), some (.int x1), some (.int x_4)], [.int x_8], h) _
      refine gw_br (c := x_8 = 0) (a := (42, [some (.ref 48), some (.int x1), some (.int x_4)], [], h)) (b := (38, [some (.ref 48), some (.int x1), some (.int x_4)], [], h)) (hk _ _ rfl) rfl ⟨fun z9 => ?_, fun z9 => ?_⟩
      · replace w := w.1 z9
        refine gw_le (L' := [none, none, some (.int x_4)]) (gm_le_n _ (gm_le_n _ (gm_le_k _ gm_le_nil))) ?_
        exact ok225_42 c d Post _ _ w _ hR
      · replace w := w.2 z9
        refine gw_pst hk 2 (st' := (43, [some (.ref 48), some (.int x1), some (.int x_4)], [.int 0], h)) rfl ?_
        refine gw_le (L' := [none, none, none]) (gm_le_n _ (gm_le_n _ (gm_le_n _ gm_le_nil))) ?_
        exact ok225_43 c d Post _ _ w _ hR
  · replace w := w.2 z5
    refine gw_le (L' := [none, none, some (.int x_4)]) (gm_le_n _ (gm_le_n _ (gm_le_k _ gm_le_nil))) ?_
    exact ok225_42 c d Post _ _ w _ hR
def w226_65 (c : gx) (d : Nat) (Post : Option Value → gs → Prop) (K18 : Int32 → Int32 → Int32 → gs → Prop) (x2 : Int32) (x3 : Int32) (x4 : Int32) (s : gs) : Prop :=
  K18 x2 x3 (x4 + 1) s
theorem ok226_65 (c : gx) (d : Nat) (Post : Option Value → gs → Prop) (K18 : Int32 → Int32 → Int32 → gs → Prop)  (hK18 : ∀ (x2 : Int32) (x3 : Int32) (x4 : Int32) (s : gs), K18 x2 x3 x4 s → tV c d 226 18 [some (.ref 48), none, some (.int x2), some (.int x3), some (.int x4)] [] s Post) (x2 : Int32) (x3 : Int32) (x4 : Int32) (s : gs) (w : w226_65 c d Post K18 x2 x3 x4 s) : tV c d 226 65 [some (.ref 48), none, some (.int x2), some (.int x3), some (.int x4)] [] s Post := by
  intro h hR
  have hk : ∀ pc i, gm_find gk_226 pc = some i → gm_code (gt_T c.1 c.2.1 c.2.2.1) 226 pc = some i := fun _ _ z => z
  unfold w226_65 at w
  unfold gV
  refine gw_pst hk 2 (st' := (18, [some (.ref 48), none, some (.int x2), some (.int x3), some (.int (x4 + 1))], [], h)) rfl ?_
  exact hK18 _ _ _ _ w _ hR
def wb226_18 (c : gx) (d : Nat) (Post : Option Value → gs → Prop) (K18 : Int32 → Int32 → Int32 → gs → Prop) (x2 : Int32) (x3 : Int32) (x4 : Int32) (s : gs) : Prop :=
  (((gsV s 48 1) ≤ x4 → Post (some (.int x3)) s) ∧ (¬ ((gsV s 48 1) ≤ x4) → tE c d 155 [.int x2, .int x4] s (fun v3 s_3 => ∃ x_3 : Int32, v3 = some (.int x_3) ∧ ((x_3 = 0 → w226_65 c d Post K18 x2 x3 x4 s_3) ∧ (¬ (x_3 = 0) → vp_in 2 108 ∧ vp_in 2 108 ∧ (((if 0 ≤ (x3 - (gsA s_3 49 (2 : Int32).toNatClampNeg)) then (x3 - (gsA s_3 49 (2 : Int32).toNatClampNeg)) else 0 - (x3 - (gsA s_3 49 (2 : Int32).toNatClampNeg))) ≤ (if 0 ≤ (x4 - (gsA s_3 49 (2 : Int32).toNatClampNeg)) then (x4 - (gsA s_3 49 (2 : Int32).toNatClampNeg)) else 0 - (x4 - (gsA s_3 49 (2 : Int32).toNatClampNeg))) → w226_65 c d Post K18 x2 x3 x4 s_3) ∧ (¬ ((if 0 ≤ (x3 - (gsA s_3 49 (2 : Int32).toNatClampNeg)) then (x3 - (gsA s_3 49 (2 : Int32).toNatClampNeg)) else 0 - (x3 - (gsA s_3 49 (2 : Int32).toNatClampNeg))) ≤ (if 0 ≤ (x4 - (gsA s_3 49 (2 : Int32).toNatClampNeg)) then (x4 - (gsA s_3 49 (2 : Int32).toNatClampNeg)) else 0 - (x4 - (gsA s_3 49 (2 : Int32).toNatClampNeg)))) → w226_65 c d Post K18 x2 x4 x4 s_3)))))))
theorem okb226_18 (c : gx) (d : Nat) (Post : Option Value → gs → Prop) (K18 : Int32 → Int32 → Int32 → gs → Prop)  (hK18 : ∀ (x2 : Int32) (x3 : Int32) (x4 : Int32) (s : gs), K18 x2 x3 x4 s → tV c d 226 18 [some (.ref 48), none, some (.int x2), some (.int x3), some (.int x4)] [] s Post) (x2 : Int32) (x3 : Int32) (x4 : Int32) (s : gs) (w : wb226_18 c d Post K18 x2 x3 x4 s) : tV c d 226 18 [some (.ref 48), none, some (.int x2), some (.int x3), some (.int x4)] [] s Post := by
  intro h hR
  have hk : ∀ pc i, gm_find gk_226 pc = some i → gm_code (gt_T c.1 c.2.1 c.2.2.1) 226 pc = some i := fun _ _ z => z
  unfold wb226_18 at w
  unfold gV
  refine gw_pst hk 2 (st' := (21, [some (.ref 48), none, some (.int x2), some (.int x3), some (.int x4)], [.ref 48, .int x4], h)) rfl ?_
  refine gw_gf (hk _ _ rfl) (RL_fI hR rfl) ?_
  refine gw_br (c := (gsV s 48 1) ≤ x4) (a := (71, [some (.ref 48), none, some (.int x2), some (.int x3), some (.int x4)], [], h)) (b := (27, [some (.ref 48), none, some (.int x2), some (.int x3), some (.int x4)], [], h)) (hk _ _ rfl) rfl ⟨fun z2 => ?_, fun z2 => ?_⟩
  · replace w := w.1 z2
    refine gw_pst hk 1 (st' := (72, [some (.ref 48), none, some (.int x2), some (.int x3), some (.int x4)], [.int x3], h)) rfl ?_
    exact gw_ret (hk _ _ rfl) rfl ⟨_, hR, w⟩
  · replace w := w.2 z2
    refine gw_pst hk 2 (st' := (30, [some (.ref 48), none, some (.int x2), some (.int x3), some (.int x4)], [.int x4, .int x2], h)) rfl ?_
    refine gw_call (jj := 155) (As := [.int x2, .int x4]) (rest := []) (hk _ _ rfl) (fun _ => rfl) rfl rfl (Nat.le_of_ble_eq_true rfl) rfl ?_
    refine ge_imp (w h hR) (fun v3 h w => ?_)
    obtain ⟨s_3, hR, x_3, rfl, w⟩ := w
    show gw (gt_T c.1 c.2.1 c.2.2.1) c.2.2.2 d 226 (33, [some (.ref 48), none, some (.int x2), some (.int x3), some (.int x4)], [.int x_3], h) _
    refine gw_br (c := x_3 = 0) (a := (65, [some (.ref 48), none, some (.int x2), some (.int x3), some (.int x4)], [], h)) (b := (36, [some (.ref 48), none, some (.int x2), some (.int x3), some (.int x4)], [], h)) (hk _ _ rfl) rfl ⟨fun z4 => ?_, fun z4 => ?_⟩
    · replace w := w.1 z4
      exact ok226_65 c d Post K18 hK18 _ _ _ _ w _ hR
    · replace w := w.2 z4
      refine gw_pst hk 2 (st' := (39, [some (.ref 48), none, some (.int x2), some (.int x3), some (.int x4)], [.ref 48, .int x4], h)) rfl ?_
      refine gw_gf (hk _ _ rfl) (RL_fR (n := 49) hR rfl) ?_
      refine gw_pst hk 1 (st' := (43, [some (.ref 48), none, some (.int x2), some (.int x3), some (.int x4)], [.int 2, .ref 49, .int x4], h)) rfl ?_
      obtain ⟨b6, w⟩ := w
      refine gw_ald (hk _ _ rfl) (Or.inl ⟨rfl, rfl⟩) (RL_a (t := 0) (n := 108) hR rfl (by decide)) b6 ?_
      refine gw_pst hk 4 (st' := (50, [some (.ref 48), none, some (.int x2), some (.int x3), some (.int x4)], [.ref 48, .int x3, .int (if 0 ≤ (x4 - (gsA s_3 49 (2 : Int32).toNatClampNeg)) then (x4 - (gsA s_3 49 (2 : Int32).toNatClampNeg)) else 0 - (x4 - (gsA s_3 49 (2 : Int32).toNatClampNeg)))], h)) rfl ?_
      refine gw_gf (hk _ _ rfl) (RL_fR (n := 49) hR rfl) ?_
      refine gw_pst hk 1 (st' := (54, [some (.ref 48), none, some (.int x2), some (.int x3), some (.int x4)], [.int 2, .ref 49, .int x3, .int (if 0 ≤ (x4 - (gsA s_3 49 (2 : Int32).toNatClampNeg)) then (x4 - (gsA s_3 49 (2 : Int32).toNatClampNeg)) else 0 - (x4 - (gsA s_3 49 (2 : Int32).toNatClampNeg)))], h)) rfl ?_
      obtain ⟨b8, w⟩ := w
      refine gw_ald (hk _ _ rfl) (Or.inl ⟨rfl, rfl⟩) (RL_a (t := 0) (n := 108) hR rfl (by decide)) b8 ?_
      refine gw_pst hk 2 (st' := (59, [some (.ref 48), none, some (.int x2), some (.int x3), some (.int x4)], [.int (if 0 ≤ (x3 - (gsA s_3 49 (2 : Int32).toNatClampNeg)) then (x3 - (gsA s_3 49 (2 : Int32).toNatClampNeg)) else 0 - (x3 - (gsA s_3 49 (2 : Int32).toNatClampNeg))), .int (if 0 ≤ (x4 - (gsA s_3 49 (2 : Int32).toNatClampNeg)) then (x4 - (gsA s_3 49 (2 : Int32).toNatClampNeg)) else 0 - (x4 - (gsA s_3 49 (2 : Int32).toNatClampNeg)))], h)) rfl ?_
      refine gw_br (c := (if 0 ≤ (x3 - (gsA s_3 49 (2 : Int32).toNatClampNeg)) then (x3 - (gsA s_3 49 (2 : Int32).toNatClampNeg)) else 0 - (x3 - (gsA s_3 49 (2 : Int32).toNatClampNeg))) ≤ (if 0 ≤ (x4 - (gsA s_3 49 (2 : Int32).toNatClampNeg)) then (x4 - (gsA s_3 49 (2 : Int32).toNatClampNeg)) else 0 - (x4 - (gsA s_3 49 (2 : Int32).toNatClampNeg)))) (a := (65, [some (.ref 48), none, some (.int x2), some (.int x3), some (.int x4)], [], h)) (b := (62, [some (.ref 48), none, some (.int x2), some (.int x3), some (.int x4)], [], h)) (hk _ _ rfl) rfl ⟨fun z9 => ?_, fun z9 => ?_⟩
      · replace w := w.1 z9
        exact ok226_65 c d Post K18 hK18 _ _ _ _ w _ hR
      · replace w := w.2 z9
        refine gw_pst hk 2 (st' := (65, [some (.ref 48), none, some (.int x2), some (.int x4), some (.int x4)], [], h)) rfl ?_
        exact ok226_65 c d Post K18 hK18 _ _ _ _ w _ hR
def wl226_18 (c : gx) (d : Nat) (Post : Option Value → gs → Prop) : Nat → Int32 → Int32 → Int32 → gs → Prop
  | 0 => fun _ _ _ _ => False
  | n + 1 => wb226_18 c d Post (wl226_18 c d Post n)
theorem okl226_18 (c : gx) (d : Nat) (Post : Option Value → gs → Prop) : ∀ (n : Nat) (x2 : Int32) (x3 : Int32) (x4 : Int32) (s : gs), wl226_18 c d Post n x2 x3 x4 s → tV c d 226 18 [some (.ref 48), none, some (.int x2), some (.int x3), some (.int x4)] [] s Post
  | 0, _, _, _, _, w => w.elim
  | n + 1, x2, x3, x4, s, w => okb226_18 c d Post (wl226_18 c d Post n) (okl226_18 c d Post n) x2 x3 x4 s w
/-- CommandByTurnsModel.nearest(I)I -/
def wm226 (c : gx) (d : Nat) (Post : Option Value → gs → Prop) (x1 : Int32) (s : gs) : Prop :=
  vp_in 2 108 ∧ tE c d 189 [.ref 48, .int 0, .int x1, .int (gsA s 49 (2 : Int32).toNatClampNeg)] s (fun v3 s_3 => ∃ x_3 : Int32, v3 = some (.int x_3) ∧ ∃ n, wl226_18 c d Post n x_3 x1 0 s_3)
theorem okm226 (c : gx) (d : Nat) (Post : Option Value → gs → Prop) (x1 : Int32) (s : gs) (w : wm226 c d Post x1 s) : tE c (d + 1) 226 [.ref 48, .int x1] s Post := by
  intro h hR
  have hk : ∀ pc i, gm_find gk_226 pc = some i → gm_code (gt_T c.1 c.2.1 c.2.2.1) 226 pc = some i := fun _ _ z => z
  unfold wm226 at w
  refine ge_of (by decide) (Nat.le_of_ble_eq_true rfl) ?_
  show gw (gt_T c.1 c.2.1 c.2.2.1) c.2.2.2 d 226 (0, [some (.ref 48), some (.int x1), none, none, none], [], h) _
  refine gw_pst hk 4 (st' := (4, [some (.ref 48), some (.int x1), none, none, none], [.ref 48, .int x1, .int 0, .ref 48], h)) rfl ?_
  refine gw_gf (hk _ _ rfl) (RL_fR (n := 49) hR rfl) ?_
  refine gw_pst hk 1 (st' := (8, [some (.ref 48), some (.int x1), none, none, none], [.int 2, .ref 49, .int x1, .int 0, .ref 48], h)) rfl ?_
  obtain ⟨b2, w⟩ := w
  refine gw_ald (hk _ _ rfl) (Or.inl ⟨rfl, rfl⟩) (RL_a (t := 0) (n := 108) hR rfl (by decide)) b2 ?_
  obtain ⟨fs3, e3⟩ := RL_o hR (r := 48) (ci := 10) rfl
  refine gw_call (jj := 189) (As := [.ref 48, .int 0, .int x1, .int (gsA s 49 (2 : Int32).toNatClampNeg)]) (rest := []) (hk _ _ rfl) (fun _ => rfl) rfl rfl (Nat.le_of_ble_eq_true rfl) (gm_rcv_v rfl e3 rfl) ?_
  refine ge_imp (w h hR) (fun v3 h w => ?_)
  obtain ⟨s_3, hR, x_3, rfl, w⟩ := w
  show gw (gt_T c.1 c.2.1 c.2.2.1) c.2.2.2 d 226 (12, [some (.ref 48), some (.int x1), none, none, none], [.int x_3], h) _
  refine gw_pst hk 5 (st' := (18, [some (.ref 48), some (.int x1), some (.int x_3), some (.int x1), some (.int 0)], [], h)) rfl ?_
  refine gw_le (L' := [some (.ref 48), none, some (.int x_3), some (.int x1), some (.int 0)]) (gm_le_k _ (gm_le_n _ (gm_le_k _ (gm_le_k _ (gm_le_k _ gm_le_nil))))) ?_
  obtain ⟨n, w⟩ := w
  exact okl226_18 c d Post n _ _ _ _ w _ hR
/-- CommandByTurnsModel.cell(II)I -/
def wm227 (c : gx) (d : Nat) (Post : Option Value → gs → Prop) (x1 : Int32) (x2 : Int32) (s : gs) : Prop :=
  Post (some (.int ((12 * x1) + x2))) s
theorem okm227 (c : gx) (d : Nat) (Post : Option Value → gs → Prop) (x1 : Int32) (x2 : Int32) (s : gs) (w : wm227 c d Post x1 x2 s) : tE c (d + 1) 227 [.ref 48, .int x1, .int x2] s Post := by
  intro h hR
  have hk : ∀ pc i, gm_find gk_227 pc = some i → gm_code (gt_T c.1 c.2.1 c.2.2.1) 227 pc = some i := fun _ _ z => z
  unfold wm227 at w
  refine ge_of (by decide) (Nat.le_of_ble_eq_true rfl) ?_
  show gw (gt_T c.1 c.2.1 c.2.2.1) c.2.2.2 d 227 (0, [some (.ref 48), some (.int x1), some (.int x2)], [], h) _
  refine gw_pst hk 5 (st' := (6, [some (.ref 48), some (.int x1), some (.int x2)], [.int ((12 * x1) + x2)], h)) rfl ?_
  exact gw_ret (hk _ _ rfl) rfl ⟨_, hR, w⟩
/-- CommandByTurnsModel.behind(II)I -/
def wm228 (c : gx) (d : Nat) (Post : Option Value → gs → Prop) (x1 : Int32) (x2 : Int32) (s : gs) : Prop :=
  tE c d 227 [.ref 48, .int (x1 + 1), .int x2] s (fun v2 s_2 => ∃ x_2 : Int32, v2 = some (.int x_2) ∧ vp_in x_2 252 ∧ Post (some (.int (1 + (gsA s_2 68 (x_2 : Int32).toNatClampNeg)))) s_2)
theorem okm228 (c : gx) (d : Nat) (Post : Option Value → gs → Prop) (x1 : Int32) (x2 : Int32) (s : gs) (w : wm228 c d Post x1 x2 s) : tE c (d + 1) 228 [.ref 48, .int x1, .int x2] s Post := by
  intro h hR
  have hk : ∀ pc i, gm_find gk_228 pc = some i → gm_code (gt_T c.1 c.2.1 c.2.2.1) 228 pc = some i := fun _ _ z => z
  unfold wm228 at w
  refine ge_of (by decide) (Nat.le_of_ble_eq_true rfl) ?_
  show gw (gt_T c.1 c.2.1 c.2.2.1) c.2.2.2 d 228 (0, [some (.ref 48), some (.int x1), some (.int x2)], [], h) _
  refine gw_pst hk 2 (st' := (2, [some (.ref 48), some (.int x1), some (.int x2)], [.ref 48, .int 1], h)) rfl ?_
  refine gw_gf (hk _ _ rfl) (RL_fR (n := 68) hR rfl) ?_
  refine gw_pst hk 5 (st' := (10, [some (.ref 48), some (.int x1), some (.int x2)], [.int x2, .int (x1 + 1), .ref 48, .ref 68, .int 1], h)) rfl ?_
  obtain ⟨fs2, e2⟩ := RL_o hR (r := 48) (ci := 10) rfl
  refine gw_call (jj := 227) (As := [.ref 48, .int (x1 + 1), .int x2]) (rest := [.ref 68, .int 1]) (hk _ _ rfl) (fun _ => rfl) rfl rfl (Nat.le_of_ble_eq_true rfl) (gm_rcv_v rfl e2 rfl) ?_
  refine ge_imp (w h hR) (fun v2 h w => ?_)
  obtain ⟨s_2, hR, x_2, rfl, w⟩ := w
  show gw (gt_T c.1 c.2.1 c.2.2.1) c.2.2.2 d 228 (13, [some (.ref 48), some (.int x1), some (.int x2)], [.int x_2, .ref 68, .int 1], h) _
  obtain ⟨b3, w⟩ := w
  refine gw_ald (hk _ _ rfl) (Or.inl ⟨rfl, rfl⟩) (RL_a (t := 0) (n := 252) hR rfl (by decide)) b3 ?_
  refine gw_pst hk 1 (st' := (15, [some (.ref 48), some (.int x1), some (.int x2)], [.int (1 + (gsA s_2 68 (x_2 : Int32).toNatClampNeg))], h)) rfl ?_
  exact gw_ret (hk _ _ rfl) rfl ⟨_, hR, w⟩
def w229_169 (c : gx) (d : Nat) (Post : Option Value → gs → Prop) (K32 : Int32 → gs → Prop) (K45 : Int32 → Int32 → Int32 → gs → Prop) (x2 : Int32) (x3 : Int32) (x4 : Int32) (x5 : Int32) (s : gs) : Prop :=
  tE c d 227 [.ref 48, .int x2, .int x4] s (fun v2 s_2 => ∃ x_2 : Int32, v2 = some (.int x_2) ∧ vp_in x_2 252 ∧ ∀ s_3 : gs, s_3 = gs_A s_2 68 (x_2 : Int32).toNatClampNeg (vp_nar .int x5) → K45 x2 x3 (x4 + 1) s_3)
theorem ok229_169 (c : gx) (d : Nat) (Post : Option Value → gs → Prop) (K32 : Int32 → gs → Prop) (K45 : Int32 → Int32 → Int32 → gs → Prop)  (hK32 : ∀ (x2 : Int32) (s : gs), K32 x2 s → tV c d 229 32 [some (.ref 48), none, some (.int x2), none, none, none, none] [] s Post) (hK45 : ∀ (x2 : Int32) (x3 : Int32) (x4 : Int32) (s : gs), K45 x2 x3 x4 s → tV c d 229 45 [some (.ref 48), none, some (.int x2), some (.int x3), some (.int x4), none, none] [] s Post) (x2 : Int32) (x3 : Int32) (x4 : Int32) (x5 : Int32) (s : gs) (w : w229_169 c d Post K32 K45 x2 x3 x4 x5 s) : tV c d 229 169 [some (.ref 48), none, some (.int x2), some (.int x3), some (.int x4), some (.int x5), none] [] s Post := by
  intro h hR
  have hk : ∀ pc i, gm_find gk_229 pc = some i → gm_code (gt_T c.1 c.2.1 c.2.2.1) 229 pc = some i := fun _ _ z => z
  unfold w229_169 at w
  unfold gV
  refine gw_pst hk 1 (st' := (170, [some (.ref 48), none, some (.int x2), some (.int x3), some (.int x4), some (.int x5), none], [.ref 48], h)) rfl ?_
  refine gw_gf (hk _ _ rfl) (RL_fR (n := 68) hR rfl) ?_
  refine gw_pst hk 3 (st' := (177, [some (.ref 48), none, some (.int x2), some (.int x3), some (.int x4), some (.int x5), none], [.int x4, .int x2, .ref 48, .ref 68], h)) rfl ?_
  obtain ⟨fs2, e2⟩ := RL_o hR (r := 48) (ci := 10) rfl
  refine gw_call (jj := 227) (As := [.ref 48, .int x2, .int x4]) (rest := [.ref 68]) (hk _ _ rfl) (fun _ => rfl) rfl rfl (Nat.le_of_ble_eq_true rfl) (gm_rcv_v rfl e2 rfl) ?_
  refine ge_imp (w h hR) (fun v2 h w => ?_)
  obtain ⟨s_2, hR, x_2, rfl, w⟩ := w
  show gw (gt_T c.1 c.2.1 c.2.2.1) c.2.2.2 d 229 (180, [some (.ref 48), none, some (.int x2), some (.int x3), some (.int x4), some (.int x5), none], [.int x_2, .ref 68], h) _
  refine gw_pst hk 1 (st' := (182, [some (.ref 48), none, some (.int x2), some (.int x3), some (.int x4), some (.int x5), none], [.int x5, .int x_2, .ref 68], h)) rfl ?_
  obtain ⟨b3, w⟩ := w
  have hR3 := RL_pA (a := 68) (t := 0) (n := 252) (k := (x_2 : Int32).toNatClampNeg) (x := (vp_nar .int x5)) hR rfl (by decide)
  refine gw_ast (hk _ _ rfl) (Or.inl ⟨rfl, rfl, rfl⟩) (RL_a (t := 0) (n := 252) hR rfl (by decide)) b3 ?_
  generalize gm_put h _ _ = h at hR3 ⊢
  obtain ⟨s_3, es3⟩ : ∃ z, z = gs_A s_2 68 (x_2 : Int32).toNatClampNeg (vp_nar .int x5) := ⟨_, rfl⟩
  rw [← es3] at hR3
  replace w := w s_3 es3
  replace hR := hR3
  refine gw_pst hk 2 (st' := (45, [some (.ref 48), none, some (.int x2), some (.int x3), some (.int (x4 + 1)), some (.int x5), none], [], h)) rfl ?_
  refine gw_le (L' := [some (.ref 48), none, some (.int x2), some (.int x3), some (.int (x4 + 1)), none, none]) (gm_le_k _ (gm_le_k _ (gm_le_k _ (gm_le_k _ (gm_le_k _ (gm_le_n _ (gm_le_k _ gm_le_nil))))))) ?_
  exact hK45 _ _ _ _ w _ hR
def w229_94 (c : gx) (d : Nat) (Post : Option Value → gs → Prop) (K32 : Int32 → gs → Prop) (K45 : Int32 → Int32 → Int32 → gs → Prop) (x2 : Int32) (x3 : Int32) (x4 : Int32) (xs0 : Int32) (s : gs) : Prop :=
  w229_169 c d Post K32 K45 x2 x3 x4 xs0 s
theorem ok229_94 (c : gx) (d : Nat) (Post : Option Value → gs → Prop) (K32 : Int32 → gs → Prop) (K45 : Int32 → Int32 → Int32 → gs → Prop)  (hK32 : ∀ (x2 : Int32) (s : gs), K32 x2 s → tV c d 229 32 [some (.ref 48), none, some (.int x2), none, none, none, none] [] s Post) (hK45 : ∀ (x2 : Int32) (x3 : Int32) (x4 : Int32) (s : gs), K45 x2 x3 x4 s → tV c d 229 45 [some (.ref 48), none, some (.int x2), some (.int x3), some (.int x4), none, none] [] s Post) (x2 : Int32) (x3 : Int32) (x4 : Int32) (xs0 : Int32) (s : gs) (w : w229_94 c d Post K32 K45 x2 x3 x4 xs0 s) : tV c d 229 94 [some (.ref 48), none, some (.int x2), some (.int x3), some (.int x4), none, none] [.int xs0] s Post := by
  intro h hR
  have hk : ∀ pc i, gm_find gk_229 pc = some i → gm_code (gt_T c.1 c.2.1 c.2.2.1) 229 pc = some i := fun _ _ z => z
  unfold w229_94 at w
  unfold gV
  refine gw_pst hk 2 (st' := (169, [some (.ref 48), none, some (.int x2), some (.int x3), some (.int x4), some (.int xs0), none], [], h)) rfl ?_
  exact ok229_169 c d Post K32 K45 hK32 hK45 _ _ _ _ _ w _ hR
def w229_163 (c : gx) (d : Nat) (Post : Option Value → gs → Prop) (K32 : Int32 → gs → Prop) (K45 : Int32 → Int32 → Int32 → gs → Prop) (K119 : Int32 → Int32 → Int32 → Int32 → Int32 → gs → Prop) (x2 : Int32) (x3 : Int32) (x4 : Int32) (x5 : Int32) (x6 : Int32) (s : gs) : Prop :=
  K119 x2 x3 x4 x5 (x6 + 1) s
theorem ok229_163 (c : gx) (d : Nat) (Post : Option Value → gs → Prop) (K32 : Int32 → gs → Prop) (K45 : Int32 → Int32 → Int32 → gs → Prop) (K119 : Int32 → Int32 → Int32 → Int32 → Int32 → gs → Prop)  (hK32 : ∀ (x2 : Int32) (s : gs), K32 x2 s → tV c d 229 32 [some (.ref 48), none, some (.int x2), none, none, none, none] [] s Post) (hK45 : ∀ (x2 : Int32) (x3 : Int32) (x4 : Int32) (s : gs), K45 x2 x3 x4 s → tV c d 229 45 [some (.ref 48), none, some (.int x2), some (.int x3), some (.int x4), none, none] [] s Post) (hK119 : ∀ (x2 : Int32) (x3 : Int32) (x4 : Int32) (x5 : Int32) (x6 : Int32) (s : gs), K119 x2 x3 x4 x5 x6 s → tV c d 229 119 [some (.ref 48), none, some (.int x2), some (.int x3), some (.int x4), some (.int x5), some (.int x6)] [] s Post) (x2 : Int32) (x3 : Int32) (x4 : Int32) (x5 : Int32) (x6 : Int32) (s : gs) (w : w229_163 c d Post K32 K45 K119 x2 x3 x4 x5 x6 s) : tV c d 229 163 [some (.ref 48), none, some (.int x2), some (.int x3), some (.int x4), some (.int x5), some (.int x6)] [] s Post := by
  intro h hR
  have hk : ∀ pc i, gm_find gk_229 pc = some i → gm_code (gt_T c.1 c.2.1 c.2.2.1) 229 pc = some i := fun _ _ z => z
  unfold w229_163 at w
  unfold gV
  refine gw_pst hk 2 (st' := (119, [some (.ref 48), none, some (.int x2), some (.int x3), some (.int x4), some (.int x5), some (.int (x6 + 1))], [], h)) rfl ?_
  exact hK119 _ _ _ _ _ _ w _ hR
def wb229_119 (c : gx) (d : Nat) (Post : Option Value → gs → Prop) (K32 : Int32 → gs → Prop) (K45 : Int32 → Int32 → Int32 → gs → Prop) (K119 : Int32 → Int32 → Int32 → Int32 → Int32 → gs → Prop) (x2 : Int32) (x3 : Int32) (x4 : Int32) (x5 : Int32) (x6 : Int32) (s : gs) : Prop :=
  (((gsV s 48 1) ≤ x6 → w229_169 c d Post K32 K45 x2 x3 x4 x5 s) ∧ (¬ ((gsV s 48 1) ≤ x6) → vp_in 2 108 ∧ tE c d 189 [.ref 48, .int 1, .int x4, .int (gsA s 49 (2 : Int32).toNatClampNeg)] s (fun v5 s_5 => ∃ x_5 : Int32, v5 = some (.int x_5) ∧ tE c d 155 [.int x_5, .int x6] s_5 (fun v6 s_6 => ∃ x_6 : Int32, v6 = some (.int x_6) ∧ ((x_6 = 0 → w229_163 c d Post K32 K45 K119 x2 x3 x4 x5 x6 s_6) ∧ (¬ (x_6 = 0) → tE c d 228 [.ref 48, .int x2, .int x6] s_6 (fun v8 s_8 => ∃ x_8 : Int32, v8 = some (.int x_8) ∧ w229_163 c d Post K32 K45 K119 x2 x3 x4 (if x5 < x_8 then x_8 else x5) x6 s_8)))))))
theorem okb229_119 (c : gx) (d : Nat) (Post : Option Value → gs → Prop) (K32 : Int32 → gs → Prop) (K45 : Int32 → Int32 → Int32 → gs → Prop) (K119 : Int32 → Int32 → Int32 → Int32 → Int32 → gs → Prop)  (hK32 : ∀ (x2 : Int32) (s : gs), K32 x2 s → tV c d 229 32 [some (.ref 48), none, some (.int x2), none, none, none, none] [] s Post) (hK45 : ∀ (x2 : Int32) (x3 : Int32) (x4 : Int32) (s : gs), K45 x2 x3 x4 s → tV c d 229 45 [some (.ref 48), none, some (.int x2), some (.int x3), some (.int x4), none, none] [] s Post) (hK119 : ∀ (x2 : Int32) (x3 : Int32) (x4 : Int32) (x5 : Int32) (x6 : Int32) (s : gs), K119 x2 x3 x4 x5 x6 s → tV c d 229 119 [some (.ref 48), none, some (.int x2), some (.int x3), some (.int x4), some (.int x5), some (.int x6)] [] s Post) (x2 : Int32) (x3 : Int32) (x4 : Int32) (x5 : Int32) (x6 : Int32) (s : gs) (w : wb229_119 c d Post K32 K45 K119 x2 x3 x4 x5 x6 s) : tV c d 229 119 [some (.ref 48), none, some (.int x2), some (.int x3), some (.int x4), some (.int x5), some (.int x6)] [] s Post := by
  intro h hR
  have hk : ∀ pc i, gm_find gk_229 pc = some i → gm_code (gt_T c.1 c.2.1 c.2.2.1) 229 pc = some i := fun _ _ z => z
  unfold wb229_119 at w
  unfold gV
  refine gw_pst hk 2 (st' := (122, [some (.ref 48), none, some (.int x2), some (.int x3), some (.int x4), some (.int x5), some (.int x6)], [.ref 48, .int x6], h)) rfl ?_
  refine gw_gf (hk _ _ rfl) (RL_fI hR rfl) ?_
  refine gw_br (c := (gsV s 48 1) ≤ x6) (a := (169, [some (.ref 48), none, some (.int x2), some (.int x3), some (.int x4), some (.int x5), some (.int x6)], [], h)) (b := (128, [some (.ref 48), none, some (.int x2), some (.int x3), some (.int x4), some (.int x5), some (.int x6)], [], h)) (hk _ _ rfl) rfl ⟨fun z2 => ?_, fun z2 => ?_⟩
  · replace w := w.1 z2
    refine gw_le (L' := [some (.ref 48), none, some (.int x2), some (.int x3), some (.int x4), some (.int x5), none]) (gm_le_k _ (gm_le_k _ (gm_le_k _ (gm_le_k _ (gm_le_k _ (gm_le_k _ (gm_le_n _ gm_le_nil))))))) ?_
    exact ok229_169 c d Post K32 K45 hK32 hK45 _ _ _ _ _ w _ hR
  · replace w := w.2 z2
    refine gw_pst hk 4 (st' := (133, [some (.ref 48), none, some (.int x2), some (.int x3), some (.int x4), some (.int x5), some (.int x6)], [.ref 48, .int x4, .int 1, .ref 48], h)) rfl ?_
    refine gw_gf (hk _ _ rfl) (RL_fR (n := 49) hR rfl) ?_
    refine gw_pst hk 1 (st' := (137, [some (.ref 48), none, some (.int x2), some (.int x3), some (.int x4), some (.int x5), some (.int x6)], [.int 2, .ref 49, .int x4, .int 1, .ref 48], h)) rfl ?_
    obtain ⟨b4, w⟩ := w
    refine gw_ald (hk _ _ rfl) (Or.inl ⟨rfl, rfl⟩) (RL_a (t := 0) (n := 108) hR rfl (by decide)) b4 ?_
    obtain ⟨fs5, e5⟩ := RL_o hR (r := 48) (ci := 10) rfl
    refine gw_call (jj := 189) (As := [.ref 48, .int 1, .int x4, .int (gsA s 49 (2 : Int32).toNatClampNeg)]) (rest := []) (hk _ _ rfl) (fun _ => rfl) rfl rfl (Nat.le_of_ble_eq_true rfl) (gm_rcv_v rfl e5 rfl) ?_
    refine ge_imp (w h hR) (fun v5 h w => ?_)
    obtain ⟨s_5, hR, x_5, rfl, w⟩ := w
    show gw (gt_T c.1 c.2.1 c.2.2.1) c.2.2.2 d 229 (141, [some (.ref 48), none, some (.int x2), some (.int x3), some (.int x4), some (.int x5), some (.int x6)], [.int x_5], h) _
    refine gw_pst hk 1 (st' := (143, [some (.ref 48), none, some (.int x2), some (.int x3), some (.int x4), some (.int x5), some (.int x6)], [.int x6, .int x_5], h)) rfl ?_
    refine gw_call (jj := 155) (As := [.int x_5, .int x6]) (rest := []) (hk _ _ rfl) (fun _ => rfl) rfl rfl (Nat.le_of_ble_eq_true rfl) rfl ?_
    refine ge_imp (w h hR) (fun v6 h w => ?_)
    obtain ⟨s_6, hR, x_6, rfl, w⟩ := w
    show gw (gt_T c.1 c.2.1 c.2.2.1) c.2.2.2 d 229 (146, [some (.ref 48), none, some (.int x2), some (.int x3), some (.int x4), some (.int x5), some (.int x6)], [.int x_6], h) _
    refine gw_br (c := x_6 = 0) (a := (163, [some (.ref 48), none, some (.int x2), some (.int x3), some (.int x4), some (.int x5), some (.int x6)], [], h)) (b := (149, [some (.ref 48), none, some (.int x2), some (.int x3), some (.int x4), some (.int x5), some (.int x6)], [], h)) (hk _ _ rfl) rfl ⟨fun z7 => ?_, fun z7 => ?_⟩
    · replace w := w.1 z7
      exact ok229_163 c d Post K32 K45 K119 hK32 hK45 hK119 _ _ _ _ _ _ w _ hR
    · replace w := w.2 z7
      refine gw_pst hk 4 (st' := (155, [some (.ref 48), none, some (.int x2), some (.int x3), some (.int x4), some (.int x5), some (.int x6)], [.int x6, .int x2, .ref 48, .int x5], h)) rfl ?_
      obtain ⟨fs8, e8⟩ := RL_o hR (r := 48) (ci := 10) rfl
      refine gw_call (jj := 228) (As := [.ref 48, .int x2, .int x6]) (rest := [.int x5]) (hk _ _ rfl) (fun _ => rfl) rfl rfl (Nat.le_of_ble_eq_true rfl) (gm_rcv_v rfl e8 rfl) ?_
      refine ge_imp (w h hR) (fun v8 h w => ?_)
      obtain ⟨s_8, hR, x_8, rfl, w⟩ := w
      show gw (gt_T c.1 c.2.1 c.2.2.1) c.2.2.2 d 229 (158, [some (.ref 48), none, some (.int x2), some (.int x3), some (.int x4), some (.int x5), some (.int x6)], [.int x_8, .int x5], h) _
      refine gw_pst hk 2 (st' := (163, [some (.ref 48), none, some (.int x2), some (.int x3), some (.int x4), some (.int (if x5 < x_8 then x_8 else x5)), some (.int x6)], [], h)) rfl ?_
      exact ok229_163 c d Post K32 K45 K119 hK32 hK45 hK119 _ _ _ _ _ _ w _ hR
def wl229_119 (c : gx) (d : Nat) (Post : Option Value → gs → Prop) (K32 : Int32 → gs → Prop) (K45 : Int32 → Int32 → Int32 → gs → Prop) : Nat → Int32 → Int32 → Int32 → Int32 → Int32 → gs → Prop
  | 0 => fun _ _ _ _ _ _ => False
  | n + 1 => wb229_119 c d Post K32 K45 (wl229_119 c d Post K32 K45 n)
theorem okl229_119 (c : gx) (d : Nat) (Post : Option Value → gs → Prop) (K32 : Int32 → gs → Prop) (K45 : Int32 → Int32 → Int32 → gs → Prop) (hK32 : ∀ (x2 : Int32) (s : gs), K32 x2 s → tV c d 229 32 [some (.ref 48), none, some (.int x2), none, none, none, none] [] s Post) (hK45 : ∀ (x2 : Int32) (x3 : Int32) (x4 : Int32) (s : gs), K45 x2 x3 x4 s → tV c d 229 45 [some (.ref 48), none, some (.int x2), some (.int x3), some (.int x4), none, none] [] s Post) : ∀ (n : Nat) (x2 : Int32) (x3 : Int32) (x4 : Int32) (x5 : Int32) (x6 : Int32) (s : gs), wl229_119 c d Post K32 K45 n x2 x3 x4 x5 x6 s → tV c d 229 119 [some (.ref 48), none, some (.int x2), some (.int x3), some (.int x4), some (.int x5), some (.int x6)] [] s Post
  | 0, _, _, _, _, _, _, w => w.elim
  | n + 1, x2, x3, x4, x5, x6, s, w => okb229_119 c d Post K32 K45 (wl229_119 c d Post K32 K45 n) hK32 hK45 (okl229_119 c d Post K32 K45 hK32 hK45 n) x2 x3 x4 x5 x6 s w
def wb229_45 (c : gx) (d : Nat) (Post : Option Value → gs → Prop) (K32 : Int32 → gs → Prop) (K45 : Int32 → Int32 → Int32 → gs → Prop) (x2 : Int32) (x3 : Int32) (x4 : Int32) (s : gs) : Prop :=
  (((gsV s 48 1) ≤ x4 → K32 (x2 + (-1)) s) ∧ (¬ ((gsV s 48 1) ≤ x4) → ((x3 = 0 → tE c d 226 [.ref 48, .int x4] s (fun v4 s_4 => ∃ x_4 : Int32, v4 = some (.int x_4) ∧ vp_in 2 108 ∧ tE c d 185 [.int x_4, .int (gsA s_4 49 (2 : Int32).toNatClampNeg)] s_4 (fun v7 s_7 => ∃ x_7 : Int32, v7 = some (.int x_7) ∧ ((x_7 = 0 → tE c d 226 [.ref 48, .int x4] s_7 (fun v9 s_9 => ∃ x_9 : Int32, v9 = some (.int x_9) ∧ tE c d 228 [.ref 48, .int x2, .int x_9] s_9 (fun v10 s_10 => ∃ x_10 : Int32, v10 = some (.int x_10) ∧ w229_94 c d Post K32 K45 x2 x3 x4 x_10 s_10))) ∧ (¬ (x_7 = 0) → w229_94 c d Post K32 K45 x2 x3 x4 0 s_7))))) ∧ (¬ (x3 = 0) → ((x3 = (-1) → tE c d 228 [.ref 48, .int x2, .int x4] s (fun v12 s_12 => ∃ x_12 : Int32, v12 = some (.int x_12) ∧ w229_169 c d Post K32 K45 x2 x3 x4 x_12 s_12)) ∧ (¬ (x3 = (-1)) → ∃ n, wl229_119 c d Post K32 K45 n x2 x3 x4 0 0 s))))))
theorem okb229_45 (c : gx) (d : Nat) (Post : Option Value → gs → Prop) (K32 : Int32 → gs → Prop) (K45 : Int32 → Int32 → Int32 → gs → Prop)  (hK32 : ∀ (x2 : Int32) (s : gs), K32 x2 s → tV c d 229 32 [some (.ref 48), none, some (.int x2), none, none, none, none] [] s Post) (hK45 : ∀ (x2 : Int32) (x3 : Int32) (x4 : Int32) (s : gs), K45 x2 x3 x4 s → tV c d 229 45 [some (.ref 48), none, some (.int x2), some (.int x3), some (.int x4), none, none] [] s Post) (x2 : Int32) (x3 : Int32) (x4 : Int32) (s : gs) (w : wb229_45 c d Post K32 K45 x2 x3 x4 s) : tV c d 229 45 [some (.ref 48), none, some (.int x2), some (.int x3), some (.int x4), none, none] [] s Post := by
  intro h hR
  have hk : ∀ pc i, gm_find gk_229 pc = some i → gm_code (gt_T c.1 c.2.1 c.2.2.1) 229 pc = some i := fun _ _ z => z
  unfold wb229_45 at w
  unfold gV
  refine gw_pst hk 2 (st' := (48, [some (.ref 48), none, some (.int x2), some (.int x3), some (.int x4), none, none], [.ref 48, .int x4], h)) rfl ?_
  refine gw_gf (hk _ _ rfl) (RL_fI hR rfl) ?_
  refine gw_br (c := (gsV s 48 1) ≤ x4) (a := (189, [some (.ref 48), none, some (.int x2), some (.int x3), some (.int x4), none, none], [], h)) (b := (54, [some (.ref 48), none, some (.int x2), some (.int x3), some (.int x4), none, none], [], h)) (hk _ _ rfl) rfl ⟨fun z2 => ?_, fun z2 => ?_⟩
  · replace w := w.1 z2
    refine gw_pst hk 2 (st' := (32, [some (.ref 48), none, some (.int (x2 + (-1))), some (.int x3), some (.int x4), none, none], [], h)) rfl ?_
    refine gw_le (L' := [some (.ref 48), none, some (.int (x2 + (-1))), none, none, none, none]) (gm_le_k _ (gm_le_k _ (gm_le_k _ (gm_le_n _ (gm_le_n _ (gm_le_k _ (gm_le_k _ gm_le_nil))))))) ?_
    exact hK32 _ _ w _ hR
  · replace w := w.2 z2
    refine gw_pst hk 3 (st' := (58, [some (.ref 48), none, some (.int x2), some (.int x3), some (.int x4), some (.int 0), none], [.int x3], h)) rfl ?_
    refine gw_br (c := x3 = 0) (a := (61, [some (.ref 48), none, some (.int x2), some (.int x3), some (.int x4), some (.int 0), none], [], h)) (b := (99, [some (.ref 48), none, some (.int x2), some (.int x3), some (.int x4), some (.int 0), none], [], h)) (hk _ _ rfl) rfl ⟨fun z3 => ?_, fun z3 => ?_⟩
    · replace w := w.1 z3
      refine gw_pst hk 2 (st' := (64, [some (.ref 48), none, some (.int x2), some (.int x3), some (.int x4), some (.int 0), none], [.int x4, .ref 48], h)) rfl ?_
      obtain ⟨fs4, e4⟩ := RL_o hR (r := 48) (ci := 10) rfl
      refine gw_call (jj := 226) (As := [.ref 48, .int x4]) (rest := []) (hk _ _ rfl) (fun _ => rfl) rfl rfl (Nat.le_of_ble_eq_true rfl) (gm_rcv_v rfl e4 rfl) ?_
      refine ge_imp (w h hR) (fun v4 h w => ?_)
      obtain ⟨s_4, hR, x_4, rfl, w⟩ := w
      show gw (gt_T c.1 c.2.1 c.2.2.1) c.2.2.2 d 229 (67, [some (.ref 48), none, some (.int x2), some (.int x3), some (.int x4), some (.int 0), none], [.int x_4], h) _
      refine gw_pst hk 1 (st' := (68, [some (.ref 48), none, some (.int x2), some (.int x3), some (.int x4), some (.int 0), none], [.ref 48, .int x_4], h)) rfl ?_
      refine gw_gf (hk _ _ rfl) (RL_fR (n := 49) hR rfl) ?_
      refine gw_pst hk 1 (st' := (72, [some (.ref 48), none, some (.int x2), some (.int x3), some (.int x4), some (.int 0), none], [.int 2, .ref 49, .int x_4], h)) rfl ?_
      obtain ⟨b6, w⟩ := w
      refine gw_ald (hk _ _ rfl) (Or.inl ⟨rfl, rfl⟩) (RL_a (t := 0) (n := 108) hR rfl (by decide)) b6 ?_
      refine gw_call (jj := 185) (As := [.int x_4, .int (gsA s_4 49 (2 : Int32).toNatClampNeg)]) (rest := []) (hk _ _ rfl) (fun _ => rfl) rfl rfl (Nat.le_of_ble_eq_true rfl) rfl ?_
      refine ge_imp (w h hR) (fun v7 h w => ?_)
      obtain ⟨s_7, hR, x_7, rfl, w⟩ := w
      show gw (gt_T c.1 c.2.1 c.2.2.1) c.2.2.2 d 229 (76, [some (.ref 48), none, some (.int x2), some (.int x3), some (.int x4), some (.int 0), none], [.int x_7], h) _
      refine gw_br (c := x_7 = 0) (a := (83, [some (.ref 48), none, some (.int x2), some (.int x3), some (.int x4), some (.int 0), none], [], h)) (b := (79, [some (.ref 48), none, some (.int x2), some (.int x3), some (.int x4), some (.int 0), none], [], h)) (hk _ _ rfl) rfl ⟨fun z8 => ?_, fun z8 => ?_⟩
      · replace w := w.1 z8
        refine gw_pst hk 4 (st' := (88, [some (.ref 48), none, some (.int x2), some (.int x3), some (.int x4), some (.int 0), none], [.int x4, .ref 48, .int x2, .ref 48], h)) rfl ?_
        obtain ⟨fs9, e9⟩ := RL_o hR (r := 48) (ci := 10) rfl
        refine gw_call (jj := 226) (As := [.ref 48, .int x4]) (rest := [.int x2, .ref 48]) (hk _ _ rfl) (fun _ => rfl) rfl rfl (Nat.le_of_ble_eq_true rfl) (gm_rcv_v rfl e9 rfl) ?_
        refine ge_imp (w h hR) (fun v9 h w => ?_)
        obtain ⟨s_9, hR, x_9, rfl, w⟩ := w
        show gw (gt_T c.1 c.2.1 c.2.2.1) c.2.2.2 d 229 (91, [some (.ref 48), none, some (.int x2), some (.int x3), some (.int x4), some (.int 0), none], [.int x_9, .int x2, .ref 48], h) _
        obtain ⟨fs10, e10⟩ := RL_o hR (r := 48) (ci := 10) rfl
        refine gw_call (jj := 228) (As := [.ref 48, .int x2, .int x_9]) (rest := []) (hk _ _ rfl) (fun _ => rfl) rfl rfl (Nat.le_of_ble_eq_true rfl) (gm_rcv_v rfl e10 rfl) ?_
        refine ge_imp (w h hR) (fun v10 h w => ?_)
        obtain ⟨s_10, hR, x_10, rfl, w⟩ := w
        show gw (gt_T c.1 c.2.1 c.2.2.1) c.2.2.2 d 229 (94, [some (.ref 48), none, some (.int x2), some (.int x3), some (.int x4), some (.int 0), none], [.int x_10], h) _
        refine gw_le (L' := [some (.ref 48), none, some (.int x2), some (.int x3), some (.int x4), none, none]) (gm_le_k _ (gm_le_k _ (gm_le_k _ (gm_le_k _ (gm_le_k _ (gm_le_n _ (gm_le_k _ gm_le_nil))))))) ?_
        exact ok229_94 c d Post K32 K45 hK32 hK45 _ _ _ _ _ w _ hR
      · replace w := w.2 z8
        refine gw_pst hk 2 (st' := (94, [some (.ref 48), none, some (.int x2), some (.int x3), some (.int x4), some (.int 0), none], [.int 0], h)) rfl ?_
        refine gw_le (L' := [some (.ref 48), none, some (.int x2), some (.int x3), some (.int x4), none, none]) (gm_le_k _ (gm_le_k _ (gm_le_k _ (gm_le_k _ (gm_le_k _ (gm_le_n _ (gm_le_k _ gm_le_nil))))))) ?_
        exact ok229_94 c d Post K32 K45 hK32 hK45 _ _ _ _ _ w _ hR
    · replace w := w.2 z3
      refine gw_pst hk 2 (st' := (101, [some (.ref 48), none, some (.int x2), some (.int x3), some (.int x4), some (.int 0), none], [.int (-1), .int x3], h)) rfl ?_
      refine gw_br (c := x3 = (-1)) (a := (104, [some (.ref 48), none, some (.int x2), some (.int x3), some (.int x4), some (.int 0), none], [], h)) (b := (116, [some (.ref 48), none, some (.int x2), some (.int x3), some (.int x4), some (.int 0), none], [], h)) (hk _ _ rfl) rfl ⟨fun z11 => ?_, fun z11 => ?_⟩
      · replace w := w.1 z11
        refine gw_pst hk 3 (st' := (108, [some (.ref 48), none, some (.int x2), some (.int x3), some (.int x4), some (.int 0), none], [.int x4, .int x2, .ref 48], h)) rfl ?_
        obtain ⟨fs12, e12⟩ := RL_o hR (r := 48) (ci := 10) rfl
        refine gw_call (jj := 228) (As := [.ref 48, .int x2, .int x4]) (rest := []) (hk _ _ rfl) (fun _ => rfl) rfl rfl (Nat.le_of_ble_eq_true rfl) (gm_rcv_v rfl e12 rfl) ?_
        refine ge_imp (w h hR) (fun v12 h w => ?_)
        obtain ⟨s_12, hR, x_12, rfl, w⟩ := w
        show gw (gt_T c.1 c.2.1 c.2.2.1) c.2.2.2 d 229 (111, [some (.ref 48), none, some (.int x2), some (.int x3), some (.int x4), some (.int 0), none], [.int x_12], h) _
        refine gw_pst hk 2 (st' := (169, [some (.ref 48), none, some (.int x2), some (.int x3), some (.int x4), some (.int x_12), none], [], h)) rfl ?_
        exact ok229_169 c d Post K32 K45 hK32 hK45 _ _ _ _ _ w _ hR
      · replace w := w.2 z11
        refine gw_pst hk 2 (st' := (119, [some (.ref 48), none, some (.int x2), some (.int x3), some (.int x4), some (.int 0), some (.int 0)], [], h)) rfl ?_
        obtain ⟨n, w⟩ := w
        exact okl229_119 c d Post K32 K45 hK32 hK45 n _ _ _ _ _ _ w _ hR
def wl229_45 (c : gx) (d : Nat) (Post : Option Value → gs → Prop) (K32 : Int32 → gs → Prop) : Nat → Int32 → Int32 → Int32 → gs → Prop
  | 0 => fun _ _ _ _ => False
  | n + 1 => wb229_45 c d Post K32 (wl229_45 c d Post K32 n)
theorem okl229_45 (c : gx) (d : Nat) (Post : Option Value → gs → Prop) (K32 : Int32 → gs → Prop) (hK32 : ∀ (x2 : Int32) (s : gs), K32 x2 s → tV c d 229 32 [some (.ref 48), none, some (.int x2), none, none, none, none] [] s Post) : ∀ (n : Nat) (x2 : Int32) (x3 : Int32) (x4 : Int32) (s : gs), wl229_45 c d Post K32 n x2 x3 x4 s → tV c d 229 45 [some (.ref 48), none, some (.int x2), some (.int x3), some (.int x4), none, none] [] s Post
  | 0, _, _, _, _, w => w.elim
  | n + 1, x2, x3, x4, s, w => okb229_45 c d Post K32 (wl229_45 c d Post K32 n) hK32 (okl229_45 c d Post K32 hK32 n) x2 x3 x4 s w
def wb229_32 (c : gx) (d : Nat) (Post : Option Value → gs → Prop) (K32 : Int32 → gs → Prop) (x2 : Int32) (s : gs) : Prop :=
  ((x2 < 0 → Post none s) ∧ (¬ (x2 < 0) → tE c d 225 [.ref 48, .int x2] s (fun v2 s_2 => ∃ x_2 : Int32, v2 = some (.int x_2) ∧ ∃ n, wl229_45 c d Post K32 n x2 x_2 0 s_2)))
theorem okb229_32 (c : gx) (d : Nat) (Post : Option Value → gs → Prop) (K32 : Int32 → gs → Prop)  (hK32 : ∀ (x2 : Int32) (s : gs), K32 x2 s → tV c d 229 32 [some (.ref 48), none, some (.int x2), none, none, none, none] [] s Post) (x2 : Int32) (s : gs) (w : wb229_32 c d Post K32 x2 s) : tV c d 229 32 [some (.ref 48), none, some (.int x2), none, none, none, none] [] s Post := by
  intro h hR
  have hk : ∀ pc i, gm_find gk_229 pc = some i → gm_code (gt_T c.1 c.2.1 c.2.2.1) 229 pc = some i := fun _ _ z => z
  unfold wb229_32 at w
  unfold gV
  refine gw_pst hk 1 (st' := (33, [some (.ref 48), none, some (.int x2), none, none, none, none], [.int x2], h)) rfl ?_
  refine gw_br (c := x2 < 0) (a := (195, [some (.ref 48), none, some (.int x2), none, none, none, none], [], h)) (b := (36, [some (.ref 48), none, some (.int x2), none, none, none, none], [], h)) (hk _ _ rfl) rfl ⟨fun z1 => ?_, fun z1 => ?_⟩
  · replace w := w.1 z1
    exact gw_ret (hk _ _ rfl) rfl ⟨_, hR, w⟩
  · replace w := w.2 z1
    refine gw_pst hk 2 (st' := (38, [some (.ref 48), none, some (.int x2), none, none, none, none], [.int x2, .ref 48], h)) rfl ?_
    obtain ⟨fs2, e2⟩ := RL_o hR (r := 48) (ci := 10) rfl
    refine gw_call (jj := 225) (As := [.ref 48, .int x2]) (rest := []) (hk _ _ rfl) (fun _ => rfl) rfl rfl (Nat.le_of_ble_eq_true rfl) (gm_rcv_v rfl e2 rfl) ?_
    refine ge_imp (w h hR) (fun v2 h w => ?_)
    obtain ⟨s_2, hR, x_2, rfl, w⟩ := w
    show gw (gt_T c.1 c.2.1 c.2.2.1) c.2.2.2 d 229 (41, [some (.ref 48), none, some (.int x2), none, none, none, none], [.int x_2], h) _
    refine gw_pst hk 3 (st' := (45, [some (.ref 48), none, some (.int x2), some (.int x_2), some (.int 0), none, none], [], h)) rfl ?_
    obtain ⟨n, w⟩ := w
    exact okl229_45 c d Post K32 hK32 n _ _ _ _ w _ hR
def wl229_32 (c : gx) (d : Nat) (Post : Option Value → gs → Prop) : Nat → Int32 → gs → Prop
  | 0 => fun _ _ => False
  | n + 1 => wb229_32 c d Post (wl229_32 c d Post n)
theorem okl229_32 (c : gx) (d : Nat) (Post : Option Value → gs → Prop) : ∀ (n : Nat) (x2 : Int32) (s : gs), wl229_32 c d Post n x2 s → tV c d 229 32 [some (.ref 48), none, some (.int x2), none, none, none, none] [] s Post
  | 0, _, _, w => w.elim
  | n + 1, x2, s, w => okb229_32 c d Post (wl229_32 c d Post n) (okl229_32 c d Post n) x2 s w
def wb229_2 (c : gx) (d : Nat) (Post : Option Value → gs → Prop) (K2 : Int32 → Int32 → gs → Prop) (x1 : Int32) (x2 : Int32) (s : gs) : Prop :=
  (((gsV s 48 1) ≤ x2 → ∃ n, wl229_32 c d Post n (x1 - 1) s) ∧ (¬ ((gsV s 48 1) ≤ x2) → tE c d 227 [.ref 48, .int x1, .int x2] s (fun v4 s_4 => ∃ x_4 : Int32, v4 = some (.int x_4) ∧ vp_in x_4 252 ∧ ∀ s_5 : gs, s_5 = gs_A s_4 68 (x_4 : Int32).toNatClampNeg (vp_nar .int 0) → K2 x1 (x2 + 1) s_5)))
theorem okb229_2 (c : gx) (d : Nat) (Post : Option Value → gs → Prop) (K2 : Int32 → Int32 → gs → Prop)  (hK2 : ∀ (x1 : Int32) (x2 : Int32) (s : gs), K2 x1 x2 s → tV c d 229 2 [some (.ref 48), some (.int x1), some (.int x2), none, none, none, none] [] s Post) (x1 : Int32) (x2 : Int32) (s : gs) (w : wb229_2 c d Post K2 x1 x2 s) : tV c d 229 2 [some (.ref 48), some (.int x1), some (.int x2), none, none, none, none] [] s Post := by
  intro h hR
  have hk : ∀ pc i, gm_find gk_229 pc = some i → gm_code (gt_T c.1 c.2.1 c.2.2.1) 229 pc = some i := fun _ _ z => z
  unfold wb229_2 at w
  unfold gV
  refine gw_pst hk 2 (st' := (4, [some (.ref 48), some (.int x1), some (.int x2), none, none, none, none], [.ref 48, .int x2], h)) rfl ?_
  refine gw_gf (hk _ _ rfl) (RL_fI hR rfl) ?_
  refine gw_br (c := (gsV s 48 1) ≤ x2) (a := (28, [some (.ref 48), some (.int x1), some (.int x2), none, none, none, none], [], h)) (b := (10, [some (.ref 48), some (.int x1), some (.int x2), none, none, none, none], [], h)) (hk _ _ rfl) rfl ⟨fun z2 => ?_, fun z2 => ?_⟩
  · replace w := w.1 z2
    refine gw_pst hk 4 (st' := (32, [some (.ref 48), some (.int x1), some (.int (x1 - 1)), none, none, none, none], [], h)) rfl ?_
    refine gw_le (L' := [some (.ref 48), none, some (.int (x1 - 1)), none, none, none, none]) (gm_le_k _ (gm_le_n _ (gm_le_k _ (gm_le_k _ (gm_le_k _ (gm_le_k _ (gm_le_k _ gm_le_nil))))))) ?_
    obtain ⟨n, w⟩ := w
    exact okl229_32 c d Post n _ _ w _ hR
  · replace w := w.2 z2
    refine gw_pst hk 1 (st' := (11, [some (.ref 48), some (.int x1), some (.int x2), none, none, none, none], [.ref 48], h)) rfl ?_
    refine gw_gf (hk _ _ rfl) (RL_fR (n := 68) hR rfl) ?_
    refine gw_pst hk 3 (st' := (17, [some (.ref 48), some (.int x1), some (.int x2), none, none, none, none], [.int x2, .int x1, .ref 48, .ref 68], h)) rfl ?_
    obtain ⟨fs4, e4⟩ := RL_o hR (r := 48) (ci := 10) rfl
    refine gw_call (jj := 227) (As := [.ref 48, .int x1, .int x2]) (rest := [.ref 68]) (hk _ _ rfl) (fun _ => rfl) rfl rfl (Nat.le_of_ble_eq_true rfl) (gm_rcv_v rfl e4 rfl) ?_
    refine ge_imp (w h hR) (fun v4 h w => ?_)
    obtain ⟨s_4, hR, x_4, rfl, w⟩ := w
    show gw (gt_T c.1 c.2.1 c.2.2.1) c.2.2.2 d 229 (20, [some (.ref 48), some (.int x1), some (.int x2), none, none, none, none], [.int x_4, .ref 68], h) _
    refine gw_pst hk 1 (st' := (21, [some (.ref 48), some (.int x1), some (.int x2), none, none, none, none], [.int 0, .int x_4, .ref 68], h)) rfl ?_
    obtain ⟨b5, w⟩ := w
    have hR5 := RL_pA (a := 68) (t := 0) (n := 252) (k := (x_4 : Int32).toNatClampNeg) (x := (vp_nar .int 0)) hR rfl (by decide)
    refine gw_ast (hk _ _ rfl) (Or.inl ⟨rfl, rfl, rfl⟩) (RL_a (t := 0) (n := 252) hR rfl (by decide)) b5 ?_
    generalize gm_put h _ _ = h at hR5 ⊢
    obtain ⟨s_5, es5⟩ : ∃ z, z = gs_A s_4 68 (x_4 : Int32).toNatClampNeg (vp_nar .int 0) := ⟨_, rfl⟩
    rw [← es5] at hR5
    replace w := w s_5 es5
    replace hR := hR5
    refine gw_pst hk 2 (st' := (2, [some (.ref 48), some (.int x1), some (.int (x2 + 1)), none, none, none, none], [], h)) rfl ?_
    exact hK2 _ _ _ w _ hR
def wl229_2 (c : gx) (d : Nat) (Post : Option Value → gs → Prop) : Nat → Int32 → Int32 → gs → Prop
  | 0 => fun _ _ _ => False
  | n + 1 => wb229_2 c d Post (wl229_2 c d Post n)
theorem okl229_2 (c : gx) (d : Nat) (Post : Option Value → gs → Prop) : ∀ (n : Nat) (x1 : Int32) (x2 : Int32) (s : gs), wl229_2 c d Post n x1 x2 s → tV c d 229 2 [some (.ref 48), some (.int x1), some (.int x2), none, none, none, none] [] s Post
  | 0, _, _, _, w => w.elim
  | n + 1, x1, x2, s, w => okb229_2 c d Post (wl229_2 c d Post n) (okl229_2 c d Post n) x1 x2 s w
/-- CommandByTurnsModel.layKeeps(I)V -/
def wm229 (c : gx) (d : Nat) (Post : Option Value → gs → Prop) (x1 : Int32) (s : gs) : Prop :=
  ∃ n, wl229_2 c d Post n x1 0 s
theorem okm229 (c : gx) (d : Nat) (Post : Option Value → gs → Prop) (x1 : Int32) (s : gs) (w : wm229 c d Post x1 s) : tE c (d + 1) 229 [.ref 48, .int x1] s Post := by
  intro h hR
  have hk : ∀ pc i, gm_find gk_229 pc = some i → gm_code (gt_T c.1 c.2.1 c.2.2.1) 229 pc = some i := fun _ _ z => z
  unfold wm229 at w
  refine ge_of (by decide) (Nat.le_of_ble_eq_true rfl) ?_
  show gw (gt_T c.1 c.2.1 c.2.2.1) c.2.2.2 d 229 (0, [some (.ref 48), some (.int x1), none, none, none, none, none], [], h) _
  refine gw_pst hk 2 (st' := (2, [some (.ref 48), some (.int x1), some (.int 0), none, none, none, none], [], h)) rfl ?_
  obtain ⟨n, w⟩ := w
  exact okl229_2 c d Post n _ _ _ w _ hR
def w230_136 (c : gx) (d : Nat) (Post : Option Value → gs → Prop) (K59 : Int32 → Int32 → Int32 → gs → Prop) (K93 : Int32 → Int32 → Int32 → Int32 → gs → Prop) (x2 : Int32) (x3 : Int32) (x4 : Int32) (x6 : Int32) (s : gs) : Prop :=
  K93 x2 x3 x4 (x6 + 1) s
theorem ok230_136 (c : gx) (d : Nat) (Post : Option Value → gs → Prop) (K59 : Int32 → Int32 → Int32 → gs → Prop) (K93 : Int32 → Int32 → Int32 → Int32 → gs → Prop)  (hK59 : ∀ (x2 : Int32) (x3 : Int32) (x4 : Int32) (s : gs), K59 x2 x3 x4 s → tV c d 230 59 [some (.ref 48), none, some (.int x2), some (.int x3), some (.int x4), none, none] [] s Post) (hK93 : ∀ (x2 : Int32) (x3 : Int32) (x4 : Int32) (x6 : Int32) (s : gs), K93 x2 x3 x4 x6 s → tV c d 230 93 [some (.ref 48), none, some (.int x2), some (.int x3), some (.int x4), none, some (.int x6)] [] s Post) (x2 : Int32) (x3 : Int32) (x4 : Int32) (x6 : Int32) (s : gs) (w : w230_136 c d Post K59 K93 x2 x3 x4 x6 s) : tV c d 230 136 [some (.ref 48), none, some (.int x2), some (.int x3), some (.int x4), none, some (.int x6)] [] s Post := by
  intro h hR
  have hk : ∀ pc i, gm_find gk_230 pc = some i → gm_code (gt_T c.1 c.2.1 c.2.2.1) 230 pc = some i := fun _ _ z => z
  unfold w230_136 at w
  unfold gV
  refine gw_pst hk 2 (st' := (93, [some (.ref 48), none, some (.int x2), some (.int x3), some (.int x4), none, some (.int (x6 + 1))], [], h)) rfl ?_
  exact hK93 _ _ _ _ _ w _ hR
def w230_145 (c : gx) (d : Nat) (Post : Option Value → gs → Prop) (K59 : Int32 → Int32 → Int32 → gs → Prop) (x2 : Int32) (x3 : Int32) (x4 : Int32) (s : gs) : Prop :=
  tE c d 157 [.ref 48, .long ((x3 : Int32).toInt64)] s (fun v1 s_1 => v1 = none ∧ K59 x2 x3 (x4 + 1) s_1)
theorem ok230_145 (c : gx) (d : Nat) (Post : Option Value → gs → Prop) (K59 : Int32 → Int32 → Int32 → gs → Prop)  (hK59 : ∀ (x2 : Int32) (x3 : Int32) (x4 : Int32) (s : gs), K59 x2 x3 x4 s → tV c d 230 59 [some (.ref 48), none, some (.int x2), some (.int x3), some (.int x4), none, none] [] s Post) (x2 : Int32) (x3 : Int32) (x4 : Int32) (s : gs) (w : w230_145 c d Post K59 x2 x3 x4 s) : tV c d 230 145 [some (.ref 48), none, some (.int x2), some (.int x3), some (.int x4), none, none] [] s Post := by
  intro h hR
  have hk : ∀ pc i, gm_find gk_230 pc = some i → gm_code (gt_T c.1 c.2.1 c.2.2.1) 230 pc = some i := fun _ _ z => z
  unfold w230_145 at w
  unfold gV
  refine gw_pst hk 3 (st' := (148, [some (.ref 48), none, some (.int x2), some (.int x3), some (.int x4), none, none], [.long ((x3 : Int32).toInt64), .ref 48], h)) rfl ?_
  obtain ⟨fs1, e1⟩ := RL_o hR (r := 48) (ci := 10) rfl
  refine gw_call (jj := 157) (As := [.ref 48, .long ((x3 : Int32).toInt64)]) (rest := []) (hk _ _ rfl) (fun _ => rfl) rfl rfl (Nat.le_of_ble_eq_true rfl) (gm_rcv_v rfl e1 rfl) ?_
  refine ge_imp (w h hR) (fun v1 h w => ?_)
  obtain ⟨s_1, hR, rfl, w⟩ := w
  show gw (gt_T c.1 c.2.1 c.2.2.1) c.2.2.2 d 230 (151, [some (.ref 48), none, some (.int x2), some (.int x3), some (.int x4), none, none], [], h) _
  refine gw_pst hk 2 (st' := (59, [some (.ref 48), none, some (.int x2), some (.int x3), some (.int (x4 + 1)), none, none], [], h)) rfl ?_
  exact hK59 _ _ _ _ w _ hR
def wb230_93 (c : gx) (d : Nat) (Post : Option Value → gs → Prop) (K59 : Int32 → Int32 → Int32 → gs → Prop) (K93 : Int32 → Int32 → Int32 → Int32 → gs → Prop) (x2 : Int32) (x3 : Int32) (x4 : Int32) (x6 : Int32) (s : gs) : Prop :=
  vp_in 2 108 ∧ tE c d 189 [.ref 48, .int 1, .int x3, .int (gsA s 49 (2 : Int32).toNatClampNeg)] s (fun v3 s_3 => ∃ x_3 : Int32, v3 = some (.int x_3) ∧ tE c d 155 [.int x_3, .int x6] s_3 (fun v4 s_4 => ∃ x_4 : Int32, v4 = some (.int x_4) ∧ ((x_4 = 0 → w230_136 c d Post K59 K93 x2 x3 x4 x6 s_4) ∧ (¬ (x_4 = 0) → tE c d 228 [.ref 48, .int x4, .int x6] s_4 (fun v6 s_6 => ∃ x_6 : Int32, v6 = some (.int x_6) ∧ tE c d 227 [.ref 48, .int x4, .int x3] s_6 (fun v8 s_8 => ∃ x_8 : Int32, v8 = some (.int x_8) ∧ vp_in x_8 252 ∧ ((x_6 = (gsA s_8 68 (x_8 : Int32).toNatClampNeg) → w230_145 c d Post K59 x2 x6 x4 s_8) ∧ (¬ (x_6 = (gsA s_8 68 (x_8 : Int32).toNatClampNeg)) → w230_136 c d Post K59 K93 x2 x3 x4 x6 s_8))))))))
theorem okb230_93 (c : gx) (d : Nat) (Post : Option Value → gs → Prop) (K59 : Int32 → Int32 → Int32 → gs → Prop) (K93 : Int32 → Int32 → Int32 → Int32 → gs → Prop)  (hK59 : ∀ (x2 : Int32) (x3 : Int32) (x4 : Int32) (s : gs), K59 x2 x3 x4 s → tV c d 230 59 [some (.ref 48), none, some (.int x2), some (.int x3), some (.int x4), none, none] [] s Post) (hK93 : ∀ (x2 : Int32) (x3 : Int32) (x4 : Int32) (x6 : Int32) (s : gs), K93 x2 x3 x4 x6 s → tV c d 230 93 [some (.ref 48), none, some (.int x2), some (.int x3), some (.int x4), none, some (.int x6)] [] s Post) (x2 : Int32) (x3 : Int32) (x4 : Int32) (x6 : Int32) (s : gs) (w : wb230_93 c d Post K59 K93 x2 x3 x4 x6 s) : tV c d 230 93 [some (.ref 48), none, some (.int x2), some (.int x3), some (.int x4), none, some (.int x6)] [] s Post := by
  intro h hR
  have hk : ∀ pc i, gm_find gk_230 pc = some i → gm_code (gt_T c.1 c.2.1 c.2.2.1) 230 pc = some i := fun _ _ z => z
  unfold wb230_93 at w
  unfold gV
  refine gw_pst hk 4 (st' := (97, [some (.ref 48), none, some (.int x2), some (.int x3), some (.int x4), none, some (.int x6)], [.ref 48, .int x3, .int 1, .ref 48], h)) rfl ?_
  refine gw_gf (hk _ _ rfl) (RL_fR (n := 49) hR rfl) ?_
  refine gw_pst hk 1 (st' := (101, [some (.ref 48), none, some (.int x2), some (.int x3), some (.int x4), none, some (.int x6)], [.int 2, .ref 49, .int x3, .int 1, .ref 48], h)) rfl ?_
  obtain ⟨b2, w⟩ := w
  refine gw_ald (hk _ _ rfl) (Or.inl ⟨rfl, rfl⟩) (RL_a (t := 0) (n := 108) hR rfl (by decide)) b2 ?_
  obtain ⟨fs3, e3⟩ := RL_o hR (r := 48) (ci := 10) rfl
  refine gw_call (jj := 189) (As := [.ref 48, .int 1, .int x3, .int (gsA s 49 (2 : Int32).toNatClampNeg)]) (rest := []) (hk _ _ rfl) (fun _ => rfl) rfl rfl (Nat.le_of_ble_eq_true rfl) (gm_rcv_v rfl e3 rfl) ?_
  refine ge_imp (w h hR) (fun v3 h w => ?_)
  obtain ⟨s_3, hR, x_3, rfl, w⟩ := w
  show gw (gt_T c.1 c.2.1 c.2.2.1) c.2.2.2 d 230 (105, [some (.ref 48), none, some (.int x2), some (.int x3), some (.int x4), none, some (.int x6)], [.int x_3], h) _
  refine gw_pst hk 1 (st' := (107, [some (.ref 48), none, some (.int x2), some (.int x3), some (.int x4), none, some (.int x6)], [.int x6, .int x_3], h)) rfl ?_
  refine gw_call (jj := 155) (As := [.int x_3, .int x6]) (rest := []) (hk _ _ rfl) (fun _ => rfl) rfl rfl (Nat.le_of_ble_eq_true rfl) rfl ?_
  refine ge_imp (w h hR) (fun v4 h w => ?_)
  obtain ⟨s_4, hR, x_4, rfl, w⟩ := w
  show gw (gt_T c.1 c.2.1 c.2.2.1) c.2.2.2 d 230 (110, [some (.ref 48), none, some (.int x2), some (.int x3), some (.int x4), none, some (.int x6)], [.int x_4], h) _
  refine gw_br (c := x_4 = 0) (a := (136, [some (.ref 48), none, some (.int x2), some (.int x3), some (.int x4), none, some (.int x6)], [], h)) (b := (113, [some (.ref 48), none, some (.int x2), some (.int x3), some (.int x4), none, some (.int x6)], [], h)) (hk _ _ rfl) rfl ⟨fun z5 => ?_, fun z5 => ?_⟩
  · replace w := w.1 z5
    exact ok230_136 c d Post K59 K93 hK59 hK93 _ _ _ _ _ w _ hR
  · replace w := w.2 z5
    refine gw_pst hk 3 (st' := (118, [some (.ref 48), none, some (.int x2), some (.int x3), some (.int x4), none, some (.int x6)], [.int x6, .int x4, .ref 48], h)) rfl ?_
    obtain ⟨fs6, e6⟩ := RL_o hR (r := 48) (ci := 10) rfl
    refine gw_call (jj := 228) (As := [.ref 48, .int x4, .int x6]) (rest := []) (hk _ _ rfl) (fun _ => rfl) rfl rfl (Nat.le_of_ble_eq_true rfl) (gm_rcv_v rfl e6 rfl) ?_
    refine ge_imp (w h hR) (fun v6 h w => ?_)
    obtain ⟨s_6, hR, x_6, rfl, w⟩ := w
    show gw (gt_T c.1 c.2.1 c.2.2.1) c.2.2.2 d 230 (121, [some (.ref 48), none, some (.int x2), some (.int x3), some (.int x4), none, some (.int x6)], [.int x_6], h) _
    refine gw_pst hk 1 (st' := (122, [some (.ref 48), none, some (.int x2), some (.int x3), some (.int x4), none, some (.int x6)], [.ref 48, .int x_6], h)) rfl ?_
    refine gw_gf (hk _ _ rfl) (RL_fR (n := 68) hR rfl) ?_
    refine gw_pst hk 3 (st' := (129, [some (.ref 48), none, some (.int x2), some (.int x3), some (.int x4), none, some (.int x6)], [.int x3, .int x4, .ref 48, .ref 68, .int x_6], h)) rfl ?_
    obtain ⟨fs8, e8⟩ := RL_o hR (r := 48) (ci := 10) rfl
    refine gw_call (jj := 227) (As := [.ref 48, .int x4, .int x3]) (rest := [.ref 68, .int x_6]) (hk _ _ rfl) (fun _ => rfl) rfl rfl (Nat.le_of_ble_eq_true rfl) (gm_rcv_v rfl e8 rfl) ?_
    refine ge_imp (w h hR) (fun v8 h w => ?_)
    obtain ⟨s_8, hR, x_8, rfl, w⟩ := w
    show gw (gt_T c.1 c.2.1 c.2.2.1) c.2.2.2 d 230 (132, [some (.ref 48), none, some (.int x2), some (.int x3), some (.int x4), none, some (.int x6)], [.int x_8, .ref 68, .int x_6], h) _
    obtain ⟨b9, w⟩ := w
    refine gw_ald (hk _ _ rfl) (Or.inl ⟨rfl, rfl⟩) (RL_a (t := 0) (n := 252) hR rfl (by decide)) b9 ?_
    refine gw_br (c := x_6 = (gsA s_8 68 (x_8 : Int32).toNatClampNeg)) (a := (142, [some (.ref 48), none, some (.int x2), some (.int x3), some (.int x4), none, some (.int x6)], [], h)) (b := (136, [some (.ref 48), none, some (.int x2), some (.int x3), some (.int x4), none, some (.int x6)], [], h)) (hk _ _ rfl) rfl ⟨fun z10 => ?_, fun z10 => ?_⟩
    · replace w := w.1 z10
      refine gw_pst hk 2 (st' := (145, [some (.ref 48), none, some (.int x2), some (.int x6), some (.int x4), none, some (.int x6)], [], h)) rfl ?_
      refine gw_le (L' := [some (.ref 48), none, some (.int x2), some (.int x6), some (.int x4), none, none]) (gm_le_k _ (gm_le_k _ (gm_le_k _ (gm_le_k _ (gm_le_k _ (gm_le_k _ (gm_le_n _ gm_le_nil))))))) ?_
      exact ok230_145 c d Post K59 hK59 _ _ _ _ w _ hR
    · replace w := w.2 z10
      exact ok230_136 c d Post K59 K93 hK59 hK93 _ _ _ _ _ w _ hR
def wl230_93 (c : gx) (d : Nat) (Post : Option Value → gs → Prop) (K59 : Int32 → Int32 → Int32 → gs → Prop) : Nat → Int32 → Int32 → Int32 → Int32 → gs → Prop
  | 0 => fun _ _ _ _ _ => False
  | n + 1 => wb230_93 c d Post K59 (wl230_93 c d Post K59 n)
theorem okl230_93 (c : gx) (d : Nat) (Post : Option Value → gs → Prop) (K59 : Int32 → Int32 → Int32 → gs → Prop) (hK59 : ∀ (x2 : Int32) (x3 : Int32) (x4 : Int32) (s : gs), K59 x2 x3 x4 s → tV c d 230 59 [some (.ref 48), none, some (.int x2), some (.int x3), some (.int x4), none, none] [] s Post) : ∀ (n : Nat) (x2 : Int32) (x3 : Int32) (x4 : Int32) (x6 : Int32) (s : gs), wl230_93 c d Post K59 n x2 x3 x4 x6 s → tV c d 230 93 [some (.ref 48), none, some (.int x2), some (.int x3), some (.int x4), none, some (.int x6)] [] s Post
  | 0, _, _, _, _, _, w => w.elim
  | n + 1, x2, x3, x4, x6, s, w => okb230_93 c d Post K59 (wl230_93 c d Post K59 n) hK59 (okl230_93 c d Post K59 hK59 n) x2 x3 x4 x6 s w
def w230_84 (c : gx) (d : Nat) (Post : Option Value → gs → Prop) (K59 : Int32 → Int32 → Int32 → gs → Prop) (x2 : Int32) (x3 : Int32) (x4 : Int32) (x5 : Int32) (s : gs) : Prop :=
  ((x5 = 1 → ∃ n, wl230_93 c d Post K59 n x2 x3 x4 0 s) ∧ (¬ (x5 = 1) → w230_145 c d Post K59 x2 x3 x4 s))
theorem ok230_84 (c : gx) (d : Nat) (Post : Option Value → gs → Prop) (K59 : Int32 → Int32 → Int32 → gs → Prop)  (hK59 : ∀ (x2 : Int32) (x3 : Int32) (x4 : Int32) (s : gs), K59 x2 x3 x4 s → tV c d 230 59 [some (.ref 48), none, some (.int x2), some (.int x3), some (.int x4), none, none] [] s Post) (x2 : Int32) (x3 : Int32) (x4 : Int32) (x5 : Int32) (s : gs) (w : w230_84 c d Post K59 x2 x3 x4 x5 s) : tV c d 230 84 [some (.ref 48), none, some (.int x2), some (.int x3), some (.int x4), some (.int x5), none] [] s Post := by
  intro h hR
  have hk : ∀ pc i, gm_find gk_230 pc = some i → gm_code (gt_T c.1 c.2.1 c.2.2.1) 230 pc = some i := fun _ _ z => z
  unfold w230_84 at w
  unfold gV
  refine gw_pst hk 2 (st' := (87, [some (.ref 48), none, some (.int x2), some (.int x3), some (.int x4), some (.int x5), none], [.int 1, .int x5], h)) rfl ?_
  refine gw_br (c := x5 = 1) (a := (90, [some (.ref 48), none, some (.int x2), some (.int x3), some (.int x4), some (.int x5), none], [], h)) (b := (145, [some (.ref 48), none, some (.int x2), some (.int x3), some (.int x4), some (.int x5), none], [], h)) (hk _ _ rfl) rfl ⟨fun z1 => ?_, fun z1 => ?_⟩
  · replace w := w.1 z1
    refine gw_pst hk 2 (st' := (93, [some (.ref 48), none, some (.int x2), some (.int x3), some (.int x4), some (.int x5), some (.int 0)], [], h)) rfl ?_
    refine gw_le (L' := [some (.ref 48), none, some (.int x2), some (.int x3), some (.int x4), none, some (.int 0)]) (gm_le_k _ (gm_le_k _ (gm_le_k _ (gm_le_k _ (gm_le_k _ (gm_le_n _ (gm_le_k _ gm_le_nil))))))) ?_
    obtain ⟨n, w⟩ := w
    exact okl230_93 c d Post K59 hK59 n _ _ _ _ _ w _ hR
  · replace w := w.2 z1
    refine gw_le (L' := [some (.ref 48), none, some (.int x2), some (.int x3), some (.int x4), none, none]) (gm_le_k _ (gm_le_k _ (gm_le_k _ (gm_le_k _ (gm_le_k _ (gm_le_n _ (gm_le_k _ gm_le_nil))))))) ?_
    exact ok230_145 c d Post K59 hK59 _ _ _ _ w _ hR
def wb230_59 (c : gx) (d : Nat) (Post : Option Value → gs → Prop) (K59 : Int32 → Int32 → Int32 → gs → Prop) (x2 : Int32) (x3 : Int32) (x4 : Int32) (s : gs) : Prop :=
  ((x2 ≤ x4 → Post (some (.int x2)) s) ∧ (¬ (x2 ≤ x4) → tE c d 225 [.ref 48, .int x4] s (fun v2 s_2 => ∃ x_2 : Int32, v2 = some (.int x_2) ∧ ((x_2 = 0 → tE c d 226 [.ref 48, .int x3] s_2 (fun v4 s_4 => ∃ x_4 : Int32, v4 = some (.int x_4) ∧ w230_84 c d Post K59 x2 x_4 x4 x_2 s_4)) ∧ (¬ (x_2 = 0) → w230_84 c d Post K59 x2 x3 x4 x_2 s_2)))))
theorem okb230_59 (c : gx) (d : Nat) (Post : Option Value → gs → Prop) (K59 : Int32 → Int32 → Int32 → gs → Prop)  (hK59 : ∀ (x2 : Int32) (x3 : Int32) (x4 : Int32) (s : gs), K59 x2 x3 x4 s → tV c d 230 59 [some (.ref 48), none, some (.int x2), some (.int x3), some (.int x4), none, none] [] s Post) (x2 : Int32) (x3 : Int32) (x4 : Int32) (s : gs) (w : wb230_59 c d Post K59 x2 x3 x4 s) : tV c d 230 59 [some (.ref 48), none, some (.int x2), some (.int x3), some (.int x4), none, none] [] s Post := by
  intro h hR
  have hk : ∀ pc i, gm_find gk_230 pc = some i → gm_code (gt_T c.1 c.2.1 c.2.2.1) 230 pc = some i := fun _ _ z => z
  unfold wb230_59 at w
  unfold gV
  refine gw_pst hk 2 (st' := (62, [some (.ref 48), none, some (.int x2), some (.int x3), some (.int x4), none, none], [.int x2, .int x4], h)) rfl ?_
  refine gw_br (c := x2 ≤ x4) (a := (157, [some (.ref 48), none, some (.int x2), some (.int x3), some (.int x4), none, none], [], h)) (b := (65, [some (.ref 48), none, some (.int x2), some (.int x3), some (.int x4), none, none], [], h)) (hk _ _ rfl) rfl ⟨fun z1 => ?_, fun z1 => ?_⟩
  · replace w := w.1 z1
    refine gw_pst hk 1 (st' := (158, [some (.ref 48), none, some (.int x2), some (.int x3), some (.int x4), none, none], [.int x2], h)) rfl ?_
    exact gw_ret (hk _ _ rfl) rfl ⟨_, hR, w⟩
  · replace w := w.2 z1
    refine gw_pst hk 2 (st' := (68, [some (.ref 48), none, some (.int x2), some (.int x3), some (.int x4), none, none], [.int x4, .ref 48], h)) rfl ?_
    obtain ⟨fs2, e2⟩ := RL_o hR (r := 48) (ci := 10) rfl
    refine gw_call (jj := 225) (As := [.ref 48, .int x4]) (rest := []) (hk _ _ rfl) (fun _ => rfl) rfl rfl (Nat.le_of_ble_eq_true rfl) (gm_rcv_v rfl e2 rfl) ?_
    refine ge_imp (w h hR) (fun v2 h w => ?_)
    obtain ⟨s_2, hR, x_2, rfl, w⟩ := w
    show gw (gt_T c.1 c.2.1 c.2.2.1) c.2.2.2 d 230 (71, [some (.ref 48), none, some (.int x2), some (.int x3), some (.int x4), none, none], [.int x_2], h) _
    refine gw_pst hk 2 (st' := (75, [some (.ref 48), none, some (.int x2), some (.int x3), some (.int x4), some (.int x_2), none], [.int x_2], h)) rfl ?_
    refine gw_br (c := x_2 = 0) (a := (78, [some (.ref 48), none, some (.int x2), some (.int x3), some (.int x4), some (.int x_2), none], [], h)) (b := (84, [some (.ref 48), none, some (.int x2), some (.int x3), some (.int x4), some (.int x_2), none], [], h)) (hk _ _ rfl) rfl ⟨fun z3 => ?_, fun z3 => ?_⟩
    · replace w := w.1 z3
      refine gw_pst hk 2 (st' := (80, [some (.ref 48), none, some (.int x2), some (.int x3), some (.int x4), some (.int x_2), none], [.int x3, .ref 48], h)) rfl ?_
      obtain ⟨fs4, e4⟩ := RL_o hR (r := 48) (ci := 10) rfl
      refine gw_call (jj := 226) (As := [.ref 48, .int x3]) (rest := []) (hk _ _ rfl) (fun _ => rfl) rfl rfl (Nat.le_of_ble_eq_true rfl) (gm_rcv_v rfl e4 rfl) ?_
      refine ge_imp (w h hR) (fun v4 h w => ?_)
      obtain ⟨s_4, hR, x_4, rfl, w⟩ := w
      show gw (gt_T c.1 c.2.1 c.2.2.1) c.2.2.2 d 230 (83, [some (.ref 48), none, some (.int x2), some (.int x3), some (.int x4), some (.int x_2), none], [.int x_4], h) _
      refine gw_pst hk 1 (st' := (84, [some (.ref 48), none, some (.int x2), some (.int x_4), some (.int x4), some (.int x_2), none], [], h)) rfl ?_
      exact ok230_84 c d Post K59 hK59 _ _ _ _ _ w _ hR
    · replace w := w.2 z3
      exact ok230_84 c d Post K59 hK59 _ _ _ _ _ w _ hR
def wl230_59 (c : gx) (d : Nat) (Post : Option Value → gs → Prop) : Nat → Int32 → Int32 → Int32 → gs → Prop
  | 0 => fun _ _ _ _ => False
  | n + 1 => wb230_59 c d Post (wl230_59 c d Post n)
theorem okl230_59 (c : gx) (d : Nat) (Post : Option Value → gs → Prop) : ∀ (n : Nat) (x2 : Int32) (x3 : Int32) (x4 : Int32) (s : gs), wl230_59 c d Post n x2 x3 x4 s → tV c d 230 59 [some (.ref 48), none, some (.int x2), some (.int x3), some (.int x4), none, none] [] s Post
  | 0, _, _, _, _, w => w.elim
  | n + 1, x2, x3, x4, s, w => okb230_59 c d Post (wl230_59 c d Post n) (okl230_59 c d Post n) x2 x3 x4 s w
/-- CommandByTurnsModel.avoids(I)I -/
def wm230 (c : gx) (d : Nat) (Post : Option Value → gs → Prop) (x1 : Int32) (s : gs) : Prop :=
  ∀ s_1 : gs, s_1 = gs_V s 48 13 0 → tE c d 154 [.int x1, .int 1, .int 20] s_1 (fun v2 s_2 => ∃ x_2 : Int32, v2 = some (.int x_2) ∧ ((x_2 = 0 → Post (some (.int (-1))) s_2) ∧ (¬ (x_2 = 0) → ∀ s_4 : gs, s_4 = gs_V s_2 48 32 0 → tE c d 229 [.ref 48, .int x1] s_4 (fun v5 s_5 => v5 = none ∧ vp_in 1 108 ∧ tE c d 227 [.ref 48, .int 0, .int (gsA s_5 49 (1 : Int32).toNatClampNeg)] s_5 (fun v9 s_9 => ∃ x_9 : Int32, v9 = some (.int x_9) ∧ vp_in x_9 252 ∧ vp_in 1 108 ∧ ∀ s_13 : gs, s_13 = gs_V s_9 48 12 0 → ∃ n, wl230_59 c d Post n (gsA s_9 68 (x_9 : Int32).toNatClampNeg) (gsA s_9 49 (1 : Int32).toNatClampNeg) 0 s_13)))))
theorem okm230 (c : gx) (d : Nat) (Post : Option Value → gs → Prop) (x1 : Int32) (s : gs) (w : wm230 c d Post x1 s) : tE c (d + 1) 230 [.ref 48, .int x1] s Post := by
  intro h hR
  have hk : ∀ pc i, gm_find gk_230 pc = some i → gm_code (gt_T c.1 c.2.1 c.2.2.1) 230 pc = some i := fun _ _ z => z
  unfold wm230 at w
  refine ge_of (by decide) (Nat.le_of_ble_eq_true rfl) ?_
  show gw (gt_T c.1 c.2.1 c.2.2.1) c.2.2.2 d 230 (0, [some (.ref 48), some (.int x1), none, none, none, none, none], [], h) _
  refine gw_pst hk 2 (st' := (2, [some (.ref 48), some (.int x1), none, none, none, none, none], [.int 0, .ref 48], h)) rfl ?_
  obtain ⟨fs1, e1⟩ := RL_o hR (r := 48) (ci := 10) rfl
  obtain ⟨l1, hR1⟩ := RL_pI (k := 13) (x := 0) hR rfl e1
  refine gw_pf (hk _ _ rfl) e1 l1 rfl ?_
  generalize gm_put h _ _ = h at hR1 ⊢
  obtain ⟨s_1, es1⟩ : ∃ z, z = gs_V s 48 13 0 := ⟨_, rfl⟩
  rw [← es1] at hR1
  replace w := w s_1 es1
  replace hR := hR1
  refine gw_pst hk 3 (st' := (9, [some (.ref 48), some (.int x1), none, none, none, none, none], [.int 20, .int 1, .int x1], h)) rfl ?_
  refine gw_call (jj := 154) (As := [.int x1, .int 1, .int 20]) (rest := []) (hk _ _ rfl) (fun _ => rfl) rfl rfl (Nat.le_of_ble_eq_true rfl) rfl ?_
  refine ge_imp (w h hR) (fun v2 h w => ?_)
  obtain ⟨s_2, hR, x_2, rfl, w⟩ := w
  show gw (gt_T c.1 c.2.1 c.2.2.1) c.2.2.2 d 230 (12, [some (.ref 48), some (.int x1), none, none, none, none, none], [.int x_2], h) _
  refine gw_br (c := x_2 = 0) (a := (15, [some (.ref 48), some (.int x1), none, none, none, none, none], [], h)) (b := (17, [some (.ref 48), some (.int x1), none, none, none, none, none], [], h)) (hk _ _ rfl) rfl ⟨fun z3 => ?_, fun z3 => ?_⟩
  · replace w := w.1 z3
    refine gw_pst hk 1 (st' := (16, [some (.ref 48), some (.int x1), none, none, none, none, none], [.int (-1)], h)) rfl ?_
    exact gw_ret (hk _ _ rfl) rfl ⟨_, hR, w⟩
  · replace w := w.2 z3
    refine gw_pst hk 2 (st' := (19, [some (.ref 48), some (.int x1), none, none, none, none, none], [.int 0, .ref 48], h)) rfl ?_
    obtain ⟨fs4, e4⟩ := RL_o hR (r := 48) (ci := 10) rfl
    obtain ⟨l4, hR4⟩ := RL_pI (k := 32) (x := 0) hR rfl e4
    refine gw_pf (hk _ _ rfl) e4 l4 rfl ?_
    generalize gm_put h _ _ = h at hR4 ⊢
    obtain ⟨s_4, es4⟩ : ∃ z, z = gs_V s_2 48 32 0 := ⟨_, rfl⟩
    rw [← es4] at hR4
    replace w := w s_4 es4
    replace hR := hR4
    refine gw_pst hk 2 (st' := (24, [some (.ref 48), some (.int x1), none, none, none, none, none], [.int x1, .ref 48], h)) rfl ?_
    obtain ⟨fs5, e5⟩ := RL_o hR (r := 48) (ci := 10) rfl
    refine gw_call (jj := 229) (As := [.ref 48, .int x1]) (rest := []) (hk _ _ rfl) (fun _ => rfl) rfl rfl (Nat.le_of_ble_eq_true rfl) (gm_rcv_v rfl e5 rfl) ?_
    refine ge_imp (w h hR) (fun v5 h w => ?_)
    obtain ⟨s_5, hR, rfl, w⟩ := w
    show gw (gt_T c.1 c.2.1 c.2.2.1) c.2.2.2 d 230 (27, [some (.ref 48), some (.int x1), none, none, none, none, none], [], h) _
    refine gw_pst hk 1 (st' := (28, [some (.ref 48), some (.int x1), none, none, none, none, none], [.ref 48], h)) rfl ?_
    refine gw_gf (hk _ _ rfl) (RL_fR (n := 68) hR rfl) ?_
    refine gw_pst hk 3 (st' := (34, [some (.ref 48), some (.int x1), none, none, none, none, none], [.ref 48, .int 0, .ref 48, .ref 68], h)) rfl ?_
    refine gw_gf (hk _ _ rfl) (RL_fR (n := 49) hR rfl) ?_
    refine gw_pst hk 1 (st' := (38, [some (.ref 48), some (.int x1), none, none, none, none, none], [.int 1, .ref 49, .int 0, .ref 48, .ref 68], h)) rfl ?_
    obtain ⟨b8, w⟩ := w
    refine gw_ald (hk _ _ rfl) (Or.inl ⟨rfl, rfl⟩) (RL_a (t := 0) (n := 108) hR rfl (by decide)) b8 ?_
    obtain ⟨fs9, e9⟩ := RL_o hR (r := 48) (ci := 10) rfl
    refine gw_call (jj := 227) (As := [.ref 48, .int 0, .int (gsA s_5 49 (1 : Int32).toNatClampNeg)]) (rest := [.ref 68]) (hk _ _ rfl) (fun _ => rfl) rfl rfl (Nat.le_of_ble_eq_true rfl) (gm_rcv_v rfl e9 rfl) ?_
    refine ge_imp (w h hR) (fun v9 h w => ?_)
    obtain ⟨s_9, hR, x_9, rfl, w⟩ := w
    show gw (gt_T c.1 c.2.1 c.2.2.1) c.2.2.2 d 230 (42, [some (.ref 48), some (.int x1), none, none, none, none, none], [.int x_9, .ref 68], h) _
    obtain ⟨b10, w⟩ := w
    refine gw_ald (hk _ _ rfl) (Or.inl ⟨rfl, rfl⟩) (RL_a (t := 0) (n := 252) hR rfl (by decide)) b10 ?_
    refine gw_pst hk 2 (st' := (45, [some (.ref 48), some (.int x1), some (.int (gsA s_9 68 (x_9 : Int32).toNatClampNeg)), none, none, none, none], [.ref 48], h)) rfl ?_
    refine gw_gf (hk _ _ rfl) (RL_fR (n := 49) hR rfl) ?_
    refine gw_pst hk 1 (st' := (49, [some (.ref 48), some (.int x1), some (.int (gsA s_9 68 (x_9 : Int32).toNatClampNeg)), none, none, none, none], [.int 1, .ref 49], h)) rfl ?_
    obtain ⟨b12, w⟩ := w
    refine gw_ald (hk _ _ rfl) (Or.inl ⟨rfl, rfl⟩) (RL_a (t := 0) (n := 108) hR rfl (by decide)) b12 ?_
    refine gw_pst hk 3 (st' := (53, [some (.ref 48), some (.int x1), some (.int (gsA s_9 68 (x_9 : Int32).toNatClampNeg)), some (.int (gsA s_9 49 (1 : Int32).toNatClampNeg)), none, none, none], [.int 0, .ref 48], h)) rfl ?_
    obtain ⟨fs13, e13⟩ := RL_o hR (r := 48) (ci := 10) rfl
    obtain ⟨l13, hR13⟩ := RL_pI (k := 12) (x := 0) hR rfl e13
    refine gw_pf (hk _ _ rfl) e13 l13 rfl ?_
    generalize gm_put h _ _ = h at hR13 ⊢
    obtain ⟨s_13, es13⟩ : ∃ z, z = gs_V s_9 48 12 0 := ⟨_, rfl⟩
    rw [← es13] at hR13
    replace w := w s_13 es13
    replace hR := hR13
    refine gw_pst hk 2 (st' := (59, [some (.ref 48), some (.int x1), some (.int (gsA s_9 68 (x_9 : Int32).toNatClampNeg)), some (.int (gsA s_9 49 (1 : Int32).toNatClampNeg)), some (.int 0), none, none], [], h)) rfl ?_
    refine gw_le (L' := [some (.ref 48), none, some (.int (gsA s_9 68 (x_9 : Int32).toNatClampNeg)), some (.int (gsA s_9 49 (1 : Int32).toNatClampNeg)), some (.int 0), none, none]) (gm_le_k _ (gm_le_n _ (gm_le_k _ (gm_le_k _ (gm_le_k _ (gm_le_k _ (gm_le_k _ gm_le_nil))))))) ?_
    obtain ⟨n, w⟩ := w
    exact okl230_59 c d Post n _ _ _ _ w _ hR
