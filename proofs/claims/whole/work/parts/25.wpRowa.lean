/-! What must hold for a run to end with Post: by program (wip/whole/gen_wp.py). -/
def w44_39 (c : gx) (d : Nat) (Post : Option Value → gs → Prop)  (s : gs) : Prop :=
  Post none s
theorem ok44_39 (c : gx) (d : Nat) (Post : Option Value → gs → Prop)   (s : gs) (w : w44_39 c d Post  s) : tV c d 44 39 [none, none, none] [] s Post := by
  intro h hR
  have hk : ∀ pc i, gm_find gk_44 pc = some i → gm_code (gt_T c.1 c.2.1 c.2.2.1) 44 pc = some i := fun _ _ z => z
  unfold w44_39 at w
  unfold gV
  exact gw_ret (hk _ _ rfl) rfl ⟨_, hR, w⟩
/-- CommandByTurns$Row.add(J)V -/
def wm44 (c : gx) (d : Nat) (Post : Option Value → gs → Prop) (x1 : Int64) (s : gs) : Prop :=
  (((gsV s 34 1) < 0 → w44_39 c d Post s) ∧ (¬ ((gsV s 34 1) < 0) → ((32 ≤ (gsV s 34 1) → w44_39 c d Post s) ∧ (¬ (32 ≤ (gsV s 34 1)) → vp_in (gsV s 34 1) 32 ∧ ∀ s_9 : gs, s_9 = gs_R s 35 (gsV s 34 1 : Int32).toNatClampNeg x1 → ∀ s_11 : gs, s_11 = gs_V s_9 34 1 ((gsV s_9 34 1) + 1) → w44_39 c d Post s_11))))
theorem okm44 (c : gx) (d : Nat) (Post : Option Value → gs → Prop) (x1 : Int64) (s : gs) (w : wm44 c d Post x1 s) : tE c (d + 1) 44 [.ref 34, .long x1] s Post := by
  intro h hR
  have hk : ∀ pc i, gm_find gk_44 pc = some i → gm_code (gt_T c.1 c.2.1 c.2.2.1) 44 pc = some i := fun _ _ z => z
  unfold wm44 at w
  refine ge_of (by decide) (Nat.le_of_ble_eq_true rfl) ?_
  show gw (gt_T c.1 c.2.1 c.2.2.1) c.2.2.2 d 44 (0, [some (.ref 34), some (.long x1), none], [], h) _
  refine gw_pst hk 1 (st' := (1, [some (.ref 34), some (.long x1), none], [.ref 34], h)) rfl ?_
  refine gw_gf (hk _ _ rfl) (RL_fI hR rfl) ?_
  refine gw_br (c := (gsV s 34 1) < 0) (a := (39, [some (.ref 34), some (.long x1), none], [], h)) (b := (7, [some (.ref 34), some (.long x1), none], [], h)) (hk _ _ rfl) rfl ⟨fun z2 => ?_, fun z2 => ?_⟩
  · replace w := w.1 z2
    refine gw_le (L' := [none, none, none]) (gm_le_n _ (gm_le_n _ (gm_le_k _ gm_le_nil))) ?_
    exact ok44_39 c d Post _ w _ hR
  · replace w := w.2 z2
    refine gw_pst hk 1 (st' := (8, [some (.ref 34), some (.long x1), none], [.ref 34], h)) rfl ?_
    refine gw_gf (hk _ _ rfl) (RL_fI hR rfl) ?_
    refine gw_pst hk 1 (st' := (12, [some (.ref 34), some (.long x1), none], [.ref 34, .int (gsV s 34 1)], h)) rfl ?_
    refine gw_gf (hk _ _ rfl) (RL_fR (n := 35) hR rfl) ?_
    refine gw_alen (hk _ _ rfl) (RL_aJ (n := 32) hR rfl) (by decide) ?_
    refine gw_br (c := 32 ≤ (gsV s 34 1)) (a := (39, [some (.ref 34), some (.long x1), none], [], h)) (b := (19, [some (.ref 34), some (.long x1), none], [], h)) (hk _ _ rfl) rfl ⟨fun z6 => ?_, fun z6 => ?_⟩
    · replace w := w.1 z6
      refine gw_le (L' := [none, none, none]) (gm_le_n _ (gm_le_n _ (gm_le_k _ gm_le_nil))) ?_
      exact ok44_39 c d Post _ w _ hR
    · replace w := w.2 z6
      refine gw_pst hk 1 (st' := (20, [some (.ref 34), some (.long x1), none], [.ref 34], h)) rfl ?_
      refine gw_gf (hk _ _ rfl) (RL_fR (n := 35) hR rfl) ?_
      refine gw_pst hk 1 (st' := (24, [some (.ref 34), some (.long x1), none], [.ref 34, .ref 35], h)) rfl ?_
      refine gw_gf (hk _ _ rfl) (RL_fI hR rfl) ?_
      refine gw_pst hk 1 (st' := (28, [some (.ref 34), some (.long x1), none], [.long x1, .int (gsV s 34 1), .ref 35], h)) rfl ?_
      obtain ⟨b9, w⟩ := w
      have hR9 := RL_pR (a := 35) (n := 32) (k := (gsV s 34 1 : Int32).toNatClampNeg) (x := x1) hR rfl
      refine gw_last (hk _ _ rfl) (RL_aJ (n := 32) hR rfl) b9 ?_
      generalize gm_put h _ _ = h at hR9 ⊢
      obtain ⟨s_9, es9⟩ : ∃ z, z = gs_R s 35 (gsV s 34 1 : Int32).toNatClampNeg x1 := ⟨_, rfl⟩
      rw [← es9] at hR9
      replace w := w s_9 es9
      replace hR := hR9
      refine gw_pst hk 2 (st' := (31, [some (.ref 34), some (.long x1), none], [.ref 34, .ref 34], h)) rfl ?_
      refine gw_gf (hk _ _ rfl) (RL_fI hR rfl) ?_
      refine gw_pst hk 2 (st' := (36, [some (.ref 34), some (.long x1), none], [.int ((gsV s_9 34 1) + 1), .ref 34], h)) rfl ?_
      obtain ⟨fs11, e11⟩ := RL_o hR (r := 34) (ci := 5) rfl
      obtain ⟨l11, hR11⟩ := RL_pI (k := 1) (x := (gsV s_9 34 1) + 1) hR rfl e11
      refine gw_pf (hk _ _ rfl) e11 l11 rfl ?_
      generalize gm_put h _ _ = h at hR11 ⊢
      obtain ⟨s_11, es11⟩ : ∃ z, z = gs_V s_9 34 1 ((gsV s_9 34 1) + 1) := ⟨_, rfl⟩
      rw [← es11] at hR11
      replace w := w s_11 es11
      replace hR := hR11
      refine gw_le (L' := [none, none, none]) (gm_le_n _ (gm_le_n _ (gm_le_k _ gm_le_nil))) ?_
      exact ok44_39 c d Post _ w _ hR
/-- CommandByTurns$Row.tellOne(J)V -/
def wm45 (c : gx) (d : Nat) (Post : Option Value → gs → Prop) (x1 : Int64) (s : gs) : Prop :=
  ∀ s_1 : gs, s_1 = gs_V s 34 1 0 → tE c d 44 [.ref 34, .long x1] s_1 (fun v2 s_2 => v2 = none ∧ Post none s_2)
theorem okm45 (c : gx) (d : Nat) (Post : Option Value → gs → Prop) (x1 : Int64) (s : gs) (w : wm45 c d Post x1 s) : tE c (d + 1) 45 [.ref 34, .long x1] s Post := by
  intro h hR
  have hk : ∀ pc i, gm_find gk_45 pc = some i → gm_code (gt_T c.1 c.2.1 c.2.2.1) 45 pc = some i := fun _ _ z => z
  unfold wm45 at w
  refine ge_of (by decide) (Nat.le_of_ble_eq_true rfl) ?_
  show gw (gt_T c.1 c.2.1 c.2.2.1) c.2.2.2 d 45 (0, [some (.ref 34), some (.long x1), none], [], h) _
  refine gw_pst hk 2 (st' := (2, [some (.ref 34), some (.long x1), none], [.int 0, .ref 34], h)) rfl ?_
  obtain ⟨fs1, e1⟩ := RL_o hR (r := 34) (ci := 5) rfl
  obtain ⟨l1, hR1⟩ := RL_pI (k := 1) (x := 0) hR rfl e1
  refine gw_pf (hk _ _ rfl) e1 l1 rfl ?_
  generalize gm_put h _ _ = h at hR1 ⊢
  obtain ⟨s_1, es1⟩ : ∃ z, z = gs_V s 34 1 0 := ⟨_, rfl⟩
  rw [← es1] at hR1
  replace w := w s_1 es1
  replace hR := hR1
  refine gw_pst hk 2 (st' := (7, [some (.ref 34), some (.long x1), none], [.long x1, .ref 34], h)) rfl ?_
  obtain ⟨fs2, e2⟩ := RL_o hR (r := 34) (ci := 5) rfl
  refine gw_call (jj := 44) (As := [.ref 34, .long x1]) (rest := []) (hk _ _ rfl) (fun _ => rfl) rfl rfl (Nat.le_of_ble_eq_true rfl) (gm_rcv_v rfl e2 rfl) ?_
  refine ge_imp (w h hR) (fun v2 h w => ?_)
  obtain ⟨s_2, hR, rfl, w⟩ := w
  show gw (gt_T c.1 c.2.1 c.2.2.1) c.2.2.2 d 45 (10, [some (.ref 34), some (.long x1), none], [], h) _
  exact gw_ret (hk _ _ rfl) rfl ⟨_, hR, w⟩
/-- CommandByTurns$Row.tellTwo(JJ)V -/
def wm46 (c : gx) (d : Nat) (Post : Option Value → gs → Prop) (x1 : Int64) (x3 : Int64) (s : gs) : Prop :=
  ∀ s_1 : gs, s_1 = gs_V s 34 1 0 → tE c d 44 [.ref 34, .long x1] s_1 (fun v2 s_2 => v2 = none ∧ tE c d 44 [.ref 34, .long x3] s_2 (fun v3 s_3 => v3 = none ∧ Post none s_3))
theorem okm46 (c : gx) (d : Nat) (Post : Option Value → gs → Prop) (x1 : Int64) (x3 : Int64) (s : gs) (w : wm46 c d Post x1 x3 s) : tE c (d + 1) 46 [.ref 34, .long x1, .long x3] s Post := by
  intro h hR
  have hk : ∀ pc i, gm_find gk_46 pc = some i → gm_code (gt_T c.1 c.2.1 c.2.2.1) 46 pc = some i := fun _ _ z => z
  unfold wm46 at w
  refine ge_of (by decide) (Nat.le_of_ble_eq_true rfl) ?_
  show gw (gt_T c.1 c.2.1 c.2.2.1) c.2.2.2 d 46 (0, [some (.ref 34), some (.long x1), none, some (.long x3), none], [], h) _
  refine gw_pst hk 2 (st' := (2, [some (.ref 34), some (.long x1), none, some (.long x3), none], [.int 0, .ref 34], h)) rfl ?_
  obtain ⟨fs1, e1⟩ := RL_o hR (r := 34) (ci := 5) rfl
  obtain ⟨l1, hR1⟩ := RL_pI (k := 1) (x := 0) hR rfl e1
  refine gw_pf (hk _ _ rfl) e1 l1 rfl ?_
  generalize gm_put h _ _ = h at hR1 ⊢
  obtain ⟨s_1, es1⟩ : ∃ z, z = gs_V s 34 1 0 := ⟨_, rfl⟩
  rw [← es1] at hR1
  replace w := w s_1 es1
  replace hR := hR1
  refine gw_pst hk 2 (st' := (7, [some (.ref 34), some (.long x1), none, some (.long x3), none], [.long x1, .ref 34], h)) rfl ?_
  obtain ⟨fs2, e2⟩ := RL_o hR (r := 34) (ci := 5) rfl
  refine gw_call (jj := 44) (As := [.ref 34, .long x1]) (rest := []) (hk _ _ rfl) (fun _ => rfl) rfl rfl (Nat.le_of_ble_eq_true rfl) (gm_rcv_v rfl e2 rfl) ?_
  refine ge_imp (w h hR) (fun v2 h w => ?_)
  obtain ⟨s_2, hR, rfl, w⟩ := w
  show gw (gt_T c.1 c.2.1 c.2.2.1) c.2.2.2 d 46 (10, [some (.ref 34), some (.long x1), none, some (.long x3), none], [], h) _
  refine gw_pst hk 2 (st' := (12, [some (.ref 34), some (.long x1), none, some (.long x3), none], [.long x3, .ref 34], h)) rfl ?_
  obtain ⟨fs3, e3⟩ := RL_o hR (r := 34) (ci := 5) rfl
  refine gw_call (jj := 44) (As := [.ref 34, .long x3]) (rest := []) (hk _ _ rfl) (fun _ => rfl) rfl rfl (Nat.le_of_ble_eq_true rfl) (gm_rcv_v rfl e3 rfl) ?_
  refine ge_imp (w h hR) (fun v3 h w => ?_)
  obtain ⟨s_3, hR, rfl, w⟩ := w
  show gw (gt_T c.1 c.2.1 c.2.2.1) c.2.2.2 d 46 (15, [some (.ref 34), some (.long x1), none, some (.long x3), none], [], h) _
  exact gw_ret (hk _ _ rfl) rfl ⟨_, hR, w⟩
