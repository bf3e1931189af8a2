/-! Calls: sheet, sign, wishes. -/
def asH (k v : Int32) : Int32 := if 0 < (if (if k = 0 then v.toInt8.toInt32 else if k = 1 then v.toInt16.toInt32 else v) < 9 then (if k = 0 then v.toInt8.toInt32 else if k = 1 then v.toInt16.toInt32 else v) else 9) then (if (if k = 0 then v.toInt8.toInt32 else if k = 1 then v.toInt16.toInt32 else v) < 9 then (if k = 0 then v.toInt8.toInt32 else if k = 1 then v.toInt16.toInt32 else v) else 9) else 0
def shH (k n f st : Int32) (i : Nat) : Int32 := if n ≤ nI i then 0 else asH k (f + nI i * st)
theorem XS_h {s0 s s' : gs} {D : DD} {H : Nat → Int32} (h : XS s0 s D) (f : frA s s' 4) (hh : ∀ i, i < dF D → gsA s' 4 i = H i) : XS s0 s' (uL D (dF D) H (dr D)) := by
  obtain ⟨⟨h1, h2, h3, h4, h5, h6, h7, h8, h9, h10⟩, hf⟩ := h
  obtain ⟨f1, f2, f3, f4, f5⟩ := f
  have fx : ∀ b, xg s' b = xg s b := fun b => xg_cg (by rw [f1]) (by rw [f2])
  refine ⟨⟨?_, ?_, ?_, ?_, ?_, ?_, ?_, ?_, ?_, ?_⟩, fun b hb => ?_⟩
  · unfold XT at *; rw [f1, f3 2 (by omega)]; exact h1
  · obtain ⟨e1, e2, e3, e4⟩ := h2
    refine ⟨e1, ?_, hh, ?_⟩
    · rw [f1]; exact e2
    · rw [f1]; exact e4
  · unfold XR at *; rw [f1, f3 6 (by omega)]; exact h3
  · unfold XD at *; rw [f1]; exact h4
  · intro i hi
    have := h5 i hi
    rw [f1, f3 (11 + 2 * i) (by omega)]; exact this
  · unfold XG at *; rw [fx]; exact h6
  · unfold XU at *
    rw [f1]
    obtain ⟨a1, a2, p, a3, a4, a5⟩ := h7
    exact ⟨a1, a2, p, a3, a4, fun i hi => by rw [fx]; exact a5 i hi⟩
  · intro i hi
    have := h8 i hi
    rw [f1, fx]; exact this
  · unfold XW at *; rw [f1, f4]; exact h9
  · unfold XO at *; rw [f1, f3 42 (by omega)]; exact h10
  · have := hf b hb
    rw [f1, f2, f3 b (by omega), f4]; exact this
theorem MS_h {s0 s s' : gs} {D : DD} {H : Nat → Int32} (h : MS s0 s D) (f : frA s s' 50) (hh : ∀ i, i < dF D → gsA s' 50 i = H i) : MS s0 s' (uL D (dF D) H (dr D)) := by
  obtain ⟨⟨h1, h2, h3, h4, h5, h6, h7, h8, h9, h10, h11⟩, hf⟩ := h
  have hf' := frM_frA hf f (by omega)
  obtain ⟨f1, f2, f3, f4, f5⟩ := f
  refine ⟨?_, hf'⟩
  obtain ⟨e1, e2, e3, e4⟩ := h2
  unfold QM MT ML MR MD MN MG MU MK MW MO MZ at *
  rw [f1, f4, f3 57 (by omega), f3 51 (by omega), f3 61 (by omega), f3 52 (by omega), f3 53 (by omega), f3 54 (by omega), f3 55 (by omega), f3 56 (by omega), f3 63 (by omega), f3 71 (by omega), f3 72 (by omega), f3 69 (by omega), f3 49 (by omega), f3 65 (by omega)]
  exact ⟨h1, ⟨e1, e2, hh, e4⟩, h3, h4, h5, h6, h7, h8, h9, h10, h11⟩
section C12
variable {c : gx} {d B : Nat} {Post : Option Value → gs → Prop} {s0 s : gs} {D : DD}
theorem s26 (hd : 1 ≤ d) (k v : Int32) (kk : Post (some (.int (asH k v))) s) : tE c d 26 [.int k, .int v] s Post := by
  obtain ⟨d, rfl⟩ := d_1 hd
  unfold asH at kk
  refine okm26 c d Post _ _ s ⟨fun z => ?_, fun z => ⟨fun y => ?_, fun y => ?_⟩⟩
  · simp only [if_pos z] at kk
    exact kk
  · simp only [if_neg z, if_pos y] at kk
    exact kk
  · simp only [if_neg z, if_neg y] at kk
    exact kk
theorem s25 (hd : 2 ≤ d) (h : XS s0 s D) (k n f st : Int32) (kk : ∀ s', XS s0 s' (uL D (dF D) (shH k n f st) (dr D)) → Post (some (.int (sm (shH k n f st) (dF D)))) s') : tE c d 25 [.ref 3, .int k, .int n, .int f, .int st] s Post := by
  obtain ⟨d, rfl⟩ := d_1 (show 1 ≤ d by omega)
  have hL := h.1.2.1
  have hF := hL.1.2
  have loop : ∀ (m i : Nat) (s' : gs), i + m = dF D → frA s s' 4 → (∀ j, j < i → gsA s' 4 j = shH k n f st j) → wl25_6 c d Post (m + 1) k n f st (sm (shH k n f st) i) (nI i) s' := by
    intro m
    induction m with
    | zero =>
      intro i s' hi hf hh
      have hi' : i = dF D := by omega
      subst hi'
      unfold wl25_6 wb25_6
      rw [hf.1, hL.2.1]
      exact ⟨fun _ => kk s' (XS_h h hf hh), fun z => absurd (le_t (by omega) (by omega) (by omega)) z⟩
    | succ m ih =>
      intro i s' hi hf hh
      have wr : ∀ v : Int32, v = shH k n f st i → w25_52 c d Post (wl25_6 c d Post (m + 1)) k n f st (sm (shH k n f st) i) (nI i) 4 (nI i) v s' := by
        intro v hv
        refine ⟨12, rfl, vp_in_nI (by omega) (by decide), ?_⟩
        rintro s1 rfl
        refine ⟨vp_in_nI (by omega) (by decide), ?_⟩
        rw [nI_clamp (by omega), gsA_A, upd_eq, nI_1, show vp_nar .int v = v from rfl, hv]
        refine ih (i + 1) _ (by omega) (frA_A hf _ _) (fun j hj => ?_)
        rw [gsA_A]
        by_cases e : j = i
        · rw [e, upd_eq]
        · rw [upd_ne e]; exact hh j (by omega)
      unfold wl25_6 wb25_6
      rw [hf.1, hL.2.1]
      refine ⟨fun z => absurd z (le_f (by omega) (by omega) (by omega)), fun _ => ⟨fun z => absurd z (le_f (a := 12) (by decide) (by omega) (by omega)), fun _ => ⟨fun z => wr _ ?_, fun z => s26 (by omega) _ _ ⟨_, rfl, wr _ ?_⟩⟩⟩⟩
      · unfold shH; rw [if_pos z]
      · unfold shH; rw [if_neg z]
  exact okm25 c d Post _ _ _ _ s ⟨dF D + 1, loop (dF D) 0 s (by omega) (frA_rf s 4) (fun j hj => absurd hj (Nat.not_lt_zero _))⟩
/-- the sheet's own numbers: none of a kind that there is not -/
def shN (k n : Int32) : Int32 := if k = 3 then 0 else n
theorem shH_3 {n f st : Int32} {i : Nat} (hi : i < 12) : shH 3 0 f st i = 0 := by
  unfold shH
  rw [if_pos (nI_pos' (by omega))]
theorem s193l (hd : 2 ≤ d) (h : MS s0 s D) (k n f st : Int32) (hn : k = 3 ∨ 0 ≤ n) (kk : ∀ s', MS s0 s' (uL D (dF D) (shH k (shN k n) f st) (dr D)) → Post (some (.int (if k = 3 then -3 else sm (shH k (shN k n) f st) (dF D)))) s') : w193_34 c d Post k n f st s := by
  have hL := h.1.2.1
  have hF := hL.1.2
  have loop : ∀ (m i : Nat) (s' : gs) (v : Int32), i + m = dF D → v = f + nI i * st → frA s s' 50 → (∀ j, j < i → gsA s' 50 j = shH k (shN k n) f st j) → wl193_43 c d Post (m + 1) k n st (sm (shH k (shN k n) f st) i) v (nI i) s' := by
    intro m
    induction m with
    | zero =>
      intro i s' v hi hv hf hh
      have hi' : i = dF D := by omega
      subst hi'
      unfold wl193_43 wb193_43
      rw [hf.1, hL.2.1]
      have k' := kk s' (MS_h h hf hh)
      refine ⟨fun _ => ⟨fun z => ?_, fun z => ?_⟩, fun z => absurd (le_t (by omega) (by omega) (by omega)) z⟩
      · rw [if_pos z] at k'; exact k'
      · rw [if_neg z] at k'; exact k'
    | succ m ih =>
      intro i s' v hi hv hf hh
      have wr : ∀ w : Int32, w = shH k (shN k n) f st i → w193_109 c d Post (wl193_43 c d Post (m + 1)) k n st (sm (shH k (shN k n) f st) i) v (nI i) 50 (nI i) w s' := by
        intro w hw
        refine ⟨12, rfl, vp_in_nI (by omega) (by decide), ?_⟩
        rintro s1 rfl
        refine ⟨vp_in_nI (by omega) (by decide), ?_⟩
        rw [nI_clamp (by omega), gsA_A, upd_eq, nI_1, show vp_nar .int w = w from rfl, hw]
        refine ih (i + 1) _ _ (by omega) ?_ (frA_A hf _ _) (fun j hj => ?_)
        · rw [hv, ← nI_1]; grind
        · rw [gsA_A]
          by_cases e : j = i
          · rw [e, upd_eq]
          · rw [upd_ne e]; exact hh j (by omega)
      have w75 : ∀ e : Int32, e = (if k = 0 then v.toInt8.toInt32 else if k = 1 then v.toInt16.toInt32 else v) → w193_75 c d Post (wl193_43 c d Post (m + 1)) k n st (sm (shH k (shN k n) f st) i) v (nI i) e s' := by
        intro e he
        refine ⟨fun z => wr 0 ?_, fun z => ⟨fun y => wr _ ?_, fun y => wr 0 ?_⟩⟩
        · unfold shH shN
          rw [if_pos z, if_pos (nI_pos' (by omega))]
        · unfold shH shN
          rw [if_neg z, if_neg (i_nle.mpr y), he, hv]
          rfl
        · unfold shH shN
          rw [if_neg z, if_pos (i_nlt.mp y)]
      unfold wl193_43 wb193_43
      rw [hf.1, hL.2.1]
      refine ⟨fun z => absurd z (le_f (by omega) (by omega) (by omega)), fun _ => ⟨fun z => w75 _ ?_, fun z => ⟨fun y => w75 _ ?_, fun y => w75 _ ?_⟩⟩⟩
      · rw [if_pos z]
      · rw [if_neg z, if_pos y]
      · rw [if_neg z, if_neg y]
  exact ⟨dF D + 1, loop (dF D) 0 s f (by omega) (by rw [show nI 0 = 0 from rfl]; grind) (frA_rf s 50) (fun j hj => absurd hj (Nat.not_lt_zero _))⟩
theorem cl_sheet (h : HY d s B D) (k n f st : Int32) : CL c d 83 193 [.int k, .int n, .int f, .int st] s B := by
  have hd := h.1
  have hv := h.2.2.2.1
  by_cases q : (0 ≤ k ∧ k ≤ 3) ∧ n ≤ 12
  · obtain ⟨q1, q2⟩ := q
    by_cases q3 : k = 3 ∨ 0 ≤ n
    · refine glu1 h (D' := uL D (dF D) (shH k (shN k n) f st) (dr D)) (x := if k = 3 then -3 else sm (shH k (shN k n) f st) (dF D)) (VD_mono hv (Nat.le_add_right B 60)) (fun Post kk => ?_) (fun s1 Post hm kk => ?_)
      · obtain ⟨d, rfl⟩ := d_1 (show 1 ≤ d by omega)
        have hS := XS_rf h.2.1
        refine okm83 c d Post _ _ _ _ s ⟨fun z => absurd z (i_nlt.mpr q1.1), fun _ => ⟨fun z => absurd z (i_nlt.mpr q1.2), fun _ => ⟨fun _ => ⟨fun z => ?_, fun z => ⟨fun y => ?_, fun y => ?_⟩⟩, fun z => absurd q2 z⟩⟩⟩
        · refine s25 (by omega) hS _ _ _ _ (fun s2 h2 => ⟨_, rfl, ?_⟩)
          have k' := kk s2
          rw [if_pos z] at k'
          refine k' ?_
          unfold shN
          rw [if_pos z]
          exact h2
        · refine s25 (by omega) hS _ _ _ _ (fun s2 h2 => ⟨_, rfl, ?_⟩)
          have k' := kk s2
          rw [if_neg z] at k'
          unfold shN at k'
          rw [if_neg z] at k'
          exact k' h2
        · exact absurd q3 (fun w => w.elim z y)
      · obtain ⟨d, rfl⟩ := d_1 (show 1 ≤ d by omega)
        refine okm193 c d Post _ _ _ _ s1 ?_
        rintro s2 rfl
        have hm1 := MS_thr hm 0
        have lp := s193l (c := c) (d := d) (Post := Post) (by omega) hm1 k n f st q3 kk
        refine s154 (by omega) _ _ _ ⟨_, rfl, fun z => ?_, fun _ => ⟨fun _ => ⟨fun z => lp, fun z => ⟨fun y => lp, fun y => ?_⟩⟩, fun z => absurd q2 z⟩⟩
        · rw [bI_0] at z; exact absurd q1 z
        · rcases q3 with w | w
          · rw [w] at z; exact absurd (by decide) z
          · exact absurd w y
    · refine glu0 h (x := -2) (fun Post kk => ?_) (fun s1 Post hm kk => ?_)
      · obtain ⟨d, rfl⟩ := d_1 (show 1 ≤ d by omega)
        have k' := kk s (XS_rf h.2.1)
        exact okm83 c d Post _ _ _ _ s ⟨fun z => absurd z (i_nlt.mpr q1.1), fun _ => ⟨fun z => absurd z (i_nlt.mpr q1.2), fun _ => ⟨fun _ => ⟨fun z => absurd (Or.inl z) q3, fun z => ⟨fun y => absurd (Or.inr y) q3, fun y => k'⟩⟩, fun z => absurd q2 z⟩⟩⟩
      · obtain ⟨d, rfl⟩ := d_1 (show 1 ≤ d by omega)
        refine okm193 c d Post _ _ _ _ s1 ?_
        rintro s2 rfl
        have hm1 := MS_thr hm 0
        refine s154 (by omega) _ _ _ ⟨_, rfl, fun z => ?_, fun _ => ⟨fun _ => ⟨fun z => absurd (Or.inl ?_) q3, fun z => ⟨fun y => absurd (Or.inr y) q3, fun y => kk _ hm1⟩⟩, fun z => absurd q2 z⟩⟩
        · rw [bI_0] at z; exact absurd q1 z
        · have := q1.2; grind
  · refine glu0 h (x := -1) (fun Post kk => ?_) (fun s1 Post hm kk => ?_)
    · obtain ⟨d, rfl⟩ := d_1 (show 1 ≤ d by omega)
      have k' := kk s (XS_rf h.2.1)
      exact okm83 c d Post _ _ _ _ s ⟨fun z => k', fun z1 => ⟨fun z => k', fun z2 => ⟨fun z3 => absurd ⟨⟨i_nlt.mp z1, i_nlt.mp z2⟩, z3⟩ q, fun z => k'⟩⟩⟩
    · obtain ⟨d, rfl⟩ := d_1 (show 1 ≤ d by omega)
      refine okm193 c d Post _ _ _ _ s1 ?_
      rintro s2 rfl
      have k' := kk _ (MS_thr hm 0)
      refine s154 (by omega) _ _ _ ⟨_, rfl, fun z => k', fun z1 => ⟨fun z2 => ?_, fun z => k'⟩⟩
      rw [bI_0, Classical.not_not] at z1
      exact absurd ⟨z1, z2⟩ q
end C12
