/-! Calls: foe, send, lend, sick, undo, seen, forget, keep, again, count. -/
section C3
variable {c : gx} {d B : Nat} {s : gs} {D : DD}
theorem VD_PG {g : Nat → Int32} (hv : VD B D) (hg : okG (dF D) B g) : VD (B + 60) (uP (uG D g) (dg D)) :=
  VD_P (VD_G (VD_mono hv (Nat.le_add_right B 60)) (okG_mono hg (Nat.le_add_right B 60))) (okG_mono hv.2.1 (Nat.le_add_right B 60))
theorem cl_foe (h : HY d s B D) (x : Int32) : CL c d 88 206 [.int x] s B := by
  have hd := h.1
  have hB := h.2.2.2.2
  have hv := h.2.2.2.1
  have hF := hv.1.2
  have hN := HY_n h
  by_cases q : fld D x
  · obtain ⟨n, hn, rfl⟩ := fld_nat hv.1 q
    refine glu1 h (D' := uP (uG D (upd (dg D) 2 (nI n))) (dg D)) (x := dg D 2) (VD_PG hv (okG_u2 hv.2.1 hn)) (fun Post k => ?_) (fun s1 Post hm k => ?_)
    · obtain ⟨d, rfl⟩ := d_1 (show 1 ≤ d by omega)
      refine okm88 c d Post _ s (s48 (by omega) rfl rfl (by decide) (fun s1 f1 x1 => ⟨rfl, ?_⟩))
      have h1 := XS_scr (XS_rf h.2.1) f1 (Or.inl rfl)
      refine s98 (by omega) h1 _ ?_
      rw [if_pos q]
      refine fun s2 h2 x2 => ⟨_, rfl, s94 (by omega) h2 (g := dg D) (by rw [x2, x1]; exact h.2.1.2.2.2.2.2.1) _ (fun z => ?_) (fun z s3 h3 => ⟨_, rfl, k s3 h3⟩)⟩
      rw [hN.2.2.1.1] at z
      exact absurd z (nI_i (by have := hN.2.2.1.2; omega))
    · obtain ⟨d, rfl⟩ := d_1 (show 1 ≤ d by omega)
      refine okm206 c d Post _ s1 ?_
      rintro s2 rfl
      have hm1 := MS_thr hm 0
      refine s158 (by omega) hm1.1.2.1 _ ⟨_, rfl, fun z => ?_, fun _ => s195' (by omega) hm1 (fun s3 h3 => ⟨rfl, vpd rfl, vpd rfl, ?_⟩)⟩
      · rw [bI_0] at z; exact absurd q z
      · have e3 : gsA s3 49 = dg D := h3.1.2.2.2.2.2.1
        rw [e3]
        rintro s4 rfl
        exact k _ (MS_u h3 2 (nI n))
  · refine glu0 h (x := -1) (fun Post k => ?_) (fun s1 Post hm k => ?_)
    · obtain ⟨d, rfl⟩ := d_1 (show 1 ≤ d by omega)
      refine okm88 c d Post _ s (s48 (by omega) rfl rfl (by decide) (fun s1 f1 x1 => ⟨rfl, ?_⟩))
      have h1 := XS_scr (XS_rf h.2.1) f1 (Or.inl rfl)
      refine s98 (by omega) h1 _ ?_
      rw [if_neg q]
      exact ⟨_, rfl, s94 (by omega) h1 (g := xg s1 15) rfl _ (fun z => ⟨_, rfl, k _ h1⟩) (fun z s3 h3 => absurd (by decide) z)⟩
    · obtain ⟨d, rfl⟩ := d_1 (show 1 ≤ d by omega)
      refine okm206 c d Post _ s1 ?_
      rintro s2 rfl
      have hm1 := MS_thr hm 0
      refine s158 (by omega) hm1.1.2.1 _ ⟨_, rfl, fun z => k _ hm1, fun z => ?_⟩
      rw [bI_0, Classical.not_not] at z
      exact absurd z q
theorem cap_n {a b : Nat} (ha : a ≤ 9999) (hb : b ≤ 999) : ∃ m, m ≤ 9999 ∧ cap (nI a + nI b) = nI m := by
  unfold cap
  rw [nI_add]
  by_cases q : nI (a + b) < 9999
  · have : a + b < 9999 := (nI_lt' (b := 9999) (by omega) (by decide)).mp q
    rw [if_pos q]
    exact ⟨_, by omega, rfl⟩
  · rw [if_neg q]
    exact ⟨9999, by omega, rfl⟩
theorem cl_send (h : HY d s B D) (x y : Int32) : CL c d 89 207 [.int x, .int y] s B := by
  have hd := h.1
  have hB := h.2.2.2.2
  have hv := h.2.2.2.1
  have hF := hv.1.2
  have hN := HY_n h
  by_cases q : (0 ≤ x ∧ x ≤ 2) ∧ (1 ≤ y ∧ y ≤ 999)
  · obtain ⟨⟨q1, q2⟩, q3, q4⟩ := q
    obtain ⟨w, hw, rfl⟩ := i_nat q1
    have hw2 : w < 3 := by have := (nI_le' (b := 2) hw (by decide)).mp q2; omega
    obtain ⟨n, hn, rfl⟩ := i_nat (x := y) (by grind)
    have hn2 : n ≤ 999 := (nI_le' (b := 999) hn (by decide)).mp q4
    obtain ⟨_, _, _, ⟨a3, b3⟩, ⟨a4, b4⟩, ⟨a5, b5⟩, _⟩ := hN
    have hc : ∃ m, m ≤ 9999 ∧ cap (dg D (prvG w) + nI n) = nI m := by
      rcases (show w = 0 ∨ w = 1 ∨ w = 2 by omega) with rfl | rfl | rfl
      · show ∃ m, m ≤ 9999 ∧ cap (dg D 5 + nI n) = nI m
        rw [a5]; exact cap_n b5 hn2
      · show ∃ m, m ≤ 9999 ∧ cap (dg D 3 + nI n) = nI m
        rw [a3]; exact cap_n b3 hn2
      · show ∃ m, m ≤ 9999 ∧ cap (dg D 4 + nI n) = nI m
        rw [a4]; exact cap_n b4 hn2
    obtain ⟨m, hm1, hm2⟩ := hc
    have hg : okG (dF D) B (upd (dg D) (prvG w) (cap (dg D (prvG w) + nI n))) := by
      rw [hm2]
      rcases (show w = 0 ∨ w = 1 ∨ w = 2 by omega) with rfl | rfl | rfl
      · exact okG_u5 hv.2.1 hm1
      · exact okG_u3 hv.2.1 hm1
      · exact okG_u4 hv.2.1 hm1
    refine glu1 h (D' := uP (uG D (upd (dg D) (prvG w) (cap (dg D (prvG w) + nI n)))) (dg D)) (x := cap (dg D (prvG w) + nI n)) (VD_PG hv hg) (fun Post k => ?_) (fun s1 Post hm k => ?_)
    · obtain ⟨d, rfl⟩ := d_1 (show 1 ≤ d by omega)
      refine okm89 c d Post _ _ s ⟨fun z => absurd z (i_nlt.mpr q1), fun _ => ⟨fun z => absurd z (i_nlt.mpr q2), fun _ => ⟨fun z => absurd z (i_nlt.mpr q3), fun _ => ⟨fun _ => s48 (by omega) rfl rfl (by decide) (fun s1 f1 x1 => ⟨rfl, ?_⟩), fun z => absurd q4 z⟩⟩⟩⟩
      have h1 := XS_scr (XS_rf h.2.1) f1 (Or.inl rfl)
      have e1 : xg s1 14 = dg D := h1.1.2.2.2.2.2.1
      refine s55 (by omega) rfl hw2 _ (fun s2 f2 x2 => ⟨_, rfl, ?_⟩)
      rw [e1] at x2 ⊢
      refine s94 (by omega) (XS_now h1 f2 x2) (g := dg D) (by rw [xg_cg (f2.1 15 (by decide)) (f2.2.1 15 (by decide)), x1]; exact h.2.1.2.2.2.2.2.1) _ (fun z => ?_) (fun z s3 h3 => ⟨_, rfl, k s3 h3⟩)
      rw [hm2] at z
      exact absurd z (nI_i (by omega))
    · obtain ⟨d, rfl⟩ := d_1 (show 1 ≤ d by omega)
      refine okm207 c d Post _ _ s1 ?_
      rintro s2 rfl
      have hm1 := MS_thr hm 0
      refine s154 (by omega) _ _ _ ⟨_, rfl, fun z => ?_, fun _ => s154 (by omega) _ _ _ ⟨_, rfl, fun z => ?_, fun _ => s195' (by omega) hm1 (fun s3 h3 => ⟨rfl, ?_⟩)⟩⟩
      · rw [bI_0] at z; exact absurd ⟨q1, q2⟩ z
      · rw [bI_0] at z; exact absurd ⟨q3, q4⟩ z
      · have e3 : gsA s3 49 = dg D := h3.1.2.2.2.2.2.1
        have fin : ∀ j : Nat, j < 108 → j = prvG w → w207_53 c d Post (nI n) (nI j) s3 := by
          intro j hj ej
          unfold w207_53
          rw [e3, nI_clamp (by omega)]
          refine ⟨vp_in_nI hj (by decide), vp_in_nI hj (by decide), ?_⟩
          rintro s4 rfl
          refine ⟨vp_in_nI hj (by decide), ?_⟩
          rw [gsA_A, upd_eq, ej]
          exact k _ (MS_u h3 (prvG w) _)
        have c0 : nI w = 0 ↔ w = 0 := nI_eq' (b := 0) (by omega) (by decide)
        have c1 : nI w = 1 ↔ w = 1 := nI_eq' (b := 1) (by omega) (by decide)
        rw [c0, c1]
        refine ⟨fun z => fin 5 (by decide) (by rw [z]; rfl), fun z => ⟨fun y => fin 3 (by decide) (by rw [y]; rfl), fun y => fin 4 (by decide) (by rw [show w = 2 by omega]; rfl)⟩⟩
  · refine glu0 h (x := -1) (fun Post k => ?_) (fun s1 Post hm k => ?_)
    · obtain ⟨d, rfl⟩ := d_1 (show 1 ≤ d by omega)
      have k' := k s (XS_rf h.2.1)
      exact okm89 c d Post _ _ s ⟨fun z => k', fun z1 => ⟨fun z => k', fun z2 => ⟨fun z => k', fun z3 => ⟨fun z4 => absurd ⟨⟨i_nlt.mp z1, i_nlt.mp z2⟩, i_nlt.mp z3, z4⟩ q, fun z => k'⟩⟩⟩⟩
    · obtain ⟨d, rfl⟩ := d_1 (show 1 ≤ d by omega)
      refine okm207 c d Post _ _ s1 ?_
      rintro s2 rfl
      have k' := k _ (MS_thr hm 0)
      refine s154 (by omega) _ _ _ ⟨_, rfl, fun z => k', fun z1 => s154 (by omega) _ _ _ ⟨_, rfl, fun z => k', fun z2 => ?_⟩⟩
      rw [bI_0, Classical.not_not] at z1 z2
      exact absurd ⟨z1, z2⟩ q
theorem lsum_nn {g : Nat → Int32} (hg : ∀ i, 8 ≤ i → i < 108 → g i = 0 ∨ g i = 1) : ∀ (m i a : Nat), i + m ≤ 100 → ∃ n, n ≤ a + m ∧ lsum g i m (nI a) = nI n
  | 0, _, a, _ => ⟨a, by omega, rfl⟩
  | m + 1, i, a, h => by
    show ∃ n, n ≤ a + (m + 1) ∧ lsum g (i + 1) m (nI a + g (8 + i)) = nI n
    rcases hg (8 + i) (by omega) (by omega) with q | q
    · rw [q, Int32.add_zero]
      obtain ⟨n, h1, h2⟩ := lsum_nn hg m (i + 1) a (by omega)
      exact ⟨n, by omega, h2⟩
    · rw [q, nI_1]
      obtain ⟨n, h1, h2⟩ := lsum_nn hg m (i + 1) (a + 1) (by omega)
      exact ⟨n, by omega, h2⟩
theorem cl_lend (h : HY d s B D) (x : Int32) : CL c d 90 209 [.int x] s B := by
  have hd := h.1
  have hB := h.2.2.2.2
  have hv := h.2.2.2.1
  have hF := hv.1.2
  have hN := HY_n h
  have hXG : xg s 14 = dg D := h.2.1.2.2.2.2.2.1
  by_cases q : dg D 0 ≤ x ∧ x ≤ 99
  · have hx : 0 ≤ x := by
      have := q.1
      rw [hN.1.1] at this
      have h0 : 0 ≤ nI (gn (dg D) 0) := i_nlt.mp (nI_pos (by have := hN.1.2; omega))
      grind
    obtain ⟨n, hn, rfl⟩ := i_nat hx
    have hn99 : n ≤ 99 := (nI_le' (b := 99) hn (by decide)).mp q.2
    have hbit : ∀ i, 8 ≤ i → i < 108 → (upd (dg D) (8 + n) (1 - dg D (8 + n))) i = 0 ∨ (upd (dg D) (8 + n) (1 - dg D (8 + n))) i = 1 := by
      intro i h8 h108
      by_cases e : i = 8 + n
      · rw [e, upd_eq]
        have := xg_bit s 14 (8 + n) (by omega)
        rw [hXG] at this
        rcases this with z | z
        · rw [z]; exact Or.inr rfl
        · rw [z]; exact Or.inl rfl
      · rw [upd_ne e]
        have := xg_bit s 14 i h8
        rw [hXG] at this
        exact this
    have hpos : ¬ lentG (upd (dg D) (8 + n) (1 - dg D (8 + n))) (gn (dg D) 0) < 0 := by
      unfold lentG
      have : gn (dg D) 0 ≤ n := by
        have := q.1
        rw [hN.1.1, nI_le' (by have := hN.1.2; omega) hn] at this
        exact this
      obtain ⟨m, h1, h2⟩ := lsum_nn hbit (100 - gn (dg D) 0) (gn (dg D) 0) 0 (by omega)
      rw [show (0 : Int32) = nI 0 from rfl, h2]
      exact nI_pos (by omega)
    refine glu1 h (D' := uP (uG D (upd (dg D) (8 + n) (1 - dg D (8 + n)))) (dg D)) (x := lentG (upd (dg D) (8 + n) (1 - dg D (8 + n))) (gn (dg D) 0)) (VD_PG hv (okG_u6 hv.2.1 (by omega) _)) (fun Post k => ?_) (fun s1 Post hm k => ?_)
    · obtain ⟨d, rfl⟩ := d_1 (show 1 ≤ d by omega)
      refine okm90 c d Post _ s (s48 (by omega) rfl rfl (by decide) (fun s1 f1 x1 => ⟨rfl, ?_⟩))
      have h1 := XS_scr (XS_rf h.2.1) f1 (Or.inl rfl)
      refine s99 (by omega) h1 hN (by omega) _ ?_
      rw [if_pos q, nI_clamp hn]
      exact fun s2 h2 x2 => ⟨_, rfl, s94 (by omega) h2 (g := dg D) (by rw [x2, x1]; exact h.2.1.2.2.2.2.2.1) _ (fun z => absurd z hpos) (fun z s3 h3 => ⟨_, rfl, k s3 h3⟩)⟩
    · obtain ⟨d, rfl⟩ := d_1 (show 1 ≤ d by omega)
      refine okm209 c d Post _ s1 ?_
      rintro s2 rfl
      have hm1 := MS_thr hm 0
      have e1 : gsA (gs_V s1 48 13 0) 49 = dg D := hm1.1.2.2.2.2.2.1
      rw [e1]
      refine ⟨vpd rfl, s154 (by omega) _ _ _ ⟨_, rfl, fun z => ?_, fun _ => s195' (by omega) hm1 (fun s3 h3 => ⟨rfl, ?_⟩)⟩⟩
      · rw [bI_0] at z; exact absurd q z
      · have e3 : gsA s3 49 = dg D := h3.1.2.2.2.2.2.1
        rw [e3, show (8 : Int32) + nI n = nI (8 + n) from nI_add 8 n, nI_clamp (by omega)]
        refine ⟨vp_in_nI (by omega) (by decide), vp_in_nI (by omega) (by decide), ?_⟩
        rintro s4 rfl
        have h4 := MS_u h3 (8 + n) (1 - dg D (8 + n))
        have e4 : gsA (gs_A s3 49 (8 + n) (1 - dg D (8 + n))) 49 = upd (dg D) (8 + n) (1 - dg D (8 + n)) := h4.1.2.2.2.2.2.1
        refine s208 (D := gn (dg D) 0) (by omega) ?_ (by have := hN.1.2; omega) ⟨_, rfl, ?_⟩
        · show gsA (gs_A s3 49 (8 + n) (1 - dg D (8 + n))) 49 0 = _
          rw [e4, upd_ne (by omega)]; exact hN.1.1
        · show Post (some (.int (lentG (gsA (gs_A s3 49 (8 + n) (1 - dg D (8 + n))) 49) (gn (dg D) 0)))) (gs_A s3 49 (8 + n) (1 - dg D (8 + n)))
          rw [e4]
          exact k _ h4
  · refine glu0 h (x := -1) (fun Post k => ?_) (fun s1 Post hm k => ?_)
    · obtain ⟨d, rfl⟩ := d_1 (show 1 ≤ d by omega)
      refine okm90 c d Post _ s (s48 (by omega) rfl rfl (by decide) (fun s1 f1 x1 => ⟨rfl, ?_⟩))
      have h1 := XS_scr (XS_rf h.2.1) f1 (Or.inl rfl)
      refine s99 (by omega) h1 hN (by omega) _ ?_
      rw [if_neg q]
      exact ⟨_, rfl, s94 (by omega) h1 (g := xg s1 15) rfl _ (fun z => ⟨_, rfl, k _ h1⟩) (fun z s3 h3 => absurd (by decide) z)⟩
    · obtain ⟨d, rfl⟩ := d_1 (show 1 ≤ d by omega)
      refine okm209 c d Post _ s1 ?_
      rintro s2 rfl
      have hm1 := MS_thr hm 0
      have e1 : gsA (gs_V s1 48 13 0) 49 = dg D := hm1.1.2.2.2.2.2.1
      rw [e1]
      refine ⟨vpd rfl, s154 (by omega) _ _ _ ⟨_, rfl, fun z => k _ hm1, fun z => ?_⟩⟩
      rw [bI_0, Classical.not_not] at z
      exact absurd z q
theorem con_n {x : Int32} (h : x = 0 ∨ x = 1) : ∃ n, n < 2 ∧ x = nI n := by
  rcases h with z | z
  · exact ⟨0, by decide, z⟩
  · exact ⟨1, by decide, z⟩
theorem cl_sick (h : HY d s B D) (x y : Int32) : CL c d 91 210 [.int x, .int y] s B := by
  have hd := h.1
  have hB := h.2.2.2.2
  have hv := h.2.2.2.1
  have hF := hv.1.2
  have hN := HY_n h
  by_cases q : (x = 0 ∨ x = 1) ∧ (1 ≤ y ∧ y ≤ 30)
  · obtain ⟨q1, q3, q4⟩ := q
    obtain ⟨n, hn, rfl⟩ := con_n q1
    have hpos : ¬ dg D 0 + y - 1 < 0 := by
      obtain ⟨m, hm, rfl⟩ := i_nat (x := y) (by grind)
      have hm30 : m ≤ 30 := (nI_le' (b := 30) hm (by decide)).mp q4
      have hm1 : 1 ≤ m := (nI_le' (a := 1) (by decide) hm).mp q3
      rw [hN.1.1, nI_add, show nI (gn (dg D) 0 + m) - 1 = nI (gn (dg D) 0 + m - 1) from pk_sub (a := gn (dg D) 0 + m) (b := 1) (by omega)]
      exact nI_pos (by have := hN.1.2; omega)
    refine glu1 h (D' := uP (uG D (upd (dg D) (6 + n) (dg D 0 + y - 1))) (dg D)) (x := dg D 0 + y - 1) (VD_PG hv (okG_u6 hv.2.1 (by omega) _)) (fun Post k => ?_) (fun s1 Post hm k => ?_)
    · obtain ⟨d, rfl⟩ := d_1 (show 1 ≤ d by omega)
      refine okm91 c d Post _ _ s (s147 (by omega) _ ⟨_, rfl, fun z => ?_, fun _ => ⟨fun z => absurd z (i_nlt.mpr q3), fun _ => ⟨fun _ => s48 (by omega) rfl rfl (by decide) (fun s1 f1 x1 => ⟨rfl, ?_⟩), fun z => absurd q4 z⟩⟩⟩)
      · rw [bI_0] at z; exact absurd q1 z
      have h1 := XS_scr (XS_rf h.2.1) f1 (Or.inl rfl)
      have e1 : xg s1 14 = dg D := h1.1.2.2.2.2.2.1
      refine s50 (by omega) rfl hn _ (fun s2 f2 x2 => ⟨_, rfl, ?_⟩)
      rw [e1] at x2 ⊢
      exact s94 (by omega) (XS_now h1 f2 x2) (g := dg D) (by rw [xg_cg (f2.1 15 (by decide)) (f2.2.1 15 (by decide)), x1]; exact h.2.1.2.2.2.2.2.1) _ (fun z => absurd z hpos) (fun z s3 h3 => ⟨_, rfl, k s3 h3⟩)
    · obtain ⟨d, rfl⟩ := d_1 (show 1 ≤ d by omega)
      refine okm210 c d Post _ _ s1 ?_
      rintro s2 rfl
      have hm1 := MS_thr hm 0
      refine s159 (by omega) _ ⟨_, rfl, fun z => ?_, fun _ => s154 (by omega) _ _ _ ⟨_, rfl, fun z => ?_, fun _ => s195' (by omega) hm1 (fun s3 h3 => ⟨rfl, ?_⟩)⟩⟩
      · rw [bI_0] at z; exact absurd q1 z
      · rw [bI_0] at z; exact absurd ⟨q3, q4⟩ z
      · have e3 : gsA s3 49 = dg D := h3.1.2.2.2.2.2.1
        rw [e3, show (6 : Int32) + nI n = nI (6 + n) from nI_add 6 n, nI_clamp (by omega)]
        refine ⟨vpd rfl, vp_in_nI (by omega) (by decide), ?_⟩
        rintro s4 rfl
        refine ⟨vp_in_nI (by omega) (by decide), ?_⟩
        rw [gsA_A, upd_eq]
        exact k _ (MS_u h3 (6 + n) (dg D 0 + y - 1))
  · refine glu0 h (x := -1) (fun Post k => ?_) (fun s1 Post hm k => ?_)
    · obtain ⟨d, rfl⟩ := d_1 (show 1 ≤ d by omega)
      have k' := k s (XS_rf h.2.1)
      refine okm91 c d Post _ _ s (s147 (by omega) _ ⟨_, rfl, fun z => k', fun z1 => ⟨fun z => k', fun z2 => ⟨fun z3 => ?_, fun z => k'⟩⟩⟩)
      rw [bI_0, Classical.not_not] at z1
      exact absurd ⟨z1, i_nlt.mp z2, z3⟩ q
    · obtain ⟨d, rfl⟩ := d_1 (show 1 ≤ d by omega)
      refine okm210 c d Post _ _ s1 ?_
      rintro s2 rfl
      have k' := k _ (MS_thr hm 0)
      refine s159 (by omega) _ ⟨_, rfl, fun z => k', fun z1 => s154 (by omega) _ _ _ ⟨_, rfl, fun z => k', fun z2 => ?_⟩⟩
      rw [bI_0, Classical.not_not] at z1 z2
      exact absurd ⟨z1, z2⟩ q
theorem cl_undo (h : HY d s B D) : CL c d 93 214 [] s B := by
  have hd := h.1
  have hv := h.2.2.2.1
  have hz := hv.2.1.2.2.2.2.2.2
  by_cases q : du D = 0
  · refine glu0 h (x := -1) (fun Post k => ?_) (fun s1 Post hm k => ?_)
    · exact s93 (by omega) (XS_rf h.2.1) (fun _ => k _ (XS_rf h.2.1)) (fun z => by omega)
    · exact s214 (by omega) hm hz (fun z => by omega) (fun _ s' h' => k s' h') (fun z => by omega)
  · have hg := hv.2.2.1 (du D - 1) (by omega)
    refine glu1 h (D' := uU (uG D (dU D (du D - 1))) (du D - 1) (dU D)) (x := nI (du D - 1)) ?_ (fun Post k => ?_) (fun s1 Post hm k => ?_)
    · have h2 := VD_mono hv (Nat.le_add_right B 60)
      exact ⟨h2.1, okG_mono hg (Nat.le_add_right B 60), fun i hi => h2.2.2.1 i (by have : i < du D - 1 := hi; omega), h2.2.2.2⟩
    · exact s93 (by omega) (XS_rf h.2.1) (fun z => absurd z q) (fun z s' h' => k s' h')
    · exact s214 (by omega) hm hz (fun _ => hg.2.2.2.2.2.2) (fun z => absurd z q) (fun z s' h' => k s' h')
theorem cl_forget (h : HY d s B D) : CL c d 128 242 [] s B := by
  have hd := h.1
  refine glu1 h (D' := uS D 0 (dS D)) (x := jbc (ds D)) (VD_mono h.2.2.2.1 (Nat.le_add_right B 60)) (fun Post k => ?_) (fun s1 Post hm k => ?_)
  · obtain ⟨d, rfl⟩ := d_1 (show 1 ≤ d by omega)
    refine okm128 c d Post s (s266 (by omega) _ ⟨_, rfl, ?_⟩)
    rintro s1 rfl
    rw [show gsV s 41 1 = ds D from h.2.1.2.2.2.2.2.2.2.2.2.1]
    refine k _ ?_
    obtain ⟨h1, h2, h3, h4, h5, h6, h7, h8, h9, h10⟩ := h.2.1
    exact ⟨⟨h1, h2, h3, h4, XN_V h5 (by decide) _ _, h6, XU_V h7 (by decide) _ _, XK_V h8 (by decide) _ _, h9, ⟨rfl, h10.2⟩⟩, frX_V (frX_rf s) (by decide) _ _⟩
  · obtain ⟨d, rfl⟩ := d_1 (show 1 ≤ d by omega)
    refine okm242 c d Post s1 ?_
    rintro s2 rfl
    have hm1 := MS_thr hm 0
    refine s266 (by omega) _ ⟨_, rfl, ?_⟩
    rintro s3 rfl
    rw [show gsV (gs_V s1 48 13 0) 48 34 = ds D from hm1.1.2.2.2.2.2.2.2.2.2.1.1]
    refine k _ ?_
    obtain ⟨⟨h1, h2, h3, h4, h5, h6, h7, h8, h9, h10, h11⟩, hf⟩ := hm1
    exact ⟨⟨h1, h2, h3, h4, h5, h6, h7, h8, h9, ⟨rfl, h10.2⟩, h11⟩, frM_V hf (by decide) _ _⟩
theorem cl_seen (h : HY d s B D) (x y : Int32) : CL c d 127 241 [.int x, .int y] s B := by
  have hd := h.1
  by_cases q : (0 ≤ x ∧ x ≤ 19) ∧ (0 ≤ y ∧ y ≤ 9)
  · obtain ⟨⟨q1, q2⟩, q3, q4⟩ := q
    obtain ⟨n, hn, rfl⟩ := i_nat q1
    have hn20 : n ≤ 19 := (nI_le' (b := 19) hn (by decide)).mp q2
    refine glu1 h (D' := uS D (ds D ||| sh1 n) (s2N (dS D) n y)) (x := jbc (ds D ||| sh1 n)) (VD_mono h.2.2.2.1 (Nat.le_add_right B 60)) (fun Post k => ?_) (fun s1 Post hm k => ?_)
    · obtain ⟨d, rfl⟩ := d_1 (show 1 ≤ d by omega)
      obtain ⟨d, rfl⟩ := d_1 (show 1 ≤ d by omega)
      have hlt : ¬ (20 : Int32) ≤ nI n := fun z => by have := (nI_le' (a := 20) (by decide) hn).mp z; omega
      refine okm127 c (d + 1) Post _ _ s ⟨fun z => absurd z (i_nlt.mpr q1), fun _ => ⟨fun z => absurd z hlt, fun _ => ⟨fun z => absurd z (i_nlt.mpr q3), fun _ => ⟨fun _ => okm33 c d _ _ _ s ⟨fun z => absurd z (i_nlt.mpr q1), fun _ => ⟨fun z => absurd z hlt, fun _ => ⟨vp_in_nI (by omega) (by decide), ?_⟩⟩⟩, fun z => absurd q4 z⟩⟩⟩⟩
      rw [nI_clamp (by omega)]
      rintro s1 rfl s2 rfl
      have e : gsV (gs_A s 42 n (vp_nar .int y)) 41 1 = ds D := h.2.1.2.2.2.2.2.2.2.2.2.1
      rw [e]
      refine s266 (by omega) _ ⟨_, rfl, _, rfl, ?_⟩
      refine k _ ?_
      obtain ⟨h1, h2, h3, h4, h5, h6, h7, h8, h9, h10⟩ := h.2.1
      refine ⟨⟨h1, h2, h3, h4, XN_V (XN_A h5 (by decide) _ _) (by decide) _ _, h6, XU_V h7 (by decide) _ _, XK_V h8 (by decide) _ _, h9, ⟨rfl, fun i hi => ?_⟩⟩, frX_V (frX_A (frX_rf s) (by decide) _ _) (by decide) _ _⟩
      rw [A_V, A_A, if_pos rfl]
      show (if i = n then y else _) = if i = n then y else dS D i
      rw [h10.2 i hi]
    · obtain ⟨d, rfl⟩ := d_1 (show 1 ≤ d by omega)
      refine okm241 c d Post _ _ s1 ?_
      rintro s2 rfl
      have hm1 := MS_thr hm 0
      refine s154 (by omega) _ _ _ ⟨_, rfl, fun z => ?_, fun _ => s154 (by omega) _ _ _ ⟨_, rfl, fun z => ?_, fun _ => ⟨vp_in_nI (by omega) (by decide), ?_⟩⟩⟩
      · rw [bI_0] at z; exact absurd ⟨q1, q2⟩ z
      · rw [bI_0] at z; exact absurd ⟨q3, q4⟩ z
      · rw [nI_clamp (by omega)]
        rintro s3 rfl s4 rfl
        have e : gsV (gs_A (gs_V s1 48 13 0) 69 n (vp_nar .int y)) 48 34 = ds D := hm1.1.2.2.2.2.2.2.2.2.2.1.1
        rw [e]
        refine s266 (by omega) _ ⟨_, rfl, ?_⟩
        refine k _ ?_
        obtain ⟨⟨h1, h2, h3, h4, h5, h6, h7, h8, h9, h10, h11⟩, hf⟩ := hm1
        refine ⟨⟨h1, h2, h3, h4, h5, h6, h7, h8, h9, ⟨rfl, fun i hi => ?_⟩, h11⟩, frM_V (frM_A hf (by decide) _ _) (by decide) _ _⟩
        rw [A_V, A_A, if_pos rfl]
        show (if i = n then y else _) = if i = n then y else dS D i
        rw [h10.2 i hi]
  · refine glu0 h (x := -1) (fun Post k => ?_) (fun s1 Post hm k => ?_)
    · obtain ⟨d, rfl⟩ := d_1 (show 1 ≤ d by omega)
      have k' := k s (XS_rf h.2.1)
      refine okm127 c d Post _ _ s ⟨fun z => k', fun z1 => ⟨fun z => k', fun z2 => ⟨fun z => k', fun z3 => ⟨fun z4 => absurd ⟨⟨i_nlt.mp z1, by grind⟩, i_nlt.mp z3, z4⟩ q, fun z => k'⟩⟩⟩⟩
    · obtain ⟨d, rfl⟩ := d_1 (show 1 ≤ d by omega)
      refine okm241 c d Post _ _ s1 ?_
      rintro s2 rfl
      have k' := k _ (MS_thr hm 0)
      refine s154 (by omega) _ _ _ ⟨_, rfl, fun z => k', fun z1 => s154 (by omega) _ _ _ ⟨_, rfl, fun z => k', fun z2 => ?_⟩⟩
      rw [bI_0, Classical.not_not] at z1 z2
      exact absurd ⟨z1, z2⟩ q
end C3
