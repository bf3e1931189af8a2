/-! Calls, the first lot. -/
theorem XN_V {s : gs} {D : DD} (h : XN s D) {r : Nat} (hr : r ≠ 10 ∧ r ≠ 12) (k : Nat) (x : Int32) : XN (gs_V s r k x) D := by
  intro i hi
  have := h i hi
  rw [show gsV (gs_V s r k x) (10 + 2 * i) = gsV s (10 + 2 * i) from by funext j; rw [V_V, if_neg (by omega)]]
  exact this
theorem XN_A {s : gs} {D : DD} (h : XN s D) {r : Nat} (hr : r ≠ 11 ∧ r ≠ 13) (k : Nat) (x : Int32) : XN (gs_A s r k x) D := by
  intro i hi
  have := h i hi
  rw [show gsA (gs_A s r k x) (11 + 2 * i) = gsA s (11 + 2 * i) from by funext j; rw [A_A, if_neg (by omega)]]
  exact this
theorem xg_Vn {s : gs} {r b : Nat} (h : b ≠ r) (k : Nat) (x : Int32) : xg (gs_V s r k x) b = xg s b := xg_cg (by funext j; rw [V_V, if_neg h]) rfl
theorem XU_V {s : gs} {D : DD} (h : XU s D) {r : Nat} (hr : r ≠ 17 ∧ (r < 19 ∨ 31 ≤ r)) (k : Nat) (x : Int32) : XU (gs_V s r k x) D := by
  obtain ⟨a1, a2, p, a3, a4, a5⟩ := h
  have e : gsV (gs_V s r k x) 17 = gsV s 17 := by funext j; rw [V_V, if_neg (by omega)]
  unfold XU
  rw [e]
  refine ⟨a1, a2, p, a3, a4, fun i hi => ?_⟩
  rw [xg_Vn (by omega)]
  exact a5 i hi
theorem XK_V {s : gs} {D : DD} (h : XK s D) {r : Nat} (hr : r ≠ 0 ∧ (r < 32 ∨ 34 ≤ r)) (k : Nat) (x : Int32) : XK (gs_V s r k x) D := by
  intro i hi
  have := h i hi
  have e : gsV (gs_V s r k x) 0 = gsV s 0 := by funext j; rw [V_V, if_neg (by omega)]
  rw [e, xg_Vn (by omega)]
  exact this
theorem XS_T {s0 s : gs} {D : DD} (h : XS s0 s D) {n : Nat} (hn : n ≤ dT D) : XS s0 (gs_V s 1 1 (nI n)) (uT D n (dt D)) := by
  obtain ⟨⟨h1, h2, h3, h4, h5, h6, h7, h8, h9, h10⟩, hf⟩ := h
  exact ⟨⟨⟨by have := h1.1; show n ≤ 80; omega, rfl, fun i hi => h1.2.2 i (Nat.lt_of_lt_of_le hi hn)⟩, h2, h3, h4, XN_V h5 (by decide) _ _, h6, XU_V h7 (by decide) _ _, XK_V h8 (by decide) _ _, h9, h10⟩, frX_V hf (by decide) _ _⟩
theorem MS_T {s0 s : gs} {D : DD} (h : MS s0 s D) {n : Nat} (hn : n ≤ dT D) : MS s0 (gs_V s 48 10 (nI n)) (uT D n (dt D)) := by
  obtain ⟨⟨h1, h2, h3, h4, h5, h6, h7, h8, h9, h10⟩, hf⟩ := h
  exact ⟨⟨⟨by have := h1.1; show n ≤ 80; omega, rfl, fun i hi => h1.2.2 i (Nat.lt_of_lt_of_le hi hn)⟩, h2, h3, h4, h5, h6, h7, h8, h9, h10⟩, frM_V hf (by decide) _ _⟩
def HY (d : Nat) (s : gs) (B : Nat) (D : DD) : Prop := 1100 ≤ d ∧ QX s D ∧ QM s D ∧ VD B D ∧ B < 2 ^ 19
theorem HY_n {d : Nat} {s : gs} {B : Nat} {D : DD} (h : HY d s B D) : okN (dF D) B (dg D) := okG_N h.2.2.2.1.2.1 h.2.2.2.1.1.2 (by have := h.2.2.2.2; omega)
theorem XS_rf {s : gs} {D : DD} (h : QX s D) : XS s s D := ⟨h, frX_rf s⟩
section C1
variable {c : gx} {d B : Nat} {s : gs} {D : DD}
/-- nothing changes -/
theorem glu0 (h : HY d s B D) {jx jm : Nat} {as : List Value} {x : Int32} (hx : ∀ Post : Option Value → gs → Prop, (∀ s', XS s s' D → Post (some (.int x)) s') → tE c d jx (.ref 0 :: as) s Post) (hm : ∀ (s1 : gs) (Post : Option Value → gs → Prop), MS s1 s1 D → (∀ s', MS s1 s' D → Post (some (.int x)) s') → tE c d jm (.ref 48 :: as) s1 Post) : CL c d jx jm as s B :=
  glu h.2.1 h.2.2.1 (VD_mono h.2.2.2.1 (by omega)) hx hm
theorem glu1 (h : HY d s B D) {D' : DD} (hv : VD (B + 60) D') {jx jm : Nat} {as : List Value} {x : Int32} (hx : ∀ Post : Option Value → gs → Prop, (∀ s', XS s s' D' → Post (some (.int x)) s') → tE c d jx (.ref 0 :: as) s Post) (hm : ∀ (s1 : gs) (Post : Option Value → gs → Prop), MS s1 s1 D → (∀ s', MS s1 s' D' → Post (some (.int x)) s') → tE c d jm (.ref 48 :: as) s1 Post) : CL c d jx jm as s B :=
  glu h.2.1 h.2.2.1 hv hx hm
theorem cl_end (h : HY d s B D) (x : Int32) : CL c d 76 161 [.int x] s B := by
  have hT := h.2.1.1
  by_cases q : 0 ≤ x ∧ x ≤ nI (dT D)
  · obtain ⟨n, hn, rfl⟩ := i_nat q.1
    have q2 := q.2
    rw [nI_le' hn (by have := hT.1; omega)] at q2
    refine glu1 h (D' := uT D n (dt D)) (x := 1) (VD_mono h.2.2.2.1 (by omega)) (fun Post k => ?_) (fun s1 Post hm k => ?_)
    · obtain ⟨d, rfl⟩ := d_1 (show 1 ≤ d by have := h.1; omega)
      refine okm76 c d Post _ s ⟨fun z => absurd z (i_nlt.mpr q.1), fun _ => ⟨fun _ => ?_, fun z => ?_⟩⟩
      · rintro s1 rfl
        exact k _ (XS_T (XS_rf h.2.1) q2)
      · rw [hT.2.1] at z
        exact absurd q.2 z
    · obtain ⟨d, rfl⟩ := d_1 (show 1 ≤ d by have := h.1; omega)
      refine okm161 c d Post _ s1 ?_
      rintro s2 rfl
      have hm1 := MS_thr hm 0
      refine s154 (by have := h.1; omega) _ _ _ ⟨_, rfl, fun z => ?_, fun _ => ?_⟩
      · rw [bI_0, hm1.1.1.2.1] at z
        exact absurd q z
      · rintro s3 rfl
        exact k _ (MS_T hm1 q2)
  · refine glu0 h (x := 0) (fun Post k => ?_) (fun s1 Post hm k => ?_)
    · obtain ⟨d, rfl⟩ := d_1 (show 1 ≤ d by have := h.1; omega)
      have k' := k s (XS_rf h.2.1)
      refine okm76 c d Post _ s ⟨fun z => k', fun z => ⟨fun y => ?_, fun z => k'⟩⟩
      rw [hT.2.1] at y
      exact absurd ⟨i_nlt.mp z, y⟩ q
    · obtain ⟨d, rfl⟩ := d_1 (show 1 ≤ d by have := h.1; omega)
      refine okm161 c d Post _ s1 ?_
      rintro s2 rfl
      have hm1 := MS_thr hm 0
      refine s154 (by have := h.1; omega) _ _ _ ⟨_, rfl, fun z => k _ hm1, fun z => ?_⟩
      rw [bI_0, hm1.1.1.2.1, Classical.not_not] at z
      exact absurd z q
theorem cl_whose (h : HY d s B D) : CL c d 84 198 [] s B := by
  obtain ⟨⟨a1, a2⟩, _⟩ := HY_n h
  have hB := h.2.2.2.2
  refine glu0 h (x := who (dg D) (gn (dg D) 0)) (fun Post k => ?_) (fun s1 Post hm k => ?_)
  · exact s84 (by have := h.1; omega) (XS_rf h.2.1) a1 (by omega) (k _ (XS_rf h.2.1))
  · obtain ⟨d, rfl⟩ := d_1 (show 1 ≤ d by have := h.1; omega)
    refine okm198 c d Post s1 ?_
    rintro s2 rfl
    have hm1 := MS_thr hm 0
    have e : gsA (gs_V s1 48 13 0) 49 = dg D := hm1.1.2.2.2.2.2.1
    rw [e]
    refine ⟨vpd rfl, ?_⟩
    rw [show dg D (0 : Int32).toNatClampNeg = nI (gn (dg D) 0) from a1]
    exact s184' (by have := h.1; omega) e (by omega) ⟨_, rfl, k _ hm1⟩
/-- a consul's numbers -/
def s2N (b : Nat → Int32) (n : Nat) (v : Int32) : Nat → Int32 := fun i => if i = n then v else b i
theorem VD_B (h : VD B D) {n : Nat} {v : Int32} (hv : 0 ≤ v ∧ v ≤ 9) : VD B (uB D (s2N (db D) n v) (dl D)) := by
  refine ⟨h.1, h.2.1, h.2.2.1, h.2.2.2.1, fun i hi => ⟨(h.2.2.2.2 i hi).1, ?_, (h.2.2.2.2 i hi).2.2⟩⟩
  show ∃ m, m ≤ 9 ∧ (if i = n then v else db D i) = nI m
  by_cases e : i = n
  · rw [if_pos e]
    obtain ⟨m, hm, em⟩ := i_nat hv.1
    refine ⟨m, ?_, em⟩
    have := hv.2
    rw [em] at this
    exact (nI_le' (b := 9) hm (by decide)).mp this
  · rw [if_neg e]
    exact (h.2.2.2.2 i hi).2.1
theorem cl_set (h : HY d s B D) (x y v : Int32) : CL c d 82 192 [.int x, .int y, .int v] s B := by
  have hd := h.1
  by_cases q : (x = 0 ∨ x = 1) ∧ (0 ≤ y ∧ y ≤ 1) ∧ (0 ≤ v ∧ v ≤ 9)
  · obtain ⟨q1, q2, q3⟩ := q
    have hn : ∃ n, n < 2 ∧ x = nI n := by
      rcases q1 with z | z
      · exact ⟨0, by decide, z⟩
      · exact ⟨1, by decide, z⟩
    obtain ⟨n, hn, rfl⟩ := hn
    have bX := XD_b h.2.1.2.2.2.1 hn
    by_cases hy : y = 0
    · refine glu1 h (D' := uB D (s2N (db D) n v) (dl D)) (x := db D n) (VD_B (VD_mono h.2.2.2.1 (Nat.le_add_right B 60)) q3) (fun Post k => ?_) (fun s1 Post hm k => ?_)
      · obtain ⟨d, rfl⟩ := d_1 (show 1 ≤ d by omega)
        refine okm82 c d Post _ _ _ s (s147 (by omega) _ ⟨_, rfl, fun z => ?_, fun _ => ⟨fun z => absurd z (i_nlt.mpr q2.1), fun _ => ⟨fun z => absurd z (i_nlt.mpr q2.2), fun _ => ⟨fun z => absurd z (i_nlt.mpr q3.1), fun _ => ⟨fun _ => s148' (by omega) hn ⟨_, rfl, fun _ => ⟨ldr_c hn, ⟨fun _ => ⟨ldr_c hn, ?_⟩, fun z => absurd hy z⟩⟩, fun z => absurd hy z⟩, fun z => absurd q3.2 z⟩⟩⟩⟩⟩)
        · rw [bI_0] at z; exact absurd q1 z
        · rintro s1 rfl
          rw [bX.1]
          refine k _ ?_
          obtain ⟨h1, h2, h3, h4, h5, h6, h7, h8, h9, h10⟩ := h.2.1
          have h5' : XN (gs_V s (10 + 2 * n) 0 v) D := by
            intro i hi
            have := h5 i hi
            rw [V_V, V_V]
            simp only [show ¬ (3 = 0) by decide, show ¬ (4 = 0) by decide, if_false, ite_self]
            exact this
          have h7' := XU_V h7 (r := 10 + 2 * n) (by omega) 0 v
          have h8' := XK_V h8 (r := 10 + 2 * n) (by omega) 0 v
          rcases (show n = 0 ∨ n = 1 by omega) with rfl | rfl
          · exact ⟨⟨h1, h2, h3, ⟨rfl, h4.2.1, h4.2.2.1, h4.2.2.2⟩, h5', h6, h7', h8', h9, h10⟩, frX_V (frX_rf s) (by omega) _ _⟩
          · exact ⟨⟨h1, h2, h3, ⟨h4.1, rfl, h4.2.2.1, h4.2.2.2⟩, h5', h6, h7', h8', h9, h10⟩, frX_V (frX_rf s) (by omega) _ _⟩
      · obtain ⟨d, rfl⟩ := d_1 (show 1 ≤ d by omega)
        refine okm192 c d Post _ _ _ s1 ?_
        rintro s2 rfl
        have hm1 := MS_thr hm 0
        refine s159 (by omega) _ ⟨_, rfl, fun z => ?_, fun _ => s154 (by omega) _ _ _ ⟨_, rfl, fun z => ?_, fun _ => s154 (by omega) _ _ _ ⟨_, rfl, fun z => ?_, fun _ => ⟨fun _ => ⟨vp_in_nI hn (by decide), ⟨fun _ => ⟨vp_in_nI hn (by decide), ?_⟩, fun z => absurd hy z⟩⟩, fun z => absurd hy z⟩⟩⟩⟩
        · rw [bI_0] at z; exact absurd q1 z
        · rw [bI_0] at z; exact absurd q2 z
        · rw [bI_0] at z; exact absurd q3 z
        · rintro s3 rfl
          rw [nI_clamp (by omega), (hm1.1.2.2.2.1 n hn).1]
          refine k _ ?_
          obtain ⟨⟨m1, m2, m3, m4, m5, m6, m7, m8, m9, m10⟩, hf⟩ := hm1
          refine ⟨⟨m1, m2, m3, fun i hi => ?_, m5, m6, m7, m8, m9, m10⟩, frM_A hf (by decide) _ _⟩
          have := m4 i hi
          refine ⟨?_, this.2⟩
          rw [A_A, if_pos rfl]
          show (if i = n then v else _) = if i = n then v else db D i
          rw [this.1]
    · refine glu1 h (D' := uB D (db D) (s2N (dl D) n v)) (x := dl D n) (VD_mono h.2.2.2.1 (by omega)) (fun Post k => ?_) (fun s1 Post hm k => ?_)
      · obtain ⟨d, rfl⟩ := d_1 (show 1 ≤ d by omega)
        refine okm82 c d Post _ _ _ s (s147 (by omega) _ ⟨_, rfl, fun z => ?_, fun _ => ⟨fun z => absurd z (i_nlt.mpr q2.1), fun _ => ⟨fun z => absurd z (i_nlt.mpr q2.2), fun _ => ⟨fun z => absurd z (i_nlt.mpr q3.1), fun _ => ⟨fun _ => s148' (by omega) hn ⟨_, rfl, fun z => absurd z hy, fun _ => ⟨ldr_c hn, ⟨fun z => absurd z hy, fun _ => ⟨ldr_c hn, ?_⟩⟩⟩⟩, fun z => absurd q3.2 z⟩⟩⟩⟩⟩)
        · rw [bI_0] at z; exact absurd q1 z
        · rintro s1 rfl
          rw [bX.2]
          refine k _ ?_
          obtain ⟨h1, h2, h3, h4, h5, h6, h7, h8, h9, h10⟩ := h.2.1
          have h5' : XN (gs_V s (10 + 2 * n) 1 v) D := by
            intro i hi
            have := h5 i hi
            rw [V_V, V_V]
            simp only [show ¬ (3 = 1) by decide, show ¬ (4 = 1) by decide, if_false, ite_self]
            exact this
          have h7' := XU_V h7 (r := 10 + 2 * n) (by omega) 1 v
          have h8' := XK_V h8 (r := 10 + 2 * n) (by omega) 1 v
          rcases (show n = 0 ∨ n = 1 by omega) with rfl | rfl
          · exact ⟨⟨h1, h2, h3, ⟨h4.1, h4.2.1, rfl, h4.2.2.2⟩, h5', h6, h7', h8', h9, h10⟩, frX_V (frX_rf s) (by omega) _ _⟩
          · exact ⟨⟨h1, h2, h3, ⟨h4.1, h4.2.1, h4.2.2.1, rfl⟩, h5', h6, h7', h8', h9, h10⟩, frX_V (frX_rf s) (by omega) _ _⟩
      · obtain ⟨d, rfl⟩ := d_1 (show 1 ≤ d by omega)
        refine okm192 c d Post _ _ _ s1 ?_
        rintro s2 rfl
        have hm1 := MS_thr hm 0
        refine s159 (by omega) _ ⟨_, rfl, fun z => ?_, fun _ => s154 (by omega) _ _ _ ⟨_, rfl, fun z => ?_, fun _ => s154 (by omega) _ _ _ ⟨_, rfl, fun z => ?_, fun _ => ⟨fun z => absurd z hy, fun _ => ⟨vp_in_nI hn (by decide), ⟨fun z => absurd z hy, fun _ => ⟨vp_in_nI hn (by decide), ?_⟩⟩⟩⟩⟩⟩⟩
        · rw [bI_0] at z; exact absurd q1 z
        · rw [bI_0] at z; exact absurd q2 z
        · rw [bI_0] at z; exact absurd q3 z
        · rintro s3 rfl
          rw [nI_clamp (by omega), (hm1.1.2.2.2.1 n hn).2]
          refine k _ ?_
          obtain ⟨⟨m1, m2, m3, m4, m5, m6, m7, m8, m9, m10⟩, hf⟩ := hm1
          refine ⟨⟨m1, m2, m3, fun i hi => ?_, m5, m6, m7, m8, m9, m10⟩, frM_A hf (by decide) _ _⟩
          have := m4 i hi
          refine ⟨this.1, ?_⟩
          rw [A_A, if_pos rfl]
          show (if i = n then v else _) = if i = n then v else dl D i
          rw [this.2]
  · refine glu0 h (x := -1) (fun Post k => ?_) (fun s1 Post hm k => ?_)
    · obtain ⟨d, rfl⟩ := d_1 (show 1 ≤ d by omega)
      have k' := k s (XS_rf h.2.1)
      refine okm82 c d Post _ _ _ s (s147 (by omega) _ ⟨_, rfl, fun z => k', fun z1 => ⟨fun z => k', fun z2 => ⟨fun z => k', fun z3 => ⟨fun z => k', fun z4 => ⟨fun z5 => ?_, fun z => k'⟩⟩⟩⟩⟩)
      rw [bI_0, Classical.not_not] at z1
      exact absurd ⟨z1, ⟨i_nlt.mp z2, i_nlt.mp z3⟩, ⟨i_nlt.mp z4, z5⟩⟩ q
    · obtain ⟨d, rfl⟩ := d_1 (show 1 ≤ d by omega)
      refine okm192 c d Post _ _ _ s1 ?_
      rintro s2 rfl
      have k' := k _ (MS_thr hm 0)
      refine s159 (by omega) _ ⟨_, rfl, fun z => k', fun z1 => s154 (by omega) _ _ _ ⟨_, rfl, fun z => k', fun z2 => s154 (by omega) _ _ _ ⟨_, rfl, fun z => k', fun z3 => ?_⟩⟩⟩
      rw [bI_0, Classical.not_not] at z1 z2 z3
      exact absurd ⟨z1, z2, z3⟩ q
end C1
