/-! Calls: keep, again, count; lasts, feeds, comes, issue, reach, boldness. -/
def gb (x : Int32) (i : Nat) : Bool := x.toBitVec.getLsbD i
theorem gb_sh1 {k i : Nat} (hk : k < 32) (hi : i < 32) : gb (sh1 k) i = decide (i = k) := bit_b k hk i hi
theorem gb_or (x y : Int32) (i : Nat) : gb (x ||| y) i = (gb x i || gb y i) := by
  unfold gb
  show (x.toBitVec ||| y.toBitVec).getLsbD i = _
  rw [BitVec.getLsbD_or]
theorem gb_and (x y : Int32) (i : Nat) : gb (x &&& y) i = (gb x i && gb y i) := by
  unfold gb
  show (x.toBitVec &&& y.toBitVec).getLsbD i = _
  rw [BitVec.getLsbD_and]
theorem gb_0 (i : Nat) : gb 0 i = false := by
  unfold gb
  show (0#32).getLsbD i = false
  simp
theorem gb_ext {x y : Int32} (h : ∀ i, i < 32 → gb x i = gb y i) : x = y := by
  apply Int32.toBitVec_inj.mp
  apply BitVec.eq_of_getLsbD_eq
  exact h
theorem gb_ors {x : Int32} {k i : Nat} (hk : k < 32) (hi : i < 32) : gb (x ||| sh1 k) i = (gb x i || decide (i = k)) := by
  rw [gb_or, gb_sh1 hk hi]
theorem and_sh1 {x : Int32} {k : Nat} (hk : k < 32) : (x &&& sh1 k = 0) ↔ gb x k = false := by
  constructor
  · intro h
    have : gb (x &&& sh1 k) k = false := by rw [h, gb_0]
    rw [gb_and, gb_sh1 hk hk] at this
    simpa using this
  · intro h
    apply gb_ext
    intro i hi
    rw [gb_and, gb_sh1 hk hi, gb_0]
    by_cases e : i = k
    · subst e; rw [h]; rfl
    · rw [decide_eq_false e, Bool.and_false]
section C4
variable {c : gx} {d B : Nat} {s : gs} {D : DD}
theorem kp_c {n : Nat} (hn : n < 2) : gs_isC (31 + 1 + n) 6 = true := by
  rcases (show n = 0 ∨ n = 1 by omega) with rfl | rfl <;> rfl
theorem cl_keep (h : HY d s B D) (x : Int32) : CL c d 143 260 [.int x] s B := by
  have hd := h.1
  have hv := h.2.2.2.1
  by_cases q : 0 ≤ x ∧ x ≤ 1
  · obtain ⟨n, hn, rfl⟩ := i_nat q.1
    have hn2 : n < 2 := by have := (nI_le' (b := 1) hn (by decide)).mp q.2; omega
    have hlt : nI n < 2 := (nI_lt' (b := 2) hn (by decide)).mpr hn2
    refine glu1 h (D' := uK D (fun i => if i = n then true else dk D i) (fun i => if i = n then dg D else dK D i)) (x := 1) ?_ (fun Post k => ?_) (fun s1 Post hm k => ?_)
    · have h2 := VD_mono hv (Nat.le_add_right B 60)
      refine ⟨h2.1, h2.2.1, h2.2.2.1, fun i hi hk => ?_, h2.2.2.2.2⟩
      show okG (dF D) (B + 60) (if i = n then dg D else dK D i)
      have hk' : (if i = n then true else dk D i) = true := hk
      by_cases e : i = n
      · rw [if_pos e]; exact h2.2.1
      · rw [if_neg e] at hk' ⊢; exact h2.2.2.2.1 i hi hk'
    · obtain ⟨d, rfl⟩ := d_1 (show 1 ≤ d by omega)
      refine okm143 c d Post _ s ⟨fun z => absurd z (i_nlt.mpr q.1), fun _ => ⟨fun _ => ⟨vp_in_nI hn2 (by decide), ?_⟩, fun z => absurd hlt z⟩⟩
      rw [nI_clamp hn]
      refine ⟨kp_c hn2, s48 (by omega) (kp_c hn2) rfl (by omega) (fun s1 f1 x1 => ⟨rfl, ?_⟩)⟩
      rintro s2 rfl
      refine k _ ?_
      obtain ⟨h1, h2, h3, h4, h5, h6, h7, h8, h9, h10⟩ := h.2.1
      have f1' : frV s s1 (32 + n) := by rw [show 32 + n = 31 + 1 + n by omega]; exact f1
      have k7 : XU s1 D := XU_frV (D' := D) h7 f1' (by omega) rfl
      obtain ⟨g1, g2, g3, g4, g5⟩ := f1'
      have v0 : gsV s1 0 = gsV s 0 := g1 0 (by omega)
      refine ⟨⟨?_, ?_, ?_, ?_, ?_, ?_, XU_V k7 (by decide) _ _, ?_, ?_, ?_⟩, frX_V (frX_frV (frX_rf s) f1 (by omega)) (by decide) _ _⟩
      · unfold XT at *; rw [A_V, g3, show gsV (gs_V s1 0 10 _) 1 = gsV s 1 from g1 1 (by omega)]; exact h1
      · unfold XL at *; rw [A_V, g3, show gsV (gs_V s1 0 10 _) 3 = gsV s 3 from g1 3 (by omega)]; exact h2
      · unfold XR at *; rw [A_V, g3, show gsV (gs_V s1 0 10 _) 5 = gsV s 5 from g1 5 (by omega)]; exact h3
      · unfold XD at *; rw [show gsV (gs_V s1 0 10 _) 10 = gsV s 10 from g1 10 (by omega), show gsV (gs_V s1 0 10 _) 12 = gsV s 12 from g1 12 (by omega)]; exact h4
      · refine XN_V ?_ (by decide) _ _
        intro i hi
        have := h5 i hi
        rw [g1 (10 + 2 * i) (by omega), g3]
        exact this
      · show xg _ 14 = dg D
        rw [xg_Vn (by decide), xg_cg (g1 14 (by omega)) (g2 14 (by omega))]
        exact h6
      · intro i hi
        have := h8 i hi
        refine ⟨?_, fun hk => ?_⟩
        · rw [V_V, if_pos rfl, if_pos rfl, v0]
          show gb (gsV s 0 10 ||| sh1 n) i = if i = n then true else dk D i
          rw [gb_ors (by omega) (by omega), show gb (gsV s 0 10) i = dk D i from this.1]
          by_cases e : i = n
          · simp [e]
          · simp [e]
        · show xg _ (32 + i) = if i = n then dg D else dK D i
          have hk' : (if i = n then true else dk D i) = true := hk
          rw [xg_Vn (by omega)]
          by_cases e : i = n
          · rw [if_pos e, e, show 32 + n = 31 + 1 + n by omega, x1]; exact h6
          · rw [if_neg e] at hk' ⊢
            rw [xg_cg (g1 _ (by omega)) (g2 _ (by omega))]
            exact this.2 hk'
      · unfold XW at *; rw [R_V, g4, show gsV (gs_V s1 0 10 _) 34 = gsV s 34 from g1 34 (by omega)]; exact h9
      · unfold XO at *; rw [A_V, g3, show gsV (gs_V s1 0 10 _) 41 = gsV s 41 from g1 41 (by omega)]; exact h10
    · obtain ⟨d, rfl⟩ := d_1 (show 1 ≤ d by omega)
      refine okm260 c d Post _ s1 ?_
      rintro s2 rfl
      have hm1 := MS_thr hm 0
      revert hm1
      generalize gs_V s1 48 13 0 = s2
      intro hm1
      refine s154 (by omega) _ _ _ ⟨_, rfl, fun z => ?_, fun _ => ⟨vp_in_nI hn2 (by decide), ?_⟩⟩
      · rw [bI_0] at z; exact absurd q z
      rintro s3 rfl
      rw [nI_clamp hn, show (108 : Int32) * nI n = nI (108 * n) from pk_mul 108 n]
      refine s194 (N := 216) (by omega) rfl rfl (by omega) (by decide) (by decide) (fun s4 f4 e4 => ⟨rfl, k _ ?_⟩)
      obtain ⟨⟨h1, h2, h3, h4, h5, h6, h7, h8, h9, h10, h11⟩, hf⟩ := hm1
      have hf' := frM_frA (frM_A hf (show 48 ≤ 72 by decide) n (vp_nar .boolean 1)) f4 (by decide)
      obtain ⟨g1, g2, g3, g4, g5⟩ := f4
      refine ⟨⟨?_, ?_, ?_, ?_, ?_, ?_, ?_, ?_, ?_, ?_, ?_⟩, hf'⟩
      · unfold MT at *; rw [g1, g3 57 (by decide)]; exact h1
      · unfold ML at *; rw [g1, g3 50 (by decide), g3 51 (by decide)]; exact h2
      · unfold MR at *; rw [g1, g3 61 (by decide)]; exact h3
      · unfold MD at *; rw [g3 52 (by decide), g3 53 (by decide)]; exact h4
      · unfold MN at *; rw [g3 54 (by decide), g3 55 (by decide), g3 56 (by decide)]; exact h5
      · unfold MG at *; rw [g3 49 (by decide)]; exact h6
      · unfold MU at *; rw [g1, g3 63 (by decide)]; exact h7
      · intro i hi
        have := h8 i hi
        refine ⟨?_, fun hk kk hkk => ?_⟩
        · rw [g3 72 (by decide), A_A, if_pos rfl]
          show (if i = n then (1 : Int32) else gsA s2 72 i) = if (if i = n then true else dk D i) = true then 1 else 0
          by_cases e : i = n
          · simp [e]
          · simp only [if_neg e]; exact this.1
        · show gsA s4 71 (108 * i + kk) = (if i = n then dg D else dK D i) kk
          have hk' : (if i = n then true else dk D i) = true := hk
          have e49 : gsA (gs_A s2 72 n (vp_nar .boolean 1)) 49 = dg D := h6
          rw [e4, e49]
          by_cases e : i = n
          · subst e
            rw [if_pos ⟨by omega, by omega⟩, if_pos rfl, show 108 * i + kk - 108 * i = kk by omega]
          · rw [if_neg (by omega), if_neg e]
            rw [if_neg e] at hk'
            exact this.2 hk' kk hkk
      · unfold MW at *; rw [g1, g4]; exact h9
      · unfold MO at *; rw [g1, g3 69 (by decide)]; exact h10
      · unfold MZ at *; rw [g3 65 (by decide)]; exact h11
  · refine glu0 h (x := 0) (fun Post k => ?_) (fun s1 Post hm k => ?_)
    · obtain ⟨d, rfl⟩ := d_1 (show 1 ≤ d by omega)
      have k' := k s (XS_rf h.2.1)
      exact okm143 c d Post _ s ⟨fun z => k', fun z1 => ⟨fun z2 => absurd ⟨i_nlt.mp z1, by grind⟩ q, fun z => k'⟩⟩
    · obtain ⟨d, rfl⟩ := d_1 (show 1 ≤ d by omega)
      refine okm260 c d Post _ s1 ?_
      rintro s2 rfl
      refine s154 (by omega) _ _ _ ⟨_, rfl, fun z => k _ (MS_thr hm 0), fun z => ?_⟩
      rw [bI_0, Classical.not_not] at z
      exact absurd z q
theorem cl_again (h : HY d s B D) (x : Int32) : CL c d 144 261 [.int x] s B := by
  have hd := h.1
  have hv := h.2.2.2.1
  by_cases q : 0 ≤ x ∧ x ≤ 1
  · obtain ⟨n, hn, rfl⟩ := i_nat q.1
    have hn2 : n < 2 := by have := (nI_le' (b := 1) hn (by decide)).mp q.2; omega
    have hlt : ¬ (2 : Int32) ≤ nI n := fun z => by have := (nI_le' (a := 2) (by decide) hn).mp z; omega
    have hK := h.2.1.2.2.2.2.2.2.2.1 n hn2
    by_cases qk : dk D n = true
    · have hg := hv.2.2.2.1 n hn2 qk
      refine glu1 h (D' := uU (uG D (dK D n)) 0 (dU D)) (x := 1) ?_ (fun Post k => ?_) (fun s1 Post hm k => ?_)
      · have h2 := VD_mono hv (Nat.le_add_right B 60)
        exact ⟨h2.1, okG_mono hg (Nat.le_add_right B 60), fun i hi => absurd hi (Nat.not_lt_zero _), h2.2.2.2⟩
      · obtain ⟨d, rfl⟩ := d_1 (show 1 ≤ d by omega)
        refine okm144 c d Post _ s ⟨fun z => absurd z (i_nlt.mpr q.1), fun _ => ⟨fun z => absurd z hlt, fun _ => ⟨fun z => ?_, fun _ => ⟨vp_in_nI hn2 (by decide), ?_⟩⟩⟩⟩
        · have z' : gsV s 0 10 &&& sh1 n = 0 := z
          rw [and_sh1 (by omega)] at z'
          rw [show gb (gsV s 0 10) n = dk D n from hK.1, qk] at z'
          cases z'
        · rw [nI_clamp hn]
          refine s48 (by omega) rfl (kp_c hn2) (by omega) (fun s1 f1 x1 => ⟨rfl, ?_⟩)
          rintro s2 rfl
          rw [show 31 + 1 + n = 32 + n by omega, hK.2 qk] at x1
          have hS := XS_now (XS_rf h.2.1) f1 x1
          obtain ⟨⟨h1, h2, h3, h4, h5, h6, h7, h8, h9, h10⟩, hf⟩ := hS
          obtain ⟨a1, a2, p, a3, a4, a5⟩ := h7
          exact k _ ⟨⟨h1, h2, h3, h4, XN_V h5 (by decide) _ _, h6, ⟨rfl, Nat.zero_le _, p, a3, a4, fun i hi => absurd hi (Nat.not_lt_zero _)⟩, XK_V h8 (by decide) _ _, h9, h10⟩, frX_V hf (by decide) _ _⟩
      · obtain ⟨d, rfl⟩ := d_1 (show 1 ≤ d by omega)
        refine okm261 c d Post _ s1 ?_
        rintro s2 rfl
        have hm1 := MS_thr hm 0
        revert hm1
        generalize gs_V s1 48 13 0 = s2
        intro hm1
        have mK := hm1.1.2.2.2.2.2.2.2.1 n hn2
        have e49 : gsA s2 49 = dg D := hm1.1.2.2.2.2.2.1
        refine s154 (by omega) _ _ _ ⟨_, rfl, fun z => ?_, fun _ => ⟨vp_in_nI hn2 (by decide), fun z => ?_, fun _ => ?_⟩⟩
        · rw [bI_0] at z; exact absurd q z
        · rw [nI_clamp hn, mK.1, qk] at z; cases z
        · have loop : ∀ (m i : Nat) (s3 : gs), i + m = 108 → frA s2 s3 49 → (∀ j, gsA s3 49 j = if j < i then dK D n j else dg D j) → wl261_27 c d Post (m + 1) (nI n) (nI i) s3 := by
            intro m
            induction m with
            | zero =>
              intro i s3 hi f hh
              refine ⟨fun _ => ?_, fun y => ?_⟩
              · rintro s4 rfl
                have ei : i = 108 := by omega
                subst ei
                have e3 : gsA s3 49 = dK D n := by
                  refine cpy (s := s3) hg.2.2.2.2.2.2 (fun j hj => ?_) (fun j hj => ?_)
                  · rw [hh, if_neg (by omega), hv.2.1.2.2.2.2.2.2 j hj]
                  · rw [hh, if_pos hj]
                obtain ⟨⟨m1, m2, m3, m4, m5, m6, m7, m8, m9, m10⟩, hf⟩ := MS_now hm1 f e3
                exact k _ ⟨⟨m1, m2, m3, m4, m5, m6, ⟨rfl, Nat.zero_le _, fun i hi => absurd hi (Nat.not_lt_zero _)⟩, m8, m9, m10⟩, frM_V hf (by decide) _ _⟩
              · have : ¬ nI 108 ≤ nI i := y
                rw [nI_le' (by decide) (by omega)] at this
                omega
            | succ m ih =>
              intro i s3 hi f hh
              refine ⟨fun y => ?_, fun _ => ?_⟩
              · have : nI 108 ≤ nI i := y
                rw [nI_le' (by decide) (by omega)] at this
                omega
              · rw [show (108 : Int32) * nI n = nI (108 * n) from pk_mul 108 _, nI_add, nI_clamp (by omega), nI_clamp (by omega), nI_1]
                refine ⟨vp_in_nI (by omega) (by decide), vp_in_nI (by omega) (by decide), ?_⟩
                rintro s4 rfl
                refine ih (i + 1) _ (by omega) (frA_A f _ _) (fun j => ?_)
                rw [gsA_A, f.2.2.1 71 (by decide), mK.2 qk i (by omega)]
                show upd (gsA s3 49) i (dK D n i) j = _
                by_cases e : j = i
                · rw [e, upd_eq, if_pos (by omega)]
                · rw [upd_ne e, hh]
                  by_cases e2 : j < i
                  · rw [if_pos e2, if_pos (by omega)]
                  · rw [if_neg e2, if_neg (by omega)]
          exact ⟨109, loop 108 0 s2 rfl (frA_rf s2 49) (fun j => by rw [if_neg (by omega), e49])⟩
    · refine glu0 h (x := 0) (fun Post k => ?_) (fun s1 Post hm k => ?_)
      · obtain ⟨d, rfl⟩ := d_1 (show 1 ≤ d by omega)
        have k' := k s (XS_rf h.2.1)
        refine okm144 c d Post _ s ⟨fun z => k', fun _ => ⟨fun z => k', fun _ => ⟨fun z => k', fun z => absurd ?_ z⟩⟩⟩
        have : gsV s 0 10 &&& sh1 n = 0 := by
          rw [and_sh1 (by omega), show gb (gsV s 0 10) n = dk D n from hK.1]
          simpa using qk
        exact this
      · obtain ⟨d, rfl⟩ := d_1 (show 1 ≤ d by omega)
        refine okm261 c d Post _ s1 ?_
        rintro s2 rfl
        have hm1 := MS_thr hm 0
        have mK := hm1.1.2.2.2.2.2.2.2.1 n hn2
        refine s154 (by omega) _ _ _ ⟨_, rfl, fun z => k _ hm1, fun _ => ⟨vp_in_nI hn2 (by decide), fun z => k _ hm1, fun z => ?_⟩⟩
        rw [nI_clamp hn, mK.1, if_neg qk] at z
        exact absurd rfl z
  · refine glu0 h (x := 0) (fun Post k => ?_) (fun s1 Post hm k => ?_)
    · obtain ⟨d, rfl⟩ := d_1 (show 1 ≤ d by omega)
      have k' := k s (XS_rf h.2.1)
      exact okm144 c d Post _ s ⟨fun z => k', fun z1 => ⟨fun z => k', fun z2 => absurd ⟨i_nlt.mp z1, by grind⟩ q⟩⟩
    · obtain ⟨d, rfl⟩ := d_1 (show 1 ≤ d by omega)
      refine okm261 c d Post _ s1 ?_
      rintro s2 rfl
      refine s154 (by omega) _ _ _ ⟨_, rfl, fun z => k _ (MS_thr hm 0), fun z => ?_⟩
      rw [bI_0, Classical.not_not] at z
      exact absurd z q
end C4
