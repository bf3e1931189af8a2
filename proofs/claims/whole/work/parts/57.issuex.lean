/-! Issues and wishes on the class's side; wishes on the reference's. -/
theorem frI_A {s s' : gs} (h : frI s s') (k : Nat) (x : Int32) : frI s (gs_A s' 45 k x) := by
  refine ⟨h.1, h.2.1, fun b hb hc => ?_, h.2.2.2⟩
  rw [← h.2.2.1 b hb hc]
  funext j
  rw [A_A, if_neg hc]
theorem frI_V {s s' : gs} (h : frI s s') {b : Nat} (hb : b ≠ 5) : gsV s' b = gsV s b := by
  funext k
  exact h.1 b k (fun q => hb q.1)
theorem frI_x {s s' : gs} (h : frI s s') {b : Nat} (hb : b ≠ 5) : xg s' b = xg s b := xg_cg (frI_V h hb) (by rw [h.2.1])
theorem XR_frI {s s' : gs} {D : DD} (h : XR s D) (f : frI s s') : XR s' D := by
  unfold XR at *
  rw [f.1 5 1 (by decide), f.2.2.1 6 (by decide) (by decide)]
  exact h
theorem XL_frI {s s' : gs} {D : DD} (h : XL s D) (f : frI s s') : XL s' D := by
  unfold XL at *
  rw [frI_V f (b := 3) (by decide), f.2.2.1 4 (by decide) (by decide)]
  exact h
theorem XD_frI {s s' : gs} {D : DD} (h : XD s D) (f : frI s s') : XD s' D := by
  unfold XD at *
  rw [frI_V f (b := 10) (by decide), frI_V f (b := 12) (by decide)]
  exact h
theorem XN_frI {s s' : gs} {D : DD} (h : XN s D) (f : frI s s') : XN s' D := by
  intro i hi
  rw [frI_V f (b := 10 + 2 * i) (by omega), f.2.2.1 (11 + 2 * i) (by omega) (by omega)]
  exact h i hi
theorem QX_frI {s s' : gs} {D : DD} (h : QX s D) (f : frI s s') : QX s' D := by
  obtain ⟨h1, h2, h3, h4, h5, h6, h7, h8, h9, h10⟩ := h
  refine ⟨?_, XL_frI h2 f, XR_frI h3 f, XD_frI h4 f, XN_frI h5 f, ?_, ?_, ?_, ?_, ?_⟩
  · unfold XT at *; rw [frI_V f (b := 1) (by decide), f.2.2.1 2 (by decide) (by decide)]; exact h1
  · unfold XG at *; rw [frI_x f (b := 14) (by decide)]; exact h6
  · unfold XU at *
    rw [frI_V f (b := 17) (by decide)]
    obtain ⟨a1, a2, p, a3, a4, a5⟩ := h7
    refine ⟨a1, a2, p, a3, a4, fun i hi => ?_⟩
    rw [frI_x f (by omega)]; exact a5 i hi
  · unfold XK at *
    intro i hi
    rw [frI_V f (b := 0) (by decide), frI_x f (b := 32 + i) (by omega)]; exact h8 i hi
  · unfold XW at *; rw [frI_V f (b := 34) (by decide), f.2.2.2]; exact h9
  · unfold XO at *; rw [frI_V f (b := 41) (by decide), f.2.2.1 42 (by decide) (by decide)]; exact h10
theorem XS_frI {s0 s s' : gs} {D : DD} (h : XS s0 s D) (f : frI s s') : XS s0 s' D := by
  refine ⟨QX_frI h.1 f, fun b hb => ?_⟩
  have := h.2 b hb
  rw [frI_V f (b := b) (by omega), f.2.1, f.2.2.1 b (by omega), f.2.2.2]
  · exact this
  · omega
section S5
variable {c : gx} {d : Nat} {Post : Option Value → gs → Prop} {s : gs} {D : DD}
theorem ldr {n : Nat} (hn : n < 2) : (if nI n = 1 then 12 else 10 : Nat) = 10 + 2 * n := by
  rcases (show n = 0 ∨ n = 1 by omega) with rfl | rfl
  · rfl
  · rfl
theorem XD_b (h : XD s D) {n : Nat} (hn : n < 2) : gsV s (10 + 2 * n) 0 = db D n ∧ gsV s (10 + 2 * n) 1 = dl D n := by
  rcases (show n = 0 ∨ n = 1 by omega) with rfl | rfl
  · exact ⟨h.1, h.2.2.1⟩
  · exact ⟨h.2.1, h.2.2.2⟩
theorem ldr_c {n : Nat} (hn : n < 2) : gs_isC (10 + 2 * n) 2 = true := by
  rcases (show n = 0 ∨ n = 1 by omega) with rfl | rfl <;> rfl
theorem ldr_a {n : Nat} (hn : n < 2) : gs_isA (10 + 2 * n + 1) 0 20 = true := by
  rcases (show n = 0 ∨ n = 1 by omega) with rfl | rfl <;> rfl
theorem s31 (hd : 1 ≤ d) (h : XD s D) {n : Nat} (hn : n < 2) (k : Post (some (.int (db D n / 3 + 1))) s) : tE c d 31 [.ref (10 + 2 * n)] s Post := by
  obtain ⟨d, rfl⟩ := d_1 hd
  refine okm31 c d Post _ s ⟨ldr_c hn, ?_⟩
  rw [(XD_b h hn).1]
  exact k
theorem s148' (hd : 1 ≤ d) {n : Nat} (hn : n < 2) (k : Post (some (.ref (10 + 2 * n))) s) : tE c d 148 [.ref 0, .int (nI n)] s Post := by
  refine s148 hd _ ?_
  rw [ldr hn]
  exact k
theorem s149 (hd : 3 ≤ d) (hL : XL s D) {a b : Nat} (ha : a < dF D) (hb : b < dF D) (k : Post (some (.int (dh D a - dh D b))) s) : tE c d 149 [.ref 0, .int (nI a), .int (nI b)] s Post := by
  obtain ⟨d, rfl⟩ := d_1 (Nat.le_trans (by decide) hd)
  exact okm149 c d Post _ _ s (s15 (by omega) hL ha ⟨_, rfl, s15 (by omega) hL hb ⟨_, rfl, k⟩⟩)
theorem s151 (hd : 3 ≤ d) (hR : XR s D) (hD : XD s D) {n : Nat} (hn : n < 2) (x2 x3 x4 x5 x6 x7 : Int32) (k : ∀ s', frI s s' → Post (some (.int (isv D n x2 x3 x4 x5 x6 x7))) s') : tE c d 151 [.ref 0, .ref (10 + 2 * n), .int x2, .int x3, .int x4, .int x5, .int x6, .int x7] s Post := by
  obtain ⟨d, rfl⟩ := d_1 (Nat.le_trans (by decide) hd)
  refine okm151 c d Post _ _ _ _ _ _ _ s ?_
  unfold wm151
  rw [(XD_b hD hn).1]
  refine ⟨ldr_c hn, vpd rfl, ?_⟩
  rintro s1 rfl
  rw [V_A, (XD_b hD hn).2]
  refine ⟨ldr_c hn, vpd rfl, ?_⟩
  rintro s2 rfl
  refine ⟨vpd rfl, ?_⟩
  rintro s3 rfl
  refine ⟨vpd rfl, ?_⟩
  rintro s4 rfl
  refine ⟨vpd rfl, ?_⟩
  rintro s5 rfl
  refine ⟨vpd rfl, ?_⟩
  rintro s6 rfl
  refine ⟨vpd rfl, ?_⟩
  rintro s7 rfl
  refine ⟨vpd rfl, ?_⟩
  rintro s8 rfl
  have f := frI_A (frI_A (frI_A (frI_A (frI_A (frI_A (frI_A (frI_A (frI_rf s) (0 : Int32).toNatClampNeg (vp_nar .int (db D n))) (1 : Int32).toNatClampNeg (vp_nar .int (dl D n))) (2 : Int32).toNatClampNeg (vp_nar .int x2)) (3 : Int32).toNatClampNeg (vp_nar .int (x3 / 10))) (4 : Int32).toNatClampNeg (vp_nar .int (x4 / 10))) (5 : Int32).toNatClampNeg (vp_nar .int (x5 / 10))) (6 : Int32).toNatClampNeg (vp_nar .int (x6 - x6 / 10 * 10))) (7 : Int32).toNatClampNeg (vp_nar .int x7)
  refine s11 (by omega) (th := thg (db D n) (dl D n) x2 (x3 / 10) (x4 / 10) (x5 / 10) (x6 - x6 / 10 * 10) x7) (XR_frI hR f) ?_ (fun s' f' => ⟨_, rfl, k s' (frI_tr f (frI_W f'))⟩)
  intro i hi
  rcases (show i = 0 ∨ i = 1 ∨ i = 2 ∨ i = 3 ∨ i = 4 ∨ i = 5 ∨ i = 6 ∨ i = 7 by omega) with rfl | rfl | rfl | rfl | rfl | rfl | rfl | rfl <;> rfl
theorem s150 (hd : 4 ≤ d) (hL : XL s D) (hR : XR s D) (hD : XD s D) {r n a f : Nat} (hr : gs_isC r 6 = true) (hn : n < 2) (ha : a < dF D) (hf : xg s r 2 = nI f) (hf' : f < dF D) (x : Int32) (k : ∀ s', frI s s' → Post (some (.int (isf D (xg s r) n a x))) s') : tE c d 150 [.ref 0, .ref r, .int (nI a), .int (nI n), .int x] s Post := by
  obtain ⟨d, rfl⟩ := d_1 (Nat.le_trans (by decide) hd)
  have hF := hL.1.2
  refine okm150 c d Post _ _ _ _ s ?_
  have e2 : gsV s r 2 = nI f := by rw [xg_0 s r 2 (by decide), hf]
  unfold wm150
  rw [e2]
  refine ⟨hr, s18 (by omega) hL (by omega) (by omega) ⟨_, rfl, s148' (by omega) hn ⟨_, rfl, hr, ?_⟩⟩⟩
  rw [e2]
  refine s149 (by omega) hL ha hf' ⟨_, rfl, hr, hr, hr, s151 (by omega) hR hD hn _ _ _ _ _ _ (fun s' f' => ⟨_, rfl, ?_⟩)⟩
  have := k s' f'
  unfold isf at this
  rw [hf, nI_clamp (by omega)] at this
  rw [xg_0 s r 3 (by decide), xg_0 s r 4 (by decide), xg_0 s r 5 (by decide)]
  exact this
theorem s112 (hd : 4 ≤ d) (hL : XL s D) (hD : XD s D) {n a f : Nat} (hn : n < 2) (ha : a < dF D) (hf : gsV s 14 2 = nI f) (hf' : f < dF D) (k : Post (some (.int (gls (dr D) (dF D) a f (db D n / 3 + 1)))) s) : tE c d 112 [.ref 0, .int (nI n), .int (nI a)] s Post := by
  obtain ⟨d, rfl⟩ := d_1 (Nat.le_trans (by decide) hd)
  have hF := hL.1.2
  refine okm112 c d Post _ _ s (s148' (by omega) hn ⟨_, rfl, ldr_c hn, s31 (by omega) hD hn ⟨_, rfl, ?_⟩⟩)
  rw [hf]
  exact s21 (by omega) hL ha (by omega) _ ⟨_, rfl, k⟩
theorem s30 (hd : 1 ≤ d) (hN : XN s D) {n : Nat} (hn : n < 2) (x : Int32) (k : Post (some (.int (wsh D n x))) s) : tE c d 30 [.ref (10 + 2 * n), .int x] s Post := by
  obtain ⟨d, rfl⟩ := d_1 hd
  obtain ⟨h1, h2, h3, h4⟩ := hN n hn
  have hc := ldr_c hn
  have ha := ldr_a hn
  have k0 : ¬ (0 ≤ x - nI (dd D n) ∧ x - nI (dd D n) < nI (dn D n)) → Post (some (.int 0)) s := fun z => by
    unfold wsh at k
    rwa [if_neg z] at k
  refine okm30 c d Post _ _ s ?_
  unfold wm30 w30_37 w30_38
  rw [h2, h3]
  refine ⟨hc, fun z => k0 (by grind), fun z => ⟨hc, fun y => k0 (by grind), fun y => ⟨hc, 20, ha, fun w => ?_, fun w => ⟨hc, 20, ha, ?_, ?_⟩⟩⟩⟩
  · obtain ⟨m, hm, e⟩ := i_nat (x := x - nI (dd D n)) (by grind)
    rw [e] at w y
    have w' : nI 20 ≤ nI m := w
    rw [nI_le' (by decide) hm] at w'
    rw [nI_le' (by omega) hm] at y
    omega
  · obtain ⟨m, hm, e⟩ := i_nat (x := x - nI (dd D n)) (by grind)
    rw [e] at w ⊢
    have w' : ¬ nI 20 ≤ nI m := w
    rw [nI_le' (by decide) hm] at w'
    exact vp_in_nI (by omega) (by decide)
  · obtain ⟨m, hm, e⟩ := i_nat (x := x - nI (dd D n)) (by grind)
    unfold wsh at k
    rw [if_pos (by grind)] at k
    rw [e] at y k ⊢
    rw [nI_le' (by omega) hm] at y
    rw [nI_clamp (by omega)] at k ⊢
    rw [show 10 + 2 * n + 1 = 11 + 2 * n by omega, h4 m (by omega)]
    exact k
theorem s174 (hd : 2 ≤ d) (hN : MN s D) {n : Nat} (hn : n < 2) (x : Int32) (k : Post (some (.int (wsh D n x))) s) : tE c d 174 [.ref 48, .int (nI n), .int x] s Post := by
  obtain ⟨d, rfl⟩ := d_1 (Nat.le_trans (by decide) hd)
  obtain ⟨h1, h2, h3, h4⟩ := hN n hn
  refine okm174 c d Post _ _ s ?_
  unfold wm174 w174_40
  rw [nI_clamp (by omega), h2, h3]
  refine ⟨vp_in_nI hn (by decide), vp_in_nI hn (by decide), s154 (by omega) _ _ _ ⟨_, rfl, fun z => ?_, fun z => ?_⟩⟩
  · rw [bI_0] at z
    unfold wsh at k
    rw [if_neg (fun q => z ⟨q.1, by grind⟩)] at k
    exact k
  · rw [bI_0, Classical.not_not] at z
    have hq : x - nI (dd D n) < nI (dn D n) := by
      have h5 : (0 : Int32) ≤ nI (dn D n) - 1 := by grind
      have h6 : nI (dn D n) ≤ nI 20 := (nI_le' (by omega) (by decide)).mpr h1
      have h7 : nI 20 = 20 := rfl
      have h8 : 0 ≤ nI (dn D n) := i_nlt.mp (nI_pos (by omega))
      grind
    unfold wsh at k
    rw [if_pos ⟨z.1, hq⟩] at k
    obtain ⟨m, hm, e⟩ := i_nat z.1
    rw [e] at hq k ⊢
    rw [nI_lt' hm (by omega)] at hq
    have e2 : (20 : Int32) * nI n + nI m = nI (20 * n + m) := by
      rw [← nI_add, ← pk_mul]
      rfl
    rw [e2, nI_clamp (by omega)]
    rw [nI_clamp (by omega)] at k
    refine ⟨vp_in_nI (by omega) (by decide), ?_⟩
    rw [h4 m (by omega)]
    exact k
theorem s234 (hd : 3 ≤ d) (hN : MN s D) (hG : MG s D) {n : Nat} (hn : n < 2) (x : Int32) (k : Post (some (.int (wsh D n (dg D 0 + x)))) s) : tE c d 234 [.ref 48, .int (nI n), .int x] s Post := by
  obtain ⟨d, rfl⟩ := d_1 (Nat.le_trans (by decide) hd)
  refine okm234 c d Post _ _ s ⟨vpd rfl, s174 (by omega) hN hn _ ⟨_, rfl, ?_⟩⟩
  rw [hG]
  exact k
end S5
