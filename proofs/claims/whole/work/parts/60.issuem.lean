/-! Issues on the reference's side. -/
def frJ (s s' : gs) : Prop := (∀ b k, ¬ (b = 48 ∧ (k = 15 ∨ k = 16 ∨ k = 17 ∨ k = 18 ∨ k = 23)) → gsV s' b k = gsV s b k) ∧ gsE s' = gsE s ∧ (∀ b, b ≠ 62 → gsA s' b = gsA s b) ∧ gsR s' = gsR s
theorem V_comm (s : gs) {a k j : Nat} (x y : Int32) (h : k ≠ j) : gs_V (gs_V s a k x) a j y = gs_V (gs_V s a j y) a k x := by
  refine Prod.ext ?_ rfl
  funext i l
  show gsV (gs_V (gs_V s a k x) a j y) i l = gsV (gs_V (gs_V s a j y) a k x) i l
  simp only [V_V]
  grind
theorem frJ_rf (s : gs) : frJ s s := ⟨fun _ _ _ => rfl, rfl, fun _ _ => rfl, rfl⟩
theorem frJ_tr {s s' s'' : gs} (h : frJ s s') (h' : frJ s' s'') : frJ s s'' := ⟨fun b k hb => (h'.1 b k hb).trans (h.1 b k hb), h'.2.1.trans h.2.1, fun b hb => (h'.2.2.1 b hb).trans (h.2.2.1 b hb), h'.2.2.2.trans h.2.2.2⟩
theorem frJ_A {s s' : gs} (h : frJ s s') (k : Nat) (x : Int32) : frJ s (gs_A s' 62 k x) := by
  refine ⟨h.1, h.2.1, fun b hb => ?_, h.2.2.2⟩
  rw [← h.2.2.1 b hb]
  funext j
  rw [A_A, if_neg hb]
theorem frJ_V {s s' : gs} (h : frJ s s') {k : Nat} (hk : k = 15 ∨ k = 16 ∨ k = 17 ∨ k = 18 ∨ k = 23) (x : Int32) : frJ s (gs_V s' 48 k x) := by
  refine ⟨fun b j hb => ?_, h.2.1, h.2.2.1, h.2.2.2⟩
  rw [V_V]
  by_cases e : b = 48
  · rw [if_pos e, if_neg (fun q => hb ⟨e, by rw [q]; exact hk⟩)]
    exact h.1 b j hb
  · rw [if_neg e]
    exact h.1 b j hb
theorem frJ_P {s s' : gs} (h : frJ s s') (r : Nat) : frJ s (gs_P s' r) := h
theorem frJ_z {s s' : gs} (h : frJ s s') (a : Nat) (w : Int32) : frJ s (pz s' a w) := frJ_V (frJ_V h (by decide) _) (by decide) _
theorem QM_frJ {s s' : gs} {D : DD} (h : QM s D) (f : frJ s s') : QM s' D := by
  have a : ∀ b, b ≠ 62 → gsA s' b = gsA s b := fun b hb => f.2.2.1 b hb
  have v := fun k hk => f.1 48 k hk
  unfold QM MT ML MR MD MN MG MU MK MW MO MZ at h ⊢
  rw [v 10 (by decide), v 1 (by decide), v 22 (by decide), v 26 (by decide), v 12 (by decide), v 34 (by decide), f.2.2.2, a 57 (by decide), a 50 (by decide), a 51 (by decide), a 61 (by decide), a 52 (by decide), a 53 (by decide), a 54 (by decide), a 55 (by decide), a 56 (by decide), a 49 (by decide), a 63 (by decide), a 71 (by decide), a 72 (by decide), a 69 (by decide), a 65 (by decide)]
  exact h
theorem MS_frJ {s0 s s' : gs} {D : DD} (h : MS s0 s D) (f : frJ s s') : MS s0 s' D := by
  refine ⟨QM_frJ h.1 f, fun b hb => ?_⟩
  have := h.2 b hb
  rw [show gsV s' b = gsV s b from by funext k; exact f.1 b k (by omega), f.2.1, f.2.2.1 b (by omega), f.2.2.2]
  exact this
section S9
variable {c : gx} {d : Nat} {Post : Option Value → gs → Prop} {s : gs} {D : DD}
theorem s181 (hd : 1010 ≤ d) (hR : MR s D) (hD : MD s D) {n : Nat} (hn : n < 2) (x2 x3 x4 x5 x6 x7 : Int32) (k : ∀ s', frJ s s' → Post (some (.int (isv D n x2 x3 x4 x5 x6 x7))) s') : tE c d 181 [.ref 48, .int (nI n), .int x2, .int x3, .int x4, .int x5, .int x6, .int x7] s Post := by
  obtain ⟨d, rfl⟩ := d_1 (Nat.le_trans (by decide) hd)
  obtain ⟨L, t, hL, h1, h2, h3, h4⟩ := hR
  obtain ⟨hb, hl⟩ := hD n hn
  refine okm181 c d Post _ _ _ _ _ _ _ s ?_
  unfold wm181 w181_151
  rw [nI_clamp (by omega), h1, hb]
  have hv := vp_in_nI (n := n) (N := 2) hn (by decide)
  refine ⟨hv, fun z => ?_, fun z => ⟨hv, vpd rfl, ?_⟩⟩
  · have : nI L ≤ nI 0 := z
    rw [nI_le' (by omega) (by decide)] at this
    have k' := k s (frJ_rf s)
    unfold isv at k'
    rw [h3 (by omega)] at k'
    exact k'
  · have : ¬ nI L ≤ nI 0 := z
    rw [nI_le' (by omega) (by decide)] at this
    rintro s1 rfl
    rw [show gsA (gs_A s 62 (0 : Int32).toNatClampNeg (vp_nar .int (db D n))) 53 n = gsA s 53 n from rfl, hl]
    refine ⟨hv, vpd rfl, ?_⟩
    rintro s2 rfl
    refine ⟨vpd rfl, ?_⟩
    rintro s3 rfl
    refine ⟨vpd rfl, ?_⟩
    rintro s4 rfl
    refine ⟨vpd rfl, ?_⟩
    rintro s5 rfl
    refine ⟨vpd rfl, ?_⟩
    rintro s6 rfl
    refine ⟨vpd rfl, ?_⟩
    rintro s7 rfl
    refine ⟨vpd rfl, ?_⟩
    rintro s8 rfl
    have f := frJ_A (frJ_A (frJ_A (frJ_A (frJ_A (frJ_A (frJ_A (frJ_A (frJ_rf s) (0 : Int32).toNatClampNeg (vp_nar .int (db D n))) (1 : Int32).toNatClampNeg (vp_nar .int (dl D n))) (2 : Int32).toNatClampNeg (vp_nar .int x2)) (3 : Int32).toNatClampNeg (vp_nar .int (x3 / 10))) (4 : Int32).toNatClampNeg (vp_nar .int (x4 / 10))) (5 : Int32).toNatClampNeg (vp_nar .int (x5 / 10))) (6 : Int32).toNatClampNeg (vp_nar .int (x6 - x6 / 10 * 10))) (7 : Int32).toNatClampNeg (vp_nar .int x7)
    have hth : ∀ i, i < 8 → gsA (gs_A (gs_A (gs_A (gs_A (gs_A (gs_A (gs_A (gs_A s 62 (0 : Int32).toNatClampNeg (vp_nar .int (db D n))) 62 (1 : Int32).toNatClampNeg (vp_nar .int (dl D n))) 62 (2 : Int32).toNatClampNeg (vp_nar .int x2)) 62 (3 : Int32).toNatClampNeg (vp_nar .int (x3 / 10))) 62 (4 : Int32).toNatClampNeg (vp_nar .int (x4 / 10))) 62 (5 : Int32).toNatClampNeg (vp_nar .int (x5 / 10))) 62 (6 : Int32).toNatClampNeg (vp_nar .int (x6 - x6 / 10 * 10))) 62 (7 : Int32).toNatClampNeg (vp_nar .int x7)) 62 i = thg (db D n) (dl D n) x2 (x3 / 10) (x4 / 10) (x5 / 10) (x6 - x6 / 10 * 10) x7 i := by
      intro i hi
      rcases (show i = 0 ∨ i = 1 ∨ i = 2 ∨ i = 3 ∨ i = 4 ∨ i = 5 ∨ i = 6 ∨ i = 7 by omega) with rfl | rfl | rfl | rfl | rfl | rfl | rfl | rfl <;> rfl
    revert f hth
    generalize gs_A (gs_A (gs_A (gs_A (gs_A (gs_A (gs_A (gs_A s 62 (0 : Int32).toNatClampNeg (vp_nar .int (db D n))) 62 (1 : Int32).toNatClampNeg (vp_nar .int (dl D n))) 62 (2 : Int32).toNatClampNeg (vp_nar .int x2)) 62 (3 : Int32).toNatClampNeg (vp_nar .int (x3 / 10))) 62 (4 : Int32).toNatClampNeg (vp_nar .int (x4 / 10))) 62 (5 : Int32).toNatClampNeg (vp_nar .int (x5 / 10))) 62 (6 : Int32).toNatClampNeg (vp_nar .int (x6 - x6 / 10 * 10))) 62 (7 : Int32).toNatClampNeg (vp_nar .int x7) = s8
    intro f hth
    rw [f.1 48 22 (by decide), h1]
    refine s162 (by omega) (by decide) _ _ ⟨rfl, ?_⟩
    rintro s9 rfl
    have e : gs_V (pz (gs_V (gs_V (gs_P s8 61) 48 15 (nI L)) 48 16 40) 0 (-1)) 48 23 1 = pz (gs_V (gs_V (gs_V (gs_P s8 61) 48 15 (nI L)) 48 16 40) 48 23 1) 0 (-1) := by
      unfold pz
      rw [V_comm (k := 18) (j := 23) _ _ _ (by decide), V_comm (k := 17) (j := 23) _ _ _ (by decide)]
    rw [e]
    have f9 : frJ s (gs_V (gs_V (gs_V (gs_P s8 61) 48 15 (nI L)) 48 16 40) 48 23 1) := frJ_V (frJ_V (frJ_V (frJ_P f _) (by decide) _) (by decide) _) (by decide) _
    have B : PB (gs_V (gs_V (gs_V (gs_P s8 61) 48 15 (nI L)) 48 16 40) 48 23 1) t L 40 61 := ⟨rfl, by decide, ⟨40, rfl, by omega, by decide⟩, by omega, by decide, rfl, rfl, fun i hi _ => by
      rw [f9.2.2.1 61 (by decide)]
      exact h2 i hi⟩
    refine (psim (c := c) (th := thg (db D n) (dl D n) x2 (x3 / 10) (x4 / 10) (x5 / 10) (x6 - x6 / 10 * 10) x7) B (fun i hi => ?_) 1000 d 0 0 0 (by omega) (by decide) (by decide) (by omega)).1 (by omega) _ ?_
    · have e1 : ¬ gsV (gs_V (gs_V (gs_V (gs_P s8 61) 48 15 (nI L)) 48 16 40) 48 23 1) 48 23 = 0 := show ¬ (1 : Int32) = 0 by decide
      rw [if_neg e1]
      exact hth i hi
    · rw [h4 (by omega)]
      refine ⟨_, rfl, ?_⟩
      rintro s10 rfl
      exact k _ (frJ_V (frJ_z f9 _ _) (by decide) _)
theorem s182 (hd : 1020 ≤ d) (hL : ML s D) (hR : MR s D) (hD : MD s D) {r n a f : Nat} (hr : gs_isA r 0 108 = true) (hn : n < 2) (ha : a < dF D) (hf : gsA s r 2 = nI f) (hf' : f < dF D) (x : Int32) (k : ∀ s', frJ s s' → Post (some (.int (isf D (gsA s r) n a x))) s') : tE c d 182 [.ref 48, .ref r, .int (nI n), .int (nI a), .int x] s Post := by
  obtain ⟨d, rfl⟩ := d_1 (Nat.le_trans (by decide) hd)
  have hF := hL.1.2
  have k' : ∀ s', frJ s s' → Post (some (.int (isv D n (dh D a - dh D f) (gsA s r 3) (gsA s r 4) (gsA s r 5) x (rvb D a f)))) s' := by
    intro s' h
    have := k s' h
    unfold isf at this
    rw [hf, nI_clamp (by omega)] at this
    exact this
  have e2 : gsA s r (2 : Int32).toNatClampNeg = nI f := hf
  have w1 : ∀ (b : Int32), ((b = 0 → rvb D a f = 0) ∧ (¬ b = 0 → rvb D a f = 1)) → w182_32 c d Post r (nI n) (nI a) x b s := by
    intro b hb
    unfold w182_32
    rw [e2, nI_clamp (by omega), nI_clamp (by omega), hL.2.2.1 a ha, hL.2.2.1 f hf']
    refine ⟨vp_in_nI (by omega) (by decide), 108, hr, vpd rfl, vp_in_nI (by omega) (by decide), 108, hr, vpd rfl, 108, hr, vpd rfl, 108, hr, vpd rfl, fun z => s181 (by omega) hR hD hn _ _ _ _ _ _ (fun s' h => ⟨_, rfl, ?_⟩), fun z => s181 (by omega) hR hD hn _ _ _ _ _ _ (fun s' h => ⟨_, rfl, ?_⟩)⟩
    · have := k' s' h
      rw [hb.1 z] at this
      exact this
    · have := k' s' h
      rw [hb.2 z] at this
      exact this
  refine okm182 c d Post _ _ _ _ s ?_
  unfold wm182 w182_31
  rw [e2, abs_n (by omega) (by omega), show (if nI f < nI a then nI f else nI a) = nI (min a f) from fl_min (by omega) (by omega), nI_clamp (by omega)]
  have e1 : (nI (max a f - min a f) = 1) ↔ max a f - min a f = 1 := nI_eq' (b := 1) (by omega) (by decide)
  rw [e1]
  refine ⟨108, hr, vpd rfl, fun z => ⟨108, hr, vpd rfl, vp_in_nI (by omega) (by decide), ?_⟩, fun z => w1 0 ⟨fun _ => ?_, fun q => absurd rfl q⟩⟩
  · rw [hL.2.2.2 (min a f) (by omega)]
    refine ⟨fun y => w1 0 ⟨fun _ => ?_, fun q => absurd rfl q⟩, fun y => w1 1 ⟨fun q => absurd q (by decide), fun _ => ?_⟩⟩
    · unfold rvb
      rw [if_neg]
      intro q
      rw [if_pos q.2.2.2] at y
      cases y
    · unfold rvb
      rw [if_pos]
      refine ⟨by omega, ha, hf', ?_⟩
      cases hq : dr D (min a f)
      · rw [hq] at y; exact absurd rfl y
      · rfl
  · unfold rvb
    rw [if_neg]
    omega
end S9
