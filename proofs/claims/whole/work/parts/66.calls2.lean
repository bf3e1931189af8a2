/-! The reference's marches, battles; the calls. -/
theorem VD_G {B : Nat} {D : DD} {g : Nat → Int32} (h : VD B D) (hg : okG (dF D) B g) : VD B (uG D g) := ⟨h.1, hg, h.2.2.1, h.2.2.2⟩
theorem VD_P {B : Nat} {D : DD} {g : Nat → Int32} (h : VD B D) (hg : okG (dF D) B g) : VD B (uP D g) := by
  obtain ⟨h1, h2, h3, h4⟩ := h
  refine ⟨h1, h2, fun i hi => ?_, h4⟩
  have hi' : i < puN (du D) := hi
  show okG (dF D) B (puU (du D) (dU D) g i)
  unfold puN at hi'
  unfold puU
  by_cases q : du D < 12
  · rw [if_pos q] at hi' ⊢
    show okG (dF D) B (if i = du D then g else dU D i)
    by_cases e : i = du D
    · rw [if_pos e]; exact hg
    · rw [if_neg e]; exact h3 i (by omega)
  · rw [if_neg q] at hi' ⊢
    show okG (dF D) B (if i = 11 then g else dU D (i + 1))
    by_cases e : i = 11
    · rw [if_pos e]; exact hg
    · rw [if_neg e]; exact h3 (i + 1) (by omega)
theorem VD_W {B : Nat} {D : DD} (h : VD B D) (n : Nat) (R : Nat → Int64) : VD B (uW D n R) := h
theorem nI_i {n : Nat} (h : n < 2 ^ 31) : ¬ nI n < 0 := nI_pos h
section T5
variable {c : gx} {d B : Nat} {Post : Option Value → gs → Prop} {s0 s : gs} {D : DD}
theorem s199 (hd : 4 ≤ d) (h : MS s0 s D) (hN : okN (dF D) B (dg D)) (hB : B < 2 ^ 20) (v : Int32) (k : Post (some (.int (refM D v))) s) : tE c d 199 [.ref 48, .int v] s Post := by
  obtain ⟨d, rfl⟩ := d_1 (show 1 ≤ d by omega)
  obtain ⟨⟨a0, b0⟩, ⟨a1, b1⟩, ⟨a2, b2⟩, ⟨a3, b3⟩, _⟩ := hN
  have hL := h.1.2.1
  have hF := hL.1.2
  have hG : gsA s 49 = dg D := h.1.2.2.2.2.2.1
  have z0 : gsA s 49 (0 : Int32).toNatClampNeg = nI (gn (dg D) 0) := by rw [hG]; exact a0
  have z1 : gsA s 49 (1 : Int32).toNatClampNeg = dg D 1 := by rw [hG]; rfl
  have z2 : gsA s 49 (2 : Int32).toNatClampNeg = nI (gn (dg D) 2) := by rw [hG]; exact a2
  refine okm199 c d Post _ s (s154 (by omega) _ _ _ ⟨_, rfl, fun z => ?_, fun z => ⟨fun y => ?_, fun y => ⟨vpd rfl, ?_⟩⟩⟩)
  · rw [bI_0] at z
    have e : refM D v = -1 := by unfold refM; rw [if_pos (by grind)]
    rw [e] at k; exact k
  · have e : refM D v = -1 := by unfold refM; rw [if_pos (Or.inr (Or.inr y))]
    rw [e] at k; exact k
  · rw [bI_0, Classical.not_not] at z
    have q : ¬ (v < -12 ∨ 12 < v ∨ v = 0) := by grind
    rw [z0]
    refine s184' (by omega) hG (by omega) ⟨_, rfl, fun w => ?_, fun w => ⟨vpd rfl, ?_⟩⟩
    · have e : refM D v = -2 := by unfold refM; rw [if_neg q, if_pos w]
      rw [e] at k; exact k
    rw [z1]
    refine s158 (by omega) hL _ ⟨_, rfl, fun u => ?_, fun u => ⟨vpd rfl, ?_⟩⟩
    · rw [bI_0] at u
      have e : refM D v = -3 := by unfold refM; rw [if_neg q, if_neg w, if_pos u]
      rw [e] at k; exact k
    rw [bI_0, Classical.not_not] at u
    obtain ⟨n, hn, en⟩ := fld_nat hL.1 u
    have hw := whn_lt (dg D) (gn (dg D) 0)
    have e0 : refM D v = if db D (whn (dg D) (gn (dg D) 0)) / 3 + 1 < nI (cst (dr D) (gn (dg D) 1) n) then -4 else if pst (gn (dg D) 1) (gn (dg D) 2) n then -5 else 0 := by
      unfold refM
      rw [if_neg q, if_neg w, if_neg (fun w => w u), en, nI_clamp (by omega)]
    rw [z1, en, a1]
    refine s187 (by omega) hL b1 hn ⟨_, rfl, ?_⟩
    rw [whn_e w]
    refine s186 (by omega) hw ⟨_, rfl, fun p => ⟨vpd rfl, vpd rfl, ?_⟩, fun p => ?_⟩
    · rw [(h.1.2.2.2.1 _ hw).1] at p
      rw [z1, a1, z2]
      refine s188 (by omega) (by omega) (by omega) (by omega) ⟨_, rfl, fun r => ?_, fun r => ?_⟩
      · rw [bI_0] at r
        rw [if_neg (i_nlt.mpr p), if_neg r] at e0
        rw [e0] at k; exact k
      · rw [bI_0, Classical.not_not] at r
        rw [if_neg (i_nlt.mpr p), if_pos r] at e0
        rw [e0] at k; exact k
    · rw [(h.1.2.2.2.1 _ hw).1] at p
      rw [if_pos (i_nle.mp p)] at e0
      rw [e0] at k; exact k
theorem s197' (hd : 2 ≤ d) (h : MS s0 s D) (k : ∀ s', MS s0 s' (uG D (nightG (dg D))) → Post none s') : tE c d 197 [.ref 49] s Post := by
  have hG : gsA s 49 = dg D := h.1.2.2.2.2.2.1
  refine s197 hd rfl (fun s' f e => ?_)
  rw [hG] at e
  exact k s' (MS_now h f e)
theorem MS_u {s0 s : gs} {D : DD} (h : MS s0 s D) (i : Nat) (x : Int32) : MS s0 (gs_A s 49 i x) (uG D (upd (dg D) i x)) := by
  have hG : gsA s 49 = dg D := h.1.2.2.2.2.2.1
  refine MS_now h (frA_A (frA_rf s 49) i x) ?_
  rw [gsA_A, hG]
theorem s200 (hd : 3 ≤ d) (h : MS s0 s D) (v : Int32) (k : ∀ s', MS s0 s' (uG D (marG (dg D) v)) → Post none s') : tE c d 200 [.ref 48, .int v] s Post := by
  obtain ⟨d, rfl⟩ := d_1 (show 1 ≤ d by omega)
  have hG : gsA s 49 = dg D := h.1.2.2.2.2.2.1
  refine okm200 c d Post _ s ⟨vpd rfl, vpd rfl, ?_⟩
  rw [hG]
  rintro s1 rfl
  exact s197' (by omega) (MS_u h 1 (dg D 1 + v)) (fun s' h' => ⟨rfl, k s' h'⟩)
theorem s203 (hd : 3 ≤ d) {r : Nat} (hr : gs_isA r 0 108 = true) {g : Nat → Int32} (hg : gsA s r = g) (hN : okN (dF D) B g) (hF : dF D ≤ 12) (hB : B < 2 ^ 20) (k : Post (some (.int (refF D g))) s) : tE c d 203 [.ref 48, .ref r] s Post := by
  obtain ⟨d, rfl⟩ := d_1 (show 1 ≤ d by omega)
  obtain ⟨⟨a0, b0⟩, ⟨a1, b1⟩, ⟨a2, b2⟩, ⟨a3, b3⟩, _⟩ := hN
  refine okm203 c d Post _ s ⟨108, hr, vpd rfl, ?_⟩
  rw [hg, show g (0 : Int32).toNatClampNeg = nI (gn g 0) from a0]
  refine s184 (by omega) hr (by omega) ⟨_, rfl, fun z => ?_, fun z => ⟨108, hr, vpd rfl, 108, hr, vpd rfl, ?_⟩⟩
  · rw [hg] at z
    have e : refF D g = -2 := by unfold refF; rw [if_pos z]
    rw [e] at k; exact k
  · rw [hg] at z ⊢
    rw [show g (1 : Int32).toNatClampNeg = nI (gn g 1) from a1, show g (2 : Int32).toNatClampNeg = nI (gn g 2) from a2]
    refine s185 (by omega) (by omega) (by omega) ⟨_, rfl, fun y => ?_, fun y => ⟨108, hr, vpd rfl, ?_⟩⟩
    · rw [bI_0] at y
      have e : refF D g = -3 := by unfold refF; rw [if_neg z, if_pos y]
      rw [e] at k; exact k
    · rw [bI_0, Classical.not_not] at y
      rw [hg]
      by_cases w : g 3 = 0 ∨ g 4 = 0
      · have e : refF D g = -4 := by unfold refF; rw [if_neg z, if_neg (fun u => u y), if_pos w]
        rw [e] at k
        refine ⟨fun _ => k, fun u1 => ⟨108, hr, vpd rfl, fun _ => k, fun u2 => ?_⟩⟩
        rcases w with w | w
        · exact absurd w u1
        · exact absurd w u2
      · have e : refF D g = 0 := by unfold refF; rw [if_neg z, if_neg (fun u => u y), if_neg w]
        rw [e] at k
        exact ⟨fun u => absurd (Or.inl u) w, fun _ => ⟨108, hr, vpd rfl, fun u => absurd (Or.inr u) w, fun _ => k⟩⟩
theorem refF_0 {g : Nat → Int32} (h : refF D g = 0) : ¬ who g (gn g 0) = -1 := by
  intro z
  unfold refF at h
  rw [if_pos z] at h
  cases h
theorem s204 (hd : 1030 ≤ d) (hL : ML s D) (hR : MR s D) (hD : MD s D) {r : Nat} (hr : gs_isA r 0 108 = true) (hr62 : r ≠ 62) {g : Nat → Int32} (hg : gsA s r = g) (hN : okN (dF D) B g) (hB : B < 2 ^ 20) (hw : ¬ who g (gn g 0) = -1) (k : ∀ s1 s', frJ s s1 → frA s1 s' r → gsA s' r = sufG g (btV D g) → Post (some (.int (btV D g))) s') : tE c d 204 [.ref 48, .ref r] s Post := by
  obtain ⟨d, rfl⟩ := d_1 (show 1 ≤ d by omega)
  obtain ⟨⟨a0, b0⟩, ⟨a1, b1⟩, ⟨a2, b2⟩, ⟨a3, b3⟩, _⟩ := hN
  refine okm204 c d Post _ s ⟨108, hr, vpd rfl, ?_⟩
  have hwn := whn_lt g (gn g 0)
  rw [hg, show g (0 : Int32).toNatClampNeg = nI (gn g 0) from a0]
  refine s184 (by omega) hr (by omega) ⟨_, rfl, 108, hr, vpd rfl, 108, hr, vpd rfl, ?_⟩
  rw [hg, whn_e hw, show g (1 : Int32).toNatClampNeg = nI (gn g 1) from a1]
  refine s182 (by omega) hL hR hD hr hwn b1 (by rw [hg]; exact a2) b2 _ (fun s1 f1 => ⟨_, rfl, ?_⟩)
  have e1 : isf D (gsA s r) (whn g (gn g 0)) (gn g 1) (g (0 : Int32).toNatClampNeg) = btV D g := by rw [hg]; rfl
  rw [e1]
  have hg1 : gsA s1 r = g := by rw [f1.2.2.1 r hr62, hg]
  have fin : ∀ a b, a = (if 0 < btV D g then btV D g / 3 else -btV D g) → b = (if 0 < btV D g then btV D g else -btV D g / 3) → w204_44 c d Post r (btV D g) a b s1 := by
    intro a b ha hb
    refine ⟨108, hr, vpd rfl, 108, hr, vpd rfl, ?_⟩
    rintro s2 rfl
    refine ⟨108, hr, vpd rfl, 108, hr, vpd rfl, ?_⟩
    rintro s3 rfl
    refine k s1 _ f1 (frA_A (frA_A (frA_rf s1 r) _ _) _ _) ?_
    rw [gsA_A, gsA_A, hg1]
    unfold sufG
    rw [← ha, ← hb]
    rfl
  unfold w204_31
  refine ⟨fun z => ⟨fun _ => ?_, fun y => absurd z y⟩, fun z => ⟨fun y => absurd y z, fun _ => ?_⟩⟩
  · have z' : ¬ 0 < btV D g := by grind
    exact fin _ _ (by rw [if_neg z']) (by rw [if_neg z'])
  · have z' : 0 < btV D g := by grind
    exact fin _ _ (by rw [if_pos z']) (by rw [if_pos z'])
theorem s204' (hd : 1030 ≤ d) (h : MS s0 s D) (hN : okN (dF D) B (dg D)) (hB : B < 2 ^ 20) (hw : ¬ who (dg D) (gn (dg D) 0) = -1) (k : ∀ s', MS s0 s' (uG D (sufG (dg D) (btV D (dg D)))) → Post (some (.int (btV D (dg D)))) s') : tE c d 204 [.ref 48, .ref 49] s Post :=
  s204 hd h.1.2.1 h.1.2.2.1 h.1.2.2.2.1 rfl (by decide) h.1.2.2.2.2.2.1 hN hB hw (fun s1 s' f1 f2 e => k s' (MS_now (MS_frJ h f1) f2 e))
theorem s195' (hd : 2 ≤ d) (h : MS s0 s D) (k : ∀ s', MS s0 s' (uP D (dg D)) → Post none s') : tE c d 195 [.ref 48, .ref 49] s Post := by
  have hG : gsA s 49 = dg D := h.1.2.2.2.2.2.1
  exact s195 hd h rfl (Or.inl rfl) (fun i _ => by rw [hG]) (fun s' h' _ => k s' h')
end T5
section C2
variable {c : gx} {d B : Nat} {s : gs} {D : DD}
theorem cl_halt (h : HY d s B D) : CL c d 86 202 [] s B := by
  have hd := h.1
  have hB := h.2.2.2.2
  have hv := h.2.2.2.1
  have hF := hv.1.2
  have hN := HY_n h
  have hg' := okG_night hv.2.1 hF (by omega)
  have hN' := okG_N hg' hF (by omega)
  refine glu1 h (D' := uP (uW (uG D (nightG (dg D))) 1 (r1 (who (dg D) (gn (dg D) 0)).toInt64)) (dg D)) (x := nightG (dg D) 5) ?_ (fun Post k => ?_) (fun s1 Post hm k => ?_)
  · exact VD_P (VD_W (VD_G (VD_mono hv (Nat.le_add_right B 60)) (okG_mono hg' (by omega))) _ _) (okG_mono hv.2.1 (Nat.le_add_right B 60))
  · obtain ⟨d, rfl⟩ := d_1 (show 1 ≤ d by omega)
    refine okm86 c d Post s (s48 (by omega) rfl rfl (by decide) (fun s1 f1 x1 => ⟨rfl, ?_⟩))
    have h1 := XS_scr (XS_rf h.2.1) f1 (Or.inl rfl)
    refine s96 (by omega) h1 hN (by omega) (fun s2 h2 x2 => ⟨_, rfl, s94 (by omega) h2 (g := dg D) (by rw [x2, x1]; exact h.2.1.2.2.2.2.2.1) _ (fun z => ?_) (fun z s3 h3 => ⟨_, rfl, k s3 h3⟩)⟩)
    rw [hN'.2.2.2.2.2.1.1] at z
    exact absurd z (nI_i (by have := hN'.2.2.2.2.2.1.2; omega))
  · obtain ⟨d, rfl⟩ := d_1 (show 1 ≤ d by omega)
    refine okm202 c d Post s1 ?_
    rintro s2 rfl
    refine s195' (by omega) (MS_thr hm 0) (fun s3 h3 => ⟨rfl, vpd rfl, ?_⟩)
    have e3 : gsA s3 49 = dg D := h3.1.2.2.2.2.2.1
    rw [e3, show dg D (0 : Int32).toNatClampNeg = nI (gn (dg D) 0) from hN.1.1]
    refine s184' (D := uP D (dg D)) (by omega) h3.1.2.2.2.2.2.1 (by have := hN.1.2; omega) ⟨_, rfl, s197' (by omega) h3 (fun s4 h4 => ⟨rfl, ?_⟩)⟩
    rintro s5 rfl
    refine s157r (by omega) (MS_row0 h4 (r1 (who (dg D) (gn (dg D) 0)).toInt64)) (by decide) rfl (fun s6 h6 e6 => ⟨rfl, vpd rfl, ?_⟩)
    have e6' : gsA s6 49 = nightG (dg D) := h6.1.2.2.2.2.2.1
    rw [e6']
    exact k s6 h6
theorem cl_march (h : HY d s B D) (v : Int32) : CL c d 85 201 [.int v] s B := by
  have hd := h.1
  have hB := h.2.2.2.2
  have hv := h.2.2.2.1
  have hF := hv.1.2
  have hN := HY_n h
  by_cases q : refM D v = 0
  · have hfld : fld D (dg D 1 + v) := by
      unfold refM at q
      by_cases z1 : v < -12 ∨ 12 < v ∨ v = 0
      · rw [if_pos z1] at q; cases q
      rw [if_neg z1] at q
      by_cases z2 : who (dg D) (gn (dg D) 0) = -1
      · rw [if_pos z2] at q; cases q
      rw [if_neg z2] at q
      by_cases z3 : ¬ fld D (dg D 1 + v)
      · rw [if_pos z3] at q; cases q
      exact Classical.not_not.mp z3
    obtain ⟨n, hn, en⟩ := fld_nat hv.1 hfld
    have hg1 : okG (dF D) B (upd (dg D) 1 (dg D 1 + v)) := by rw [en]; exact okG_u1 hv.2.1 hn
    have hg' : okG (dF D) (B + 1) (marG (dg D) v) := okG_night hg1 hF (by omega)
    refine glu1 h (D' := uP (uW (uG D (marG (dg D) v)) 2 (r2 (who (dg D) (gn (dg D) 0)).toInt64 (marG (dg D) v 5).toInt64)) (dg D)) (x := dg D 1 + v) ?_ (fun Post k => ?_) (fun s1 Post hm k => ?_)
    · exact VD_P (VD_W (VD_G (VD_mono hv (Nat.le_add_right B 60)) (okG_mono hg' (by omega))) _ _) (okG_mono hv.2.1 (Nat.le_add_right B 60))
    · obtain ⟨d, rfl⟩ := d_1 (show 1 ≤ d by omega)
      refine okm85 c d Post _ s (s48 (by omega) rfl rfl (by decide) (fun s1 f1 x1 => ⟨rfl, ?_⟩))
      have h1 := XS_scr (XS_rf h.2.1) f1 (Or.inl rfl)
      refine s95 (by omega) h1 hN (by omega) v ?_
      rw [if_pos q]
      refine fun s2 h2 x2 => ⟨_, rfl, s94 (by omega) h2 (g := dg D) (by rw [x2, x1]; exact h.2.1.2.2.2.2.2.1) _ (fun z => absurd hfld.1 (i_nle.mpr z)) (fun z s3 h3 => ⟨_, rfl, k s3 h3⟩)⟩
    · obtain ⟨d, rfl⟩ := d_1 (show 1 ≤ d by omega)
      refine okm201 c d Post _ s1 ?_
      rintro s2 rfl
      have hm1 := MS_thr hm 0
      refine s199 (by omega) hm1 hN (by omega) v ⟨_, rfl, fun _ => ?_, fun z => ?_⟩
      · refine s195' (by omega) hm1 (fun s3 h3 => ⟨rfl, vpd rfl, ?_⟩)
        have e3 : gsA s3 49 = dg D := h3.1.2.2.2.2.2.1
        rw [e3, show dg D (0 : Int32).toNatClampNeg = nI (gn (dg D) 0) from hN.1.1]
        refine s184' (D := uP D (dg D)) (by omega) h3.1.2.2.2.2.2.1 (by have := hN.1.2; omega) ⟨_, rfl, s200 (by omega) h3 v (fun s4 h4 => ⟨rfl, ?_⟩)⟩
        rintro s5 rfl
        refine s157r (by omega) (MS_row0 h4 (r2 (who (dg D) (gn (dg D) 0)).toInt64 (marG (dg D) v 5).toInt64)) (by decide) rfl (fun s6 h6 e6 => ⟨rfl, vpd rfl, ?_⟩)
        have e6' : gsA s6 49 = marG (dg D) v := h6.1.2.2.2.2.2.1
        rw [e6']
        refine s157r (by omega) h6 (by decide) rfl (fun s7 h7 e7 => ⟨rfl, vpd rfl, ?_⟩)
        have e7' : gsA s7 49 = marG (dg D) v := h7.1.2.2.2.2.2.1
        rw [e7', show marG (dg D) v (1 : Int32).toNatClampNeg = dg D 1 + v from mrow _ _]
        exact k s7 h7
      · rw [q] at z; exact absurd (by decide) z
  · have hneg : refM D v < 0 := by
      unfold refM at q ⊢
      split at q
      · rename_i z; rw [if_pos z]; decide
      rename_i z1; rw [if_neg z1]
      split at q
      · rename_i z; rw [if_pos z]; decide
      rename_i z2; rw [if_neg z2]
      split at q
      · rename_i z; rw [if_pos z]; decide
      rename_i z3; rw [if_neg z3]
      split at q
      · rename_i z; rw [if_pos z]; decide
      rename_i z4; rw [if_neg z4]
      split at q
      · rename_i z; rw [if_pos z]; decide
      exact absurd rfl q
    refine glu0 h (x := refM D v) (fun Post k => ?_) (fun s1 Post hm k => ?_)
    · obtain ⟨d, rfl⟩ := d_1 (show 1 ≤ d by omega)
      refine okm85 c d Post _ s (s48 (by omega) rfl rfl (by decide) (fun s1 f1 x1 => ⟨rfl, ?_⟩))
      have h1 := XS_scr (XS_rf h.2.1) f1 (Or.inl rfl)
      refine s95 (by omega) h1 hN (by omega) v ?_
      rw [if_neg q]
      exact ⟨_, rfl, s94 (by omega) h1 (g := xg s1 15) rfl _ (fun z => ⟨_, rfl, k _ h1⟩) (fun z s3 h3 => absurd hneg z)⟩
    · obtain ⟨d, rfl⟩ := d_1 (show 1 ≤ d by omega)
      refine okm201 c d Post _ s1 ?_
      rintro s2 rfl
      have hm1 := MS_thr hm 0
      refine s199 (by omega) hm1 hN (by omega) v ⟨_, rfl, fun z => absurd hneg (i_nlt.mpr z), fun z => k _ hm1⟩
theorem cl_fight (h : HY d s B D) : CL c d 87 205 [] s B := by
  have hd := h.1
  have hB := h.2.2.2.2
  have hv := h.2.2.2.1
  have hF := hv.1.2
  have hN := HY_n h
  by_cases q : refF D (dg D) = 0
  · have hg1 : okG (dF D) B (sufG (dg D) (btV D (dg D))) := okG_suf hv.2.1 hF (by omega) _
    have hg' := okG_night hg1 hF (by omega)
    have hpos : ¬ 501 + btV D (dg D) < 0 := by
      obtain ⟨n, hn, hc⟩ := btV_b D (dg D)
      have h5 : nI n ≤ nI 500 := (nI_le' (by omega) (by decide)).mpr hn
      have e5 : nI 500 = 500 := rfl
      have h0 : 0 ≤ nI n := i_nlt.mp (nI_pos (by omega))
      grind
    refine glu1 h (D' := uP (uG (uW D 2 (r2 (sufG (dg D) (btV D (dg D)) 3).toInt64 (sufG (dg D) (btV D (dg D)) 4).toInt64)) (nightG (sufG (dg D) (btV D (dg D))))) (dg D)) (x := 501 + btV D (dg D)) ?_ (fun Post k => ?_) (fun s1 Post hm k => ?_)
    · exact VD_P (VD_G (D := uW D _ _) (VD_mono hv (by omega)) (okG_mono hg' (by omega))) (okG_mono hv.2.1 (by omega))
    · obtain ⟨d, rfl⟩ := d_1 (show 1 ≤ d by omega)
      refine okm87 c d Post s (s48 (by omega) rfl rfl (by decide) (fun s1 f1 x1 => ⟨rfl, ?_⟩))
      have h1 := XS_scr (XS_rf h.2.1) f1 (Or.inl rfl)
      refine s97 (by omega) h1 hN (by omega) ?_
      rw [if_pos q]
      exact fun s2 h2 x2 => ⟨_, rfl, s94 (by omega) h2 (g := dg D) (by rw [x2, x1]; exact h.2.1.2.2.2.2.2.1) _ (fun z => absurd z hpos) (fun z s3 h3 => ⟨_, rfl, k s3 h3⟩)⟩
    · obtain ⟨d, rfl⟩ := d_1 (show 1 ≤ d by omega)
      refine okm205 c d Post s1 ?_
      rintro s2 rfl
      have hm1 := MS_thr hm 0
      refine s203 (D := D) (by omega) rfl hm1.1.2.2.2.2.2.1 hN hF (by omega) ⟨_, rfl, fun _ => ?_, fun z => ?_⟩
      · refine s195' (by omega) hm1 (fun s3 h3 => ⟨rfl, ?_⟩)
        refine s204' (D := uP D (dg D)) (by omega) h3 hN (by omega) (refF_0 q) (fun s4 h4 => ⟨_, rfl, ?_⟩)
        rintro s5 rfl
        have h5 := MS_row0 h4 (r2 (sufG (dg D) (btV D (dg D)) 3).toInt64 (sufG (dg D) (btV D (dg D)) 4).toInt64)
        have e5 : gsA (gs_V s4 48 12 0) 49 = sufG (dg D) (btV D (dg D)) := h5.1.2.2.2.2.2.1
        rw [e5]
        refine ⟨vpd rfl, s157r (by omega) h5 (by decide) rfl (fun s6 h6 e6 => ⟨rfl, vpd rfl, ?_⟩)⟩
        have e6' : gsA s6 49 = sufG (dg D) (btV D (dg D)) := h6.1.2.2.2.2.2.1
        rw [e6']
        exact s157r (by omega) h6 (by decide) rfl (fun s7 h7 e7 => ⟨rfl, s197' (by omega) h7 (fun s8 h8 => ⟨rfl, k s8 h8⟩)⟩)
      · rw [q] at z; exact absurd (by decide) z
  · have hneg : refF D (dg D) < 0 := by
      unfold refF at q ⊢
      split at q
      · rename_i z; rw [if_pos z]; decide
      rename_i z1; rw [if_neg z1]
      split at q
      · rename_i z; rw [if_pos z]; decide
      rename_i z2; rw [if_neg z2]
      split at q
      · rename_i z; rw [if_pos z]; decide
      exact absurd rfl q
    refine glu0 h (x := refF D (dg D)) (fun Post k => ?_) (fun s1 Post hm k => ?_)
    · obtain ⟨d, rfl⟩ := d_1 (show 1 ≤ d by omega)
      refine okm87 c d Post s (s48 (by omega) rfl rfl (by decide) (fun s1 f1 x1 => ⟨rfl, ?_⟩))
      have h1 := XS_scr (XS_rf h.2.1) f1 (Or.inl rfl)
      refine s97 (by omega) h1 hN (by omega) ?_
      rw [if_neg q]
      exact ⟨_, rfl, s94 (by omega) h1 (g := xg s1 15) rfl _ (fun z => ⟨_, rfl, k _ h1⟩) (fun z s3 h3 => absurd hneg z)⟩
    · obtain ⟨d, rfl⟩ := d_1 (show 1 ≤ d by omega)
      refine okm205 c d Post s1 ?_
      rintro s2 rfl
      have hm1 := MS_thr hm 0
      refine s203 (D := D) (by omega) rfl hm1.1.2.2.2.2.2.1 hN hF (by omega) ⟨_, rfl, fun z => absurd hneg (i_nlt.mpr z), fun z => k _ hm1⟩
end C2
