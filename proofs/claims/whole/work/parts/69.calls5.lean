/-! Calls: count, lasts, feeds, comes, issue, reach, boldness. -/
section C5
variable {c : gx} {d B : Nat} {s : gs} {D : DD}
theorem MS_G {s0 s : gs} {D : DD} (h : MS s0 s D) : gsA s 49 = dg D := h.1.2.2.2.2.2.1
theorem XS_G {s0 s : gs} {D : DD} (h : XS s0 s D) : xg s 14 = dg D := h.1.2.2.2.2.2.1
def cntD (D : DD) (x : Int32) : Int32 :=
  if x = 0 then nI (dF D) else if x = 1 then dg D 0 else if x = 2 then dg D 1 else if x = 3 then dg D 2 else if x = 4 then dg D 3 else if x = 5 then dg D 4 else if x = 6 then dg D 5
  else if x = 7 then lentG (dg D) (gn (dg D) 0) else if x = 8 then bI (near (gn (dg D) 1) (gn (dg D) 2)) else if x = 9 then ds D else if x = 10 then nI (du D) else if x = 11 then nI (dm D) else if x = 12 then nI (dT D) else -1
theorem cl_count (h : HY d s B D) (x : Int32) : CL c d 145 262 [.int x] s B := by
  have hd := h.1
  have hB := h.2.2.2.2
  have hv := h.2.2.2.1
  have hF := hv.1.2
  obtain ⟨⟨a0, b0⟩, ⟨a1, b1⟩, ⟨a2, b2⟩, _⟩ := HY_n h
  have ne : ∀ (a b : Int32), x = a → a ≠ b → ¬ x = b := fun a b h1 h2 h3 => h2 (h1 ▸ h3)
  refine glu0 h (x := cntD D x) (fun Post k => ?_) (fun s1 Post hm k => ?_)
  · obtain ⟨d, rfl⟩ := d_1 (show 1 ≤ d by omega)
    have hS := XS_rf h.2.1
    have k' := k s hS
    have gg : ∀ i, i < 6 → gsV s 14 i = dg D i := fun i hi => XS_g hS hi
    obtain ⟨h1, h2, h3, h4, h5, h6, h7, h8, h9, h10⟩ := h.2.1
    refine okm145 c d Post _ s ⟨fun z => ?_, fun z => ?_, fun z => ?_, fun z => ?_, fun z => ?_, fun z => ?_, fun z => ?_, fun z => ?_, fun z => ?_, fun z => ?_, fun z => ?_, fun z => ?_, fun z => ?_, fun z => ?_⟩
    · subst z; rw [h2.2.1]; exact k'
    · subst z; rw [gg 0 (by decide)]; exact k'
    · subst z; rw [gg 1 (by decide)]; exact k'
    · subst z; rw [gg 2 (by decide)]; exact k'
    · subst z; rw [gg 3 (by decide)]; exact k'
    · subst z; rw [gg 4 (by decide)]; exact k'
    · subst z; rw [gg 5 (by decide)]; exact k'
    · subst z
      rw [gg 0 (by decide), a0]
      refine s54 (by omega) rfl (by omega) ⟨_, rfl, ?_⟩
      rw [XS_G hS]; exact k'
    · subst z
      rw [gg 1 (by decide), gg 2 (by decide), a1, a2]
      refine s16 (by omega) (by omega) (by omega) ⟨_, rfl, fun y => ?_, fun y => ?_⟩
      · have e : cntD D 8 = 0 := y
        rw [e] at k'; exact k'
      · rw [bI_0, Classical.not_not] at y
        have e : cntD D 8 = 1 := bI_t y
        rw [e] at k'; exact k'
    · subst z; rw [h10.1]; exact k'
    · subst z; rw [h7.1]; exact k'
    · subst z; rw [h9.2.1]; exact k'
    · subst z; rw [h1.2.1]; exact k'
    · have e : cntD D x = -1 := by
        have nn : ∀ a : Nat, a ≤ 12 → ¬ x = nI a := by
          intro a ha q
          rw [q, nI_toInt (by omega)] at z
          omega
        unfold cntD
        rw [if_neg (show ¬ x = 0 from nn 0 (by decide)), if_neg (show ¬ x = 1 from nn 1 (by decide)), if_neg (show ¬ x = 2 from nn 2 (by decide)), if_neg (show ¬ x = 3 from nn 3 (by decide)), if_neg (show ¬ x = 4 from nn 4 (by decide)), if_neg (show ¬ x = 5 from nn 5 (by decide)), if_neg (show ¬ x = 6 from nn 6 (by decide)), if_neg (show ¬ x = 7 from nn 7 (by decide)), if_neg (show ¬ x = 8 from nn 8 (by decide)), if_neg (show ¬ x = 9 from nn 9 (by decide)), if_neg (show ¬ x = 10 from nn 10 (by decide)), if_neg (show ¬ x = 11 from nn 11 (by decide)), if_neg (show ¬ x = 12 from nn 12 (by decide))]
      rw [e] at k'; exact k'
  · obtain ⟨d, rfl⟩ := d_1 (show 1 ≤ d by omega)
    refine okm262 c d Post _ s1 ?_
    rintro s2 rfl
    have hm1 := MS_thr hm 0
    revert hm1
    generalize gs_V s1 48 13 0 = s2
    intro hm1
    have k' := k s2 hm1
    have e49 := MS_G hm1
    obtain ⟨⟨h1, h2, h3, h4, h5, h6, h7, h8, h9, h10, h11⟩, hf⟩ := hm1
    rw [e49]
    refine ⟨fun z => ?_, fun z => ⟨vpd rfl, ?_⟩, fun z => ⟨vpd rfl, ?_⟩, fun z => ⟨vpd rfl, ?_⟩, fun z => ⟨vpd rfl, ?_⟩, fun z => ⟨vpd rfl, ?_⟩, fun z => ⟨vpd rfl, ?_⟩, fun z => ?_, fun z => ⟨vpd rfl, vpd rfl, ?_⟩, fun z => ?_, fun z => ?_, fun z => ?_, fun z => ?_, fun z => ?_⟩
    · subst z; rw [h2.2.1]; exact k'
    · subst z; exact k'
    · subst z; exact k'
    · subst z; exact k'
    · subst z; exact k'
    · subst z; exact k'
    · subst z; exact k'
    · subst z
      refine s208 (D := gn (dg D) 0) (by omega) (by rw [e49]; exact a0) (by omega) ⟨_, rfl, ?_⟩
      rw [e49]; exact k'
    · subst z
      rw [show dg D (1 : Int32).toNatClampNeg = nI (gn (dg D) 1) from a1, show dg D (2 : Int32).toNatClampNeg = nI (gn (dg D) 2) from a2]
      refine s185 (by omega) (by omega) (by omega) ⟨_, rfl, fun y => ?_, fun y => ?_⟩
      · have e : cntD D 8 = 0 := y
        rw [e] at k'; exact k'
      · rw [bI_0, Classical.not_not] at y
        have e : cntD D 8 = 1 := bI_t y
        rw [e] at k'; exact k'
    · subst z; rw [h10.1]; exact k'
    · subst z; rw [h7.1]; exact k'
    · subst z; rw [h9.2.1]; exact k'
    · subst z; rw [h1.2.1]; exact k'
    · have e : cntD D x = -1 := by
        have nn : ∀ a : Nat, a ≤ 12 → ¬ x = nI a := by
          intro a ha q
          rw [q, nI_toInt (by omega)] at z
          omega
        unfold cntD
        rw [if_neg (show ¬ x = 0 from nn 0 (by decide)), if_neg (show ¬ x = 1 from nn 1 (by decide)), if_neg (show ¬ x = 2 from nn 2 (by decide)), if_neg (show ¬ x = 3 from nn 3 (by decide)), if_neg (show ¬ x = 4 from nn 4 (by decide)), if_neg (show ¬ x = 5 from nn 5 (by decide)), if_neg (show ¬ x = 6 from nn 6 (by decide)), if_neg (show ¬ x = 7 from nn 7 (by decide)), if_neg (show ¬ x = 8 from nn 8 (by decide)), if_neg (show ¬ x = 9 from nn 9 (by decide)), if_neg (show ¬ x = 10 from nn 10 (by decide)), if_neg (show ¬ x = 11 from nn 11 (by decide)), if_neg (show ¬ x = 12 from nn 12 (by decide))]
      rw [e] at k'; exact k'
theorem cl_reach (h : HY d s B D) (x : Int32) : CL c d 105 217 [.int x] s B := by
  have hd := h.1
  have hv := h.2.2.2.1
  have hF := hv.1.2
  obtain ⟨⟨a0, b0⟩, ⟨a1, b1⟩, ⟨a2, b2⟩, _⟩ := HY_n h
  by_cases q : x = 0 ∨ x = 1
  · obtain ⟨n, hn, rfl⟩ := con_n q
    refine glu1 h (D' := uW D 1 (r1 (jbc (gls (dr D) (dF D) (gn (dg D) 1) (gn (dg D) 2) (db D n / 3 + 1))).toInt64)) (x := gls (dr D) (dF D) (gn (dg D) 1) (gn (dg D) 2) (db D n / 3 + 1)) (VD_W (VD_mono hv (Nat.le_add_right B 60)) _ _) (fun Post k => ?_) (fun s1 Post hm k => ?_)
    · obtain ⟨d, rfl⟩ := d_1 (show 1 ≤ d by omega)
      have hS := XS_rf h.2.1
      refine okm105 c d Post _ s (s147 (by omega) _ ⟨_, rfl, fun z => ?_, fun _ => ?_⟩)
      · rw [bI_0] at z; exact absurd q z
      rw [XS_g hS (by decide), a1]
      refine s112 (by omega) h.2.1.2.1 h.2.1.2.2.2.1 hn b1 (by rw [XS_g hS (by decide)]; exact a2) b2 ⟨_, rfl, s266 (by omega) _ ⟨_, rfl, s45' (by omega) hS _ (fun s2 h2 f2 => ⟨rfl, k s2 h2⟩)⟩⟩
    · obtain ⟨d, rfl⟩ := d_1 (show 1 ≤ d by omega)
      refine okm217 c d Post _ s1 ?_
      rintro s2 rfl
      have hm1 := MS_thr hm 0
      refine s159 (by omega) _ ⟨_, rfl, fun z => ?_, fun _ => ⟨vpd rfl, vpd rfl, ?_⟩⟩
      · rw [bI_0] at z; exact absurd q z
      rw [MS_G hm1, show dg D (1 : Int32).toNatClampNeg = nI (gn (dg D) 1) from a1, show dg D (2 : Int32).toNatClampNeg = nI (gn (dg D) 2) from a2]
      refine s189 (by omega) hm1.1.2.1 hm1.1.2.2.2.1 hn b1 (by omega) ⟨_, rfl, ?_⟩
      rintro s3 rfl
      exact s266 (by omega) _ ⟨_, rfl, s157r (by omega) (MS_row0 hm1 _) (by decide) rfl (fun s4 h4 e4 => ⟨rfl, k s4 h4⟩)⟩
  · refine glu0 h (x := -1) (fun Post k => ?_) (fun s1 Post hm k => ?_)
    · obtain ⟨d, rfl⟩ := d_1 (show 1 ≤ d by omega)
      refine okm105 c d Post _ s (s147 (by omega) _ ⟨_, rfl, fun z => k s (XS_rf h.2.1), fun z => ?_⟩)
      rw [bI_0, Classical.not_not] at z; exact absurd z q
    · obtain ⟨d, rfl⟩ := d_1 (show 1 ≤ d by omega)
      refine okm217 c d Post _ s1 ?_
      rintro s2 rfl
      refine s159 (by omega) _ ⟨_, rfl, fun z => k _ (MS_thr hm 0), fun z => ?_⟩
      rw [bI_0, Classical.not_not] at z; exact absurd z q
theorem cl_boldness (h : HY d s B D) (x : Int32) : CL c d 109 221 [.int x] s B := by
  have hd := h.1
  have hv := h.2.2.2.1
  have hF := hv.1.2
  obtain ⟨⟨a0, b0⟩, ⟨a1, b1⟩, ⟨a2, b2⟩, _⟩ := HY_n h
  by_cases q : fld D x
  · obtain ⟨n, hn, rfl⟩ := fld_nat hv.1 q
    by_cases q2 : near n (gn (dg D) 2)
    · refine glu1 h (D' := uW D 2 (r2 (501 + isf D (dg D) 0 n (dg D 0)).toInt64 (501 + isf D (dg D) 1 n (dg D 0)).toInt64)) (x := isf D (dg D) 0 n (dg D 0) - isf D (dg D) 1 n (dg D 0)) (VD_W (VD_mono hv (Nat.le_add_right B 60)) _ _) (fun Post k => ?_) (fun s1 Post hm k => ?_)
      · obtain ⟨d, rfl⟩ := d_1 (show 1 ≤ d by omega)
        have hS := XS_rf h.2.1
        refine okm109 c d Post _ s (s14 (by omega) h.2.1.2.1 _ ⟨_, rfl, fun z => ?_, fun _ => ?_⟩)
        · rw [bI_0] at z; exact absurd q z
        rw [XS_g hS (by decide), a2]
        refine s16 (by omega) (by omega) (by omega) ⟨_, rfl, fun z => ?_, fun _ => ?_⟩
        · rw [bI_0] at z; exact absurd q2 z
        rw [XS_g hS (by decide)]
        refine s150 (n := 0) (by omega) h.2.1.2.1 h.2.1.2.2.1 h.2.1.2.2.2.1 rfl (by decide) hn (by rw [XS_G hS]; exact a2) b2 _ (fun s2 f2 => ⟨_, rfl, ?_⟩)
        have h2 := XS_frI hS f2
        rw [XS_G hS, XS_g h2 (by decide)]
        refine s150 (n := 1) (by omega) h2.1.2.1 h2.1.2.2.1 h2.1.2.2.2.1 rfl (by decide) hn (by rw [XS_G h2]; exact a2) b2 _ (fun s3 f3 => ⟨_, rfl, ?_⟩)
        have h3 := XS_frI h2 f3
        rw [XS_G h2]
        exact s46' (by omega) h3 _ _ (fun s4 h4 f4 => ⟨rfl, k s4 h4⟩)
      · obtain ⟨d, rfl⟩ := d_1 (show 1 ≤ d by omega)
        refine okm221 c d Post _ s1 ?_
        rintro s2 rfl
        have hm1 := MS_thr hm 0
        refine s158 (by omega) hm1.1.2.1 _ ⟨_, rfl, fun z => ?_, fun _ => ⟨vpd rfl, ?_⟩⟩
        · rw [bI_0] at z; exact absurd q z
        rw [MS_G hm1, show dg D (2 : Int32).toNatClampNeg = nI (gn (dg D) 2) from a2]
        refine s185 (by omega) (by omega) (by omega) ⟨_, rfl, fun z => ?_, fun _ => ⟨vpd rfl, ?_⟩⟩
        · rw [bI_0] at z; exact absurd q2 z
        rw [MS_G hm1]
        refine s182 (n := 0) (by omega) hm1.1.2.1 hm1.1.2.2.1 hm1.1.2.2.2.1 rfl (by decide) hn (by rw [MS_G hm1]; exact a2) b2 _ (fun s3 f3 => ⟨_, rfl, vpd rfl, ?_⟩)
        have h3 := MS_frJ hm1 f3
        rw [MS_G hm1, MS_G h3]
        refine s182 (n := 1) (by omega) h3.1.2.1 h3.1.2.2.1 h3.1.2.2.2.1 rfl (by decide) hn (by rw [MS_G h3]; exact a2) b2 _ (fun s4 f4 => ⟨_, rfl, ?_⟩)
        have h4 := MS_frJ h3 f4
        rw [MS_G h3]
        rintro s5 rfl
        exact s157r (by omega) (MS_row0 h4 (r2 (501 + isf D (dg D) 0 n (dg D 0)).toInt64 (501 + isf D (dg D) 1 n (dg D 0)).toInt64)) (by decide) rfl (fun s6 h6 e6 => ⟨rfl, s157r (by omega) h6 (by decide) rfl (fun s7 h7 e7 => ⟨rfl, k s7 h7⟩)⟩)
    · refine glu0 h (x := -2000) (fun Post k => ?_) (fun s1 Post hm k => ?_)
      · obtain ⟨d, rfl⟩ := d_1 (show 1 ≤ d by omega)
        have hS := XS_rf h.2.1
        refine okm109 c d Post _ s (s14 (by omega) h.2.1.2.1 _ ⟨_, rfl, fun z => ?_, fun _ => ?_⟩)
        · rw [bI_0] at z; exact absurd q z
        rw [XS_g hS (by decide), a2]
        refine s16 (by omega) (by omega) (by omega) ⟨_, rfl, fun z => k s hS, fun z => ?_⟩
        rw [bI_0, Classical.not_not] at z; exact absurd z q2
      · obtain ⟨d, rfl⟩ := d_1 (show 1 ≤ d by omega)
        refine okm221 c d Post _ s1 ?_
        rintro s2 rfl
        have hm1 := MS_thr hm 0
        refine s158 (by omega) hm1.1.2.1 _ ⟨_, rfl, fun z => ?_, fun _ => ⟨vpd rfl, ?_⟩⟩
        · rw [bI_0] at z; exact absurd q z
        rw [MS_G hm1, show dg D (2 : Int32).toNatClampNeg = nI (gn (dg D) 2) from a2]
        refine s185 (by omega) (by omega) (by omega) ⟨_, rfl, fun z => k _ hm1, fun z => ?_⟩
        rw [bI_0, Classical.not_not] at z; exact absurd z q2
  · refine glu0 h (x := -1000) (fun Post k => ?_) (fun s1 Post hm k => ?_)
    · obtain ⟨d, rfl⟩ := d_1 (show 1 ≤ d by omega)
      refine okm109 c d Post _ s (s14 (by omega) h.2.1.2.1 _ ⟨_, rfl, fun z => k s (XS_rf h.2.1), fun z => ?_⟩)
      rw [bI_0, Classical.not_not] at z; exact absurd z q
    · obtain ⟨d, rfl⟩ := d_1 (show 1 ≤ d by omega)
      refine okm221 c d Post _ s1 ?_
      rintro s2 rfl
      have hm1 := MS_thr hm 0
      refine s158 (by omega) hm1.1.2.1 _ ⟨_, rfl, fun z => k _ hm1, fun z => ?_⟩
      rw [bI_0, Classical.not_not] at z; exact absurd z q
theorem cl_issue (h : HY d s B D) (x y : Int32) : CL c d 104 216 [.int x, .int y] s B := by
  have hd := h.1
  have hB := h.2.2.2.2
  have hv := h.2.2.2.1
  have hF := hv.1.2
  obtain ⟨⟨a0, b0⟩, ⟨a1, b1⟩, ⟨a2, b2⟩, _⟩ := HY_n h
  by_cases q : fld D x ∧ (0 ≤ y ∧ y ≤ 30)
  · obtain ⟨q1, q2, q3⟩ := q
    obtain ⟨n, hn, rfl⟩ := fld_nat hv.1 q1
    obtain ⟨m, hm, rfl⟩ := i_nat q2
    have hm30 : m ≤ 30 := (nI_le' (b := 30) hm (by decide)).mp q3
    have eday : dg D 0 + nI m = nI (gn (dg D) 0 + m) := by rw [a0, nI_add]
    by_cases qw : who (dg D) (gn (dg D) 0 + m) = -1
    · refine glu0 h (x := -2) (fun Post k => ?_) (fun s1 Post hm k => ?_)
      · obtain ⟨d, rfl⟩ := d_1 (show 1 ≤ d by omega)
        have hS := XS_rf h.2.1
        refine okm104 c d Post _ _ s (s14 (by omega) h.2.1.2.1 _ ⟨_, rfl, fun z => ?_, fun _ => ⟨fun z => absurd z (i_nlt.mpr q2), fun _ => ⟨fun _ => ?_, fun z => absurd q3 z⟩⟩⟩)
        · rw [bI_0] at z; exact absurd q1 z
        rw [XS_g hS (by decide), eday]
        refine s51 (by omega) rfl (by omega) ⟨_, rfl, fun z => k s hS, fun z => ?_⟩
        rw [XS_G hS] at z; exact absurd qw z
      · obtain ⟨d, rfl⟩ := d_1 (show 1 ≤ d by omega)
        refine okm216 c d Post _ _ s1 ?_
        rintro s2 rfl
        have hm1 := MS_thr hm 0
        refine s158 (by omega) hm1.1.2.1 _ ⟨_, rfl, fun z => ?_, fun _ => s154 (by omega) _ _ _ ⟨_, rfl, fun z => ?_, fun _ => ⟨vpd rfl, ?_⟩⟩⟩
        · rw [bI_0] at z; exact absurd q1 z
        · rw [bI_0] at z; exact absurd ⟨q2, q3⟩ z
        rw [MS_G hm1, show dg D (0 : Int32).toNatClampNeg + nI m = nI (gn (dg D) 0 + m) from eday]
        exact s184' (by omega) (MS_G hm1) (by omega) ⟨_, rfl, fun z => k _ hm1, fun z => absurd qw z⟩
    · have hw := whn_lt (dg D) (gn (dg D) 0 + m)
      by_cases q4 : near n (gn (dg D) 2)
      · refine glu1 h (D' := uW D 1 (r1 (who (dg D) (gn (dg D) 0 + m)).toInt64)) (x := 501 + isf D (dg D) (whn (dg D) (gn (dg D) 0 + m)) n (dg D 0 + nI m)) (VD_W (VD_mono hv (Nat.le_add_right B 60)) _ _) (fun Post k => ?_) (fun s1 Post hm k => ?_)
        · obtain ⟨d, rfl⟩ := d_1 (show 1 ≤ d by omega)
          have hS := XS_rf h.2.1
          refine okm104 c d Post _ _ s (s14 (by omega) h.2.1.2.1 _ ⟨_, rfl, fun z => ?_, fun _ => ⟨fun z => absurd z (i_nlt.mpr q2), fun _ => ⟨fun _ => ?_, fun z => absurd q3 z⟩⟩⟩)
          · rw [bI_0] at z; exact absurd q1 z
          rw [XS_g hS (by decide), eday]
          refine s51 (by omega) rfl (by omega) ⟨_, rfl, fun z => ?_, fun z => ?_⟩
          · rw [XS_G hS] at z; exact absurd z qw
          rw [XS_g hS (by decide), a2, XS_G hS]
          refine s16 (by omega) (by omega) (by omega) ⟨_, rfl, fun z => ?_, fun _ => ?_⟩
          · rw [bI_0] at z; exact absurd q4 z
          refine s45' (by omega) hS _ (fun s2 h2 f2 => ⟨rfl, ?_⟩)
          rw [whn_e qw]
          refine s150 (by omega) h2.1.2.1 h2.1.2.2.1 h2.1.2.2.2.1 rfl hw hn (by rw [XS_G h2]; exact a2) b2 _ (fun s3 f3 => ⟨_, rfl, ?_⟩)
          rw [XS_G h2, ← eday]
          exact k s3 (XS_frI h2 f3)
        · obtain ⟨d, rfl⟩ := d_1 (show 1 ≤ d by omega)
          refine okm216 c d Post _ _ s1 ?_
          rintro s2 rfl
          have hm1 := MS_thr hm 0
          refine s158 (by omega) hm1.1.2.1 _ ⟨_, rfl, fun z => ?_, fun _ => s154 (by omega) _ _ _ ⟨_, rfl, fun z => ?_, fun _ => ⟨vpd rfl, ?_⟩⟩⟩
          · rw [bI_0] at z; exact absurd q1 z
          · rw [bI_0] at z; exact absurd ⟨q2, q3⟩ z
          rw [MS_G hm1, show dg D (0 : Int32).toNatClampNeg + nI m = nI (gn (dg D) 0 + m) from eday]
          refine s184' (by omega) (MS_G hm1) (by omega) ⟨_, rfl, fun z => absurd z qw, fun z => ⟨vpd rfl, ?_⟩⟩
          rw [MS_G hm1, show dg D (2 : Int32).toNatClampNeg = nI (gn (dg D) 2) from a2]
          refine s185 (by omega) (by omega) (by omega) ⟨_, rfl, fun z => ?_, fun _ => ?_⟩
          · rw [bI_0] at z; exact absurd q4 z
          rintro s3 rfl
          refine s157r (by omega) (MS_row0 hm1 (r1 (who (dg D) (gn (dg D) 0 + m)).toInt64)) (by decide) rfl (fun s4 h4 e4 => ⟨rfl, vpd rfl, ?_⟩)
          rw [MS_G h4, whn_e qw]
          refine s182 (by omega) h4.1.2.1 h4.1.2.2.1 h4.1.2.2.2.1 rfl hw hn (by rw [MS_G h4]; exact a2) b2 _ (fun s5 f5 => ⟨_, rfl, ?_⟩)
          rw [MS_G h4]
          exact k s5 (MS_frJ h4 f5)
      · refine glu0 h (x := -3) (fun Post k => ?_) (fun s1 Post hm k => ?_)
        · obtain ⟨d, rfl⟩ := d_1 (show 1 ≤ d by omega)
          have hS := XS_rf h.2.1
          refine okm104 c d Post _ _ s (s14 (by omega) h.2.1.2.1 _ ⟨_, rfl, fun z => ?_, fun _ => ⟨fun z => absurd z (i_nlt.mpr q2), fun _ => ⟨fun _ => ?_, fun z => absurd q3 z⟩⟩⟩)
          · rw [bI_0] at z; exact absurd q1 z
          rw [XS_g hS (by decide), eday]
          refine s51 (by omega) rfl (by omega) ⟨_, rfl, fun z => ?_, fun z => ?_⟩
          · rw [XS_G hS] at z; exact absurd z qw
          rw [XS_g hS (by decide), a2]
          refine s16 (by omega) (by omega) (by omega) ⟨_, rfl, fun z => k s hS, fun z => ?_⟩
          rw [bI_0, Classical.not_not] at z; exact absurd z q4
        · obtain ⟨d, rfl⟩ := d_1 (show 1 ≤ d by omega)
          refine okm216 c d Post _ _ s1 ?_
          rintro s2 rfl
          have hm1 := MS_thr hm 0
          refine s158 (by omega) hm1.1.2.1 _ ⟨_, rfl, fun z => ?_, fun _ => s154 (by omega) _ _ _ ⟨_, rfl, fun z => ?_, fun _ => ⟨vpd rfl, ?_⟩⟩⟩
          · rw [bI_0] at z; exact absurd q1 z
          · rw [bI_0] at z; exact absurd ⟨q2, q3⟩ z
          rw [MS_G hm1, show dg D (0 : Int32).toNatClampNeg + nI m = nI (gn (dg D) 0 + m) from eday]
          refine s184' (by omega) (MS_G hm1) (by omega) ⟨_, rfl, fun z => absurd z qw, fun z => ⟨vpd rfl, ?_⟩⟩
          rw [MS_G hm1, show dg D (2 : Int32).toNatClampNeg = nI (gn (dg D) 2) from a2]
          refine s185 (by omega) (by omega) (by omega) ⟨_, rfl, fun z => k _ hm1, fun z => ?_⟩
          rw [bI_0, Classical.not_not] at z; exact absurd z q4
  · refine glu0 h (x := -1) (fun Post k => ?_) (fun s1 Post hm k => ?_)
    · obtain ⟨d, rfl⟩ := d_1 (show 1 ≤ d by omega)
      have k' := k s (XS_rf h.2.1)
      refine okm104 c d Post _ _ s (s14 (by omega) h.2.1.2.1 _ ⟨_, rfl, fun z => k', fun z1 => ⟨fun z => k', fun z2 => ⟨fun z3 => ?_, fun z => k'⟩⟩⟩)
      rw [bI_0, Classical.not_not] at z1
      exact absurd ⟨z1, i_nlt.mp z2, z3⟩ q
    · obtain ⟨d, rfl⟩ := d_1 (show 1 ≤ d by omega)
      refine okm216 c d Post _ _ s1 ?_
      rintro s2 rfl
      have hm1 := MS_thr hm 0
      refine s158 (by omega) hm1.1.2.1 _ ⟨_, rfl, fun z => k _ hm1, fun z1 => s154 (by omega) _ _ _ ⟨_, rfl, fun z => k _ hm1, fun z2 => ?_⟩⟩
      rw [bI_0, Classical.not_not] at z1 z2
      exact absurd ⟨z1, z2⟩ q
end C5
