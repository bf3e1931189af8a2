/-! Calls: years. -/
def yR (r : Int32) : Int32 := (r * 1103515245) + 12345
def yD (r : Int32) : Int32 := ((r.toUInt32 >>> ((16 : Int32).toUInt32 &&& Int32.toUInt32 31)).toInt32) - ((r.toUInt32 >>> ((16 : Int32).toUInt32 &&& Int32.toUInt32 31)).toInt32) / 4 * 4
def bkG (g : Nat → Int32) : Int32 := if g 1 = g 2 then -1 else if g 1 < g 2 then -1 else 1
def lvG (D : DD) (g : Nat → Int32) (x : Int32) : (Nat → Int32) × Int32 :=
  if x = 0 then (if g 1 = g 2 then (g, 0) else (upd g 1 (g 1 + (if g 1 < g 2 then 1 else -1)), 0))
  else if x = 1 then (if fld D (g 1 + bkG g) then (upd g 1 (g 1 + bkG g), 0) else (g, 0))
  else if x = 2 then (if refF D g = 0 then (sufG g (btV D g), 1) else (g, 0))
  else (g, 0)
abbrev yT : Type := (Nat → Int32) × Int32 × Int32
def yrS (D : DD) (_ : Nat) (a : yT) : yT := if who a.1 (gn a.1 0) = -1 then (nightG a.1, a.2.1, yR a.2.2) else (nightG (lvG D a.1 (yD (yR a.2.2))).1, a.2.1 + (lvG D a.1 (yD (yR a.2.2))).2, yR a.2.2)
theorem upd_id (g : Nat → Int32) (k : Nat) : upd g k (g k) = g := by
  funext i
  by_cases e : i = k
  · rw [e, upd_eq]
  · rw [upd_ne e]
theorem okG_lv {D : DD} {B : Nat} {g : Nat → Int32} (h : okG (dF D) B g) (hF : okF D) (hB : B < 2 ^ 20) (x : Int32) : okG (dF D) B (lvG D g x).1 := by
  obtain ⟨_, ⟨a1, b1⟩, ⟨a2, b2⟩, _⟩ := okG_N h hF.2 hB
  have hF2 := hF.2
  unfold lvG
  by_cases x0 : x = 0
  · rw [if_pos x0]
    by_cases e : g 1 = g 2
    · rw [if_pos e]; exact h
    · rw [if_neg e]
      show okG (dF D) B (upd g 1 _)
      rw [a1, a2, nI_eq' (by omega) (by omega)] at e
      rw [a1, a2]
      by_cases l : gn g 1 < gn g 2
      · rw [if_pos ((nI_lt' (by omega) (by omega)).mpr l), nI_1]
        exact okG_u1 h (by omega)
      · rw [if_neg (fun z => l ((nI_lt' (by omega) (by omega)).mp z)), show nI (gn g 1) + -1 = nI (gn g 1 - 1) from by rw [← nI_sub (show 1 ≤ gn g 1 by omega)]; show _ = nI (gn g 1) - 1; grind]
        exact okG_u1 h (by omega)
  · rw [if_neg x0]
    by_cases x1 : x = 1
    · rw [if_pos x1]
      by_cases e : fld D (g 1 + bkG g)
      · rw [if_pos e]
        obtain ⟨n, hn, en⟩ := fld_nat hF e
        show okG (dF D) B (upd g 1 _)
        rw [en]
        exact okG_u1 h hn
      · rw [if_neg e]; exact h
    · rw [if_neg x1]
      by_cases x2 : x = 2
      · rw [if_pos x2]
        by_cases e : refF D g = 0
        · rw [if_pos e]; exact okG_suf h hF.2 hB _
        · rw [if_neg e]; exact h
      · rw [if_neg x2]; exact h
section C11
variable {c : gx} {d B : Nat} {Post : Option Value → gs → Prop} {s0 s : gs} {D : DD}
theorem s142 (hd : 6 ≤ d) (h : XS s0 s D) {g : Nat → Int32} (hg : xg s 16 = g) (hN : okN (dF D) B g) (hB : B < 2 ^ 20) (hw : ¬ who g (gn g 0) = -1) (x : Int32) (k : ∀ s', XS s0 s' D → xg s' 16 = (lvG D g x).1 → Post (some (.int (lvG D g x).2)) s') : tE c d 142 [.ref 0, .int x, .int (who g (gn g 0))] s Post := by
  obtain ⟨d, rfl⟩ := d_1 (show 1 ≤ d by omega)
  obtain ⟨⟨a0, b0⟩, ⟨a1, b1⟩, ⟨a2, b2⟩, ⟨a3, b3⟩, ⟨a4, b4⟩, _⟩ := hN
  have hF := h.1.2.1.1.2
  have g1 : gsV s 16 1 = g 1 := by rw [xg_0 s 16 1 (by decide), hg]
  have g2 : gsV s 16 2 = g 2 := by rw [xg_0 s 16 2 (by decide), hg]
  have g3 : gsV s 16 3 = g 3 := by rw [xg_0 s 16 3 (by decide), hg]
  have g4 : gsV s 16 4 = g 4 := by rw [xg_0 s 16 4 (by decide), hg]
  have g0 : gsV s 16 0 = g 0 := by rw [xg_0 s 16 0 (by decide), hg]
  have mv : ∀ v : Int32, lvG D g x = (upd g 1 v, 0) → Post (some (.int 0)) (gs_V s 16 1 v) := by
    intro v e
    rw [e] at k
    exact k _ (XS_scr h frV_s1 (Or.inr rfl)) (by rw [xg_V _ _ _ _ (by decide), hg])
  have st : lvG D g x = (g, 0) → Post (some (.int 0)) s := by
    intro e
    rw [e] at k
    exact k s h hg
  have k60 : ∀ t : Int32, (x = 0 → g 1 = g 2) → t = (if g 1 < g 2 then 1 else -1) → w142_60 c d Post x (who g (gn g 0)) t s := by
    intro t hx ht
    have w88 : ∀ b : Int32, x = 1 → b = bkG g → w142_88 c d Post b s := by
      intro b hx1 hb
      have x0 : ¬ x = 0 := by rw [hx1]; decide
      unfold w142_88 w142_124 w142_204
      rw [g1]
      refine s14 (by omega) h.1.2.1 _ ⟨_, rfl, fun z => ?_, fun z => ?_⟩
      · rw [bI_0] at z
        refine st ?_
        unfold lvG
        rw [if_neg x0, if_pos hx1, if_neg (by rw [← hb]; exact z)]
      · rw [bI_0, Classical.not_not] at z
        rintro s8 rfl
        refine mv _ ?_
        unfold lvG
        rw [if_neg x0, if_pos hx1, if_pos (by rw [← hb]; exact z), hb, g1]
    unfold w142_60 w142_204
    rw [g1, g2]
    refine ⟨fun z => ⟨fun e => w88 _ z ?_, fun e => w88 _ z ?_⟩, fun z => ⟨fun y => ?_, fun y => ?_⟩⟩
    · unfold bkG; rw [if_pos e]
    · unfold bkG
      rw [if_neg e, ht]
      by_cases l : g 1 < g 2
      · rw [if_pos l, if_pos l]
      · rw [if_neg l, if_neg l]; rfl
    · have x0 : ¬ x = 0 := by rw [y]; decide
      have lv : lvG D g x = if refF D g = 0 then (sufG g (btV D g), 1) else (g, 0) := by
        unfold lvG
        rw [if_neg x0, if_neg z, if_pos y]
      rw [a1, a2]
      refine s16 (by omega) (by omega) (by omega) ⟨_, rfl, fun w => ?_, fun w => ?_⟩
      · rw [bI_0] at w
        refine st ?_
        rw [lv, if_neg]
        unfold refF
        rw [if_neg hw, if_pos w]
        decide
      · rw [bI_0, Classical.not_not] at w
        rw [g3, g4, g1, g0, a3, a4, a1]
        have n3 : nI (gn g 3) ≤ 0 ↔ gn g 3 = 0 := by
          rw [show (0 : Int32) = nI 0 from rfl, nI_le' (by omega) (by decide)]; omega
        have n4 : nI (gn g 4) ≤ 0 ↔ gn g 4 = 0 := by
          rw [show (0 : Int32) = nI 0 from rfl, nI_le' (by omega) (by decide)]; omega
        have bad : (gn g 3 = 0 ∨ gn g 4 = 0) → lvG D g x = (g, 0) := by
          intro u
          rw [lv, if_neg]
          unfold refF
          rw [if_neg hw, if_neg (fun v => v w), if_pos]
          · decide
          · rcases u with u | u
            · left; rw [a3, u]; rfl
            · right; rw [a4, u]; rfl
        rw [n3, n4]
        refine ⟨fun u => st (bad (Or.inl u)), fun u => ⟨fun v => st (bad (Or.inr v)), fun v => ?_⟩⟩
        have lv2 : lvG D g x = (sufG g (btV D g), 1) := by
          rw [lv, if_pos]
          unfold refF
          rw [if_neg hw, if_neg (fun v => v w), if_neg]
          rintro (q | q)
          · rw [a3] at q; exact u ((nI_eq' (b := 0) (by omega) (by decide)).mp q)
          · rw [a4] at q; exact v ((nI_eq' (b := 0) (by omega) (by decide)).mp q)
        rw [whn_e hw]
        refine s150 (by omega) h.1.2.1 h.1.2.2.1 h.1.2.2.2.1 rfl (whn_lt _ _) b1 (by rw [hg]; exact a2) b2 _ (fun s2 f2 => ⟨_, rfl, ?_⟩)
        have e2 : isf D (xg s 16) (whn g (gn g 0)) (gn g 1) (g 0) = btV D g := by rw [hg]; rfl
        rw [e2]
        refine s56 (by omega) rfl (btV_b D g) (fun s3 f3 e3 => ⟨rfl, ?_⟩)
        rw [frI_x f2 (by decide), hg] at e3
        rw [lv2] at k
        exact k s3 (XS_scr (XS_frI h f2) f3 (Or.inr rfl)) e3
    · refine st ?_
      unfold lvG
      by_cases x0 : x = 0
      · rw [if_pos x0, if_pos (hx x0)]
      · rw [if_neg x0, if_neg z, if_neg y]
  have k22 : ∀ t : Int32, t = (if g 1 < g 2 then 1 else -1) → w142_22 c d Post x (who g (gn g 0)) t s := by
    intro t ht
    unfold w142_22 w142_204
    rw [g1, g2]
    refine ⟨fun z => ⟨fun e => k60 t (fun _ => e) ht, fun e => ?_⟩, fun z => k60 t (fun w => absurd w z) ht⟩
    rintro s9 rfl
    refine mv _ ?_
    unfold lvG
    rw [if_pos z, if_neg e, ht]
  refine okm142 c d Post _ _ s ?_
  unfold wm142
  rw [g1, g2]
  refine ⟨fun z => k22 _ ?_, fun z => k22 _ ?_⟩
  · rw [if_neg (i_nlt.mpr z)]
  · rw [if_pos (i_nle.mp z)]
def cmpI (x y : Int32) : Int32 := if y ≤ x then (if x = y then 0 else 1) else -1
theorem s264 (hd : 1 ≤ d) (x y : Int32) (k : Post (some (.int (cmpI x y))) s) : tE c d 264 [.int x, .int y] s Post := by
  obtain ⟨d, rfl⟩ := d_1 hd
  unfold cmpI at k
  refine okm264 c d Post _ _ s ⟨fun z => ⟨fun y => ?_, fun y => ?_⟩, fun z => ?_⟩
  · rw [if_pos z, if_pos y] at k; exact k
  · rw [if_pos z, if_neg y] at k; exact k
  · rw [if_neg z] at k; exact k
theorem cmp_e {g : Nat → Int32} (h : g 1 = g 2) : cmpI (g 2) (g 1) = 0 := by
  unfold cmpI
  rw [if_pos (by rw [h]; exact Int32.le_refl _), if_pos h.symm]
theorem cmp_n {g : Nat → Int32} (h : ¬ g 1 = g 2) : cmpI (g 2) (g 1) = if g 1 < g 2 then 1 else -1 := by
  unfold cmpI
  by_cases l : g 1 < g 2
  · rw [if_pos l, if_pos (by grind), if_neg (fun z => h z.symm)]
  · rw [if_neg l, if_neg (by grind)]
theorem cl_years (h : HY d s B D) (x y : Int32) : CL c d 141 259 [.int x, .int y] s B := by
  have hd := h.1
  have hB := h.2.2.2.2
  have hv := h.2.2.2.1
  have hF := hv.1.2
  by_cases q : 1 ≤ y ∧ y ≤ 60
  · obtain ⟨N, hN1, hN, rfl⟩ := i_rng (a := 1) (b := 60) (by decide) q (by decide)
    generalize hR : fl (yrS D) 0 N (dg D, 0, x) = R
    refine glu1 h (D' := uW D 3 (r3 (R.1 3).toInt64 (R.1 4).toInt64 (R.1 5).toInt64)) (x := R.2.1) (VD_W (VD_mono hv (Nat.le_add_right B 60)) _ _) (fun Post k => ?_) (fun s1 Post hm k => ?_)
    · obtain ⟨d, rfl⟩ := d_1 (show 1 ≤ d by omega)
      have loop : ∀ (m i : Nat) (a : yT) (s' : gs), i + m = N → XS s s' D → xg s' 16 = a.1 → okG (dF D) (B + i) a.1 → fl (yrS D) i m a = R → wl141_32 c d Post (m + 1) (nI N) a.2.1 a.2.2 (nI i) s' := by
        intro m
        induction m with
        | zero =>
          intro i a s' hi hS hg ho hr
          have hr' : a = R := hr
          subst hr'
          refine ⟨fun _ => ?_, fun z => absurd (le_t (by omega) (by omega) (by omega)) z⟩
          rintro s2 rfl
          have e3 : gsV s' 16 3 = a.1 3 := by rw [xg_0 s' 16 3 (by decide), hg]
          have e4 : gsV s' 16 4 = a.1 4 := by rw [xg_0 s' 16 4 (by decide), hg]
          have e5 : gsV s' 16 5 = a.1 5 := by rw [xg_0 s' 16 5 (by decide), hg]
          rw [show gsV (gs_V s' 34 1 0) 16 3 = gsV s' 16 3 from rfl, e3]
          refine s44r (by omega) (XS_row0 hS (r3 (a.1 3).toInt64 (a.1 4).toInt64 (a.1 5).toInt64)) (by decide) rfl (fun s3 h3 f3 => ⟨rfl, ?_⟩)
          have v3 : gsV s3 16 = gsV s' 16 := f3.1 16 (by decide)
          rw [v3, e4]
          refine s44r (by omega) h3 (by decide) rfl (fun s4 h4 f4 => ⟨rfl, ?_⟩)
          rw [f4.1 16 (by decide), v3, e5]
          exact s44r (by omega) h4 (by decide) rfl (fun s5 h5 f5 => ⟨rfl, k s5 h5⟩)
        | succ m ih =>
          intro i a s' hi hS hg ho hr
          have hr' : fl (yrS D) (i + 1) m (yrS D i a) = R := hr
          have hN' := okG_N ho hF (by omega)
          unfold yrS at hr'
          have nxt : ∀ (g' : Nat → Int32) (b' : Int32) (s2 : gs), XS s s2 D → xg s2 16 = g' → okG (dF D) (B + i) g' → fl (yrS D) (i + 1) m (nightG g', b', yR a.2.2) = R → w141_92 c d Post (wl141_32 c d Post (m + 1)) (nI N) b' (yR a.2.2) (nI i) s2 := by
            intro g' b' s2 h2 e2 ho2 hr2
            have hN2 := okG_N ho2 hF (by omega)
            refine s58 (by omega) rfl hN2.2.2.2.1.2 (by rw [e2]; exact hN2.2.2.2.1.1) (fun s3 f3 e3 => ⟨rfl, ?_⟩)
            rw [nI_1]
            rw [e2] at e3
            exact ih (i + 1) (nightG g', b', yR a.2.2) s3 (by omega) (XS_scr h2 f3 (Or.inr rfl)) e3 (okG_night (B := B + i) ho2 hF (by omega)) hr2
          have e0 : gsV s' 16 0 = nI (gn a.1 0) := by rw [xg_0 s' 16 0 (by decide), hg]; exact hN'.1.1
          refine ⟨fun z => absurd z (le_f (by omega) (by omega) (by omega)), fun _ => ?_⟩
          rw [e0]
          refine s51 (by omega) rfl (by have := hN'.1.2; omega) ⟨_, rfl, ?_⟩
          rw [hg]
          refine ⟨fun z => ?_, fun z => ?_⟩
          · rw [if_pos z] at hr'
            exact nxt a.1 a.2.1 s' hS hg ho hr'
          · rw [if_neg z] at hr'
            refine s142 (B := B + i) (by omega) hS hg hN' (by omega) z _ (fun s2 h2 e2 => ⟨_, rfl, ?_⟩)
            exact nxt _ _ s2 h2 e2 (okG_lv ho hv.1 (by omega) _) hr'
      refine okm141 c d Post _ _ s ⟨fun z => absurd z (i_nlt.mpr q.1), fun _ => ⟨fun _ => s48 (by omega) rfl rfl (by decide) (fun s2 f2 e2 => ⟨rfl, N + 1, ?_⟩), fun z => absurd q.2 z⟩⟩
      exact loop N 0 (dg D, 0, x) s2 (by omega) (XS_scr (XS_rf h.2.1) f2 (Or.inr rfl)) (e2.trans (XS_G (XS_rf h.2.1))) hv.2.1 hR
    · obtain ⟨d, rfl⟩ := d_1 (show 1 ≤ d by omega)
      refine okm259 c d Post _ _ s1 ?_
      rintro s2 rfl
      have hm1 := MS_thr hm 0
      have loop : ∀ (m i : Nat) (a : yT) (s' : gs), i + m = N → MS s1 s' D → gsA s' 65 = a.1 → okG (dF D) (B + i) a.1 → fl (yrS D) i m a = R → wl259_37 c d Post (m + 1) (nI N) a.2.2 a.2.1 (nI i) s' := by
        intro m
        induction m with
        | zero =>
          intro i a s' hi hS hg ho hr
          have hr' : a = R := hr
          subst hr'
          refine ⟨fun _ => ?_, fun z => absurd (le_t (by omega) (by omega) (by omega)) z⟩
          rintro s2 rfl
          rw [show gsA (gs_V s' 48 12 0) 65 = a.1 from hg]
          refine ⟨vpd rfl, s157r (by omega) (MS_row0 hS (r3 (a.1 3).toInt64 (a.1 4).toInt64 (a.1 5).toInt64)) (by decide) rfl (fun s3 h3 e3 => ⟨rfl, vpd rfl, ?_⟩)⟩
          have g3 : gsA s3 65 = a.1 := by rw [e3]; exact hg
          rw [g3]
          refine s157r (by omega) h3 (by decide) rfl (fun s4 h4 e4 => ⟨rfl, vpd rfl, ?_⟩)
          rw [e4, g3]
          exact s157r (by omega) h4 (by decide) rfl (fun s5 h5 e5 => ⟨rfl, k s5 h5⟩)
        | succ m ih =>
          intro i a s' hi hS hg ho hr
          have hr' : fl (yrS D) (i + 1) m (yrS D i a) = R := hr
          have hN' := okG_N ho hF (by omega)
          unfold yrS at hr'
          have nxt : ∀ (g' : Nat → Int32) (b' : Int32) (s2 : gs), MS s1 s2 D → gsA s2 65 = g' → okG (dF D) (B + i) g' → fl (yrS D) (i + 1) m (nightG g', b', yR a.2.2) = R → w259_205 c d Post (wl259_37 c d Post (m + 1)) (nI N) (yR a.2.2) b' (nI i) s2 := by
            intro g' b' s2 h2 e2 ho2 hr2
            have ho3 := okG_night (B := B + i) ho2 hF (by omega)
            refine s197t (by omega) h2 e2 ho3.2.2.2.2.2.2 (fun s3 h3 e3 => ⟨rfl, ?_⟩)
            rw [nI_1]
            exact ih (i + 1) (nightG g', b', yR a.2.2) s3 (by omega) h3 e3 ho3 hr2
          have mv : ∀ (v : Int32) (s2 : gs), MS s1 s2 D → gsA s2 65 = a.1 → MS s1 (gs_A s2 65 1 v) D ∧ gsA (gs_A s2 65 1 v) 65 = upd a.1 1 v := by
            intro v s2 h2 e2
            have e3 : gsA (gs_A s2 65 1 v) 65 = upd a.1 1 v := by rw [gsA_A, e2]
            refine ⟨MS_then h2 (frA_A (frA_rf s2 65) 1 v) (fun j hj => ?_), e3⟩
            rw [e3, upd_ne (by omega)]
            exact ho.2.2.2.2.2.2 j hj
          have e0 : gsA s' 65 (0 : Int32).toNatClampNeg = nI (gn a.1 0) := by rw [hg]; exact hN'.1.1
          refine ⟨fun z => absurd z (le_f (by omega) (by omega) (by omega)), fun _ => ⟨vpd rfl, ?_⟩⟩
          rw [e0]
          refine s184 (by omega) rfl (by have := hN'.1.2; omega) ⟨_, rfl, ?_⟩
          rw [hg]
          have yd : ((((a.2.2 * 1103515245) + 12345).toUInt32 >>> ((16 : Int32).toUInt32 &&& Int32.toUInt32 31)).toInt32) - ((((a.2.2 * 1103515245) + 12345).toUInt32 >>> ((16 : Int32).toUInt32 &&& Int32.toUInt32 31)).toInt32) / 4 * 4 = yD (yR a.2.2) := rfl
          rw [yd, show (a.2.2 * 1103515245) + 12345 = yR a.2.2 from rfl]
          refine ⟨fun z => ?_, fun z => ?_⟩
          · rw [if_pos z] at hr'
            refine ⟨vpd rfl, vpd rfl, s264 (by omega) _ _ ⟨_, rfl, vpd rfl, ?_⟩⟩
            have ok := nxt a.1 a.2.1 s' hS hg ho hr'
            exact ⟨fun _ => ⟨fun _ => ⟨fun _ => ⟨fun _ => ok, fun w => absurd rfl w⟩, fun w => absurd rfl w⟩, fun w => absurd rfl w⟩, fun _ => ⟨fun _ => ⟨fun _ => ⟨fun _ => ok, fun w => absurd rfl w⟩, fun w => absurd rfl w⟩, fun w => absurd rfl w⟩⟩
          · rw [if_neg z] at hr'
            have ho' := okG_lv ho hv.1 (by omega) (yD (yR a.2.2))
            revert ho' hr'
            generalize yD (yR a.2.2) = e
            intro hr' ho'
            have e1 : gsA s' 65 (1 : Int32).toNatClampNeg = a.1 1 := by rw [hg]; rfl
            have e2 : gsA s' 65 (2 : Int32).toNatClampNeg = a.1 2 := by rw [hg]; rfl
            -- the day's own: the field that is behind
            have key : ∀ bk : Int32, bk = a.1 1 + bkG a.1 → ∀ xs1, a.1 1 - xs1 = bk → w259_119 c d Post (wl259_37 c d Post (m + 1)) (nI N) (yR a.2.2) a.2.1 (nI i) e 1 (cmpI (a.1 2) (a.1 1)) (a.1 1) xs1 s' := by
              intro bk hbk xs1 hxs
              unfold w259_119
              rw [hxs]
              refine ⟨fun w => absurd w (by decide), fun _ => ⟨fun w => ⟨vpd rfl, vpd rfl, ?_⟩, fun w => ⟨fun v => absurd v (by decide), fun _ => ⟨fun v => ?_, fun v => ⟨fun u => absurd u (by decide), fun _ => ⟨fun u => ?_, fun u => ?_⟩⟩⟩⟩⟩⟩
              · rw [e1]
                rintro s5 rfl
                obtain ⟨h5, g5⟩ := mv (a.1 1 + cmpI (a.1 2) (a.1 1)) s' hS hg
                have lv : lvG D a.1 e = (upd a.1 1 (a.1 1 + cmpI (a.1 2) (a.1 1)), 0) := by
                  unfold lvG
                  rw [if_pos w]
                  by_cases ee : a.1 1 = a.1 2
                  · rw [if_pos ee, cmp_e ee, Int32.add_zero, upd_id]
                  · rw [if_neg ee, cmp_n ee]
                rw [lv] at hr' ho'
                rw [Int32.add_zero] at hr'
                refine ⟨fun v => absurd v (by decide), fun _ => ⟨fun v => absurd (w.symm.trans v) (by decide), fun _ => ⟨fun v => absurd v (by decide), fun _ => ⟨fun v => absurd (w.symm.trans v) (by decide), fun _ => ?_⟩⟩⟩⟩
                exact nxt _ _ _ h5 g5 ho' hr'
              · refine s158 (by omega) hS.1.2.1 _ ⟨_, rfl, fun u => ?_, fun u => ⟨vpd rfl, ?_⟩⟩
                · rw [bI_0] at u
                  have lv : lvG D a.1 e = (a.1, 0) := by
                    unfold lvG
                    rw [if_neg w, if_pos v, if_neg (by rw [← hbk]; exact u)]
                  rw [lv] at hr' ho'
                  rw [Int32.add_zero] at hr'
                  refine ⟨fun v => absurd v (by decide), fun _ => ⟨fun u => absurd (v.symm.trans u) (by decide), fun _ => ?_⟩⟩
                  exact nxt _ _ _ hS hg ho' hr'
                · rw [bI_0, Classical.not_not] at u
                  have lv : lvG D a.1 e = (upd a.1 1 bk, 0) := by
                    unfold lvG
                    rw [if_neg w, if_pos v, if_pos (by rw [← hbk]; exact u), hbk]
                  rw [lv] at hr' ho'
                  rw [Int32.add_zero] at hr'
                  rintro s6 rfl
                  obtain ⟨h5, g5⟩ := mv bk s' hS hg
                  refine ⟨fun v => absurd v (by decide), fun _ => ⟨fun u => absurd (v.symm.trans u) (by decide), fun _ => ?_⟩⟩
                  exact nxt _ _ _ h5 g5 ho' hr'
              · refine s203 (D := D) (B := B + i) (by omega) rfl hg hN' hF (by omega) ⟨_, rfl, fun t => ?_, fun t => ?_⟩
                · have lv : lvG D a.1 e = (sufG a.1 (btV D a.1), 1) := by
                    unfold lvG
                    rw [if_neg w, if_neg v, if_pos u, if_pos t]
                  rw [lv] at hr' ho'
                  refine s204 (D := D) (B := B + i) (by omega) hS.1.2.1 hS.1.2.2.1 hS.1.2.2.2.1 rfl (by decide) hg hN' (by omega) z (fun s3 s4 f3 f4 g4 => ⟨_, rfl, ?_⟩)
                  exact nxt _ _ _ (MS_then (MS_frJ hS f3) f4 (fun j hj => by rw [g4]; exact ho'.2.2.2.2.2.2 j hj)) g4 ho' hr'
                · have lv : lvG D a.1 e = (a.1, 0) := by
                    unfold lvG
                    rw [if_neg w, if_neg v, if_pos u, if_neg t]
                  rw [lv] at hr' ho'
                  rw [Int32.add_zero] at hr'
                  exact nxt _ _ _ hS hg ho' hr'
              · have lv : lvG D a.1 e = (a.1, 0) := by
                  unfold lvG
                  rw [if_neg w, if_neg v, if_neg u]
                rw [lv] at hr' ho'
                rw [Int32.add_zero] at hr'
                exact nxt _ _ _ hS hg ho' hr'
            unfold w259_83
            rw [e1, e2]
            refine ⟨vpd rfl, vpd rfl, s264 (by omega) _ _ ⟨_, rfl, vpd rfl, ?_⟩⟩
            rw [e1]
            refine ⟨fun t => key _ rfl _ ?_, fun t => key _ rfl _ ?_⟩
            · have ee : a.1 1 = a.1 2 := by
                by_cases ee : a.1 1 = a.1 2
                · exact ee
                · rw [cmp_n ee] at t
                  by_cases l : a.1 1 < a.1 2
                  · rw [if_pos l] at t; cases t
                  · rw [if_neg l] at t; cases t
              unfold bkG
              rw [if_pos ee]
              grind
            · have ee : ¬ a.1 1 = a.1 2 := fun ee => t (cmp_e ee)
              unfold bkG
              rw [cmp_n ee, if_neg ee]
              by_cases l : a.1 1 < a.1 2
              · rw [if_pos l, if_pos l]; grind
              · rw [if_neg l, if_neg l]; grind
      refine s154 (by omega) _ _ _ ⟨_, rfl, fun z => ?_, fun _ => lay65 (by omega) hm1 hv.2.1.2.2.2.2.2.2 (fun s3 h3 e3 => ⟨rfl, N + 1, ?_⟩)⟩
      · rw [bI_0] at z; exact absurd q z
      · exact loop N 0 (dg D, 0, x) s3 (by omega) h3 e3 hv.2.1 hR
  · refine glu0 h (x := -1) (fun Post k => ?_) (fun s1 Post hm k => ?_)
    · obtain ⟨d, rfl⟩ := d_1 (show 1 ≤ d by omega)
      have k' := k s (XS_rf h.2.1)
      exact okm141 c d Post _ _ s ⟨fun z => k', fun z1 => ⟨fun z2 => absurd ⟨i_nlt.mp z1, z2⟩ q, fun z => k'⟩⟩
    · obtain ⟨d, rfl⟩ := d_1 (show 1 ≤ d by omega)
      refine okm259 c d Post _ _ s1 ?_
      rintro s2 rfl
      refine s154 (by omega) _ _ _ ⟨_, rfl, fun z => k _ (MS_thr hm 0), fun z => ?_⟩
      rw [bI_0, Classical.not_not] at z
      exact absurd z q
end C11
