/-! Marches, halts, battles and their like. -/
theorem XS_t1 {s0 s : gs} {D : DD} (h : XS s0 s D) (a : Int64) : XS s0 (xTell1 s a) (uW D 1 (r1 a)) :=
  XW_R (XS_add (XS_row0 h (r1 a)) (by show 0 < 32; decide) a) (fun i hi => by
    show (if i = 0 then a else a) = a
    split <;> rfl)
theorem XS_t2 {s0 s : gs} {D : DD} (h : XS s0 s D) (a b : Int64) : XS s0 (xTell2 s a b) (uW D 2 (r2 a b)) :=
  XW_R (XS_add (XS_t1 h a) (by show 1 < 32; decide) b) (fun i hi => by
    show (if i = 1 then b else a) = if i = 0 then a else b
    rcases (show i = 0 ∨ i = 1 by omega) with rfl | rfl <;> rfl)
def frR (s s' : gs) : Prop := (∀ b, b ≠ 34 → gsV s' b = gsV s b) ∧ gsE s' = gsE s ∧ gsA s' = gsA s
theorem frR_x {s s' : gs} (h : frR s s') {b : Nat} (hb : b ≠ 34) : xg s' b = xg s b := xg_cg (h.1 b hb) (by rw [h.2.1])
theorem frR_t1 (s : gs) (a : Int64) : frR s (xTell1 s a) := ⟨fun b hb => by funext j; unfold xTell1; rw [V_V, if_neg hb, V_R, V_V, if_neg hb], rfl, rfl⟩
theorem frR_t2 (s : gs) (a b : Int64) : frR s (xTell2 s a b) := ⟨fun x hb => by funext j; unfold xTell2; rw [V_V, if_neg hb, V_R, (frR_t1 s a).1 x hb], rfl, rfl⟩
section R1
variable {c : gx} {d : Nat} {Post : Option Value → gs → Prop} {s0 s : gs} {D : DD}
theorem s45' (hd : 2 ≤ d) (h : XS s0 s D) (a : Int64) (k : ∀ s', XS s0 s' (uW D 1 (r1 a)) → frR s s' → Post none s') : tE c d 45 [.ref 34, .long a] s Post := s45 hd a (k _ (XS_t1 h a) (frR_t1 s a))
theorem s46' (hd : 2 ≤ d) (h : XS s0 s D) (a b : Int64) (k : ∀ s', XS s0 s' (uW D 2 (r2 a b)) → frR s s' → Post none s') : tE c d 46 [.ref 34, .long a, .long b] s Post := s46 hd a b (k _ (XS_t2 h a b) (frR_t2 s a b))
theorem s44r (hd : 1 ≤ d) {n : Nat} {R : Nat → Int64} (h : XS s0 s (uW D n R)) (hn : n < 32) {x : Int64} (hx : R n = x) (k : ∀ s', XS s0 s' (uW D (n + 1) R) → frR s s' → Post none s') : tE c d 44 [.ref 34, .long x] s Post := by
  have h1 := h.1.2.2.2.2.2.2.2.2.1.2.1
  refine s44 hd (n := n) h1 hn x (k _ (XW_R (XS_add h hn x) (fun i hi => ?_)) ⟨fun b hb => by funext j; rw [V_V, if_neg hb, V_R], rfl, rfl⟩)
  show (if i = n then x else R i) = R i
  by_cases e : i = n
  · rw [if_pos e, e, hx]
  · rw [if_neg e]
theorem s157r (hd : 1 ≤ d) {n : Nat} {R : Nat → Int64} (h : MS s0 s (uW D n R)) (hn : n < 32) {x : Int64} (hx : R n = x) (k : ∀ s', MS s0 s' (uW D (n + 1) R) → gsA s' = gsA s → Post none s') : tE c d 157 [.ref 48, .long x] s Post := by
  have h1 := h.1.2.2.2.2.2.2.2.2.1.2.1
  refine s157 hd (n := n) h1 hn x (k _ (MW_R (MS_add h hn x) (fun i hi => ?_)) rfl)
  show (if i = n then x else R i) = R i
  by_cases e : i = n
  · rw [if_pos e, e, hx]
  · rw [if_neg e]
end R1
def refM (D : DD) (v : Int32) : Int32 :=
  if v < -12 ∨ 12 < v ∨ v = 0 then -1
  else if who (dg D) (gn (dg D) 0) = -1 then -2
  else if ¬ fld D (dg D 1 + v) then -3
  else if db D (whn (dg D) (gn (dg D) 0)) / 3 + 1 < nI (cst (dr D) (gn (dg D) 1) (dg D 1 + v).toNatClampNeg) then -4
  else if pst (gn (dg D) 1) (gn (dg D) 2) (dg D 1 + v).toNatClampNeg then -5 else 0
def marG (g : Nat → Int32) (v : Int32) : Nat → Int32 := nightG (upd g 1 (g 1 + v))
def refF (D : DD) (g : Nat → Int32) : Int32 :=
  if who g (gn g 0) = -1 then -2 else if ¬ near (gn g 1) (gn g 2) then -3 else if g 3 = 0 ∨ g 4 = 0 then -4 else 0
def btV (D : DD) (g : Nat → Int32) : Int32 := isf D g (whn g (gn g 0)) (gn g 1) (g 0)
theorem btV_b (D : DD) (g : Nat → Int32) : ∃ n, n ≤ 500 ∧ (btV D g = nI n ∨ btV D g = -nI n) := clp_b _
theorem mrow (g : Nat → Int32) (v : Int32) : marG g v 1 = g 1 + v := by
  unfold marG nightG
  split
  · rfl
  · rfl
section T4
variable {c : gx} {d B : Nat} {Post : Option Value → gs → Prop} {s0 s : gs} {D : DD}
theorem s95 (hd : 5 ≤ d) (h : XS s0 s D) (hN : okN (dF D) B (dg D)) (hB : B < 2 ^ 20) (v : Int32) (k : if refM D v = 0 then (∀ s', XS s0 s' (uW (uG D (marG (dg D) v)) 2 (r2 (who (dg D) (gn (dg D) 0)).toInt64 (marG (dg D) v 5).toInt64)) → xg s' 15 = xg s 15 → Post (some (.int (dg D 1 + v))) s') else Post (some (.int (refM D v))) s) : tE c d 95 [.ref 0, .int v] s Post := by
  obtain ⟨d, rfl⟩ := d_1 (show 1 ≤ d by omega)
  obtain ⟨⟨a0, b0⟩, ⟨a1, b1⟩, ⟨a2, b2⟩, ⟨a3, b3⟩, _⟩ := hN
  have hL := h.1.2.1
  have hF := hL.1.2
  have g1 : gsV s 14 1 = dg D 1 := XS_g h (by decide)
  have g2 : gsV s 14 2 = dg D 2 := XS_g h (by decide)
  refine okm95 c d Post _ s ?_
  by_cases q : v < -12 ∨ 12 < v ∨ v = 0
  · have e : refM D v = -1 := by unfold refM; rw [if_pos q]
    rw [e, if_neg (by decide)] at k
    refine ⟨fun z => k, fun z1 => ⟨fun z => k, fun z2 => ⟨fun z => k, fun z3 => ?_⟩⟩⟩
    rcases q with q | q | q
    · exact absurd q z1
    · exact absurd q z2
    · exact absurd q z3
  refine ⟨fun z => absurd (Or.inl z) q, fun _ => ⟨fun z => absurd (Or.inr (Or.inl z)) q, fun _ => ⟨fun z => absurd (Or.inr (Or.inr z)) q, fun _ => s84 (by omega) h a0 (by omega) ⟨_, rfl, fun z => ?_, fun z => ?_⟩⟩⟩⟩
  · have e : refM D v = -2 := by unfold refM; rw [if_neg q, if_pos z]
    rw [e, if_neg (by decide)] at k
    exact k
  rw [g1]
  refine s14 (by omega) hL _ ⟨_, rfl, fun y => ?_, fun y => ?_⟩
  · rw [bI_0] at y
    have e : refM D v = -3 := by unfold refM; rw [if_neg q, if_neg z, if_pos y]
    rw [e, if_neg (by decide)] at k
    exact k
  rw [bI_0, Classical.not_not] at y
  obtain ⟨n, hn, en⟩ := fld_nat hL.1 y
  have hw := whn_lt (dg D) (gn (dg D) 0)
  have e0 : refM D v = if db D (whn (dg D) (gn (dg D) 0)) / 3 + 1 < nI (cst (dr D) (gn (dg D) 1) n) then -4 else if pst (gn (dg D) 1) (gn (dg D) 2) n then -5 else 0 := by
    unfold refM
    rw [if_neg q, if_neg z, if_neg (fun w => w y), en, nI_clamp (by omega)]
  rw [en, g1, a1]
  refine s19 (by omega) hL b1 hn ⟨_, rfl, ?_⟩
  rw [whn_e z]
  refine s148' (by omega) hw ⟨_, rfl, ldr_c hw, s31 (by omega) h.1.2.2.2.1 hw ⟨_, rfl, fun w => ?_, fun w => ?_⟩⟩
  · rw [g1, g2, a1, a2]
    refine s17 (by omega) (by omega) (by omega) (by omega) ⟨_, rfl, fun u => ?_, fun u => ?_⟩
    · rw [bI_0] at u
      rw [if_neg (i_nlt.mpr w), if_neg u] at e0
      rw [e0, if_pos rfl] at k
      rintro s1 rfl
      have h1 : XS s0 (gs_V s 14 1 (nI n)) (uG D (upd (dg D) 1 (nI n))) := XS_now h frV_s1 (by rw [xg_V _ _ _ _ (by decide), show xg s 14 = dg D from h.1.2.2.2.2.2.1])
      have x1 : xg (gs_V s 14 1 (nI n)) 14 = upd (dg D) 1 (nI n) := h1.1.2.2.2.2.2.1
      refine s58 (by omega) rfl b3 (by rw [x1, upd_ne (by decide)]; exact a3) (fun s2 f2 x2 => ⟨rfl, ?_⟩)
      have h2 : XS s0 s2 (uG D (marG (dg D) v)) := by
        have := XS_now h1 f2 x2
        rw [x1] at this
        unfold marG
        rw [en]
        exact this
      have g5 : gsV s2 14 5 = marG (dg D) v 5 := XS_g h2 (by decide)
      rw [g5, ← whn_e z]
      refine s46' (by omega) h2 _ _ (fun s3 h3 f3 => ⟨rfl, ?_⟩)
      rw [← en]
      refine k s3 h3 ?_
      rw [frR_x f3 (by decide), xg_cg (f2.1 15 (by decide)) (f2.2.1 15 (by decide)), xg_cg (s' := gs_V s 14 1 (nI n)) (s := s) (by funext j; rw [V_V, if_neg (by decide)]) rfl]
    · rw [bI_0, Classical.not_not] at u
      rw [if_neg (i_nlt.mpr w), if_pos u] at e0
      rw [e0, if_neg (by decide)] at k
      exact k
  · rw [if_pos (i_nle.mp w)] at e0
    rw [e0, if_neg (by decide)] at k
    exact k
theorem s96 (hd : 5 ≤ d) (h : XS s0 s D) (hN : okN (dF D) B (dg D)) (hB : B < 2 ^ 20) (k : ∀ s', XS s0 s' (uW (uG D (nightG (dg D))) 1 (r1 (who (dg D) (gn (dg D) 0)).toInt64)) → xg s' 15 = xg s 15 → Post (some (.int (nightG (dg D) 5))) s') : tE c d 96 [.ref 0] s Post := by
  obtain ⟨d, rfl⟩ := d_1 (show 1 ≤ d by omega)
  obtain ⟨⟨a0, b0⟩, ⟨a1, b1⟩, ⟨a2, b2⟩, ⟨a3, b3⟩, _⟩ := hN
  have x1 : xg s 14 = dg D := h.1.2.2.2.2.2.1
  refine okm96 c d Post s (s84 (by omega) h a0 (by omega) ⟨_, rfl, s58 (by omega) rfl b3 (by rw [x1]; exact a3) (fun s2 f2 x2 => ⟨rfl, ?_⟩)⟩)
  rw [x1] at x2
  have h2 : XS s0 s2 (uG D (nightG (dg D))) := XS_now h f2 x2
  refine s45' (by omega) h2 _ (fun s3 h3 f3 => ⟨rfl, ?_⟩)
  rw [XS_g h3 (by decide)]
  refine k s3 h3 ?_
  rw [frR_x f3 (by decide), xg_cg (f2.1 15 (by decide)) (f2.2.1 15 (by decide))]
theorem s97 (hd : 6 ≤ d) (h : XS s0 s D) (hN : okN (dF D) B (dg D)) (hB : B < 2 ^ 20) (k : if refF D (dg D) = 0 then (∀ s', XS s0 s' (uG (uW D 2 (r2 (sufG (dg D) (btV D (dg D)) 3).toInt64 (sufG (dg D) (btV D (dg D)) 4).toInt64)) (nightG (sufG (dg D) (btV D (dg D))))) → xg s' 15 = xg s 15 → Post (some (.int (501 + btV D (dg D)))) s') else Post (some (.int (refF D (dg D)))) s) : tE c d 97 [.ref 0] s Post := by
  obtain ⟨d, rfl⟩ := d_1 (show 1 ≤ d by omega)
  obtain ⟨⟨a0, b0⟩, ⟨a1, b1⟩, ⟨a2, b2⟩, ⟨a3, b3⟩, _⟩ := hN
  have hL := h.1.2.1
  have hF := hL.1.2
  have x1 : xg s 14 = dg D := h.1.2.2.2.2.2.1
  have gg : ∀ i, i < 6 → gsV s 14 i = dg D i := fun i hi => XS_g h hi
  refine okm97 c d Post s (s84 (by omega) h a0 (by omega) ⟨_, rfl, fun z => ?_, fun z => ?_⟩)
  · have e : refF D (dg D) = -2 := by unfold refF; rw [if_pos z]
    rw [e, if_neg (by decide)] at k
    exact k
  rw [gg 1 (by decide), gg 2 (by decide), a1, a2]
  refine s16 (by omega) (by omega) (by omega) ⟨_, rfl, fun y => ?_, fun y => ?_⟩
  · rw [bI_0] at y
    have e : refF D (dg D) = -3 := by unfold refF; rw [if_neg z, if_pos y]
    rw [e, if_neg (by decide)] at k
    exact k
  rw [bI_0, Classical.not_not] at y
  rw [gg 3 (by decide), gg 4 (by decide), gg 1 (by decide), gg 0 (by decide)]
  by_cases w : dg D 3 = 0 ∨ dg D 4 = 0
  · have e : refF D (dg D) = -4 := by unfold refF; rw [if_neg z, if_neg (fun u => u y), if_pos w]
    rw [e, if_neg (by decide)] at k
    refine ⟨fun _ => k, fun u1 => ⟨fun _ => k, fun u2 => ?_⟩⟩
    rcases w with w | w
    · exact absurd w u1
    · exact absurd w u2
  have e : refF D (dg D) = 0 := by unfold refF; rw [if_neg z, if_neg (fun u => u y), if_neg w]
  rw [e, if_pos rfl] at k
  have hw := whn_lt (dg D) (gn (dg D) 0)
  refine ⟨fun u => absurd (Or.inl u) w, fun _ => ⟨fun u => absurd (Or.inr u) w, fun _ => ?_⟩⟩
  rw [whn_e z, a1]
  refine s150 (by omega) hL h.1.2.2.1 h.1.2.2.2.1 rfl hw b1 (by rw [x1]; exact a2) b2 _ (fun s2 f2 => ⟨_, rfl, ?_⟩)
  have h2 := XS_frI h f2
  rw [x1]
  have x2 : xg s2 14 = dg D := h2.1.2.2.2.2.2.1
  refine s56 (by omega) rfl (btV_b D (dg D)) (fun s3 f3 x3 => ⟨rfl, ?_⟩)
  rw [x2] at x3
  have h3 : XS s0 s3 (uG D (sufG (dg D) (btV D (dg D)))) := XS_now h2 f3 x3
  have x3' : xg s3 14 = sufG (dg D) (btV D (dg D)) := x3
  have g3 : ∀ i, i < 6 → gsV s3 14 i = sufG (dg D) (btV D (dg D)) i := fun i hi => XS_g h3 hi
  rw [g3 3 (by decide), g3 4 (by decide)]
  refine s46' (by omega) h3 _ _ (fun s4 h4 f4 => ⟨rfl, ?_⟩)
  have x4 : xg s4 14 = sufG (dg D) (btV D (dg D)) := h4.1.2.2.2.2.2.1
  have hm : ∃ m, m ≤ 9999 ∧ sufG (dg D) (btV D (dg D)) 3 = nI m := by
    obtain ⟨n, hn, hc⟩ := btV_b D (dg D)
    show ∃ m, m ≤ 9999 ∧ mx0 (dg D 3 - if 0 < btV D (dg D) then btV D (dg D) / 3 else -btV D (dg D)) = nI m
    rw [a3]
    rcases hc with q | q
    · by_cases p : 0 < btV D (dg D)
      · rw [if_pos p, q, div3 (by omega), mx0_n b3 (by omega)]; exact ⟨_, by omega, rfl⟩
      · have : ¬ nI 0 < nI n := by rw [← q]; exact p
        rw [nI_lt' (by decide) (by omega)] at this
        rw [if_neg p, q, show n = 0 by omega, show -nI 0 = nI 0 from rfl, mx0_n b3 (by omega)]
        exact ⟨_, by omega, rfl⟩
    · have : ¬ 0 < btV D (dg D) := by
        rw [q]
        have h2 : 0 ≤ nI n := i_nlt.mp (nI_pos (by omega))
        grind
      rw [if_neg this, q, show - -nI n = nI n by grind, mx0_n b3 (by omega)]
      exact ⟨_, by omega, rfl⟩
  obtain ⟨m, hm1, hm2⟩ := hm
  refine s58 (by omega) rfl hm1 (by rw [x4]; exact hm2) (fun s5 f5 x5 => ⟨rfl, ?_⟩)
  rw [x4] at x5
  have h5 := XS_now h4 f5 x5
  refine k s5 h5 ?_
  rw [xg_cg (f5.1 15 (by decide)) (f5.2.1 15 (by decide)), frR_x f4 (by decide), xg_cg (f3.1 15 (by decide)) (f3.2.1 15 (by decide)), frI_x f2 (by decide)]
theorem s98 (hd : 2 ≤ d) (h : XS s0 s D) (x : Int32) (k : if fld D x then (∀ s', XS s0 s' (uG D (upd (dg D) 2 x)) → xg s' 15 = xg s 15 → Post (some (.int (dg D 2))) s') else Post (some (.int (-1))) s) : tE c d 98 [.ref 0, .int x] s Post := by
  obtain ⟨d, rfl⟩ := d_1 (show 1 ≤ d by omega)
  refine okm98 c d Post _ s (s14 (by omega) h.1.2.1 _ ⟨_, rfl, fun z => ?_, fun z => ?_⟩)
  · rw [bI_0] at z
    rw [if_neg z] at k
    exact k
  · rw [bI_0, Classical.not_not] at z
    rw [if_pos z] at k
    rintro s1 rfl
    rw [XS_g h (by decide)]
    refine k _ (XS_now h frV_s1 (by rw [xg_V _ _ _ _ (by decide), show xg s 14 = dg D from h.1.2.2.2.2.2.1])) ?_
    exact xg_Vn (by decide) _ _
theorem s99 (hd : 3 ≤ d) (h : XS s0 s D) (hN : okN (dF D) B (dg D)) (hB : B < 2 ^ 20) (x : Int32) (k : if dg D 0 ≤ x ∧ x ≤ 99 then (∀ s', XS s0 s' (uG D (upd (dg D) (8 + x.toNatClampNeg) (1 - dg D (8 + x.toNatClampNeg)))) → xg s' 15 = xg s 15 → Post (some (.int (lentG (upd (dg D) (8 + x.toNatClampNeg) (1 - dg D (8 + x.toNatClampNeg))) (gn (dg D) 0)))) s') else Post (some (.int (-1))) s) : tE c d 99 [.ref 0, .int x] s Post := by
  obtain ⟨d, rfl⟩ := d_1 (show 1 ≤ d by omega)
  obtain ⟨⟨a0, b0⟩, _⟩ := hN
  have x1 : xg s 14 = dg D := h.1.2.2.2.2.2.1
  refine okm99 c d Post _ s ?_
  unfold wm99 w99_17
  rw [XS_g h (by decide)]
  by_cases q : dg D 0 ≤ x ∧ x ≤ 99
  · rw [if_pos q] at k
    have hx : 0 ≤ x := by
      have := q.1
      rw [a0] at this
      have h0 : 0 ≤ nI (gn (dg D) 0) := i_nlt.mp (nI_pos (by omega))
      grind
    obtain ⟨n, hn, rfl⟩ := i_nat hx
    have hn99 : n ≤ 99 := (nI_le' (b := 99) hn (by decide)).mp q.2
    rw [nI_clamp hn] at k
    refine ⟨fun z => absurd q.1 (by grind), fun _ => ⟨fun _ => s53 (by omega) rfl (by omega) (fun s2 f2 x2 => ⟨rfl, ?_⟩), fun z => absurd q.2 z⟩⟩
    rw [x1] at x2
    have h2 : XS s0 s2 (uG D (upd (dg D) (8 + n) (1 - dg D (8 + n)))) := XS_now h f2 x2
    have e0 : gsV s2 14 0 = nI (gn (dg D) 0) := by
      rw [XS_g h2 (by decide)]
      show upd (dg D) (8 + n) _ 0 = _
      rw [upd_ne (by omega), ← a0]
    rw [e0]
    refine s54 (by omega) rfl (by omega) ⟨_, rfl, ?_⟩
    rw [x2]
    refine k s2 h2 ?_
    exact xg_cg (f2.1 15 (by decide)) (f2.2.1 15 (by decide))
  · rw [if_neg q] at k
    exact ⟨fun _ => k, fun z => ⟨fun y => absurd ⟨i_nlt.mp z, y⟩ q, fun _ => k⟩⟩
end T4
