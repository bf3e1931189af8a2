/-! Calls: lasts, feeds, comes, offers. -/
theorem le_f {a b : Nat} (ha : a < 2 ^ 31) (hb : b < 2 ^ 31) (h : b < a) : ¬ nI a ≤ nI b := fun z => by
  have := (nI_le' ha hb).mp z
  omega
theorem le_t {a b : Nat} (ha : a < 2 ^ 31) (hb : b < 2 ^ 31) (h : a ≤ b) : nI a ≤ nI b := (nI_le' ha hb).mpr h
/-- a number between two -/
theorem i_rng {x : Int32} {a b : Nat} (hb : b < 2 ^ 31) (h : nI a ≤ x ∧ x ≤ nI b) (ha : a < 2 ^ 31) : ∃ n, a ≤ n ∧ n ≤ b ∧ x = nI n := by
  have h0 : 0 ≤ nI a := nI_pos' ha
  obtain ⟨n, hn, e⟩ := i_nat (x := x) (by have := h.1; grind)
  rw [e, nI_le' ha hn, nI_le' hn hb] at h
  exact ⟨n, h.1, h.2, e⟩
section C6
variable {c : gx} {d B : Nat} {Post : Option Value → gs → Prop} {s0 s : gs} {D : DD}
theorem s51n (hd : 2 ≤ d) (h : XS s0 s D) {n i : Nat} (hn : dg D 0 = nI n) (hl : n + i < 2 ^ 20) (k : Post (some (.int (who (dg D) (n + i)))) s) : tE c d 51 [.ref 14, .int (gsV s 14 0 + nI i)] s Post := by
  rw [XS_g h (by decide), hn, nI_add]
  refine s51 hd rfl hl ?_
  rw [XS_G h]
  exact k
theorem s184n (hd : 2 ≤ d) (h : MS s0 s D) {n i : Nat} (hn : dg D 0 = nI n) (hl : n + i < 2 ^ 20) (k : Post (some (.int (who (dg D) (n + i)))) s) : tE c d 184 [.ref 49, .int (gsA s 49 (0 : Int32).toNatClampNeg + nI i)] s Post := by
  have e : gsA s 49 (0 : Int32).toNatClampNeg = nI n := by rw [MS_G h]; exact hn
  rw [e, nI_add]
  exact s184' hd (MS_G h) hl k
def lastN (F T : Nat) : Int32 := if F / T + 1 ≤ 99 then nI (F / T + 1) else -2
theorem cl_lasts (h : HY d s B D) : CL c d 107 219 [] s B := by
  have hd := h.1
  obtain ⟨_, _, _, ⟨a3, b3⟩, _, ⟨a5, b5⟩, _⟩ := HY_n h
  have eT := tk_n a3 b3
  have hT : 1 ≤ gn (dg D) 3 / 100 + 1 ∧ gn (dg D) 3 / 100 + 1 ≤ 100 := by omega
  generalize gn (dg D) 3 / 100 + 1 = T at eT hT
  generalize gn (dg D) 5 = F at a5 b5
  have hq : F / T ≤ 9999 := Nat.le_trans (Nat.div_le_self _ _) b5
  refine glu0 h (x := lastN F T) (fun Post k => ?_) (fun s1 Post hm k => ?_)
  · obtain ⟨d, rfl⟩ := d_1 (show 1 ≤ d by omega)
    have hS := XS_rf h.2.1
    have k' := k s hS
    refine okm107 c d Post s (s57 (by omega) rfl b3 (by rw [XS_G hS]; exact a3) ⟨_, rfl, ?_⟩)
    rw [XS_G hS, eT, XS_g hS (by decide), a5, pk_div (by omega) (by omega) (by omega), nI_1]
    unfold lastN at k'
    refine ⟨fun z => ?_, fun z => ?_, fun z => ?_⟩
    · exact absurd ((nI_eq' (b := 0) (by omega) (by decide)).mp z) (by omega)
    · rw [if_pos ((nI_le' (b := 99) (by omega) (by decide)).mp z)] at k'
      exact k'
    · rw [if_neg (fun y => z ((nI_le' (b := 99) (by omega) (by decide)).mpr y))] at k'
      exact k'
  · obtain ⟨d, rfl⟩ := d_1 (show 1 ≤ d by omega)
    refine okm219 c d Post s1 ?_
    rintro s2 rfl
    have hm1 := MS_thr hm 0
    have eG := MS_G hm1
    have k' := k _ hm1
    unfold lastN at k'
    have loop : ∀ (m k : Nat), k + m = 99 → k * T ≤ F → wl219_14 c d Post (m + 1) (nI (F - k * T)) (nI (k + 1)) (gs_V s1 48 13 0) := by
      intro m
      induction m with
      | zero =>
        intro k hk hl
        refine ⟨fun _ => ?_, fun z => absurd (le_t (a := 100) (by decide) (by omega) (by omega)) z⟩
        rw [show k = 99 by omega, ← Nat.le_div_iff_mul_le (by omega)] at hl
        rw [if_neg (by omega)] at k'
        exact k'
      | succ m ih =>
        intro k hk hl
        refine ⟨fun z => absurd z (le_f (a := 100) (by decide) (by omega) (by omega)), fun _ => s196 (by omega) rfl ⟨_, rfl, ?_⟩⟩
        rw [eG, eT]
        refine ⟨fun z => s196 (by omega) rfl ⟨_, rfl, ?_⟩, fun z => ?_⟩
        · rw [nI_le' (by omega) (by omega)] at z
          rw [eG, eT, nI_sub z, nI_1]
          have e : F - k * T - T = F - (k + 1) * T := by rw [Nat.add_mul]; omega
          rw [e]
          exact ih (k + 1) (by omega) (by rw [Nat.add_mul]; omega)
        · rw [nI_le' (by omega) (by omega)] at z
          have e : F / T = k := Nat.div_eq_of_lt_le hl (by rw [Nat.add_mul]; omega)
          rw [e, if_pos (by omega)] at k'
          exact k'
    have l0 := loop 99 0 rfl (by rw [Nat.zero_mul]; exact Nat.zero_le _)
    rw [Nat.zero_mul, Nat.sub_zero] at l0
    rw [eG, show dg D (5 : Int32).toNatClampNeg = nI F from a5]
    exact ⟨vpd rfl, 100, l0⟩
/-- so many nights -/
def nitG : Nat → (Nat → Int32) → Nat → Int32
  | 0, g => g
  | n + 1, g => nitG n (nightG g)
theorem lay65 (hd : 1 ≤ d) (h : MS s0 s D) (hz : ∀ i, 108 ≤ i → dg D i = 0) (k : ∀ s', MS s0 s' D → gsA s' 65 = dg D → Post none s') : tE c d 194 [.ref 49, .ref 65, .int 0] s Post := by
  refine s194 (k := 0) (N := 108) hd rfl rfl (by decide) (by decide) (by decide) (fun s' f e => ?_)
  have e' : gsA s' 65 = dg D := by
    funext i
    rw [e, MS_G h]
    by_cases q : 0 ≤ i ∧ i < 0 + 108
    · rw [if_pos q]; rfl
    · rw [if_neg q, hz i (by omega)]
      exact h.1.2.2.2.2.2.2.2.2.2.2 i (by omega)
  exact k s' (MS_then h f (fun i hi => by rw [e']; exact hz i hi)) e'
theorem s197t (hd : 2 ≤ d) (h : MS s0 s D) {g : Nat → Int32} (hg : gsA s 65 = g) (hz : ∀ i, 108 ≤ i → nightG g i = 0) (k : ∀ s', MS s0 s' D → gsA s' 65 = nightG g → Post none s') : tE c d 197 [.ref 65] s Post := by
  refine s197 hd rfl (fun s' f e => ?_)
  rw [hg] at e
  exact k s' (MS_then h f (fun i hi => by rw [e]; exact hz i hi)) e
theorem cl_feeds (h : HY d s B D) (x : Int32) : CL c d 108 220 [.int x] s B := by
  have hd := h.1
  have hB := h.2.2.2.2
  have hv := h.2.2.2.1
  have hF := hv.1.2
  by_cases q : 0 ≤ x ∧ x ≤ 99
  · obtain ⟨N, _, hN, rfl⟩ := i_rng (a := 0) (b := 99) (by decide) q (by decide)
    refine glu1 h (D' := uW D 1 (r1 (nitG N (dg D) 5).toInt64)) (x := nitG N (dg D) 3) (VD_W (VD_mono hv (Nat.le_add_right B 60)) _ _) (fun Post k => ?_) (fun s1 Post hm k => ?_)
    · obtain ⟨d, rfl⟩ := d_1 (show 1 ≤ d by omega)
      have loop : ∀ (m i : Nat) (g : Nat → Int32) (s' : gs), i + m = N → XS s s' D → xg s' 16 = g → okG (dF D) (B + i) g → nitG m g = nitG N (dg D) → wl108_25 c d Post (m + 1) (nI N) (nI i) s' := by
        intro m
        induction m with
        | zero =>
          intro i g s' hi hS hg ho hr
          refine ⟨fun _ => s45' (by omega) hS _ (fun s2 h2 f2 => ⟨rfl, ?_⟩), fun z => absurd (le_t (by omega) (by omega) (by omega)) z⟩
          have hr' : g = nitG N (dg D) := hr
          rw [f2.1 16 (by decide), xg_0 s' 16 3 (by decide), hg, hr']
          refine k s2 ?_
          rw [xg_0 s' 16 5 (by decide), hg, hr'] at h2
          exact h2
        | succ m ih =>
          intro i g s' hi hS hg ho hr
          have hN' := okG_N ho hF (by omega)
          refine ⟨fun z => absurd z (le_f (by omega) (by omega) (by omega)), fun _ => s58 (by omega) rfl hN'.2.2.2.1.2 (by rw [hg]; exact hN'.2.2.2.1.1) (fun s2 f2 e2 => ⟨rfl, ?_⟩)⟩
          rw [nI_1]
          rw [hg] at e2
          exact ih (i + 1) _ s2 (by omega) (XS_scr hS f2 (Or.inr rfl)) e2 (okG_night (B := B + i) ho hF (by omega)) hr
      refine okm108 c d Post _ s ⟨fun z => absurd z (i_nlt.mpr q.1), fun _ => ⟨fun _ => s48 (by omega) rfl rfl (by decide) (fun s2 f2 e2 => ⟨rfl, N + 1, ?_⟩), fun z => absurd q.2 z⟩⟩
      exact loop N 0 _ s2 (by omega) (XS_scr (XS_rf h.2.1) f2 (Or.inr rfl)) (e2.trans (XS_G (XS_rf h.2.1))) hv.2.1 rfl
    · obtain ⟨d, rfl⟩ := d_1 (show 1 ≤ d by omega)
      refine okm220 c d Post _ s1 ?_
      rintro s2 rfl
      have hm1 := MS_thr hm 0
      have loop : ∀ (m i : Nat) (g : Nat → Int32) (s' : gs), i + m = N → MS s1 s' D → gsA s' 65 = g → okG (dF D) (B + i) g → nitG m g = nitG N (dg D) → wl220_31 c d Post (m + 1) (nI N) (nI i) s' := by
        intro m
        induction m with
        | zero =>
          intro i g s' hi hS hg ho hr
          refine ⟨fun _ => ?_, fun z => absurd (le_t (by omega) (by omega) (by omega)) z⟩
          rintro s2 rfl
          have hr' : g = nitG N (dg D) := hr
          have e2 : gsA (gs_V s' 48 12 0) 65 = nitG N (dg D) := by rw [A_V, hg, hr']
          rw [e2]
          refine ⟨vpd rfl, s157r (by omega) (MS_row0 hS (r1 (nitG N (dg D) 5).toInt64)) (by decide) rfl (fun s3 h3 e3 => ⟨rfl, vpd rfl, ?_⟩)⟩
          rw [e3, e2]
          exact k s3 h3
        | succ m ih =>
          intro i g s' hi hS hg ho hr
          have ho' := okG_night (B := B + i) ho hF (by omega)
          refine ⟨fun z => absurd z (le_f (by omega) (by omega) (by omega)), fun _ => s197t (by omega) hS hg ho'.2.2.2.2.2.2 (fun s2 h2 e2 => ⟨rfl, ?_⟩)⟩
          rw [nI_1]
          exact ih (i + 1) _ s2 (by omega) h2 e2 ho' hr
      refine s154 (by omega) _ _ _ ⟨_, rfl, fun z => ?_, fun _ => lay65 (by omega) hm1 hv.2.1.2.2.2.2.2.2 (fun s3 h3 e3 => ⟨rfl, N + 1, ?_⟩)⟩
      · rw [bI_0] at z; exact absurd q z
      · exact loop N 0 _ s3 (by omega) h3 e3 hv.2.1 rfl
  · refine glu0 h (x := -1) (fun Post k => ?_) (fun s1 Post hm k => ?_)
    · obtain ⟨d, rfl⟩ := d_1 (show 1 ≤ d by omega)
      have k' := k s (XS_rf h.2.1)
      exact okm108 c d Post _ s ⟨fun z => k', fun z1 => ⟨fun z2 => absurd ⟨i_nlt.mp z1, z2⟩ q, fun z => k'⟩⟩
    · obtain ⟨d, rfl⟩ := d_1 (show 1 ≤ d by omega)
      refine okm220 c d Post _ s1 ?_
      rintro s2 rfl
      refine s154 (by omega) _ _ _ ⟨_, rfl, fun z => k _ (MS_thr hm 0), fun z => ?_⟩
      rw [bI_0, Classical.not_not] at z
      exact absurd z q
/-- one day more: is it his, is it nobody's -/
def cmF (g : Nat → Int32) (n : Nat) (w : Int32) (i : Nat) (a : Int32 × Int32) : Int32 × Int32 := if who g (n + i) = w then (a.1 ||| sh1 i, a.2) else if who g (n + i) = -1 then (a.1, a.2 + 1) else a
theorem cl_comes (h : HY d s B D) (x y : Int32) : CL c d 103 215 [.int x, .int y] s B := by
  have hd := h.1
  have hB := h.2.2.2.2
  have hv := h.2.2.2.1
  obtain ⟨⟨a0, b0⟩, _⟩ := HY_n h
  by_cases q : (x = 0 ∨ x = 1) ∧ (1 ≤ y ∧ y ≤ 30)
  · obtain ⟨q1, q2⟩ := q
    obtain ⟨N, hN1, hN, rfl⟩ := i_rng (a := 1) (b := 30) (by decide) q2 (by decide)
    have hx : ¬ -1 = x := by rcases q1 with z | z <;> rw [z] <;> decide
    refine glu1 h (D' := uW D 2 (r2 (jbc (fl (cmF (dg D) (gn (dg D) 0) x) 0 N (0, 0)).1).toInt64 (fl (cmF (dg D) (gn (dg D) 0) x) 0 N (0, 0)).2.toInt64)) (x := (fl (cmF (dg D) (gn (dg D) 0) x) 0 N (0, 0)).1) (VD_W (VD_mono hv (Nat.le_add_right B 60)) _ _) (fun Post k => ?_) (fun s1 Post hm k => ?_)
    · obtain ⟨d, rfl⟩ := d_1 (show 1 ≤ d by omega)
      have hS := XS_rf h.2.1
      generalize hR : fl (cmF (dg D) (gn (dg D) 0) x) 0 N (0, 0) = R at k
      have loop : ∀ (m i : Nat) (a : Int32 × Int32), i + m = N → fl (cmF (dg D) (gn (dg D) 0) x) i m a = R → wl103_28 c d Post (m + 1) x (nI N) a.1 a.2 (nI i) s := by
        intro m
        induction m with
        | zero =>
          intro i a hi hr
          have hr' : a = R := hr
          subst hr'
          exact ⟨fun _ => s266 (by omega) _ ⟨_, rfl, s46' (by omega) hS _ _ (fun s2 h2 f2 => ⟨rfl, k s2 h2⟩)⟩, fun z => absurd (le_t (by omega) (by omega) (by omega)) z⟩
        | succ m ih =>
          intro i a hi hr
          have hr' : fl (cmF (dg D) (gn (dg D) 0) x) (i + 1) m (cmF (dg D) (gn (dg D) 0) x i a) = R := hr
          unfold cmF at hr'
          refine ⟨fun z => absurd z (le_f (by omega) (by omega) (by omega)), fun _ => s51n (by omega) hS a0 (by omega) ⟨_, rfl, fun z => ?_, fun z => ⟨fun w => ?_, fun w => ?_⟩⟩⟩
          · rw [if_pos z] at hr'
            unfold w103_78
            rw [nI_1]
            exact ih (i + 1) (_, _) (by omega) hr'
          · rw [if_neg z, if_pos w] at hr'
            unfold w103_78
            rw [nI_1]
            exact ih (i + 1) (_, _) (by omega) hr'
          · rw [if_neg z, if_neg w] at hr'
            unfold w103_78
            rw [nI_1]
            exact ih (i + 1) a (by omega) hr'
      refine okm103 c d Post _ _ s (s147 (by omega) _ ⟨_, rfl, fun z => ?_, fun _ => ⟨fun z => absurd z (i_nlt.mpr q2.1), fun _ => ⟨fun _ => ⟨N + 1, loop N 0 (0, 0) (by omega) hR⟩, fun z => absurd q2.2 z⟩⟩⟩)
      rw [bI_0] at z; exact absurd q1 z
    · obtain ⟨d, rfl⟩ := d_1 (show 1 ≤ d by omega)
      refine okm215 c d Post _ _ s1 ?_
      rintro s2 rfl
      have hm1 := MS_thr hm 0
      revert hm1
      generalize gs_V s1 48 13 0 = s2
      intro hm1
      generalize hR : fl (cmF (dg D) (gn (dg D) 0) x) 0 N (0, 0) = R at k
      have loop : ∀ (m i : Nat) (a : Int32 × Int32), i + m = N → fl (cmF (dg D) (gn (dg D) 0) x) i m a = R → wl215_32 c d Post (m + 1) x (nI N) a.1 a.2 (nI i) s2 := by
        intro m
        induction m with
        | zero =>
          intro i a hi hr
          have hr' : a = R := hr
          subst hr'
          refine ⟨fun _ => ?_, fun z => absurd (le_t (by omega) (by omega) (by omega)) z⟩
          rintro s3 rfl
          exact s266 (by omega) _ ⟨_, rfl, s157r (by omega) (MS_row0 hm1 (r2 (jbc a.1).toInt64 a.2.toInt64)) (by decide) rfl (fun s4 h4 e4 => ⟨rfl, s157r (by omega) h4 (by decide) rfl (fun s5 h5 e5 => ⟨rfl, k s5 h5⟩)⟩)⟩
        | succ m ih =>
          intro i a hi hr
          have hr' : fl (cmF (dg D) (gn (dg D) 0) x) (i + 1) m (cmF (dg D) (gn (dg D) 0) x i a) = R := hr
          unfold cmF at hr'
          refine ⟨fun z => absurd z (le_f (by omega) (by omega) (by omega)), fun _ => ⟨vpd rfl, s184n (by omega) hm1 a0 (by omega) ⟨_, rfl, fun z => ⟨fun w => absurd (w.symm.trans z) hx, fun w => ?_⟩, fun z => ⟨fun w => ?_, fun w => ?_⟩⟩⟩⟩
          · rw [if_pos z] at hr'
            unfold w215_86
            rw [nI_1, Int32.add_zero]
            exact ih (i + 1) (_, _) (by omega) hr'
          · rw [if_neg z, if_pos w] at hr'
            unfold w215_86
            rw [nI_1, Int32.or_zero]
            exact ih (i + 1) (_, _) (by omega) hr'
          · rw [if_neg z, if_neg w] at hr'
            unfold w215_86
            rw [nI_1, Int32.or_zero, Int32.add_zero]
            exact ih (i + 1) a (by omega) hr'
      refine s159 (by omega) _ ⟨_, rfl, fun z => ?_, fun _ => s154 (by omega) _ _ _ ⟨_, rfl, fun z => ?_, fun _ => ⟨N + 1, loop N 0 (0, 0) (by omega) hR⟩⟩⟩
      · rw [bI_0] at z; exact absurd q1 z
      · rw [bI_0] at z; exact absurd q2 z
  · refine glu0 h (x := -1) (fun Post k => ?_) (fun s1 Post hm k => ?_)
    · obtain ⟨d, rfl⟩ := d_1 (show 1 ≤ d by omega)
      have k' := k s (XS_rf h.2.1)
      refine okm103 c d Post _ _ s (s147 (by omega) _ ⟨_, rfl, fun z => k', fun z1 => ⟨fun z => k', fun z2 => ⟨fun z3 => ?_, fun z => k'⟩⟩⟩)
      rw [bI_0, Classical.not_not] at z1
      exact absurd ⟨z1, i_nlt.mp z2, z3⟩ q
    · obtain ⟨d, rfl⟩ := d_1 (show 1 ≤ d by omega)
      refine okm215 c d Post _ _ s1 ?_
      rintro s2 rfl
      have k' := k _ (MS_thr hm 0)
      refine s159 (by omega) _ ⟨_, rfl, fun z => k', fun z1 => s154 (by omega) _ _ _ ⟨_, rfl, fun z => k', fun z2 => ?_⟩⟩
      rw [bI_0, Classical.not_not] at z1 z2
      exact absurd ⟨z1, z2⟩ q
end C6
