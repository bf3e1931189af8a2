/-! Calls: sign, wishes. -/
def by4 (v : Int32) (s : Nat) : Nat := v.toBitVec.toNat / 2 ^ s % 2 ^ 8
theorem by4_lt (v : Int32) (s : Nat) : by4 v s < 256 := Nat.mod_lt _ (by decide)
theorem by4_x (v k : Int32) (s : Nat) (hs : ((k.toUInt32 &&& Int32.toUInt32 31).toBitVec % 32).toNat = s) : ((((v.toUInt32 >>> (k.toUInt32 &&& Int32.toUInt32 31)).toInt32 &&& 255).toUInt32) % 65536).toInt32 = nI (by4 v s) := by
  rw [pk_and _ 8 (by decide), pk_ushr v k s hs, pk_char]
  have := by4_lt v s
  unfold by4 at this ⊢
  rw [pk_tn (by omega), Nat.mod_eq_of_lt (by omega)]
theorem sby_8 : ∀ n, n < 256 → (nI n).toInt8.toInt32 = sby n := by decide +kernel
theorem by4_m (v k : Int32) (s : Nat) (hs : (k.toBitVec.smod 32).toNat = s) (h24 : s ≤ 24) : vp_nar .byte ((v >>> k).toInt8.toInt32) = sby (by4 v s) := by
  rw [pk_vb, ← sby_8 _ (by4_lt v s)]
  congr 1
  apply Int8.toBitVec_inj.mp
  show ((v >>> k).toBitVec.signExtend 8) = (nI (by4 v s)).toBitVec.signExtend 8
  apply BitVec.eq_of_getLsbD_eq
  intro i hi
  rw [BitVec.getLsbD_signExtend, BitVec.getLsbD_signExtend, if_pos (by omega), if_pos (by omega)]
  congr 1
  show (v.toBitVec.sshiftRight' (k.toBitVec.smod 32)).getLsbD i = (BitVec.ofNat 32 (by4 v s)).getLsbD i
  rw [BitVec.sshiftRight_eq', hs, BitVec.getLsbD_sshiftRight, BitVec.getLsbD_ofNat]
  unfold by4
  rw [Nat.testBit_mod_two_pow, Nat.testBit_div_two_pow]
  have h1 : ¬ 32 ≤ i := by omega
  have h2 : s + i < 32 := by omega
  have h3 : i < 32 := by omega
  simp only [h1, h2, h3, hi, decide_true, decide_false, Bool.not_false, Bool.true_and, if_true]
  rw [Nat.add_comm]
  rfl
/-- four signs behind the text -/
def t4 (D : DD) (v : Int32) (i : Nat) : Nat := if i < dT D then dt D i else by4 v (24 - 8 * (i - dT D))
theorem XS_tt {s0 s : gs} {D : DD} {n : Nat} {t t' : Nat → Nat} (h : XS s0 s (uT D n t)) (e : ∀ i, i < n → t i = t' i) : XS s0 s (uT D n t') := by
  obtain ⟨⟨h1, h2, h3, h4, h5, h6, h7, h8, h9, h10⟩, hf⟩ := h
  refine ⟨⟨⟨h1.1, h1.2.1, fun i hi => ?_⟩, h2, h3, h4, h5, h6, h7, h8, h9, h10⟩, hf⟩
  have := h1.2.2 i hi
  show t' i < 256 ∧ gsA s 2 i = nI (t' i)
  rw [← e i hi]
  exact this
theorem MS_tt {s0 s : gs} {D : DD} {n : Nat} {t t' : Nat → Nat} (h : MS s0 s (uT D n t)) (e : ∀ i, i < n → t i = t' i) : MS s0 s (uT D n t') := by
  obtain ⟨⟨h1, h2, h3, h4, h5, h6, h7, h8, h9, h10⟩, hf⟩ := h
  refine ⟨⟨⟨h1.1, h1.2.1, fun i hi => ?_⟩, h2, h3, h4, h5, h6, h7, h8, h9, h10⟩, hf⟩
  have := h1.2.2 i hi
  show t' i < 256 ∧ gsA s 57 i = sby (t' i)
  rw [← e i hi]
  exact this
theorem nar_c : ∀ n, n < 256 → vp_nar .char (nI n) = nI n := by decide +kernel
section C13
variable {c : gx} {d B : Nat} {Post : Option Value → gs → Prop} {s0 s : gs} {D : DD}
theorem s63 (hd : 1 ≤ d) {n : Nat} {t : Nat → Nat} (h : XS s0 s (uT D n t)) (hn : n < 80) {x : Int32} (ht : t n < 256) (hx : x = nI (t n)) (k : ∀ s', XS s0 s' (uT D (n + 1) t) → Post none s') : tE c d 63 [.ref 1, .int x] s Post := by
  obtain ⟨d, rfl⟩ := d_1 hd
  subst hx
  have hl : gsV s 1 1 = nI n := h.1.1.2.1
  refine okm63 c d Post _ s ?_
  unfold wm63 w63_39
  rw [hl, nI_clamp (by omega), nar_c _ ht]
  refine ⟨fun z => absurd z (nI_pos (by omega)), fun _ => ⟨fun z => absurd z (le_f (a := 80) (by decide) (by omega) hn), fun _ => ⟨vp_in_nI hn (by decide), ?_⟩⟩⟩
  rintro s1 rfl s2 rfl
  rw [V_A, hl, nI_1]
  refine k _ ?_
  obtain ⟨⟨h1, h2, h3, h4, h5, h6, h7, h8, h9, h10⟩, hf⟩ := h
  refine ⟨⟨⟨by show n + 1 ≤ 80; omega, rfl, fun i hi => ?_⟩, h2, h3, h4, XN_V (XN_A h5 (by decide) _ _) (by decide) _ _, h6, XU_V h7 (by decide) _ _, XK_V h8 (by decide) _ _, h9, h10⟩, frX_V (frX_A hf (by decide) _ _) (by decide) _ _⟩
  show t i < 256 ∧ gsA (gs_A s 2 n (nI (t n))) 2 i = nI (t i)
  rw [gsA_A]
  by_cases e : i = n
  · rw [e, upd_eq]; exact ⟨ht, rfl⟩
  · rw [upd_ne e]
    have hi' : i < n + 1 := hi
    exact h1.2.2 i (show i < n by omega)
theorem MS_ta {n : Nat} {t : Nat → Nat} (h : MS s0 s (uT D n t)) (hn : n < 80) {x : Int32} (ht : t n < 256) (hx : x = sby (t n)) : MS s0 (gs_A (gs_V s 48 10 (nI (n + 1))) 57 n x) (uT D (n + 1) t) := by
  obtain ⟨⟨h1, h2, h3, h4, h5, h6, h7, h8, h9, h10⟩, hf⟩ := h
  refine ⟨⟨⟨by show n + 1 ≤ 80; omega, rfl, fun i hi => ?_⟩, h2, h3, h4, h5, h6, h7, h8, h9, h10⟩, frM_A (frM_V hf (by decide) _ _) (by decide) _ _⟩
  show t i < 256 ∧ gsA (gs_A (gs_V s 48 10 (nI (n + 1))) 57 n x) 57 i = sby (t i)
  rw [gsA_A]
  by_cases e : i = n
  · rw [e, upd_eq]; exact ⟨ht, hx⟩
  · rw [upd_ne e]
    have hi' : i < n + 1 := hi
    exact h1.2.2 i (show i < n by omega)
theorem t4_at (v : Int32) {j : Nat} : t4 D v (dT D + j) = by4 v (24 - 8 * j) := by
  unfold t4
  rw [if_neg (by omega), show dT D + j - dT D = j by omega]
theorem cl_sign (h : HY d s B D) (v : Int32) : CL c d 75 160 [.int v] s B := by
  have hd := h.1
  have hv := h.2.2.2.1
  have hT := h.2.1.1
  have e4 : nI (dT D) + 4 = nI (dT D + 4) := nI_add (dT D) 4
  have le80 : nI (dT D + 4) ≤ 80 ↔ dT D + 4 ≤ 80 := nI_le' (b := 80) (by have := hT.1; omega) (by decide)
  have lt4 : ∀ j, t4 D v (dT D + j) < 256 := fun j => by rw [t4_at]; exact by4_lt _ _
  by_cases q : dT D + 4 ≤ 80
  · refine glu1 h (D' := uT D (dT D + 4) (t4 D v)) (x := nI (dT D + 4)) (VD_mono hv (Nat.le_add_right B 60)) (fun Post k => ?_) (fun s1 Post hm k => ?_)
    · obtain ⟨d, rfl⟩ := d_1 (show 1 ≤ d by omega)
      obtain ⟨d, rfl⟩ := d_1 (show 1 ≤ d by omega)
      have h0 : XS s s (uT D (dT D) (t4 D v)) := XS_tt (t := dt D) (XS_rf h.2.1) (fun i hi => by unfold t4; rw [if_pos hi])
      refine okm75 c (d + 1) Post _ s (okm62 c d _ _ s ?_)
      unfold wm62
      rw [hT.2.1, e4, le80]
      refine ⟨fun _ => ⟨5, fun z => absurd z (by decide), fun _ => ?_⟩, fun z => absurd q z⟩
      refine s63 (by omega) h0 (by omega) (lt4 0) ((by4_x v 24 24 (by decide)).trans (by rw [show t4 D v (dT D) = by4 v 24 from t4_at v (j := 0)])) (fun s2 h2 => ⟨rfl, fun z => absurd z (by decide), fun _ => ?_⟩)
      refine s63 (by omega) h2 (by omega) (lt4 1) ((by4_x v (24 + -8) 16 (by decide)).trans (by rw [t4_at (j := 1)])) (fun s3 h3 => ⟨rfl, fun z => absurd z (by decide), fun _ => ?_⟩)
      refine s63 (by omega) h3 (by omega) (lt4 2) ((by4_x v (24 + -8 + -8) 8 (by decide)).trans (by rw [t4_at (j := 2)])) (fun s4 h4 => ⟨rfl, fun z => absurd z (by decide), fun _ => ?_⟩)
      refine s63 (by omega) h4 (by omega) (lt4 3) ((by4_x v (24 + -8 + -8 + -8) 0 (by decide)).trans (by rw [t4_at (j := 3)])) (fun s5 h5 => ⟨rfl, fun _ => ⟨_, rfl, fun z => absurd z (by decide), fun _ => ?_⟩, fun z => absurd (by decide) z⟩)
      unfold w75_22
      rw [show gsV s5 1 1 = nI (dT D + 4) from h5.1.1.2.1]
      exact k s5 h5
    · obtain ⟨d, rfl⟩ := d_1 (show 1 ≤ d by omega)
      refine okm160 c d Post _ s1 ?_
      rintro s2 rfl
      have hm1 := MS_thr hm 0
      revert hm1
      generalize gs_V s1 48 13 0 = s2
      intro hm1
      have h0 : MS s1 s2 (uT D (dT D) (t4 D v)) := MS_tt (t := dt D) hm1 (fun i hi => by unfold t4; rw [if_pos hi])
      have ln : ∀ {n : Nat} {s' : gs}, MS s1 s' (uT D n (t4 D v)) → gsV s' 48 10 = nI n := fun h => h.1.1.2.1
      rw [ln h0, e4, le80]
      refine ⟨fun _ => ⟨5, fun z => absurd z (by decide), fun _ => ?_⟩, fun z => absurd q z⟩
      rw [ln h0, nI_1, nI_clamp (by omega)]
      rintro s3 rfl
      refine ⟨vp_in_nI (by omega) (by decide), ?_⟩
      rintro s4 rfl
      have h1 := MS_ta h0 (by omega) (lt4 0) ((by4_m v ((8 * 3) &&& 31) 24 (by decide) (by decide)).trans (by rw [show t4 D v (dT D) = by4 v 24 from t4_at v (j := 0)]))
      revert h1
      generalize gs_A _ 57 _ _ = s4
      intro h1
      refine ⟨fun z => absurd z (by decide), fun _ => ?_⟩
      rw [ln h1, nI_1, nI_clamp (by omega)]
      rintro s5 rfl
      refine ⟨vp_in_nI (by omega) (by decide), ?_⟩
      rintro s6 rfl
      have h2 := MS_ta h1 (by omega) (lt4 1) ((by4_m v ((8 * (3 + -1)) &&& 31) 16 (by decide) (by decide)).trans (by rw [t4_at (j := 1)]))
      revert h2
      generalize gs_A _ 57 _ _ = s6
      intro h2
      refine ⟨fun z => absurd z (by decide), fun _ => ?_⟩
      rw [ln h2, nI_1, nI_clamp (by omega)]
      rintro s7 rfl
      refine ⟨vp_in_nI (by omega) (by decide), ?_⟩
      rintro s8 rfl
      have h3 := MS_ta h2 (by omega) (lt4 2) ((by4_m v ((8 * (3 + -1 + -1)) &&& 31) 8 (by decide) (by decide)).trans (by rw [t4_at (j := 2)]))
      revert h3
      generalize gs_A _ 57 _ _ = s8
      intro h3
      refine ⟨fun z => absurd z (by decide), fun _ => ?_⟩
      rw [ln h3, nI_1, nI_clamp (by omega)]
      rintro s9 rfl
      refine ⟨vp_in_nI (by omega) (by decide), ?_⟩
      rintro s10 rfl
      have h4 := MS_ta h3 (by omega) (lt4 3) ((by4_m v ((8 * (3 + -1 + -1 + -1)) &&& 31) 0 (by decide) (by decide)).trans (by rw [t4_at (j := 3)]))
      revert h4
      generalize gs_A _ 57 _ _ = s10
      intro h4
      refine ⟨fun _ => ?_, fun z => absurd (by decide) z⟩
      rw [ln h4]
      exact k _ h4
  · refine glu0 h (x := -1) (fun Post k => ?_) (fun s1 Post hm k => ?_)
    · obtain ⟨d, rfl⟩ := d_1 (show 1 ≤ d by omega)
      obtain ⟨d, rfl⟩ := d_1 (show 1 ≤ d by omega)
      refine okm75 c (d + 1) Post _ s (okm62 c d _ _ s ?_)
      unfold wm62
      rw [hT.2.1, e4, le80]
      exact ⟨fun z => absurd z q, fun _ => ⟨_, rfl, fun _ => k s (XS_rf h.2.1), fun z => absurd rfl z⟩⟩
    · obtain ⟨d, rfl⟩ := d_1 (show 1 ≤ d by omega)
      refine okm160 c d Post _ s1 ?_
      rintro s2 rfl
      have hm1 := MS_thr hm 0
      rw [show gsV (gs_V s1 48 13 0) 48 10 = nI (dT D) from hm1.1.1.2.1, e4, le80]
      exact ⟨fun z => absurd z q, fun _ => k _ hm1⟩
/-- the sign at a place -/
def atT (D : DD) (i : Nat) : Nat := if i < dT D then dt D i else 0
theorem atT_lt (hT : XT s D) (i : Nat) : atT D i < 256 := by
  unfold atT
  by_cases e : i < dT D
  · rw [if_pos e]; exact (hT.2.2 i e).1
  · rw [if_neg e]; decide
theorem s61 (hd : 1 ≤ d) (hT : XT s D) {i : Nat} (hi : i < 2 ^ 20) (k : Post (some (.int (nI (atT D i)))) s) : tE c d 61 [.ref 1, .int (nI i)] s Post := by
  obtain ⟨d, rfl⟩ := d_1 hd
  have hlt := atT_lt hT i
  have h80 := hT.1
  refine okm61 c d Post _ s ?_
  unfold wm61 w61_30 w61_31
  rw [hT.2.1, nI_clamp (by omega), nI_le' (by omega) (by omega)]
  have le : (80 : Int32) ≤ nI i ↔ 80 ≤ i := nI_le' (a := 80) (by decide) (by omega)
  rw [le]
  refine ⟨fun z => absurd z (nI_pos (by omega)), fun _ => ⟨fun z => ?_, fun z => ⟨fun y => absurd y (by omega), fun y => ⟨vp_in_nI (by omega) (by decide), ?_⟩⟩⟩⟩
  · have e : atT D i = 0 := if_neg (by omega)
    rw [e] at k
    exact ⟨rfl, k⟩
  · have e : atT D i = dt D i := if_pos (by omega)
    rw [e] at k hlt
    rw [(hT.2.2 i (by omega)).2]
    exact ⟨nar_c _ hlt, k⟩
def wmf (t : Nat → Nat) : Nat → Nat → Option Nat
  | _, 0 => none
  | i, m + 1 => if i = 20 ∨ ¬ (48 ≤ t i ∧ t i ≤ 57) then some i else wmf t (i + 1) m
theorem wmf_1 (t : Nat → Nat) (i m : Nat) : wmf t i (m + 1) = if i = 20 ∨ ¬ (48 ≤ t i ∧ t i ≤ 57) then some i else wmf t (i + 1) m := rfl
theorem wmf_n {t : Nat → Nat} : ∀ (m i : Nat), wmf t i m = none → ∀ j, i ≤ j → j < i + m → j ≠ 20 ∧ (48 ≤ t j ∧ t j ≤ 57)
  | 0, i, _, j, h1, h2 => by omega
  | m + 1, i, h, j, h1, h2 => by
    unfold wmf at h
    by_cases q : i = 20 ∨ ¬ (48 ≤ t i ∧ t i ≤ 57)
    · rw [if_pos q] at h; cases h
    · rw [if_neg q] at h
      by_cases e : j = i
      · rw [e]
        exact ⟨fun z => q (Or.inl z), Classical.not_not.mp (fun z => q (Or.inr z))⟩
      · exact wmf_n m (i + 1) h j (by omega) (by omega)
theorem wmf_s {t : Nat → Nat} : ∀ (m i j : Nat), wmf t i m = some j → j < i + m
  | 0, i, j, h => by cases h
  | m + 1, i, j, h => by
    unfold wmf at h
    by_cases q : i = 20 ∨ ¬ (48 ≤ t i ∧ t i ≤ 57)
    · rw [if_pos q] at h; cases h; omega
    · rw [if_neg q] at h
      have := wmf_s m (i + 1) j h
      omega
def wmI (D : DD) : Int32 := match wmf (dt D) 0 (dT D) with
  | some j => nI j
  | none => if dT D = 0 then 0 else -1
theorem s28 (hd : 2 ≤ d) (hT : XT s D) (k : Post (some (.int (wmI D))) s) : tE c d 28 [.ref 1] s Post := by
  obtain ⟨d, rfl⟩ := d_1 (show 1 ≤ d by omega)
  have h80 := hT.1
  have loop : ∀ (m i : Nat), i + m = dT D → wmf (dt D) i m = wmf (dt D) 0 (dT D) → wl28_2 c d Post (m + 1) (nI i) s := by
    intro m
    induction m with
    | zero =>
      intro i hi hr
      unfold wl28_2 wb28_2 w28_47
      rw [hT.2.1]
      refine ⟨fun _ => ?_, fun z => absurd (le_t (by omega) (by omega) (by omega)) z⟩
      unfold wmI at k
      rw [← hr] at k
      have e0 : nI (dT D) = 0 ↔ dT D = 0 := nI_eq' (b := 0) (by omega) (by decide)
      rw [e0]
      refine ⟨fun z => ?_, fun z => ?_⟩
      · have k' : Post (some (.int (if dT D = 0 then 0 else -1))) s := k
        rw [if_pos z] at k'; exact k'
      · have k' : Post (some (.int (if dT D = 0 then 0 else -1))) s := k
        rw [if_neg z] at k'; exact k'
    | succ m ih =>
      intro i hi hr
      have e20 : nI i = 20 ↔ i = 20 := nI_eq' (b := 20) (by omega) (by decide)
      rw [wmf_1] at hr
      unfold wl28_2 wb28_2 w28_27
      rw [hT.2.1, e20]
      refine ⟨fun z => absurd z (le_f (by omega) (by omega) (by omega)), fun _ => ⟨fun z => ?_, fun z => s61 (by omega) hT (by omega) ⟨_, rfl, s60 (by omega) _ ⟨_, rfl, fun y => ?_, fun y => ?_⟩⟩⟩⟩
      · rw [if_pos (Or.inl z)] at hr
        unfold wmI at k
        rw [← hr] at k
        exact k
      · rw [bI_0] at y
        have y' : ¬ (48 ≤ dt D i ∧ dt D i ≤ 57) := by
          intro w
          refine y ?_
          have e : atT D i = dt D i := if_pos (by omega)
          rw [e]
          have hlt := (hT.2.2 i (by omega)).1
          exact ⟨le_t (a := 48) (by decide) (by omega) w.1, le_t (b := 57) (by omega) (by decide) w.2⟩
        rw [if_pos (Or.inr y')] at hr
        unfold wmI at k
        rw [← hr] at k
        exact k
      · rw [bI_0, Classical.not_not] at y
        have e : atT D i = dt D i := if_pos (by omega)
        have hlt := (hT.2.2 i (by omega)).1
        rw [e] at y
        have y' : 48 ≤ dt D i ∧ dt D i ≤ 57 := ⟨(nI_le' (a := 48) (by decide) (by omega)).mp y.1, (nI_le' (b := 57) (by omega) (by decide)).mp y.2⟩
        rw [if_neg (fun w => w.elim z (fun v => v y'))] at hr
        rw [nI_1]
        exact ih (i + 1) (by omega) hr
  exact okm28 c d Post s ⟨dT D + 1, loop (dT D) 0 (by omega) rfl⟩
/-- of two: the one with this number changed -/
def s2n {α : Type} (f : Nat → α) (n : Nat) (v : α) : Nat → α := fun i => if i = n then v else f i
def wN (D : DD) (n : Nat) : DD := uN D (s2n (dn D) n (dT D)) (s2n (dd D) n (gn (dg D) 0)) (s2n (dw D) n (fun k => nI (dt D k - 48)))
theorem XS_N {s' : gs} {n T day : Nat} {W : Nat → Int32} (h : XS s0 s D) (hn : n < 2) (hT : T ≤ 20) (f1 : ∀ b k, ¬ (b = 10 + 2 * n ∧ (k = 3 ∨ k = 4)) → gsV s' b k = gsV s b k) (f2 : gsE s' = gsE s) (f3 : ∀ b, b ≠ 11 + 2 * n → gsA s' b = gsA s b) (f4 : gsR s' = gsR s) (g1 : gsV s' (10 + 2 * n) 3 = nI T) (g2 : gsV s' (10 + 2 * n) 4 = nI day) (g3 : ∀ k, k < T → gsA s' (11 + 2 * n) k = W k) : XS s0 s' (uN D (s2n (dn D) n T) (s2n (dd D) n day) (s2n (dw D) n W)) := by
  obtain ⟨⟨h1, h2, h3, h4, h5, h6, h7, h8, h9, h10⟩, hf⟩ := h
  have fv : ∀ b, b ≠ 10 + 2 * n → gsV s' b = gsV s b := fun b hb => by funext k; exact f1 b k (fun z => hb z.1)
  have fx : ∀ b, b ≠ 10 + 2 * n → xg s' b = xg s b := fun b hb => xg_cg (fv b hb) (by rw [f2])
  refine ⟨⟨?_, ?_, ?_, ?_, ?_, ?_, ?_, ?_, ?_, ?_⟩, fun b hb => ?_⟩
  · unfold XT at *; rw [fv 1 (by omega), f3 2 (by omega)]; exact h1
  · unfold XL at *; rw [fv 3 (by omega), f3 4 (by omega)]; exact h2
  · unfold XR at *; rw [fv 5 (by omega), f3 6 (by omega)]; exact h3
  · unfold XD at *; rw [f1 10 0 (by omega), f1 12 0 (by omega), f1 10 1 (by omega), f1 12 1 (by omega)]; exact h4
  · intro i hi
    have := h5 i hi
    show (if i = n then T else dn D i) ≤ 20 ∧ gsV s' (10 + 2 * i) 3 = nI (if i = n then T else dn D i) ∧ gsV s' (10 + 2 * i) 4 = nI (if i = n then day else dd D i) ∧ ∀ k, k < (if i = n then T else dn D i) → gsA s' (11 + 2 * i) k = (if i = n then W else dw D i) k
    by_cases e : i = n
    · subst e
      rw [if_pos rfl, if_pos rfl, if_pos rfl]
      exact ⟨hT, g1, g2, g3⟩
    · rw [if_neg e, if_neg e, if_neg e, fv (10 + 2 * i) (by omega), f3 (11 + 2 * i) (by omega)]
      exact this
  · unfold XG at *; rw [fx 14 (by omega)]; exact h6
  · unfold XU at *
    rw [fv 17 (by omega)]
    obtain ⟨a1, a2, p, a3, a4, a5⟩ := h7
    exact ⟨a1, a2, p, a3, a4, fun i hi => by rw [fx _ (by omega)]; exact a5 i hi⟩
  · intro i hi
    have := h8 i hi
    rw [fv 0 (by omega), fx _ (by omega)]; exact this
  · unfold XW at *; rw [fv 34 (by omega), f4]; exact h9
  · unfold XO at *; rw [fv 41 (by omega), f3 42 (by omega)]; exact h10
  · have := hf b hb
    rw [fv b (by omega), f2, f3 b (by omega), f4]; exact this
theorem s29 (hd : 2 ≤ d) (h : XS s0 s D) {n : Nat} (hn : n < 2) (hT : dT D ≤ 20) (hdg : ∀ j, j < dT D → 48 ≤ dt D j ∧ dt D j ≤ 57) (hday : gsV s 14 0 = nI (gn (dg D) 0)) (k : ∀ s', XS s0 s' (wN D n) → Post none s') : tE c d 29 [.ref (10 + 2 * n), .ref 1, .int (gsV s 14 0)] s Post := by
  obtain ⟨d, rfl⟩ := d_1 (show 1 ≤ d by omega)
  have hXT := h.1.1
  rw [hday]
  have loop : ∀ (m i : Nat) (s' : gs), i + m = dT D → (∀ b k, ¬ (b = 10 + 2 * n ∧ (k = 3 ∨ k = 4)) → gsV s' b k = gsV s b k) → gsE s' = gsE s → (∀ b, b ≠ 11 + 2 * n → gsA s' b = gsA s b) → gsR s' = gsR s → gsV s' (10 + 2 * n) 3 = nI (dT D) → gsV s' (10 + 2 * n) 4 = nI (gn (dg D) 0) → (∀ j, j < i → gsA s' (11 + 2 * n) j = nI (dt D j - 48)) → wl29_23 c d Post (m + 1) (10 + 2 * n) (nI i) s' := by
    intro m
    induction m with
    | zero =>
      intro i s' hi f1 f2 f3 f4 g1 g2 g3
      have hi' : i = dT D := by omega
      subst hi'
      unfold wl29_23 wb29_23
      rw [g1]
      exact ⟨ldr_c hn, fun _ => k s' (XS_N h hn hT f1 f2 f3 f4 g1 g2 g3), fun z => absurd (le_t (by omega) (by omega) (by omega)) z⟩
    | succ m ih =>
      intro i s' hi f1 f2 f3 f4 g1 g2 g3
      have hXT' : XT s' D := by
        unfold XT at *
        rw [f1 1 1 (by omega), f3 2 (by omega)]
        exact hXT
      unfold wl29_23 wb29_23
      rw [g1]
      refine ⟨ldr_c hn, fun z => absurd z (le_f (by omega) (by omega) (by omega)), fun _ => ⟨ldr_c hn, s61 (by omega) hXT' (by omega) ⟨_, rfl, 20, ldr_a hn, vp_in_nI (by omega) (by decide), ?_⟩⟩⟩
      have e : atT D i = dt D i := if_pos (by omega)
      have hdi := hdg i (by omega)
      rw [e, show nI (dt D i) - 48 = nI (dt D i - 48) from nI_sub (b := 48) hdi.1, nI_clamp (by omega), nI_1]
      rintro s5 rfl
      refine ih (i + 1) _ (by omega) f1 f2 (fun b hb => ?_) f4 g1 g2 (fun j hj => ?_)
      · rw [← f3 b hb]
        funext j
        rw [A_A, if_neg (by omega)]
      · rw [show 11 + 2 * n = 10 + 2 * n + 1 by omega, gsA_A]
        by_cases ej : j = i
        · rw [ej, upd_eq]; rfl
        · rw [upd_ne ej, show 10 + 2 * n + 1 = 11 + 2 * n by omega]; exact g3 j (by omega)
  refine okm29 c d Post _ _ s ⟨ldr_c hn, 20, ldr_a hn, ldr_c hn, ?_⟩
  have e20 : (if Int32.ofNat 20 < gsV s 1 1 then Int32.ofNat 20 else gsV s 1 1) = nI (dT D) := by
    rw [hXT.2.1, if_neg]
    intro z
    have := (nI_lt' (a := 20) (by decide) (by omega)).mp z
    omega
  rw [e20]
  rintro s4 rfl
  refine ⟨ldr_c hn, ?_⟩
  rintro s5 rfl
  refine ⟨dT D + 1, loop (dT D) 0 _ (by omega) (fun b k hb => ?_) rfl (fun b hb => rfl) rfl ?_ ?_ (fun j hj => absurd hj (Nat.not_lt_zero _))⟩
  · rw [V_V, V_V]
    by_cases eb : b = 10 + 2 * n
    · rw [if_pos eb, if_pos eb, if_neg (fun z => hb ⟨eb, Or.inr z⟩), if_neg (fun z => hb ⟨eb, Or.inl z⟩)]
    · rw [if_neg eb, if_neg eb]
  · rw [V_V, V_V]
    simp
  · rw [V_V]
    simp
theorem dig_s : ∀ x, x < 256 → (((48 : Int32) ≤ sby x ∧ sby x ≤ 57) ↔ (48 ≤ x ∧ x ≤ 57)) := by decide +kernel
theorem dig_v : ∀ x, x < 256 → 48 ≤ x → x ≤ 57 → sby x - 48 = nI (x - 48) := by decide +kernel
theorem VD_N (hv : VD B D) {n : Nat} (hT : dT D ≤ 20) (hday : gn (dg D) 0 ≤ B) (hdg : ∀ j, j < dT D → 48 ≤ dt D j ∧ dt D j ≤ 57) : VD B (wN D n) := by
  refine ⟨hv.1, hv.2.1, hv.2.2.1, hv.2.2.2.1, fun i hi => ?_⟩
  have := hv.2.2.2.2 i hi
  show (if i = n then gn (dg D) 0 else dd D i) ≤ B ∧ (∃ m, m ≤ 9 ∧ db D i = nI m) ∧ ∀ k, k < (if i = n then dT D else dn D i) → ∃ m, m ≤ 9 ∧ (if i = n then (fun k => nI (dt D k - 48)) else dw D i) k = nI m
  by_cases e : i = n
  · rw [if_pos e, if_pos e, if_pos e]
    refine ⟨hday, this.2.1, fun k hk => ⟨dt D k - 48, ?_, rfl⟩⟩
    have := hdg k hk
    omega
  · rw [if_neg e, if_neg e, if_neg e]
    exact this
theorem cl_wishes (h : HY d s B D) (x : Int32) : CL c d 78 173 [.int x] s B := by
  have hd := h.1
  have hB := h.2.2.2.2
  have hv := h.2.2.2.1
  have hv' := VD_mono hv (Nat.le_add_right B 60)
  have hT := h.2.1.1
  have h80 := hT.1
  have hN := HY_n h
  have hS := XS_rf h.2.1
  by_cases q : x = 0 ∨ x = 1
  · obtain ⟨n, hn, rfl⟩ := con_n q
    have v2 : vp_in (nI n) 2 := vp_in_nI hn (by decide)
    -- the reference's first loop: whatever stands behind it
    have rl : ∀ (d : Nat) (Post : Option Value → gs → Prop) (s2 : gs), 2 ≤ d → (∀ i, i < dT D → dt D i < 256 ∧ gsA s2 57 i = sby (dt D i)) → (∀ j, wmf (dt D) 0 (dT D) = some j → Post (some (.int (-1 - nI j))) s2) → (wmf (dt D) 0 (dT D) = none → dT D = 0 → Post (some (.int (-1))) s2) → (wmf (dt D) 0 (dT D) = none → ¬ dT D = 0 → ∃ m, wl173_72 c d Post m (nI n) (nI (dT D)) 0 s2) → ∃ m, wl173_27 c d Post m (nI n) (nI (dT D)) 0 s2 := by
      intro d Post s2 hd2 ht k1 k2 k3
      have loop : ∀ (m i : Nat), i + m = dT D → wmf (dt D) i m = wmf (dt D) 0 (dT D) → wl173_27 c d Post (m + 1) (nI n) (nI (dT D)) (nI i) s2 := by
        intro m
        induction m with
        | zero =>
          intro i hi hr
          have hr' : wmf (dt D) 0 (dT D) = none := hr.symm
          have e0 : nI (dT D) = 0 ↔ dT D = 0 := nI_eq' (b := 0) (by omega) (by decide)
          unfold wl173_27 wb173_27
          rw [e0]
          exact ⟨fun _ => ⟨fun z => k2 hr' z, fun z => k3 hr' z⟩, fun z => absurd (le_t (by omega) (by omega) (by omega)) z⟩
        | succ m ih =>
          intro i hi hr
          have e20 : nI i = 20 ↔ i = 20 := nI_eq' (b := 20) (by omega) (by decide)
          have hti := ht i (by omega)
          rw [wmf_1] at hr
          unfold wl173_27 wb173_27 w173_54
          rw [e20, nI_clamp (by omega), hti.2]
          refine ⟨fun z => absurd z (le_f (by omega) (by omega) (by omega)), fun _ => ⟨fun z => ?_, fun z => ⟨vp_in_nI (by omega) (by decide), s154 (by omega) _ _ _ ⟨_, rfl, fun y => ?_, fun y => ?_⟩⟩⟩⟩
          · rw [if_pos (Or.inl z)] at hr
            exact k1 i hr.symm
          · rw [bI_0, dig_s _ hti.1] at y
            rw [if_pos (Or.inr y)] at hr
            exact k1 i hr.symm
          · rw [bI_0, dig_s _ hti.1, Classical.not_not] at y
            rw [if_neg (fun w => w.elim z (fun v => v y))] at hr
            rw [nI_1]
            exact ih (i + 1) (by omega) hr
      exact ⟨dT D + 1, loop (dT D) 0 (by omega) rfl⟩
    -- its start
    have rs : ∀ (s1 : gs), MS s1 s1 D → MS s1 (gs_V (gs_V s1 48 13 0) 48 10 0) (uT D 0 (dt D)) ∧ gsV (gs_V s1 48 13 0) 48 10 = nI (dT D) ∧ ∀ i, i < dT D → dt D i < 256 ∧ gsA (gs_V (gs_V s1 48 13 0) 48 10 0) 57 i = sby (dt D i) := by
      intro s1 hm
      have hm1 := MS_thr hm 0
      exact ⟨MS_T hm1 (Nat.zero_le _), hm1.1.1.2.1, fun i hi => hm1.1.1.2.2 i hi⟩
    cases hw : wmf (dt D) 0 (dT D) with
    | some j =>
      have hj := wmf_s _ _ _ hw
      have eI : wmI D = nI j := by unfold wmI; rw [hw]
      refine glu1 h (D' := uT D 0 (dt D)) (x := -1 - nI j) hv' (fun Post k => ?_) (fun s1 Post hm k => ?_)
      · obtain ⟨d, rfl⟩ := d_1 (show 1 ≤ d by omega)
        refine okm78 c d Post _ s (s147 (by omega) _ ⟨_, rfl, fun z => ?_, fun _ => s28 (by omega) hT ⟨_, rfl, ?_⟩⟩)
        · rw [bI_0] at z; exact absurd q z
        · rw [eI]
          refine ⟨fun z => absurd z (ni_1 (by omega)), fun _ => ⟨fun z => absurd z (ni_1 (by omega)), fun _ => ?_⟩⟩
          rintro s2 rfl
          exact k _ (XS_T hS (Nat.zero_le _))
      · obtain ⟨d, rfl⟩ := d_1 (show 1 ≤ d by omega)
        refine okm173 c d Post _ s1 ?_
        rintro s2 rfl s3 rfl
        obtain ⟨r1, r2, r3⟩ := rs s1 hm
        refine s159 (by omega) _ ⟨_, rfl, fun z => ?_, fun _ => ?_⟩
        · rw [bI_0] at z; exact absurd q z
        · rw [r2]
          refine rl d Post _ (by omega) r3 (fun i hi => ?_) (fun z => ?_) (fun z => ?_)
          · rw [hw] at hi; cases hi; exact k _ r1
          · rw [hw] at z; cases z
          · rw [hw] at z; cases z
    | none =>
      have hdig := wmf_n _ _ hw
      by_cases q0 : dT D = 0
      · have eI : wmI D = 0 := by unfold wmI; rw [hw]; exact if_pos q0
        refine glu1 h (D' := uT D 0 (dt D)) (x := -1) hv' (fun Post k => ?_) (fun s1 Post hm k => ?_)
        · obtain ⟨d, rfl⟩ := d_1 (show 1 ≤ d by omega)
          refine okm78 c d Post _ s (s147 (by omega) _ ⟨_, rfl, fun z => ?_, fun _ => s28 (by omega) hT ⟨_, rfl, ?_⟩⟩)
          · rw [bI_0] at z; exact absurd q z
          · rw [eI]
            refine ⟨fun z => absurd z (by decide), fun _ => ⟨fun z => absurd z (by decide), fun _ => ?_⟩⟩
            rintro s2 rfl
            exact k _ (XS_T hS (Nat.zero_le _))
        · obtain ⟨d, rfl⟩ := d_1 (show 1 ≤ d by omega)
          refine okm173 c d Post _ s1 ?_
          rintro s2 rfl s3 rfl
          obtain ⟨r1, r2, r3⟩ := rs s1 hm
          refine s159 (by omega) _ ⟨_, rfl, fun z => ?_, fun _ => ?_⟩
          · rw [bI_0] at z; exact absurd q z
          · rw [r2]
            refine rl d Post _ (by omega) r3 (fun i hi => ?_) (fun _ _ => k _ r1) (fun _ z => absurd q0 z)
            rw [hw] at hi; cases hi
      · have h20 : dT D ≤ 20 := by
          by_cases z : dT D ≤ 20
          · exact z
          · exact absurd rfl (hdig 20 (by omega) (by omega)).1
        have hdg : ∀ j, j < dT D → 48 ≤ dt D j ∧ dt D j ≤ 57 := fun j hj => (hdig j (by omega) (by omega)).2
        have eI : wmI D = -1 := by unfold wmI; rw [hw]; exact if_neg q0
        refine glu1 h (D' := uT (wN D n) 0 (dt D)) (x := nI (dT D)) (VD_N hv' h20 (by have := hN.1.2; omega) hdg) (fun Post k => ?_) (fun s1 Post hm k => ?_)
        · obtain ⟨d, rfl⟩ := d_1 (show 1 ≤ d by omega)
          refine okm78 c d Post _ s (s147 (by omega) _ ⟨_, rfl, fun z => ?_, fun _ => s28 (by omega) hT ⟨_, rfl, ?_⟩⟩)
          · rw [bI_0] at z; exact absurd q z
          · rw [eI]
            refine ⟨fun _ => s148' (by omega) hn ⟨_, rfl, ldr_c hn, s29 (by omega) hS hn h20 hdg (by rw [XS_g hS (by decide)]; exact hN.1.1) (fun s2 h2 => ⟨rfl, fun _ => ?_, fun z => absurd rfl z⟩)⟩, fun z => absurd rfl z⟩
            unfold w78_60 w78_61
            rw [show gsV s2 1 1 = nI (dT D) from h2.1.1.2.1]
            rintro s3 rfl
            exact k _ (XS_T h2 (Nat.zero_le _))
        · obtain ⟨d, rfl⟩ := d_1 (show 1 ≤ d by omega)
          refine okm173 c d Post _ s1 ?_
          rintro s2 rfl s3 rfl
          obtain ⟨r1, r2, r3⟩ := rs s1 hm
          refine s159 (by omega) _ ⟨_, rfl, fun z => ?_, fun _ => ?_⟩
          · rw [bI_0] at z; exact absurd q z
          · rw [r2]
            revert r1 r3
            generalize gs_V (gs_V s1 48 13 0) 48 10 0 = s3
            intro r1 r3
            refine rl d Post _ (by omega) r3 (fun i hi => ?_) (fun _ z => absurd z q0) (fun _ _ => ?_)
            · rw [hw] at hi; cases hi
            · have loop : ∀ (m i : Nat) (s' : gs), i + m = dT D → frA s3 s' 54 → (∀ j, gsA s' 54 j = if 20 * n ≤ j ∧ j < 20 * n + i then nI (dt D (j - 20 * n) - 48) else gsA s3 54 j) → wl173_72 c d Post (m + 1) (nI n) (nI (dT D)) (nI i) s' := by
                intro m
                induction m with
                | zero =>
                  intro i s' hi hf hh
                  have hi' : i = dT D := by omega
                  subst hi'
                  refine ⟨fun _ => ⟨vpd rfl, v2, ?_⟩, fun z => absurd (le_t (by omega) (by omega) (by omega)) z⟩
                  have e49 : gsA s' 49 (0 : Int32).toNatClampNeg = nI (gn (dg D) 0) := by
                    rw [hf.2.2.1 49 (by decide), show gsA s3 49 = dg D from MS_G (D := uT D 0 (dt D)) r1]
                    exact hN.1.1
                  rw [e49, nI_clamp (by omega)]
                  rintro s5 rfl
                  refine ⟨v2, ?_⟩
                  rintro s7 rfl
                  refine k _ ?_
                  obtain ⟨⟨m1, m2, m3, m4, m5, m6, m7, m8, m9, m10, m11⟩, mf⟩ := r1
                  have mf' := frM_A (frM_A (frM_frA mf hf (by omega)) (show 48 ≤ 55 by decide) n (vp_nar .int (nI (gn (dg D) 0)))) (show 48 ≤ 56 by decide) n (vp_nar .int (nI (dT D)))
                  obtain ⟨f1, f2, f3, f4, f5⟩ := hf
                  have ga : ∀ b, b ≠ 54 → b ≠ 55 → b ≠ 56 → gsA (gs_A (gs_A s' 55 n (vp_nar .int (nI (gn (dg D) 0)))) 56 n (vp_nar .int (nI (dT D)))) b = gsA s3 b := by
                    intro b b4 b5 b6
                    rw [← f3 b b4]
                    funext j
                    rw [A_A, if_neg b6, A_A, if_neg b5]
                  refine ⟨⟨?_, ?_, ?_, ?_, ?_, ?_, ?_, ?_, ?_, ?_, ?_⟩, mf'⟩
                  · unfold MT at *; rw [ga 57 (by decide) (by decide) (by decide), V_A, V_A, f1]; exact m1
                  · unfold ML at *; rw [ga 50 (by decide) (by decide) (by decide), ga 51 (by decide) (by decide) (by decide), V_A, V_A, f1]; exact m2
                  · unfold MR at *; rw [ga 61 (by decide) (by decide) (by decide), V_A, V_A, f1]; exact m3
                  · unfold MD at *; rw [ga 52 (by decide) (by decide) (by decide), ga 53 (by decide) (by decide) (by decide)]; exact m4
                  · intro i hi2
                    have := m5 i hi2
                    show (if i = n then dT D else dn D i) ≤ 20 ∧ gsA _ 56 i = nI (if i = n then dT D else dn D i) ∧ gsA _ 55 i = nI (if i = n then gn (dg D) 0 else dd D i) ∧ ∀ k, k < (if i = n then dT D else dn D i) → gsA _ 54 (20 * i + k) = (if i = n then (fun k => nI (dt D k - 48)) else dw D i) k
                    simp only [A_A, if_true, show ¬ (55 = 56) by decide, show ¬ (54 = 56) by decide, show ¬ (54 = 55) by decide, if_false]
                    by_cases e : i = n
                    · subst e
                      simp only [if_true]
                      refine ⟨h20, rfl, rfl, fun k hk => ?_⟩
                      rw [hh, if_pos ⟨by omega, by omega⟩, show 20 * i + k - 20 * i = k by omega]
                    · simp only [if_neg e]
                      have hk20 : dn D i ≤ 20 := this.1
                      refine ⟨this.1, ?_, ?_, fun k hk => ?_⟩
                      · rw [f3 56 (by decide)]; exact this.2.1
                      · rw [f3 55 (by decide)]; exact this.2.2.1
                      · rw [hh, if_neg (by omega)]; exact this.2.2.2 k hk
                  · unfold MG at *; rw [ga 49 (by decide) (by decide) (by decide)]; exact m6
                  · unfold MU at *; rw [ga 63 (by decide) (by decide) (by decide), V_A, V_A, f1]; exact m7
                  · unfold MK at *; rw [ga 71 (by decide) (by decide) (by decide), ga 72 (by decide) (by decide) (by decide)]; exact m8
                  · unfold MW at *; rw [V_A, V_A, f1, R_A, R_A, f4]; exact m9
                  · unfold MO at *; rw [ga 69 (by decide) (by decide) (by decide), V_A, V_A, f1]; exact m10
                  · unfold MZ at *; rw [ga 65 (by decide) (by decide) (by decide)]; exact m11
                | succ m ih =>
                  intro i s' hi hf hh
                  have hti := r3 i (by omega)
                  have hdi := hdg i (by omega)
                  refine ⟨fun z => absurd z (le_f (by omega) (by omega) (by omega)), fun _ => ⟨vp_in_nI (by omega) (by decide), ?_⟩⟩
                  have e2 : (20 : Int32) * nI n + nI i = nI (20 * n + i) := by
                    rw [← nI_add, ← pk_mul]
                    rfl
                  rw [e2, nI_clamp (show i < 2 ^ 31 by omega), nI_clamp (show 20 * n + i < 2 ^ 31 by omega), hf.2.2.1 57 (by decide), hti.2, dig_v _ hti.1 hdi.1 hdi.2, nI_1]
                  refine ⟨vp_in_nI (by omega) (by decide), ?_⟩
                  rintro s11 rfl
                  refine ih (i + 1) _ (by omega) (frA_A hf _ _) (fun j => ?_)
                  rw [gsA_A]
                  by_cases ej : j = 20 * n + i
                  · rw [ej, upd_eq, if_pos ⟨by omega, by omega⟩, show 20 * n + i - 20 * n = i by omega]
                    rfl
                  · rw [upd_ne ej, hh]
                    by_cases e3 : 20 * n ≤ j ∧ j < 20 * n + i
                    · rw [if_pos e3, if_pos ⟨e3.1, by omega⟩]
                    · rw [if_neg e3, if_neg (by omega)]
              exact ⟨dT D + 1, loop (dT D) 0 s3 (by omega) (frA_rf s3 54) (fun j => by rw [if_neg (by omega)])⟩
  · refine glu1 h (D' := uT D 0 (dt D)) (x := -100) hv' (fun Post k => ?_) (fun s1 Post hm k => ?_)
    · obtain ⟨d, rfl⟩ := d_1 (show 1 ≤ d by omega)
      refine okm78 c d Post _ s (s147 (by omega) _ ⟨_, rfl, fun z => ?_, fun z => ?_⟩)
      · rintro s2 rfl
        exact k _ (XS_T hS (Nat.zero_le _))
      · rw [bI_0, Classical.not_not] at z; exact absurd z q
    · obtain ⟨d, rfl⟩ := d_1 (show 1 ≤ d by omega)
      refine okm173 c d Post _ s1 ?_
      rintro s2 rfl s3 rfl
      refine s159 (by omega) _ ⟨_, rfl, fun z => k _ (MS_T (MS_thr hm 0) (Nat.zero_le _)), fun z => ?_⟩
      rw [bI_0, Classical.not_not] at z; exact absurd z q
end C13
