/-! A standing's numbers; what a night, a battle and the like do to them. -/
def gn (g : Nat → Int32) (i : Nat) : Nat := (g i).toNatClampNeg
theorem gN_of {g : Nat → Int32} {i n : Nat} (h : g i = nI n) (hn : n < 2 ^ 31) : gn g i = n := by
  unfold gn
  rw [h, nI_clamp hn]
def okN (F B : Nat) (g : Nat → Int32) : Prop := (g 0 = nI (gn g 0) ∧ gn g 0 ≤ B) ∧ (g 1 = nI (gn g 1) ∧ gn g 1 < F) ∧ (g 2 = nI (gn g 2) ∧ gn g 2 < F) ∧ (g 3 = nI (gn g 3) ∧ gn g 3 ≤ 9999) ∧ (g 4 = nI (gn g 4) ∧ gn g 4 ≤ 9999) ∧ (g 5 = nI (gn g 5) ∧ gn g 5 ≤ 9999) ∧ ∀ i, 108 ≤ i → g i = 0
theorem okG_N {F B : Nat} {g : Nat → Int32} (h : okG F B g) (hF : F ≤ 12) (hB : B < 2 ^ 20) : okN F B g := by
  obtain ⟨⟨a, a1, a2⟩, ⟨b, b1, b2⟩, ⟨e, e1, e2⟩, ⟨f, f1, f2⟩, ⟨i, i1, i2⟩, ⟨j, j1, j2⟩, z⟩ := h
  unfold okN
  rw [gN_of a2 (by omega), gN_of b2 (by omega), gN_of e2 (by omega), gN_of f2 (by omega), gN_of i2 (by omega), gN_of j2 (by omega)]
  exact ⟨⟨a2, a1⟩, ⟨b2, b1⟩, ⟨e2, e1⟩, ⟨f2, f1⟩, ⟨i2, i1⟩, ⟨j2, j1⟩, z⟩
theorem okG_mono {F B B' : Nat} {g : Nat → Int32} (h : okG F B g) (hB : B ≤ B') : okG F B' g := by
  obtain ⟨⟨a, a1, a2⟩, r⟩ := h
  exact ⟨⟨a, by omega, a2⟩, r⟩
/-- one number changed -/
theorem okG_u0 {F B : Nat} {g : Nat → Int32} (h : okG F B g) {n : Nat} (hn : n ≤ B) : okG F B (upd g 0 (nI n)) := by
  obtain ⟨a, b, e, f, i, j, z⟩ := h
  exact ⟨⟨n, hn, rfl⟩, b, e, f, i, j, fun q hq => by rw [upd_ne (by omega)]; exact z q hq⟩
theorem okG_u1 {F B : Nat} {g : Nat → Int32} (h : okG F B g) {n : Nat} (hn : n < F) : okG F B (upd g 1 (nI n)) := by
  obtain ⟨a, b, e, f, i, j, z⟩ := h
  exact ⟨a, ⟨n, hn, rfl⟩, e, f, i, j, fun q hq => by rw [upd_ne (by omega)]; exact z q hq⟩
theorem okG_u2 {F B : Nat} {g : Nat → Int32} (h : okG F B g) {n : Nat} (hn : n < F) : okG F B (upd g 2 (nI n)) := by
  obtain ⟨a, b, e, f, i, j, z⟩ := h
  exact ⟨a, b, ⟨n, hn, rfl⟩, f, i, j, fun q hq => by rw [upd_ne (by omega)]; exact z q hq⟩
theorem okG_u3 {F B : Nat} {g : Nat → Int32} (h : okG F B g) {n : Nat} (hn : n ≤ 9999) : okG F B (upd g 3 (nI n)) := by
  obtain ⟨a, b, e, f, i, j, z⟩ := h
  exact ⟨a, b, e, ⟨n, hn, rfl⟩, i, j, fun q hq => by rw [upd_ne (by omega)]; exact z q hq⟩
theorem okG_u4 {F B : Nat} {g : Nat → Int32} (h : okG F B g) {n : Nat} (hn : n ≤ 9999) : okG F B (upd g 4 (nI n)) := by
  obtain ⟨a, b, e, f, i, j, z⟩ := h
  exact ⟨a, b, e, f, ⟨n, hn, rfl⟩, j, fun q hq => by rw [upd_ne (by omega)]; exact z q hq⟩
theorem okG_u5 {F B : Nat} {g : Nat → Int32} (h : okG F B g) {n : Nat} (hn : n ≤ 9999) : okG F B (upd g 5 (nI n)) := by
  obtain ⟨a, b, e, f, i, j, z⟩ := h
  exact ⟨a, b, e, f, i, ⟨n, hn, rfl⟩, fun q hq => by rw [upd_ne (by omega)]; exact z q hq⟩
theorem okG_u6 {F B : Nat} {g : Nat → Int32} (h : okG F B g) {m : Nat} (hm : 6 ≤ m ∧ m < 108) (x : Int32) : okG F B (upd g m x) := by
  obtain ⟨a, b, e, f, i, j, z⟩ := h
  unfold okG
  rw [upd_ne (by omega), upd_ne (by omega), upd_ne (by omega), upd_ne (by omega), upd_ne (by omega), upd_ne (by omega)]
  exact ⟨a, b, e, f, i, j, fun q hq => by rw [upd_ne (by omega)]; exact z q hq⟩
theorem tk_n {g : Nat → Int32} {M : Nat} (h : g 3 = nI M) (hM : M ≤ 9999) : takesG g = nI (M / 100 + 1) := by
  unfold takesG
  rw [h, show nI M / 100 = nI (M / 100) from pk_div (a := M) (d := 100) (by omega) (by decide) (by decide), nI_1]
theorem okG_night {F B : Nat} {g : Nat → Int32} (h : okG F B g) (hF : F ≤ 12) (hB : B < 2 ^ 20) : okG F (B + 1) (nightG g) := by
  have h' := okG_N h hF hB
  obtain ⟨⟨a1, a2⟩, b, e, ⟨f1, f2⟩, i, ⟨j1, j2⟩, z⟩ := h'
  have h1 := okG_mono h (Nat.le_add_right B 1)
  unfold nightG
  rw [tk_n f1 f2, a1, nI_1]
  by_cases q : nI (gn g 3 / 100 + 1) ≤ g 5
  · rw [if_pos q]
    rw [j1, nI_le' (by omega) (by omega)] at q
    rw [j1, nI_sub q]
    exact okG_u0 (okG_u5 h1 (by omega)) (by omega)
  · rw [if_neg q, f1, show nI (gn g 3) / 10 = nI (gn g 3 / 10) from pk_div (a := gn g 3) (d := 10) (by omega) (by decide) (by decide), nI_sub (by omega)]
    exact okG_u0 (okG_u3 (okG_u5 (n := 0) h1 (by omega)) (by omega)) (by omega)
theorem who_c (g : Nat → Int32) (n : Nat) : who g n = -1 ∨ (who g n = 0 ∨ who g n = 1) := by
  unfold who
  have := whoB_lt g n
  by_cases h : g (6 + whoB g n) < nI n
  · rw [if_pos h]
    rcases (show whoB g n = 0 ∨ whoB g n = 1 by omega) with q | q
    · rw [q]; exact Or.inr (Or.inl rfl)
    · rw [q]; exact Or.inr (Or.inr rfl)
  · rw [if_neg h]
    by_cases h2 : g (6 + (1 - whoB g n)) < nI n
    · rw [if_pos h2]
      rcases (show whoB g n = 0 ∨ whoB g n = 1 by omega) with q | q
      · rw [q]; exact Or.inr (Or.inr rfl)
      · rw [q]; exact Or.inr (Or.inl rfl)
    · rw [if_neg h2]; exact Or.inl rfl
/-- who, as a number: for other answers than -1 -/
def whn (g : Nat → Int32) (n : Nat) : Nat := if who g n = 1 then 1 else 0
theorem whn_lt (g : Nat → Int32) (n : Nat) : whn g n < 2 := by
  unfold whn
  split <;> omega
theorem whn_e {g : Nat → Int32} {n : Nat} (h : ¬ who g n = -1) : who g n = nI (whn g n) := by
  unfold whn
  rcases who_c g n with q | q | q
  · exact absurd q h
  · rw [q]; rfl
  · rw [q]; rfl
/-- losses -/
def mx0 (x : Int32) : Int32 := if 0 < x then x else 0
def sufG (g : Nat → Int32) (v : Int32) : Nat → Int32 := upd (upd g 3 (mx0 (g 3 - if 0 < v then v / 3 else -v))) 4 (mx0 (g 4 - if 0 < v then v else -v / 3))
theorem clp_b (x : Int32) : ∃ n, n ≤ 500 ∧ (clp x = nI n ∨ clp x = -nI n) := by
  have h1 : -500 ≤ clp x ∧ clp x ≤ 500 := by
    unfold clp
    by_cases a : x < 500
    · rw [if_pos a]
      by_cases b : -500 < x
      · rw [if_pos b]; grind
      · rw [if_neg b]; decide
    · rw [if_neg a, if_pos (by decide)]; decide
  by_cases h : 0 ≤ clp x
  · obtain ⟨n, hn, e⟩ := i_nat h
    refine ⟨n, ?_, Or.inl e⟩
    have := h1.2
    rw [e] at this
    exact (nI_le' (b := 500) hn (by decide)).mp this
  · have h2 : 0 ≤ -clp x := by grind
    obtain ⟨n, hn, e⟩ := i_nat h2
    refine ⟨n, ?_, Or.inr (by rw [← e]; grind)⟩
    have : nI n ≤ nI 500 := by
      rw [← e]
      have e5 : nI 500 = 500 := rfl
      rw [e5]
      grind
    exact (nI_le' hn (by decide)).mp this
theorem mx0_n {a b : Nat} (ha : a ≤ 9999) (hb : b ≤ 9999) : mx0 (nI a - nI b) = nI (a - b) := by
  unfold mx0
  by_cases h : b < a
  · rw [nI_sub (by omega)]
    have : nI 0 < nI (a - b) := (nI_lt' (by decide) (by omega)).mpr (by omega)
    exact if_pos this
  · rw [show a - b = 0 by omega]
    by_cases q : 0 < nI a - nI b
    · exfalso
      have h1 : nI a ≤ nI b := (nI_le' (by omega) (by omega)).mpr (by omega)
      have h2 : 0 ≤ nI a := i_nlt.mp (nI_pos (by omega))
      grind
    · rw [if_neg q]; rfl
theorem div3 {n : Nat} (h : n ≤ 9999) : nI n / 3 = nI (n / 3) := pk_div (a := n) (d := 3) (by omega) (by decide) (by decide)
theorem okG_suf {F B : Nat} {g : Nat → Int32} (h : okG F B g) (hF : F ≤ 12) (hB : B < 2 ^ 20) (x : Int32) : okG F B (sufG g (clp x)) := by
  have h' := okG_N h hF hB
  obtain ⟨a, b, e, ⟨f1, f2⟩, ⟨i1, i2⟩, j, z⟩ := h'
  obtain ⟨n, hn, hc⟩ := clp_b x
  unfold sufG
  rw [f1, i1]
  have own : ∃ m, m ≤ 9999 ∧ (if 0 < clp x then clp x / 3 else -clp x) = nI m := by
    rcases hc with q | q
    · by_cases p : 0 < clp x
      · rw [if_pos p, q, div3 (by omega)]; exact ⟨_, by omega, rfl⟩
      · rw [if_neg p, q]
        have : ¬ nI 0 < nI n := by rw [← q]; exact p
        rw [nI_lt' (by decide) (by omega)] at this
        rw [show n = 0 by omega]
        exact ⟨0, by omega, rfl⟩
    · have : ¬ 0 < clp x := by
        rw [q]
        have h2 : 0 ≤ nI n := i_nlt.mp (nI_pos (by omega))
        grind
      rw [if_neg this, q, show - -nI n = nI n by grind]
      exact ⟨n, by omega, rfl⟩
  have foe : ∃ m, m ≤ 9999 ∧ (if 0 < clp x then clp x else -clp x / 3) = nI m := by
    rcases hc with q | q
    · by_cases p : 0 < clp x
      · rw [if_pos p, q]; exact ⟨_, by omega, rfl⟩
      · rw [if_neg p, q]
        have : ¬ nI 0 < nI n := by rw [← q]; exact p
        rw [nI_lt' (by decide) (by omega)] at this
        rw [show n = 0 by omega]
        exact ⟨0, by omega, rfl⟩
    · have : ¬ 0 < clp x := by
        rw [q]
        have h2 : 0 ≤ nI n := i_nlt.mp (nI_pos (by omega))
        grind
      rw [if_neg this, q, show - -nI n = nI n by grind, div3 (by omega)]
      exact ⟨_, by omega, rfl⟩
  obtain ⟨m, hm, em⟩ := own
  obtain ⟨m', hm', em'⟩ := foe
  rw [em, em', mx0_n f2 hm, mx0_n i2 hm']
  exact okG_u4 (okG_u3 h (by omega)) (by omega)
theorem suf_x {v : Int32} (h : ∃ n, n ≤ 500 ∧ (v = nI n ∨ v = -nI n)) : (if 0 ≤ v then v else 0 - v) = if 0 < v then v else -v := by
  by_cases a : 0 < v
  · rw [if_pos a, if_pos (by grind)]
  · rw [if_neg a]
    by_cases b : 0 ≤ v
    · rw [if_pos b]
      have : v = 0 := by grind
      rw [this]; rfl
    · rw [if_neg b]; grind
section T3
variable {c : gx} {d : Nat} {Post : Option Value → gs → Prop} {s0 s : gs} {D : DD}
theorem s56 (hd : 1 ≤ d) {r : Nat} (hr : gs_isC r 6 = true) {v : Int32} (hv : ∃ n, n ≤ 500 ∧ (v = nI n ∨ v = -nI n)) (k : ∀ s', frV s s' r → xg s' r = sufG (xg s r) v → Post none s') : tE c d 56 [.ref r, .int v] s Post := by
  obtain ⟨d, rfl⟩ := d_1 hd
  have fin : ∀ a b, a = (if 0 < v then v / 3 else -v) → b = (if 0 < v then v else -v / 3) → w56_28 c d Post r a b s := by
    intro a b ha hb
    refine ⟨hr, hr, ?_⟩
    rintro s1 rfl
    refine ⟨hr, hr, ?_⟩
    rintro s2 rfl
    refine k _ (frV_V (frV_V (frV_rf s r) _ _) _ _) ?_
    have e4 : ∀ y, gsV (gs_V s r 3 y) r 4 = xg s r 4 := fun y => by rw [V_V, if_pos rfl, if_neg (by decide), xg_0 s r 4 (by decide)]
    rw [xg_V _ _ _ _ (by decide), xg_V _ _ _ _ (by decide), e4, xg_0 s r 3 (by decide)]
    unfold sufG
    rw [← ha, ← hb]
    rfl
  refine okm56 c d Post _ _ s ?_
  unfold wm56 w56_16
  rw [suf_x hv]
  refine ⟨fun z => ⟨fun _ => ?_, fun y => absurd z y⟩, fun z => ⟨fun y => absurd y z, fun _ => ?_⟩⟩
  · have z' : ¬ 0 < v := by grind
    rw [if_neg z']
    exact fin _ _ (by rw [if_neg z']) (by rw [if_neg z'])
  · have z' : 0 < v := by grind
    rw [if_pos z']
    exact fin _ _ (by rw [if_pos z']) (by rw [if_pos z'])
theorem XS_g (h : XS s0 s D) {i : Nat} (hi : i < 6) : gsV s 14 i = dg D i := by
  rw [xg_0 s 14 i hi, h.1.2.2.2.2.2.1]
theorem s84 (hd : 3 ≤ d) (h : XS s0 s D) {n : Nat} (hn : dg D 0 = nI n) (hn' : n < 2 ^ 20) (k : Post (some (.int (who (dg D) n))) s) : tE c d 84 [.ref 0] s Post := by
  obtain ⟨d, rfl⟩ := d_1 (Nat.le_trans (by decide) hd)
  refine okm84 c d Post s ?_
  unfold wm84
  rw [XS_g h (by decide), hn]
  refine s51 (by omega) rfl hn' ⟨_, rfl, ?_⟩
  rw [show xg s 14 = dg D from h.1.2.2.2.2.2.1]
  exact k
theorem s184' (hd : 2 ≤ d) (h : MG s D) {n : Nat} (hn' : n < 2 ^ 20) (k : Post (some (.int (who (dg D) n))) s) : tE c d 184 [.ref 49, .int (nI n)] s Post := by
  refine s184 hd rfl hn' ?_
  rw [show gsA s 49 = dg D from h]
  exact k
end T3
/-- the two sides of a call -/
def OK2 (B : Nat) (s : gs) : Prop := ∃ D, QX s D ∧ QM s D ∧ VD B D
def CL (c : gx) (d jx jm : Nat) (as : List Value) (s : gs) (B : Nat) : Prop := tE c d jx (.ref 0 :: as) s (fun v s1 => ∃ x : Int32, v = some (.int x) ∧ tE c d jm (.ref 48 :: as) s1 (fun v' s2 => v' = some (.int x) ∧ OK2 (B + 60) s2))
theorem VD_mono {B B' : Nat} {D : DD} (h : VD B D) (hB : B ≤ B') : VD B' D := by
  obtain ⟨h1, h2, h3, h4, h5⟩ := h
  exact ⟨h1, okG_mono h2 hB, fun i hi => okG_mono (h3 i hi) hB, fun i hi hk => okG_mono (h4 i hi hk) hB, fun i hi => ⟨Nat.le_trans (h5 i hi).1 hB, (h5 i hi).2⟩⟩
theorem glu {c : gx} {d jx jm B : Nat} {as : List Value} {s : gs} {D D' : DD} {x : Int32} (hX : QX s D) (hM : QM s D) (hv : VD (B + 60) D') (hx : ∀ Post : Option Value → gs → Prop, (∀ s', XS s s' D' → Post (some (.int x)) s') → tE c d jx (.ref 0 :: as) s Post) (hm : ∀ (s1 : gs) (Post : Option Value → gs → Prop), MS s1 s1 D → (∀ s', MS s1 s' D' → Post (some (.int x)) s') → tE c d jm (.ref 48 :: as) s1 Post) : CL c d jx jm as s B :=
  hx _ (fun s1 h1 => ⟨x, rfl, hm s1 _ ⟨QM_frX hM h1.2, frM_rf s1⟩ (fun s2 h2 => ⟨rfl, D', QX_frM h1.1 h2.2, h2.1, hv⟩)⟩)
