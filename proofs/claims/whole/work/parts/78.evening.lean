/-! Calls: evening. -/
theorem fl_add {α : Type} (f : Nat → α → α) : ∀ (m i k : Nat) (a : α), fl f i (m + k) a = fl f (i + m) k (fl f i m a)
  | 0, i, k, a => by rw [Nat.zero_add]; rfl
  | m + 1, i, k, a => by
    rw [show m + 1 + k = (m + k) + 1 by omega]
    show fl f (i + 1) (m + k) (f i a) = fl f (i + (m + 1)) k (fl f (i + 1) m (f i a))
    rw [fl_add f m (i + 1) k (f i a), show i + 1 + m = i + (m + 1) by omega]
theorem fl_id {α : Type} {f : Nat → α → α} : ∀ (m i : Nat) (a : α), (∀ j b, i ≤ j → j < i + m → f j b = b) → fl f i m a = a
  | 0, _, _, _ => rfl
  | m + 1, i, a, h => by
    show fl f (i + 1) m (f i a) = a
    rw [h i a (by omega) (by omega)]
    exact fl_id m (i + 1) a (fun j b h1 h2 => h j b (by omega) (by omega))
/-- bits that are gathered -/
theorem fl_bits (P : Nat → Prop) [DecidablePred P] : ∀ (m i : Nat) (a : Int32) (j : Nat), i + m ≤ 32 → j < 32 → gb (fl (fun t a => if P t then a ||| sh1 t else a) i m a) j = (gb a j || decide (i ≤ j ∧ j < i + m ∧ P j))
  | 0, i, a, j, _, _ => by
    rw [decide_eq_false (by omega), Bool.or_false]
    rfl
  | m + 1, i, a, j, h1, h2 => by
    show gb (fl (fun t a => if P t then a ||| sh1 t else a) (i + 1) m (if P i then a ||| sh1 i else a)) j = _
    rw [fl_bits P m (i + 1) _ j (by omega) h2]
    by_cases q : P i
    · rw [if_pos q, gb_ors (by omega) h2, Bool.or_assoc]
      congr 1
      by_cases e : j = i
      · subst e
        rw [decide_eq_true rfl, Bool.true_or]
        exact (decide_eq_true ⟨by omega, by omega, q⟩).symm
      · rw [decide_eq_false e, Bool.false_or]
        exact decide_eq_decide.mpr ⟨fun z => ⟨by omega, by omega, z.2.2⟩, fun z => ⟨by omega, by omega, z.2.2⟩⟩
    · rw [if_neg q]
      congr 1
      refine decide_eq_decide.mpr ⟨fun z => ⟨by omega, by omega, z.2.2⟩, fun z => ⟨?_, by omega, z.2.2⟩⟩
      by_cases e : j = i
      · rw [e] at z; exact absurd z.2.2 q
      · omega
theorem gls_b (r : Nat → Bool) {F : Nat} (hF : F ≤ 12) (fr fo : Nat) (st : Int32) {j : Nat} (hj : j < 32) : gb (gls r F fr fo st) j = decide (j < F ∧ ¬ st < nI (cst r fr j) ∧ ¬ pst fr fo j) := by
  unfold gls
  rw [fl_bits (fun t => ¬ st < nI (cst r fr t) ∧ ¬ pst fr fo t) F 0 0 j (by omega) hj, gb_0, Bool.false_or]
  exact decide_eq_decide.mpr ⟨fun z => ⟨by omega, z.2.2⟩, fun z => ⟨by omega, by omega, z.2⟩⟩
theorem cst_self (r : Nat → Bool) (a : Nat) : cst r a a = 0 := by
  unfold cst
  rw [Nat.max_self, Nat.min_self, Nat.sub_self]
  rfl
/-- a consul's reach -/
theorem str_n {B : Nat} {D : DD} (hv : VD B D) {n : Nat} (hn : n < 2) : ∃ m, 1 ≤ m ∧ m ≤ 4 ∧ db D n / 3 + 1 = nI m := by
  obtain ⟨b, hb, e⟩ := (hv.2.2.2.2 n hn).2.1
  refine ⟨b / 3 + 1, by omega, by omega, ?_⟩
  rw [e, div3 (by omega), nI_1]
theorem gls_self {B : Nat} {D : DD} (hv : VD B D) {n a fo : Nat} (hn : n < 2) (ha : a < dF D) : gb (gls (dr D) (dF D) a fo (db D n / 3 + 1)) a = true := by
  have hF := hv.1.2
  rw [gls_b (dr D) hF a fo _ (by omega)]
  refine decide_eq_true ⟨ha, ?_, ?_⟩
  · obtain ⟨m, h1, h2, e⟩ := str_n hv hn
    rw [e, cst_self]
    intro z
    have := (nI_lt' (by omega) (by decide)).mp z
    omega
  · unfold pst
    omega
/-- tomorrow's battle from a field -/
def tvD (D : DD) (f : Nat) : Int32 := if who (dg D) (gn (dg D) 0 + 1) = -1 then 0 else if ¬ near f (gn (dg D) 2) then 0 else isf D (dg D) (whn (dg D) (gn (dg D) 0 + 1)) f (dg D 0 + 1)
def evT (D : DD) (bits : Int32) (f : Nat) (a : Int32 × Int32) : Int32 × Int32 := if gb bits f = true ∧ (a.1 = -1 ∨ ¬ tvD D f ≤ a.2) then (nI f, tvD D f) else a
def evS (D : DD) (bits : Int32) (far : Nat) (a : Int32 × Int32) : Int32 × Int32 :=
  if gn (dg D) 1 + far < dF D then evT D bits (gn (dg D) 1 + far) (if far ≤ gn (dg D) 1 then evT D bits (gn (dg D) 1 - far) a else a) else (if far ≤ gn (dg D) 1 then evT D bits (gn (dg D) 1 - far) a else a)
theorem evT_n {D : DD} {bits : Int32} {f : Nat} (hf : f < 12) {a : Int32 × Int32} (ha : ¬ a.1 = -1) : ¬ (evT D bits f a).1 = -1 := by
  unfold evT
  by_cases q : gb bits f = true ∧ (a.1 = -1 ∨ ¬ tvD D f ≤ a.2)
  · rw [if_pos q]; exact ni_1 (by omega)
  · rw [if_neg q]; exact ha
section C14
variable {c : gx} {d B : Nat} {Post : Option Value → gs → Prop} {s0 s : gs} {D : DD}
theorem s111 (hd : 5 ≤ d) (h : XS s0 s D) (hN : okN (dF D) B (dg D)) (hB : B < 2 ^ 19) {f : Nat} (hf : f < dF D) (k : ∀ s', XS s0 s' D → Post (some (.int (tvD D f))) s') : tE c d 111 [.ref 0, .int (nI f)] s Post := by
  obtain ⟨d, rfl⟩ := d_1 (show 1 ≤ d by omega)
  obtain ⟨⟨a0, b0⟩, ⟨a1, b1⟩, ⟨a2, b2⟩, _⟩ := hN
  have hF := h.1.2.1.1.2
  unfold tvD at k
  refine okm111 c d Post _ s (s51n (i := 1) (by omega) h a0 (by omega) ⟨_, rfl, fun z => ?_, fun z => ?_⟩)
  · rw [if_pos z] at k; exact k s h
  · rw [if_neg z] at k
    rw [XS_g h (i := 2) (by decide), a2, XS_g h (i := 0) (by decide)]
    refine s16 (by omega) (by omega) (by omega) ⟨_, rfl, fun y => ?_, fun y => ?_⟩
    · rw [bI_0] at y
      rw [if_pos y] at k; exact k s h
    · rw [bI_0, Classical.not_not] at y
      rw [if_neg (fun w => w y)] at k
      rw [whn_e z]
      refine s150 (by omega) h.1.2.1 h.1.2.2.1 h.1.2.2.2.1 rfl (whn_lt _ _) hf (by rw [XS_G h]; exact a2) b2 _ (fun s2 f2 => ⟨_, rfl, ?_⟩)
      rw [XS_G h]
      exact k s2 (XS_frI h f2)
theorem cl_evening (h : HY d s B D) : CL c d 106 218 [] s B := by
  have hd := h.1
  have hB := h.2.2.2.2
  have hv := h.2.2.2.1
  have hF := hv.1.2
  have hF1 := hv.1.1
  have hNN := HY_n h
  obtain ⟨⟨a0, b0⟩, ⟨a1, b1⟩, ⟨a2, b2⟩, _⟩ := HY_n h
  by_cases qw : who (dg D) (gn (dg D) 0) = -1
  · refine glu0 h (x := -2) (fun Post k => ?_) (fun s1 Post hm k => ?_)
    · obtain ⟨d, rfl⟩ := d_1 (show 1 ≤ d by omega)
      exact okm106 c d Post s (s84 (by omega) (XS_rf h.2.1) a0 (by omega) ⟨_, rfl, fun _ => k s (XS_rf h.2.1), fun z => absurd qw z⟩)
    · obtain ⟨d, rfl⟩ := d_1 (show 1 ≤ d by omega)
      refine okm218 c d Post s1 ?_
      rintro s2 rfl
      have hm1 := MS_thr hm 0
      rw [MS_G hm1, show dg D (0 : Int32).toNatClampNeg = nI (gn (dg D) 0) from a0]
      exact ⟨vpd rfl, s184' (by omega) (MS_G hm1) (by omega) ⟨_, rfl, fun _ => k _ hm1, fun z => absurd qw z⟩⟩
  · have hwl := whn_lt (dg D) (gn (dg D) 0)
    generalize hbits : gls (dr D) (dF D) (gn (dg D) 1) (gn (dg D) 2) (db D (whn (dg D) (gn (dg D) 0)) / 3 + 1) = bits
    have hself : gb bits (gn (dg D) 1) = true := by rw [← hbits]; exact gls_self hv hwl b1
    have ev_id : ∀ j a, dF D ≤ j → evS D bits j a = a := by
      intro j a hj
      unfold evS
      rw [if_neg (by omega), if_neg (by omega)]
    generalize hR : fl (evS D bits) 1 11 (nI (gn (dg D) 1), tvD D (gn (dg D) 1)) = R
    have hR' : fl (evS D bits) 1 (dF D - 1) (nI (gn (dg D) 1), tvD D (gn (dg D) 1)) = R := by
      rw [← hR, show 11 = (dF D - 1) + (12 - dF D) by omega, fl_add]
      exact (fl_id _ _ _ (fun j b h1 _ => ev_id j b (by omega))).symm
    refine glu1 h (D' := uW D 1 (r1 (501 + R.2).toInt64)) (x := R.1) (VD_W (VD_mono hv (Nat.le_add_right B 60)) _ _) (fun Post k => ?_) (fun s1 Post hm k => ?_)
    · obtain ⟨d, rfl⟩ := d_1 (show 1 ≤ d by omega)
      -- a field that is there
      have cand : ∀ (K44 : Int32 → Int32 → Int32 → Int32 → gs → Prop) (K63 : Int32 → Int32 → Int32 → Int32 → Int32 → gs → Prop) (far f : Nat) (a : Int32 × Int32) (s' : gs), f < dF D → f ≤ gn (dg D) 1 + far → far < 12 → ¬ a.1 = -1 → XS s s' D → (∀ s'', XS s s'' D → K63 bits (evT D bits f a).1 (evT D bits f a).2 (nI far) (nI f + 2 * nI far) s'') → wb106_63 c d Post K44 K63 bits a.1 a.2 (nI far) (nI f) s' := by
        intro K44 K63 far f a s' hf hfar hfl ha hS hK
        unfold wb106_63 w106_121
        rw [XS_g hS (i := 1) (by decide), a1, nI_add, nI_lt' (by omega) (by omega)]
        have no : ¬ (gb bits f = true ∧ (a.1 = -1 ∨ ¬ tvD D f ≤ a.2)) → ∀ s'', XS s s'' D → K63 bits a.1 a.2 (nI far) (nI f + 2 * nI far) s'' := by
          intro q s'' h''
          have := hK s'' h''
          unfold evT at this
          rw [if_neg q] at this
          exact this
        refine ⟨fun z => absurd z (by omega), fun _ => s14 (by omega) hS.1.2.1 _ ⟨_, rfl, fun z => ?_, fun _ => ⟨fun z => ?_, fun z => s111 (by omega) hS hNN hB hf (fun s2 h2 => ⟨_, rfl, fun y => ?_, fun y => s111 (by omega) h2 hNN hB hf (fun s3 h3 => ⟨_, rfl, ?_⟩)⟩)⟩⟩⟩
        · rw [bI_0, fld_nI hv.1 (by omega)] at z; exact absurd hf z
        · have z' : gb bits f = false := (and_sh1 (by omega)).mp z
          exact no (fun q => by rw [q.1] at z'; cases z') s' hS
        · exact no (fun q => q.2.elim ha (fun w => w y)) s2 h2
        · have z' : gb bits f = true := by
            cases hq : gb bits f
            · exact absurd ((and_sh1 (by omega)).mpr hq) z
            · rfl
          have := hK s3 h3
          unfold evT at this
          rw [if_pos ⟨z', Or.inr y⟩] at this
          exact this
      have out : ∀ (K44 : Int32 → Int32 → Int32 → Int32 → gs → Prop) (K63 : Int32 → Int32 → Int32 → Int32 → Int32 → gs → Prop) (far : Nat) (x : Int32) (a : Int32 × Int32) (s' : gs), ¬ fld D x → ¬ nI (gn (dg D) 1 + far) < x → far < 12 → XS s s' D → K63 bits a.1 a.2 (nI far) (x + 2 * nI far) s' → wb106_63 c d Post K44 K63 bits a.1 a.2 (nI far) x s' := by
        intro K44 K63 far x a s' hf hx hfl hS hK
        unfold wb106_63 w106_121
        rw [XS_g hS (i := 1) (by decide), a1, nI_add]
        refine ⟨fun z => absurd z hx, fun _ => s14 (by omega) hS.1.2.1 _ ⟨_, rfl, fun _ => hK, fun z => ?_⟩⟩
        rw [bI_0, Classical.not_not] at z; exact absurd z hf
      have inner : ∀ (K44 : Int32 → Int32 → Int32 → Int32 → gs → Prop) (far : Nat) (a : Int32 × Int32) (s' : gs), 1 ≤ far → far < 12 → ¬ a.1 = -1 → XS s s' D → (∀ s'', ¬ (evS D bits far a).1 = -1 → XS s s'' D → K44 bits (evS D bits far a).1 (evS D bits far a).2 (nI (far + 1)) s'') → wl106_63 c d Post K44 3 bits a.1 a.2 (nI far) (nI (gn (dg D) 1) - nI far) s' := by
        intro K44 far a s' h1 h12 ha hS hK
        -- the end of the two
        have fin : ∀ (a' : Int32 × Int32) (s'' : gs), a' = evS D bits far a → ¬ a'.1 = -1 → XS s s'' D → wl106_63 c d Post K44 1 bits a'.1 a'.2 (nI far) (nI (gn (dg D) 1 + far) + 2 * nI far) s'' := by
          intro a' s'' ea hn hS''
          unfold wl106_63 wb106_63
          rw [XS_g hS'' (i := 1) (by decide), a1, nI_add, show (2 : Int32) * nI far = nI (2 * far) from pk_mul 2 far, nI_add, nI_lt' (by omega) (by omega), nI_1]
          refine ⟨fun _ => ?_, fun z => absurd (by omega) z⟩
          subst ea
          exact hK s'' hn hS''
        have e2 : nI (gn (dg D) 1) - nI far + 2 * nI far = nI (gn (dg D) 1 + far) := by
          rw [← nI_add]; grind
        have second : ∀ (a1' : Int32 × Int32) (s'' : gs), a1' = (if far ≤ gn (dg D) 1 then evT D bits (gn (dg D) 1 - far) a else a) → ¬ a1'.1 = -1 → XS s s'' D → wl106_63 c d Post K44 2 bits a1'.1 a1'.2 (nI far) (nI (gn (dg D) 1 + far)) s'' := by
          intro a1' s'' e1 hn hS''
          by_cases q : gn (dg D) 1 + far < dF D
          · refine cand K44 _ far _ a1' s'' q (Nat.le_refl _) h12 hn hS'' (fun s3 h3 => fin (evT D bits (gn (dg D) 1 + far) a1') s3 ?_ (evT_n (by omega) hn) h3)
            unfold evS
            rw [if_pos q, ← e1]
          · refine out K44 _ far _ a1' s'' (fun z => q ((fld_nI hv.1 (by omega)).mp z)) (fun z => absurd ((nI_lt' (by omega) (by omega)).mp z) (by omega)) h12 hS'' (fin a1' s'' ?_ hn hS'')
            unfold evS
            rw [if_neg q, ← e1]
        by_cases q : far ≤ gn (dg D) 1
        · rw [nI_sub q]
          refine cand K44 _ far _ a s' (by omega) (by omega) h12 ha hS (fun s3 h3 => ?_)
          rw [← nI_sub q, e2]
          exact second _ s3 (by rw [if_pos q]) (evT_n (by omega) ha) h3
        · have hneg : nI (gn (dg D) 1) - nI far < 0 := pk_sneg (by omega) (by omega)
          refine out K44 _ far _ a s' (fun z => absurd z.1 (i_nle.mpr hneg)) (fun z => ?_) h12 hS ?_
          · have h0 : 0 ≤ nI (gn (dg D) 1 + far) := nI_pos' (by omega)
            grind
          · rw [e2]
            exact second a s' (by rw [if_neg q]) ha hS
      have outer : ∀ (m far : Nat) (a : Int32 × Int32) (s' : gs), far + m = 12 → 1 ≤ far → ¬ a.1 = -1 → XS s s' D → fl (evS D bits) far m a = R → wl106_44 c d Post (m + 1) bits a.1 a.2 (nI far) s' := by
        intro m
        induction m with
        | zero =>
          intro far a s' hf h1 ha hS hr
          have hr' : a = R := hr
          subst hr'
          exact ⟨fun _ => s45' (by omega) hS _ (fun s2 h2 f2 => ⟨rfl, k s2 h2⟩), fun z => absurd (le_t (a := 12) (by decide) (by omega) (by omega)) z⟩
        | succ m ih =>
          intro far a s' hf h1 ha hS hr
          refine ⟨fun z => absurd z (le_f (a := 12) (by decide) (by omega) (by omega)), fun _ => ⟨3, ?_⟩⟩
          rw [XS_g hS (i := 1) (by decide), a1]
          exact inner _ far a s' h1 (by omega) ha hS (fun s'' hn hS' => ih (far + 1) _ s'' (by omega) (by omega) hn hS' hr)
      have hS := XS_rf h.2.1
      refine okm106 c d Post s (s84 (by omega) hS a0 (by omega) ⟨_, rfl, fun z => absurd z qw, fun _ => ?_⟩)
      rw [whn_e qw, XS_g hS (i := 1) (by decide), a1]
      refine s112 (by omega) hS.1.2.1 hS.1.2.2.2.1 hwl b1 (by rw [XS_g hS (by decide)]; exact a2) b2 ⟨_, rfl, ?_⟩
      rw [XS_g hS (i := 1) (by decide), a1, hbits]
      refine s111 (by omega) hS hNN hB b1 (fun s2 h2 => ⟨_, rfl, 12, ?_⟩)
      exact outer 11 1 (nI (gn (dg D) 1), tvD D (gn (dg D) 1)) s2 rfl (by omega) (ni_1 (by omega)) h2 hR
    · obtain ⟨d, rfl⟩ := d_1 (show 1 ≤ d by omega)
      refine okm218 c d Post s1 ?_
      rintro s2 rfl
      have hm1 := MS_thr hm 0
      generalize hwt : who (dg D) (gn (dg D) 0 + 1) = wt
      have stp : ∀ far, 1 ≤ far → far < 12 → (if 1 < 2 * nI far then 2 * nI far else 1) = 2 * nI far := by
        intro far h1 h2
        rw [show (2 : Int32) * nI far = nI (2 * far) from pk_mul 2 far]
        exact if_pos ((nI_lt' (a := 1) (by decide) (by omega)).mpr (by omega))
      have cand : ∀ (K70 : Int32 → Int32 → Int32 → Int32 → Int32 → gs → Prop) (K90 : Int32 → Int32 → Int32 → Int32 → Int32 → Int32 → gs → Prop) (far f : Nat) (a : Int32 × Int32) (s' : gs), f < dF D → f ≤ gn (dg D) 1 + far → far < 12 → MS s1 s' D → (∀ s'', MS s1 s'' D → K90 wt bits (evT D bits f a).1 (evT D bits f a).2 (nI far) (nI f + (if 1 < 2 * nI far then 2 * nI far else 1)) s'') → wb218_90 c d Post K70 K90 wt bits a.1 a.2 (nI far) (nI f) s' := by
        intro K70 K90 far f a s' hf hfar hfl hS hK
        have w167 : ∀ (v : Int32) (s'' : gs), gb bits f = true → v = tvD D f → MS s1 s'' D → w218_167 c d Post K70 K90 wt bits a.1 a.2 (nI far) (nI f) v s'' := by
          intro v s'' hg hv' h''
          subst hv'
          have hk := hK s'' h''
          unfold evT at hk
          refine ⟨fun z => ?_, fun z => ⟨fun y => ?_, fun y => ?_⟩⟩
          · rw [if_pos ⟨hg, Or.inl z⟩] at hk; exact hk
          · rw [if_pos ⟨hg, Or.inr (i_nle.mpr y)⟩] at hk; exact hk
          · rw [if_neg (fun q => q.2.elim z (fun w => w (i_nlt.mp y)))] at hk; exact hk
        unfold wb218_90
        rw [MS_G hS, show dg D (1 : Int32).toNatClampNeg = nI (gn (dg D) 1) from a1, nI_add, nI_lt' (by omega) (by omega)]
        refine ⟨vpd rfl, fun z => absurd z (by omega), fun _ => s158 (by omega) hS.1.2.1 _ ⟨_, rfl, fun z => ?_, fun _ => s155 (by omega) _ _ ⟨_, rfl, ?_⟩⟩⟩
        · rw [bI_0, fld_nI hv.1 (by omega)] at z; exact absurd hf z
        rw [gb_tt (by omega)]
        refine ⟨fun z => ?_, fun z => ?_⟩
        · have z' : ¬ gb bits f = true := fun w => by rw [if_pos w] at z; cases z
          have hk := hK s' hS
          unfold evT at hk
          rw [if_neg (fun q => z' q.1)] at hk
          exact hk
        · have z' : gb bits f = true := by
            by_cases w : gb bits f = true
            · exact w
            · rw [if_neg w] at z; exact absurd rfl z
          refine ⟨fun y => w167 0 s' z' ?_ hS, fun y => ⟨vpd rfl, ?_⟩⟩
          · unfold tvD; rw [hwt, if_pos y]
          · rw [MS_G hS, show dg D (2 : Int32).toNatClampNeg = nI (gn (dg D) 2) from a2]
            refine s185 (by omega) (by omega) (by omega) ⟨_, rfl, fun w => ?_, fun w => ⟨vpd rfl, ?_⟩⟩
            · rw [bI_0] at w
              refine w167 0 s' z' ?_ hS
              unfold tvD; rw [hwt, if_neg y, if_pos w]
            · rw [bI_0, Classical.not_not] at w
              have y' : ¬ who (dg D) (gn (dg D) 0 + 1) = -1 := by rw [hwt]; exact y
              have ew : wt = nI (whn (dg D) (gn (dg D) 0 + 1)) := by rw [← hwt]; exact whn_e y'
              rw [MS_G hS]
              have c182 : tE c d 182 [.ref 48, .ref 49, .int (nI (whn (dg D) (gn (dg D) 0 + 1))), .int (nI f), .int (dg D (0 : Int32).toNatClampNeg + 1)] s' (fun v16 s_16 => ∃ x_16 : Int32, v16 = some (.int x_16) ∧ w218_167 c d Post K70 K90 wt bits a.1 a.2 (nI far) (nI f) x_16 s_16) := by
                refine s182 (by omega) hS.1.2.1 hS.1.2.2.1 hS.1.2.2.2.1 rfl (whn_lt _ _) hf (by rw [MS_G hS]; exact a2) b2 _ (fun s3 f3 => ⟨_, rfl, ?_⟩)
                refine w167 _ s3 z' ?_ (MS_frJ hS f3)
                rw [MS_G hS]
                unfold tvD
                rw [if_neg y', if_neg (fun u => u w)]
                rfl
              rw [← ew] at c182
              exact c182
      have out : ∀ (K70 : Int32 → Int32 → Int32 → Int32 → Int32 → gs → Prop) (K90 : Int32 → Int32 → Int32 → Int32 → Int32 → Int32 → gs → Prop) (far : Nat) (x : Int32) (a : Int32 × Int32) (s' : gs), ¬ fld D x → ¬ nI (gn (dg D) 1 + far) < x → far < 12 → MS s1 s' D → K90 wt bits a.1 a.2 (nI far) (x + (if 1 < 2 * nI far then 2 * nI far else 1)) s' → wb218_90 c d Post K70 K90 wt bits a.1 a.2 (nI far) x s' := by
        intro K70 K90 far x a s' hf hx hfl hS hK
        unfold wb218_90
        rw [MS_G hS, show dg D (1 : Int32).toNatClampNeg = nI (gn (dg D) 1) from a1, nI_add]
        refine ⟨vpd rfl, fun z => absurd z hx, fun _ => s158 (by omega) hS.1.2.1 _ ⟨_, rfl, fun _ => hK, fun z => ?_⟩⟩
        rw [bI_0, Classical.not_not] at z; exact absurd z hf
      have fin : ∀ (K70 : Int32 → Int32 → Int32 → Int32 → Int32 → gs → Prop) (far : Nat) (x : Int32) (a : Int32 × Int32) (s' : gs), far < 12 → nI (gn (dg D) 1 + far) < x → MS s1 s' D → K70 wt bits a.1 a.2 (nI (far + 1)) s' → wl218_90 c d Post K70 1 wt bits a.1 a.2 (nI far) x s' := by
        intro K70 far x a s' h12 hx hS hK
        unfold wl218_90 wb218_90
        rw [MS_G hS, show dg D (1 : Int32).toNatClampNeg = nI (gn (dg D) 1) from a1, nI_add, nI_1]
        exact ⟨vpd rfl, fun _ => hK, fun z => absurd hx z⟩
      have inner : ∀ (K70 : Int32 → Int32 → Int32 → Int32 → Int32 → gs → Prop) (far : Nat) (a : Int32 × Int32) (s' : gs), 1 ≤ far → far < 12 → MS s1 s' D → (∀ s'', MS s1 s'' D → K70 wt bits (evS D bits far a).1 (evS D bits far a).2 (nI (far + 1)) s'') → wl218_90 c d Post K70 3 wt bits a.1 a.2 (nI far) (nI (gn (dg D) 1) - nI far) s' := by
        intro K70 far a s' h1 h12 hS hK
        have e2 : nI (gn (dg D) 1) - nI far + 2 * nI far = nI (gn (dg D) 1 + far) := by
          rw [← nI_add]; grind
        have e3 : nI (gn (dg D) 1 + far) < nI (gn (dg D) 1 + far) + 2 * nI far := by
          rw [show (2 : Int32) * nI far = nI (2 * far) from pk_mul 2 far, nI_add]
          exact (nI_lt' (by omega) (by omega)).mpr (by omega)
        have es := stp far h1 h12
        have second : ∀ (a1' : Int32 × Int32) (s'' : gs), a1' = (if far ≤ gn (dg D) 1 then evT D bits (gn (dg D) 1 - far) a else a) → MS s1 s'' D → wl218_90 c d Post K70 2 wt bits a1'.1 a1'.2 (nI far) (nI (gn (dg D) 1 + far)) s'' := by
          intro a1' s'' e1 hS''
          by_cases q : gn (dg D) 1 + far < dF D
          · refine cand K70 _ far _ a1' s'' q (Nat.le_refl _) h12 hS'' (fun s3 h3 => ?_)
            rw [es]
            refine fin K70 far _ (evT D bits (gn (dg D) 1 + far) a1') s3 h12 e3 h3 ?_
            have := hK s3 h3
            unfold evS at this
            rw [if_pos q, ← e1] at this
            exact this
          · refine out K70 _ far _ a1' s'' (fun z => q ((fld_nI hv.1 (by omega)).mp z)) (fun z => absurd ((nI_lt' (by omega) (by omega)).mp z) (by omega)) h12 hS'' ?_
            rw [es]
            refine fin K70 far _ a1' s'' h12 e3 hS'' ?_
            have := hK s'' hS''
            unfold evS at this
            rw [if_neg q, ← e1] at this
            exact this
        by_cases q : far ≤ gn (dg D) 1
        · rw [nI_sub q]
          refine cand K70 _ far _ a s' (by omega) (by omega) h12 hS (fun s3 h3 => ?_)
          rw [es, ← nI_sub q, e2]
          exact second _ s3 (by rw [if_pos q]) h3
        · have hneg : nI (gn (dg D) 1) - nI far < 0 := pk_sneg (by omega) (by omega)
          refine out K70 _ far _ a s' (fun z => absurd z.1 (i_nle.mpr hneg)) (fun z => ?_) h12 hS ?_
          · have h0 : 0 ≤ nI (gn (dg D) 1 + far) := nI_pos' (by omega)
            grind
          · rw [es, e2]
            exact second a s' (by rw [if_neg q]) hS
      have outer : ∀ (m far : Nat) (a : Int32 × Int32) (s' : gs), far + m = dF D → 1 ≤ far → MS s1 s' D → fl (evS D bits) far m a = R → wl218_70 c d Post (m + 1) wt bits a.1 a.2 (nI far) s' := by
        intro m
        induction m with
        | zero =>
          intro far a s' hf h1 hS hr
          have hr' : a = R := hr
          subst hr'
          unfold wl218_70 wb218_70
          rw [hS.1.2.1.2.1]
          refine ⟨fun _ => ?_, fun z => absurd (le_t (by omega) (by omega) (by omega)) z⟩
          rintro s3 rfl
          exact s157r (by omega) (MS_row0 hS (r1 (501 + a.2).toInt64)) (by decide) rfl (fun s2 h2 f2 => ⟨rfl, k s2 h2⟩)
        | succ m ih =>
          intro far a s' hf h1 hS hr
          unfold wl218_70 wb218_70
          rw [hS.1.2.1.2.1, MS_G hS, show dg D (1 : Int32).toNatClampNeg = nI (gn (dg D) 1) from a1]
          refine ⟨fun z => absurd z (le_f (by omega) (by omega) (by omega)), fun _ => ⟨vpd rfl, 3, ?_⟩⟩
          exact inner _ far a s' h1 (by omega) hS (fun s'' hS' => ih (far + 1) _ s'' (by omega) (by omega) hS' hr)
      rw [MS_G hm1, show dg D (0 : Int32).toNatClampNeg = nI (gn (dg D) 0) from a0]
      refine ⟨vpd rfl, s184' (by omega) (MS_G hm1) (by omega) ⟨_, rfl, fun z => absurd z qw, fun _ => ⟨vpd rfl, s184n (i := 1) (by omega) hm1 a0 (by omega) ⟨_, rfl, vpd rfl, vpd rfl, ?_⟩⟩⟩⟩
      rw [hwt, whn_e qw, MS_G hm1, show dg D (1 : Int32).toNatClampNeg = nI (gn (dg D) 1) from a1, show dg D (2 : Int32).toNatClampNeg = nI (gn (dg D) 2) from a2]
      refine s189 (by omega) hm1.1.2.1 hm1.1.2.2.2.1 hwl b1 (by omega) ⟨_, rfl, dF D + 1, ?_⟩
      rw [hbits]
      -- the army's own field first
      obtain ⟨m, hm'⟩ : ∃ m, dF D = m + 1 := ⟨dF D - 1, by omega⟩
      rw [hm'] at hR' ⊢
      unfold wl218_70 wb218_70
      rw [hm1.1.2.1.2.1, MS_G hm1, show dg D (1 : Int32).toNatClampNeg = nI (gn (dg D) 1) from a1]
      refine ⟨fun z => absurd z (le_f (b := 0) (by omega) (by decide) (by omega)), fun _ => ⟨vpd rfl, 2, ?_⟩⟩
      rw [show nI (gn (dg D) 1) - 0 = nI (gn (dg D) 1) by grind]
      refine cand _ _ 0 _ (-1, 0) _ b1 (Nat.le_refl _) (by decide) hm1 (fun s3 h3 => ?_)
      have e0 : evT D bits (gn (dg D) 1) (-1, 0) = (nI (gn (dg D) 1), tvD D (gn (dg D) 1)) := by
        unfold evT
        rw [if_pos ⟨hself, Or.inl rfl⟩]
      rw [e0, show (if (1 : Int32) < 2 * nI 0 then 2 * nI 0 else 1) = 1 from rfl, nI_1]
      refine fin _ 0 _ (nI (gn (dg D) 1), tvD D (gn (dg D) 1)) s3 (by decide) ((nI_lt' (by omega) (by omega)).mpr (by omega)) h3 ?_
      exact outer m 1 _ s3 (by omega) (by omega) h3 hR'
end C14
