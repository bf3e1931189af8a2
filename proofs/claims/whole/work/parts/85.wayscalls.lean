/-! Whose day it was: the reference's side; calls: was, sure, ask. -/
/-- what the reference's table holds -/
def rv (P : Nat → Nat → Bool) (k i c r : Nat) : Nat := if i = 0 then 1 else wy P k (i - 1) (1 - c) k + wy P k (i - 1) c (k - r)
theorem rv_wy (P : Nat → Nat → Bool) {k i w r : Nat} (hr : 1 ≤ r ∧ r ≤ k) (hP : P i w = true) : rv P k i w r = wy P k i w (k - r + 1) := by
  unfold rv
  cases i with
  | zero => rw [if_pos rfl, wy_0, if_neg (by omega), if_pos hP]
  | succ i => rw [if_neg (by omega), wy_s, if_neg (by omega), if_pos hP]; rfl
theorem wy_f (P : Nat → Nat → Bool) (k : Nat) {i w : Nat} (r : Nat) (hP : ¬ P i w = true) : wy P k i w r = 0 := by
  cases i with
  | zero => rw [wy_0, if_neg hP, ite_self]
  | succ i => rw [wy_s, if_neg hP, ite_self]
def FX (s : gs) (D : DD) (P : Nat → Nat → Bool) : Prop := ∀ i, i < 20 → ∀ w, w < 2 → P i w = (ftB D i w && (decide (¬ nI i = gsV s 48 36) || decide (nI w = gsV s 48 37)))
def RT (s : gs) (P : Nat → Nat → Bool) (k n : Nat) : Prop := ∀ i, i ≤ n → ∀ w, w < 2 → ∀ r, 1 ≤ r → r ≤ k → gsA s 70 (8 * i + 4 * w + r) = nI (rv P k i w r)
theorem MS_67 {s0 s : gs} {D : DD} (h : MS s0 s D) (x y : Int32) : MS s0 (gs_V (gs_V s 48 36 x) 48 37 y) D := by
  obtain ⟨⟨h1, h2, h3, h4, h5, h6, h7, h8, h9, h10⟩, hf⟩ := h
  exact ⟨⟨h1, h2, h3, h4, h5, h6, h7, h8, h9, h10⟩, frM_V (frM_V hf (by decide) _ _) (by decide) _ _⟩
def RJ (s : gs) (P : Nat → Nat → Bool) (k i w r : Nat) : Prop := ∀ i' w' r', i' < 21 → w' < 2 → 1 ≤ r' → r' ≤ k → dnI i w r i' w' r' → gsA s 70 (8 * i' + 4 * w' + r') = nI (rv P k i' w' r')
def sp1 (P : Nat → Nat → Bool) (k i c r w : Nat) : Nat := if w = c then wy P k i w (k - r) else wy P k i w k
theorem sp_rv (P : Nat → Nat → Bool) {k i c r : Nat} (hc : c < 2) : sp1 P k i c r 0 + sp1 P k i c r 1 = rv P k (i + 1) c r := by
  unfold sp1 rv
  rcases (show c = 0 ∨ c = 1 by omega) with rfl | rfl
  · rw [if_pos rfl, if_neg (by decide), if_neg (by omega)]
    show _ + wy P k i 1 k = wy P k i 1 k + _
    rw [Nat.add_comm]
    rfl
  · rw [if_neg (by decide), if_pos rfl, if_neg (by omega)]
    rfl
section W4
variable {c : gx} {d B : Nat} {Post : Option Value → gs → Prop} {s0 s : gs} {D : DD} {P : Nat → Nat → Bool}
theorem s243 (hd : 2 ≤ d) (h : MS s0 s D) {i w : Nat} (hi : i < 20) (hw : w < 2) (kk : Post (some (.int (if ftB D i w = true then 1 else 0))) s) : tE c d 243 [.ref 48, .int (nI i), .int (nI w)] s Post := by
  obtain ⟨d, rfl⟩ := d_1 (show 1 ≤ d by omega)
  obtain ⟨o1, o2⟩ := h.1.2.2.2.2.2.2.2.2.2.1
  have hD := (h.1.2.2.2.1 w hw).1
  refine okm243 c d Post _ _ s ?_
  unfold wm243
  rw [o1]
  refine s155 (by omega) _ _ ⟨_, rfl, ?_⟩
  rw [gb_tt (by omega)]
  by_cases q : gb (ds D) i = true
  · rw [if_pos q]
    have f0 : ftB D i w = true ↔ ¬ db D w / 3 + 1 < dS D i := by
      unfold ftB
      rw [q]
      simp
    refine ⟨fun z => absurd z (by decide), fun _ => s186 (by omega) hw ⟨_, rfl, vp_in_nI hi (by decide), ?_⟩⟩
    rw [nI_clamp (by omega), hD, o2 i hi]
    refine ⟨fun z => ?_, fun z => ?_⟩
    · rw [if_neg (fun e => (f0.mp e) z)] at kk
      exact ⟨Or.inl rfl, kk⟩
    · rw [if_pos (f0.mpr z)] at kk
      exact ⟨Or.inr rfl, kk⟩
  · rw [if_neg q]
    have f0 : ftB D i w = true := by
      unfold ftB
      cases hq : gb (ds D) i
      · rfl
      · exact absurd hq q
    rw [if_pos f0] at kk
    exact ⟨fun _ => ⟨Or.inr rfl, kk⟩, fun z => absurd rfl z⟩
theorem s246 (hd : 3 ≤ d) (h : MS s0 s D) (hP : FX s D P) {i w : Nat} (hi : i < 20) (hw : w < 2) (kk : Post (some (.int (if P i w = true then 1 else 0))) s) : tE c d 246 [.ref 48, .int (nI i), .int (nI w)] s Post := by
  obtain ⟨d, rfl⟩ := d_1 (show 1 ≤ d by omega)
  have e := hP i hi w hw
  refine okm246 c d Post _ _ s (s243 (by omega) h hi hw ⟨_, rfl, fun z => ?_, fun z => ⟨fun y => ⟨fun x => ?_, fun x => ?_⟩, fun y => ?_⟩⟩)
  · have f : ¬ ftB D i w = true := fun f => by rw [if_pos f] at z; exact absurd z (by decide)
    rw [if_neg (fun p => by rw [e, Bool.and_eq_true] at p; exact f p.1)] at kk
    exact ⟨Or.inl rfl, kk⟩
  · have f : ftB D i w = true := by
      by_cases f : ftB D i w = true
      · exact f
      · rw [if_neg f] at z; exact absurd rfl z
    rw [if_pos (by rw [e, f, decide_eq_true x]; simp)] at kk
    exact ⟨Or.inr rfl, kk⟩
  · rw [if_neg (fun p => by
      rw [e, Bool.and_eq_true, decide_eq_false x, decide_eq_false (fun n => n y)] at p
      exact absurd p.2 (by decide))] at kk
    exact ⟨Or.inl rfl, kk⟩
  · have f : ftB D i w = true := by
      by_cases f : ftB D i w = true
      · exact f
      · rw [if_neg f] at z; exact absurd rfl z
    rw [if_pos (by rw [e, f, decide_eq_true y]; simp)] at kk
    exact ⟨Or.inr rfl, kk⟩
theorem s244 (hd : 1 ≤ d) (i w r : Nat) (kk : Post (some (.int (nI (8 * i + 4 * w + r)))) s) : tE c d 244 [.int (nI i), .int (nI w), .int (nI r)] s Post := by
  obtain ⟨d, rfl⟩ := d_1 hd
  refine okm244 c d Post _ _ _ s ?_
  unfold wm244
  rw [n8]
  exact kk
theorem s245 (hd : 4 ≤ d) (h : MS s0 s D) (hP : FX s D P) {n k : Nat} (hn : 1 ≤ n ∧ n ≤ 20) (hk : 1 ≤ k ∧ k ≤ 3) (kk : ∀ s', MS s0 s' D → FX s' D P → RT s' P k n → Post none s') : tE c d 245 [.ref 48, .int (nI n), .int (nI k)] s Post := by
  obtain ⟨d, rfl⟩ := d_1 (show 1 ≤ d by omega)
  have fP : ∀ s', frA s s' 70 → FX s' D P := by
    intro s' hf i hi w hw
    rw [hf.1]
    exact hP i hi w hw
  -- the two of a sum
  have sm2 : ∀ (K2 : Int32 → Int32 → Int32 → gs → Prop) (K10 : Int32 → Int32 → Int32 → Int32 → gs → Prop) (K19 : Int32 → Int32 → Int32 → Int32 → Int32 → gs → Prop) (i w r : Nat) (s' : gs), i < 20 → w < 2 → 1 ≤ r → r ≤ k → frA s s' 70 → RJ s' P k (i + 1) w r → w245_110 c d Post K2 K10 K19 (nI n) (nI k) (nI (i + 1)) (nI w) (nI r) (nI (rv P k (i + 1) w r)) s' → ∀ (m v : Nat), v + m = 2 → wl245_39 c d Post K2 K10 K19 (m + 1) (nI n) (nI k) (nI (i + 1)) (nI w) (nI r) (nI (if v = 0 then 0 else if v = 1 then sp1 P k i w r 0 else sp1 P k i w r 0 + sp1 P k i w r 1)) (nI v) s' := by
    intro K2 K10 K19 i w r s' hi hw hr hrk hf hj hend m
    have hS := MS_scr h hf (by decide)
    induction m with
    | zero =>
      intro v hv
      have e : v = 2 := by omega
      subst e
      unfold wl245_39 wb245_39
      refine ⟨fun _ => ?_, fun z => absurd (by decide) z⟩
      rw [if_neg (by decide), if_neg (by decide), sp_rv P hw]
      exact hend
    | succ m ih =>
      intro v hv
      have h2 : v < 2 := by omega
      have es : nI (if v = 0 then 0 else if v = 1 then sp1 P k i w r 0 else sp1 P k i w r 0 + sp1 P k i w r 1) + nI (sp1 P k i w r v) = nI (if v + 1 = 0 then 0 else if v + 1 = 1 then sp1 P k i w r 0 else sp1 P k i w r 0 + sp1 P k i w r 1) := by
        rw [nI_add]
        rcases (show v = 0 ∨ v = 1 by omega) with rfl | rfl <;> simp
      have go : ∀ r' : Nat, 1 ≤ r' → r' ≤ k + 1 → sp1 P k i w r v = wy P k i v (k - r' + 1 - (if k < r' then 1 else 0)) → w245_64 c d Post K2 K10 K19 (wl245_39 c d Post K2 K10 K19 (m + 1)) (nI n) (nI k) (nI (i + 1)) (nI w) (nI r) (nI (if v = 0 then 0 else if v = 1 then sp1 P k i w r 0 else sp1 P k i w r 0 + sp1 P k i w r 1)) (nI v) (nI r') s' := by
        intro r' h1 h2' hsp
        have z0 : sp1 P k i w r v = 0 → w245_104 c d Post K2 K10 K19 (wl245_39 c d Post K2 K10 K19 (m + 1)) (nI n) (nI k) (nI (i + 1)) (nI w) (nI r) (nI (if v = 0 then 0 else if v = 1 then sp1 P k i w r 0 else sp1 P k i w r 0 + sp1 P k i w r 1)) (nI v) s' := by
          intro hz
          unfold w245_104
          rw [hz] at es
          have es' : nI (if v = 0 then 0 else if v = 1 then sp1 P k i w r 0 else sp1 P k i w r 0 + sp1 P k i w r 1) = nI (if v + 1 = 0 then 0 else if v + 1 = 1 then sp1 P k i w r 0 else sp1 P k i w r 0 + sp1 P k i w r 1) := by
            rw [← es, nI_add, Nat.add_zero]
          rw [nI_1, es']
          exact ih (v + 1) (by omega)
        unfold w245_64
        rw [show nI (i + 1) - 1 = nI i from nI_pred i]
        refine ⟨fun z => z0 ?_, fun z => s246 (by omega) hS (fP s' hf) hi h2 ⟨_, rfl, fun y => z0 ?_, fun y => s244 (by omega) i v r' ⟨_, rfl, vp_in_nI (by omega) (by decide), ?_⟩⟩⟩
        · have : k < r' := (nI_lt' (by omega) (by omega)).mp z
          rw [hsp, if_pos this, show k - r' + 1 - 1 = 0 by omega, wy_r0]
        · rw [hsp]
          refine wy_f P k _ (fun p => ?_)
          rw [if_pos p] at y
          exact absurd y (by decide)
        · have hrk' : ¬ k < r' := fun q => z ((nI_lt' (by omega) (by omega)).mpr q)
          have p : P i v = true := by
            by_cases p : P i v = true
            · exact p
            · rw [if_neg p] at y; exact absurd rfl y
          rw [nI_clamp (by omega), hj i v r' (by omega) h2 h1 (by omega) (Or.inl (by omega)), rv_wy P ⟨h1, by omega⟩ p]
          rw [hsp, if_neg hrk', Nat.sub_zero] at es
          unfold w245_104
          rw [es, nI_1]
          exact ih (v + 1) (by omega)
      unfold wl245_39 wb245_39
      refine ⟨fun z => absurd z (le_f (a := 2) (by decide) (by omega) (by omega)), fun _ => ⟨fun z => absurd z (nI_nle (by omega) (by omega)), fun _ => ?_⟩⟩
      rw [nI_eq' (by omega) (by omega)]
      refine ⟨fun z => ?_, fun z => ?_⟩
      · rw [nI_1]
        refine go (r + 1) (by omega) (by omega) ?_
        unfold sp1
        rw [if_pos z]
        congr 1
        by_cases q : k < r + 1
        · rw [if_pos q]; omega
        · rw [if_neg q]; omega
      · refine go 1 (Nat.le_refl _) (by omega) ?_
        unfold sp1
        rw [if_neg z, if_neg (by omega)]
        congr 1
        omega
  have runs : ∀ (K2 : Int32 → Int32 → Int32 → gs → Prop) (K10 : Int32 → Int32 → Int32 → Int32 → gs → Prop) (i w : Nat), i ≤ n → w < 2 → (∀ s', frA s s' 70 → RJ s' P k i (w + 1) 0 → K10 (nI n) (nI k) (nI i) (nI (w + 1)) s') → ∀ (m r : Nat) (s' : gs), 1 ≤ r → r + m = k + 1 → frA s s' 70 → RJ s' P k i w r → wl245_19 c d Post K2 K10 (m + 1) (nI n) (nI k) (nI i) (nI w) (nI r) s' := by
    intro K2 K10 i w hi hw hK m
    induction m with
    | zero =>
      intro r s' h1 hr hf hj
      unfold wl245_19 wb245_19
      refine ⟨fun _ => ?_, fun z => absurd ((nI_lt' (by omega) (by omega)).mpr (by omega)) z⟩
      rw [nI_1]
      refine hK s' hf (fun i' w' r' a1 a2 a3 a4 a5 => hj i' w' r' a1 a2 a3 a4 ?_)
      unfold dnI at a5 ⊢
      omega
    | succ m ih =>
      intro r s' h1 hr hf hj
      have hend : w245_110 c d Post K2 K10 (wl245_19 c d Post K2 K10 (m + 1)) (nI n) (nI k) (nI i) (nI w) (nI r) (nI (rv P k i w r)) s' := by
        refine s244 (by omega) i w r ⟨_, rfl, vp_in_nI (by omega) (by decide), ?_⟩
        rintro s2 rfl
        rw [nI_clamp (by omega), nI_1]
        refine ih (r + 1) _ (by omega) (by omega) (frA_A hf _ _) (fun i' w' r' a1 a2 a3 a4 a5 => ?_)
        rw [gsA_A]
        by_cases e : 8 * i' + 4 * w' + r' = 8 * i + 4 * w + r
        · have e1 : i' = i := by omega
          have e2 : w' = w := by omega
          have e3 : r' = r := by omega
          rw [e, upd_eq, e1, e2, e3]
          rfl
        · rw [upd_ne e]
          refine hj i' w' r' a1 a2 a3 a4 ?_
          unfold dnI at a5 ⊢
          omega
      unfold wl245_19 wb245_19
      refine ⟨fun z => absurd z (nI_nlt (by omega) (by omega)), fun _ => ?_⟩
      cases i with
      | zero =>
        refine ⟨fun _ => ⟨1, ?_⟩, fun z => absurd rfl z⟩
        unfold wl245_39 wb245_39
        refine ⟨fun z => absurd z (by decide), fun _ => ⟨fun _ => hend, fun z => absurd (Int32.le_refl _) z⟩⟩
      | succ i =>
        refine ⟨fun z => absurd z (nI_ne0 (by omega) (by omega)), fun _ => ⟨3, ?_⟩⟩
        exact sm2 K2 K10 _ i w r s' (by omega) hw h1 (by omega) hf hj hend 2 0 rfl
  have mid : ∀ (K2 : Int32 → Int32 → Int32 → gs → Prop) (i : Nat), i ≤ n → (∀ s', frA s s' 70 → RJ s' P k (i + 1) 0 0 → K2 (nI n) (nI k) (nI (i + 1)) s') → ∀ (m w : Nat) (s' : gs), w + m = 2 → frA s s' 70 → RJ s' P k i w 0 → wl245_10 c d Post K2 (m + 1) (nI n) (nI k) (nI i) (nI w) s' := by
    intro K2 i hi hK m
    induction m with
    | zero =>
      intro w s' hw hf hj
      unfold wl245_10 wb245_10
      refine ⟨fun _ => ?_, fun z => absurd (le_t (a := 2) (by decide) (by omega) (by omega)) z⟩
      rw [nI_1]
      refine hK s' hf (fun i' w' r' a1 a2 a3 a4 a5 => hj i' w' r' a1 a2 a3 a4 ?_)
      unfold dnI at a5 ⊢
      omega
    | succ m ih =>
      intro w s' hw hf hj
      unfold wl245_10 wb245_10
      refine ⟨fun z => absurd z (le_f (a := 2) (by decide) (by omega) (by omega)), fun _ => ⟨k + 1, ?_⟩⟩
      refine runs K2 _ i w hi (by omega) (fun s2 f2 j2 => ih (w + 1) s2 (by omega) f2 j2) k 1 s' (Nat.le_refl _) (by omega) hf (fun i' w' r' a1 a2 a3 a4 a5 => hj i' w' r' a1 a2 a3 a4 ?_)
      unfold dnI at a5 ⊢
      omega
  have outer : ∀ (m i : Nat) (s' : gs), i + m = n + 1 → frA s s' 70 → RJ s' P k i 0 0 → wl245_2 c d Post (m + 1) (nI n) (nI k) (nI i) s' := by
    intro m
    induction m with
    | zero =>
      intro i s' hi hf hj
      unfold wl245_2 wb245_2
      refine ⟨fun _ => kk s' (MS_scr h hf (by decide)) (fP s' hf) (fun i' h1 w' h2 r' h3 h4 => hj i' w' r' (by omega) h2 h3 h4 (Or.inl (by omega))), fun z => absurd ((nI_lt' (by omega) (by omega)).mpr (by omega)) z⟩
    | succ m ih =>
      intro i s' hi hf hj
      unfold wl245_2 wb245_2
      refine ⟨fun z => absurd z (nI_nlt (by omega) (by omega)), fun _ => ⟨3, ?_⟩⟩
      exact mid _ i (by omega) (fun s2 f2 j2 => ih (i + 1) s2 (by omega) f2 j2) 2 0 s' rfl hf hj
  exact okm245 c d Post _ _ s ⟨n + 2, outer (n + 1) 0 s (by omega) (frA_rf s 70) (fun i' w' r' a1 a2 a3 a4 a5 => by
    unfold dnI at a5
    omega)⟩
theorem s247 (hd : 5 ≤ d) (h : MS s0 s D) {n k : Nat} (hn : 1 ≤ n ∧ n ≤ 20) (hk : 1 ≤ k ∧ k ≤ 3) (x y : Int32) (hP : ∀ i, i < 20 → ∀ w, w < 2 → P i w = (ftB D i w && (decide (¬ nI i = x) || decide (nI w = y)))) (kk : ∀ s', MS s0 s' D → FX s' D P → RT s' P k n → Post (some (.int (nI (wyT P k n)))) s') : tE c d 247 [.ref 48, .int (nI n), .int (nI k), .int x, .int y] s Post := by
  obtain ⟨d, rfl⟩ := d_1 (show 1 ≤ d by omega)
  refine okm247 c d Post _ _ _ _ s ?_
  rintro s1 rfl s2 rfl
  refine s245 (P := P) (by omega) (MS_67 h x y) hP hn hk (fun s3 h3 p3 t3 => ⟨rfl, 3, ?_⟩)
  have go : ∀ (a : Nat) (v : Nat), v < 2 → ∀ K : Int32 → Int32 → Int32 → gs → Prop, K (nI n) (nI (a + wy P k (n - 1) v k)) (nI (v + 1)) s3 → wb247_23 c d Post K (nI n) (nI a) (nI v) s3 := by
    intro a v hv K hK
    unfold wb247_23 w247_60
    rw [show nI n - 1 = nI (n - 1) from pk_sub (a := n) (b := 1) (by omega), nI_1]
    refine ⟨fun z => absurd z (le_f (a := 2) (by decide) (by omega) (by omega)), fun _ => s246 (by omega) h3 p3 (by omega) hv ⟨_, rfl, fun z => ?_, fun z => s244 (by omega) (n - 1) v 1 ⟨_, rfl, vp_in_nI (by omega) (by decide), ?_⟩⟩⟩
    · rw [wy_f P k k (fun p => by rw [if_pos p] at z; exact absurd z (by decide)), Nat.add_zero] at hK
      exact hK
    · have p : P (n - 1) v = true := by
        by_cases p : P (n - 1) v = true
        · exact p
        · rw [if_neg p] at z; exact absurd rfl z
      rw [nI_clamp (by omega), t3 (n - 1) (by omega) v hv 1 (Nat.le_refl _) hk.1, rv_wy P ⟨Nat.le_refl _, hk.1⟩ p, show k - 1 + 1 = k by omega, nI_add]
      exact hK
  refine go 0 0 (by decide) _ (go _ 1 (by decide) _ ?_)
  refine ⟨fun _ => ?_, fun z => absurd (by decide) z⟩
  rw [Nat.zero_add]
  exact kk s3 h3 p3 t3
theorem s248 (hd : 2 ≤ d) (x y : Int32) (k : Post (some (.int (bI ((1 ≤ x ∧ x ≤ 20) ∧ (1 ≤ y ∧ y ≤ 3))))) s) : tE c d 248 [.int x, .int y] s Post := by
  obtain ⟨d, rfl⟩ := d_1 (show 1 ≤ d by omega)
  refine okm248 c d Post x y s (s154 (by omega) _ _ _ ⟨_, rfl, fun z => ?_, fun z1 => s154 (by omega) _ _ _ ⟨_, rfl, fun z => ?_, fun z2 => ?_⟩⟩)
  · rw [bI_0] at z
    rw [bI_f (fun q => z q.1)] at k
    exact ⟨Or.inl rfl, k⟩
  · rw [bI_0] at z
    rw [bI_f (fun q => z q.2)] at k
    exact ⟨Or.inl rfl, k⟩
  · rw [bI_0, Classical.not_not] at z1 z2
    rw [bI_t ⟨z1, z2⟩] at k
    exact ⟨Or.inr rfl, k⟩
theorem ftP (i : Nat) (hi : i < 20) (w : Nat) (hw : w < 2) : ftB D i w = (ftB D i w && (decide (¬ nI i = -1) || decide (nI w = 0))) := by
  rw [decide_eq_true (ni_1 (by omega)), Bool.true_or, Bool.and_true]
theorem fxP {dy co : Nat} (hdy : dy < 20) (hco : co < 2) (i : Nat) (hi : i < 20) (w : Nat) (hw : w < 2) : fx (ftB D) dy co i w = (ftB D i w && (decide (¬ nI i = nI dy) || decide (nI w = nI co))) := by
  unfold fx
  rw [decide_eq_decide.mpr (show (¬ nI i = nI dy) ↔ ¬ i = dy by rw [nI_eq' (by omega) (by omega)]), decide_eq_decide.mpr (show (nI w = nI co) ↔ w = co from nI_eq' (by omega) (by omega))]
theorem old_n {x y : Int32} (q : (1 ≤ x ∧ x ≤ 20) ∧ (1 ≤ y ∧ y ≤ 3)) : ∃ n k, (1 ≤ n ∧ n ≤ 20) ∧ (1 ≤ k ∧ k ≤ 3) ∧ x = nI n ∧ y = nI k := by
  obtain ⟨n, h1, h2, h3⟩ := i_rng (a := 1) (b := 20) (by decide) q.1 (by decide)
  obtain ⟨k, k1, k2, k3⟩ := i_rng (a := 1) (b := 3) (by decide) q.2 (by decide)
  exact ⟨n, k, ⟨h1, h2⟩, ⟨k1, k2⟩, h3, k3⟩
def wsT (D : DD) (n k : Nat) : Int32 := if wyT (ftB D) k n = 0 then -1 else lwF (ftB D) k n k 0
theorem cl_was (h : HY d s B D) (x y : Int32) : CL c d 129 249 [.int x, .int y] s B := by
  have hd := h.1
  have hv := h.2.2.2.1
  by_cases q : (1 ≤ x ∧ x ≤ 20) ∧ (1 ≤ y ∧ y ≤ 3)
  · have hb := bI_t q
    obtain ⟨n, k, hn, hk, rfl, rfl⟩ := old_n q
    have hT := wyT_b (ftB D) k hn.2 hn.1
    refine glu1 h (D' := uW D 1 (r1 (wsT D n k).toInt64)) (x := nI (wyT (ftB D) k n)) (VD_W (VD_mono hv (Nat.le_add_right B 60)) _ _) (fun Post kk => ?_) (fun s1 Post hm kk => ?_)
    · obtain ⟨d, rfl⟩ := d_1 (show 1 ≤ d by omega)
      refine okm129 c d Post _ _ s (s132 (by omega) _ _ ⟨_, rfl, fun z => ?_, fun _ => s133 (by omega) (XS_rf h.2.1) hn hk (fun s2 h2 c2 t2 => ⟨_, rfl, s39 (by omega) t2 hn hk ⟨_, rfl, s45' (by omega) h2 _ (fun s3 h3 f3 => ⟨rfl, kk s3 h3⟩)⟩⟩)⟩)
      rw [hb] at z
      exact absurd z (by decide)
    · obtain ⟨d, rfl⟩ := d_1 (show 1 ≤ d by omega)
      refine okm249 c d Post _ _ s1 ?_
      rintro s2 rfl
      refine s248 (by omega) _ _ ⟨_, rfl, fun z => ?_, fun _ => s247 (P := ftB D) (by omega) (MS_thr hm 0) hn hk _ _ ftP (fun s3 h3 p3 t3 => ⟨_, rfl, n + 1, ?_⟩)⟩
      · rw [hb] at z
        exact absurd z (by decide)
      have fin : ∀ b : Int32, (¬ wyT (ftB D) k n = 0 → b = lwF (ftB D) k n k 0) → w249_138 c d Post (nI (wyT (ftB D) k n)) b s3 := by
        intro b hb2
        unfold w249_138
        rintro s4 rfl
        have tl : ∀ v : Int64, v = (wsT D n k).toInt64 → w249_157 c d Post (nI (wyT (ftB D) k n)) v (gs_V s3 48 12 0) := by
          intro v ev
          subst ev
          exact s157r (by omega) (MS_row0 h3 (r1 (wsT D n k).toInt64)) (by decide) rfl (fun s7 h7 e7 => ⟨rfl, kk s7 h7⟩)
        refine ⟨fun z => tl _ ?_, fun z => tl _ ?_⟩
        · have e : wyT (ftB D) k n = 0 := (nI_eq' (b := 0) (by omega) (by decide)).mp z
          unfold wsT
          rw [if_pos e]
          rfl
        · have e : ¬ wyT (ftB D) k n = 0 := fun e => z (by rw [e]; rfl)
          unfold wsT
          rw [if_neg e, hb2 e]
      by_cases e0 : wyT (ftB D) k n = 0
      · have ht := fin 0 (fun z => absurd e0 z)
        rw [e0] at ht ⊢
        unfold wl249_38 wb249_38
        exact ⟨fun _ => ht, fun _ => ⟨fun _ => ht, fun z => absurd (Int32.le_refl _) z⟩⟩
      have loop : ∀ (i r : Nat) (b co : Int32) (run : Nat), i ≤ n → r ≤ k → ((co = 0 ∧ r + run = k) ∨ (¬ co = 0 ∧ r = k)) → lwF (ftB D) k i r b = lwF (ftB D) k n k 0 → wl249_38 c d Post (i + 1) (nI k) (nI (wyT (ftB D) k n)) b co (nI run) (nI i - 1) s3 := by
        intro i
        induction i with
        | zero =>
          intro r b co run hi hr hco e
          unfold wl249_38 wb249_38
          exact ⟨fun _ => fin b (fun _ => e), fun z => absurd (by decide) z⟩
        | succ i ih =>
          intro r b co run hi hr hco e
          rw [lwF_1] at e
          have hwb := wy_b (ftB D) k (i := i) (by omega) 0 r
          have one : wy (ftB D) k i 0 r = 0 → w249_98 c d Post (wl249_38 c d Post (i + 1)) (nI k) (nI (wyT (ftB D) k n)) b co (nI run) (nI i) s3 := by
            intro hz
            rw [if_pos hz] at e
            unfold w249_98 w249_99 w249_116
            rw [show nI i + -1 = nI i - 1 by grind]
            refine ⟨fun z => ?_, fun z => ?_⟩
            · rw [nI_1]
              exact ih k _ 1 (run + 1) (by omega) (Nat.le_refl _) (Or.inr ⟨by decide, rfl⟩) e
            · exact ih k _ 1 1 (by omega) (Nat.le_refl _) (Or.inr ⟨by decide, rfl⟩) e
          have zer : ¬ wy (ftB D) k i 0 r = 0 → w249_99 c d Post (wl249_38 c d Post (i + 1)) (nI k) (nI (wyT (ftB D) k n)) b co (nI run) (nI i) 0 s3 := by
            intro hz
            have r0 : 1 ≤ r := by
              by_cases r0 : r = 0
              · rw [r0, wy_r0] at hz; exact absurd rfl hz
              · omega
            rw [if_neg hz] at e
            unfold w249_99 w249_116
            rw [show nI i + -1 = nI i - 1 by grind, show b ||| ((0 : Int32) <<< (nI i &&& 31)) = b by rw [Int32.zero_shiftLeft, Int32.or_zero]]
            refine ⟨fun z => ?_, fun z => ?_⟩
            · rcases hco with ⟨c1, c2⟩ | ⟨c1, _⟩
              · rw [nI_1]
                exact ih (r - 1) b 0 (run + 1) (by omega) (by omega) (Or.inl ⟨rfl, by omega⟩) e
              · exact absurd z c1
            · rcases hco with ⟨c1, c2⟩ | ⟨_, c2⟩
              · exact absurd c1 z
              · exact ih (r - 1) b 0 1 (by omega) (by omega) (Or.inl ⟨rfl, by omega⟩) e
          have go : ∀ r' : Nat, 1 ≤ r' → r' ≤ k + 1 → r = k + 1 - r' → w249_60 c d Post (wl249_38 c d Post (i + 1)) (nI k) (nI (wyT (ftB D) k n)) b co (nI run) (nI i) (nI r') s3 := by
            intro r' h1 h2 er
            refine ⟨fun z => one ?_, fun z => s246 (by omega) h3 p3 (by omega) (by decide : 0 < 2) ⟨_, rfl, fun y => one ?_, fun y => s244 (by omega) i 0 r' ⟨_, rfl, vp_in_nI (by omega) (by decide), ?_⟩⟩⟩
            · have : k < r' := (nI_lt' (by omega) (by omega)).mp z
              rw [show r = 0 by omega, wy_r0]
            · exact wy_f _ _ _ (fun p => by rw [if_pos p] at y; exact absurd y (by decide))
            · have hrk' : ¬ k < r' := fun q => z ((nI_lt' (by omega) (by omega)).mpr q)
              have p : ftB D i 0 = true := by
                by_cases p : ftB D i 0 = true
                · exact p
                · rw [if_neg p] at y; exact absurd rfl y
              rw [nI_clamp (by omega), t3 i (by omega) 0 (by decide) r' h1 (by omega), rv_wy (ftB D) ⟨h1, by omega⟩ p, show k - r' + 1 = r by omega]
              refine ⟨fun x => one ?_, fun x => zer (fun hz => x (by rw [hz]; exact Int32.le_refl _))⟩
              by_cases hz : wy (ftB D) k i 0 r = 0
              · exact hz
              · exact absurd x (nI_nle (by omega) (by omega))
          unfold wl249_38 wb249_38
          rw [nI_pred]
          refine ⟨fun z => absurd z (nI_pos (by omega)), fun _ => ⟨fun z => absurd z (nI_nle (by omega) (by omega)), fun _ => ⟨fun z => ?_, fun z => ?_⟩⟩⟩
          · rcases hco with ⟨c1, c2⟩ | ⟨c1, _⟩
            · rw [nI_1]
              exact go (run + 1) (by omega) (by omega) (by omega)
            · exact absurd z c1
          · rcases hco with ⟨c1, c2⟩ | ⟨_, c2⟩
            · exact absurd c1 z
            · exact go 1 (Nat.le_refl _) (by omega) (by omega)
      exact loop n k 0 (-1) 0 (Nat.le_refl _) (Nat.le_refl _) (Or.inr ⟨by decide, rfl⟩) rfl
  · have hb := bI_f q
    refine glu0 h (x := -1) (fun Post k => ?_) (fun s1 Post hm k => ?_)
    · obtain ⟨d, rfl⟩ := d_1 (show 1 ≤ d by omega)
      refine okm129 c d Post _ _ s (s132 (by omega) _ _ ⟨_, rfl, fun z => k s (XS_rf h.2.1), fun z => ?_⟩)
      rw [hb] at z
      exact absurd rfl z
    · obtain ⟨d, rfl⟩ := d_1 (show 1 ≤ d by omega)
      refine okm249 c d Post _ _ s1 ?_
      rintro s2 rfl
      refine s248 (by omega) _ _ ⟨_, rfl, fun z => k _ (MS_thr hm 0), fun z => ?_⟩
      rw [hb] at z
      exact absurd rfl z
end W4
