/-! Whose day it was: ways, counted; the class's side. -/
/-- ways up to day i, which is w's, at most r of its days being its last; P: whose a day can be -/
def wy (P : Nat → Nat → Bool) (k : Nat) : Nat → Nat → Nat → Nat
  | 0, w, r => if r = 0 then 0 else if P 0 w = true then 1 else 0
  | i + 1, w, r => if r = 0 then 0 else if P (i + 1) w = true then wy P k i (1 - w) k + wy P k i w (r - 1) else 0
theorem wy_0 (P : Nat → Nat → Bool) (k w r : Nat) : wy P k 0 w r = if r = 0 then 0 else if P 0 w = true then 1 else 0 := rfl
theorem wy_s (P : Nat → Nat → Bool) (k i w r : Nat) : wy P k (i + 1) w r = if r = 0 then 0 else if P (i + 1) w = true then wy P k i (1 - w) k + wy P k i w (r - 1) else 0 := rfl
theorem wy_r0 (P : Nat → Nat → Bool) (k i w : Nat) : wy P k i w 0 = 0 := by
  cases i with
  | zero => rfl
  | succ i => rfl
theorem wy_le (P : Nat → Nat → Bool) (k : Nat) : ∀ i w r, wy P k i w r ≤ 2 ^ i
  | 0, w, r => by
    rw [wy_0]
    split
    · exact Nat.zero_le _
    · split
      · exact Nat.le_refl _
      · exact Nat.zero_le _
  | i + 1, w, r => by
    have h1 := wy_le P k i (1 - w) k
    have h2 := wy_le P k i w (r - 1)
    rw [wy_s, Nat.pow_succ]
    split
    · exact Nat.zero_le _
    · split
      · omega
      · exact Nat.zero_le _
theorem wy_b (P : Nat → Nat → Bool) (k : Nat) {i : Nat} (hi : i < 20) (w r : Nat) : wy P k i w r ≤ 524288 := by
  have h1 := wy_le P k i w r
  have h2 : 2 ^ i ≤ 2 ^ 19 := Nat.pow_le_pow_right (by decide) (by omega)
  have h3 : (2 : Nat) ^ 19 = 524288 := by decide
  omega
def wyT (P : Nat → Nat → Bool) (k n : Nat) : Nat := wy P k (n - 1) 0 k + wy P k (n - 1) 1 k
theorem wyT_b (P : Nat → Nat → Bool) (k : Nat) {n : Nat} (hn : n ≤ 20) (h1 : 1 ≤ n) : wyT P k n ≤ 1048576 := by
  have a := wy_b P k (i := n - 1) (by omega) 0 k
  have b := wy_b P k (i := n - 1) (by omega) 1 k
  unfold wyT
  omega
/-- a day is one's for sure -/
def fx (P : Nat → Nat → Bool) (dy c : Nat) : Nat → Nat → Bool := fun i w => P i w && (decide (¬ i = dy) || decide (w = c))
theorem fx_ne (P : Nat → Nat → Bool) {dy c i : Nat} (h : ¬ i = dy) (w : Nat) : fx P dy c i w = P i w := by
  unfold fx
  rw [decide_eq_true h, Bool.true_or, Bool.and_true]
theorem fx_eq (P : Nat → Nat → Bool) (dy c w : Nat) : fx P dy c dy w = (P dy w && decide (w = c)) := by
  unfold fx
  rw [decide_eq_false (fun z => z rfl), Bool.false_or]
theorem wy_lo (P : Nat → Nat → Bool) (k dy c : Nat) : ∀ i, i < dy → ∀ w r, wy (fx P dy c) k i w r = wy P k i w r
  | 0, h, w, r => by rw [wy_0, wy_0, fx_ne P (by omega)]
  | i + 1, h, w, r => by
    rw [wy_s, wy_s, fx_ne P (by omega), wy_lo P k dy c i (by omega), wy_lo P k dy c i (by omega)]
theorem wy_hi (P : Nat → Nat → Bool) (k dy : Nat) : ∀ i, dy ≤ i → ∀ w r, w < 2 → wy (fx P dy 0) k i w r + wy (fx P dy 1) k i w r = wy P k i w r
  | 0, h, w, r, hw => by
    have e : dy = 0 := by omega
    subst e
    rw [wy_0, wy_0, wy_0, fx_eq, fx_eq]
    by_cases q : r = 0
    · rw [if_pos q, if_pos q, if_pos q]
    · rw [if_neg q, if_neg q, if_neg q]
      rcases (show w = 0 ∨ w = 1 by omega) with rfl | rfl <;> simp
  | i + 1, h, w, r, hw => by
    rw [wy_s, wy_s, wy_s]
    by_cases q : r = 0
    · rw [if_pos q, if_pos q, if_pos q]
    rw [if_neg q, if_neg q, if_neg q]
    by_cases e : i + 1 = dy
    · subst e
      rw [fx_eq, fx_eq, wy_lo P k (i + 1) 0 i (by omega), wy_lo P k (i + 1) 0 i (by omega), wy_lo P k (i + 1) 1 i (by omega), wy_lo P k (i + 1) 1 i (by omega)]
      rcases (show w = 0 ∨ w = 1 by omega) with rfl | rfl <;> simp
    · have h1 := wy_hi P k dy i (by omega) (1 - w) k (by omega)
      have h2 := wy_hi P k dy i (by omega) w (r - 1) hw
      rw [fx_ne P e, fx_ne P e]
      by_cases p : P (i + 1) w = true
      · rw [if_pos p, if_pos p, if_pos p]; omega
      · rw [if_neg p, if_neg p, if_neg p]
theorem wyT_fx (P : Nat → Nat → Bool) (k : Nat) {n dy : Nat} (h : dy < n) : wyT (fx P dy 0) k n + wyT (fx P dy 1) k n = wyT P k n := by
  have h1 := wy_hi P k dy (n - 1) (by omega) 0 k (by decide)
  have h2 := wy_hi P k dy (n - 1) (by omega) 1 k (by decide)
  unfold wyT
  omega
/-- by the marches that were seen -/
def ftB (D : DD) (i w : Nat) : Bool := !gb (ds D) i || decide (¬ db D w / 3 + 1 < dS D i)
/-- the way with the least bits: days i and before, r -/
def lwF (P : Nat → Nat → Bool) (k : Nat) : Nat → Nat → Int32 → Int32
  | 0, _, b => b
  | i + 1, r, b => if wy P k i 0 r = 0 then lwF P k i k (b ||| sh1 i) else lwF P k i (r - 1) b
theorem lwF_1 (P : Nat → Nat → Bool) (k i r : Nat) (b : Int32) : lwF P k (i + 1) r b = if wy P k i 0 r = 0 then lwF P k i k (b ||| sh1 i) else lwF P k i (r - 1) b := rfl
def CB (s : gs) (P : Nat → Nat → Bool) : Prop := ∀ i, i < 20 → ∀ w, w < 2 → gb (gsA s 43 i) w = P i w
def TB (s : gs) (P : Nat → Nat → Bool) (k n : Nat) : Prop := ∀ i, i < n → ∀ w, w < 2 → ∀ r, r ≤ k → gsA s 44 (8 * i + 4 * w + r) = nI (wy P k i w r)
theorem n8 (i w r : Nat) : ((8 * nI i) + (4 * nI w)) + nI r = nI (8 * i + 4 * w + r) := by
  rw [show (8 : Int32) * nI i = nI (8 * i) from pk_mul 8 i, show (4 : Int32) * nI w = nI (4 * w) from pk_mul 4 w, nI_add, nI_add]
theorem and_2 (x : Int32) : gb (x &&& 2) 0 = false ∧ gb (x &&& 2) 1 = gb x 1 := by
  rw [gb_and, gb_and]
  have e0 : gb 2 0 = false := by decide
  have e1 : gb 2 1 = true := by decide
  rw [e0, e1, Bool.and_false, Bool.and_true]
  exact ⟨rfl, rfl⟩
section W3
variable {c : gx} {d B : Nat} {Post : Option Value → gs → Prop} {s0 s : gs} {D : DD} {P : Nat → Nat → Bool}
theorem s38 (hd : 1 ≤ d) {i w r : Nat} (hi : i < 20) (hw : w < 2) (hr : r < 4) (k : Post (some (.int (gsA s 44 (8 * i + 4 * w + r)))) s) : tE c d 38 [.ref 41, .int (nI i), .int (nI w), .int (nI r)] s Post := by
  obtain ⟨d, rfl⟩ := d_1 hd
  refine okm38 c d Post _ _ _ s ?_
  unfold wm38
  rw [n8]
  refine ⟨fun z => absurd z (nI_pos (by omega)), fun _ => ⟨fun z => absurd z (le_f (a := 160) (by decide) (by omega) (by omega)), fun _ => ⟨vp_in_nI (by omega) (by decide), ?_⟩⟩⟩
  rw [nI_clamp (by omega)]
  exact k
theorem s37 (hd : 2 ≤ d) {k i w r : Nat} (hT : TB s P k i) (hk : 1 ≤ k ∧ k ≤ 3) (hi : i < 20) (hw : w < 2) (hr : 1 ≤ r) (hrk : r ≤ k) (kk : Post (some (.int (nI (if i = 0 then 1 else wy P k (i - 1) (1 - w) k + wy P k (i - 1) w (r - 1))))) s) : tE c d 37 [.ref 41, .int (nI i), .int (nI w), .int (nI r), .int (nI k)] s Post := by
  obtain ⟨d, rfl⟩ := d_1 (show 1 ≤ d by omega)
  refine okm37 c d Post _ _ _ _ s ?_
  unfold wm37 w37_32
  rw [show (0 : Int32) = nI 0 from rfl, nI_eq' (by omega) (by decide)]
  refine ⟨fun z => ?_, fun z => ?_⟩
  · rw [if_pos z] at kk
    exact kk
  · rw [if_neg z] at kk
    rw [show nI i - 1 = nI (i - 1) from pk_sub (a := i) (b := 1) (by omega), show (1 : Int32) - nI w = nI (1 - w) from one_sub hw, show nI r - 1 = nI (r - 1) from pk_sub (a := r) (b := 1) hr]
    refine s38 (by omega) (by omega) (by omega) (by omega) ⟨_, rfl, s38 (by omega) (by omega) hw (by omega) ⟨_, rfl, ?_⟩⟩
    rw [hT (i - 1) (by omega) (1 - w) (by omega) k (Nat.le_refl _), hT (i - 1) (by omega) w hw (r - 1) (by omega), nI_add]
    exact kk
def dnI (i w r i' w' r' : Nat) : Prop := i' < i ∨ (i' = i ∧ (w' < w ∨ (w' = w ∧ r' < r)))
def TJ (s : gs) (P : Nat → Nat → Bool) (k i w r : Nat) : Prop := ∀ i' w' r', i' < 20 → w' < 2 → r' ≤ k → dnI i w r i' w' r' → gsA s 44 (8 * i' + 4 * w' + r') = nI (wy P k i' w' r')
theorem TJ_T {s : gs} {k i w r : Nat} (h : TJ s P k i w r) (hi : i < 20) : TB s P k i := fun i' hi' w' hw' r' hr' => h i' w' r' (by omega) hw' hr' (Or.inl hi')
theorem s36 (hd : 3 ≤ d) (h : XS s0 s D) (hC : CB s P) {n k : Nat} (hn : 1 ≤ n ∧ n ≤ 20) (hk : 1 ≤ k ∧ k ≤ 3) (kk : ∀ s', XS s0 s' D → gsA s' 43 = gsA s 43 → TB s' P k n → Post (some (.int (nI (wyT P k n)))) s') : tE c d 36 [.ref 41, .int (nI n), .int (nI k)] s Post := by
  obtain ⟨d, rfl⟩ := d_1 (show 1 ≤ d by omega)
  have inner : ∀ (K2 : Int32 → Int32 → Int32 → gs → Prop) (K16 : Int32 → Int32 → Int32 → Int32 → gs → Prop) (i w : Nat), i < 20 → w < 2 → (∀ s', frA s s' 44 → TJ s' P k i (w + 1) 0 → K16 (nI n) (nI k) (nI i) (nI (w + 1)) s') → ∀ (m r : Nat) (s' : gs), r + m = k + 1 → frA s s' 44 → TJ s' P k i w r → wl36_25 c d Post K2 K16 (m + 1) (nI n) (nI k) (nI i) (nI w) (nI r) s' := by
    intro K2 K16 i w hi hw hK m
    induction m with
    | zero =>
      intro r s' hr hf hj
      unfold wl36_25 wb36_25 w36_106
      refine ⟨fun _ => ?_, fun z => absurd ((nI_lt' (by omega) (by omega)).mpr (by omega)) z⟩
      rw [nI_1]
      refine hK s' hf (fun i' w' r' h1 h2 h3 h4 => hj i' w' r' h1 h2 h3 ?_)
      unfold dnI at h4 ⊢
      omega
    | succ m ih =>
      intro r s' hr hf hj
      have wr : ∀ v : Nat, v = wy P k i w r → w36_99 c d Post K2 K16 (wl36_25 c d Post K2 K16 (m + 1)) (nI n) (nI k) (nI i) (nI w) (nI r) 44 (nI (8 * i + 4 * w + r)) (nI v) s' := by
        intro v hv
        refine ⟨160, rfl, vp_in_nI (by omega) (by decide), ?_⟩
        rintro s2 rfl
        rw [nI_clamp (by omega), nI_1]
        refine ih (r + 1) _ (by omega) (frA_A hf _ _) (fun i' w' r' h1 h2 h3 h4 => ?_)
        rw [gsA_A]
        by_cases e : 8 * i' + 4 * w' + r' = 8 * i + 4 * w + r
        · have e1 : i' = i := by omega
          have e2 : w' = w := by omega
          have e3 : r' = r := by omega
          rw [e, upd_eq, hv, e1, e2, e3]
          rfl
        · rw [upd_ne e]
          refine hj i' w' r' h1 h2 h3 ?_
          unfold dnI at h4 ⊢
          omega
      have z0 : wy P k i w r = 0 → w36_61 c d Post K2 K16 (wl36_25 c d Post K2 K16 (m + 1)) (nI n) (nI k) (nI i) (nI w) (nI r) s' := by
        intro hz
        unfold w36_61 w36_62
        rw [n8]
        exact ⟨fun _ => wr 0 hz.symm, fun z => absurd rfl z⟩
      unfold wl36_25 wb36_25
      rw [nI_clamp (by omega), gb_shr (by omega), hf.2.2.1 43 (by decide), hC i hi w hw]
      refine ⟨fun z => absurd z (nI_nlt (by omega) (by omega)), fun _ => ⟨fun z => absurd z (nI_nlt (b := r) (a := 3) (by omega) (by omega)), fun _ => ⟨fun z => ?_, fun z => ⟨vp_in_nI hi (by decide), fun y => ?_, fun y => ?_⟩⟩⟩⟩
      · have e : r = 0 := by
          by_cases q : r = 0
          · exact q
          · exact absurd z (nI_nle (by omega) (by omega))
        refine z0 ?_
        rw [e, wy_r0]
      · have r0 : ¬ r = 0 := fun e => z (by rw [e]; exact Int32.le_refl _)
        unfold w36_62
        rw [n8]
        refine ⟨fun x => absurd x (by decide), fun _ => s37 (by omega) (TJ_T hj hi) hk hi hw (by omega) (by omega) ⟨_, rfl, wr _ ?_⟩⟩
        cases i with
        | zero => rw [if_pos rfl, wy_0, if_neg r0, if_pos y]
        | succ i => rw [wy_s, if_neg r0, if_pos y, if_neg (by omega)]; rfl
      · refine z0 ?_
        cases i with
        | zero => rw [wy_0, if_neg y, ite_self]
        | succ i => rw [wy_s, if_neg y, ite_self]
  have mid : ∀ (K2 : Int32 → Int32 → Int32 → gs → Prop) (i : Nat), i < 20 → (∀ s', frA s s' 44 → TJ s' P k (i + 1) 0 0 → K2 (nI n) (nI k) (nI (i + 1)) s') → ∀ (m w : Nat) (s' : gs), w + m = 2 → frA s s' 44 → TJ s' P k i w 0 → wl36_16 c d Post K2 (m + 1) (nI n) (nI k) (nI i) (nI w) s' := by
    intro K2 i hi hK m
    induction m with
    | zero =>
      intro w s' hw hf hj
      unfold wl36_16 wb36_16
      refine ⟨fun _ => ?_, fun z => absurd ((nI_lt' (a := 1) (by omega) (by omega)).mpr (by omega)) z⟩
      rw [nI_1]
      refine hK s' hf (fun i' w' r' h1 h2 h3 h4 => hj i' w' r' h1 h2 h3 ?_)
      unfold dnI at h4 ⊢
      omega
    | succ m ih =>
      intro w s' hw hf hj
      unfold wl36_16 wb36_16
      refine ⟨fun z => absurd z (nI_nlt (a := 1) (by omega) (by omega)), fun _ => ⟨k + 1 + 1, ?_⟩⟩
      exact inner K2 _ i w hi (by omega) (fun s2 f2 j2 => ih (w + 1) s2 (by omega) f2 j2) (k + 1) 0 s' (by omega) hf hj
  have outer : ∀ (m i : Nat) (s' : gs), i + m = n → frA s s' 44 → TJ s' P k i 0 0 → wl36_2 c d Post (m + 1) (nI n) (nI k) (nI i) s' := by
    intro m
    induction m with
    | zero =>
      intro i s' hi hf hj
      have hS := XS_scA h hf (by decide)
      have hT : TB s' P k n := fun i' h1 w' h2 r' h3 => hj i' w' r' (by omega) h2 h3 (Or.inl (by omega))
      unfold wl36_2 wb36_2 w36_118
      refine ⟨fun _ => ?_, fun z => absurd (le_t (by omega) (by omega) (by omega)) z⟩
      rw [show nI n - 1 = nI (n - 1) from pk_sub (a := n) (b := 1) (by omega)]
      refine s38 (w := 0) (by omega) (by omega) (by decide) (by omega) ⟨_, rfl, s38 (w := 1) (by omega) (by omega) (by decide) (by omega) ⟨_, rfl, ?_⟩⟩
      rw [hT (n - 1) (by omega) 0 (by decide) k (Nat.le_refl _), hT (n - 1) (by omega) 1 (by decide) k (Nat.le_refl _), nI_add]
      exact kk s' hS (hf.2.2.1 43 (by decide)) hT
    | succ m ih =>
      intro i s' hi hf hj
      unfold wl36_2 wb36_2
      refine ⟨fun z => absurd z (le_f (by omega) (by omega) (by omega)), fun _ => ⟨fun z => absurd z (le_f (a := 20) (by decide) (by omega) (by omega)), fun _ => ⟨3, ?_⟩⟩⟩
      exact mid _ i (by omega) (fun s2 f2 j2 => ih (i + 1) s2 (by omega) f2 j2) 2 0 s' rfl hf hj
  exact okm36 c d Post _ _ s ⟨n + 1, outer n 0 s (by omega) (frA_rf s 44) (fun i' w' r' h1 h2 h3 h4 => by
    unfold dnI at h4
    omega)⟩
theorem s34 (hd : 1 ≤ d) (h : XS s0 s D) (kk : ∀ s', XS s0 s' D → CB s' (ftB D) → Post none s') : tE c d 34 [.ref 41, .int (db D 0 / 3 + 1), .int (db D 1 / 3 + 1)] s Post := by
  obtain ⟨d, rfl⟩ := d_1 hd
  obtain ⟨o1, o2⟩ := h.1.2.2.2.2.2.2.2.2.2
  have loop : ∀ (m i : Nat) (s' : gs), i + m = 20 → frA s s' 43 → (∀ j, j < i → ∀ w, w < 2 → gb (gsA s' 43 j) w = ftB D j w) → wl34_2 c d Post (m + 1) (db D 0 / 3 + 1) (db D 1 / 3 + 1) (nI i) s' := by
    intro m
    induction m with
    | zero =>
      intro i s' hi hf hj
      unfold wl34_2 wb34_2
      exact ⟨fun _ => kk s' (XS_scA h hf (by decide)) (fun j hj' w hw => hj j (by omega) w hw), fun z => absurd (le_t (a := 20) (by decide) (by omega) (by omega)) z⟩
    | succ m ih =>
      intro i s' hi hf hj
      have wr : ∀ a b : Int32, (a = 0 ∨ a = 1) → (b = 0 ∨ b = 2) → (a = 1 ↔ ftB D i 0 = true) → (b = 2 ↔ ftB D i 1 = true) → w34_69 c d Post (wl34_2 c d Post (m + 1)) (db D 0 / 3 + 1) (db D 1 / 3 + 1) (nI i) a b s' := by
        intro a b ha hb h0 h1
        refine ⟨vp_in_nI (by omega) (by decide), ?_⟩
        rintro s2 rfl
        rw [nI_clamp (by omega), nI_1]
        refine ih (i + 1) _ (by omega) (frA_A hf _ _) (fun j hj' w hw => ?_)
        rw [gsA_A]
        by_cases e : j = i
        · subst e
          rw [upd_eq, nar_i]
          have e0 : gb (a ||| b) 0 = decide (a = 1) := by rcases ha with rfl | rfl <;> rcases hb with rfl | rfl <;> decide
          have e1 : gb (a ||| b) 1 = decide (b = 2) := by rcases ha with rfl | rfl <;> rcases hb with rfl | rfl <;> decide
          rcases (show w = 0 ∨ w = 1 by omega) with rfl | rfl
          · rw [e0]
            by_cases q : ftB D j 0 = true
            · rw [q]; exact decide_eq_true (h0.mpr q)
            · rw [decide_eq_false (fun z => q (h0.mp z))]
              cases hq : ftB D j 0
              · rfl
              · exact absurd hq q
          · rw [e1]
            by_cases q : ftB D j 1 = true
            · rw [q]; exact decide_eq_true (h1.mpr q)
            · rw [decide_eq_false (fun z => q (h1.mp z))]
              cases hq : ftB D j 1
              · rfl
              · exact absurd hq q
        · rw [upd_ne e]
          exact hj j (by omega) w hw
      have v1 : gsV s' 41 1 = ds D := by rw [hf.1]; exact o1
      have v2 : gsA s' 42 i = dS D i := by rw [hf.2.2.1 42 (by decide)]; exact o2 i (by omega)
      unfold wl34_2 wb34_2
      rw [v1, gb_shr (by omega)]
      refine ⟨fun z => absurd z (le_f (a := 20) (by decide) (by omega) (by omega)), fun _ => ⟨fun z => ?_, fun z => ?_⟩⟩
      · unfold w34_25
        rw [nI_clamp (by omega), v2]
        have f0 : ∀ w, ftB D i w = true ↔ ¬ db D w / 3 + 1 < dS D i := by
          intro w
          unfold ftB
          rw [z]
          simp
        refine ⟨fun y => absurd y (by decide), fun _ => ⟨vp_in_nI (by omega) (by decide), fun y => ?_, fun y => ?_⟩⟩
        · unfold w34_47
          rw [nI_clamp (by omega), v2]
          refine ⟨fun x => absurd x (by decide), fun _ => ⟨vp_in_nI (by omega) (by decide), fun x => ?_, fun x => ?_⟩⟩
          · exact wr 0 0 (by decide) (by decide) ⟨fun e => absurd e (by decide), fun e => absurd y ((f0 0).mp e)⟩ ⟨fun e => absurd e (by decide), fun e => absurd x ((f0 1).mp e)⟩
          · exact wr 0 2 (by decide) (by decide) ⟨fun e => absurd e (by decide), fun e => absurd y ((f0 0).mp e)⟩ ⟨fun _ => (f0 1).mpr x, fun _ => rfl⟩
        · unfold w34_42 w34_47
          rw [nI_clamp (by omega), v2]
          refine ⟨fun x => absurd x (by decide), fun _ => ⟨vp_in_nI (by omega) (by decide), fun x => ?_, fun x => ?_⟩⟩
          · exact wr 1 0 (by decide) (by decide) ⟨fun _ => (f0 0).mpr y, fun _ => rfl⟩ ⟨fun e => absurd e (by decide), fun e => absurd x ((f0 1).mp e)⟩
          · exact wr 1 2 (by decide) (by decide) ⟨fun _ => (f0 0).mpr y, fun _ => rfl⟩ ⟨fun _ => (f0 1).mpr x, fun _ => rfl⟩
      · have f0 : ∀ w, ftB D i w = true := by
          intro w
          unfold ftB
          cases hq : gb (ds D) i
          · rfl
          · exact absurd hq z
        unfold w34_25
        refine ⟨fun _ => ?_, fun y => absurd rfl y⟩
        unfold w34_42 w34_47
        refine ⟨fun _ => ?_, fun y => absurd rfl y⟩
        exact wr 1 2 (by decide) (by decide) ⟨fun _ => f0 0, fun _ => rfl⟩ ⟨fun _ => f0 1, fun _ => rfl⟩
  exact okm34 c d Post _ _ s ⟨21, loop 20 0 s rfl (frA_rf s 43) (fun j hj => absurd hj (by omega))⟩
theorem s132 (hd : 1 ≤ d) (x y : Int32) (k : Post (some (.int (bI ((1 ≤ x ∧ x ≤ 20) ∧ (1 ≤ y ∧ y ≤ 3))))) s) : tE c d 132 [.int x, .int y] s Post := by
  obtain ⟨d, rfl⟩ := d_1 hd
  refine okm132 c d Post x y s ⟨fun z => ?_, fun z1 => ⟨fun z => ?_, fun z2 => ⟨fun z => ?_, fun z3 => ⟨fun z => ?_, fun z4 => ?_⟩⟩⟩⟩
  · rw [bI_f (fun q => i_nlt.mpr q.1.1 z)] at k
    exact ⟨Or.inl rfl, k⟩
  · rw [bI_f (fun q => i_nlt.mpr q.1.2 z)] at k
    exact ⟨Or.inl rfl, k⟩
  · rw [bI_f (fun q => i_nlt.mpr q.2.1 z)] at k
    exact ⟨Or.inl rfl, k⟩
  · rw [bI_f (fun q => i_nlt.mpr q.2.2 z)] at k
    exact ⟨Or.inl rfl, k⟩
  · rw [bI_t ⟨⟨i_nlt.mp z1, i_nlt.mp z2⟩, ⟨i_nlt.mp z3, i_nlt.mp z4⟩⟩] at k
    exact ⟨Or.inr rfl, k⟩
theorem s133 (hd : 4 ≤ d) (h : XS s0 s D) {n k : Nat} (hn : 1 ≤ n ∧ n ≤ 20) (hk : 1 ≤ k ∧ k ≤ 3) (kk : ∀ s', XS s0 s' D → CB s' (ftB D) → TB s' (ftB D) k n → Post (some (.int (nI (wyT (ftB D) k n)))) s') : tE c d 133 [.ref 0, .int (nI n), .int (nI k)] s Post := by
  obtain ⟨d, rfl⟩ := d_1 (show 1 ≤ d by omega)
  refine okm133 c d Post _ _ s (s31 (n := 0) (by omega) h.1.2.2.2.1 (by decide) ⟨_, rfl, s31 (n := 1) (by omega) h.1.2.2.2.1 (by decide) ⟨_, rfl, s34 (by omega) h (fun s1 h1 c1 => ⟨rfl, ?_⟩)⟩⟩)
  refine s36 (by omega) h1 c1 hn hk (fun s2 h2 e2 t2 => ⟨_, rfl, kk s2 h2 (fun i hi w hw => ?_) t2⟩)
  rw [e2]
  exact c1 i hi w hw
theorem s35 (hd : 4 ≤ d) (h : XS s0 s D) (hC : CB s P) {n k i : Nat} (hn : 1 ≤ n ∧ n ≤ 20) (hk : 1 ≤ k ∧ k ≤ 3) (hi : i < 20) (kk : ∀ s', XS s0 s' D → CB s' P → Post (some (.int (nI (wyT (fx P i 1) k n)))) s') : tE c d 35 [.ref 41, .int (nI n), .int (nI k), .int (nI i)] s Post := by
  obtain ⟨d, rfl⟩ := d_1 (show 1 ≤ d by omega)
  refine okm35 c d Post _ _ _ s ⟨fun z => absurd z (nI_pos (by omega)), fun _ => ⟨fun _ => ⟨vp_in_nI hi (by decide), vp_in_nI hi (by decide), ?_⟩, fun z => absurd ((nI_lt' (b := 20) (by omega) (by decide)).mpr hi) z⟩⟩
  rintro s1 rfl
  rw [nI_clamp (by omega), nar_i]
  have h1 := XS_sA h (r := 43) (by decide) i (gsA s 43 i &&& 2)
  have c1 : CB (gs_A s 43 i (gsA s 43 i &&& 2)) (fx P i 1) := by
    intro j hj w hw
    rw [gsA_A]
    by_cases e : j = i
    · subst e
      rw [upd_eq, fx_eq]
      rcases (show w = 0 ∨ w = 1 by omega) with rfl | rfl
      · rw [(and_2 _).1]; simp
      · rw [(and_2 _).2, hC j hj 1 (by decide)]; simp
    · rw [upd_ne e, fx_ne P e]
      exact hC j hj w hw
  refine s36 (by omega) h1 c1 hn hk (fun s2 h2 e2 t2 => ⟨_, rfl, vp_in_nI hi (by decide), ?_⟩)
  rintro s3 rfl
  refine kk _ (XS_sA h2 (by decide) _ _) (fun j hj w hw => ?_)
  rw [gsA_A, e2, gsA_A, nar_i]
  by_cases e : j = i
  · rw [e, upd_eq]
    exact hC i hi w hw
  · rw [upd_ne e, upd_ne e]
    exact hC j hj w hw
theorem s39 (hd : 2 ≤ d) {n k : Nat} (hT : TB s P k n) (hn : 1 ≤ n ∧ n ≤ 20) (hk : 1 ≤ k ∧ k ≤ 3) (kk : Post (some (.int (if wyT P k n = 0 then -1 else lwF P k n k 0))) s) : tE c d 39 [.ref 41, .int (nI n), .int (nI k)] s Post := by
  obtain ⟨d, rfl⟩ := d_1 (show 1 ≤ d by omega)
  have hb := wyT_b P k hn.2 hn.1
  have e1 : nI n - 1 = nI (n - 1) := pk_sub (a := n) (b := 1) (by omega)
  have loop : ¬ wyT P k n = 0 → ∀ (i r : Nat) (b : Int32), i ≤ n → r ≤ k → lwF P k i r b = lwF P k n k 0 → wl39_34 c d Post (i + 1) (nI k) b (nI r) (nI i - 1) s := by
    intro hw i
    rw [if_neg hw] at kk
    induction i with
    | zero =>
      intro r b hi hr e
      unfold wl39_34 wb39_34
      refine ⟨fun _ => ?_, fun z => absurd (by decide) z⟩
      have e' : b = lwF P k n k 0 := e
      rw [e']
      exact kk
    | succ i ih =>
      intro r b hi hr e
      rw [lwF_1] at e
      unfold wl39_34 wb39_34 w39_67
      rw [nI_pred, show nI i + -1 = nI i - 1 by grind]
      refine ⟨fun z => absurd z (nI_pos (by omega)), fun _ => s38 (w := 0) (by omega) (by omega) (by decide) (by omega) ⟨_, rfl, ?_⟩⟩
      rw [hT i (by omega) 0 (by decide) r hr]
      have hwb := wy_b P k (i := i) (by omega) 0 r
      refine ⟨fun z => ?_, fun z => ?_⟩
      · have q : wy P k i 0 r = 0 := by
          by_cases q : wy P k i 0 r = 0
          · exact q
          · exact absurd z (nI_nle (by omega) (by omega))
        rw [if_pos q] at e
        exact ih k _ (by omega) (Nat.le_refl _) e
      · have q : ¬ wy P k i 0 r = 0 := fun q => z (by rw [q]; exact Int32.le_refl _)
        have r0 : 1 ≤ r := by
          by_cases r0 : r = 0
          · rw [r0, wy_r0] at q; exact absurd rfl q
          · omega
        rw [if_neg q] at e
        rw [show nI r + -1 = nI (r - 1) from (show nI r + -1 = nI r - 1 by grind).trans (pk_sub (a := r) (b := 1) r0)]
        exact ih (r - 1) _ (by omega) (by omega) e
  refine okm39 c d Post _ _ s ?_
  unfold wm39
  rw [e1]
  refine s38 (w := 0) (by omega) (by omega) (by decide) (by omega) ⟨_, rfl, s38 (w := 1) (by omega) (by omega) (by decide) (by omega) ⟨_, rfl, ?_⟩⟩
  rw [hT (n - 1) (by omega) 0 (by decide) k (Nat.le_refl _), hT (n - 1) (by omega) 1 (by decide) k (Nat.le_refl _), nI_add, show wy P k (n - 1) 0 k + wy P k (n - 1) 1 k = wyT P k n from rfl]
  refine ⟨fun z => ?_, fun z => ?_⟩
  · have q : wyT P k n = 0 := (nI_eq' (b := 0) (by omega) (by decide)).mp z
    rw [if_pos q] at kk
    exact kk
  · refine ⟨n + 1, ?_⟩
    have := loop (fun q => z (by rw [q]; rfl)) n k 0 (Nat.le_refl _) (Nat.le_refl _) rfl
    rw [e1] at this
    exact this
end W3
