/-! Games of ground: the nearest goal, what the class prepares, what the reference lays out. -/
def dst (a b : Nat) : Nat := max a b - min a b
def ngF (X : Int32) (fo t : Nat) (b : Option Nat) : Option Nat := if gb X t = true then (match b with
  | none => some t
  | some k => if dst k fo ≤ dst t fo then some k else some t) else b
def nrF (X : Int32) (fo t k : Nat) : Nat := if gb X t = true then (if dst k fo ≤ dst t fo then k else t) else k
theorem nr_ok {X : Int32} {fo : Nat} : ∀ (m i k : Nat), gb X k = true → gb X (fl (nrF X fo) i m k) = true ∧ dst (fl (nrF X fo) i m k) fo ≤ dst k fo ∧ ∀ t, i ≤ t → t < i + m → gb X t = true → dst (fl (nrF X fo) i m k) fo ≤ dst t fo
  | 0, i, k, h => ⟨h, Nat.le_refl _, fun t h1 h2 => absurd h2 (by omega)⟩
  | m + 1, i, k, h => by
    show gb X (fl (nrF X fo) (i + 1) m (nrF X fo i k)) = true ∧ dst (fl (nrF X fo) (i + 1) m (nrF X fo i k)) fo ≤ dst k fo ∧ ∀ t, i ≤ t → t < i + (m + 1) → gb X t = true → dst (fl (nrF X fo) (i + 1) m (nrF X fo i k)) fo ≤ dst t fo
    have h1 : gb X (nrF X fo i k) = true ∧ dst (nrF X fo i k) fo ≤ dst k fo ∧ (gb X i = true → dst (nrF X fo i k) fo ≤ dst i fo) := by
      unfold nrF
      by_cases q : gb X i = true
      · rw [if_pos q]
        by_cases q2 : dst k fo ≤ dst i fo
        · rw [if_pos q2]; exact ⟨h, Nat.le_refl _, fun _ => q2⟩
        · rw [if_neg q2]; exact ⟨q, by omega, fun _ => Nat.le_refl _⟩
      · rw [if_neg q]; exact ⟨h, Nat.le_refl _, fun z => absurd z q⟩
    obtain ⟨a1, a2, a3⟩ := nr_ok m (i + 1) (nrF X fo i k) h1.1
    refine ⟨a1, Nat.le_trans a2 h1.2.1, fun t t1 t2 t3 => ?_⟩
    by_cases e : t = i
    · rw [e] at t3 ⊢
      exact Nat.le_trans a2 (h1.2.2 t3)
    · exact a3 t (by omega) (by omega) t3
theorem ng_ok {X : Int32} {fo : Nat} : ∀ (m i : Nat) (b : Option Nat), (∀ k, b = some k → gb X k = true) → (∀ r, fl (ngF X fo) i m b = some r → gb X r = true ∧ (∀ k, b = some k → dst r fo ≤ dst k fo) ∧ ∀ t, i ≤ t → t < i + m → gb X t = true → dst r fo ≤ dst t fo) ∧ (fl (ngF X fo) i m b = none → b = none ∧ ∀ t, i ≤ t → t < i + m → ¬ gb X t = true)
  | 0, i, b, h => ⟨fun r hr => ⟨h r hr, fun k hk => by
      have hr' : b = some r := hr
      rw [hk] at hr'
      cases hr'
      exact Nat.le_refl _, fun t h1 h2 => absurd h2 (by omega)⟩, fun z => ⟨z, fun t h1 h2 => absurd h2 (by omega)⟩⟩
  | m + 1, i, b, h => by
    have e : fl (ngF X fo) i (m + 1) b = fl (ngF X fo) (i + 1) m (ngF X fo i b) := rfl
    rw [e]
    by_cases q : gb X i = true
    · have hs : ∃ k', ngF X fo i b = some k' ∧ gb X k' = true ∧ dst k' fo ≤ dst i fo ∧ ∀ k, b = some k → dst k' fo ≤ dst k fo := by
        unfold ngF
        rw [if_pos q]
        cases b with
        | none => exact ⟨i, rfl, q, Nat.le_refl _, fun k hk => by cases hk⟩
        | some k =>
          by_cases q2 : dst k fo ≤ dst i fo
          · exact ⟨k, if_pos q2, h k rfl, q2, fun k2 hk => by cases hk; exact Nat.le_refl _⟩
          · exact ⟨i, if_neg q2, q, Nat.le_refl _, fun k2 hk => by cases hk; omega⟩
      obtain ⟨k', e1, g1, d1, d2⟩ := hs
      obtain ⟨a1, a2⟩ := ng_ok m (i + 1) (ngF X fo i b) (fun k hk => by rw [e1] at hk; cases hk; exact g1)
      refine ⟨fun r hr => ?_, fun z => ?_⟩
      · obtain ⟨b1, b2, b3⟩ := a1 r hr
        have b4 := b2 k' e1
        refine ⟨b1, fun k hk => Nat.le_trans b4 (d2 k hk), fun t t1 t2 t3 => ?_⟩
        by_cases et : t = i
        · rw [et]; exact Nat.le_trans b4 d1
        · exact b3 t (by omega) (by omega) t3
      · have := (a2 z).1
        rw [e1] at this
        cases this
    · have e1 : ngF X fo i b = b := if_neg q
      rw [e1]
      obtain ⟨a1, a2⟩ := ng_ok m (i + 1) b h
      refine ⟨fun r hr => ?_, fun z => ?_⟩
      · obtain ⟨b1, b2, b3⟩ := a1 r hr
        refine ⟨b1, b2, fun t t1 t2 t3 => ?_⟩
        by_cases et : t = i
        · rw [et] at t3; exact absurd t3 q
        · exact b3 t (by omega) (by omega) t3
      · obtain ⟨z1, z2⟩ := a2 z
        refine ⟨z1, fun t t1 t2 => ?_⟩
        by_cases et : t = i
        · rw [et]; exact q
        · exact z2 t (by omega) (by omega)
/-- the goal nearest to the foe -/
def nst (D : DD) (f : Nat) : Nat := fl (nrF (gls (dr D) (dF D) f (gn (dg D) 2) (db D 0 / 3 + 1)) (gn (dg D) 2)) 0 (dF D) f
theorem nst_ok {B : Nat} {D : DD} (hv : VD B D) {f : Nat} (hf : f < dF D) : nst D f < dF D ∧ fl (ngF (gls (dr D) (dF D) f (gn (dg D) 2) (db D 0 / 3 + 1)) (gn (dg D) 2)) 0 (dF D) none = some (nst D f) := by
  have hF := hv.1.2
  have hs := gls_self (n := 0) (fo := gn (dg D) 2) hv (by decide) hf
  have hm : ∀ t, gb (gls (dr D) (dF D) f (gn (dg D) 2) (db D 0 / 3 + 1)) t = true → t < 32 → t < dF D ∧ ¬ pst f (gn (dg D) 2) t := by
    intro t h ht
    rw [gls_b (dr D) hF _ _ _ ht] at h
    have := of_decide_eq_true h
    exact ⟨this.1, this.2.2⟩
  have hb : ∀ x t, gb x t = true → t < 32 := by
    intro x t h
    by_cases q : t < 32
    · exact q
    · unfold gb at h
      rw [BitVec.getLsbD_of_ge _ _ (by omega)] at h
      cases h
  obtain ⟨n1, n2, n3⟩ := nr_ok (X := gls (dr D) (dF D) f (gn (dg D) 2) (db D 0 / 3 + 1)) (fo := gn (dg D) 2) (dF D) 0 f hs
  obtain ⟨g1, g2⟩ := ng_ok (X := gls (dr D) (dF D) f (gn (dg D) 2) (db D 0 / 3 + 1)) (fo := gn (dg D) 2) (dF D) 0 none (fun k hk => by cases hk)
  have en : nst D f = fl (nrF (gls (dr D) (dF D) f (gn (dg D) 2) (db D 0 / 3 + 1)) (gn (dg D) 2)) 0 (dF D) f := rfl
  rw [← en] at n1 n2 n3
  have hn := hm _ n1 (hb _ _ n1)
  refine ⟨hn.1, ?_⟩
  cases hr : fl (ngF (gls (dr D) (dF D) f (gn (dg D) 2) (db D 0 / 3 + 1)) (gn (dg D) 2)) 0 (dF D) none with
  | none => exact absurd hs ((g2 hr).2 f (by omega) (by omega))
  | some r =>
    obtain ⟨r1, -, r3⟩ := g1 r hr
    have hr' := hm r r1 (hb _ _ r1)
    have q1 := r3 (nst D f) (by omega) (by omega) n1
    have q2 := n3 r (by omega) (by omega) r1
    have q3 := r3 f (by omega) (by omega) hs
    congr 1
    have h1 := hr'.2
    have h2 := hn.2
    unfold pst at h1 h2
    unfold dst at q1 q2 q3
    omega
/-- where a day of the rash one brings the army: nowhere, if that is a battle -/
def gmR (D : DD) (f : Nat) : Int32 := if f < dF D then (if near (nst D f) (gn (dg D) 2) then 0 else sh1 (nst D f)) else 0
theorem gm_ok' {B : Nat} {D : DD} (hv : VD B D) : okW (dF D) (gmR D) (prW D 1) := by
  have hF := hv.1.2
  have h1 := prW_ok (D := D) hF
  refine ⟨fun f => ⟨?_, (h1.1 f).2⟩, fun f hf => ⟨?_, (h1.2 f hf).2⟩⟩
  · intro j hj h
    unfold gmR at h
    by_cases q : f < dF D
    · rw [if_pos q] at h
      by_cases q2 : near (nst D f) (gn (dg D) 2)
      · rw [if_pos q2, gb_0] at h; cases h
      · rw [if_neg q2] at h
        exact inF_sh (nst_ok hv q).1 hF j hj h
    · rw [if_neg q, gb_0] at h; cases h
  · unfold gmR; rw [if_neg (by omega)]
def allB (F : Nat) : Int32 := sh1 F - 1
theorem all_b : ∀ F, F < 13 → ∀ j, j < 32 → gb (allB F) j = decide (j < F) := by decide +kernel
theorem all_F {F : Nat} (hF : F ≤ 12) : inF F (allB F) := fun j hj h => by
  rw [all_b F (by omega) j hj] at h
  exact of_decide_eq_true h
/-- days given away -/
def owG (D : DD) (g : Int32) (k : Nat) : Int32 := if owD D k = 1 ∧ gb g k = true then 0 else owD D k
theorem owG_0 (D : DD) : owG D 0 = owD D := by
  funext k
  unfold owG
  rw [if_neg (fun z => by rw [gb_0] at z; cases z.2)]
/-- for how many days at most: m days from this one on -/
def kp (D : DD) (O : Nat → Int32) : Nat → Nat → Nat → Nat
  | 0, _, _ => 0
  | m + 1, k, f => if O k = 0 then (if near (nst D f) (gn (dg D) 2) then 0 else 1 + kp D O m (k + 1) (nst D f)) else if O k = -1 then 1 + kp D O m (k + 1) f else fl (fun t v => if gb (prW D 1 f) t = true then max v (1 + kp D O m (k + 1) t) else v) 0 (dF D) 0
theorem kp_1 (D : DD) (O : Nat → Int32) (m k f : Nat) : kp D O (m + 1) k f = if O k = 0 then (if near (nst D f) (gn (dg D) 2) then 0 else 1 + kp D O m (k + 1) (nst D f)) else if O k = -1 then 1 + kp D O m (k + 1) f else fl (fun t v => if gb (prW D 1 f) t = true then max v (1 + kp D O m (k + 1) t) else v) 0 (dF D) 0 := rfl
theorem mx_ge {P : Nat → Prop} [DecidablePred P] {g : Nat → Nat} {j : Nat} : ∀ (m i v : Nat), j + 1 ≤ fl (fun t v => if P t then max v (1 + g t) else v) i m v ↔ j + 1 ≤ v ∨ ∃ t, i ≤ t ∧ t < i + m ∧ P t ∧ j ≤ g t
  | 0, i, v => by
    constructor
    · exact Or.inl
    · rintro (h | ⟨t, h1, h2, _⟩)
      · exact h
      · omega
  | m + 1, i, v => by
    show j + 1 ≤ fl (fun t v => if P t then max v (1 + g t) else v) (i + 1) m (if P i then max v (1 + g i) else v) ↔ _
    rw [mx_ge m (i + 1)]
    by_cases q : P i
    · rw [if_pos q]
      constructor
      · rintro (h | ⟨t, h1, h2, h3⟩)
        · by_cases e : j + 1 ≤ v
          · exact Or.inl e
          · exact Or.inr ⟨i, by omega, by omega, q, by omega⟩
        · exact Or.inr ⟨t, by omega, by omega, h3⟩
      · rintro (h | ⟨t, h1, h2, h3, h4⟩)
        · exact Or.inl (by omega)
        · by_cases e : t = i
          · subst e; exact Or.inl (by omega)
          · exact Or.inr ⟨t, by omega, by omega, h3, h4⟩
    · rw [if_neg q]
      constructor
      · rintro (h | ⟨t, h1, h2, h3⟩)
        · exact Or.inl h
        · exact Or.inr ⟨t, by omega, by omega, h3⟩
      · rintro (h | ⟨t, h1, h2, h3, h4⟩)
        · exact Or.inl h
        · by_cases e : t = i
          · subst e; exact absurd h3 q
          · exact Or.inr ⟨t, by omega, by omega, h3, h4⟩
theorem kp_le (D : DD) (O : Nat → Int32) : ∀ (m k f : Nat), kp D O m k f ≤ m
  | 0, _, _ => Nat.le_refl _
  | m + 1, k, f => by
    unfold kp
    split
    · split
      · exact Nat.zero_le _
      · have := kp_le D O m (k + 1) (nst D f)
        omega
    · split
      · have := kp_le D O m (k + 1) f
        omega
      · apply Classical.byContradiction
        intro h
        have h' : (m + 1) + 1 ≤ fl (fun t v => if gb (prW D 1 f) t = true then max v (1 + kp D O m (k + 1) t) else v) 0 (dF D) 0 := by omega
        rcases (mx_ge (P := fun t => gb (prW D 1 f) t = true) (g := fun t => kp D O m (k + 1) t) _ _ _).mp h' with h'' | ⟨t, _, _, _, h''⟩
        · omega
        · have := kp_le D O m (k + 1) t
          omega
theorem kp_b {B : Nat} {D : DD} (hv : VD B D) (O : Nat → Int32) : ∀ (m k j f : Nat), f < dF D → j ≤ m → (j ≤ kp D O m k f ↔ gb (bwd (gmR D) (prW D 1) O k j (allB (dF D))) f = true)
  | m, k, 0, f, hf, _ => by
    have hF := hv.1.2
    show 0 ≤ _ ↔ gb (allB (dF D)) f = true
    rw [all_b _ (by omega) f (by omega)]
    exact ⟨fun _ => decide_eq_true hf, fun _ => Nat.zero_le _⟩
  | 0, k, j + 1, f, hf, hj => absurd hj (by omega)
  | m + 1, k, j + 1, f, hf, hj => by
    have hF := hv.1.2
    have hW := gm_ok' hv
    have ih := fun t (ht : t < dF D) => kp_b hv O m (k + 1) j t ht (by omega)
    have e : gb (bwd (gmR D) (prW D 1) O k (j + 1) (allB (dF D))) f = true ↔ ∃ t, t < dF D ∧ gb (mvO (gmR D) (prW D 1) (O k) f) t = true ∧ j ≤ kp D O m (k + 1) t := by
      show gb (srO (gmR D) (prW D 1) (O k) (bwd (gmR D) (prW D 1) O (k + 1) j (allB (dF D)))) f = true ↔ _
      rw [srO_b (by omega), decide_eq_true_iff, and_ne]
      constructor
      · rintro ⟨-, t, h1, h2, h3⟩
        have ht := mv_F hW hF hf (O k) t h1 h2
        exact ⟨t, ht, h2, (ih t ht).mpr h3⟩
      · rintro ⟨t, h1, h2, h3⟩
        exact ⟨by omega, t, by omega, h2, (ih t h1).mp h3⟩
    rw [e, kp_1]
    unfold mvO
    by_cases q0 : O k = 0
    · have qn : ¬ O k = -1 := by rw [q0]; decide
      rw [if_pos q0, if_neg qn, if_pos q0]
      unfold gmR
      rw [if_pos hf]
      have hn := (nst_ok hv hf).1
      by_cases q1 : near (nst D f) (gn (dg D) 2)
      · rw [if_pos q1, if_pos q1]
        constructor
        · intro z; omega
        · rintro ⟨t, _, h, _⟩; rw [gb_0] at h; cases h
      · rw [if_neg q1, if_neg q1]
        constructor
        · intro z
          exact ⟨nst D f, hn, by rw [gb_sh1 (by omega) (by omega)]; exact decide_eq_true rfl, by omega⟩
        · rintro ⟨t, h1, h2, h3⟩
          rw [gb_sh1 (by omega) (by omega)] at h2
          rw [of_decide_eq_true h2] at h3
          omega
    · rw [if_neg q0]
      by_cases q1 : O k = -1
      · rw [if_pos q1, if_pos q1]
        constructor
        · intro z
          exact ⟨f, hf, by rw [gb_sh1 (by omega) (by omega)]; exact decide_eq_true rfl, by omega⟩
        · rintro ⟨t, h1, h2, h3⟩
          rw [gb_sh1 (by omega) (by omega)] at h2
          rw [of_decide_eq_true h2] at h3
          omega
      · rw [if_neg q1, if_neg q1, if_neg q0]
        rw [mx_ge (P := fun t => gb (prW D 1 f) t = true) (g := fun t => kp D O m (k + 1) t)]
        constructor
        · rintro (h | ⟨t, h1, h2, h3, h4⟩)
          · omega
          · exact ⟨t, by omega, h3, h4⟩
        · rintro ⟨t, h1, h2, h3⟩
          exact Or.inr ⟨t, by omega, by omega, h2, h3⟩
section W2
variable {c : gx} {d B : Nat} {Post : Option Value → gs → Prop} {s0 s : gs} {D : DD}
theorem s22 (hd : 1 ≤ d) (hL : XL s D) (X : Int32) {fo : Nat} (hfo : fo < 2 ^ 20) (k : Post (some (.int (oI (fl (ngF X fo) 0 (dF D) none)))) s) : tE c d 22 [.ref 3, .int X, .int (nI fo)] s Post := by
  obtain ⟨d, rfl⟩ := d_1 hd
  have hF := hL.1.2
  have loop : ∀ (m i : Nat) (b : Option Nat), i + m = dF D → (∀ k, b = some k → k < 12) → fl (ngF X fo) i m b = fl (ngF X fo) 0 (dF D) none → wl22_5 c d Post (m + 1) X (nI fo) (oI b) (nI i) s := by
    intro m
    induction m with
    | zero =>
      intro i b hi hb hr
      unfold wl22_5 wb22_5
      rw [hL.2.1]
      refine ⟨fun _ => ?_, fun z => absurd (le_t (by omega) (by omega) (by omega)) z⟩
      rw [← hr] at k
      exact k
    | succ m ih =>
      intro i b hi hb hr
      have hr' : fl (ngF X fo) (i + 1) m (ngF X fo i b) = fl (ngF X fo) 0 (dF D) none := hr
      have nxt : ∀ b' : Option Nat, (∀ k, b' = some k → k < 12) → ngF X fo i b = b' → w22_60 c d Post (wl22_5 c d Post (m + 1)) X (nI fo) (oI b') (nI i) s := by
        intro b' hb' e
        unfold w22_60
        rw [nI_1]
        rw [e] at hr'
        exact ih (i + 1) b' (by omega) hb' hr'
      have sb : ∀ k, some i = some k → k < 12 := fun k hk => by cases hk; omega
      unfold wl22_5 wb22_5
      rw [hL.2.1, gb_shr (by omega)]
      refine ⟨fun z => absurd z (le_f (by omega) (by omega) (by omega)), fun _ => ⟨fun z => ⟨fun w => absurd w (by decide), fun _ => ?_⟩, fun z => ⟨fun _ => nxt b hb (if_neg z), fun w => absurd rfl w⟩⟩⟩
      cases b with
      | none => exact ⟨fun _ => nxt (some i) sb (if_pos z), fun w => absurd rfl w⟩
      | some k' =>
        have hk' := hb k' rfl
        refine ⟨fun w => absurd w (ni_1 (by omega)), fun _ => ?_⟩
        have e1 : (if 0 ≤ (oI (some k') - nI fo) then (oI (some k') - nI fo) else 0 - (oI (some k') - nI fo)) = nI (dst k' fo) := abs_n (a := k') (by omega) (by omega)
        rw [e1, abs_n (by omega) (by omega), show max i fo - min i fo = dst i fo from rfl, nI_le' (by unfold dst; omega) (by unfold dst; omega)]
        refine ⟨fun w => nxt (some k') hb ?_, fun w => nxt (some i) sb ?_⟩
        · unfold ngF; rw [if_pos z]; exact if_pos w
        · unfold ngF; rw [if_pos z]; exact if_neg w
  exact okm22 c d Post _ _ s ⟨dF D + 1, loop (dF D) 0 none (by omega) (fun k hk => by cases hk) rfl⟩
theorem s119 (hd : 7 ≤ d) (h : XS s0 s D) (hv : VD B D) (hN : okN (dF D) B (dg D)) (hB : B < 2 ^ 19) (k : ∀ s', XS s0 s' D → WK s' (gmR D) (prW D 1) (owD D) → Post none s') : tE c d 119 [.ref 0] s Post := by
  obtain ⟨d, rfl⟩ := d_1 (show 1 ≤ d by omega)
  have hF := hv.1.2
  refine okm119 c d Post s (s118 (by omega) h hN hB (fun s1 h1 w1 => ⟨rfl, ?_⟩))
  obtain ⟨⟨a0, b0⟩, ⟨a1, b1⟩, ⟨a2, b2⟩, _⟩ := hN
  have loop : ∀ (m i : Nat) (s' : gs), i + m = dF D → frA s1 s' 37 → (∀ f, f < 12 → gsA s' 37 f = if f < i then gmR D f else prW D 0 f) → wl119_6 c d Post (m + 1) (nI i) s' := by
    intro m
    induction m with
    | zero =>
      intro i s' hi hf hh
      have hi' : i = dF D := by omega
      subst hi'
      have hS := XS_scA h1 hf (by decide)
      unfold wl119_6 wb119_6
      rw [hS.1.2.1.2.1]
      refine ⟨fun _ => k s' hS ⟨fun f hf12 => ?_, fun f hf12 => ?_, fun k hk => ?_⟩, fun z => absurd (le_t (by omega) (by omega) (by omega)) z⟩
      · rw [hh f hf12]
        by_cases q : f < dF D
        · rw [if_pos q]
        · rw [if_neg q]
          unfold prW gmR
          rw [if_neg q, if_neg q]
      · rw [hf.2.2.1 38 (by decide)]; exact w1.2.1 f hf12
      · rw [hf.2.2.1 39 (by decide)]; exact w1.2.2 k hk
    | succ m ih =>
      intro i s' hi hf hh
      have hS := XS_scA h1 hf (by decide)
      have hif : i < dF D := by omega
      have hns := nst_ok hv hif
      unfold wl119_6 wb119_6
      rw [hS.1.2.1.2.1, nI_clamp (by omega), hh i (by omega), if_neg (Nat.lt_irrefl i), XS_g hS (i := 2) (by decide), a2]
      have eg : prW D 0 i = gls (dr D) (dF D) i (gn (dg D) 2) (db D 0 / 3 + 1) := by unfold prW; rw [if_pos hif]
      rw [eg]
      refine ⟨fun z => absurd z (le_f (by omega) (by omega) (by omega)), fun _ => ⟨vp_in_nI (by omega) (by decide), s22 (by omega) hS.1.2.1 _ (by omega) ⟨_, rfl, ?_⟩⟩⟩
      rw [hns.2, XS_g hS (i := 2) (by decide), a2]
      have wr : ∀ v : Int32, v = gmR D i → w119_70 c d Post (wl119_6 c d Post (m + 1)) (nI i) 37 (nI i) v s' := by
        intro v hvv
        refine ⟨12, rfl, vp_in_nI (by omega) (by decide), ?_⟩
        rintro s2 rfl
        rw [nI_clamp (by omega), nI_1]
        refine ih (i + 1) _ (by omega) (frA_A hf _ _) (fun f hf12 => ?_)
        rw [gsA_A]
        by_cases e : f = i
        · rw [e, upd_eq, if_pos (by omega)]; exact hvv
        · rw [upd_ne e, hh f hf12]
          by_cases e2 : f < i
          · rw [if_pos e2, if_pos (by omega)]
          · rw [if_neg e2, if_neg (by omega)]
      refine s16 (by omega) (a := nst D i) (by omega) (by omega) ⟨_, rfl, fun z => wr _ ?_, fun z => wr _ ?_⟩
      · rw [bI_0] at z
        unfold gmR
        rw [if_pos hif, if_neg z]
        rfl
      · rw [bI_0, Classical.not_not] at z
        unfold gmR
        rw [if_pos hif, if_pos z]
  exact ⟨dF D + 1, loop (dF D) 0 s1 (by omega) (frA_rf s1 37) (fun f hf => by rw [if_neg (Nat.not_lt_zero f)]; exact w1.1 f hf)⟩
theorem s20 (hd : 1 ≤ d) (hL : XL s D) (k : Post (some (.int (allB (dF D)))) s) : tE c d 20 [.ref 3] s Post := by
  obtain ⟨d, rfl⟩ := d_1 hd
  refine okm20 c d Post s ?_
  unfold wm20
  rw [hL.2.1]
  exact k
theorem s226 (hd : 4 ≤ d) (h : MS s0 s D) (hv : VD B D) (hN : okN (dF D) B (dg D)) {f : Nat} (hf : f < dF D) (k : Post (some (.int (nI (nst D f)))) s) : tE c d 226 [.ref 48, .int (nI f)] s Post := by
  obtain ⟨d, rfl⟩ := d_1 (show 1 ≤ d by omega)
  have hF := hv.1.2
  obtain ⟨⟨a0, b0⟩, ⟨a1, b1⟩, ⟨a2, b2⟩, _⟩ := hN
  have e2 : gsA s 49 (2 : Int32).toNatClampNeg = nI (gn (dg D) 2) := by rw [MS_G h]; exact a2
  have loop : ∀ (m i b : Nat), i + m = dF D → b < 12 → fl (nrF (gls (dr D) (dF D) f (gn (dg D) 2) (db D 0 / 3 + 1)) (gn (dg D) 2)) i m b = nst D f → wl226_18 c d Post (m + 1) (gls (dr D) (dF D) f (gn (dg D) 2) (db D 0 / 3 + 1)) (nI b) (nI i) s := by
    intro m
    induction m with
    | zero =>
      intro i b hi hb hr
      have hr' : b = nst D f := hr
      subst hr'
      unfold wl226_18 wb226_18
      rw [h.1.2.1.2.1]
      exact ⟨fun _ => k, fun z => absurd (le_t (by omega) (by omega) (by omega)) z⟩
    | succ m ih =>
      intro i b hi hb hr
      have hr' : fl (nrF (gls (dr D) (dF D) f (gn (dg D) 2) (db D 0 / 3 + 1)) (gn (dg D) 2)) (i + 1) m (nrF (gls (dr D) (dF D) f (gn (dg D) 2) (db D 0 / 3 + 1)) (gn (dg D) 2) i b) = nst D f := hr
      unfold nrF at hr'
      unfold wl226_18 wb226_18 w226_65
      rw [h.1.2.1.2.1, nI_1]
      refine ⟨fun z => absurd z (le_f (by omega) (by omega) (by omega)), fun _ => s155 (by omega) _ _ ⟨_, rfl, ?_⟩⟩
      rw [gb_tt (by omega), e2, abs_n (by omega) (by omega), abs_n (by omega) (by omega), show max b (gn (dg D) 2) - min b (gn (dg D) 2) = dst b (gn (dg D) 2) from rfl, show max i (gn (dg D) 2) - min i (gn (dg D) 2) = dst i (gn (dg D) 2) from rfl, nI_le' (by unfold dst; omega) (by unfold dst; omega)]
      refine ⟨fun z => ?_, fun z => ⟨vpd rfl, vpd rfl, fun y => ?_, fun y => ?_⟩⟩
      · rw [if_neg (fun w => by rw [if_pos w] at z; cases z)] at hr'
        exact ih (i + 1) b (by omega) hb hr'
      · rw [if_pos (by
          by_cases w : gb (gls (dr D) (dF D) f (gn (dg D) 2) (db D 0 / 3 + 1)) i = true
          · exact w
          · rw [if_neg w] at z; exact absurd rfl z), if_pos y] at hr'
        exact ih (i + 1) b (by omega) hb hr'
      · rw [if_pos (by
          by_cases w : gb (gls (dr D) (dF D) f (gn (dg D) 2) (db D 0 / 3 + 1)) i = true
          · exact w
          · rw [if_neg w] at z; exact absurd rfl z), if_neg y] at hr'
        exact ih (i + 1) i (by omega) (by omega) hr'
  refine okm226 c d Post _ s ⟨vpd rfl, ?_⟩
  rw [e2]
  exact s189 (n := 0) (by omega) h.1.2.1 h.1.2.2.2.1 (by decide) hf (by omega) ⟨_, rfl, dF D + 1, loop (dF D) 0 f (by omega) (by omega) rfl⟩
theorem s227 (hd : 1 ≤ d) (k f : Nat) (kk : Post (some (.int (nI (12 * k + f)))) s) : tE c d 227 [.ref 48, .int (nI k), .int (nI f)] s Post := by
  obtain ⟨d, rfl⟩ := d_1 hd
  refine okm227 c d Post _ _ s ?_
  unfold wm227
  rw [show (12 : Int32) * nI k = nI (12 * k) from pk_mul 12 k, nI_add]
  exact kk
theorem s228 (hd : 2 ≤ d) {k f : Nat} (hk : k < 20) (hf : f < 12) (kk : Post (some (.int (1 + gsA s 68 (12 * (k + 1) + f)))) s) : tE c d 228 [.ref 48, .int (nI k), .int (nI f)] s Post := by
  obtain ⟨d, rfl⟩ := d_1 (show 1 ≤ d by omega)
  refine okm228 c d Post _ _ s ?_
  unfold wm228
  rw [nI_1]
  refine s227 (by omega) (k + 1) f ⟨_, rfl, vp_in_nI (by omega) (by decide), ?_⟩
  rw [nI_clamp (by omega)]
  exact kk
theorem s225 (hd : 3 ≤ d) (h : MS s0 s D) (hN : okN (dF D) B (dg D)) (hB : B < 2 ^ 19) {g : Int32} (hg : gsV s 48 32 = g) {k : Nat} (hk : k < 20) (kk : Post (some (.int (owG D g k))) s) : tE c d 225 [.ref 48, .int (nI k)] s Post := by
  obtain ⟨d, rfl⟩ := d_1 (show 1 ≤ d by omega)
  unfold owG owD at kk
  refine okm225 c d Post _ s ⟨vpd rfl, s184n (by omega) h hN.1.1 (by have := hN.1.2; omega) ⟨_, rfl, fun z => ⟨fun y => absurd y (le_f (a := 31) (by decide) (by omega) (by omega)), fun _ => ?_⟩, fun z => ?_⟩⟩
  · rw [hg]
    refine s155 (by omega) _ _ ⟨_, rfl, ?_⟩
    rw [gb_tt (by omega)]
    refine ⟨fun y => ?_, fun y => ?_⟩
    · rw [if_neg (fun w => by rw [if_pos w.2] at y; cases y)] at kk
      exact kk
    · rw [if_pos ⟨z, by
        by_cases w : gb g k = true
        · exact w
        · rw [if_neg w] at y; exact absurd rfl y⟩] at kk
      exact kk
  · rw [if_neg (fun w => z w.1)] at kk
    exact kk
theorem s229 (hd : 8 ≤ d) (h : MS s0 s D) (hv : VD B D) (hN : okN (dF D) B (dg D)) (hB : B < 2 ^ 19) {g : Int32} (hg : gsV s 48 32 = g) {n : Nat} (hn : n ≤ 20) (kk : ∀ s', MS s0 s' D → frA s s' 68 → (∀ k, k ≤ n → ∀ f, f < dF D → gsA s' 68 (12 * k + f) = nI (kp D (owG D g) (n - k) k f)) → Post none s') : tE c d 229 [.ref 48, .int (nI n)] s Post := by
  obtain ⟨d, rfl⟩ := d_1 (show 1 ≤ d by omega)
  have hF := hv.1.2
  have h12 := hN.2.2.1.2
  have e2 : ∀ s', MS s0 s' D → gsA s' 49 (2 : Int32).toNatClampNeg = nI (gn (dg D) 2) := fun s' hS => by rw [MS_G hS]; exact hN.2.2.1.1
  have outer : ∀ (i : Nat) (s' : gs), i ≤ n → frA s s' 68 → (∀ k, i ≤ k → k ≤ n → ∀ f, f < dF D → gsA s' 68 (12 * k + f) = nI (kp D (owG D g) (n - k) k f)) → wl229_32 c d Post (i + 1) (nI i - 1) s' := by
    intro i
    induction i with
    | zero =>
      intro s' hi hf hh
      exact ⟨fun _ => kk s' (MS_scr h hf (by decide)) hf (fun k hk => hh k (Nat.zero_le _) hk), fun z => absurd (by decide) z⟩
    | succ i ih =>
      intro s' hi hf hh
      have e1 : nI (i + 1) - 1 = nI i := pk_sub (a := i + 1) (b := 1) (by omega)
      have hS := MS_scr h hf (by decide)
      unfold wl229_32 wb229_32
      rw [e1]
      refine ⟨fun z => absurd z (nI_pos (by omega)), fun _ => s225 (g := g) (by omega) hS hN hB (by rw [hf.1]; exact hg) (by omega) ⟨_, rfl, dF D + 1, ?_⟩⟩
      have inner : ∀ (m f : Nat) (s2 : gs), f + m = dF D → frA s' s2 68 → (∀ j, 12 * (i + 1) ≤ j → gsA s2 68 j = gsA s' 68 j) → (∀ f', f' < f → gsA s2 68 (12 * i + f') = nI (kp D (owG D g) (n - i) i f')) → wl229_45 c d Post (wl229_32 c d Post (i + 1)) (m + 1) (nI i) (owG D g i) (nI f) s2 := by
        intro m
        induction m with
        | zero =>
          intro f s2 hff hf2 ho hd2
          have hff' : f = dF D := by omega
          subst hff'
          have hS2 := MS_scr hS hf2 (by decide)
          unfold wl229_45 wb229_45
          rw [hS2.1.2.1.2.1, show nI i + -1 = nI i - 1 by grind]
          refine ⟨fun _ => ih s2 (by omega) (frA_tr hf hf2) (fun k h1 h2 f' hf' => ?_), fun z => absurd (le_t (by omega) (by omega) (by omega)) z⟩
          by_cases e : k = i
          · subst e; exact hd2 f' hf'
          · rw [ho _ (by omega)]
            exact hh k (by omega) h2 f' hf'
        | succ m ihm =>
          intro f s2 hff hf2 ho hd2
          have hfF : f < dF D := by omega
          have hS2 := MS_scr hS hf2 (by decide)
          have en : n - i = (n - (i + 1)) + 1 := by omega
          have bh : ∀ t, t < dF D → 1 + gsA s2 68 (12 * (i + 1) + t) = nI (1 + kp D (owG D g) (n - (i + 1)) (i + 1) t) := by
            intro t ht
            rw [ho _ (by omega), hh (i + 1) (Nat.le_refl _) hi t ht]
            exact nI_add 1 _
          have wr : ∀ v : Nat, v = kp D (owG D g) (n - i) i f → w229_169 c d Post (wl229_32 c d Post (i + 1)) (wl229_45 c d Post (wl229_32 c d Post (i + 1)) (m + 1)) (nI i) (owG D g i) (nI f) (nI v) s2 := by
            intro v hvv
            refine s227 (by omega) i f ⟨_, rfl, vp_in_nI (by omega) (by decide), ?_⟩
            rw [nI_clamp (by omega), nI_1]
            rintro s3 rfl
            refine ihm (f + 1) _ (by omega) (frA_A hf2 _ _) (fun j hj => ?_) (fun f' hf' => ?_)
            · rw [gsA_A, upd_ne (by omega)]; exact ho j hj
            · rw [gsA_A]
              by_cases e : f' = f
              · rw [e, upd_eq, ← hvv]; rfl
              · rw [upd_ne (by omega)]; exact hd2 f' (by omega)
          unfold wl229_45 wb229_45
          rw [hS2.1.2.1.2.1]
          refine ⟨fun z => absurd z (le_f (by omega) (by omega) (by omega)), fun _ => ⟨fun z => ?_, fun z => ⟨fun y => ?_, fun y => ?_⟩⟩⟩
          · have hns := (nst_ok hv hfF).1
            have ek : kp D (owG D g) (n - i) i f = if near (nst D f) (gn (dg D) 2) then 0 else 1 + kp D (owG D g) (n - (i + 1)) (i + 1) (nst D f) := by
              rw [en]
              show (if owG D g i = 0 then _ else _) = _
              rw [if_pos z]
            refine s226 (by omega) hS2 hv hN hfF ⟨_, rfl, vpd rfl, ?_⟩
            rw [e2 s2 hS2]
            refine s185 (by omega) (by omega) (by omega) ⟨_, rfl, fun w => s226 (by omega) hS2 hv hN hfF ⟨_, rfl, s228 (by omega) (by omega) (by omega) ⟨_, rfl, ?_⟩⟩, fun w => ?_⟩
            · rw [bI_0] at w
              rw [bh _ hns]
              refine wr _ ?_
              rw [ek, if_neg w]
            · rw [bI_0, Classical.not_not] at w
              refine wr 0 ?_
              rw [ek, if_pos w]
          · have ek : kp D (owG D g) (n - i) i f = 1 + kp D (owG D g) (n - (i + 1)) (i + 1) f := by
              rw [en]
              show (if owG D g i = 0 then _ else if owG D g i = -1 then _ else _) = _
              rw [if_neg z, if_pos y]
            refine s228 (by omega) (by omega) (by omega) ⟨_, rfl, ?_⟩
            rw [bh _ hfF]
            exact wr _ ek.symm
          · have ek : kp D (owG D g) (n - i) i f = fl (fun t v => if gb (prW D 1 f) t = true then max v (1 + kp D (owG D g) (n - (i + 1)) (i + 1) t) else v) 0 (dF D) 0 := by
              rw [en]
              show (if owG D g i = 0 then _ else if owG D g i = -1 then _ else _) = _
              rw [if_neg z, if_neg y]
            have lp : ∀ (m' t v : Nat), t + m' = dF D → v ≤ 100 → fl (fun t v => if gb (prW D 1 f) t = true then max v (1 + kp D (owG D g) (n - (i + 1)) (i + 1) t) else v) t m' v = kp D (owG D g) (n - i) i f → wl229_119 c d Post (wl229_32 c d Post (i + 1)) (wl229_45 c d Post (wl229_32 c d Post (i + 1)) (m + 1)) (m' + 1) (nI i) (owG D g i) (nI f) (nI v) (nI t) s2 := by
              intro m'
              induction m' with
              | zero =>
                intro t v ht hvl hr
                have hr' : v = kp D (owG D g) (n - i) i f := hr
                unfold wl229_119 wb229_119
                rw [hS2.1.2.1.2.1]
                exact ⟨fun _ => wr v hr', fun w => absurd (le_t (by omega) (by omega) (by omega)) w⟩
              | succ m' ihp =>
                intro t v ht hvl hr
                have hr' : fl (fun t v => if gb (prW D 1 f) t = true then max v (1 + kp D (owG D g) (n - (i + 1)) (i + 1) t) else v) (t + 1) m' (if gb (prW D 1 f) t = true then max v (1 + kp D (owG D g) (n - (i + 1)) (i + 1) t) else v) = kp D (owG D g) (n - i) i f := hr
                have hkl := kp_le D (owG D g) (n - (i + 1)) (i + 1) t
                unfold wl229_119 wb229_119 w229_163
                rw [hS2.1.2.1.2.1, e2 s2 hS2, nI_1]
                have eg : prW D 1 f = gls (dr D) (dF D) f (gn (dg D) 2) (db D 1 / 3 + 1) := by unfold prW; rw [if_pos hfF]
                rw [eg] at hr'
                refine ⟨fun w => absurd w (le_f (by omega) (by omega) (by omega)), fun _ => ⟨vpd rfl, s189 (n := 1) (by omega) hS2.1.2.1 hS2.1.2.2.2.1 (by decide) hfF (by omega) ⟨_, rfl, s155 (by omega) _ _ ⟨_, rfl, ?_⟩⟩⟩⟩
                rw [gb_tt (by omega)]
                refine ⟨fun w => ?_, fun w => s228 (by omega) (by omega) (by omega) ⟨_, rfl, ?_⟩⟩
                · rw [if_neg (fun u => by rw [if_pos u] at w; cases w), ← eg] at hr'
                  exact ihp (t + 1) v (by omega) hvl hr'
                · rw [if_pos (by
                    by_cases u : gb (gls (dr D) (dF D) f (gn (dg D) 2) (db D 1 / 3 + 1)) t = true
                    · exact u
                    · rw [if_neg u] at w; exact absurd rfl w), ← eg] at hr'
                  rw [bh t (by omega), fl_max (by omega) (by omega)]
                  exact ihp (t + 1) _ (by omega) (by omega) hr'
            exact ⟨dF D + 1, lp (dF D) 0 0 (by omega) (by omega) ek.symm⟩
      exact inner (dF D) 0 s' (by omega) (frA_rf s' 68) (fun _ _ => rfl) (fun f' hf' => absurd hf' (Nat.not_lt_zero _))
  have first : ∀ (m f : Nat) (s' : gs), f + m = dF D → frA s s' 68 → (∀ f', f' < f → gsA s' 68 (12 * n + f') = 0) → wl229_2 c d Post (m + 1) (nI n) (nI f) s' := by
    intro m
    induction m with
    | zero =>
      intro f s' hff hf hh
      have hff' : f = dF D := by omega
      subst hff'
      have hS := MS_scr h hf (by decide)
      unfold wl229_2 wb229_2
      rw [hS.1.2.1.2.1]
      refine ⟨fun _ => ⟨n + 1, outer n s' (Nat.le_refl _) hf (fun k h1 h2 f' hf' => ?_)⟩, fun z => absurd (le_t (by omega) (by omega) (by omega)) z⟩
      have e : k = n := by omega
      subst e
      rw [hh f' hf', Nat.sub_self]
      rfl
    | succ m ih =>
      intro f s' hff hf hh
      have hS := MS_scr h hf (by decide)
      unfold wl229_2 wb229_2
      rw [hS.1.2.1.2.1]
      refine ⟨fun z => absurd z (le_f (by omega) (by omega) (by omega)), fun _ => s227 (by omega) n f ⟨_, rfl, vp_in_nI (by omega) (by decide), ?_⟩⟩
      rw [nI_clamp (by omega), nI_1]
      rintro s5 rfl
      refine ih (f + 1) _ (by omega) (frA_A hf _ _) (fun f' hf' => ?_)
      rw [gsA_A]
      by_cases e : f' = f
      · rw [e, upd_eq]; rfl
      · rw [upd_ne (by omega)]; exact hh f' (by omega)
  exact okm229 c d Post _ s ⟨dF D + 1, first (dF D) 0 s (by omega) (frA_rf s 68) (fun f' hf' => absurd hf' (Nat.not_lt_zero _))⟩
end W2
