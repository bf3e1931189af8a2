/-! Ways over the ground: what the class's walk computes. -/
theorem fl_or {P : Nat → Prop} [DecidablePred P] {g : Nat → Int32} : ∀ (m i : Nat) (a : Int32) (j : Nat), gb (fl (fun f a => if P f then a ||| g f else a) i m a) j = true ↔ gb a j = true ∨ ∃ f, i ≤ f ∧ f < i + m ∧ P f ∧ gb (g f) j = true
  | 0, i, a, j => by
    constructor
    · exact Or.inl
    · rintro (h | ⟨f, h1, h2, _⟩)
      · exact h
      · omega
  | m + 1, i, a, j => by
    show gb (fl (fun f a => if P f then a ||| g f else a) (i + 1) m (if P i then a ||| g i else a)) j = true ↔ _
    rw [fl_or m (i + 1)]
    by_cases q : P i
    · rw [if_pos q, gb_or, Bool.or_eq_true]
      constructor
      · rintro ((h | h) | ⟨f, h1, h2, h3⟩)
        · exact Or.inl h
        · exact Or.inr ⟨i, Nat.le_refl _, by omega, q, h⟩
        · exact Or.inr ⟨f, by omega, by omega, h3⟩
      · rintro (h | ⟨f, h1, h2, h3, h4⟩)
        · exact Or.inl (Or.inl h)
        · by_cases e : f = i
          · rw [e] at h4; exact Or.inl (Or.inr h4)
          · exact Or.inr ⟨f, by omega, by omega, h3, h4⟩
    · rw [if_neg q]
      constructor
      · rintro (h | ⟨f, h1, h2, h3⟩)
        · exact Or.inl h
        · exact Or.inr ⟨f, by omega, by omega, h3⟩
      · rintro (h | ⟨f, h1, h2, h3, h4⟩)
        · exact Or.inl h
        · by_cases e : f = i
          · rw [e] at h3; exact absurd h3 q
          · exact Or.inr ⟨f, by omega, by omega, h3, h4⟩
theorem and_ne {x y : Int32} : (¬ x &&& y = 0) ↔ ∃ j, j < 32 ∧ gb x j = true ∧ gb y j = true := by
  constructor
  · intro h
    apply Classical.byContradiction
    intro q
    refine h (gb_ext (fun j hj => ?_))
    rw [gb_0, gb_and]
    cases h1 : gb x j
    · rfl
    · cases h2 : gb y j
      · rfl
      · exact absurd ⟨j, hj, h1, h2⟩ q
  · rintro ⟨j, hj, h1, h2⟩ h
    have : gb (x &&& y) j = false := by rw [h, gb_0]
    rw [gb_and, h1, h2] at this
    cases this
theorem ne_0 {x : Int32} : (¬ x = 0) ↔ ∃ j, j < 32 ∧ gb x j = true := by
  constructor
  · intro h
    apply Classical.byContradiction
    intro q
    refine h (gb_ext (fun j hj => ?_))
    rw [gb_0]
    cases h1 : gb x j
    · rfl
    · exact absurd ⟨j, hj, h1⟩ q
  · rintro ⟨j, hj, h1⟩ h
    rw [h, gb_0] at h1
    cases h1
def mvO (R S : Nat → Int32) (o : Int32) (f : Nat) : Int32 := if o = -1 then sh1 f else if o = 0 then R f else S f
def mvA (R S : Nat → Int32) (o X : Int32) : Int32 := fl (fun f a => if gb X f = true then a ||| mvO R S o f else a) 0 12 0
def srO (R S : Nat → Int32) (o G : Int32) : Int32 := fl (fun f a => if ¬ mvO R S o f &&& G = 0 then a ||| sh1 f else a) 0 12 0
def fwd (R S O : Nat → Int32) (k : Nat) : Nat → Int32 → Int32
  | 0, X => X
  | m + 1, X => mvA R S (O (k + m)) (fwd R S O k m X)
def bwd (R S O : Nat → Int32) : Nat → Nat → Int32 → Int32
  | _, 0, G => G
  | k, m + 1, G => srO R S (O k) (bwd R S O (k + 1) m G)
theorem mvA_b {R S : Nat → Int32} {o X : Int32} {j : Nat} : gb (mvA R S o X) j = true ↔ ∃ f, f < 12 ∧ gb X f = true ∧ gb (mvO R S o f) j = true := by
  unfold mvA
  rw [fl_or (P := fun f => gb X f = true), gb_0]
  constructor
  · rintro (h | ⟨f, h1, h2, h3⟩)
    · cases h
    · exact ⟨f, by omega, h3⟩
  · rintro ⟨f, h1, h2⟩
    exact Or.inr ⟨f, by omega, by omega, h2⟩
theorem srO_b {R S : Nat → Int32} {o G : Int32} {j : Nat} (hj : j < 32) : gb (srO R S o G) j = decide (j < 12 ∧ ¬ mvO R S o j &&& G = 0) := by
  unfold srO
  rw [fl_bits (fun f => ¬ mvO R S o f &&& G = 0) 12 0 0 j (by omega) hj, gb_0, Bool.false_or]
  exact decide_eq_decide.mpr ⟨fun z => ⟨by omega, z.2.2⟩, fun z => ⟨by omega, by omega, z.2⟩⟩
theorem fwd_c (R S O : Nat → Int32) : ∀ (m k : Nat) (X : Int32), fwd R S O k (m + 1) X = fwd R S O (k + 1) m (mvA R S (O k) X)
  | 0, k, X => rfl
  | m + 1, k, X => by
    show mvA R S (O (k + (m + 1))) (fwd R S O k (m + 1) X) = mvA R S (O (k + 1 + m)) (fwd R S O (k + 1) m (mvA R S (O k) X))
    rw [fwd_c R S O m k X, show k + (m + 1) = k + 1 + m by omega]
/-- forwards and backwards -/
theorem stepd {R S : Nat → Int32} {o X G : Int32} : (∃ j, j < 32 ∧ gb (mvA R S o X) j = true ∧ gb G j = true) ↔ ∃ f, f < 32 ∧ gb X f = true ∧ gb (srO R S o G) f = true := by
  constructor
  · rintro ⟨j, hj, h1, h2⟩
    obtain ⟨f, hf, h3, h4⟩ := mvA_b.mp h1
    refine ⟨f, by omega, h3, ?_⟩
    rw [srO_b (by omega)]
    exact decide_eq_true ⟨hf, and_ne.mpr ⟨j, hj, h4, h2⟩⟩
  · rintro ⟨f, hf, h1, h2⟩
    rw [srO_b hf] at h2
    obtain ⟨h3, h4⟩ := of_decide_eq_true h2
    obtain ⟨j, hj, h5, h6⟩ := and_ne.mp h4
    exact ⟨j, hj, mvA_b.mpr ⟨f, h3, h1, h5⟩, h6⟩
theorem duald {R S O : Nat → Int32} {G : Int32} : ∀ (m k : Nat) (X : Int32), (∃ j, j < 32 ∧ gb (fwd R S O k m X) j = true ∧ gb G j = true) ↔ ∃ f, f < 32 ∧ gb X f = true ∧ gb (bwd R S O k m G) f = true
  | 0, k, X => Iff.rfl
  | m + 1, k, X => by
    rw [fwd_c]
    exact (duald m (k + 1) _).trans stepd
/-- within the first F fields -/
def inF (F : Nat) (X : Int32) : Prop := ∀ j, j < 32 → gb X j = true → j < F
def okW (F : Nat) (R S : Nat → Int32) : Prop := (∀ f, inF F (R f) ∧ inF F (S f)) ∧ ∀ f, F ≤ f → R f = 0 ∧ S f = 0
theorem inF_sh {F f : Nat} (hf : f < F) (hF : F ≤ 12) : inF F (sh1 f) := fun j hj h => by
  rw [gb_sh1 (by omega) hj] at h
  rw [of_decide_eq_true h]
  exact hf
theorem mv_F {F : Nat} {R S : Nat → Int32} (hW : okW F R S) (hF : F ≤ 12) {f : Nat} (hf : f < F) (o : Int32) : inF F (mvO R S o f) := by
  unfold mvO
  split
  · exact inF_sh hf hF
  · split
    · exact (hW.1 f).1
    · exact (hW.1 f).2
theorem mvA_F {F : Nat} {R S : Nat → Int32} (hW : okW F R S) (hF : F ≤ 12) {o X : Int32} (hX : inF F X) : inF F (mvA R S o X) := fun j hj h => by
  obtain ⟨f, h1, h2, h3⟩ := mvA_b.mp h
  exact mv_F hW hF (hX f (by omega) h2) o j hj h3
theorem fwd_F {F : Nat} {R S O : Nat → Int32} (hW : okW F R S) (hF : F ≤ 12) {X : Int32} (hX : inF F X) : ∀ m k, inF F (fwd R S O k m X)
  | 0, _ => hX
  | m + 1, k => mvA_F hW hF (fwd_F hW hF hX m k)
theorem mv_out {F : Nat} {R S : Nat → Int32} (hW : okW F R S) {G : Int32} (hG : inF F G) {f : Nat} (hf : F ≤ f) (hf2 : f < 32) (o : Int32) : mvO R S o f &&& G = 0 := by
  unfold mvO
  split
  · apply Classical.byContradiction
    intro h
    obtain ⟨j, hj, h1, h2⟩ := and_ne.mp h
    rw [gb_sh1 hf2 hj] at h1
    have := of_decide_eq_true h1
    have := hG j hj h2
    omega
  · split
    · rw [(hW.2 f hf).1]; exact Int32.zero_and
    · rw [(hW.2 f hf).2]; exact Int32.zero_and
theorem srO_F {F : Nat} {R S : Nat → Int32} (hW : okW F R S) {o G : Int32} (hG : inF F G) : inF F (srO R S o G) := fun j hj h => by
  rw [srO_b hj] at h
  obtain ⟨h1, h2⟩ := of_decide_eq_true h
  by_cases q : j < F
  · exact q
  · exact absurd (mv_out hW hG (by omega) hj o) h2
theorem bwd_F {F : Nat} {R S O : Nat → Int32} (hW : okW F R S) {G : Int32} (hG : inF F G) : ∀ m k, inF F (bwd R S O k m G)
  | 0, _ => hG
  | m + 1, k => srO_F hW (bwd_F hW hG m (k + 1))
/-- the reference gathers over the fields that there are -/
theorem srO_f {F : Nat} {R S : Nat → Int32} (hW : okW F R S) (hF : F ≤ 12) {o G : Int32} (hG : inF F G) : srO R S o G = fl (fun f a => if ¬ mvO R S o f &&& G = 0 then a ||| sh1 f else a) 0 F 0 := by
  unfold srO
  rw [show 12 = F + (12 - F) by omega, fl_add]
  refine fl_id _ _ _ (fun j b h1 h2 => ?_)
  rw [if_neg (fun z => z (mv_out hW hG (by omega) (by omega) o))]
/-- the lowest bit -/
def nt1 (x y : Int32) : Int32 := y + jush x 1
def nt4 (x y : Int32) : Int32 := if x ≤ 4 then nt1 x y else nt1 (jush x 2) (y + 2)
def nt16 (x y : Int32) : Int32 := if x ≤ 16 then nt4 x y else nt4 (jush x 4) (y + 4)
def nt256 (x y : Int32) : Int32 := if x ≤ 256 then nt16 x y else nt16 (jush x 8) (y + 8)
def ntI (x : Int32) : Int32 := if 0 < ((x ^^^ (-1)) &&& (x - 1)) then (if ((x ^^^ (-1)) &&& (x - 1)) ≤ 65536 then nt256 ((x ^^^ (-1)) &&& (x - 1)) 1 else nt256 (jush ((x ^^^ (-1)) &&& (x - 1)) 16) (1 + 16)) else ((x ^^^ (-1)) &&& (x - 1)) &&& 32
def ntK (m : Nat) : Bool := decide ((ntI (nI m)).toNatClampNeg < 12) && (m.testBit (ntI (nI m)).toNatClampNeg) && decide (ntI (nI m) = nI (ntI (nI m)).toNatClampNeg) && (List.range (ntI (nI m)).toNatClampNeg).all (fun j => !m.testBit j)
set_option maxRecDepth 20000 in
theorem nt_12 : ∀ m, m < 4096 → m = 0 ∨ ntK m = true := by decide +kernel
theorem lt12 {x : Int32} (h : inF 12 x) : x.toBitVec.toNat < 4096 := by
  apply Nat.lt_pow_two_of_testBit (n := 12)
  intro i hi
  show x.toBitVec.getLsbD i = false
  by_cases q : i < 32
  · cases h1 : x.toBitVec.getLsbD i
    · rfl
    · have := h i q h1
      omega
  · exact BitVec.getLsbD_of_ge _ _ (by omega)
theorem eq_nI (x : Int32) : x = nI x.toBitVec.toNat := by
  apply Int32.toBitVec_inj.mp
  show x.toBitVec = BitVec.ofNat 32 _
  rw [BitVec.ofNat_toNat, BitVec.setWidth_eq]
theorem nt_b {x : Int32} (h : inF 12 x) (h0 : ¬ x = 0) : ∃ r, r < 12 ∧ ntI x = nI r ∧ gb x r = true ∧ ∀ j, j < r → gb x j = false := by
  have hl := lt12 h
  have e := eq_nI x
  rcases nt_12 _ hl with q | q
  · rw [q] at e; exact absurd e h0
  · unfold ntK at q
    rw [← e] at q
    simp only [Bool.and_eq_true, decide_eq_true_eq, List.all_eq_true, List.mem_range, Bool.not_eq_true'] at q
    obtain ⟨⟨⟨q1, q2⟩, q3⟩, q4⟩ := q
    exact ⟨_, q1, q3, q2, q4⟩
section W1
variable {c : gx} {d B : Nat} {Post : Option Value → gs → Prop} {s0 s : gs} {D : DD} {R S O : Nat → Int32}
theorem s265 (hd : 1 ≤ d) (x : Int32) (k : Post (some (.int (ntI x))) s) : tE c d 265 [.int x] s Post := by
  obtain ⟨d, rfl⟩ := d_1 hd
  have w1 : ∀ x y : Int32, Post (some (.int (nt1 x y))) s → w265_74 c d Post x y s := fun x y h => h
  have w4 : ∀ x y : Int32, Post (some (.int (nt4 x y))) s → w265_62 c d Post x y s := fun x y h => by
    unfold nt4 at h
    refine ⟨fun z => w1 _ _ ?_, fun z => w1 _ _ ?_⟩
    · rw [if_pos z] at h; exact h
    · rw [if_neg z] at h; exact h
  have w16 : ∀ x y : Int32, Post (some (.int (nt16 x y))) s → w265_49 c d Post x y s := fun x y h => by
    unfold nt16 at h
    refine ⟨fun z => w4 _ _ ?_, fun z => w4 _ _ ?_⟩
    · rw [if_pos z] at h; exact h
    · rw [if_neg z] at h; exact h
  have w256 : ∀ x y : Int32, Post (some (.int (nt256 x y))) s → w265_34 c d Post x y s := fun x y h => by
    unfold nt256 at h
    refine ⟨fun z => w16 _ _ ?_, fun z => w16 _ _ ?_⟩
    · rw [if_pos z] at h; exact h
    · rw [if_neg z] at h; exact h
  unfold ntI at k
  refine okm265 c d Post _ s ⟨fun z => ⟨fun y => w256 _ _ ?_, fun y => w256 _ _ ?_⟩, fun z => ?_⟩
  · rw [if_pos z, if_pos y] at k; exact k
  · rw [if_pos z, if_neg y] at k; exact k
  · rw [if_neg z] at k; exact k
def WK (s : gs) (R S O : Nat → Int32) : Prop := (∀ f, f < 12 → gsA s 37 f = R f) ∧ (∀ f, f < 12 → gsA s 38 f = S f) ∧ ∀ k, k < 20 → gsA s 39 k = O k
theorem WK_cg {s s' : gs} (h : WK s R S O) (h1 : gsA s' 37 = gsA s 37) (h2 : gsA s' 38 = gsA s 38) (h3 : gsA s' 39 = gsA s 39) : WK s' R S O := by
  unfold WK at *
  rw [h1, h2, h3]
  exact h
theorem s65 (hd : 1 ≤ d) (hW : WK s R S O) (o : Int32) {f : Nat} (hf : f < 12) (k : Post (some (.int (mvO R S o f))) s) : tE c d 65 [.ref 36, .int o, .int (nI f)] s Post := by
  obtain ⟨d, rfl⟩ := d_1 hd
  unfold mvO at k
  refine okm65 c d Post _ _ s ?_
  unfold wm65 w65_40
  rw [nI_clamp (by omega), hW.1 f hf, hW.2.1 f hf]
  refine ⟨fun z => absurd z (nI_pos (by omega)), fun _ => ⟨fun _ => ⟨fun z => ?_, fun z => ⟨fun y => ⟨vp_in_nI hf (by decide), ?_⟩, fun y => ⟨vp_in_nI hf (by decide), ?_⟩⟩⟩, fun z => absurd ((nI_lt' (b := 12) (by omega) (by decide)).mpr hf) z⟩⟩
  · rw [if_pos z] at k; exact k
  · rw [if_neg z, if_pos y] at k; exact k
  · rw [if_neg z, if_neg y] at k; exact k
theorem s66 (hd : 2 ≤ d) (hW : WK s R S O) (o X : Int32) (k : Post (some (.int (mvA R S o X))) s) : tE c d 66 [.ref 36, .int o, .int X] s Post := by
  obtain ⟨d, rfl⟩ := d_1 (show 1 ≤ d by omega)
  have loop : ∀ (m i : Nat) (a : Int32), i + m = 12 → fl (fun f a => if gb X f = true then a ||| mvO R S o f else a) i m a = mvA R S o X → wl66_5 c d Post (m + 1) o X a (nI i) s := by
    intro m
    induction m with
    | zero =>
      intro i a hi hr
      have hr' : a = mvA R S o X := hr
      subst hr'
      exact ⟨fun _ => k, fun z => absurd (le_t (a := 12) (by decide) (by omega) (by omega)) z⟩
    | succ m ih =>
      intro i a hi hr
      have hr' : fl (fun f a => if gb X f = true then a ||| mvO R S o f else a) (i + 1) m (if gb X i = true then a ||| mvO R S o i else a) = mvA R S o X := hr
      unfold wl66_5 wb66_5 w66_32
      rw [gb_shr (by omega), nI_1]
      refine ⟨fun z => absurd z (le_f (a := 12) (by decide) (by omega) (by omega)), fun _ => ⟨fun z => s65 (by omega) hW _ (by omega) ⟨_, rfl, ?_⟩, fun z => ?_⟩⟩
      · rw [if_pos z] at hr'
        exact ih (i + 1) _ (by omega) hr'
      · rw [if_neg z] at hr'
        exact ih (i + 1) _ (by omega) hr'
  exact okm66 c d Post _ _ s ⟨13, loop 12 0 0 rfl rfl⟩
theorem s70 (hd : 2 ≤ d) (hW : WK s R S O) (o G : Int32) (k : Post (some (.int (srO R S o G))) s) : tE c d 70 [.ref 36, .int o, .int G] s Post := by
  obtain ⟨d, rfl⟩ := d_1 (show 1 ≤ d by omega)
  have loop : ∀ (m i : Nat) (a : Int32), i + m = 12 → fl (fun f a => if ¬ mvO R S o f &&& G = 0 then a ||| sh1 f else a) i m a = srO R S o G → wl70_5 c d Post (m + 1) o G a (nI i) s := by
    intro m
    induction m with
    | zero =>
      intro i a hi hr
      have hr' : a = srO R S o G := hr
      subst hr'
      exact ⟨fun _ => k, fun z => absurd (le_t (a := 12) (by decide) (by omega) (by omega)) z⟩
    | succ m ih =>
      intro i a hi hr
      have hr' : fl (fun f a => if ¬ mvO R S o f &&& G = 0 then a ||| sh1 f else a) (i + 1) m (if ¬ mvO R S o i &&& G = 0 then a ||| sh1 i else a) = srO R S o G := hr
      unfold wl70_5 wb70_5 w70_31
      rw [nI_1]
      refine ⟨fun z => absurd z (le_f (a := 12) (by decide) (by omega) (by omega)), fun _ => s65 (by omega) hW _ (by omega) ⟨_, rfl, fun z => ?_, fun z => ?_⟩⟩
      · rw [if_neg (fun y => y z)] at hr'
        exact ih (i + 1) _ (by omega) hr'
      · rw [if_pos z] at hr'
        exact ih (i + 1) _ (by omega) hr'
  exact okm70 c d Post _ _ s ⟨13, loop 12 0 0 rfl rfl⟩
theorem s69 (hd : 3 ≤ d) (h : XS s0 s D) (hW : WK s R S O) {days : Nat} (hdy : days ≤ 20) (G : Int32) (k : ∀ s', XS s0 s' D → WK s' R S O → (∀ i, i ≤ days → gsA s' 40 i = bwd R S O i (days - i) G) → Post (some (.int (bwd R S O 0 days G))) s') : tE c d 69 [.ref 36, .int (nI days), .int G] s Post := by
  obtain ⟨d, rfl⟩ := d_1 (show 1 ≤ d by omega)
  have loop : ∀ (i : Nat) (s' : gs), i ≤ days → frA s s' 40 → (∀ j, i < j → j ≤ days → gsA s' 40 j = bwd R S O j (days - j) G) → wl69_10 c d Post (i + 2) (bwd R S O i (days - i) G) (nI i) s' := by
    intro i
    induction i with
    | zero =>
      intro s' hi hf hh
      refine ⟨fun z => absurd z (nI_pos (by omega)), fun _ => ⟨vp_in_nI (by omega) (by decide), ?_⟩⟩
      rintro s3 rfl
      have hf' := frA_A hf (nI 0).toNatClampNeg (vp_nar .int (bwd R S O 0 (days - 0) G))
      refine ⟨fun _ => ⟨fun _ => ?_, fun z => absurd (by decide) z⟩, fun z => absurd rfl z⟩
      refine k _ (XS_scA h hf' (by decide)) (WK_cg hW (hf'.2.2.1 37 (by decide)) (hf'.2.2.1 38 (by decide)) (hf'.2.2.1 39 (by decide))) (fun j hj => ?_)
      rw [gsA_A]
      by_cases e : j = 0
      · rw [e]
        exact upd_eq
      · have : upd (gsA s' 40) (nI 0).toNatClampNeg (vp_nar .int (bwd R S O 0 (days - 0) G)) j = gsA s' 40 j := upd_ne e
        rw [this]
        exact hh j (by omega) hj
    | succ i ih =>
      intro s' hi hf hh
      refine ⟨fun z => absurd z (nI_pos (by omega)), fun _ => ⟨vp_in_nI (by omega) (by decide), ?_⟩⟩
      rintro s3 rfl
      have e1 : nI (i + 1) - 1 = nI i := pk_sub (a := i + 1) (b := 1) (by omega)
      rw [nI_clamp (by omega), e1, nI_clamp (by omega)]
      have hf' := frA_A hf (i + 1) (vp_nar .int (bwd R S O (i + 1) (days - (i + 1)) G))
      have hW' : WK (gs_A s' 40 (i + 1) (vp_nar .int (bwd R S O (i + 1) (days - (i + 1)) G))) R S O := WK_cg hW (hf'.2.2.1 37 (by decide)) (hf'.2.2.1 38 (by decide)) (hf'.2.2.1 39 (by decide))
      refine ⟨fun z => absurd ((nI_eq' (b := 0) (by omega) (by decide)).mp z) (by omega), fun _ => ⟨vp_in_nI (by omega) (by decide), ?_⟩⟩
      rw [hW'.2.2 i (by omega)]
      refine s70 (by omega) hW' _ _ ⟨_, rfl, ?_⟩
      unfold w69_46
      rw [pk_m1]
      have e2 : srO R S (O i) (bwd R S O (i + 1) (days - (i + 1)) G) = bwd R S O i (days - i) G := by
        rw [show days - i = days - (i + 1) + 1 by omega]
        rfl
      rw [e2]
      refine ih _ (by omega) hf' (fun j h1 h2 => ?_)
      rw [gsA_A]
      by_cases e : j = i + 1
      · rw [e, upd_eq]; rfl
      · rw [upd_ne e]; exact hh j (by omega) h2
  refine okm69 c d Post _ _ s ⟨days + 2, ?_⟩
  have e20 : (if (20 : Int32) < nI days then 20 else nI days) = nI days := if_neg (fun z => by
    have := (nI_lt' (a := 20) (by decide) (by omega)).mp z
    omega)
  rw [e20]
  have := loop days s (Nat.le_refl _) (frA_rf s 40) (fun j h1 h2 => by omega)
  rw [Nat.sub_self] at this
  exact this
theorem s71 (hd : 2 ≤ d) (hW : WK s R S O) {i f : Nat} (hi : i < 20) (hf : f < 12) (k : Post (some (.int (ntI (mvO R S (O i) f &&& gsA s 40 (i + 1))))) s) : tE c d 71 [.ref 36, .int (nI i), .int (nI f)] s Post := by
  obtain ⟨d, rfl⟩ := d_1 (show 1 ≤ d by omega)
  refine okm71 c d Post _ _ s ?_
  unfold wm71
  rw [nI_clamp (by omega), nI_1, nI_clamp (by omega), hW.2.2 i hi]
  exact ⟨fun z => absurd z (nI_pos (by omega)), fun _ => ⟨fun _ => ⟨vp_in_nI hi (by decide), s65 (by omega) hW _ hf ⟨_, rfl, vp_in_nI (by omega) (by decide), s265 (by omega) _ ⟨_, rfl, k⟩⟩⟩, fun z => absurd ((nI_lt' (b := 20) (by omega) (by decide)).mpr hi) z⟩⟩
def ptR (pt : Nat → Nat) : Nat → Int64 := fun i => (nI (pt (i + 1))).toInt64
theorem s113 (hd : 3 ≤ d) (h : XS s0 s D) (hW : WK s R S O) {days : Nat} (hdy : days ≤ 20) {pt : Nat → Nat} (h0 : gsV s 14 1 = nI (pt 0)) (hp : ∀ i, i < days → pt i < 12 ∧ ntI (mvO R S (O i) (pt i) &&& gsA s 40 (i + 1)) = nI (pt (i + 1))) (k : ∀ s', XS s0 s' (uW D days (ptR pt)) → Post none s') : tE c d 113 [.ref 0, .int (nI days)] s Post := by
  obtain ⟨d, rfl⟩ := d_1 (show 1 ≤ d by omega)
  have loop : ∀ (m i : Nat) (s' : gs), i + m = days → XS s0 s' (uW D i (ptR pt)) → gsA s' = gsA s → wl113_18 c d Post (m + 1) (nI days) (nI (pt i)) (nI i) s' := by
    intro m
    induction m with
    | zero =>
      intro i s' hi hS ha
      have hi' : i = days := by omega
      subst hi'
      exact ⟨fun _ => k s' hS, fun z => absurd (le_t (by omega) (by omega) (by omega)) z⟩
    | succ m ih =>
      intro i s' hi hS ha
      obtain ⟨p1, p2⟩ := hp i (by omega)
      refine ⟨fun z => absurd z (le_f (by omega) (by omega) (by omega)), fun _ => s71 (by omega) (WK_cg hW (by rw [ha]) (by rw [ha]) (by rw [ha])) (by omega) p1 ⟨_, rfl, ?_⟩⟩
      rw [ha, p2]
      refine s44r (by omega) hS (by omega) rfl (fun s2 h2 f2 => ⟨rfl, ?_⟩)
      rw [nI_1]
      exact ih (i + 1) s2 (by omega) h2 (f2.2.2.trans ha)
  refine okm113 c d Post _ s ?_
  rintro s2 rfl
  refine ⟨days + 1, ?_⟩
  rw [show gsV (gs_V s 34 1 0) 14 1 = gsV s 14 1 from rfl, h0]
  exact loop days 0 _ (by omega) (XS_row0 h _) rfl
/-- where a consul can go, field by field; whose days -/
def prW (D : DD) (n f : Nat) : Int32 := if f < dF D then gls (dr D) (dF D) f (gn (dg D) 2) (db D n / 3 + 1) else 0
def owD (D : DD) (k : Nat) : Int32 := who (dg D) (gn (dg D) 0 + k)
theorem prW_ok (hF : dF D ≤ 12) : okW (dF D) (prW D 0) (prW D 1) := by
  have h1 : ∀ n f, inF (dF D) (prW D n f) := by
    intro n f j hj h
    unfold prW at h
    by_cases q : f < dF D
    · rw [if_pos q, gls_b (dr D) hF _ _ _ hj] at h
      exact (of_decide_eq_true h).1
    · rw [if_neg q, gb_0] at h
      cases h
  refine ⟨fun f => ⟨h1 0 f, h1 1 f⟩, fun f hf => ⟨?_, ?_⟩⟩
  · unfold prW; rw [if_neg (by omega)]
  · unfold prW; rw [if_neg (by omega)]
theorem s118 (hd : 6 ≤ d) (h : XS s0 s D) (hN : okN (dF D) B (dg D)) (hB : B < 2 ^ 19) (k : ∀ s', XS s0 s' D → WK s' (prW D 0) (prW D 1) (owD D) → Post none s') : tE c d 118 [.ref 0] s Post := by
  obtain ⟨d, rfl⟩ := d_1 (show 1 ≤ d by omega)
  obtain ⟨⟨a0, b0⟩, ⟨a1, b1⟩, ⟨a2, b2⟩, _⟩ := hN
  have hF := h.1.2.1.1.2
  have hFF := h.1.2.1.1
  have loop2 : ∀ (m i : Nat) (s' : gs), i + m = 12 → XS s0 s' D → (∀ k, k < 20 → gsA s' 39 k = owD D k) → (∀ f, f < i → gsA s' 37 f = prW D 0 f) → (∀ f, f < i → gsA s' 38 f = prW D 1 f) → wl118_41 c d Post (m + 1) (nI i) s' := by
    intro m
    induction m with
    | zero =>
      intro i s' hi hS h39 h37 h38
      have hi' : i = 12 := by omega
      subst hi'
      exact ⟨fun _ => k s' hS ⟨h37, h38, h39⟩, fun z => absurd (le_t (a := 12) (by decide) (by omega) (by omega)) z⟩
    | succ m ih =>
      intro i s' hi hS h39 h37 h38
      have w101 : ∀ (v : Int32) (s1 : gs), v = prW D 1 i → XS s0 s1 D → gsA s1 39 = gsA s' 39 → (∀ f, f < i + 1 → gsA s1 37 f = prW D 0 f) → gsA s1 38 = gsA s' 38 → w118_101 c d Post (wl118_41 c d Post (m + 1)) (nI i) 38 (nI i) v s1 := by
        intro v s1 hv h1 e39 e37 e38
        refine ⟨12, rfl, vp_in_nI (by omega) (by decide), ?_⟩
        rintro s2 rfl
        rw [nI_clamp (by omega), nI_1]
        refine ih (i + 1) _ (by omega) (XS_sA h1 (by decide) _ _) (fun k hk => ?_) (fun f hf => ?_) (fun f hf => ?_)
        · rw [A_A, if_neg (by decide), e39]; exact h39 k hk
        · rw [A_A, if_neg (by decide)]; exact e37 f hf
        · rw [gsA_A]
          by_cases e : f = i
          · rw [e, upd_eq]; exact hv
          · rw [upd_ne e, e38]; exact h38 f (by omega)
      have w78 : ∀ (x2 v : Int32), x2 = bI (fld D (nI i)) → v = prW D 0 i → w118_78 c d Post (wl118_41 c d Post (m + 1)) (nI i) x2 37 (nI i) v s' := by
        intro x2 v hx hv
        refine ⟨12, rfl, vp_in_nI (by omega) (by decide), ?_⟩
        rintro s1 rfl
        rw [nI_clamp (by omega)]
        have h1 := XS_sA hS (r := 37) (by decide) i (vp_nar .int v)
        have e37 : ∀ f, f < i + 1 → gsA (gs_A s' 37 i (vp_nar .int v)) 37 f = prW D 0 f := by
          intro f hf
          rw [gsA_A]
          by_cases e : f = i
          · rw [e, upd_eq]; exact hv
          · rw [upd_ne e]; exact h37 f (by omega)
        refine ⟨fun z => w101 0 _ ?_ h1 rfl e37 rfl, fun z => ?_⟩
        · rw [hx, bI_0, fld_nI hFF (by omega)] at z
          unfold prW
          rw [if_neg z]
        · rw [hx, bI_0, Classical.not_not, fld_nI hFF (by omega)] at z
          refine s112 (n := 1) (by omega) h1.1.2.1 h1.1.2.2.2.1 (by decide) z (by rw [XS_g h1 (by decide)]; exact a2) b2 ⟨_, rfl, w101 _ _ ?_ h1 rfl e37 rfl⟩
          unfold prW
          rw [if_pos z]
      refine ⟨fun z => absurd z (le_f (a := 12) (by decide) (by omega) (by omega)), fun _ => s14 (by omega) hS.1.2.1 _ ⟨_, rfl, fun z => w78 _ _ rfl ?_, fun z => ?_⟩⟩
      · rw [bI_0, fld_nI hFF (by omega)] at z
        unfold prW
        rw [if_neg z]
      · have z' := z
        rw [bI_0, Classical.not_not, fld_nI hFF (by omega)] at z'
        refine s112 (n := 0) (by omega) hS.1.2.1 hS.1.2.2.2.1 (by decide) z' (by rw [XS_g hS (by decide)]; exact a2) b2 ⟨_, rfl, w78 _ _ rfl ?_⟩
        unfold prW
        rw [if_pos z']
  have loop1 : ∀ (m i : Nat) (s' : gs), i + m = 20 → XS s0 s' D → (∀ k, k < i → gsA s' 39 k = owD D k) → wl118_2 c d Post (m + 1) (nI i) s' := by
    intro m
    induction m with
    | zero =>
      intro i s' hi hS h39
      have hi' : i = 20 := by omega
      subst hi'
      exact ⟨fun _ => ⟨13, loop2 12 0 s' rfl hS h39 (fun f hf => absurd hf (Nat.not_lt_zero _)) (fun f hf => absurd hf (Nat.not_lt_zero _))⟩, fun z => absurd (le_t (a := 20) (by decide) (by omega) (by omega)) z⟩
    | succ m ih =>
      intro i s' hi hS h39
      refine ⟨fun z => absurd z (le_f (a := 20) (by decide) (by omega) (by omega)), fun _ => s51n (by omega) hS a0 (by omega) ⟨_, rfl, vp_in_nI (by omega) (by decide), ?_⟩⟩
      rw [nI_clamp (by omega), nI_1]
      rintro s8 rfl
      refine ih (i + 1) _ (by omega) (XS_sA hS (by decide) _ _) (fun k hk => ?_)
      rw [gsA_A]
      by_cases e : k = i
      · rw [e, upd_eq]; rfl
      · rw [upd_ne e]; exact h39 k (by omega)
  exact okm118 c d Post s ⟨21, loop1 20 0 s rfl h (fun k hk => absurd hk (Nat.not_lt_zero _))⟩
end W1
