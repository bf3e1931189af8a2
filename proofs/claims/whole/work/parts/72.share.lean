/-! Calls: share. -/
def sm (f : Nat → Int32) : Nat → Int32
  | 0 => 0
  | n + 1 => sm f n + f n
theorem sm_up {f g : Nat → Int32} {b : Nat} (h : ∀ j, j ≠ b → g j = f j) : ∀ n, sm g n = sm f n + (if b < n then g b - f b else 0)
  | 0 => by
    rw [if_neg (Nat.not_lt_zero b), Int32.add_zero]
    rfl
  | n + 1 => by
    show sm g n + g n = sm f n + f n + _
    rw [sm_up h n]
    by_cases e : b = n
    · subst e
      rw [if_neg (by omega), if_pos (by omega)]
      grind
    · rw [h n (fun z => e z.symm)]
      by_cases e2 : b < n
      · rw [if_pos e2, if_pos (by omega)]
        grind
      · rw [if_neg e2, if_neg (by omega)]
        grind
theorem sm_cg {f g : Nat → Int32} : ∀ n, (∀ j, j < n → f j = g j) → sm f n = sm g n
  | 0, _ => rfl
  | n + 1, h => by
    show sm f n + f n = sm g n + g n
    rw [sm_cg n (fun j hj => h j (by omega)), h n (by omega)]
theorem pcs_up {f : Nat → Bool} {b : Nat} (hb : f b = false) : ∀ n, pcs (fun j => f j || decide (j = b)) n = pcs f n + (if b < n then 1 else 0)
  | 0 => rfl
  | n + 1 => by
    show pcs (fun j => f j || decide (j = b)) n + (if (f n || decide (n = b)) = true then 1 else 0) = pcs f n + (if f n = true then 1 else 0) + _
    rw [pcs_up hb n]
    by_cases e : n = b
    · subst e
      rw [hb]
      simp
    · by_cases e2 : b < n
      · rw [if_pos e2, if_pos (show b < n + 1 by omega)]
        simp [e]
        omega
      · rw [if_neg e2, if_neg (show ¬ b < n + 1 by omega)]
        simp [e]
theorem pcs_mn {f g : Nat → Bool} : ∀ n, (∀ j, j < n → f j = true → g j = true) → pcs f n ≤ pcs g n
  | 0, _ => Nat.le_refl _
  | n + 1, h => by
    have h1 := pcs_mn (f := f) (g := g) n (fun j hj => h j (by omega))
    show pcs f n + (if f n = true then 1 else 0) ≤ pcs g n + (if g n = true then 1 else 0)
    by_cases e : f n = true
    · rw [if_pos e, if_pos (h n (by omega) e)]
      omega
    · rw [if_neg e]
      omega
theorem gb_not {x : Int32} {i : Nat} (hi : i < 32) : gb (x ^^^ (-1)) i = !gb x i := by
  unfold gb
  show (x.toBitVec ^^^ (-1 : Int32).toBitVec).getLsbD i = _
  rw [BitVec.getLsbD_xor, show ((-1 : Int32).toBitVec).getLsbD i = true from by
    have : ∀ i, i < 32 → ((-1 : Int32).toBitVec).getLsbD i = true := by decide
    exact this i hi]
  simp
/-- a bit by a shift -/
theorem gb_shr {x : Int32} {k : Nat} (hk : k < 32) : ((x >>> (nI k &&& 31)) &&& 1 = 1) ↔ gb x k = true := by
  rw [shr_1 x k hk]
  unfold gb
  by_cases q : x.toBitVec.getLsbD k = true
  · rw [if_pos q]; simp [q]
  · rw [if_neg q]; simp [q]
theorem gb_tt {x : Int32} {k : Nat} (hk : k < 32) : (if (x >>> (nI k &&& 31)) &&& 1 = 1 then 1 else 0 : Int32) = if gb x k = true then 1 else 0 := by
  by_cases q : gb x k = true
  · rw [if_pos q, if_pos ((gb_shr hk).mpr q)]
  · rw [if_neg q, if_neg (fun z => q ((gb_shr hk).mp z))]
/-- days that are somebody's; what giving one gains -/
def lfB (D : DD) (i : Nat) : Bool := decide (¬ who (dg D) (gn (dg D) 0 + i) = -1)
def rfB (D : DD) (i : Nat) : Bool := decide (who (dg D) (gn (dg D) 0 + i) = 0)
def gnD (D : DD) (i : Nat) : Int32 := wD D 0 i - wD D 1 i
def frE (D : DD) (bits : Int32) (i : Nat) : Prop := gb bits i = false ∧ lfB D i = true
def oI : Option Nat → Int32
  | none => -1
  | some k => nI k
def bsF (D : DD) (bits : Int32) (i : Nat) (b : Option Nat) : Option Nat := if gb bits i = false ∧ lfB D i = true then (match b with
  | none => some i
  | some k => if gnD D i ≤ gnD D k then some k else some i) else b
theorem bsF_n (D : DD) (bits : Int32) {i : Nat} {b : Option Nat} (h : ¬ frE D bits i) : bsF D bits i b = b := if_neg h
theorem bsF_0 (D : DD) (bits : Int32) {i : Nat} (h : frE D bits i) : bsF D bits i none = some i := if_pos h
theorem bsF_1 (D : DD) (bits : Int32) {i k : Nat} (h : frE D bits i) (hg : gnD D i ≤ gnD D k) : bsF D bits i (some k) = some k := by
  unfold bsF
  rw [if_pos (show gb bits i = false ∧ lfB D i = true from h)]
  exact if_pos hg
theorem bsF_2 (D : DD) (bits : Int32) {i k : Nat} (h : frE D bits i) (hg : ¬ gnD D i ≤ gnD D k) : bsF D bits i (some k) = some i := by
  unfold bsF
  rw [if_pos (show gb bits i = false ∧ lfB D i = true from h)]
  exact if_neg hg
theorem bs_ok (D : DD) (bits : Int32) : ∀ (m i : Nat) (b : Option Nat), (∀ k, b = some k → k < i ∧ frE D bits k) → (∀ k, fl (bsF D bits) i m b = some k → k < i + m ∧ frE D bits k) ∧ (fl (bsF D bits) i m b = none → b = none ∧ ∀ j, i ≤ j → j < i + m → ¬ frE D bits j)
  | 0, i, b, h => ⟨h, fun z => ⟨z, fun j h1 h2 => absurd h2 (by omega)⟩⟩
  | m + 1, i, b, h => by
    have e : fl (bsF D bits) i (m + 1) b = fl (bsF D bits) (i + 1) m (bsF D bits i b) := rfl
    have hb : ∀ k, bsF D bits i b = some k → k < i + 1 ∧ frE D bits k := by
      intro k hk
      by_cases q : frE D bits i
      · cases b with
        | none =>
          rw [bsF_0 D bits q] at hk
          cases hk
          exact ⟨by omega, q⟩
        | some k' =>
          by_cases q2 : gnD D i ≤ gnD D k'
          · rw [bsF_1 D bits q q2] at hk
            cases hk
            have := h k rfl
            exact ⟨by omega, this.2⟩
          · rw [bsF_2 D bits q q2] at hk
            cases hk
            exact ⟨by omega, q⟩
      · rw [bsF_n D bits q] at hk
        have := h k hk
        exact ⟨by omega, this.2⟩
    obtain ⟨h1, h2⟩ := bs_ok D bits m (i + 1) (bsF D bits i b) hb
    rw [e]
    refine ⟨fun k hk => ?_, fun z => ?_⟩
    · have := h1 k hk
      exact ⟨by omega, this.2⟩
    · obtain ⟨z1, z2⟩ := h2 z
      have q : ¬ frE D bits i := by
        intro q
        cases b with
        | none => rw [bsF_0 D bits q] at z1; cases z1
        | some k' =>
          by_cases q2 : gnD D i ≤ gnD D k'
          · rw [bsF_1 D bits q q2] at z1; cases z1
          · rw [bsF_2 D bits q q2] at z1; cases z1
      rw [bsF_n D bits q] at z1
      refine ⟨z1, fun j h3 h4 => ?_⟩
      by_cases ej : j = i
      · rw [ej]; exact q
      · exact z2 j (by omega) (by omega)
/-- the days chosen, one by one -/
def chB (D : DD) (N : Nat) : Nat → Int32
  | 0 => 0
  | k + 1 => match fl (bsF D (chB D N k)) 0 N none with
    | some b => chB D N k ||| sh1 b
    | none => chB D N k
/-- the wishes that come true with these days -/
def tfB (D : DD) (bits : Int32) (j : Nat) : Int32 := if lfB D j = true then (if gb bits j = true then wD D 0 j else wD D 1 j) else 0
def chI (D : DD) (N k : Nat) : Prop := (∀ j, j < 32 → gb (chB D N k) j = true → j < N ∧ lfB D j = true) ∧ pcs (gb (chB D N k)) N = k
theorem ch_nx (D : DD) {N k : Nat} (hN : N ≤ 20) (hk : k < pcs (rfB D) N) (h : chI D N k) : ∃ b, b < N ∧ frE D (chB D N k) b ∧ fl (bsF D (chB D N k)) 0 N none = some b ∧ chB D N (k + 1) = chB D N k ||| sh1 b ∧ chI D N (k + 1) ∧ sm (tfB D (chB D N (k + 1))) N = sm (tfB D (chB D N k)) N + gnD D b := by
  obtain ⟨h1, h2⟩ := bs_ok D (chB D N k) N 0 none (fun k hk => by cases hk)
  cases hr : fl (bsF D (chB D N k)) 0 N none with
  | none =>
    exfalso
    obtain ⟨-, z⟩ := h2 hr
    have h3 : pcs (lfB D) N ≤ pcs (gb (chB D N k)) N := pcs_mn N (fun j hj hl => by
      have := z j (by omega) (by omega)
      cases q : gb (chB D N k) j
      · exact absurd ⟨q, hl⟩ this
      · rfl)
    have h4 : pcs (rfB D) N ≤ pcs (lfB D) N := pcs_mn N (fun j hj hl => by
      have : who (dg D) (gn (dg D) 0 + j) = 0 := of_decide_eq_true hl
      refine decide_eq_true ?_
      rw [this]
      decide)
    rw [h.2] at h3
    omega
  | some b =>
    obtain ⟨hb, hf⟩ := h1 b hr
    have e : chB D N (k + 1) = chB D N k ||| sh1 b := by
      show (match fl (bsF D (chB D N k)) 0 N none with
        | some b => chB D N k ||| sh1 b
        | none => chB D N k) = _
      rw [hr]
    have hg : ∀ j, j < 32 → gb (chB D N (k + 1)) j = (gb (chB D N k) j || decide (j = b)) := by
      intro j hj
      rw [e, gb_ors (by omega) hj]
    refine ⟨b, by omega, hf, rfl, e, ⟨fun j hj hq => ?_, ?_⟩, ?_⟩
    · rw [hg j hj] at hq
      by_cases ej : j = b
      · rw [ej]; exact ⟨by omega, hf.2⟩
      · rw [decide_eq_false ej, Bool.or_false] at hq
        exact h.1 j hj hq
    · rw [pcs_cg N (g := fun j => gb (chB D N k) j || decide (j = b)) (fun j hj => hg j (by omega)), pcs_up hf.1, h.2, if_pos (by omega)]
    · have e1 : sm (tfB D (chB D N (k + 1))) N = sm (fun j => if j = b then wD D 0 b else tfB D (chB D N k) j) N := by
        refine sm_cg N (fun j hj => ?_)
        show tfB D (chB D N (k + 1)) j = if j = b then wD D 0 b else tfB D (chB D N k) j
        unfold tfB
        rw [hg j (by omega)]
        by_cases ej : j = b
        · subst ej
          rw [if_pos hf.2, if_pos (by simp), if_pos rfl]
        · rw [if_neg ej, decide_eq_false ej, Bool.or_false]
      rw [e1, sm_up (f := tfB D (chB D N k)) (b := b) (fun j hj => if_neg hj) N, if_pos (by omega), if_pos rfl]
      unfold gnD
      congr 2
      unfold tfB
      rw [if_pos hf.2, if_neg (by rw [hf.1]; decide)]
section C8
variable {c : gx} {d B : Nat} {Post : Option Value → gs → Prop} {s0 s : gs} {D : DD}
theorem s123 (hd : 2 ≤ d) (h : XS s0 s D) (i : Nat) (k : Post (some (.int (gnD D i))) s) : tE c d 123 [.ref 0, .int (nI i)] s Post := by
  obtain ⟨d, rfl⟩ := d_1 (show 1 ≤ d by omega)
  refine okm123 c d Post _ s ?_
  exact s30w (n := 0) (by omega) h (by decide) _ ⟨_, rfl, s30w (n := 1) (by omega) h (by decide) _ ⟨_, rfl, k⟩⟩
theorem lf_t {i : Nat} (h : ¬ who (dg D) (gn (dg D) 0 + i) = -1) : lfB D i = true := decide_eq_true h
theorem lf_f {i : Nat} (h : who (dg D) (gn (dg D) 0 + i) = -1) : ¬ lfB D i = true := fun z => absurd h (of_decide_eq_true z)
theorem s122 (hd : 4 ≤ d) (h : XS s0 s D) (a0 : dg D 0 = nI (gn (dg D) 0)) (hl : gn (dg D) 0 < 2 ^ 19) {N : Nat} (hN : N ≤ 20) (bits : Int32) (k : Post (some (.int (oI (fl (bsF D bits) 0 N none)))) s) : tE c d 122 [.ref 0, .int (nI N), .int bits] s Post := by
  obtain ⟨d, rfl⟩ := d_1 (show 1 ≤ d by omega)
  have loop : ∀ (m i : Nat) (b : Option Nat), i + m = N → (∀ k, b = some k → k < 20) → fl (bsF D bits) i m b = fl (bsF D bits) 0 N none → wl122_5 c d Post (m + 1) (nI N) bits (oI b) (nI i) s := by
    intro m
    induction m with
    | zero =>
      intro i b hi hb hr
      refine ⟨fun _ => ?_, fun z => absurd (le_t (by omega) (by omega) (by omega)) z⟩
      rw [← hr] at k
      exact k
    | succ m ih =>
      intro i b hi hb hr
      have hr' : fl (bsF D bits) (i + 1) m (bsF D bits i b) = fl (bsF D bits) 0 N none := hr
      have nxt : ∀ b' : Option Nat, (∀ k, b' = some k → k < 20) → bsF D bits i b = b' → w122_75 c d Post (wl122_5 c d Post (m + 1)) (nI N) bits (oI b') (nI i) s := by
        intro b' hb' e
        unfold w122_75
        rw [nI_1]
        rw [e] at hr'
        exact ih (i + 1) b' (by omega) hb' hr'
      have no : ¬ frE D bits i → w122_45 c d Post (wl122_5 c d Post (m + 1)) (nI N) bits (oI b) (nI i) s := fun z => ⟨fun _ => nxt b hb (bsF_n D bits z), fun y => absurd rfl y⟩
      have sb : ∀ k, some i = some k → k < 20 := fun k hk => by cases hk; omega
      refine ⟨fun z => absurd z (le_f (by omega) (by omega) (by omega)), fun _ => ⟨fun z => s51n (by omega) h a0 (by omega) ⟨_, rfl, fun y => ?_, fun y => ?_⟩, fun z => ?_⟩⟩
      · exact no (fun q => lf_f y q.2)
      · have z' : gb bits i = false := (and_sh1 (by omega)).mp z
        have q : frE D bits i := ⟨z', lf_t y⟩
        refine ⟨fun w => absurd w (by decide), fun _ => ?_⟩
        cases b with
        | none => exact ⟨fun _ => nxt (some i) sb (bsF_0 D bits q), fun w => absurd rfl w⟩
        | some k' =>
          have hk' := hb k' rfl
          refine ⟨fun w => absurd w (ni_1 (by omega)), fun _ => s123 (by omega) h i ⟨_, rfl, s123 (by omega) h k' ⟨_, rfl, fun w => ?_, fun w => ?_⟩⟩⟩
          · exact nxt (some k') hb (bsF_1 D bits q w)
          · exact nxt (some i) sb (bsF_2 D bits q w)
      · exact no (fun q => z ((and_sh1 (by omega)).mpr q.1))
  exact okm122 c d Post _ _ s ⟨N + 1, loop N 0 none (by omega) (fun k hk => by cases hk) rfl⟩
def snF (D : DD) (j : Nat) : Int32 := if lfB D j = true then wD D (whn (dg D) (gn (dg D) 0 + j)) j else 0
theorem pcs_s (f : Nat → Bool) (n : Nat) : pcs f (n + 1) = pcs f n + (if f n = true then 1 else 0) := rfl
theorem cl_share (h : HY d s B D) (x : Int32) : CL c d 121 236 [.int x] s B := by
  have hd := h.1
  have hB := h.2.2.2.2
  have hv := h.2.2.2.1
  obtain ⟨⟨a0, b0⟩, _⟩ := HY_n h
  by_cases q : 1 ≤ x ∧ x ≤ 20
  · obtain ⟨N, hN1, hN, rfl⟩ := i_rng (a := 1) (b := 20) (by decide) q (by decide)
    have hrc := pcs_le (rfB D) N
    generalize hM : pcs (rfB D) N = M
    have ch0 : chI D N 0 := by
      refine ⟨fun j hj z => ?_, ?_⟩
      · rw [show chB D N 0 = 0 from rfl, gb_0] at z
        cases z
      · rw [show chB D N 0 = 0 from rfl]
        exact pcs_lo (lo := N) (fun i _ => gb_0 i) N (Nat.le_refl _)
    have t0 : sm (tfB D (chB D N 0)) N = sm (fun j => if lfB D j = true then wD D 1 j else 0) N := sm_cg N (fun j hj => by
      unfold tfB
      rw [show chB D N 0 = 0 from rfl, gb_0]
      rfl)
    refine glu1 h (D' := uW D 2 (r2 (chB D N M).toInt64 (sm (snF D) N).toInt64)) (x := sm (tfB D (chB D N M)) N) (VD_W (VD_mono hv (Nat.le_add_right B 60)) _ _) (fun Post k => ?_) (fun s1 Post hm k => ?_)
    · obtain ⟨d, rfl⟩ := d_1 (show 1 ≤ d by omega)
      have hS := XS_rf h.2.1
      have hNn := hS.1.2.2.2.2.1
      have loop2 : ∀ (m j : Nat), j + m = M → chI D N j → wl121_127 c d Post (m + 1) (nI N) (nI M) (sm (snF D) N) (chB D N j) (sm (tfB D (chB D N j)) N) (nI j) s := by
        intro m
        induction m with
        | zero =>
          intro j hj hI
          refine ⟨fun _ => ?_, fun z => absurd (le_t (by omega) (by omega) (by omega)) z⟩
          rw [show j = M by omega]
          exact s46' (by omega) hS _ _ (fun s2 h2 f2 => ⟨rfl, k s2 h2⟩)
        | succ m ih =>
          intro j hj hI
          obtain ⟨b, hb, hf, e1, e2, hI', e3⟩ := ch_nx D hN (by omega) hI
          refine ⟨fun z => absurd z (le_f (by omega) (by omega) (by omega)), fun _ => s122 (by omega) hS a0 (by omega) hN _ ⟨_, rfl, ?_⟩⟩
          rw [e1]
          refine s123 (by omega) hS b ⟨_, rfl, ?_⟩
          rw [nI_1]
          have := ih (j + 1) (by omega) hI'
          rw [e3, e2] at this
          exact this
      have loop1 : ∀ (m i : Nat), i + m = N → wl121_23 c d Post (m + 1) (nI N) (nI (pcs (rfB D) i)) (sm (snF D) i) (sm (fun j => if lfB D j = true then wD D 1 j else 0) i) (nI i) s := by
        intro m
        induction m with
        | zero =>
          intro i hi
          refine ⟨fun _ => ⟨M + 1, ?_⟩, fun z => absurd (le_t (by omega) (by omega) (by omega)) z⟩
          have hi' : i = N := by omega
          subst hi'
          rw [hM, ← t0]
          exact loop2 M 0 (by omega) ch0
        | succ m ih =>
          intro i hi
          have h1 := ih (i + 1) (by omega)
          have e1 : sm (snF D) (i + 1) = sm (snF D) i + snF D i := rfl
          have e2 : sm (fun j => if lfB D j = true then wD D 1 j else 0) (i + 1) = sm (fun j => if lfB D j = true then wD D 1 j else 0) i + (if lfB D i = true then wD D 1 i else 0) := rfl
          rw [e1, e2, pcs_s] at h1
          unfold snF at h1
          refine ⟨fun z => absurd z (le_f (by omega) (by omega) (by omega)), fun _ => s51n (by omega) hS a0 (by omega) ⟨_, rfl, fun z => ?_, fun z => ?_⟩⟩
          · rw [if_neg (lf_f z), if_neg (lf_f z), Int32.add_zero, Int32.add_zero, if_neg (fun w => by have := of_decide_eq_true w; rw [z] at this; cases this)] at h1
            unfold w121_111
            rw [nI_1]
            exact h1
          · rw [if_pos (lf_t z), if_pos (lf_t z)] at h1
            have hw := whn_lt (dg D) (gn (dg D) 0 + i)
            refine ⟨fun y => ?_, fun y => ?_⟩
            · rw [if_pos (show rfB D i = true from decide_eq_true y)] at h1
              unfold w121_65
              rw [whn_e z]
              refine s148' (by omega) hw ⟨_, rfl, ldr_c hw, s30w (by omega) hS hw _ ⟨_, rfl, s30w (n := 1) (by omega) hS (by decide) _ ⟨_, rfl, ?_⟩⟩⟩
              unfold w121_111
              rw [nI_1, nI_1]
              exact h1
            · rw [if_neg (show ¬ rfB D i = true from fun w => y (of_decide_eq_true w))] at h1
              unfold w121_65
              rw [whn_e z]
              refine s148' (by omega) hw ⟨_, rfl, ldr_c hw, s30w (by omega) hS hw _ ⟨_, rfl, s30w (n := 1) (by omega) hS (by decide) _ ⟨_, rfl, ?_⟩⟩⟩
              unfold w121_111
              rw [nI_1, Int32.add_zero]
              exact h1
      exact okm121 c d Post _ s ⟨fun z => absurd z (i_nlt.mpr q.1), fun _ => ⟨fun _ => ⟨N + 1, loop1 N 0 (by omega)⟩, fun z => absurd q.2 z⟩⟩
    · obtain ⟨d, rfl⟩ := d_1 (show 1 ≤ d by omega)
      refine okm236 c d Post _ s1 ?_
      rintro s2 rfl
      have hS := MS_thr hm 0
      revert hS
      generalize gs_V s1 48 13 0 = s2
      intro hS
      have hNn := hS.1.2.2.2.2.1
      have hG := MS_G hS
      have loop3 : ∀ (lb : Int32), (∀ j, j < 32 → gb lb j = (decide (j < N) && lfB D j)) → ∀ (m i : Nat), i + m = N → wl236_207 c d Post (m + 1) (nI N) lb (sm (snF D) N) (chB D N M) (sm (tfB D (chB D N M)) i) (nI i) s2 := by
        intro lb hlb m
        induction m with
        | zero =>
          intro i hi
          refine ⟨fun _ => ?_, fun z => absurd (le_t (by omega) (by omega) (by omega)) z⟩
          rw [show i = N by omega]
          rintro s3 rfl
          exact s157r (by omega) (MS_row0 hS (r2 (chB D N M).toInt64 (sm (snF D) N).toInt64)) (by decide) rfl (fun s4 h4 e4 => ⟨rfl, s157r (by omega) h4 (by decide) rfl (fun s5 h5 e5 => ⟨rfl, k s5 h5⟩)⟩)
        | succ m ih =>
          intro i hi
          have h1 := ih (i + 1) (by omega)
          rw [show sm (tfB D (chB D N M)) (i + 1) = sm (tfB D (chB D N M)) i + tfB D (chB D N M) i from rfl] at h1
          unfold tfB at h1
          have gl : gb lb i = lfB D i := by rw [hlb i (by omega), decide_eq_true (by omega), Bool.true_and]
          refine ⟨fun z => absurd z (le_f (by omega) (by omega) (by omega)), fun _ => s155 (by omega) _ _ ⟨_, rfl, ?_⟩⟩
          rw [gb_tt (by omega), gl]
          refine ⟨fun z => ?_, fun z => s155 (by omega) _ _ ⟨_, rfl, ?_⟩⟩
          · have z' : ¬ lfB D i = true := fun w => by rw [if_pos w] at z; cases z
            rw [if_neg z'] at h1
            unfold w236_249
            rw [nI_1]
            exact h1
          · have z' : lfB D i = true := by
              by_cases w : lfB D i = true
              · exact w
              · rw [if_neg w] at z; exact absurd rfl z
            rw [if_pos z'] at h1
            rw [gb_tt (by omega)]
            refine ⟨fun y => ?_, fun y => ?_⟩
            · have y' : ¬ gb (chB D N M) i = true := fun w => by rw [if_pos w] at y; cases y
              rw [if_neg y'] at h1
              refine s234 (n := 1) (by omega) hNn hG (by decide) _ ⟨_, rfl, ?_⟩
              unfold w236_249
              rw [nI_1]
              exact h1
            · have y' : gb (chB D N M) i = true := by
                by_cases w : gb (chB D N M) i = true
                · exact w
                · rw [if_neg w] at y; exact absurd rfl y
              rw [if_pos y'] at h1
              refine s234 (n := 0) (by omega) hNn hG (by decide) _ ⟨_, rfl, ?_⟩
              unfold w236_249
              rw [nI_1]
              exact h1
      have inner : ∀ (lb : Int32), (∀ j, j < 32 → gb lb j = (decide (j < N) && lfB D j)) → ∀ (j : Nat) (e : Nat) (K : Int32 → Int32 → Int32 → Int32 → Int32 → Int32 → gs → Prop), fl (bsF D (chB D N j)) 0 N none = some e → K (nI N) lb (nI M) (sm (snF D) N) (chB D N j ||| sh1 e) (nI (j + 1)) s2 → ∀ (m i : Nat) (b : Option Nat), i + m = N → (∀ k, b = some k → k < 20) → fl (bsF D (chB D N j)) i m b = some e → wl236_117 c d Post K (m + 1) (nI N) lb (nI M) (sm (snF D) N) (chB D N j) (nI j) (oI b) (nI i) s2 := by
        intro lb hlb j e K he hK m
        induction m with
        | zero =>
          intro i b hi hb hr
          have hr' : b = some e := hr
          subst hr'
          refine ⟨fun _ => ?_, fun z => absurd (le_t (by omega) (by omega) (by omega)) z⟩
          rw [nI_1]
          exact hK
        | succ m ih =>
          intro i b hi hb hr
          have hr' : fl (bsF D (chB D N j)) (i + 1) m (bsF D (chB D N j) i b) = some e := hr
          have nxt : ∀ b' : Option Nat, (∀ k, b' = some k → k < 20) → bsF D (chB D N j) i b = b' → w236_180 c d Post K (wl236_117 c d Post K (m + 1)) (nI N) lb (nI M) (sm (snF D) N) (chB D N j) (nI j) (oI b') (nI i) s2 := by
            intro b' hb' e
            unfold w236_180
            rw [nI_1]
            rw [e] at hr'
            exact ih (i + 1) b' (by omega) hb' hr'
          have sb : ∀ k, some i = some k → k < 20 := fun k hk => by cases hk; omega
          have gl : gb (lb &&& (chB D N j ^^^ (-1))) i = true ↔ frE D (chB D N j) i := by
            rw [gb_and, gb_not (by omega), hlb i (by omega), decide_eq_true (show i < N by omega), Bool.true_and, Bool.and_eq_true]
            unfold frE
            constructor
            · intro z; exact ⟨by simpa using z.2, z.1⟩
            · intro z; exact ⟨z.2, by simpa using z.1⟩
          refine ⟨fun z => absurd z (le_f (by omega) (by omega) (by omega)), fun _ => s155 (by omega) _ _ ⟨_, rfl, ?_⟩⟩
          rw [gb_tt (by omega)]
          refine ⟨fun z => ?_, fun z => ?_⟩
          · have z' : ¬ frE D (chB D N j) i := fun w => by rw [if_pos (gl.mpr w)] at z; cases z
            exact nxt b hb (bsF_n D _ z')
          · have z' : frE D (chB D N j) i := by
              by_cases w : gb (lb &&& (chB D N j ^^^ (-1))) i = true
              · exact gl.mp w
              · rw [if_neg w] at z; exact absurd rfl z
            cases b with
            | none => exact ⟨fun _ => nxt (some i) sb (bsF_0 D _ z'), fun w => absurd rfl w⟩
            | some k' =>
              have hk' := hb k' rfl
              refine ⟨fun w => absurd w (ni_1 (by omega)), fun _ => s234 (n := 0) (by omega) hNn hG (by decide) _ ⟨_, rfl, s234 (n := 1) (by omega) hNn hG (by decide) _ ⟨_, rfl, s234 (n := 0) (by omega) hNn hG (by decide) _ ⟨_, rfl, s234 (n := 1) (by omega) hNn hG (by decide) _ ⟨_, rfl, fun w => ?_, fun w => ?_⟩⟩⟩⟩⟩
              · exact nxt (some k') hb (bsF_1 D _ z' w)
              · exact nxt (some i) sb (bsF_2 D _ z' w)
      have loop2 : ∀ (lb : Int32), (∀ j, j < 32 → gb lb j = (decide (j < N) && lfB D j)) → ∀ (m j : Nat), j + m = M → chI D N j → wl236_105 c d Post (m + 1) (nI N) lb (nI M) (sm (snF D) N) (chB D N j) (nI j) s2 := by
        intro lb hlb m
        induction m with
        | zero =>
          intro j hj hI
          refine ⟨fun _ => ⟨N + 1, ?_⟩, fun z => absurd (le_t (by omega) (by omega) (by omega)) z⟩
          rw [show j = M by omega]
          exact loop3 lb hlb N 0 (by omega)
        | succ m ih =>
          intro j hj hI
          obtain ⟨b, hb, hf, e1, e2, hI', e3⟩ := ch_nx D hN (by omega) hI
          refine ⟨fun z => absurd z (le_f (by omega) (by omega) (by omega)), fun _ => ⟨N + 1, ?_⟩⟩
          have h1 := ih (j + 1) (by omega) hI'
          rw [e2] at h1
          exact inner lb hlb j b _ e1 h1 N 0 none (by omega) (fun k hk => by cases hk) e1
      have loop1 : ∀ (m i : Nat) (lb : Int32), i + m = N → (∀ j, j < 32 → gb lb j = (decide (j < i) && lfB D j)) → wl236_27 c d Post (m + 1) (nI N) lb (nI (pcs (rfB D) i)) (sm (snF D) i) (nI i) s2 := by
        intro m
        induction m with
        | zero =>
          intro i lb hi hlb
          refine ⟨fun _ => ⟨M + 1, ?_⟩, fun z => absurd (le_t (by omega) (by omega) (by omega)) z⟩
          have hi' : i = N := by omega
          subst hi'
          rw [hM]
          exact loop2 lb hlb M 0 (by omega) ch0
        | succ m ih =>
          intro i lb hi hlb
          have h1 := fun lb => ih (i + 1) lb (by omega)
          have e1 : sm (snF D) (i + 1) = sm (snF D) i + snF D i := rfl
          rw [e1, pcs_s] at h1
          unfold snF at h1
          refine ⟨fun z => absurd z (le_f (by omega) (by omega) (by omega)), fun _ => ⟨vpd rfl, s184n (by omega) hS a0 (by omega) ⟨_, rfl, fun z => ?_, fun z => ?_⟩⟩⟩
          · rw [if_neg (lf_f z), Int32.add_zero, if_neg (fun w => by have := of_decide_eq_true w; rw [z] at this; cases this)] at h1
            unfold w236_93
            rw [nI_1]
            refine h1 lb (fun j hj => ?_)
            rw [hlb j hj]
            by_cases ej : j = i
            · subst ej
              have : lfB D j = false := by simpa using lf_f z
              rw [this, Bool.and_false, Bool.and_false]
            · congr 1
              exact decide_eq_decide.mpr (by omega)
          · rw [if_pos (lf_t z)] at h1
            have hw := whn_lt (dg D) (gn (dg D) 0 + i)
            have hlb' : ∀ j, j < 32 → gb (lb ||| sh1 i) j = (decide (j < i + 1) && lfB D j) := by
              intro j hj
              rw [gb_ors (by omega) hj, hlb j hj]
              by_cases ej : j = i
              · subst ej
                rw [lf_t z]
                simp
              · rw [decide_eq_false ej, Bool.or_false]
                congr 1
                exact decide_eq_decide.mpr (by omega)
            refine ⟨fun y => ?_, fun y => ?_⟩
            · rw [if_pos (show rfB D i = true from decide_eq_true y)] at h1
              unfold w236_78
              rw [whn_e z]
              refine s234 (by omega) hNn hG hw _ ⟨_, rfl, ?_⟩
              unfold w236_93
              rw [nI_1, nI_1]
              exact h1 _ hlb'
            · rw [if_neg (show ¬ rfB D i = true from fun w => y (of_decide_eq_true w))] at h1
              unfold w236_78
              rw [whn_e z]
              refine s234 (by omega) hNn hG hw _ ⟨_, rfl, ?_⟩
              unfold w236_93
              rw [nI_1, Int32.add_zero]
              exact h1 _ hlb'
      refine s154 (by omega) _ _ _ ⟨_, rfl, fun z => ?_, fun _ => ⟨N + 1, loop1 N 0 0 (by omega) (fun j hj => ?_)⟩⟩
      · rw [bI_0] at z; exact absurd q z
      · rw [gb_0, decide_eq_false (Nat.not_lt_zero j), Bool.false_and]
  · refine glu0 h (x := -1) (fun Post k => ?_) (fun s1 Post hm k => ?_)
    · obtain ⟨d, rfl⟩ := d_1 (show 1 ≤ d by omega)
      have k' := k s (XS_rf h.2.1)
      exact okm121 c d Post _ s ⟨fun z => k', fun z1 => ⟨fun z2 => absurd ⟨i_nlt.mp z1, z2⟩ q, fun z => k'⟩⟩
    · obtain ⟨d, rfl⟩ := d_1 (show 1 ≤ d by omega)
      refine okm236 c d Post _ s1 ?_
      rintro s2 rfl
      refine s154 (by omega) _ _ _ ⟨_, rfl, fun z => k _ (MS_thr hm 0), fun z => ?_⟩
      rw [bI_0, Classical.not_not] at z
      exact absurd z q
end C8
