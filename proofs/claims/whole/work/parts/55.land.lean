/-! Specs of the ground's methods. -/
/-- a loop upwards -/
def fl {α : Type} (f : Nat → α → α) : Nat → Nat → α → α
  | _, 0, a => a
  | i, m + 1, a => fl f (i + 1) m (f i a)
def sh1 (k : Nat) : Int32 := 1 <<< (nI k &&& 31)
def gls (r : Nat → Bool) (F fr fo : Nat) (st : Int32) : Int32 := fl (fun t a => if ¬ st < nI (cst r fr t) ∧ ¬ pst fr fo t then a ||| sh1 t else a) 0 F 0
theorem cst_le (r : Nat → Bool) {a b : Nat} (ha : a < 12) (hb : b < 12) : cst r a b < 24 := by
  unfold cst
  have := pcs_le (fun j => r (min a b + j)) (max a b - min a b)
  omega
/-- rivers: as it answers to the mask of what lies between -/
theorem way_bc {s : gs} {D : DD} (hL : XL s D) {a b : Nat} (ha : a < dF D) (hb : b < dF D) : jbc (gsV s 3 1 &&& (((1 : Int32) <<< (nI (max a b) &&& 31)) - ((1 : Int32) <<< (nI (min a b) &&& 31)))) = nI (pcs (fun j => dr D (min a b + j)) (max a b - min a b)) := by
  obtain ⟨hF, h1, h2, h3⟩ := hL
  have hF2 := hF.2
  rw [jbc_f _ (fun i => decide (min a b ≤ i) && decide (i < max a b) && dr D i)]
  · congr 1
    have hlo : ∀ i, i < min a b → (decide (min a b ≤ i) && decide (i < max a b) && dr D i) = false := by
      intro i hi
      rw [decide_eq_false (by omega)]
      rfl
    have hhi : ∀ i, max a b ≤ i → (decide (min a b ≤ i) && decide (i < max a b) && dr D i) = false := by
      intro i hi
      rw [decide_eq_false (p := i < max a b) (by omega), Bool.and_false]
      rfl
    have e1 := pcs_hi hhi (12 - max a b)
    rw [show max a b + (12 - max a b) = 12 by omega] at e1
    rw [e1]
    have e2 := pcs_mid hlo (max a b - min a b)
    rw [show min a b + (max a b - min a b) = max a b by omega] at e2
    rw [e2]
    apply pcs_cg
    intro i hi
    show (decide (min a b ≤ min a b + i) && decide (min a b + i < max a b) && dr D (min a b + i)) = _
    rw [decide_eq_true (by omega), decide_eq_true (by omega)]
    simp
  · intro i hi
    show (_ &&& _ : BitVec 32).getLsbD i = _
    rw [BitVec.getLsbD_and]
    have hm := mask_b (max a b) (by omega) (min a b) (by omega) i hi
    rw [hm]
    by_cases hi2 : i < 12
    · rw [h3 i hi2, decide_eq_true hi2]
      by_cases q1 : min a b ≤ i
      · by_cases q2 : i < max a b
        · have : i + 1 < dF D := by omega
          simp [this, q1, q2]
        · simp [q2]
      · simp [q1]
    · have : ¬ i < max a b := by omega
      simp [this, hi2]
section S3
variable {c : gx} {d : Nat} {Post : Option Value → gs → Prop} {s : gs} {D : DD}
theorem s14 (hd : 1 ≤ d) (hL : XL s D) (x : Int32) (k : Post (some (.int (bI (fld D x)))) s) : tE c d 14 [.ref 3, .int x] s Post := by
  obtain ⟨d, rfl⟩ := d_1 hd
  have h2 := hL.2.1
  have h3 : nI (dF D) ≤ 12 := (nI_le' (b := 12) (by have := hL.1.2; omega) (by decide)).mpr hL.1.2
  have k0 : ¬ fld D x → Post (some (.int 0)) s := fun z => by rwa [bI_f z] at k
  have k1 : fld D x → Post (some (.int 1)) s := fun z => by rwa [bI_t z] at k
  refine okm14 c d Post x s ?_
  unfold wm14 w14_25 w14_26
  rw [h2]
  unfold fld at k0 k1
  grind
theorem s15 (hd : 2 ≤ d) (hL : XL s D) {n : Nat} (hn : n < dF D) (k : Post (some (.int (dh D n))) s) : tE c d 15 [.ref 3, .int (nI n)] s Post := by
  obtain ⟨d, rfl⟩ := d_1 (Nat.le_trans (by decide) hd)
  have hF := hL.1.2
  refine okm15 c d Post (nI n) s (s14 (by omega) hL _ ⟨_, rfl, fun z => ?_, fun _ => ⟨vp_in_nI (by omega) (by decide), ?_⟩⟩)
  · rw [bI_t ((fld_nI hL.1 (by omega)).mpr hn)] at z
    cases z
  · rw [nI_clamp (by omega), hL.2.2.1 n hn]
    exact k
theorem near_i {a b : Nat} (ha : a < 2 ^ 20) (hb : b < 2 ^ 20) : near a b ↔ ¬ (nI a - nI b < -1) ∧ ¬ 1 < nI a - nI b := by
  have e : nI a - nI b = Int32.ofInt (a - b) := by
    rw [i_eq, Int32.toInt_sub, nI_toInt (by omega), nI_toInt (by omega), Int32.toInt_ofInt]
  rw [i_lt, i_lt, e, Int32.toInt_ofInt]
  have e1 : (-1 : Int32).toInt = -1 := rfl
  have e2 : (1 : Int32).toInt = 1 := rfl
  have e3 : Int32.size = 4294967296 := rfl
  rw [e1, e2, e3, Int.bmod_eq_of_le (by omega) (by omega)]
  unfold near
  omega
theorem s16 (hd : 1 ≤ d) {a b : Nat} (ha : a < 2 ^ 20) (hb : b < 2 ^ 20) (k : Post (some (.int (bI (near a b)))) s) : tE c d 16 [.int (nI a), .int (nI b)] s Post := by
  obtain ⟨d, rfl⟩ := d_1 hd
  have e := near_i ha hb
  have k0 : ¬ near a b → Post (some (.int 0)) s := fun z => by rwa [bI_f z] at k
  have k1 : near a b → Post (some (.int 1)) s := fun z => by rwa [bI_t z] at k
  rw [e] at k0 k1
  refine okm16 c d Post _ _ s ?_
  unfold wm16 w16_18 w16_19
  grind
theorem s185 (hd : 1 ≤ d) {a b : Nat} (ha : a < 2 ^ 20) (hb : b < 2 ^ 20) (k : Post (some (.int (bI (near a b)))) s) : tE c d 185 [.int (nI a), .int (nI b)] s Post := by
  obtain ⟨d, rfl⟩ := d_1 hd
  have k0 : ¬ near a b → Post (some (.int 0)) s := fun z => by rwa [bI_f z] at k
  have k1 : near a b → Post (some (.int 1)) s := fun z => by rwa [bI_t z] at k
  refine okm185 c d Post _ _ s ?_
  unfold wm185 w185_15
  rw [abs_n (by omega) (by omega)]
  have e : (1 : Int32) < nI (max a b - min a b) ↔ 1 < max a b - min a b := nI_lt' (a := 1) (by decide) (by omega)
  rw [e]
  refine ⟨fun z => ⟨Or.inl rfl, k0 (by unfold near; omega)⟩, fun z => ⟨Or.inr rfl, k1 (by unfold near; omega)⟩⟩
theorem s17 (hd : 1 ≤ d) {a b e : Nat} (ha : a < 2 ^ 20) (hb : b < 2 ^ 20) (he : e < 2 ^ 20) (k : Post (some (.int (bI (pst a b e)))) s) : tE c d 17 [.int (nI a), .int (nI b), .int (nI e)] s Post := by
  obtain ⟨d, rfl⟩ := d_1 hd
  have k0 : ¬ pst a b e → Post (some (.int 0)) s := fun z => by rwa [bI_f z] at k
  have k1 : pst a b e → Post (some (.int 1)) s := fun z => by rwa [bI_t z] at k
  refine okm17 c d Post _ _ _ s ?_
  unfold wm17 w17_10 w17_20 w17_24 w17_25
  rw [nI_le' (by omega) (by omega), nI_lt' (by omega) (by omega), nI_le' (by omega) (by omega), nI_le' (by omega) (by omega)]
  unfold pst at k0 k1
  grind
theorem s188 (hd : 1 ≤ d) {a b e : Nat} (ha : a < 2 ^ 20) (hb : b < 2 ^ 20) (he : e < 2 ^ 20) (k : Post (some (.int (bI (pst a b e)))) s) : tE c d 188 [.int (nI a), .int (nI e), .int (nI b)] s Post := by
  obtain ⟨d, rfl⟩ := d_1 hd
  have k0 : ¬ pst a b e → Post (some (.int 0)) s := fun z => by rwa [bI_f z] at k
  have k1 : pst a b e → Post (some (.int 1)) s := fun z => by rwa [bI_t z] at k
  refine okm188 c d Post _ _ _ s ?_
  unfold wm188 w188_10 w188_20 w188_24 w188_25
  rw [nI_le' (by omega) (by omega), nI_lt' (by omega) (by omega), nI_le' (by omega) (by omega), nI_le' (by omega) (by omega)]
  unfold pst at k0 k1
  grind
def rvb (D : DD) (a b : Nat) : Int32 := if (a + 1 = b ∨ b + 1 = a) ∧ a < dF D ∧ b < dF D ∧ dr D (min a b) = true then 1 else 0
theorem s18 (hd : 2 ≤ d) (hL : XL s D) {a b : Nat} (ha : a < 2 ^ 20) (hb : b < 2 ^ 20) (k : Post (some (.int (rvb D a b))) s) : tE c d 18 [.ref 3, .int (nI a), .int (nI b)] s Post := by
  obtain ⟨d, rfl⟩ := d_1 (Nat.le_trans (by decide) hd)
  have hF := hL.1.2
  have fa := fld_nI (n := a) hL.1 (by omega)
  have fb := fld_nI (n := b) hL.1 (by omega)
  have e1 : nI a - nI b = 1 ↔ b + 1 = a := by
    have : (nI a - nI b = 1) ↔ nI a = nI (b + 1) := by rw [← nI_1]; constructor <;> intro h <;> grind
    rw [this, nI_eq' (by omega) (by omega)]
    omega
  have e2 : nI b - nI a = 1 ↔ a + 1 = b := by
    have : (nI b - nI a = 1) ↔ nI b = nI (a + 1) := by rw [← nI_1]; constructor <;> intro h <;> grind
    rw [this, nI_eq' (by omega) (by omega)]
    omega
  have z0 : ¬ ((a + 1 = b ∨ b + 1 = a) ∧ a < dF D ∧ b < dF D) → w18_34 c d Post (nI a) (nI b) s := by
    intro h
    unfold rvb at k
    rw [if_neg (fun q => h ⟨q.1, q.2.1, q.2.2.1⟩)] at k
    exact ⟨fun _ => k, fun q => absurd rfl q⟩
  have z1 : ((a + 1 = b ∨ b + 1 = a) ∧ a < dF D ∧ b < dF D) → w18_30 c d Post (nI a) (nI b) s := by
    intro h
    refine ⟨fun q => (by cases q), fun _ => ?_⟩
    unfold w18_56
    rw [fl_min (by omega) (by omega), shr_1 _ _ (by omega), hL.2.2.2 _ (by omega), decide_eq_true (by omega), Bool.true_and]
    unfold rvb at k
    by_cases q : dr D (min a b) = true
    · rw [if_pos ⟨h.1, h.2.1, h.2.2, q⟩] at k
      rw [if_pos q]
      exact k
    · rw [if_neg (fun z => q z.2.2.2)] at k
      rw [if_neg q]
      exact k
  refine okm18 c d Post _ _ s (s14 (by omega) hL _ ⟨_, rfl, fun z => ?_, fun z => s14 (by omega) hL _ ⟨_, rfl, fun y => ?_, fun y => ?_⟩⟩)
  · rw [bI_0, fa] at z
    exact z0 (fun q => z q.2.1)
  · rw [bI_0, fb] at y
    exact z0 (fun q => y q.2.2)
  · rw [bI_0, fa] at z
    rw [bI_0, fb] at y
    rw [e1, e2]
    exact ⟨fun q => z1 (by omega), fun q => ⟨fun p => z1 (by omega), fun p => z0 (by omega)⟩⟩
theorem s19 (hd : 2 ≤ d) (hL : XL s D) {a b : Nat} (ha : a < dF D) (hb : b < dF D) (k : Post (some (.int (nI (cst (dr D) a b)))) s) : tE c d 19 [.ref 3, .int (nI a), .int (nI b)] s Post := by
  obtain ⟨d, rfl⟩ := d_1 (Nat.le_trans (by decide) hd)
  have hF := hL.1.2
  refine okm19 c d Post _ _ s ?_
  unfold wm19
  rw [fl_max (by omega) (by omega), fl_min (by omega) (by omega)]
  refine s266 (by omega) _ ⟨_, rfl, ?_⟩
  rw [way_bc hL ha hb, nI_sub (by omega), nI_add]
  exact k
theorem s21 (hd : 3 ≤ d) (hL : XL s D) {a b : Nat} (ha : a < dF D) (hb : b < 2 ^ 20) (st : Int32) (k : Post (some (.int (gls (dr D) (dF D) a b st))) s) : tE c d 21 [.ref 3, .int (nI a), .int (nI b), .int st] s Post := by
  obtain ⟨d, rfl⟩ := d_1 (Nat.le_trans (by decide) hd)
  have hF := hL.1.2
  have loop : ∀ (m i : Nat) (x : Int32), i + m = dF D → Post (some (.int (fl (fun t a_1 => if ¬ st < nI (cst (dr D) a t) ∧ ¬ pst a b t then a_1 ||| sh1 t else a_1) i m x))) s → wl21_6 c d Post (m + 1) (nI a) (nI b) st x (nI i) s := by
    intro m
    induction m with
    | zero =>
      intro i x hi hp
      refine ⟨fun _ => hp, fun z => ?_⟩
      rw [hL.2.1, nI_le' (by omega) (by omega)] at z
      omega
    | succ m ih =>
      intro i x hi hp
      have hp' := fun y z => ih (i + 1) y (by omega) z
      unfold fl at hp
      refine ⟨fun z => ?_, fun _ => s19 (by omega) hL ha (by omega) ⟨_, rfl, fun z => ?_, fun z => s17 (by omega) (by omega) hb (by omega) ⟨_, rfl, fun y => ?_, fun y => ?_⟩⟩⟩
      · rw [hL.2.1, nI_le' (by omega) (by omega)] at z
        omega
      · rw [if_neg (fun q => q.1 z)] at hp
        unfold w21_45
        rw [nI_1]
        exact hp' _ hp
      · rw [bI_0] at y
        rw [if_pos ⟨z, y⟩] at hp
        unfold w21_45
        rw [nI_1]
        exact hp' _ hp
      · rw [bI_0] at y
        rw [if_neg (fun q => y q.2)] at hp
        unfold w21_45
        rw [nI_1]
        exact hp' _ hp
  exact okm21 c d Post _ _ _ s ⟨dF D + 1, loop (dF D) 0 0 (by omega) k⟩
theorem s158 (hd : 2 ≤ d) (hL : ML s D) (x : Int32) (k : Post (some (.int (bI (fld D x)))) s) : tE c d 158 [.ref 48, .int x] s Post := by
  obtain ⟨d, rfl⟩ := d_1 (Nat.le_trans (by decide) hd)
  refine okm158 c d Post _ s (s154 (by omega) _ _ _ ⟨_, rfl, bI_01 _, ?_⟩)
  rw [bI_iff (q := fld D x)]
  · exact k
  · rw [hL.2.1]
    have h1 : (1 : Int32) ≤ nI (dF D) := (nI_le' (a := 1) (by decide) (by have := hL.1.2; omega)).mpr (by have := hL.1.1; omega)
    unfold fld
    grind
theorem s187 (hd : 1 ≤ d) (hL : ML s D) {a b : Nat} (ha : a < dF D) (hb : b < dF D) (k : Post (some (.int (nI (cst (dr D) a b)))) s) : tE c d 187 [.ref 48, .int (nI a), .int (nI b)] s Post := by
  obtain ⟨d, rfl⟩ := d_1 hd
  have hF := hL.1.2
  have loop : ∀ (m i : Nat), i + m = max a b - min a b → wl187_14 c d Post (m + 1) (nI a) (nI b) (nI ((max a b - min a b) + pcs (fun j => dr D (min a b + j)) i)) (nI (min a b + i)) s := by
    intro m
    induction m with
    | zero =>
      intro i hi
      refine ⟨fun _ => ?_, fun z => ?_⟩
      · rw [show i = max a b - min a b by omega]
        exact k
      · rw [fl_max (by omega) (by omega), nI_le' (by omega) (by omega)] at z
        omega
    | succ m ih =>
      intro i hi
      have := pcs_le (fun j => dr D (min a b + j)) i
      have h1 := ih (i + 1) (by omega)
      have e : pcs (fun j => dr D (min a b + j)) (i + 1) = pcs (fun j => dr D (min a b + j)) i + (if dr D (min a b + i) then 1 else 0) := rfl
      have hm := hL.2.2.2 (min a b + i) (by omega)
      refine ⟨fun z => ?_, fun _ => ⟨vp_in_nI (by omega) (by decide), fun z => ?_, fun z => ?_⟩⟩
      · rw [fl_max (by omega) (by omega), nI_le' (by omega) (by omega)] at z
        omega
      · rw [nI_clamp (by omega), hm] at z
        have q : dr D (min a b + i) = false := by
          cases hq : dr D (min a b + i)
          · rfl
          · rw [hq] at z; cases z
        rw [e, q] at h1
        show wl187_14 c d Post (m + 1) (nI a) (nI b) (_ + 0) (_ + 1) s
        rw [nI_1, Int32.add_zero]
        exact h1
      · rw [nI_clamp (by omega), hm] at z
        have q : dr D (min a b + i) = true := by
          cases hq : dr D (min a b + i)
          · rw [hq] at z; exact absurd rfl z
          · rfl
        rw [e, q] at h1
        show wl187_14 c d Post (m + 1) (nI a) (nI b) (_ + 1) (_ + 1) s
        rw [nI_1, nI_1]
        exact h1
  refine okm187 c d Post _ _ s ⟨max a b - min a b + 1, ?_⟩
  rw [abs_n (by omega) (by omega), fl_min (by omega) (by omega), Nat.max_comm b a, Nat.min_comm b a]
  exact loop (max a b - min a b) 0 (by omega)
theorem s189 (hd : 2 ≤ d) (hL : ML s D) (hB : MD s D) {n a b : Nat} (hn : n < 2) (ha : a < dF D) (hb : b < 2 ^ 20) (k : Post (some (.int (gls (dr D) (dF D) a b (db D n / 3 + 1)))) s) : tE c d 189 [.ref 48, .int (nI n), .int (nI a), .int (nI b)] s Post := by
  obtain ⟨d, rfl⟩ := d_1 (Nat.le_trans (by decide) hd)
  have hF := hL.1.2
  have loop : ∀ (m i : Nat) (x : Int32), i + m = dF D → Post (some (.int (fl (fun t a_1 => if ¬ (db D n / 3 + 1) < nI (cst (dr D) a t) ∧ ¬ pst a b t then a_1 ||| sh1 t else a_1) i m x))) s → wl189_6 c d Post (m + 1) (nI n) (nI a) (nI b) x (nI i) s := by
    intro m
    induction m with
    | zero =>
      intro i x hi hp
      refine ⟨fun _ => hp, fun z => ?_⟩
      rw [hL.2.1, nI_le' (by omega) (by omega)] at z
      omega
    | succ m ih =>
      intro i x hi hp
      have hp' := fun y z => ih (i + 1) y (by omega) z
      unfold fl at hp
      refine ⟨fun z => ?_, fun _ => s187 (by omega) hL ha (by omega) ⟨_, rfl, s186 (by omega) hn ⟨_, rfl, fun z => ?_, fun z => s188 (by omega) (by omega) hb (by omega) ⟨_, rfl, fun y => ?_, fun y => ?_⟩⟩⟩⟩
      · rw [hL.2.1, nI_le' (by omega) (by omega)] at z
        omega
      · rw [(hB n hn).1] at z
        rw [if_neg (fun q => q.1 z)] at hp
        show wl189_6 c d Post (m + 1) (nI n) (nI a) (nI b) (x ||| 0) (nI i + 1) s
        rw [nI_1, Int32.or_zero]
        exact hp' _ hp
      · rw [bI_0] at y
        rw [(hB n hn).1] at z
        rw [if_pos ⟨z, y⟩] at hp
        show wl189_6 c d Post (m + 1) (nI n) (nI a) (nI b) (x ||| _) (nI i + 1) s
        rw [nI_1]
        exact hp' _ hp
      · rw [bI_0] at y
        rw [if_neg (fun q => y q.2)] at hp
        show wl189_6 c d Post (m + 1) (nI n) (nI a) (nI b) (x ||| 0) (nI i + 1) s
        rw [nI_1, Int32.or_zero]
        exact hp' _ hp
  exact okm189 c d Post _ _ _ s ⟨dF D + 1, loop (dF D) 0 0 (by omega) k⟩
end S3
