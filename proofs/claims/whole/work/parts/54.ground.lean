/-! The ground, on both sides. -/
theorem nI_le' {a b : Nat} (ha : a < 2 ^ 31) (hb : b < 2 ^ 31) : nI a ≤ nI b ↔ a ≤ b := nI_leI ha hb
theorem nI_lt' {a b : Nat} (ha : a < 2 ^ 31) (hb : b < 2 ^ 31) : nI a < nI b ↔ a < b := nI_ltI ha hb
theorem nI_eq' {a b : Nat} (ha : a < 2 ^ 31) (hb : b < 2 ^ 31) : nI a = nI b ↔ a = b := nI_eq ha hb
theorem nar_i (x : Int32) : vp_nar .int x = x := rfl
/-- a number from 0 up is some nI -/
theorem i_nat {x : Int32} (h : 0 ≤ x) : ∃ n, n < 2 ^ 31 ∧ x = nI n := by
  refine ⟨x.toNatClampNeg, ?_, ?_⟩
  · have := x.toInt_lt
    unfold Int32.toNatClampNeg
    omega
  · rw [i_eq, nI_toInt (by have := x.toInt_lt; unfold Int32.toNatClampNeg; omega)]
    rw [i_le] at h
    have e0 : (0 : Int32).toInt = 0 := rfl
    rw [e0] at h
    unfold Int32.toNatClampNeg
    omega
abbrev fld (D : DD) (x : Int32) : Prop := 0 ≤ x ∧ x < nI (dF D)
theorem fld_nat {D : DD} {x : Int32} (hF : okF D) (h : fld D x) : ∃ n, n < dF D ∧ x = nI n := by
  obtain ⟨n, h1, rfl⟩ := i_nat h.1
  have := h.2
  rw [nI_lt' h1 (by have := hF.2; omega)] at this
  exact ⟨n, this, rfl⟩
theorem fld_nI {D : DD} {n : Nat} (hF : okF D) (hn : n < 2 ^ 31) : fld D (nI n) ↔ n < dF D := by
  have := hF.2
  unfold fld
  rw [nI_lt' hn (by omega)]
  constructor
  · exact fun h => h.2
  · exact fun h => ⟨i_nlt.mp (nI_pos hn), h⟩
abbrev near (a b : Nat) : Prop := a ≤ b + 1 ∧ b ≤ a + 1
abbrev pst (f x t : Nat) : Prop := (f < x ∧ x < t) ∨ (t < x ∧ x < f)
/-- how many of the first n -/
def pcs (f : Nat → Bool) : Nat → Nat
  | 0 => 0
  | n + 1 => pcs f n + (if f n then 1 else 0)
def cst (r : Nat → Bool) (a b : Nat) : Nat := (max a b - min a b) + pcs (fun j => r (min a b + j)) (max a b - min a b)
theorem pcs_le (f : Nat → Bool) : ∀ n, pcs f n ≤ n
  | 0 => Nat.le_refl _
  | n + 1 => by
    have := pcs_le f n
    show pcs f n + _ ≤ _
    split <;> omega
theorem pcs_cg {f g : Nat → Bool} : ∀ n, (∀ i, i < n → f i = g i) → pcs f n = pcs g n
  | 0, _ => rfl
  | n + 1, h => by
    show pcs f n + _ = pcs g n + _
    rw [pcs_cg n (fun i hi => h i (by omega)), h n (by omega)]
theorem pcs_lo {f : Nat → Bool} {lo : Nat} (h : ∀ i, i < lo → f i = false) : ∀ n, n ≤ lo → pcs f n = 0
  | 0, _ => rfl
  | n + 1, hn => by
    show pcs f n + _ = 0
    rw [pcs_lo h n (by omega), h n (by omega)]
    rfl
theorem pcs_mid {f : Nat → Bool} {lo : Nat} (h : ∀ i, i < lo → f i = false) : ∀ k, pcs f (lo + k) = pcs (fun j => f (lo + j)) k
  | 0 => pcs_lo h lo (Nat.le_refl _)
  | k + 1 => by
    show pcs f (lo + k) + (if f (lo + k) then 1 else 0) = pcs (fun j => f (lo + j)) k + (if f (lo + k) then 1 else 0)
    rw [pcs_mid h k]
theorem pcs_hi {f : Nat → Bool} {m : Nat} (h : ∀ i, m ≤ i → f i = false) : ∀ k, pcs f (m + k) = pcs f m
  | 0 => rfl
  | k + 1 => by
    show pcs f (m + k) + (if f (m + k) then 1 else 0) = _
    rw [pcs_hi h k, h (m + k) (by omega)]
    rfl
set_option maxRecDepth 20000 in
theorem jbc_12 : ∀ m, m < 4096 → jbc (nI m) = nI (pcs (fun i => m.testBit i) 12) := by decide +kernel
theorem jbc_f (x : Int32) (f : Nat → Bool) (h : ∀ i, i < 32 → x.toBitVec.getLsbD i = (decide (i < 12) && f i)) : jbc x = nI (pcs f 12) := by
  have hl : x.toBitVec.toNat < 4096 := by
    apply Nat.lt_pow_two_of_testBit (n := 12)
    intro i hi
    show x.toBitVec.getLsbD i = false
    by_cases q : i < 32
    · rw [h i q, decide_eq_false (by omega)]
      rfl
    · exact BitVec.getLsbD_of_ge _ _ (by omega)
  have e : x = nI x.toBitVec.toNat := by
    apply Int32.toBitVec_inj.mp
    show x.toBitVec = BitVec.ofNat 32 _
    rw [BitVec.ofNat_toNat, BitVec.setWidth_eq]
  rw [e, jbc_12 _ hl, pcs_cg 12 (g := f)]
  intro i hi
  show x.toBitVec.getLsbD i = f i
  rw [h i (by omega), decide_eq_true hi]
  rfl
theorem mask_b : ∀ hi, hi < 12 → ∀ lo, lo ≤ hi → ∀ i, i < 32 → (((1 : Int32) <<< (nI hi &&& 31)) - ((1 : Int32) <<< (nI lo &&& 31))).toBitVec.getLsbD i = (decide (lo ≤ i) && decide (i < hi)) := by decide +kernel
theorem bit_b : ∀ k, k < 32 → ∀ i, i < 32 → ((1 : Int32) <<< (nI k &&& 31)).toBitVec.getLsbD i = decide (i = k) := by decide +kernel
theorem shr_1 (x : Int32) (k : Nat) (hk : k < 32) : ((x >>> (nI k &&& 31)) &&& 1) = if x.toBitVec.getLsbD k then 1 else 0 := by
  have h1 : ∀ k, k < 32 → (nI k &&& 31) = nI k := by decide +kernel
  have h2 : ∀ k, k < 32 → (nI k).toBitVec.smod 32 = BitVec.ofNat 32 k := by decide +kernel
  rw [h1 k hk]
  apply Int32.toBitVec_inj.mp
  show (x.toBitVec.sshiftRight' ((nI k).toBitVec.smod 32)) &&& 1#32 = _
  rw [h2 k hk]
  apply BitVec.eq_of_getLsbD_eq
  intro i hi
  rw [BitVec.getLsbD_and, BitVec.sshiftRight_eq', BitVec.getLsbD_sshiftRight]
  have e : (BitVec.ofNat 32 k).toNat = k := by
    rw [BitVec.toNat_ofNat]
    exact Nat.mod_eq_of_lt (by omega)
  rw [e]
  by_cases h0 : i = 0
  · subst h0
    by_cases hb : x.toBitVec.getLsbD k = true
    · rw [if_pos hb]; simp [hb, hk]
    · rw [if_neg hb]
      simp [hk]
      simpa [BitVec.getLsbD_eq_getElem hk] using hb
  · have h3 : (1#32).getLsbD i = false := by simp [BitVec.getLsbD_one, h0]
    rw [h3, Bool.and_false]
    by_cases hb : x.toBitVec.getLsbD k = true
    · rw [if_pos hb]; exact h3.symm
    · rw [if_neg hb]
      show false = (0#32).getLsbD i
      simp
theorem fl_max {a b : Nat} (ha : a < 2 ^ 31) (hb : b < 2 ^ 31) : (if nI a < nI b then nI b else nI a) = nI (max a b) := by
  by_cases h : a < b
  · rw [if_pos ((nI_lt' ha hb).mpr h), Nat.max_eq_right (by omega)]
  · rw [if_neg (fun q => h ((nI_lt' ha hb).mp q)), Nat.max_eq_left (by omega)]
theorem fl_min {a b : Nat} (ha : a < 2 ^ 31) (hb : b < 2 ^ 31) : (if nI b < nI a then nI b else nI a) = nI (min a b) := by
  by_cases h : b < a
  · rw [if_pos ((nI_lt' hb ha).mpr h), Nat.min_eq_right (by omega)]
  · rw [if_neg (fun q => h ((nI_lt' hb ha).mp q)), Nat.min_eq_left (by omega)]
theorem nI_sub {a b : Nat} (h : b ≤ a) : nI a - nI b = nI (a - b) := pk_sub h
theorem abs_n {a b : Nat} (ha : a < 2 ^ 30) (hb : b < 2 ^ 30) : (if 0 ≤ nI a - nI b then nI a - nI b else 0 - (nI a - nI b)) = nI (max a b - min a b) := by
  by_cases h : b ≤ a
  · rw [nI_sub h, if_pos (i_nlt.mp (nI_pos (by omega)))]
    congr 1
    omega
  · have e : nI a - nI b = 0 - nI (b - a) := by
      rw [← nI_sub (show a ≤ b by omega)]
      grind
    have hp : ¬ 0 ≤ nI a - nI b := by
      rw [e]
      have : 0 < nI (b - a) := (nI_lt' (a := 0) (by decide) (by omega)).mpr (by omega)
      have h2 : nI (b - a) < nI (2 ^ 30) := (nI_lt' (by omega) (by decide)).mpr (by omega)
      have h3 : nI (2 ^ 30) = 1073741824 := rfl
      rw [h3] at h2
      grind
    rw [if_neg hp, e]
    rw [show (0 : Int32) - (0 - nI (b - a)) = nI (b - a) by grind]
    congr 1
    omega
