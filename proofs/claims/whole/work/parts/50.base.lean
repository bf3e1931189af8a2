/-! Specs of the leaves, by hand. -/
def bI (p : Prop) [Decidable p] : Int32 := if p then 1 else 0
theorem bI_0 {p : Prop} [Decidable p] : bI p = 0 ↔ ¬ p := by
  unfold bI
  by_cases h : p <;> simp [h]
theorem bI_01 (p : Prop) [Decidable p] : bI p = 0 ∨ bI p = 1 := by
  unfold bI
  by_cases h : p <;> simp [h]
theorem bI_t {p : Prop} [Decidable p] (h : p) : bI p = 1 := if_pos h
theorem bI_f {p : Prop} [Decidable p] (h : ¬ p) : bI p = 0 := if_neg h
theorem bI_iff {p q : Prop} [Decidable p] [Decidable q] (h : p ↔ q) : bI p = bI q := by
  unfold bI
  by_cases z : p
  · rw [if_pos z, if_pos (h.mp z)]
  · rw [if_neg z, if_neg (fun y => z (h.mpr y))]
theorem i_lt (a b : Int32) : a < b ↔ a.toInt < b.toInt := Int32.lt_iff_toInt_lt
theorem i_le (a b : Int32) : a ≤ b ↔ a.toInt ≤ b.toInt := Int32.le_iff_toInt_le
theorem i_eq (a b : Int32) : a = b ↔ a.toInt = b.toInt := Int32.toInt_inj.symm
theorem i_nlt {a b : Int32} : ¬ a < b ↔ b ≤ a := by rw [i_lt, i_le]; omega
theorem i_nle {a b : Int32} : ¬ a ≤ b ↔ b < a := by rw [i_lt, i_le]; omega
theorem nar_int (x : Int32) : vp_nar .int x = x := rfl
/-- one depth less -/
theorem d_1 {d : Nat} (h : 1 ≤ d) : ∃ k, d = k + 1 := ⟨d - 1, by omega⟩
/-- reading behind writing -/
theorem V_V (s : gs) (a k : Nat) (x : Int32) (b j : Nat) : gsV (gs_V s a k x) b j = if b = a then (if j = k then x else gsV s b j) else gsV s b j := rfl
theorem V_E (s : gs) (a k : Nat) (x : Int64) : gsV (gs_E s a k x) = gsV s := rfl
theorem V_A (s : gs) (a k : Nat) (x : Int32) : gsV (gs_A s a k x) = gsV s := rfl
theorem V_R (s : gs) (a k : Nat) (x : Int64) : gsV (gs_R s a k x) = gsV s := rfl
theorem V_P (s : gs) (r : Nat) : gsV (gs_P s r) = gsV s := rfl
theorem E_V (s : gs) (a k : Nat) (x : Int32) : gsE (gs_V s a k x) = gsE s := rfl
theorem E_E (s : gs) (a k : Nat) (x : Int64) (b j : Nat) : gsE (gs_E s a k x) b j = if b = a then (if j = k then x else gsE s b j) else gsE s b j := rfl
theorem E_A (s : gs) (a k : Nat) (x : Int32) : gsE (gs_A s a k x) = gsE s := rfl
theorem E_R (s : gs) (a k : Nat) (x : Int64) : gsE (gs_R s a k x) = gsE s := rfl
theorem E_P (s : gs) (r : Nat) : gsE (gs_P s r) = gsE s := rfl
theorem A_V (s : gs) (a k : Nat) (x : Int32) : gsA (gs_V s a k x) = gsA s := rfl
theorem A_E (s : gs) (a k : Nat) (x : Int64) : gsA (gs_E s a k x) = gsA s := rfl
theorem A_A (s : gs) (a k : Nat) (x : Int32) (b j : Nat) : gsA (gs_A s a k x) b j = if b = a then (if j = k then x else gsA s b j) else gsA s b j := rfl
theorem A_R (s : gs) (a k : Nat) (x : Int64) : gsA (gs_R s a k x) = gsA s := rfl
theorem A_P (s : gs) (r : Nat) : gsA (gs_P s r) = gsA s := rfl
theorem R_V (s : gs) (a k : Nat) (x : Int32) : gsR (gs_V s a k x) = gsR s := rfl
theorem R_E (s : gs) (a k : Nat) (x : Int64) : gsR (gs_E s a k x) = gsR s := rfl
theorem R_A (s : gs) (a k : Nat) (x : Int32) : gsR (gs_A s a k x) = gsR s := rfl
theorem R_R (s : gs) (a k : Nat) (x : Int64) (b j : Nat) : gsR (gs_R s a k x) b j = if b = a then (if j = k then x else gsR s b j) else gsR s b j := rfl
theorem R_P (s : gs) (r : Nat) : gsR (gs_P s r) = gsR s := rfl
theorem vpin_nI {n N : Nat} (h : n < N) (hN : N < 2 ^ 31) : vp_in (nI n) N := vp_in_nI h hN
theorem clamp_nI {n : Nat} (h : n < 2 ^ 31) : (nI n).toNatClampNeg = n := nI_clamp h
section S0
variable {c : gx} {d : Nat} {Post : Option Value → gs → Prop} {s : gs}
theorem tE_imp {j : Nat} {As : List Value} {Post' : Option Value → gs → Prop} (k : tE c d j As s Post) (hp : ∀ v s', Post v s' → Post' v s') : tE c d j As s Post' := by
  intro h hR
  refine ge_imp (k h hR) (fun v h' q => ?_)
  obtain ⟨s', h1, h2⟩ := q
  exact ⟨s', h1, hp _ _ h2⟩
theorem s60 (hd : 1 ≤ d) (x : Int32) (k : Post (some (.int (bI (48 ≤ x ∧ x ≤ 57)))) s) : tE c d 60 [.int x] s Post := by
  obtain ⟨d, rfl⟩ := d_1 hd
  refine okm60 c d Post x s ⟨fun z => ?_, fun z => ⟨fun y => ?_, fun y => ?_⟩⟩
  · rw [bI_f (fun q => by have := q.1; rw [i_le] at this; rw [i_lt] at z; omega)] at k
    exact ⟨Or.inl rfl, k⟩
  · rw [bI_f (fun q => by have := q.2; rw [i_le] at this; rw [i_lt] at y; omega)] at k
    exact ⟨Or.inl rfl, k⟩
  · rw [bI_t ⟨i_nlt.mp z, i_nlt.mp y⟩] at k
    exact ⟨Or.inr rfl, k⟩
theorem s154 (hd : 1 ≤ d) (x a b : Int32) (k : Post (some (.int (bI (a ≤ x ∧ x ≤ b)))) s) : tE c d 154 [.int x, .int a, .int b] s Post := by
  obtain ⟨d, rfl⟩ := d_1 hd
  refine okm154 c d Post x a b s ⟨fun z => ?_, fun z => ⟨fun y => ?_, fun y => ?_⟩⟩
  · rw [bI_f (fun q => by have := q.1; rw [i_le] at this; rw [i_lt] at z; omega)] at k
    exact ⟨Or.inl rfl, k⟩
  · rw [bI_f (fun q => by have := q.2; rw [i_le] at this; rw [i_lt] at y; omega)] at k
    exact ⟨Or.inl rfl, k⟩
  · rw [bI_t ⟨i_nlt.mp z, i_nlt.mp y⟩] at k
    exact ⟨Or.inr rfl, k⟩
/-- a bit of a set -/
def hasB (x k : Int32) : Prop := (x >>> (k &&& 31)) &&& 1 = 1
theorem s155 (hd : 1 ≤ d) (x y : Int32) (k : Post (some (.int (if (x >>> (y &&& 31)) &&& 1 = 1 then 1 else 0))) s) : tE c d 155 [.int x, .int y] s Post := by
  obtain ⟨d, rfl⟩ := d_1 hd
  refine okm155 c d Post x y s ⟨fun z => ?_, fun z => ?_⟩
  · rw [if_pos z] at k
    exact ⟨Or.inr rfl, k⟩
  · rw [if_neg z] at k
    exact ⟨Or.inl rfl, k⟩
theorem s147 (hd : 1 ≤ d) (x : Int32) (k : Post (some (.int (bI (x = 0 ∨ x = 1)))) s) : tE c d 147 [.int x] s Post := by
  obtain ⟨d, rfl⟩ := d_1 hd
  refine okm147 c d Post x s ⟨fun z => ?_, fun z => ⟨fun y => ?_, fun y => ?_⟩⟩
  · rw [bI_t (Or.inl z)] at k
    exact ⟨Or.inr rfl, k⟩
  · rw [bI_t (Or.inr y)] at k
    exact ⟨Or.inr rfl, k⟩
  · rw [bI_f (fun q => q.elim z y)] at k
    exact ⟨Or.inl rfl, k⟩
theorem i_con (x : Int32) : (0 ≤ x ∧ x ≤ 1) ↔ (x = 0 ∨ x = 1) := by
  rw [i_le, i_le, i_eq, i_eq]
  have e0 : (0 : Int32).toInt = 0 := rfl
  have e1 : (1 : Int32).toInt = 1 := rfl
  rw [e0, e1]
  omega
theorem s159 (hd : 2 ≤ d) (x : Int32) (k : Post (some (.int (bI (x = 0 ∨ x = 1)))) s) : tE c d 159 [.int x] s Post := by
  obtain ⟨d, rfl⟩ := d_1 (Nat.le_trans (by decide) hd)
  refine okm159 c d Post x s (s154 (by omega) _ _ _ ⟨_, rfl, bI_01 _, ?_⟩)
  rw [bI_iff (i_con x)]
  exact k
theorem s148 (hd : 1 ≤ d) (x : Int32) (k : Post (some (.ref (if x = 1 then 12 else 10))) s) : tE c d 148 [.ref 0, .int x] s Post := by
  obtain ⟨d, rfl⟩ := d_1 hd
  refine okm148 c d Post x s ⟨fun z => ?_, fun z => ?_⟩
  · rw [if_pos z] at k; exact k
  · rw [if_neg z] at k; exact k
/-- Integer.bitCount, Integer.numberOfTrailingZeros: as they are computed -/
def jush (x k : Int32) : Int32 := (x.toUInt32 >>> (k.toUInt32 &&& Int32.toUInt32 31)).toInt32
def jbc (x : Int32) : Int32 :=
  let a := x - (jush x 1 &&& 1431655765)
  let b := (a &&& 858993459) + (jush a 2 &&& 858993459)
  let e := (b + jush b 4) &&& 252645135
  let f := e + jush e 8
  let g := f + jush f 16
  g &&& 63
theorem s266 (hd : 1 ≤ d) (x : Int32) (k : Post (some (.int (jbc x))) s) : tE c d 266 [.int x] s Post := by
  obtain ⟨d, rfl⟩ := d_1 hd
  exact okm266 c d Post x s k
/-- the row of the class, of the reference -/
theorem s44 (hd : 1 ≤ d) {n : Nat} (hn : gsV s 34 1 = nI n) (hl : n < 32) (v : Int64) (k : Post none (gs_V (gs_R s 35 n v) 34 1 (nI (n + 1)))) : tE c d 44 [.ref 34, .long v] s Post := by
  obtain ⟨d, rfl⟩ := d_1 hd
  have h0 : ¬ gsV s 34 1 < 0 := by rw [hn]; exact nI_pos (by omega)
  have h1 : ¬ 32 ≤ gsV s 34 1 := by rw [hn]; exact nI_ge (b := 32) hl (by omega)
  refine okm44 c d Post v s ⟨fun z => absurd z h0, fun _ => ⟨fun z => absurd z h1, fun _ => ?_⟩⟩
  rw [hn]
  refine ⟨vp_in_nI hl (by decide), ?_⟩
  rintro s1 rfl s2 rfl
  rw [V_R, hn, nI_1, nI_clamp (by omega)]
  exact k
theorem s157 (hd : 1 ≤ d) {n : Nat} (hn : gsV s 48 12 = nI n) (hl : n < 32) (v : Int64) (k : Post none (gs_V (gs_R s 58 n v) 48 12 (nI (n + 1)))) : tE c d 157 [.ref 48, .long v] s Post := by
  obtain ⟨d, rfl⟩ := d_1 hd
  refine okm157 c d Post v s ?_
  unfold wm157
  rw [hn]
  refine ⟨vp_in_nI hl (by decide), ?_⟩
  rintro s1 rfl s2 rfl
  rw [V_R, hn, nI_1, nI_clamp (by omega)]
  exact k
def xTell1 (s : gs) (a : Int64) : gs := gs_V (gs_R (gs_V s 34 1 0) 35 0 a) 34 1 (nI 1)
def xTell2 (s : gs) (a b : Int64) : gs := gs_V (gs_R (xTell1 s a) 35 1 b) 34 1 (nI 2)
theorem s45 (hd : 2 ≤ d) (a : Int64) (k : Post none (xTell1 s a)) : tE c d 45 [.ref 34, .long a] s Post := by
  obtain ⟨d, rfl⟩ := d_1 (Nat.le_trans (by decide) hd)
  refine okm45 c d Post a s ?_
  rintro s1 rfl
  exact s44 (by omega) (n := 0) rfl (by decide) a ⟨rfl, k⟩
theorem s46 (hd : 2 ≤ d) (a b : Int64) (k : Post none (xTell2 s a b)) : tE c d 46 [.ref 34, .long a, .long b] s Post := by
  obtain ⟨d, rfl⟩ := d_1 (Nat.le_trans (by decide) hd)
  refine okm46 c d Post a b s ?_
  rintro s1 rfl
  refine s44 (by omega) (n := 0) rfl (by decide) a ⟨rfl, ?_⟩
  exact s44 (by omega) (n := 1) rfl (by decide) b ⟨rfl, k⟩
theorem s186 (hd : 1 ≤ d) {n : Nat} (hn : n < 2) (k : Post (some (.int (gsA s 52 n / 3 + 1))) s) : tE c d 186 [.ref 48, .int (nI n)] s Post := by
  obtain ⟨d, rfl⟩ := d_1 hd
  refine okm186 c d Post (nI n) s ⟨vp_in_nI hn (by decide), ?_⟩
  rw [nI_clamp (by omega)]
  exact k
end S0
