/-! Specs of the leaves, by hand. -/
def bI (p : Prop) [Decidable p] : Int32 := if p then 1 else 0
theorem bI_0 {p : Prop} [Decidable p] : bI p = 0 ↔ ¬ p := by
  unfold bI
  by_cases h : p <;> simp [h]
theorem bI_01 (p : Prop) [Decidable p] : bI p = 0 ∨ bI p = 1 := by
  unfold bI
  by_cases h : p <;> simp [h]
theorem bI_t {p : Prop} [Decidable p] (h : p) : bI p = 1 := if_pos h
theorem bI_f {p : Prop} [Decidable p] (h : ¬ p) : bI p = 0 := if_neg h
theorem bI_iff {p q : Prop} [Decidable p] [Decidable q] (h : p ↔ q) : bI p = bI q := by
  unfold bI
  by_cases z : p
  · rw [if_pos z, if_pos (h.mp z)]
  · rw [if_neg z, if_neg (fun y => z (h.mpr y))]
theorem gm_put_put (h : gm_H) (a : Nat) (c1 c2 : gm_C) : gm_put (gm_put h a c1) a c2 = gm_put h a c2 := by
  unfold gm_put va_up
  congr 1
  funext j
  by_cases e : j = a <;> simp [e]
theorem gm_fld_get {h : gm_H} {a ci : Nat} {fs : List Value} (hg : gm_get h a = some (.inr (ci, fs))) (k : Nat) : gm_fld h a ci k = fs[k]? := by
  unfold gm_fld
  rw [hg]
  simp
theorem i_lt (a b : Int32) : a < b ↔ a.toInt < b.toInt := Int32.lt_iff_toInt_lt
theorem i_le (a b : Int32) : a ≤ b ↔ a.toInt ≤ b.toInt := Int32.le_iff_toInt_le
theorem i_nlt {a b : Int32} : ¬ a < b ↔ b ≤ a := by rw [i_lt, i_le]; omega
theorem i_nle {a b : Int32} : ¬ a ≤ b ↔ b < a := by rw [i_lt, i_le]; omega
/-- one depth less -/
theorem d_1 {d : Nat} (h : 1 ≤ d) : ∃ k, d = k + 1 := ⟨d - 1, by omega⟩
section S0
variable {c : gx} {d : Nat} {Post : Option Value → gm_H → Prop} {h : gm_H}
theorem s60 (hd : 1 ≤ d) (x : Int32) (k : Post (some (.int (bI (48 ≤ x ∧ x ≤ 57)))) h) : gE c d 60 [.int x] h Post := by
  obtain ⟨d, rfl⟩ := d_1 hd
  refine okm60 c d Post x h ⟨fun z => ?_, fun z => ⟨fun y => ?_, fun y => ?_⟩⟩
  · rw [bI_f (fun q => by have := q.1; rw [i_le] at this; rw [i_lt] at z; omega)] at k
    exact ⟨Or.inl rfl, k⟩
  · rw [bI_f (fun q => by have := q.2; rw [i_le] at this; rw [i_lt] at y; omega)] at k
    exact ⟨Or.inl rfl, k⟩
  · rw [bI_t ⟨i_nlt.mp z, i_nlt.mp y⟩] at k
    exact ⟨Or.inr rfl, k⟩
theorem s154 (hd : 1 ≤ d) (x a b : Int32) (k : Post (some (.int (bI (a ≤ x ∧ x ≤ b)))) h) : gE c d 154 [.int x, .int a, .int b] h Post := by
  obtain ⟨d, rfl⟩ := d_1 hd
  refine okm154 c d Post x a b h ⟨fun z => ?_, fun z => ⟨fun y => ?_, fun y => ?_⟩⟩
  · rw [bI_f (fun q => by have := q.1; rw [i_le] at this; rw [i_lt] at z; omega)] at k
    exact ⟨Or.inl rfl, k⟩
  · rw [bI_f (fun q => by have := q.2; rw [i_le] at this; rw [i_lt] at y; omega)] at k
    exact ⟨Or.inl rfl, k⟩
  · rw [bI_t ⟨i_nlt.mp z, i_nlt.mp y⟩] at k
    exact ⟨Or.inr rfl, k⟩
end S0
