/-! The contract of the Strings' methods, as the machine asks it. -/
theorem zM_up {l : Launch} {b : Nat} {aK adV : Nat → Nat} {D : va_G} {dA : Nat → ClassId} {al : Bool} {E : State → Prop} (hE : ∀ U, E U → zS (gm_A b) aK adV U) {y : MethodName} {bytes : ByteArray} {maxL d : Nat} {ret : Option FieldType} {As : List Value} {v : Option Value} {h : gm_H} (hv : v.map (gm_tv b aK) = v)
    (hM : zM l (gm_A b) aK adV y bytes maxL ret d (As.map (gm_tv b aK)) v) : Met l y (Cond.code y bytes maxL ret :: gG) (gm_rm d (v, h, 0, 0)) (gm_Pc b aK D gt_cl dA al E As h) (gm_Qc b aK D gt_cl dA al v h) 0 0 (gm_A b) := by
  intro p e ha hc hk s m args below hf happ hP ht
  obtain ⟨t, o, h1, h2, h3, hQ⟩ := hM p e ha hc hk s m args below hf happ ⟨hP.1, hE s hP.2.2⟩ ht
  refine ⟨t, o, h1, h2, h3, ?_⟩
  obtain ⟨⟨q1, q2⟩, L, q3, q4⟩ := hQ
  exact ⟨⟨by rw [hv]; exact q1, by rw [q2]; exact hP.2.1, Nat.le_of_eq (by rw [q2]), fun q _ _ => by rw [q2]⟩, L, q3, fun q hq => absurd (q4 q hq) id⟩
theorem z_b0 : gt_b 1000 = prog_21_method_54_code := by rfl
theorem z_b1 : gt_b 1001 = prog_21_method_56_code := by rfl
theorem z_b2 : gt_b 1002 = prog_21_method_79_code := by rfl
theorem lwP_ok {l : Launch} {b : Nat} {aK adV : Nat → Nat} {D : va_G} {dA : Nat → ClassId} {XP : State → Prop} {al : Bool} {sl : Nat} {sx : Nat → Int32} (hX : ∀ U, XP U → zS (gm_A b) aK adV U) : lwP l b aK D dA XP al sl sx := by
  intro d j As h r hd hj hp
  have hE : ∀ U, gm_E b aK D gt_cl dA gNW gSR (gt_T al sl sx) XP U → zS (gm_A b) aK adV U := fun U hU => hX U hU.2.2.2.2.2.2.2.2
  unfold gp_prim at hp
  split at hp
  · rename_i u
    split at hp
    · rename_i q
      obtain ⟨rfl, rfl⟩ := q
      cases hp
      unfold gm_Met
      rw [z_b0]
      exact zM_up hE rfl (z_len (i := 0) (by decide) (by omega))
    · split at hp
      · rename_i q
        obtain ⟨rfl, rfl⟩ := q
        cases hp
        unfold gm_Met
        rw [z_b0]
        exact zM_up hE rfl (z_len (i := 1) (by decide) (by omega))
      · cases hp
  · rename_i u x
    split at hp
    · rename_i q
      obtain ⟨rfl, rfl, q1, q2⟩ := q
      obtain ⟨n, hn, rfl⟩ := i_nat q1
      have hn19 : n < 19 := (nI_lt' (b := 19) hn (by decide)).mp q2
      rw [nI_clamp hn] at hp
      cases hp
      unfold gm_Met
      rw [z_b1]
      exact zM_up hE rfl (z_chrM hn19 (by omega))
    · split at hp
      · rename_i q
        obtain ⟨rfl, rfl, q1, q2⟩ := q
        obtain ⟨n, hn, rfl⟩ := i_nat q1
        have hn256 : n < 256 := (nI_lt' (b := 256) hn (by decide)).mp q2
        rw [nI_clamp hn] at hp
        cases hp
        unfold gm_Met
        rw [z_b2]
        exact zM_up hE rfl (z_ix1 (by omega) hn256)
      · cases hp
  · cases hp
