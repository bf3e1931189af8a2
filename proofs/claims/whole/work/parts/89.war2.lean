/-! Calls: war, the call. -/
theorem PB_fr {s s' : gs} {t : Nat → Nat} {L p r a : Nat} (h : PB s t L p r) (f : frA s s' a) (ha : a ≠ r) : PB s' t L p r := by
  obtain ⟨h1, h2, h3, h4, h5, h6, h7, h8⟩ := h
  obtain ⟨f1, f2, f3, f4, f5⟩ := f
  refine ⟨by rw [f5]; exact h1, h2, h3, h4, h5, by rw [f1]; exact h6, by rw [f1]; exact h7, fun i hi hp => ?_⟩
  rw [f3 r (Ne.symm ha)]
  exact h8 i hi hp
section A2
variable {c : gx} {d B : Nat} {Post : Option Value → gs → Prop} {s0 s : gs} {D : DD}
theorem s212 (hd : 4 ≤ d) {sb : gs} {t : Nat → Nat} {T k i : Nat} (hp : PB sb t T 60 57) (hi : i < 100) (hk : k < 80) (k0 : ¬ two (hrT t T 60 i) → ¬ on1 (hrT t T 60 i) → Post none (pz sb i (nI i))) (k1 : on1 (hrT t T 60 i) → ∀ sb', frA sb sb' 66 → (∀ j, j < 2 * k → gsA sb' 66 j = gsA sb 66 j) → gsA sb' 66 (2 * k) = nI (hrT t T 60 i) → Post none (pz sb' (i + 1) (-1))) (k2 : two (hrT t T 60 i) → agB (hrT t T 60 i) (hrT t T 60 (i + 1)) = true → ∀ sb', frA sb sb' 66 → (∀ j, j < 2 * k → gsA sb' 66 j = gsA sb 66 j) → gsA sb' 66 (2 * k) = nI (hrT t T 60 i) → (hrT t T 60 i = 60 → -gsA sb' 66 (2 * k + 1) = avl (hrT t T 60 i) (hrT t T 60 (i + 1))) → (hrT t T 60 i = 62 ∨ hrT t T 60 i = 102 → gsA sb' 66 (2 * k + 1) = avl (hrT t T 60 i) (hrT t T 60 (i + 1))) → Post none (pz sb' (i + 2) (-1))) (k3 : two (hrT t T 60 i) → ¬ agB (hrT t T 60 i) (hrT t T 60 (i + 1)) = true → ∀ sb', frA sb sb' 66 → Post none (pz sb' (i + 1) (nI (i + 1)))) : tE c d 212 [.ref 48, .int (nI (2 * k))] (pz sb i (-1)) Post := by
  obtain ⟨d, rfl⟩ := d_1 (show 1 ≤ d by omega)
  have hx := hrT_lt hp i
  have hy := hrT_lt hp (i + 1)
  have ex : ∀ b, b < 256 → (hI (hrT t T 60 i) = nI b ↔ hrT t T 60 i = b) := fun b hb => hI_eq hx hb
  refine okm212 c d Post _ _ (s164 (by omega) hp (by omega) ⟨_, rfl, ?_⟩)
  have go : two (hrT t T 60 i) ∨ on1 (hrT t T 60 i) → w212_50 c d Post (nI (2 * k)) (hI (hrT t T 60 i)) (pz sb i (-1)) := by
    intro hg
    have hlt : hrT t T 60 i < 256 := by omega
    have eI : hI (hrT t T 60 i) = nI (hrT t T 60 i) := if_neg (by omega)
    have e0 : gsV (pz sb i (-1)) 48 17 = nI i := rfl
    unfold w212_50
    rintro s2 rfl
    refine ⟨vp_in_nI (by omega) (by decide), ?_⟩
    rintro s4 rfl
    rw [nI_clamp (by omega), e0, nI_1, pz_at, nar_i, eI]
    have f1 : frA sb (gs_A sb 66 (2 * k) (nI (hrT t T 60 i))) 66 := frA_A (frA_rf sb 66) _ _
    have o1 : ∀ j, j < 2 * k → gsA (gs_A sb 66 (2 * k) (nI (hrT t T 60 i))) 66 j = gsA sb 66 j := fun j hj => by rw [gsA_A, upd_ne (by omega)]
    have v1 : gsA (gs_A sb 66 (2 * k) (nI (hrT t T 60 i))) 66 (2 * k) = nI (hrT t T 60 i) := by rw [gsA_A, upd_eq]
    show (nI (hrT t T 60 i) = 62 → w212_79 c d Post (nI (2 * k)) (nI (hrT t T 60 i)) (pz (gs_A sb 66 (2 * k) (nI (hrT t T 60 i))) (i + 1) (-1))) ∧ (¬ nI (hrT t T 60 i) = 62 → (nI (hrT t T 60 i) = 60 → w212_79 c d Post (nI (2 * k)) (nI (hrT t T 60 i)) (pz (gs_A sb 66 (2 * k) (nI (hrT t T 60 i))) (i + 1) (-1))) ∧ (¬ nI (hrT t T 60 i) = 60 → w212_97 c d Post (nI (2 * k)) (nI (hrT t T 60 i)) (pz (gs_A sb 66 (2 * k) (nI (hrT t T 60 i))) (i + 1) (-1))))
    revert f1 o1 v1
    generalize gs_A sb 66 (2 * k) (nI (hrT t T 60 i)) = s5
    intro f1 o1 v1
    have hp5 := PB_fr hp f1 (by decide)
    have en : ∀ b, b < 256 → (nI (hrT t T 60 i) = nI b ↔ hrT t T 60 i = b) := fun b hb => nI_eq' (by omega) (by omega)
    rw [show (62 : Int32) = nI 62 from rfl, show (60 : Int32) = nI 60 from rfl, en 62 (by decide), en 60 (by decide)]
    have n102 : ¬ hrT t T 60 i = 102 → ∀ s', Post none s' → w212_97 c d Post (nI (2 * k)) (nI (hrT t T 60 i)) s' := by
      intro z s' hp'
      unfold w212_97
      rw [show (102 : Int32) = nI 102 from rfl, en 102 (by decide)]
      exact ⟨fun w => absurd w z, fun _ => hp'⟩
    have mar : (hrT t T 60 i = 62 ∨ hrT t T 60 i = 60) → w212_79 c d Post (nI (2 * k)) (nI (hrT t T 60 i)) (pz s5 (i + 1) (-1)) := by
      intro hm
      have ht2 : two (hrT t T 60 i) := by omega
      have ea : agB (hrT t T 60 i) (hrT t T 60 (i + 1)) = decide (49 ≤ hrT t T 60 (i + 1) ∧ hrT t T 60 (i + 1) ≤ 57) := by unfold agB; rw [if_neg (by omega)]
      refine s169 (lo := 49) (m := 9) (by omega) hp5 (by omega) (by decide) (by decide) ?_
      rw [if_pos rfl]
      by_cases q : 49 ≤ hrT t T 60 (i + 1) ∧ hrT t T 60 (i + 1) ≤ 49 + 9 - 1
      · rw [if_pos q]
        have ht1 := hrT_in (t := t) (L := T) (p := 60) (a := i + 1) (by omega)
        refine ⟨_, rfl, ?_⟩
        rw [nI_1]
        refine ⟨vp_in_nI (by omega) (by decide), ?_⟩
        rintro s6 rfl
        rw [nI_clamp (by omega), nar_i]
        refine n102 (by omega) _ ?_
        refine k2 ht2 (by rw [ea]; exact decide_eq_true (by omega)) (gs_A s5 66 (2 * k + 1) (nI (t (i + 1) - 49) + 1)) (frA_A f1 _ _) (fun j hj => ?_) ?_ (fun e60 => ?_) (fun e62 => ?_)
        · rw [gsA_A, upd_ne (by omega)]; exact o1 j hj
        · rw [gsA_A, upd_ne (by omega)]; exact v1
        · rw [gsA_A, upd_eq, e60, ht1.2.2, nI_1]
          have := ag_60 (t (i + 1)) (by rw [← ht1.2.2]; omega) (by rw [← ht1.2.2]; omega)
          rw [nI_1] at this
          exact this
        · rw [gsA_A, upd_eq, show hrT t T 60 i = 62 by omega, ht1.2.2]
          exact ag_62 (t (i + 1)) (by rw [← ht1.2.2]; omega) (by rw [← ht1.2.2]; omega)
      · rw [if_neg q]
        refine ⟨_, rfl, ?_⟩
        rw [nI_1]
        refine ⟨vp_in_nI (by omega) (by decide), ?_⟩
        rintro s6 rfl
        rw [nI_clamp (by omega)]
        refine n102 (by omega) _ ?_
        exact k3 ht2 (fun z => by rw [ea] at z; have := of_decide_eq_true z; omega) (gs_A s5 66 (2 * k + 1) (vp_nar .int (0 + 1))) (frA_A f1 _ _)
    refine ⟨fun z => mar (Or.inl z), fun z1 => ⟨fun z => mar (Or.inr z), fun z2 => ?_⟩⟩
    by_cases q : hrT t T 60 i = 102
    · have ht2 : two (hrT t T 60 i) := by omega
      have ea : agB (hrT t T 60 i) (hrT t T 60 (i + 1)) = decide ((48 ≤ hrT t T 60 (i + 1) ∧ hrT t T 60 (i + 1) ≤ 57) ∨ hrT t T 60 (i + 1) = 97 ∨ hrT t T 60 (i + 1) = 98) := by unfold agB; rw [if_pos q]
      have w145 : ∀ (v : Int32) (a : Nat) (w : Int32), (∀ sb', sb' = gs_A s5 66 (2 * k + 1) v → Post none (pz sb' a w)) → w212_145 c d Post 66 (nI (2 * k) + 1) v (pz s5 a w) := by
        intro v a w hv
        refine ⟨160, rfl, ?_⟩
        rw [nI_1]
        refine ⟨vp_in_nI (by omega) (by decide), ?_⟩
        rintro s6 rfl
        rw [nI_clamp (by omega), nar_i]
        exact hv _ rfl
      have good : ∀ v : Int32, agB (hrT t T 60 i) (hrT t T 60 (i + 1)) = true → v = avl (hrT t T 60 i) (hrT t T 60 (i + 1)) → ∀ sb', sb' = gs_A s5 66 (2 * k + 1) v → Post none (pz sb' (i + 2) (-1)) := by
        rintro v hag hv sb' rfl
        refine k2 ht2 hag _ (frA_A f1 _ _) (fun j hj => ?_) ?_ (fun e60 => absurd e60 (by omega)) (fun _ => ?_)
        · rw [gsA_A, upd_ne (by omega)]; exact o1 j hj
        · rw [gsA_A, upd_ne (by omega)]; exact v1
        · rw [gsA_A, upd_eq]; exact hv
      unfold w212_97
      rw [show (102 : Int32) = nI 102 from rfl, en 102 (by decide)]
      refine ⟨fun _ => s164 (by omega) hp5 (by omega) ⟨_, rfl, s154 (by omega) _ _ _ ⟨_, rfl, fun z => ?_, fun z => ?_⟩⟩, fun w => absurd q w⟩
      · rw [bI_0, show (97 : Int32) = nI 97 from rfl, show (98 : Int32) = nI 98 from rfl, hI_in hy (by decide) (by decide)] at z
        refine s169 (lo := 48) (m := 10) (by omega) hp5 (by omega) (by decide) (by decide) ?_
        rw [if_pos rfl]
        by_cases q2 : 48 ≤ hrT t T 60 (i + 1) ∧ hrT t T 60 (i + 1) ≤ 48 + 10 - 1
        · rw [if_pos q2]
          have ht1 := hrT_in (t := t) (L := T) (p := 60) (a := i + 1) (by omega)
          refine ⟨_, rfl, w145 _ _ _ (good _ (by rw [ea]; exact decide_eq_true (by omega)) ?_)⟩
          rw [q, ht1.2.2]
          exact ag_f0 (t (i + 1)) (by rw [← ht1.2.2]; omega) (by rw [← ht1.2.2]; omega)
        · rw [if_neg q2]
          refine ⟨_, rfl, w145 _ _ _ ?_⟩
          rintro sb' rfl
          exact k3 ht2 (fun w => by rw [ea] at w; have := of_decide_eq_true w; omega) _ (frA_A f1 _ _)
      · rw [bI_0, show (97 : Int32) = nI 97 from rfl, show (98 : Int32) = nI 98 from rfl, hI_in hy (by decide) (by decide), Classical.not_not] at z
        refine s169 (lo := 97) (m := 2) (by omega) hp5 (by omega) (by decide) (by decide) ?_
        have ht1 := hrT_in (t := t) (L := T) (p := 60) (a := i + 1) (by omega)
        rw [if_pos rfl, if_pos (by omega)]
        refine ⟨_, rfl, w145 _ _ _ (good _ (by rw [ea]; exact decide_eq_true (by omega)) ?_)⟩
        rw [q, ht1.2.2]
        exact ag_f1 (t (i + 1)) (by rw [← ht1.2.2]; omega) (by rw [← ht1.2.2]; omega)
    · refine n102 q _ (k1 (by omega) s5 f1 o1 v1)
  rw [show (62 : Int32) = nI 62 from rfl, show (60 : Int32) = nI 60 from rfl, show (104 : Int32) = nI 104 from rfl, show (120 : Int32) = nI 120 from rfl, show (102 : Int32) = nI 102 from rfl, show (108 : Int32) = nI 108 from rfl, ex 62 (by decide), ex 60 (by decide), ex 104 (by decide), ex 120 (by decide), ex 102 (by decide), ex 108 (by decide)]
  refine ⟨fun z => go (by omega), fun z1 => ⟨fun z => go (by omega), fun z2 => ⟨fun z => go (by omega), fun z3 => ⟨fun z => go (by omega), fun z4 => ⟨fun z => go (by omega), fun z5 => ⟨fun z => go (by omega), fun z6 => s166 (by omega) _ ⟨rfl, ?_⟩⟩⟩⟩⟩⟩⟩
  rw [if_pos rfl]
  exact k0 (by omega) (by omega)
/-- the reference reads the acts -/
theorem s211l (hd : 6 ≤ d) {T : Nat} {t : Nat → Nat} (hT80 : T ≤ 80) (htl : ∀ i, i < T → t i < 256) {D0 : DD} (k1 : ∀ j b sb, wpf t T (min T 60) 0 0 = some j → MS s0 sb D0 → Post (some (.int (-1 - nI j))) (pz sb b (nI j))) (k2 : ∀ sb, wpf t T (min T 60) 0 0 = none → MS s0 sb D0 → RA sb (acl t T T 0) → tE c d 194 [.ref 49, .ref 64, .int 0] (pz sb T (-1)) (fun v6 s_6 => v6 = none ∧ ∃ n, wl211_72 c d Post n (nI (acl t T T 0).length) 0 s_6)) :
    ∀ (m i : Nat) (l : List (Nat × Int32)) (sb : gs) (f : Nat), i + m = min T 60 → m + 3 ≤ f → l.length ≤ i → MS s0 sb D0 → PB sb t T 60 57 → RA sb l → l ++ acl t T T i = acl t T T 0 → wpf t T m i 0 = wpf t T (min T 60) 0 0 → wl211_13 c d Post f (nI l.length) (pz sb i (-1)) := by
  have bad : ∀ (f n j b : Nat) (sb : gs), 1 ≤ f → j ≤ 80 → b ≤ 80 → wpf t T (min T 60) 0 0 = some j → MS s0 sb D0 → PB sb t T 60 57 → wl211_13 c d Post f (nI n) (pz sb b (nI j)) := by
    intro f n j b sb hf hj hb he hm hp
    obtain ⟨f, rfl⟩ := d_1 hf
    have hn : ¬ nI j = -1 := ni_1 (by omega)
    refine s165 (by omega) ⟨_, rfl, fun _ => ?_, fun z => ?_⟩
    · refine s171 (by omega) hp (by omega) ?_
      rw [if_neg hn]
      exact ⟨_, rfl, fun _ => k1 j b sb he hm, fun z => absurd rfl z⟩
    · rw [bI_f hn] at z
      exact absurd rfl z
  intro m
  induction m using Nat.strongRecOn with
  | _ m ih =>
  intro i l sb f hi hf hl hm hp hra hla hr
  obtain ⟨f, rfl⟩ := d_1 (show 1 ≤ f by omega)
  have e15 : gsV (pz sb i (-1)) 48 15 = nI T := hp.2.2.2.2.2.1
  have e17 : gsV (pz sb i (-1)) 48 17 = nI i := rfl
  refine s165 (by omega) ⟨_, rfl, fun z => ?_, fun _ => ?_⟩
  · rw [bI_t rfl] at z; exact absurd z (by decide)
  rw [e15, e17, nI_le' (by omega) (by omega)]
  refine ⟨fun z => ?_, fun z => ?_⟩
  · -- the end
    have e0 : m = 0 := by omega
    subst e0
    have eT : i = T := by omega
    subst eT
    rw [wpf_0, if_neg (by omega), if_pos rfl] at hr
    rw [acl_e t i i i (Nat.le_refl _), List.append_nil] at hla
    refine s171 (by omega) hp (by omega) ?_
    rw [if_pos rfl, if_neg (Nat.lt_irrefl i)]
    refine ⟨_, rfl, fun z => absurd z (by decide), fun _ => ?_⟩
    have := k2 sb hr.symm hm (by rw [← hla]; exact hra)
    rw [← hla] at this
    exact this
  · rw [show (2 : Int32) * nI l.length = nI (2 * l.length) from pk_mul 2 _]
    have hiT : i < T := by omega
    have hin : i < 60 → hrT t T 60 i = t i := fun h => by unfold hrT; rw [if_pos ⟨hiT, h⟩]
    obtain ⟨T', eT'⟩ : ∃ T', T = T' + 1 := ⟨T - 1, by omega⟩
    have eacl : acl t T T i = if two (t i) then (t i, avl (t i) (if i + 1 < T then t (i + 1) else 0)) :: acl t T T (i + 2) else (t i, 0) :: acl t T T (i + 1) := by
      have := acl_1 t T T' i
      rw [if_neg (by omega), acl_fu t T T' T (i + 2) (by omega) (by omega), acl_fu t T T' T (i + 1) (by omega) (by omega), ← eT'] at this
      exact this
    refine s212 (by omega) hp (by omega) (by omega) (fun z1 z2 => ⟨rfl, ?_⟩) (fun z1 sb' f' o' v' => ⟨rfl, ?_⟩) (fun z1 zg sb' f' o' v' a1 a2 => ⟨rfl, ?_⟩) (fun z1 zg sb' f' => ⟨rfl, ?_⟩)
    · rw [nI_1]
      refine bad f _ i i sb (by omega) (by omega) (by omega) ?_ hm hp
      rw [← hr]
      cases m with
      | zero => rw [wpf_0, if_pos (by omega), show i = 60 by omega]
      | succ m =>
        rw [hin (by omega)] at z1 z2
        rw [wpf_1, if_pos rfl, if_neg z1, if_neg z2]
    · have h60 : i < 60 := (hrT_in (t := t) (L := T) (p := 60) (a := i) (by omega)).2.1
      rw [hin h60] at z1 v'
      have hti := htl i hiT
      obtain ⟨m, rfl⟩ := d_1 (show 1 ≤ m by omega)
      rw [wpf_1, if_pos rfl, if_neg (by omega), if_pos z1] at hr
      rw [eacl, if_neg (by omega)] at hla
      rw [nI_1]
      have := ih m (by omega) (i + 1) (l ++ [(t i, 0)]) sb' f (by omega) (by omega) (by rw [List.length_append, List.length_singleton]; omega) (MS_scr hm f' (by decide)) (PB_fr hp f' (by decide)) (RA_add hra o' v' hti (fun z => by have : t i = 60 := z; omega) (fun z => by have : t i = 62 ∨ t i = 102 := z; omega)) (by rw [List.append_assoc]; exact hla) hr
      rw [List.length_append, List.length_singleton] at this
      exact this
    · have h60 : i < 60 := (hrT_in (t := t) (L := T) (p := 60) (a := i) (by omega)).2.1
      have hne : hrT t T 60 (i + 1) ≠ 999 := by
        intro e
        rw [e] at zg
        unfold agB at zg
        split at zg
        · exact absurd (of_decide_eq_true zg) (by omega)
        · exact absurd (of_decide_eq_true zg) (by omega)
      have ht1 := hrT_in (t := t) (L := T) (p := 60) (a := i + 1) hne
      rw [hin h60] at z1 v' zg a1 a2
      rw [ht1.2.2] at zg a1 a2
      have hti := htl i hiT
      obtain ⟨m, rfl⟩ := d_1 (show 1 ≤ m by omega)
      obtain ⟨m, rfl⟩ := d_1 (show 1 ≤ m by omega)
      rw [wpf_1, if_pos rfl, if_pos z1, wpf_1, if_neg (by omega), if_pos zg] at hr
      rw [eacl, if_pos z1, if_pos ht1.1] at hla
      rw [nI_1]
      have := ih m (by omega) (i + 2) (l ++ [(t i, avl (t i) (t (i + 1)))]) sb' f (by omega) (by omega) (by rw [List.length_append, List.length_singleton]; omega) (MS_scr hm f' (by decide)) (PB_fr hp f' (by decide)) (RA_add hra o' v' hti a1 a2) (by rw [List.append_assoc]; exact hla) hr
      rw [List.length_append, List.length_singleton] at this
      exact this
    · have h60 : i < 60 := (hrT_in (t := t) (L := T) (p := 60) (a := i) (by omega)).2.1
      rw [nI_1]
      refine bad f _ (i + 1) (i + 1) sb' (by omega) (by omega) (by omega) ?_ (MS_scr hm f' (by decide)) (PB_fr hp f' (by decide))
      rw [← hr]
      rw [hin h60] at z1 zg
      obtain ⟨m, rfl⟩ := d_1 (show 1 ≤ m by omega)
      rw [wpf_1, if_pos rfl, if_pos z1]
      cases m with
      | zero =>
        rw [wpf_0]
        by_cases q : 60 < T
        · rw [if_pos q]; congr 1; omega
        · rw [if_neg q, if_neg (by omega)]; congr 1; omega
      | succ m =>
        have e1 : hrT t T 60 (i + 1) = t (i + 1) := by unfold hrT; rw [if_pos ⟨by omega, by omega⟩]
        rw [e1] at zg
        rw [wpf_1, if_neg (by omega), if_neg zg]
/-- .. and does them -/
theorem s211x (hd : 1050 ≤ d) {l : List (Nat × Int32)} (hl : l.length ≤ 60) {g0 : Nat → Int32} (k : ∀ s', MS s0 s' (uG D (wex D l 0 g0).2.2) → gsA s' 64 = gsA s 64 → w211_108 c d Post (nI l.length) (nI (wex D l 0 g0).1) s') (hres : (wex D l 0 g0).2.1 = if (wex D l 0 g0).1 < l.length then 1 else 0) (hF : okF D) (hB : B < 2 ^ 19) :
    ∀ (m j : Nat) (g : Nat → Int32) (s' : gs), j + m = l.length → okG (dF D) (B + j) g → MS s0 s' (uG D g) → gsA s' 64 = gsA s 64 → RA s' l → wex D (l.drop j) j g = wex D l 0 g0 → wl211_72 c d Post (m + 1) (nI l.length) (nI j) s' := by
  intro m
  induction m with
  | zero =>
    intro j g s' hj hg hm h64 hra hw
    rw [List.drop_of_length_le (by omega)] at hw
    have hw' : (j, 0, g) = wex D l 0 g0 := hw
    rw [← hw'] at k
    unfold wl211_72 wb211_72
    exact ⟨fun _ => k s' hm h64, fun z => absurd (le_t (by omega) (by omega) (by omega)) z⟩
  | succ m ih =>
    intro j g s' hj hg hm h64 hra hw
    obtain ⟨r1, r0, r2, r3⟩ := hra j (by omega)
    have hN := okG_N hg hF.2 (by omega)
    have ed : l.drop j = l.getD j (0, 0) :: l.drop (j + 1) := by
      rw [List.drop_eq_getElem_cons (show j < l.length by omega)]
      congr 1
      simp [List.getD, List.getElem?_eq_getElem (show j < l.length by omega)]
    rw [ed] at hw
    unfold wl211_72 wb211_72
    rw [show (2 : Int32) * nI j = nI (2 * j) from pk_mul 2 j, nI_1, nI_clamp (by omega), nI_clamp (by omega), r1]
    refine ⟨fun z => absurd z (le_f (by omega) (by omega) (by omega)), fun _ => ⟨vp_in_nI (by omega) (by decide), vp_in_nI (by omega) (by decide), ?_⟩⟩
    refine s213 (D := uG D g) (B := B + j) (by omega) hm hN (by omega) r0 r2 r3 (fun e => ⟨_, rfl, fun _ => ?_, fun z => absurd rfl z⟩) (fun g' e s2 h2 e64 e66 => ⟨_, rfl, fun z => absurd z (by decide), fun _ => ?_⟩)
    · rw [wex_n e] at hw
      rw [← hw] at k
      exact k s' hm h64
    · rw [wex_s e] at hw
      rw [nI_1]
      refine ih (j + 1) g' s2 (by omega) (okG_act (D := uG D g) (B := B + j) hF hg (by omega) e) h2 (by rw [e64]; exact h64) (fun i hi => ?_) hw
      rw [e66]
      exact hra i hi
theorem wex_f (D : DD) : ∀ (l : List (Nat × Int32)) (n : Nat) (g : Nat → Int32), (wex D l n g).2.1 = if (wex D l n g).1 < n + l.length then 1 else 0
  | [], n, g => by
    show 0 = if n < n + 0 then 1 else 0
    rw [if_neg (by omega)]
  | a :: l, n, g => by
    rw [List.length_cons]
    cases e : actG (uG D g) a.1 a.2 with
    | none =>
      rw [wex_n e]
      show 1 = if n < n + (l.length + 1) then 1 else 0
      rw [if_pos (by omega)]
    | some g' =>
      rw [wex_s e, wex_f D l (n + 1) g', show n + 1 + l.length = n + (l.length + 1) by omega]
theorem wex_T (D : DD) (a : Nat) (b : Nat → Nat) : ∀ (l : List (Nat × Int32)) (n : Nat) (g : Nat → Int32), wex (uT D a b) l n g = wex D l n g
  | [], _, _ => rfl
  | x :: l, n, g => by
    have e : actG (uG (uT D a b) g) x.1 x.2 = actG (uG D g) x.1 x.2 := rfl
    cases q : actG (uG D g) x.1 x.2 with
    | none => rw [wex_n q, wex_n (e.trans q)]
    | some g' => rw [wex_s q, wex_s (e.trans q), wex_T D a b l (n + 1) g']
def wrD (D : DD) (w : Nat × Nat × (Nat → Int32)) : DD := uT (uW (if w.1 = 0 then uG D w.2.2 else uP (uG D w.2.2) (dg D)) 2 (r2 (nI w.2.1).toInt64 (w.2.2 0).toInt64)) 0 (dt D)
theorem cl_war (h : HY d s B D) : CL c d 92 211 [] s B := by
  have hd := h.1
  have hB := h.2.2.2.2
  have hv := h.2.2.2.1
  have hv6 := VD_mono hv (Nat.le_add_right B 60)
  have hT := h.2.1.1
  have h80 := hT.1
  have hS := XS_rf h.2.1
  have hF := hv.1
  have htl : ∀ i, i < dT D → dt D i < 256 := fun i hi => (hT.2.2 i hi).1
  have hlen := acl_len (dt D) (dT D) (dT D) 0
  have hwok := wex_ok hF (acl (dt D) (dT D) (dT D) 0) 0 B (dg D) hv.2.1
  have hwf := wex_f D (acl (dt D) (dT D) (dT D) 0) 0 (dg D)
  rw [Nat.zero_add] at hwf
  cases hw : wpf (dt D) (dT D) (min (dT D) 60) 0 0 with
  | some j =>
    have hj := wpf_le h80 _ _ _ j (by omega) hw
    refine glu1 h (D' := uT D 0 (dt D)) (x := -1 - nI j) hv6 (fun Post k => ?_) (fun s1 Post hm k => ?_)
    · obtain ⟨d, rfl⟩ := d_1 (show 1 ≤ d by omega)
      refine okm92 c d Post s (s102 (by omega) hT ⟨_, rfl, ?_⟩)
      rw [hw]
      refine ⟨fun z => absurd z (ni_1 (by omega)), fun _ => ?_⟩
      rintro s2 rfl
      exact k _ (XS_T hS (Nat.zero_le _))
    · obtain ⟨d, rfl⟩ := d_1 (show 1 ≤ d by omega)
      refine okm211 c d Post s1 ?_
      rintro s2 rfl
      refine s163 (p := 60) (by omega) (MS_thr hm 0) (by decide) (fun sb hb hp => ⟨rfl, min (dT D) 60 + 3, ?_⟩)
      refine s211l (by omega) h80 htl (fun j' b sb' hj' hm2 => ?_) (fun sb' e => ?_) (min (dT D) 60) 0 [] sb _ (by omega) (Nat.le_refl _) (Nat.le_refl _) hb hp (fun j hj => absurd hj (Nat.not_lt_zero _)) rfl rfl
      · rw [hw] at hj'; cases hj'
        exact k _ (MS_pz hm2 _ _)
      · rw [hw] at e; cases e
  | none =>
    have hT60 := wpf_60 _ _ _ hw
    generalize hL : acl (dt D) (dT D) (dT D) 0 = L at hlen hwok hwf
    generalize hR : wex D L 0 (dg D) = R at hwok hwf
    have hwk := hwok (by omega)
    obtain ⟨w1, w2, w3, w4⟩ := hwk
    have w1' : okG (dF D) (B + 60) R.2.2 := okG_mono w1 (by omega)
    refine glu1 h (D' := wrD D R) (x := nI R.1) ?_ (fun Post k => ?_) (fun s1 Post hm k => ?_)
    · unfold wrD
      by_cases q : R.1 = 0
      · rw [if_pos q]
        exact VD_W (VD_G hv6 w1') _ _
      · rw [if_neg q]
        exact VD_W (VD_P (VD_G hv6 w1') (okG_mono hv.2.1 (Nat.le_add_right B 60))) _ _
    · obtain ⟨d, rfl⟩ := d_1 (show 1 ≤ d by omega)
      refine okm92 c d Post s (s102 (by omega) hT ⟨_, rfl, ?_⟩)
      rw [hw]
      refine ⟨fun _ => s48 (by omega) rfl rfl (by decide) (fun s1 f1 x1 => ⟨rfl, dT D + 1, ?_⟩), fun z => absurd rfl z⟩
      have h1 := XS_scr hS f1 (Or.inl rfl)
      have x15 : xg s1 15 = dg D := by rw [x1]; exact h.2.1.2.2.2.2.2.1
      have fin2 : ∀ (s' : gs) (D2 : DD), XS s s' D2 → dg D2 = R.2.2 → dT D2 = dT D → dt D2 = dt D → XS s (xTell2 (gs_V s' 1 1 0) (nI R.2.1).toInt64 (R.2.2 0).toInt64) (wrD D R) → w92_134 c d Post (nI R.1) (nI R.2.1) s' := by
        intro s' D2 hs2 eg _ _ hfin
        unfold w92_134
        rintro s2 rfl
        rw [show gsV (gs_V s' 1 1 0) 14 0 = R.2.2 0 from by rw [← eg]; exact XS_g hs2 (by decide)]
        exact s46 (by omega) _ _ ⟨rfl, k _ hfin⟩
      have fin : ∀ (s' : gs) (n : Nat) (Rw : Nat → Int64), XS s s' (uW (uG D R.2.2) n Rw) → xg s' 15 = dg D → w92_119 c d Post (nI R.1) (nI R.2.1) s' := by
        intro s' n Rw hs2 hx15
        refine ⟨fun z => ?_, fun z => ?_⟩
        · have e0 : R.1 = 0 := by
            by_cases e0 : R.1 = 0
            · exact e0
            · exact absurd z (nI_nle (by omega) (by omega))
          refine fin2 s' _ hs2 rfl rfl rfl ?_
          have := XS_t2 (XS_T hs2 (n := 0) (Nat.zero_le _)) (nI R.2.1).toInt64 (R.2.2 0).toInt64
          unfold wrD
          rw [if_pos e0]
          exact this
        · have e0 : ¬ R.1 = 0 := fun e => z (by rw [e]; exact Int32.le_refl _)
          refine s41 (by omega) hs2 hx15 (fun s3 h3 x3 => ⟨rfl, fin2 s3 _ h3 rfl rfl rfl ?_⟩)
          have := XS_t2 (XS_T h3 (n := 0) (Nat.zero_le _)) (nI R.2.1).toInt64 (R.2.2 0).toInt64
          unfold wrD
          rw [if_neg e0]
          exact this
      have loop : ∀ (m i j : Nat) (g : Nat → Int32) (s' : gs) (n : Nat) (Rw : Nat → Int64), dT D ≤ i + m → i ≤ 61 → j ≤ i → okG (dF D) (B + j) g → XS s s' (uW (uG D g) n Rw) → xg s' 15 = dg D → wex D (acl (dt D) (dT D) m i) j g = R → wl92_40 c d Post (m + 1) (nI j) 0 (nI i) s' := by
        intro m
        induction m with
        | zero =>
          intro i j g s' n Rw hi hi61 hj hg hs hx hr
          have hr' : (j, 0, g) = R := hr
          unfold wl92_40 wb92_40
          rw [show gsV s' 1 1 = nI (dT D) from hs.1.1.2.1]
          refine ⟨fun _ => ?_, fun z => absurd (le_t (by omega) (by omega) (by omega)) z⟩
          have := fin s' n Rw (by rw [← hr']; exact hs) hx
          rw [← hr'] at this
          exact this
        | succ m ih =>
          intro i j g s' n Rw hi hi61 hj hg hs hx hr
          have hN := okG_N hg hF.2 (by omega)
          unfold wl92_40 wb92_40
          rw [show gsV s' 1 1 = nI (dT D) from hs.1.1.2.1, nI_le' (by omega) (by omega), nI_1]
          refine ⟨fun z => ?_, fun z => ⟨fun _ => ?_, fun y => absurd rfl y⟩⟩
          · rw [acl_e _ _ _ _ z] at hr
            have hr' : (j, 0, g) = R := hr
            have := fin s' n Rw (by rw [← hr']; exact hs) hx
            rw [← hr'] at this
            exact this
          · have hti := htl i (by omega)
            have hat : atT D i = dt D i := if_pos (by omega)
            have hat1 : atT D (i + 1) = if i + 1 < dT D then dt D (i + 1) else 0 := rfl
            have hy : atT D (i + 1) < 256 := atT_lt hT (i + 1)
            rw [acl_1, if_neg z] at hr
            refine s61 (D := uW (uG D g) n Rw) (by omega) hs.1.1 (by omega) ⟨_, rfl, s61 (D := uW (uG D g) n Rw) (by omega) hs.1.1 (by omega) ⟨_, rfl, ?_⟩⟩
            rw [show atT (uW (uG D g) n Rw) i = dt D i from hat, show atT (uW (uG D g) n Rw) (i + 1) = atT D (i + 1) from rfl]
            have step : ∀ (v : Int32) (i' : Nat) (l : List (Nat × Int32)), (two (dt D i) → v = avl (dt D i) (atT D (i + 1))) → i' = (if two (dt D i) then i + 2 else i + 1) → l = acl (dt D) (dT D) m i' → wex D ((dt D i, v) :: l) j g = R → tE c d 101 [.ref 0, .int (nI (dt D i)), .int (nI (atT D (i + 1)))] s' (fun v9 s_9 => ∃ x_9 : Int32, v9 = some (.int x_9) ∧ ((0 ≤ x_9 → w92_95 c d Post (wl92_40 c d Post (m + 1)) (nI j + 1) 0 (nI i) (nI (dt D i)) s_9) ∧ (¬ (0 ≤ x_9) → w92_95 c d Post (wl92_40 c d Post (m + 1)) (nI j) 1 (nI i) (nI (dt D i)) s_9))) := by
              intro v i' l hv' hi' hl' hr'
              have adv : ∀ (x2 x3 : Int32) (s9 : gs), wl92_40 c d Post (m + 1) x2 x3 (nI i') s9 → w92_95 c d Post (wl92_40 c d Post (m + 1)) x2 x3 (nI i) (nI (dt D i)) s9 := by
                intro x2 x3 s9 hh
                refine s100 (by omega) hti ⟨_, rfl, fun y => ?_, fun y => ?_⟩
                · have y' : ¬ two (dt D i) := fun w => by rw [if_pos w] at y; exact absurd y (by decide)
                  unfold w92_110
                  rw [Int32.add_zero, nI_1]
                  rw [hi', if_neg y'] at hh
                  exact hh
                · have y' : two (dt D i) := by
                    by_cases w : two (dt D i)
                    · exact w
                    · rw [if_neg w] at y; exact absurd rfl y
                  unfold w92_110
                  rw [nI_1, nI_1]
                  rw [hi', if_pos y'] at hh
                  exact hh
              refine s101 (D := uW (uG D g) n Rw) (B := B + j) (by omega) hs hN hg (by omega) hti hy hv' (fun e r hr0 => ⟨_, rfl, fun w => absurd hr0 (i_nlt.mpr w), fun _ => adv _ _ _ ?_⟩) (fun g' e s9 n9 R9 r hr0 h9 x9 => ⟨_, rfl, fun _ => adv _ _ _ ?_, fun w => absurd hr0 w⟩)
              · have e' : actG (uG D g) (dt D i) v = none := e
                rw [wex_n (a := (dt D i, v)) e'] at hr'
                have := fin s' n Rw (by rw [← hr']; exact hs) hx
                rw [← hr'] at this
                unfold wl92_40 wb92_40
                exact ⟨fun _ => this, fun _ => ⟨fun y => absurd y (by decide), fun _ => this⟩⟩
              · have e' : actG (uG D g) (dt D i) v = some g' := e
                rw [wex_s (a := (dt D i, v)) e', hl'] at hr'
                rw [nI_1]
                have hi2 : i' = i + 2 ∨ i' = i + 1 := by
                  rw [hi']
                  split
                  · exact Or.inl rfl
                  · exact Or.inr rfl
                exact ih i' (j + 1) g' s9 n9 R9 (by omega) (by omega) (by omega) (okG_act (D := uG D g) (B := B + j) hF hg (by omega) e') h9 (by rw [x9]; exact hx) hr'
            by_cases q : two (dt D i)
            · rw [if_pos q, ← hat1] at hr
              exact step _ (i + 2) _ (fun _ => rfl) (by rw [if_pos q]) rfl hr
            · rw [if_neg q] at hr
              exact step 0 (i + 1) _ (fun w => absurd w q) (by rw [if_neg q]) rfl hr
      refine loop (dT D) 0 0 (dg D) s1 (dm D) (dR D) (by omega) (by omega) (Nat.le_refl _) hv.2.1 h1 x15 ?_
      rw [hL]
      exact hR
    · obtain ⟨d, rfl⟩ := d_1 (show 1 ≤ d by omega)
      refine okm211 c d Post s1 ?_
      rintro s2 rfl
      refine s163 (p := 60) (by omega) (MS_thr hm 0) (by decide) (fun sb hb hp => ⟨rfl, min (dT D) 60 + 3, ?_⟩)
      refine s211l (by omega) h80 htl (fun j' b sb' hj' hm2 => ?_) (fun sb' _ hm2 hra => ?_) (min (dT D) 60) 0 [] sb _ (by omega) (Nat.le_refl _) (Nat.le_refl _) hb hp (fun j hj => absurd hj (Nat.not_lt_zero _)) rfl rfl
      · rw [hw] at hj'; cases hj'
      rw [hL] at hra ⊢
      have hm3 := MS_pz hm2 (dT D) (-1)
      refine s194 (k := 0) (N := 108) (by omega) rfl rfl (by decide) (by decide) (by decide) (fun s6 f6 e6 => ⟨rfl, L.length + 1, ?_⟩)
      have hm6 := MS_scr hm3 f6 (by decide)
      have a64 : ∀ i, i < 108 → gsA s6 64 i = dg D i := by
        intro i hi
        rw [e6, if_pos ⟨Nat.zero_le _, by omega⟩, Nat.sub_zero]
        have : gsA (pz sb' (dT D) (-1)) 49 = dg D := MS_G (D := uT D 0 (dt D)) hm3
        rw [this]
      have ra6 : RA s6 L := fun i hi => by
        rw [f6.2.2.1 66 (by decide)]
        exact hra i hi
      refine s211x (D := uT D 0 (dt D)) (B := B) (s := s6) (g0 := dg D) (by omega) (by omega) (fun s7 h7 e64 => ?_) ?_ hF (by omega) L.length 0 (dg D) s6 (by omega) hv.2.1 hm6 rfl ra6 rfl
      · have eR : wex (uT D 0 (dt D)) L 0 (dg D) = R := (wex_T D 0 (dt D) L 0 (dg D)).trans hR
        rw [eR] at h7 ⊢
        have fin : ∀ (s8 : gs) (D2 : DD), MS s1 s8 D2 → dg D2 = R.2.2 → (∀ s9, MS s1 s9 (uW D2 2 (r2 (nI R.2.1).toInt64 (R.2.2 0).toInt64)) → Post (some (.int (nI R.1))) s9) → w211_120 c d Post (nI L.length) (nI R.1) s8 := by
          intro s8 D2 h8 eg kk
          unfold w211_120
          rintro s9 rfl
          have tl : ∀ v : Int64, v = (nI R.2.1).toInt64 → w211_136 c d Post (nI R.1) v (gs_V s8 48 12 0) := by
            intro v ev
            subst ev
            refine s157r (by omega) (MS_row0 h8 (r2 (nI R.2.1).toInt64 (R.2.2 0).toInt64)) (by decide) rfl (fun s10 h10 e10 => ⟨rfl, vpd rfl, ?_⟩)
            have e49 : gsA s10 49 = R.2.2 := by rw [← eg]; exact h10.1.2.2.2.2.2.1
            rw [e49]
            exact s157r (by omega) h10 (by decide) rfl (fun s11 h11 e11 => ⟨rfl, kk s11 h11⟩)
          rw [nI_le' (by omega) (by omega)]
          refine ⟨fun z => tl _ ?_, fun z => tl _ ?_⟩
          · rw [hwf, if_neg (by omega)]; rfl
          · rw [hwf, if_pos (by omega)]; rfl
        refine ⟨fun z => ?_, fun z => ?_⟩
        · have e0 : R.1 = 0 := by
            by_cases e0 : R.1 = 0
            · exact e0
            · exact absurd z (nI_nle (by omega) (by omega))
          refine fin s7 _ h7 rfl (fun s9 h9 => k s9 ?_)
          unfold wrD
          rw [if_pos e0]
          exact h9
        · have e0 : ¬ R.1 = 0 := fun e => z (by rw [e]; exact Int32.le_refl _)
          refine s195 (g := dg D) (by omega) h7 rfl (Or.inr rfl) (fun i hi => by rw [e64]; exact a64 i hi) (fun s8 h8 _ => ⟨rfl, fin s8 _ h8 rfl (fun s9 h9 => k s9 ?_)⟩)
          unfold wrD
          rw [if_neg e0]
          exact h9
      · have eR : wex (uT D 0 (dt D)) L 0 (dg D) = R := (wex_T D 0 (dt D) L 0 (dg D)).trans hR
        rw [eR]
        exact hwf
end A2
