/-! The law's loop: all cases, over the contract lwW of the three readers. WRITTEN BY PROGRAM: wip/whole/gen_loop.py -/
theorem and63 (x : Int32) : ∃ n, n < 64 ∧ x &&& 63 = nI n := by
  refine ⟨(x.toBitVec &&& 63#32).toNat, ?_, ?_⟩
  · rw [BitVec.toNat_and]
    exact Nat.lt_of_le_of_lt Nat.and_le_right (by decide)
  · refine Int32.toBitVec_inj.mp ?_
    show x.toBitVec &&& 63#32 = BitVec.ofNat 32 (x.toBitVec &&& 63#32).toNat
    rw [BitVec.ofNat_toNat, BitVec.setWidth_eq]
def lw39 : Instr := match gm_find gk_900 39 with
  | some q => q.1
  | none => .nop
def lwT (n : Nat) : Option Nat := match gm_stp (gt_T false 0 (fun _ => 0)) (fun _ _ _ => none) 900 (lw39, 0, 0) 39 [] [.int (nI n)] (0, fun _ => .inr (0, [])) with
  | some (.inl ((t, _), _)) => some t
  | _ => none

theorem lb_0 : caseB 244 1 75 160 = true := by decide +kernel
theorem lb_1 : caseB 269 1 76 161 = true := by decide +kernel
theorem lb_2 : caseB 294 0 77 172 = true := by decide +kernel
theorem lb_3 : caseB 307 1 78 173 = true := by decide +kernel
theorem lb_4 : caseB 332 0 79 180 = true := by decide +kernel
theorem lb_7 : caseB 481 3 82 192 = true := by decide +kernel
theorem lb_8 : caseB 530 4 83 193 = true := by decide +kernel
theorem lb_9 : caseB 591 0 84 198 = true := by decide +kernel
theorem lb_10 : caseB 604 1 85 201 = true := by decide +kernel
theorem lb_11 : caseB 629 0 86 202 = true := by decide +kernel
theorem lb_12 : caseB 642 0 87 205 = true := by decide +kernel
theorem lb_13 : caseB 655 1 88 206 = true := by decide +kernel
theorem lb_14 : caseB 680 2 89 207 = true := by decide +kernel
theorem lb_15 : caseB 717 1 90 209 = true := by decide +kernel
theorem lb_16 : caseB 742 2 91 210 = true := by decide +kernel
theorem lb_17 : caseB 779 0 92 211 = true := by decide +kernel
theorem lb_18 : caseB 792 0 93 214 = true := by decide +kernel
theorem lb_19 : caseB 805 2 103 215 = true := by decide +kernel
theorem lb_20 : caseB 842 2 104 216 = true := by decide +kernel
theorem lb_21 : caseB 879 1 105 217 = true := by decide +kernel
theorem lb_22 : caseB 904 0 106 218 = true := by decide +kernel
theorem lb_23 : caseB 917 0 107 219 = true := by decide +kernel
theorem lb_24 : caseB 930 1 108 220 = true := by decide +kernel
theorem lb_25 : caseB 955 1 109 221 = true := by decide +kernel
theorem lb_26 : caseB 980 1 110 224 = true := by decide +kernel
theorem lb_27 : caseB 1005 1 114 230 = true := by decide +kernel
theorem lb_28 : caseB 1030 1 115 231 = true := by decide +kernel
theorem lb_29 : caseB 1055 1 116 232 = true := by decide +kernel
theorem lb_30 : caseB 1080 1 117 233 = true := by decide +kernel
theorem lb_31 : caseB 1105 0 120 235 = true := by decide +kernel
theorem lb_32 : caseB 1118 1 121 236 = true := by decide +kernel
theorem lb_33 : caseB 1143 1 124 238 = true := by decide +kernel
theorem lb_34 : caseB 1168 0 126 240 = true := by decide +kernel
theorem lb_35 : caseB 1181 2 127 241 = true := by decide +kernel
theorem lb_36 : caseB 1218 0 128 242 = true := by decide +kernel
theorem lb_37 : caseB 1231 2 129 249 = true := by decide +kernel
theorem lb_38 : caseB 1268 2 130 250 = true := by decide +kernel
theorem lb_39 : caseB 1305 2 131 251 = true := by decide +kernel
theorem lb_40 : caseB 1342 2 134 253 = true := by decide +kernel
theorem lb_41 : caseB 1379 2 136 255 = true := by decide +kernel
theorem lb_42 : caseB 1416 0 138 258 = true := by decide +kernel
theorem lb_43 : caseB 1429 2 141 259 = true := by decide +kernel
theorem lb_44 : caseB 1466 1 143 260 = true := by decide +kernel
theorem lb_45 : caseB 1491 1 144 261 = true := by decide +kernel
theorem lb_46 : caseB 1516 1 145 262 = true := by decide +kernel
theorem QX_73 {x : gs} {E : DD} (h : QX x E) (v : Int64) : QX (gs_R x 73 0 v) E := QX_frM h (frM_R (frM_rf x) (by decide) 0 v)
theorem QM_73 {x : gs} {E : DD} (h : QM x E) (v : Int64) : QM (gs_R x 73 0 v) E := h
theorem QX_t {x : gs} {E : DD} (h : QX x E) (v : Int32) : QX (gs_V x 48 13 v) E := QX_frM h (frM_V (frM_rf x) (by decide) 13 v)
theorem QM_t {x : gs} {E : DD} (h : QM x E) (v : Int32) : QM (gs_V x 48 13 v) E := (MS_thr (s0 := x) ⟨h, frM_rf x⟩ v).1
theorem nI_inj {a b : Nat} (ha : a < 2 ^ 31) (hb : b < 2 ^ 31) (h : nI a = nI b) : a = b := Classical.byContradiction fun z => nI_ne ha hb z h
section LAW
variable {p : Program} {l : Launch} {e : Env} {s : State} {m : MethodId} {args : Array Value} {below : List Frame} {meth : Method} {c : Code} {Q : State → Prop}
variable {b : Nat} {aK : Nat → Nat} {D : va_G} {dA : Nat → ClassId} {XP : State → Prop} {al : Bool} {sl : Nat} {sx : Nat → Int32} {pc kc ks : Nat} {L : gm_L} {S : List Value} {h : gm_H}
theorem lwT_ok {n t : Nat} {call : Nat → List Value → gm_H → Option gm_R} (h1 : lwT n = some t) : gm_stp (gt_T al sl sx) call 900 (lw39, 0, 0) 39 L (.int (nI n) :: S) h = some (.inl ((t, L, S, h), 0, 0)) := by
  unfold lwT at h1
  have e : lw39 = .tableswitch 1557 0 47 #[205, 230, 255, 268, 293, 306, 374, 442, 491, 552, 565, 590, 603, 616, 641, 678, 703, 740, 753, 766, 803, 840, 865, 878, 891, 916, 941, 966, 991, 1016, 1041, 1066, 1079, 1104, 1129, 1142, 1179, 1192, 1229, 1266, 1303, 1340, 1377, 1390, 1427, 1452, 1477, 1502] := by decide +kernel
  rw [e] at h1 ⊢
  unfold gm_stp at h1 ⊢
  dsimp only at h1 ⊢
  unfold gm_sw at h1 ⊢
  split at h1
  · rename_i t' _ _ h2
    cases h1
    split at h2
    · rename_i z
      rw [if_pos z]
      cases h2
      rfl
    · rename_i z
      rw [if_neg z]
      split at h2
      · rename_i o ho
        split at h2
        · rename_i t2 ht
          cases h2
          rfl
        · cases h2
      · cases h2
  · cases h1
/-- the contract of the three readers -/
def lwW (p : Program) (l : Launch) (e : Env) (s : State) (m : MethodId) (args : Array Value) (below : List Frame) (meth : Method) (c : Code) (Q : State → Prop) (b : Nat) (aK : Nat → Nat) (D : va_G) (dA : Nat → ClassId) (sl : Nat) (sx : Nat → Int32) : Prop :=
  ∀ (x : gs) (E : DD) (k kc ks : Nat), QX x E → kc + 1 ≤ 601024 → ks + 6 ≤ 7293034 →
    (∀ n i, n < dF E → i ≤ 3 → lwS p l e s m args below meth c Q b aK D dA sl sx (gs_R x 73 0 (fdV E n i).toInt64) 362 (gLi k) [.int 0] kc ks → lwS p l e s m args below meth c Q b aK D dA sl sx x 359 (gLi k) [.ref 73, .int (nI i), .int (nI n), .ref 0] kc ks) ∧
    (∀ u v, ¬ (fld E u ∧ 0 ≤ v ∧ v ≤ 3) → lwS p l e s m args below meth c Q b aK D dA sl sx x 362 (gLi k) [.int 1] (kc + 1) (ks + 6) → lwS p l e s m args below meth c Q b aK D dA sl sx x 359 (gLi k) [.ref 73, .int v, .int u, .ref 0] kc ks) ∧
    (∀ n i, n < 2 → i ≤ 4 → lwS p l e s m args below meth c Q b aK D dA sl sx (gs_R x 73 0 (coV E n i).toInt64) 430 (gLi k) [.int 0] kc ks → lwS p l e s m args below meth c Q b aK D dA sl sx x 427 (gLi k) [.ref 73, .int (nI i), .int (nI n), .ref 0] kc ks) ∧
    (∀ u v, ¬ ((u = 0 ∨ u = 1) ∧ 0 ≤ v ∧ v ≤ 4) → lwS p l e s m args below meth c Q b aK D dA sl sx x 430 (gLi k) [.int 1] (kc + 1) (ks + 6) → lwS p l e s m args below meth c Q b aK D dA sl sx x 427 (gLi k) [.ref 73, .int v, .int u, .ref 0] kc ks) ∧
    (∀ n, n < dm E → lwS p l e s m args below meth c Q b aK D dA sl sx (gs_R x 73 0 (dR E n)) 1552 (gLi k) [.int 0] kc ks → lwS p l e s m args below meth c Q b aK D dA sl sx x 1549 (gLi k) [.ref 73, .int (nI n), .ref 0] kc ks) ∧
    (∀ u, ¬ (0 ≤ u ∧ u < nI (dm E)) → lwS p l e s m args below meth c Q b aK D dA sl sx x 1552 (gLi k) [.int 1] (kc + 1) (ks + 6) → lwS p l e s m args below meth c Q b aK D dA sl sx x 1549 (gLi k) [.ref 73, .int u, .ref 0] kc ks)
/-- where a turn ends -/
abbrev lwN (p : Program) (l : Launch) (e : Env) (s : State) (m : MethodId) (args : Array Value) (below : List Frame) (meth : Method) (c : Code) (Q : State → Prop) (b : Nat) (aK : Nat → Nat) (D : va_G) (dA : Nat → ClassId) (sl : Nat) (sx : Nat → Int32) (k kc ks B : Nat) : Prop :=
  ∀ (x : gs) (kc' ks' : Nat), OK2 (B + 60) x → kc' ≤ kc + 10 → ks' ≤ ks + 100 → lwS p l e s m args below meth c Q b aK D dA sl sx x 1596 (gLi k) [] kc' ks'
theorem lw_cfield (C : lwC p s m args meth c b aK D dA XP false sl sx) (hP : lwP l b aK D dA XP false sl sx) (hW : lwW p l e s m args below meth c Q b aK D dA sl sx) {x : gs} {k B : Nat} {E : DD} (hk5 : 5 * k + 5 ≤ sl) (hsl : sl ≤ 2560) (hk : kc + 1 ≤ 601024) (hs : ks + 6 ≤ 7293034) (hy : HY 1200 x B E) (kk : lwN p l e s m args below meth c Q b aK D dA sl sx k kc ks B) : lwS p l e s m args below meth c Q b aK D dA sl sx x 345 (gLi k) [] kc ks := by
  have hb := rd_field
  rw [Bool.and_eq_true] at hb
  obtain ⟨-, hX, hM, hv, -⟩ := hy
  have hF := hv.1.2
  have hw := hW x E k kc ks hX hk hs
  refine lr_head C (na := 2) (by decide) hk5 hsl hb.1 (by omega) (by omega) ?_
  show lwS p l e s m args below meth c Q b aK D dA sl sx x 359 (gLi k) [.ref 73, .int (sx (5 * k + 1 + 1)), .int (sx (5 * k + 1 + 0)), .ref 0] kc ks
  generalize hu : sx (5 * k + 1 + 0) = u
  generalize hw2 : sx (5 * k + 1 + 1) = w
  have eA : asO sx k 2 = [.int u, .int w] := by rw [← hu, ← hw2]; rfl
  by_cases q : fld E u ∧ 0 ≤ w ∧ w ≤ 3
  · obtain ⟨n, hn, rfl⟩ := fld_nat hv.1 q.1
    obtain ⟨i, hi, rfl⟩ := i_nat q.2.1
    have hi3 : i ≤ 3 := (nI_le' (b := 3) hi (by decide)).mp q.2.2
    refine hw.1 n i hn hi3 (lr_two C hP hk5 hsl hb.2 (by omega) (by omega) (O := OK2 (B + 60)) ?_ (fun x' h' => kk x' kc ks h' (by omega) (by omega)))
    rw [eA]
    refine m190 (s0 := gs_R x 73 0 (fdV E n i).toInt64) (by decide) ⟨QM_73 hM _, frM_rf _⟩ _ _ (fun n' i' hn' hi' e1 e2 => ?_) (fun z => absurd q z)
    cases nI_inj (by omega) (by omega) e1
    cases nI_inj (by omega) (by omega) e2
    exact ⟨_, rfl, rfl, fun _ => rfl, E, QX_t (QX_73 hX _) _, QM_t (QM_73 hM _) _, VD_mono hv (by omega)⟩
  · refine hw.2.1 u w q (lr_two C hP hk5 hsl hb.2 (by omega) (by omega) (O := OK2 (B + 60)) ?_ (fun x' h' => kk x' (kc + 1) (ks + 6) h' (by omega) (by omega)))
    rw [eA]
    refine m190 (s0 := x) (by decide) ⟨hM, frM_rf _⟩ _ _ (fun n' i' hn' hi' e1 e2 => ?_) (fun _ => ⟨_, rfl, rfl, fun z => (by cases z), E, QX_t (QX_t hX _) _, QM_t (QM_t hM _) _, VD_mono hv (by omega)⟩)
    exact absurd ⟨by rw [e1]; exact (fld_nI hv.1 (by omega)).mpr hn', by rw [e2]; exact i_nlt.mp (nI_pos (by omega)), by rw [e2]; exact (nI_le' (b := 3) (by omega) (by decide)).mpr hi'⟩ q
theorem lw_cconsul (C : lwC p s m args meth c b aK D dA XP false sl sx) (hP : lwP l b aK D dA XP false sl sx) (hW : lwW p l e s m args below meth c Q b aK D dA sl sx) {x : gs} {k B : Nat} {E : DD} (hk5 : 5 * k + 5 ≤ sl) (hsl : sl ≤ 2560) (hk : kc + 1 ≤ 601024) (hs : ks + 6 ≤ 7293034) (hy : HY 1200 x B E) (kk : lwN p l e s m args below meth c Q b aK D dA sl sx k kc ks B) : lwS p l e s m args below meth c Q b aK D dA sl sx x 413 (gLi k) [] kc ks := by
  have hb := rd_consul
  rw [Bool.and_eq_true] at hb
  obtain ⟨-, hX, hM, hv, -⟩ := hy
  have hw := hW x E k kc ks hX hk hs
  refine lr_head C (na := 2) (by decide) hk5 hsl hb.1 (by omega) (by omega) ?_
  show lwS p l e s m args below meth c Q b aK D dA sl sx x 427 (gLi k) [.ref 73, .int (sx (5 * k + 1 + 1)), .int (sx (5 * k + 1 + 0)), .ref 0] kc ks
  generalize hu : sx (5 * k + 1 + 0) = u
  generalize hw2 : sx (5 * k + 1 + 1) = w
  have eA : asO sx k 2 = [.int u, .int w] := by rw [← hu, ← hw2]; rfl
  by_cases q : (u = 0 ∨ u = 1) ∧ 0 ≤ w ∧ w ≤ 4
  · obtain ⟨n, hn, rfl⟩ := con_n q.1
    obtain ⟨i, hi, rfl⟩ := i_nat q.2.1
    have hi3 : i ≤ 4 := (nI_le' (b := 4) hi (by decide)).mp q.2.2
    refine hw.2.2.1 n i hn hi3 (lr_two C hP hk5 hsl hb.2 (by omega) (by omega) (O := OK2 (B + 60)) ?_ (fun x' h' => kk x' kc ks h' (by omega) (by omega)))
    rw [eA]
    refine m191 (s0 := gs_R x 73 0 (coV E n i).toInt64) (by decide) ⟨QM_73 hM _, frM_rf _⟩ _ _ (fun n' i' hn' hi' e1 e2 => ?_) (fun z => absurd q z)
    cases nI_inj (by omega) (by omega) e1
    cases nI_inj (by omega) (by omega) e2
    exact ⟨_, rfl, rfl, fun _ => rfl, E, QX_t (QX_73 hX _) _, QM_t (QM_73 hM _) _, VD_mono hv (by omega)⟩
  · refine hw.2.2.2.1 u w q (lr_two C hP hk5 hsl hb.2 (by omega) (by omega) (O := OK2 (B + 60)) ?_ (fun x' h' => kk x' (kc + 1) (ks + 6) h' (by omega) (by omega)))
    rw [eA]
    refine m191 (s0 := x) (by decide) ⟨hM, frM_rf _⟩ _ _ (fun n' i' hn' hi' e1 e2 => ?_) (fun _ => ⟨_, rfl, rfl, fun z => (by cases z), E, QX_t (QX_t hX _) _, QM_t (QM_t hM _) _, VD_mono hv (by omega)⟩)
    refine absurd ⟨?_, by rw [e2]; exact i_nlt.mp (nI_pos (by omega)), by rw [e2]; exact (nI_le' (b := 4) (by omega) (by decide)).mpr hi'⟩ q
    rw [e1]
    have : n' = 0 ∨ n' = 1 := by omega
    rcases this with rfl | rfl
    · exact Or.inl rfl
    · exact Or.inr rfl
theorem lw_crow (C : lwC p s m args meth c b aK D dA XP false sl sx) (hP : lwP l b aK D dA XP false sl sx) (hW : lwW p l e s m args below meth c Q b aK D dA sl sx) {x : gs} {k B : Nat} {E : DD} (hk5 : 5 * k + 5 ≤ sl) (hsl : sl ≤ 2560) (hk : kc + 1 ≤ 601024) (hs : ks + 6 ≤ 7293034) (hy : HY 1200 x B E) (kk : lwN p l e s m args below meth c Q b aK D dA sl sx k kc ks B) : lwS p l e s m args below meth c Q b aK D dA sl sx x 1541 (gLi k) [] kc ks := by
  have hb := rd_row
  rw [Bool.and_eq_true] at hb
  obtain ⟨-, hX, hM, hv, -⟩ := hy
  have hw := hW x E k kc ks hX hk hs
  have hm32 : dm E ≤ 32 := hX.2.2.2.2.2.2.2.2.1.1
  refine lr_head C (na := 1) (by decide) hk5 hsl hb.1 (by omega) (by omega) ?_
  show lwS p l e s m args below meth c Q b aK D dA sl sx x 1549 (gLi k) [.ref 73, .int (sx (5 * k + 1 + 0)), .ref 0] kc ks
  generalize hu : sx (5 * k + 1 + 0) = u
  have eA : asO sx k 1 = [.int u] := by rw [← hu]; rfl
  by_cases q : 0 ≤ u ∧ u < nI (dm E)
  · obtain ⟨n, hn, rfl⟩ := i_nat q.1
    have hnd : n < dm E := (nI_lt' hn (by omega)).mp q.2
    refine hw.2.2.2.2.1 n hnd (lr_one C hP hk5 hsl hb.2 (by omega) (by omega) (O := OK2 (B + 60)) ?_ (fun x' h' => kk x' kc ks h' (by omega) (by omega)))
    rw [eA]
    refine m263 (s0 := gs_R x 73 0 (dR E n)) (by decide) ⟨QM_73 hM _, frM_rf _⟩ _ (fun n' hn' e1 => ?_) (fun z => absurd q z)
    cases nI_inj (by omega) (by omega) e1
    exact ⟨_, rfl, rfl, fun _ => rfl, E, QX_t (QX_73 hX _) _, QM_t (QM_73 hM _) _, VD_mono hv (by omega)⟩
  · refine hw.2.2.2.2.2 u q (lr_one C hP hk5 hsl hb.2 (by omega) (by omega) (O := OK2 (B + 60)) ?_ (fun x' h' => kk x' (kc + 1) (ks + 6) h' (by omega) (by omega)))
    rw [eA]
    refine m263 (s0 := x) (by decide) ⟨hM, frM_rf _⟩ _ (fun n' hn' e1 => ?_) (fun _ => ⟨_, rfl, rfl, fun z => (by cases z), E, QX_t (QX_t hX _) _, QM_t (QM_t hM _) _, VD_mono hv (by omega)⟩)
    exact absurd ⟨by rw [e1]; exact i_nlt.mp (nI_pos (by omega)), by rw [e1]; exact (nI_lt' (by omega) (by omega)).mpr hn'⟩ q

theorem lc_0 (C : lwC p s m args meth c b aK D dA XP false sl sx) (hP : lwP l b aK D dA XP false sl sx) (hW : lwW p l e s m args below meth c Q b aK D dA sl sx) {x : gs} {k B : Nat} {E : DD} (hk5 : 5 * k + 5 ≤ sl) (hsl : sl ≤ 2560) (hk : kc + 1 ≤ 601024) (hs : ks + 6 ≤ 7293034) (hy : HY 1200 x B E) (kk : lwN p l e s m args below meth c Q b aK D dA sl sx k kc ks B) : lwS p l e s m args below meth c Q b aK D dA sl sx x 244 (gLi k) [] kc ks := lw_case C hP hk5 hsl lb_0 (by omega) (by omega) (cl_sign hy _) (fun x' h' => kk x' kc ks h' (by omega) (by omega))
theorem lc_1 (C : lwC p s m args meth c b aK D dA XP false sl sx) (hP : lwP l b aK D dA XP false sl sx) (hW : lwW p l e s m args below meth c Q b aK D dA sl sx) {x : gs} {k B : Nat} {E : DD} (hk5 : 5 * k + 5 ≤ sl) (hsl : sl ≤ 2560) (hk : kc + 1 ≤ 601024) (hs : ks + 6 ≤ 7293034) (hy : HY 1200 x B E) (kk : lwN p l e s m args below meth c Q b aK D dA sl sx k kc ks B) : lwS p l e s m args below meth c Q b aK D dA sl sx x 269 (gLi k) [] kc ks := lw_case C hP hk5 hsl lb_1 (by omega) (by omega) (cl_end hy _) (fun x' h' => kk x' kc ks h' (by omega) (by omega))
theorem lc_2 (C : lwC p s m args meth c b aK D dA XP false sl sx) (hP : lwP l b aK D dA XP false sl sx) (hW : lwW p l e s m args below meth c Q b aK D dA sl sx) {x : gs} {k B : Nat} {E : DD} (hk5 : 5 * k + 5 ≤ sl) (hsl : sl ≤ 2560) (hk : kc + 1 ≤ 601024) (hs : ks + 6 ≤ 7293034) (hy : HY 1200 x B E) (kk : lwN p l e s m args below meth c Q b aK D dA sl sx k kc ks B) : lwS p l e s m args below meth c Q b aK D dA sl sx x 294 (gLi k) [] kc ks := lw_case C hP hk5 hsl lb_2 (by omega) (by omega) (cl_ground hy) (fun x' h' => kk x' kc ks h' (by omega) (by omega))
theorem lc_3 (C : lwC p s m args meth c b aK D dA XP false sl sx) (hP : lwP l b aK D dA XP false sl sx) (hW : lwW p l e s m args below meth c Q b aK D dA sl sx) {x : gs} {k B : Nat} {E : DD} (hk5 : 5 * k + 5 ≤ sl) (hsl : sl ≤ 2560) (hk : kc + 1 ≤ 601024) (hs : ks + 6 ≤ 7293034) (hy : HY 1200 x B E) (kk : lwN p l e s m args below meth c Q b aK D dA sl sx k kc ks B) : lwS p l e s m args below meth c Q b aK D dA sl sx x 307 (gLi k) [] kc ks := lw_case C hP hk5 hsl lb_3 (by omega) (by omega) (cl_wishes hy _) (fun x' h' => kk x' kc ks h' (by omega) (by omega))
theorem lc_4 (C : lwC p s m args meth c b aK D dA XP false sl sx) (hP : lwP l b aK D dA XP false sl sx) (hW : lwW p l e s m args below meth c Q b aK D dA sl sx) {x : gs} {k B : Nat} {E : DD} (hk5 : 5 * k + 5 ≤ sl) (hsl : sl ≤ 2560) (hk : kc + 1 ≤ 601024) (hs : ks + 6 ≤ 7293034) (hy : HY 1200 x B E) (kk : lwN p l e s m args below meth c Q b aK D dA sl sx k kc ks B) : lwS p l e s m args below meth c Q b aK D dA sl sx x 332 (gLi k) [] kc ks := lw_case C hP hk5 hsl lb_4 (by omega) (by omega) (cl_rule rfl hy) (fun x' h' => kk x' kc ks h' (by omega) (by omega))
theorem lc_5 (C : lwC p s m args meth c b aK D dA XP false sl sx) (hP : lwP l b aK D dA XP false sl sx) (hW : lwW p l e s m args below meth c Q b aK D dA sl sx) {x : gs} {k B : Nat} {E : DD} (hk5 : 5 * k + 5 ≤ sl) (hsl : sl ≤ 2560) (hk : kc + 1 ≤ 601024) (hs : ks + 6 ≤ 7293034) (hy : HY 1200 x B E) (kk : lwN p l e s m args below meth c Q b aK D dA sl sx k kc ks B) : lwS p l e s m args below meth c Q b aK D dA sl sx x 345 (gLi k) [] kc ks := lw_cfield C hP hW hk5 hsl hk hs hy kk
theorem lc_6 (C : lwC p s m args meth c b aK D dA XP false sl sx) (hP : lwP l b aK D dA XP false sl sx) (hW : lwW p l e s m args below meth c Q b aK D dA sl sx) {x : gs} {k B : Nat} {E : DD} (hk5 : 5 * k + 5 ≤ sl) (hsl : sl ≤ 2560) (hk : kc + 1 ≤ 601024) (hs : ks + 6 ≤ 7293034) (hy : HY 1200 x B E) (kk : lwN p l e s m args below meth c Q b aK D dA sl sx k kc ks B) : lwS p l e s m args below meth c Q b aK D dA sl sx x 413 (gLi k) [] kc ks := lw_cconsul C hP hW hk5 hsl hk hs hy kk
theorem lc_7 (C : lwC p s m args meth c b aK D dA XP false sl sx) (hP : lwP l b aK D dA XP false sl sx) (hW : lwW p l e s m args below meth c Q b aK D dA sl sx) {x : gs} {k B : Nat} {E : DD} (hk5 : 5 * k + 5 ≤ sl) (hsl : sl ≤ 2560) (hk : kc + 1 ≤ 601024) (hs : ks + 6 ≤ 7293034) (hy : HY 1200 x B E) (kk : lwN p l e s m args below meth c Q b aK D dA sl sx k kc ks B) : lwS p l e s m args below meth c Q b aK D dA sl sx x 481 (gLi k) [] kc ks := lw_case C hP hk5 hsl lb_7 (by omega) (by omega) (cl_set hy _ _ _) (fun x' h' => kk x' kc ks h' (by omega) (by omega))
theorem lc_8 (C : lwC p s m args meth c b aK D dA XP false sl sx) (hP : lwP l b aK D dA XP false sl sx) (hW : lwW p l e s m args below meth c Q b aK D dA sl sx) {x : gs} {k B : Nat} {E : DD} (hk5 : 5 * k + 5 ≤ sl) (hsl : sl ≤ 2560) (hk : kc + 1 ≤ 601024) (hs : ks + 6 ≤ 7293034) (hy : HY 1200 x B E) (kk : lwN p l e s m args below meth c Q b aK D dA sl sx k kc ks B) : lwS p l e s m args below meth c Q b aK D dA sl sx x 530 (gLi k) [] kc ks := lw_case C hP hk5 hsl lb_8 (by omega) (by omega) (cl_sheet hy _ _ _ _) (fun x' h' => kk x' kc ks h' (by omega) (by omega))
theorem lc_9 (C : lwC p s m args meth c b aK D dA XP false sl sx) (hP : lwP l b aK D dA XP false sl sx) (hW : lwW p l e s m args below meth c Q b aK D dA sl sx) {x : gs} {k B : Nat} {E : DD} (hk5 : 5 * k + 5 ≤ sl) (hsl : sl ≤ 2560) (hk : kc + 1 ≤ 601024) (hs : ks + 6 ≤ 7293034) (hy : HY 1200 x B E) (kk : lwN p l e s m args below meth c Q b aK D dA sl sx k kc ks B) : lwS p l e s m args below meth c Q b aK D dA sl sx x 591 (gLi k) [] kc ks := lw_case C hP hk5 hsl lb_9 (by omega) (by omega) (cl_whose hy) (fun x' h' => kk x' kc ks h' (by omega) (by omega))
theorem lc_10 (C : lwC p s m args meth c b aK D dA XP false sl sx) (hP : lwP l b aK D dA XP false sl sx) (hW : lwW p l e s m args below meth c Q b aK D dA sl sx) {x : gs} {k B : Nat} {E : DD} (hk5 : 5 * k + 5 ≤ sl) (hsl : sl ≤ 2560) (hk : kc + 1 ≤ 601024) (hs : ks + 6 ≤ 7293034) (hy : HY 1200 x B E) (kk : lwN p l e s m args below meth c Q b aK D dA sl sx k kc ks B) : lwS p l e s m args below meth c Q b aK D dA sl sx x 604 (gLi k) [] kc ks := lw_case C hP hk5 hsl lb_10 (by omega) (by omega) (cl_march hy _) (fun x' h' => kk x' kc ks h' (by omega) (by omega))
theorem lc_11 (C : lwC p s m args meth c b aK D dA XP false sl sx) (hP : lwP l b aK D dA XP false sl sx) (hW : lwW p l e s m args below meth c Q b aK D dA sl sx) {x : gs} {k B : Nat} {E : DD} (hk5 : 5 * k + 5 ≤ sl) (hsl : sl ≤ 2560) (hk : kc + 1 ≤ 601024) (hs : ks + 6 ≤ 7293034) (hy : HY 1200 x B E) (kk : lwN p l e s m args below meth c Q b aK D dA sl sx k kc ks B) : lwS p l e s m args below meth c Q b aK D dA sl sx x 629 (gLi k) [] kc ks := lw_case C hP hk5 hsl lb_11 (by omega) (by omega) (cl_halt hy) (fun x' h' => kk x' kc ks h' (by omega) (by omega))
theorem lc_12 (C : lwC p s m args meth c b aK D dA XP false sl sx) (hP : lwP l b aK D dA XP false sl sx) (hW : lwW p l e s m args below meth c Q b aK D dA sl sx) {x : gs} {k B : Nat} {E : DD} (hk5 : 5 * k + 5 ≤ sl) (hsl : sl ≤ 2560) (hk : kc + 1 ≤ 601024) (hs : ks + 6 ≤ 7293034) (hy : HY 1200 x B E) (kk : lwN p l e s m args below meth c Q b aK D dA sl sx k kc ks B) : lwS p l e s m args below meth c Q b aK D dA sl sx x 642 (gLi k) [] kc ks := lw_case C hP hk5 hsl lb_12 (by omega) (by omega) (cl_fight hy) (fun x' h' => kk x' kc ks h' (by omega) (by omega))
theorem lc_13 (C : lwC p s m args meth c b aK D dA XP false sl sx) (hP : lwP l b aK D dA XP false sl sx) (hW : lwW p l e s m args below meth c Q b aK D dA sl sx) {x : gs} {k B : Nat} {E : DD} (hk5 : 5 * k + 5 ≤ sl) (hsl : sl ≤ 2560) (hk : kc + 1 ≤ 601024) (hs : ks + 6 ≤ 7293034) (hy : HY 1200 x B E) (kk : lwN p l e s m args below meth c Q b aK D dA sl sx k kc ks B) : lwS p l e s m args below meth c Q b aK D dA sl sx x 655 (gLi k) [] kc ks := lw_case C hP hk5 hsl lb_13 (by omega) (by omega) (cl_foe hy _) (fun x' h' => kk x' kc ks h' (by omega) (by omega))
theorem lc_14 (C : lwC p s m args meth c b aK D dA XP false sl sx) (hP : lwP l b aK D dA XP false sl sx) (hW : lwW p l e s m args below meth c Q b aK D dA sl sx) {x : gs} {k B : Nat} {E : DD} (hk5 : 5 * k + 5 ≤ sl) (hsl : sl ≤ 2560) (hk : kc + 1 ≤ 601024) (hs : ks + 6 ≤ 7293034) (hy : HY 1200 x B E) (kk : lwN p l e s m args below meth c Q b aK D dA sl sx k kc ks B) : lwS p l e s m args below meth c Q b aK D dA sl sx x 680 (gLi k) [] kc ks := lw_case C hP hk5 hsl lb_14 (by omega) (by omega) (cl_send hy _ _) (fun x' h' => kk x' kc ks h' (by omega) (by omega))
theorem lc_15 (C : lwC p s m args meth c b aK D dA XP false sl sx) (hP : lwP l b aK D dA XP false sl sx) (hW : lwW p l e s m args below meth c Q b aK D dA sl sx) {x : gs} {k B : Nat} {E : DD} (hk5 : 5 * k + 5 ≤ sl) (hsl : sl ≤ 2560) (hk : kc + 1 ≤ 601024) (hs : ks + 6 ≤ 7293034) (hy : HY 1200 x B E) (kk : lwN p l e s m args below meth c Q b aK D dA sl sx k kc ks B) : lwS p l e s m args below meth c Q b aK D dA sl sx x 717 (gLi k) [] kc ks := lw_case C hP hk5 hsl lb_15 (by omega) (by omega) (cl_lend hy _) (fun x' h' => kk x' kc ks h' (by omega) (by omega))
theorem lc_16 (C : lwC p s m args meth c b aK D dA XP false sl sx) (hP : lwP l b aK D dA XP false sl sx) (hW : lwW p l e s m args below meth c Q b aK D dA sl sx) {x : gs} {k B : Nat} {E : DD} (hk5 : 5 * k + 5 ≤ sl) (hsl : sl ≤ 2560) (hk : kc + 1 ≤ 601024) (hs : ks + 6 ≤ 7293034) (hy : HY 1200 x B E) (kk : lwN p l e s m args below meth c Q b aK D dA sl sx k kc ks B) : lwS p l e s m args below meth c Q b aK D dA sl sx x 742 (gLi k) [] kc ks := lw_case C hP hk5 hsl lb_16 (by omega) (by omega) (cl_sick hy _ _) (fun x' h' => kk x' kc ks h' (by omega) (by omega))
theorem lc_17 (C : lwC p s m args meth c b aK D dA XP false sl sx) (hP : lwP l b aK D dA XP false sl sx) (hW : lwW p l e s m args below meth c Q b aK D dA sl sx) {x : gs} {k B : Nat} {E : DD} (hk5 : 5 * k + 5 ≤ sl) (hsl : sl ≤ 2560) (hk : kc + 1 ≤ 601024) (hs : ks + 6 ≤ 7293034) (hy : HY 1200 x B E) (kk : lwN p l e s m args below meth c Q b aK D dA sl sx k kc ks B) : lwS p l e s m args below meth c Q b aK D dA sl sx x 779 (gLi k) [] kc ks := lw_case C hP hk5 hsl lb_17 (by omega) (by omega) (cl_war hy) (fun x' h' => kk x' kc ks h' (by omega) (by omega))
theorem lc_18 (C : lwC p s m args meth c b aK D dA XP false sl sx) (hP : lwP l b aK D dA XP false sl sx) (hW : lwW p l e s m args below meth c Q b aK D dA sl sx) {x : gs} {k B : Nat} {E : DD} (hk5 : 5 * k + 5 ≤ sl) (hsl : sl ≤ 2560) (hk : kc + 1 ≤ 601024) (hs : ks + 6 ≤ 7293034) (hy : HY 1200 x B E) (kk : lwN p l e s m args below meth c Q b aK D dA sl sx k kc ks B) : lwS p l e s m args below meth c Q b aK D dA sl sx x 792 (gLi k) [] kc ks := lw_case C hP hk5 hsl lb_18 (by omega) (by omega) (cl_undo hy) (fun x' h' => kk x' kc ks h' (by omega) (by omega))
theorem lc_19 (C : lwC p s m args meth c b aK D dA XP false sl sx) (hP : lwP l b aK D dA XP false sl sx) (hW : lwW p l e s m args below meth c Q b aK D dA sl sx) {x : gs} {k B : Nat} {E : DD} (hk5 : 5 * k + 5 ≤ sl) (hsl : sl ≤ 2560) (hk : kc + 1 ≤ 601024) (hs : ks + 6 ≤ 7293034) (hy : HY 1200 x B E) (kk : lwN p l e s m args below meth c Q b aK D dA sl sx k kc ks B) : lwS p l e s m args below meth c Q b aK D dA sl sx x 805 (gLi k) [] kc ks := lw_case C hP hk5 hsl lb_19 (by omega) (by omega) (cl_comes hy _ _) (fun x' h' => kk x' kc ks h' (by omega) (by omega))
theorem lc_20 (C : lwC p s m args meth c b aK D dA XP false sl sx) (hP : lwP l b aK D dA XP false sl sx) (hW : lwW p l e s m args below meth c Q b aK D dA sl sx) {x : gs} {k B : Nat} {E : DD} (hk5 : 5 * k + 5 ≤ sl) (hsl : sl ≤ 2560) (hk : kc + 1 ≤ 601024) (hs : ks + 6 ≤ 7293034) (hy : HY 1200 x B E) (kk : lwN p l e s m args below meth c Q b aK D dA sl sx k kc ks B) : lwS p l e s m args below meth c Q b aK D dA sl sx x 842 (gLi k) [] kc ks := lw_case C hP hk5 hsl lb_20 (by omega) (by omega) (cl_issue hy _ _) (fun x' h' => kk x' kc ks h' (by omega) (by omega))
theorem lc_21 (C : lwC p s m args meth c b aK D dA XP false sl sx) (hP : lwP l b aK D dA XP false sl sx) (hW : lwW p l e s m args below meth c Q b aK D dA sl sx) {x : gs} {k B : Nat} {E : DD} (hk5 : 5 * k + 5 ≤ sl) (hsl : sl ≤ 2560) (hk : kc + 1 ≤ 601024) (hs : ks + 6 ≤ 7293034) (hy : HY 1200 x B E) (kk : lwN p l e s m args below meth c Q b aK D dA sl sx k kc ks B) : lwS p l e s m args below meth c Q b aK D dA sl sx x 879 (gLi k) [] kc ks := lw_case C hP hk5 hsl lb_21 (by omega) (by omega) (cl_reach hy _) (fun x' h' => kk x' kc ks h' (by omega) (by omega))
theorem lc_22 (C : lwC p s m args meth c b aK D dA XP false sl sx) (hP : lwP l b aK D dA XP false sl sx) (hW : lwW p l e s m args below meth c Q b aK D dA sl sx) {x : gs} {k B : Nat} {E : DD} (hk5 : 5 * k + 5 ≤ sl) (hsl : sl ≤ 2560) (hk : kc + 1 ≤ 601024) (hs : ks + 6 ≤ 7293034) (hy : HY 1200 x B E) (kk : lwN p l e s m args below meth c Q b aK D dA sl sx k kc ks B) : lwS p l e s m args below meth c Q b aK D dA sl sx x 904 (gLi k) [] kc ks := lw_case C hP hk5 hsl lb_22 (by omega) (by omega) (cl_evening hy) (fun x' h' => kk x' kc ks h' (by omega) (by omega))
theorem lc_23 (C : lwC p s m args meth c b aK D dA XP false sl sx) (hP : lwP l b aK D dA XP false sl sx) (hW : lwW p l e s m args below meth c Q b aK D dA sl sx) {x : gs} {k B : Nat} {E : DD} (hk5 : 5 * k + 5 ≤ sl) (hsl : sl ≤ 2560) (hk : kc + 1 ≤ 601024) (hs : ks + 6 ≤ 7293034) (hy : HY 1200 x B E) (kk : lwN p l e s m args below meth c Q b aK D dA sl sx k kc ks B) : lwS p l e s m args below meth c Q b aK D dA sl sx x 917 (gLi k) [] kc ks := lw_case C hP hk5 hsl lb_23 (by omega) (by omega) (cl_lasts hy) (fun x' h' => kk x' kc ks h' (by omega) (by omega))
theorem lc_24 (C : lwC p s m args meth c b aK D dA XP false sl sx) (hP : lwP l b aK D dA XP false sl sx) (hW : lwW p l e s m args below meth c Q b aK D dA sl sx) {x : gs} {k B : Nat} {E : DD} (hk5 : 5 * k + 5 ≤ sl) (hsl : sl ≤ 2560) (hk : kc + 1 ≤ 601024) (hs : ks + 6 ≤ 7293034) (hy : HY 1200 x B E) (kk : lwN p l e s m args below meth c Q b aK D dA sl sx k kc ks B) : lwS p l e s m args below meth c Q b aK D dA sl sx x 930 (gLi k) [] kc ks := lw_case C hP hk5 hsl lb_24 (by omega) (by omega) (cl_feeds hy _) (fun x' h' => kk x' kc ks h' (by omega) (by omega))
theorem lc_25 (C : lwC p s m args meth c b aK D dA XP false sl sx) (hP : lwP l b aK D dA XP false sl sx) (hW : lwW p l e s m args below meth c Q b aK D dA sl sx) {x : gs} {k B : Nat} {E : DD} (hk5 : 5 * k + 5 ≤ sl) (hsl : sl ≤ 2560) (hk : kc + 1 ≤ 601024) (hs : ks + 6 ≤ 7293034) (hy : HY 1200 x B E) (kk : lwN p l e s m args below meth c Q b aK D dA sl sx k kc ks B) : lwS p l e s m args below meth c Q b aK D dA sl sx x 955 (gLi k) [] kc ks := lw_case C hP hk5 hsl lb_25 (by omega) (by omega) (cl_boldness hy _) (fun x' h' => kk x' kc ks h' (by omega) (by omega))
theorem lc_26 (C : lwC p s m args meth c b aK D dA XP false sl sx) (hP : lwP l b aK D dA XP false sl sx) (hW : lwW p l e s m args below meth c Q b aK D dA sl sx) {x : gs} {k B : Nat} {E : DD} (hk5 : 5 * k + 5 ≤ sl) (hsl : sl ≤ 2560) (hk : kc + 1 ≤ 601024) (hs : ks + 6 ≤ 7293034) (hy : HY 1200 x B E) (kk : lwN p l e s m args below meth c Q b aK D dA sl sx k kc ks B) : lwS p l e s m args below meth c Q b aK D dA sl sx x 980 (gLi k) [] kc ks := lw_case C hP hk5 hsl lb_26 (by omega) (by omega) (cl_arrives hy _) (fun x' h' => kk x' kc ks h' (by omega) (by omega))
theorem lc_27 (C : lwC p s m args meth c b aK D dA XP false sl sx) (hP : lwP l b aK D dA XP false sl sx) (hW : lwW p l e s m args below meth c Q b aK D dA sl sx) {x : gs} {k B : Nat} {E : DD} (hk5 : 5 * k + 5 ≤ sl) (hsl : sl ≤ 2560) (hk : kc + 1 ≤ 601024) (hs : ks + 6 ≤ 7293034) (hy : HY 1200 x B E) (kk : lwN p l e s m args below meth c Q b aK D dA sl sx k kc ks B) : lwS p l e s m args below meth c Q b aK D dA sl sx x 1005 (gLi k) [] kc ks := lw_case C hP hk5 hsl lb_27 (by omega) (by omega) (cl_avoids hy _) (fun x' h' => kk x' kc ks h' (by omega) (by omega))
theorem lc_28 (C : lwC p s m args meth c b aK D dA XP false sl sx) (hP : lwP l b aK D dA XP false sl sx) (hW : lwW p l e s m args below meth c Q b aK D dA sl sx) {x : gs} {k B : Nat} {E : DD} (hk5 : 5 * k + 5 ≤ sl) (hsl : sl ≤ 2560) (hk : kc + 1 ≤ 601024) (hs : ks + 6 ≤ 7293034) (hy : HY 1200 x B E) (kk : lwN p l e s m args below meth c Q b aK D dA sl sx k kc ks B) : lwS p l e s m args below meth c Q b aK D dA sl sx x 1030 (gLi k) [] kc ks := lw_case C hP hk5 hsl lb_28 (by omega) (by omega) (cl_safe hy _) (fun x' h' => kk x' kc ks h' (by omega) (by omega))
theorem lc_29 (C : lwC p s m args meth c b aK D dA XP false sl sx) (hP : lwP l b aK D dA XP false sl sx) (hW : lwW p l e s m args below meth c Q b aK D dA sl sx) {x : gs} {k B : Nat} {E : DD} (hk5 : 5 * k + 5 ≤ sl) (hsl : sl ≤ 2560) (hk : kc + 1 ≤ 601024) (hs : ks + 6 ≤ 7293034) (hy : HY 1200 x B E) (kk : lwN p l e s m args below meth c Q b aK D dA sl sx k kc ks B) : lwS p l e s m args below meth c Q b aK D dA sl sx x 1055 (gLi k) [] kc ks := lw_case C hP hk5 hsl lb_29 (by omega) (by omega) (cl_forces hy _) (fun x' h' => kk x' kc ks h' (by omega) (by omega))
theorem lc_30 (C : lwC p s m args meth c b aK D dA XP false sl sx) (hP : lwP l b aK D dA XP false sl sx) (hW : lwW p l e s m args below meth c Q b aK D dA sl sx) {x : gs} {k B : Nat} {E : DD} (hk5 : 5 * k + 5 ≤ sl) (hsl : sl ≤ 2560) (hk : kc + 1 ≤ 601024) (hs : ks + 6 ≤ 7293034) (hy : HY 1200 x B E) (kk : lwN p l e s m args below meth c Q b aK D dA sl sx k kc ks B) : lwS p l e s m args below meth c Q b aK D dA sl sx x 1080 (gLi k) [] kc ks := lw_case C hP hk5 hsl lb_30 (by omega) (by omega) (cl_offers hy _) (fun x' h' => kk x' kc ks h' (by omega) (by omega))
theorem lc_31 (C : lwC p s m args meth c b aK D dA XP false sl sx) (hP : lwP l b aK D dA XP false sl sx) (hW : lwW p l e s m args below meth c Q b aK D dA sl sx) {x : gs} {k B : Nat} {E : DD} (hk5 : 5 * k + 5 ≤ sl) (hsl : sl ≤ 2560) (hk : kc + 1 ≤ 601024) (hs : ks + 6 ≤ 7293034) (hy : HY 1200 x B E) (kk : lwN p l e s m args below meth c Q b aK D dA sl sx k kc ks B) : lwS p l e s m args below meth c Q b aK D dA sl sx x 1105 (gLi k) [] kc ks := lw_case C hP hk5 hsl lb_31 (by omega) (by omega) (cl_bargain hy) (fun x' h' => kk x' kc ks h' (by omega) (by omega))
theorem lc_32 (C : lwC p s m args meth c b aK D dA XP false sl sx) (hP : lwP l b aK D dA XP false sl sx) (hW : lwW p l e s m args below meth c Q b aK D dA sl sx) {x : gs} {k B : Nat} {E : DD} (hk5 : 5 * k + 5 ≤ sl) (hsl : sl ≤ 2560) (hk : kc + 1 ≤ 601024) (hs : ks + 6 ≤ 7293034) (hy : HY 1200 x B E) (kk : lwN p l e s m args below meth c Q b aK D dA sl sx k kc ks B) : lwS p l e s m args below meth c Q b aK D dA sl sx x 1118 (gLi k) [] kc ks := lw_case C hP hk5 hsl lb_32 (by omega) (by omega) (cl_share hy _) (fun x' h' => kk x' kc ks h' (by omega) (by omega))
theorem lc_33 (C : lwC p s m args meth c b aK D dA XP false sl sx) (hP : lwP l b aK D dA XP false sl sx) (hW : lwW p l e s m args below meth c Q b aK D dA sl sx) {x : gs} {k B : Nat} {E : DD} (hk5 : 5 * k + 5 ≤ sl) (hsl : sl ≤ 2560) (hk : kc + 1 ≤ 601024) (hs : ks + 6 ≤ 7293034) (hy : HY 1200 x B E) (kk : lwN p l e s m args below meth c Q b aK D dA sl sx k kc ks B) : lwS p l e s m args below meth c Q b aK D dA sl sx x 1143 (gLi k) [] kc ks := lw_case C hP hk5 hsl lb_33 (by omega) (by omega) (cl_command hy _) (fun x' h' => kk x' kc ks h' (by omega) (by omega))
theorem lc_34 (C : lwC p s m args meth c b aK D dA XP false sl sx) (hP : lwP l b aK D dA XP false sl sx) (hW : lwW p l e s m args below meth c Q b aK D dA sl sx) {x : gs} {k B : Nat} {E : DD} (hk5 : 5 * k + 5 ≤ sl) (hsl : sl ≤ 2560) (hk : kc + 1 ≤ 601024) (hs : ks + 6 ≤ 7293034) (hy : HY 1200 x B E) (kk : lwN p l e s m args below meth c Q b aK D dA sl sx k kc ks B) : lwS p l e s m args below meth c Q b aK D dA sl sx x 1168 (gLi k) [] kc ks := lw_case C hP hk5 hsl lb_34 (by omega) (by omega) (cl_halves hy) (fun x' h' => kk x' kc ks h' (by omega) (by omega))
theorem lc_35 (C : lwC p s m args meth c b aK D dA XP false sl sx) (hP : lwP l b aK D dA XP false sl sx) (hW : lwW p l e s m args below meth c Q b aK D dA sl sx) {x : gs} {k B : Nat} {E : DD} (hk5 : 5 * k + 5 ≤ sl) (hsl : sl ≤ 2560) (hk : kc + 1 ≤ 601024) (hs : ks + 6 ≤ 7293034) (hy : HY 1200 x B E) (kk : lwN p l e s m args below meth c Q b aK D dA sl sx k kc ks B) : lwS p l e s m args below meth c Q b aK D dA sl sx x 1181 (gLi k) [] kc ks := lw_case C hP hk5 hsl lb_35 (by omega) (by omega) (cl_seen hy _ _) (fun x' h' => kk x' kc ks h' (by omega) (by omega))
theorem lc_36 (C : lwC p s m args meth c b aK D dA XP false sl sx) (hP : lwP l b aK D dA XP false sl sx) (hW : lwW p l e s m args below meth c Q b aK D dA sl sx) {x : gs} {k B : Nat} {E : DD} (hk5 : 5 * k + 5 ≤ sl) (hsl : sl ≤ 2560) (hk : kc + 1 ≤ 601024) (hs : ks + 6 ≤ 7293034) (hy : HY 1200 x B E) (kk : lwN p l e s m args below meth c Q b aK D dA sl sx k kc ks B) : lwS p l e s m args below meth c Q b aK D dA sl sx x 1218 (gLi k) [] kc ks := lw_case C hP hk5 hsl lb_36 (by omega) (by omega) (cl_forget hy) (fun x' h' => kk x' kc ks h' (by omega) (by omega))
theorem lc_37 (C : lwC p s m args meth c b aK D dA XP false sl sx) (hP : lwP l b aK D dA XP false sl sx) (hW : lwW p l e s m args below meth c Q b aK D dA sl sx) {x : gs} {k B : Nat} {E : DD} (hk5 : 5 * k + 5 ≤ sl) (hsl : sl ≤ 2560) (hk : kc + 1 ≤ 601024) (hs : ks + 6 ≤ 7293034) (hy : HY 1200 x B E) (kk : lwN p l e s m args below meth c Q b aK D dA sl sx k kc ks B) : lwS p l e s m args below meth c Q b aK D dA sl sx x 1231 (gLi k) [] kc ks := lw_case C hP hk5 hsl lb_37 (by omega) (by omega) (cl_was hy _ _) (fun x' h' => kk x' kc ks h' (by omega) (by omega))
theorem lc_38 (C : lwC p s m args meth c b aK D dA XP false sl sx) (hP : lwP l b aK D dA XP false sl sx) (hW : lwW p l e s m args below meth c Q b aK D dA sl sx) {x : gs} {k B : Nat} {E : DD} (hk5 : 5 * k + 5 ≤ sl) (hsl : sl ≤ 2560) (hk : kc + 1 ≤ 601024) (hs : ks + 6 ≤ 7293034) (hy : HY 1200 x B E) (kk : lwN p l e s m args below meth c Q b aK D dA sl sx k kc ks B) : lwS p l e s m args below meth c Q b aK D dA sl sx x 1268 (gLi k) [] kc ks := lw_case C hP hk5 hsl lb_38 (by omega) (by omega) (cl_sure hy _ _) (fun x' h' => kk x' kc ks h' (by omega) (by omega))
theorem lc_39 (C : lwC p s m args meth c b aK D dA XP false sl sx) (hP : lwP l b aK D dA XP false sl sx) (hW : lwW p l e s m args below meth c Q b aK D dA sl sx) {x : gs} {k B : Nat} {E : DD} (hk5 : 5 * k + 5 ≤ sl) (hsl : sl ≤ 2560) (hk : kc + 1 ≤ 601024) (hs : ks + 6 ≤ 7293034) (hy : HY 1200 x B E) (kk : lwN p l e s m args below meth c Q b aK D dA sl sx k kc ks B) : lwS p l e s m args below meth c Q b aK D dA sl sx x 1305 (gLi k) [] kc ks := lw_case C hP hk5 hsl lb_39 (by omega) (by omega) (cl_ask hy _ _) (fun x' h' => kk x' kc ks h' (by omega) (by omega))
theorem lc_40 (C : lwC p s m args meth c b aK D dA XP false sl sx) (hP : lwP l b aK D dA XP false sl sx) (hW : lwW p l e s m args below meth c Q b aK D dA sl sx) {x : gs} {k B : Nat} {E : DD} (hk5 : 5 * k + 5 ≤ sl) (hsl : sl ≤ 2560) (hk : kc + 1 ≤ 601024) (hs : ks + 6 ≤ 7293034) (hy : HY 1200 x B E) (kk : lwN p l e s m args below meth c Q b aK D dA sl sx k kc ks B) : lwS p l e s m args below meth c Q b aK D dA sl sx x 1342 (gLi k) [] kc ks := lw_case C hP hk5 hsl lb_40 (by omega) (by omega) (cl_rain hy _ _) (fun x' h' => kk x' kc ks h' (by omega) (by omega))
theorem lc_41 (C : lwC p s m args meth c b aK D dA XP false sl sx) (hP : lwP l b aK D dA XP false sl sx) (hW : lwW p l e s m args below meth c Q b aK D dA sl sx) {x : gs} {k B : Nat} {E : DD} (hk5 : 5 * k + 5 ≤ sl) (hsl : sl ≤ 2560) (hk : kc + 1 ≤ 601024) (hs : ks + 6 ≤ 7293034) (hy : HY 1200 x B E) (kk : lwN p l e s m args below meth c Q b aK D dA sl sx k kc ks B) : lwS p l e s m args below meth c Q b aK D dA sl sx x 1379 (gLi k) [] kc ks := lw_case C hP hk5 hsl lb_41 (by omega) (by omega) (cl_stops hy _ _) (fun x' h' => kk x' kc ks h' (by omega) (by omega))
theorem lc_42 (C : lwC p s m args meth c b aK D dA XP false sl sx) (hP : lwP l b aK D dA XP false sl sx) (hW : lwW p l e s m args below meth c Q b aK D dA sl sx) {x : gs} {k B : Nat} {E : DD} (hk5 : 5 * k + 5 ≤ sl) (hsl : sl ≤ 2560) (hk : kc + 1 ≤ 601024) (hs : ks + 6 ≤ 7293034) (hy : HY 1200 x B E) (kk : lwN p l e s m args below meth c Q b aK D dA sl sx k kc ks B) : lwS p l e s m args below meth c Q b aK D dA sl sx x 1416 (gLi k) [] kc ks := lw_case C hP hk5 hsl lb_42 (by omega) (by omega) (cl_rests hy) (fun x' h' => kk x' kc ks h' (by omega) (by omega))
theorem lc_43 (C : lwC p s m args meth c b aK D dA XP false sl sx) (hP : lwP l b aK D dA XP false sl sx) (hW : lwW p l e s m args below meth c Q b aK D dA sl sx) {x : gs} {k B : Nat} {E : DD} (hk5 : 5 * k + 5 ≤ sl) (hsl : sl ≤ 2560) (hk : kc + 1 ≤ 601024) (hs : ks + 6 ≤ 7293034) (hy : HY 1200 x B E) (kk : lwN p l e s m args below meth c Q b aK D dA sl sx k kc ks B) : lwS p l e s m args below meth c Q b aK D dA sl sx x 1429 (gLi k) [] kc ks := lw_case C hP hk5 hsl lb_43 (by omega) (by omega) (cl_years hy _ _) (fun x' h' => kk x' kc ks h' (by omega) (by omega))
theorem lc_44 (C : lwC p s m args meth c b aK D dA XP false sl sx) (hP : lwP l b aK D dA XP false sl sx) (hW : lwW p l e s m args below meth c Q b aK D dA sl sx) {x : gs} {k B : Nat} {E : DD} (hk5 : 5 * k + 5 ≤ sl) (hsl : sl ≤ 2560) (hk : kc + 1 ≤ 601024) (hs : ks + 6 ≤ 7293034) (hy : HY 1200 x B E) (kk : lwN p l e s m args below meth c Q b aK D dA sl sx k kc ks B) : lwS p l e s m args below meth c Q b aK D dA sl sx x 1466 (gLi k) [] kc ks := lw_case C hP hk5 hsl lb_44 (by omega) (by omega) (cl_keep hy _) (fun x' h' => kk x' kc ks h' (by omega) (by omega))
theorem lc_45 (C : lwC p s m args meth c b aK D dA XP false sl sx) (hP : lwP l b aK D dA XP false sl sx) (hW : lwW p l e s m args below meth c Q b aK D dA sl sx) {x : gs} {k B : Nat} {E : DD} (hk5 : 5 * k + 5 ≤ sl) (hsl : sl ≤ 2560) (hk : kc + 1 ≤ 601024) (hs : ks + 6 ≤ 7293034) (hy : HY 1200 x B E) (kk : lwN p l e s m args below meth c Q b aK D dA sl sx k kc ks B) : lwS p l e s m args below meth c Q b aK D dA sl sx x 1491 (gLi k) [] kc ks := lw_case C hP hk5 hsl lb_45 (by omega) (by omega) (cl_again hy _) (fun x' h' => kk x' kc ks h' (by omega) (by omega))
theorem lc_46 (C : lwC p s m args meth c b aK D dA XP false sl sx) (hP : lwP l b aK D dA XP false sl sx) (hW : lwW p l e s m args below meth c Q b aK D dA sl sx) {x : gs} {k B : Nat} {E : DD} (hk5 : 5 * k + 5 ≤ sl) (hsl : sl ≤ 2560) (hk : kc + 1 ≤ 601024) (hs : ks + 6 ≤ 7293034) (hy : HY 1200 x B E) (kk : lwN p l e s m args below meth c Q b aK D dA sl sx k kc ks B) : lwS p l e s m args below meth c Q b aK D dA sl sx x 1516 (gLi k) [] kc ks := lw_case C hP hk5 hsl lb_46 (by omega) (by omega) (cl_count hy _) (fun x' h' => kk x' kc ks h' (by omega) (by omega))
theorem lc_47 (C : lwC p s m args meth c b aK D dA XP false sl sx) (hP : lwP l b aK D dA XP false sl sx) (hW : lwW p l e s m args below meth c Q b aK D dA sl sx) {x : gs} {k B : Nat} {E : DD} (hk5 : 5 * k + 5 ≤ sl) (hsl : sl ≤ 2560) (hk : kc + 1 ≤ 601024) (hs : ks + 6 ≤ 7293034) (hy : HY 1200 x B E) (kk : lwN p l e s m args below meth c Q b aK D dA sl sx k kc ks B) : lwS p l e s m args below meth c Q b aK D dA sl sx x 1541 (gLi k) [] kc ks := lw_crow C hP hW hk5 hsl hk hs hy kk
/-- the switch -/
theorem lw_switch (C : lwC p s m args meth c b aK D dA XP false sl sx) (hP : lwP l b aK D dA XP false sl sx) (hW : lwW p l e s m args below meth c Q b aK D dA sl sx) {x : gs} {k B n : Nat} {E : DD} (hn : n < 64) (hk5 : 5 * k + 5 ≤ sl) (hsl : sl ≤ 2560) (hk : kc + 1 ≤ 601024) (hs : ks + 6 ≤ 7293034) (hy : HY 1200 x B E) (kk : lwN p l e s m args below meth c Q b aK D dA sl sx k kc ks B) : lwS p l e s m args below meth c Q b aK D dA sl sx x 39 (gLi k) [.int (nI n)] kc ks := by
  have f39 : gm_find gk_900 39 = some (lw39, 0, 0) := by decide +kernel
  have g : ∀ n t, lwT n = some t → lwS p l e s m args below meth c Q b aK D dA sl sx x t (gLi k) [] kc ks → lwS p l e s m args below meth c Q b aK D dA sl sx x 39 (gLi k) [.int (nI n)] kc ks := fun n t e1 k1 h hR => lk_step C f39 (st' := (t, gLi k, [], h)) (lwT_ok e1) (by omega) (by omega) (k1 h hR)
  have hD : lwS p l e s m args below meth c Q b aK D dA sl sx x 1596 (gLi k) [] kc ks := kk x kc ks ⟨E, hy.2.1, hy.2.2.1, VD_mono hy.2.2.2.1 (by omega)⟩ (by omega) (by omega)
  match n, hn with
  | 0, _ => exact g 0 244 rfl (lc_0 C hP hW hk5 hsl hk hs hy kk)
  | 1, _ => exact g 1 269 rfl (lc_1 C hP hW hk5 hsl hk hs hy kk)
  | 2, _ => exact g 2 294 rfl (lc_2 C hP hW hk5 hsl hk hs hy kk)
  | 3, _ => exact g 3 307 rfl (lc_3 C hP hW hk5 hsl hk hs hy kk)
  | 4, _ => exact g 4 332 rfl (lc_4 C hP hW hk5 hsl hk hs hy kk)
  | 5, _ => exact g 5 345 rfl (lc_5 C hP hW hk5 hsl hk hs hy kk)
  | 6, _ => exact g 6 413 rfl (lc_6 C hP hW hk5 hsl hk hs hy kk)
  | 7, _ => exact g 7 481 rfl (lc_7 C hP hW hk5 hsl hk hs hy kk)
  | 8, _ => exact g 8 530 rfl (lc_8 C hP hW hk5 hsl hk hs hy kk)
  | 9, _ => exact g 9 591 rfl (lc_9 C hP hW hk5 hsl hk hs hy kk)
  | 10, _ => exact g 10 604 rfl (lc_10 C hP hW hk5 hsl hk hs hy kk)
  | 11, _ => exact g 11 629 rfl (lc_11 C hP hW hk5 hsl hk hs hy kk)
  | 12, _ => exact g 12 642 rfl (lc_12 C hP hW hk5 hsl hk hs hy kk)
  | 13, _ => exact g 13 655 rfl (lc_13 C hP hW hk5 hsl hk hs hy kk)
  | 14, _ => exact g 14 680 rfl (lc_14 C hP hW hk5 hsl hk hs hy kk)
  | 15, _ => exact g 15 717 rfl (lc_15 C hP hW hk5 hsl hk hs hy kk)
  | 16, _ => exact g 16 742 rfl (lc_16 C hP hW hk5 hsl hk hs hy kk)
  | 17, _ => exact g 17 779 rfl (lc_17 C hP hW hk5 hsl hk hs hy kk)
  | 18, _ => exact g 18 792 rfl (lc_18 C hP hW hk5 hsl hk hs hy kk)
  | 19, _ => exact g 19 805 rfl (lc_19 C hP hW hk5 hsl hk hs hy kk)
  | 20, _ => exact g 20 842 rfl (lc_20 C hP hW hk5 hsl hk hs hy kk)
  | 21, _ => exact g 21 879 rfl (lc_21 C hP hW hk5 hsl hk hs hy kk)
  | 22, _ => exact g 22 904 rfl (lc_22 C hP hW hk5 hsl hk hs hy kk)
  | 23, _ => exact g 23 917 rfl (lc_23 C hP hW hk5 hsl hk hs hy kk)
  | 24, _ => exact g 24 930 rfl (lc_24 C hP hW hk5 hsl hk hs hy kk)
  | 25, _ => exact g 25 955 rfl (lc_25 C hP hW hk5 hsl hk hs hy kk)
  | 26, _ => exact g 26 980 rfl (lc_26 C hP hW hk5 hsl hk hs hy kk)
  | 27, _ => exact g 27 1005 rfl (lc_27 C hP hW hk5 hsl hk hs hy kk)
  | 28, _ => exact g 28 1030 rfl (lc_28 C hP hW hk5 hsl hk hs hy kk)
  | 29, _ => exact g 29 1055 rfl (lc_29 C hP hW hk5 hsl hk hs hy kk)
  | 30, _ => exact g 30 1080 rfl (lc_30 C hP hW hk5 hsl hk hs hy kk)
  | 31, _ => exact g 31 1105 rfl (lc_31 C hP hW hk5 hsl hk hs hy kk)
  | 32, _ => exact g 32 1118 rfl (lc_32 C hP hW hk5 hsl hk hs hy kk)
  | 33, _ => exact g 33 1143 rfl (lc_33 C hP hW hk5 hsl hk hs hy kk)
  | 34, _ => exact g 34 1168 rfl (lc_34 C hP hW hk5 hsl hk hs hy kk)
  | 35, _ => exact g 35 1181 rfl (lc_35 C hP hW hk5 hsl hk hs hy kk)
  | 36, _ => exact g 36 1218 rfl (lc_36 C hP hW hk5 hsl hk hs hy kk)
  | 37, _ => exact g 37 1231 rfl (lc_37 C hP hW hk5 hsl hk hs hy kk)
  | 38, _ => exact g 38 1268 rfl (lc_38 C hP hW hk5 hsl hk hs hy kk)
  | 39, _ => exact g 39 1305 rfl (lc_39 C hP hW hk5 hsl hk hs hy kk)
  | 40, _ => exact g 40 1342 rfl (lc_40 C hP hW hk5 hsl hk hs hy kk)
  | 41, _ => exact g 41 1379 rfl (lc_41 C hP hW hk5 hsl hk hs hy kk)
  | 42, _ => exact g 42 1416 rfl (lc_42 C hP hW hk5 hsl hk hs hy kk)
  | 43, _ => exact g 43 1429 rfl (lc_43 C hP hW hk5 hsl hk hs hy kk)
  | 44, _ => exact g 44 1466 rfl (lc_44 C hP hW hk5 hsl hk hs hy kk)
  | 45, _ => exact g 45 1491 rfl (lc_45 C hP hW hk5 hsl hk hs hy kk)
  | 46, _ => exact g 46 1516 rfl (lc_46 C hP hW hk5 hsl hk hs hy kk)
  | 47, _ => exact g 47 1541 rfl (lc_47 C hP hW hk5 hsl hk hs hy kk)
  | 48, _ => exact g 48 1596 rfl hD
  | 49, _ => exact g 49 1596 rfl hD
  | 50, _ => exact g 50 1596 rfl hD
  | 51, _ => exact g 51 1596 rfl hD
  | 52, _ => exact g 52 1596 rfl hD
  | 53, _ => exact g 53 1596 rfl hD
  | 54, _ => exact g 54 1596 rfl hD
  | 55, _ => exact g 55 1596 rfl hD
  | 56, _ => exact g 56 1596 rfl hD
  | 57, _ => exact g 57 1596 rfl hD
  | 58, _ => exact g 58 1596 rfl hD
  | 59, _ => exact g 59 1596 rfl hD
  | 60, _ => exact g 60 1596 rfl hD
  | 61, _ => exact g 61 1596 rfl hD
  | 62, _ => exact g 62 1596 rfl hD
  | 63, _ => exact g 63 1596 rfl hD
  | n + 64, z => omega
theorem lw_loop (C : lwC p s m args meth c b aK D dA XP false sl sx) (hP : lwP l b aK D dA XP false sl sx) (hW : lwW p l e s m args below meth c Q b aK D dA sl sx) (hsl : sl ≤ 2560) (fin : ∀ (x : gs) (k kc ks : Nat), kc ≤ 601024 → ks ≤ 7293034 → lwS p l e s m args below meth c Q b aK D dA sl sx x 1603 (gLi k) [.int 1] kc ks) :
    ∀ (n k kc ks : Nat) (x : gs), sl ≤ 5 * k + 5 * n → 5 * k ≤ sl → OK2 (60 * k) x → kc ≤ 100 + 10 * k → ks ≤ 10000 + 100 * k → lwS p l e s m args below meth c Q b aK D dA sl sx x 23 (gLi k) [] kc ks := by
  have hd : ∀ (k kc ks : Nat) (x : gs) (st' : Nat), 5 * k ≤ sl → (if nI sl - 5 < nI (5 * k) then st' = 1602 else st' = 32) → kc ≤ 601024 → ks ≤ 7293034 → lwS p l e s m args below meth c Q b aK D dA sl sx x st' (gLi k) [] kc ks → lwS p l e s m args below meth c Q b aK D dA sl sx x 23 (gLi k) [] kc ks := by
    intro k kc ks x st' h5 ht hk hs k1 h hR
    have f23 : gm_find gk_900 23 = some (.iload 4, 0, 0) := by decide +kernel
    have f25 : gm_find gk_900 25 = some (.aload_n 0, 0, 0) := by decide +kernel
    have f26 : gm_find gk_900 26 = some (.arraylength, 0, 0) := by decide +kernel
    have f27 : gm_find gk_900 27 = some (.iconst 5, 0, 0) := by decide +kernel
    have f28 : gm_find gk_900 28 = some (.isub, 0, 0) := by decide +kernel
    have f29 : gm_find gk_900 29 = some (.if_icmp .gt 1573, 1602, 0) := by decide +kernel
    refine lk_step C f23 (st' := (25, gLi k, [.int (nI (5 * k))], h)) rfl hk hs ?_
    refine lk_step C f25 (st' := (26, gLi k, [.float 99, .int (nI (5 * k))], h)) rfl hk hs ?_
    refine lk_step C f26 (st' := (27, gLi k, [.int (nI sl), .int (nI (5 * k))], h)) rfl hk hs ?_
    refine lk_step C f27 (st' := (28, gLi k, [.int 5, .int (nI sl), .int (nI (5 * k))], h)) rfl hk hs ?_
    refine lk_step C f28 (st' := (29, gLi k, [.int (nI sl - 5), .int (nI (5 * k))], h)) rfl hk hs ?_
    refine lk_step C f29 (st' := (st', gLi k, [], h)) ?_ hk hs (k1 h hR)
    show (if nI sl - 5 < nI (5 * k) then gm_nx 1602 (gLi k) [] h else gm_nx (29 + 3) (gLi k) [] h) = _
    by_cases q : nI sl - 5 < nI (5 * k)
    · rw [if_pos q] at ht ⊢
      rw [ht]
      rfl
    · rw [if_neg q] at ht ⊢
      rw [ht]
      rfl
  have hlt : ∀ k, 5 * k ≤ sl → (nI sl - 5 < nI (5 * k) ↔ sl < 5 * k + 5) := by
    intro k h5
    have e5 : (5 : Int32).toInt = 5 := rfl
    rw [i_lt, Int32.toInt_sub, nI_toInt (by omega), nI_toInt (by omega), e5, Int.bmod_eq_of_le (by omega) (by omega)]
    omega
  have hex : ∀ (k kc ks : Nat) (x : gs), 5 * k ≤ sl → sl < 5 * k + 5 → kc ≤ 601024 → ks ≤ 7293034 → lwS p l e s m args below meth c Q b aK D dA sl sx x 23 (gLi k) [] kc ks := by
    intro k kc ks x h5 h6 hk hs
    refine hd k kc ks x 1602 h5 (by rw [if_pos ((hlt k h5).mpr h6)]) hk hs ?_
    intro h hR
    have f : gm_find gk_900 1602 = some (.iconst 1, 0, 0) := by decide +kernel
    exact lk_step C f (st' := (1603, gLi k, [.int 1], h)) rfl hk hs (fin x k kc ks hk hs h hR)
  intro n
  induction n with
  | zero =>
    intro k kc ks x h1 h2 h3 h4 h5
    exact hex k kc ks x h2 (by omega) (by omega) (by omega)
  | succ n ih =>
    intro k kc ks x h1 h2 h3 h4 h5
    by_cases q : sl < 5 * k + 5
    · exact hex k kc ks x h2 q (by omega) (by omega)
    · have hk : kc + 1 ≤ 601024 := by omega
      have hs : ks + 6 ≤ 7293034 := by omega
      have hk0 : kc ≤ 601024 := by omega
      have hs0 : ks ≤ 7293034 := by omega
      refine hd k kc ks x 32 h2 (by rw [if_neg (fun z => q ((hlt k h2).mp z))]) hk0 hs0 ?_
      obtain ⟨E, hX, hM, hv⟩ := h3
      obtain ⟨i, hi, ei⟩ := and63 (sx (5 * k))
      have f32 : gm_find gk_900 32 = some (.aload_n 0, 0, 0) := by decide +kernel
      have f33 : gm_find gk_900 33 = some (.iload 4, 0, 0) := by decide +kernel
      have f35 : gm_find gk_900 35 = some (.iaload, 0, 0) := by decide +kernel
      have f36 : gm_find gk_900 36 = some (.bipush 63, 0, 0) := by decide +kernel
      have f38 : gm_find gk_900 38 = some (.iand, 0, 0) := by decide +kernel
      have f1596 : gm_find gk_900 1596 = some (.iinc 4 5, 0, 0) := by decide +kernel
      have f1599 : gm_find gk_900 1599 = some (.goto (-1576), 23, 0) := by decide +kernel
      intro h hR
      refine lk_step C f32 (st' := (33, gLi k, [.float 99], h)) rfl hk0 hs0 ?_
      refine lk_step C f33 (st' := (35, gLi k, [.int (nI (5 * k)), .float 99], h)) rfl hk0 hs0 ?_
      refine lk_step C f35 (st' := (36, gLi k, [.int (sx (5 * k))], h)) ?_ hk0 hs0 ?_
      · show (if (99 : UInt32) = 99 ∧ (0 : Nat) = 0 then (if nI (5 * k) < 0 ∨ sl ≤ (nI (5 * k)).toNatClampNeg then none else gm_nx (35 + 1) (gLi k) (.int (sx (nI (5 * k)).toNatClampNeg) :: []) h) else none) = _
        rw [if_pos ⟨rfl, rfl⟩, nI_clamp (by omega), if_neg (fun z => z.elim (fun w => nI_pos (by omega) w) (fun w => by omega))]
        rfl
      refine lk_step C f36 (st' := (38, gLi k, [.int 63, .int (sx (5 * k))], h)) rfl hk0 hs0 ?_
      refine lk_step C f38 (st' := (39, gLi k, [.int (nI i)], h)) ?_ hk0 hs0 ?_
      · show gm_nx (38 + 1) (gLi k) [.int (sx (5 * k) &&& 63)] h = _
        rw [ei]
        rfl
      refine lw_switch C hP hW hi (by omega) hsl hk hs (B := 60 * k) (E := E) ⟨by decide, hX, hM, hv, by omega⟩ ?_ h hR
      intro x' kc' ks' ho hk' hs' h' hR'
      have hk2 : kc' ≤ 601024 := by omega
      have hs2 : ks' ≤ 7293034 := by omega
      refine lk_step C f1596 (st' := (1599, gLi (k + 1), [], h')) ?_ hk2 hs2 ?_
      · show gm_nx (1596 + 3) [some (.float 99), some (.ref 0), some (.ref 48), some (.ref 73), some (.int (nI (5 * k) + nI 5)), none, none, none] [] h' = _
        rw [nI_add]
        rfl
      refine lk_step C f1599 (st' := (23, gLi (k + 1), [], h')) rfl hk2 hs2 ?_
      exact ih (k + 1) kc' ks' x' (by omega) (by omega) (by rw [show 60 * (k + 1) = 60 * k + 60 by omega]; exact ho) (by omega) (by omega) h' hR'
end LAW

