/-! A program that decides, for an entry of a code table, that bytes and words say it. -/
def gm_dcb (bs : ByteArray) (pc : Nat) (ig : Instr) : Bool := match decode bs pc with
  | .ok (i, n) => decide (i = ig) && (match ig with
    | .tableswitch _ _ _ _ => true
    | .lookupswitch _ ps => (ps.toList.zip (ps.toList.drop 1)).all (fun (a, next) => a.1 < next.1)
    | _ => Nat.beq n (gm_len ig))
  | .error _ => false
theorem gm_dcb_ok {bs : ByteArray} {pc : Nat} {ig : Instr} (h : gm_dcb bs pc ig = true) : gm_dc bs pc ig := by
  unfold gm_dcb at h
  cases hd : decode bs pc with
  | error x => rw [hd] at h; cases h
  | ok q =>
    obtain ⟨i, n⟩ := q
    rw [hd] at h
    have h' : (decide (i = ig) && (match (generalizing := false) ig with
      | .tableswitch _ _ _ _ => true
      | .lookupswitch _ ps => (ps.toList.zip (ps.toList.drop 1)).all (fun (a, next) => a.1 < next.1)
      | _ => Nat.beq n (gm_len ig))) = true := h
    simp only [Bool.and_eq_true, decide_eq_true_eq] at h'
    obtain ⟨rfl, h2⟩ := h'
    cases i <;> first
      | (have h3 := Nat.eq_of_beq_eq_true h2; rw [h3] at hd; exact hd)
      | exact ⟨n, hd⟩
      | exact ⟨⟨n, hd⟩, h2⟩
def gm_isI0 (j : Nat) : Bool := decide ((gt_y j).name = "<init>")
def gFk : List (Nat × Nat × Nat × Nat) := gF.map fun q => (q.1, q.2.1, q.2.2.1, q.2.2.2.1)
def gMk : List (Nat × Nat × Nat) := gM.map fun q => (q.1, q.2.1, q.2.2.1)
def gNk : List (Nat × Nat × Nat) := gN.map fun q => (q.1, q.2.1, q.2.2.1)
def gKk : List (Nat × Nat × Nat) := gK.map fun q => (q.1, q.2.1, q.2.2.1)
def gLk : List (Nat × Nat × Nat) := gL.map fun q => (q.1, q.2.1, q.2.2.1)
def gSk : List (Nat × Nat × Nat) := gS.map fun q => (q.1, q.2.1, q.2.2.1)
def gTk : List (Nat × Nat × Nat) := gNt.map fun q => (q.1, q.2.1, q.2.2.1)
def gOk : List (Nat × Nat) := gO.map fun q => (q.1, q.2.1)
def gXk : List Nat := gX.map fun q => q.1
def gm_eq3 (a b : Nat × Nat × Nat) : Bool := Nat.beq a.1 b.1 && (Nat.beq a.2.1 b.2.1 && Nat.beq a.2.2 b.2.2)
def gm_eq4 (a b : Nat × Nat × Nat × Nat) : Bool := Nat.beq a.1 b.1 && gm_eq3 a.2 b.2
theorem gm_eq3_of {a b : Nat × Nat × Nat} (h : gm_eq3 a b = true) : a = b := by
  unfold gm_eq3 at h
  simp only [Bool.and_eq_true] at h
  obtain ⟨h1, h2, h3⟩ := h
  obtain ⟨a1, a2, a3⟩ := a
  obtain ⟨b1, b2, b3⟩ := b
  cases Nat.eq_of_beq_eq_true h1
  cases Nat.eq_of_beq_eq_true h2
  cases Nat.eq_of_beq_eq_true h3
  rfl
def gm_has3 (l : List (Nat × Nat × Nat)) (a : Nat × Nat × Nat) : Bool := l.any fun q => gm_eq3 q a
def gm_has4 (l : List (Nat × Nat × Nat × Nat)) (a : Nat × Nat × Nat × Nat) : Bool := l.any fun q => gm_eq4 q a
theorem gm_has3_of {l : List (Nat × Nat × Nat)} {a : Nat × Nat × Nat} (h : gm_has3 l a = true) : a ∈ l := by
  obtain ⟨q, h1, h2⟩ := List.any_eq_true.mp h
  rw [← gm_eq3_of h2]
  exact h1
theorem gm_has4_of {l : List (Nat × Nat × Nat × Nat)} {a : Nat × Nat × Nat × Nat} (h : gm_has4 l a = true) : a ∈ l := by
  obtain ⟨q, h1, h2⟩ := List.any_eq_true.mp h
  unfold gm_eq4 at h2
  simp only [Bool.and_eq_true] at h2
  obtain ⟨a1, a2⟩ := a
  obtain ⟨q1, q2⟩ := q
  have e1 : q1 = a1 := Nat.eq_of_beq_eq_true h2.1
  have e2 : q2 = a2 := gm_eq3_of h2.2
  rw [← e1, ← e2]
  exact h1
def gm_lkb (own : Nat) (isI : Bool) (pc : Nat) (i : gm_I) : Bool := match i.1 with
  | .ldc idx => (Nat.beq i.2.2 0 && gm_has3 gKk (own, idx, i.2.1)) || (Nat.beq i.2.2 2 && (Nat.blt i.2.1 99 && gm_has3 gSk (own, idx, i.2.1)))
  | .ldc_w idx => gm_has3 gKk (own, idx, i.2.1)
  | .ldc2_w idx => gm_has3 gLk (own, idx, i.2.1)
  | .goto off => decide ((pc : Int) + off = (i.2.1 : Int))
  | .if_icmp _ off => decide ((pc : Int) + off = (i.2.1 : Int))
  | .ifCond _ off => decide ((pc : Int) + off = (i.2.1 : Int))
  | .getfield idx => gm_has4 gFk (own, idx, i.2.1, i.2.2)
  | .putfield idx => gm_has4 gFk (own, idx, i.2.1, i.2.2) && (!(gt_TT i.2.1 i.2.2).2.2.2 || (isI && decide ((gt_TT i.2.1 i.2.2).1 = gt_own.getD own "")))
  | .new idx => gm_has3 gNk (own, idx, i.2.1)
  | .newarray at_ => (gm_kind at_).isSome
  | .anewarray idx => gm_has3 gNk (own, idx, 6)
  | .invokestatic idx => gm_has3 gMk (own, idx, i.2.1) && (Nat.beq (gt_d i.2.1).2.2.2.1 0 || Nat.ble 5 (gt_d i.2.1).2.2.2.1) && gXk.any (Nat.beq i.2.1)
  | .invokevirtual idx => gm_has3 gMk (own, idx, i.2.1) && (Nat.beq (gt_d i.2.1).2.2.2.1 1 || Nat.beq (gt_d i.2.1).2.2.2.1 3) && gXk.any (Nat.beq i.2.1)
  | .invokespecial idx => (Nat.beq i.2.1 999 && gOk.any (fun q => Nat.beq q.1 own && Nat.beq q.2 idx)) || ((gm_has3 gMk (own, idx, i.2.1) || gm_has3 gTk (own, idx, i.2.1)) && Nat.beq (gt_d i.2.1).2.2.2.1 2 && gXk.any (Nat.beq i.2.1))
  | _ => true
def gm_chk (own : Nat) (isI : Bool) (bs : ByteArray) (k : gm_Kt) : Bool := k.all fun q => q.2.all fun en => gm_dcb bs en.1 en.2.1 && gm_lkb own isI en.1 en.2
def gm_chkj (j : Nat) : Bool := match gX[j]? with
  | some q => Nat.blt q.2.1 14 && gm_chk q.2.1 (gm_isI0 j) (gt_b j) (gt_k j)
  | none => false
theorem gm_find_in : ∀ (k : gm_Kt) (pc : Nat) (i : gm_I), gm_find k pc = some i → ∃ q ∈ k, (pc, i) ∈ q.2
  | [], _, _, h => by cases h
  | (n, l) :: t, pc, i, h => by
    have h' : (bif Nat.ble pc n then gm_in l pc else gm_find t pc) = some i := h
    cases hb : Nat.ble pc n with
    | true =>
      rw [hb] at h'
      refine ⟨(n, l), List.mem_cons_self, ?_⟩
      have go : ∀ l : List (Nat × gm_I), gm_in l pc = some i → (pc, i) ∈ l := by
        intro l
        induction l with
        | nil => intro h; cases h
        | cons e t ih =>
          intro h
          have h2 : (bif Nat.beq e.1 pc then some e.2 else gm_in t pc) = some i := h
          cases he : Nat.beq e.1 pc with
          | true =>
            rw [he] at h2
            cases h2
            rw [← Nat.eq_of_beq_eq_true he]
            exact List.mem_cons_self
          | false =>
            rw [he] at h2
            exact List.mem_cons_of_mem _ (ih h2)
      exact go l h'
    | false =>
      rw [hb] at h'
      obtain ⟨q, h1, h2⟩ := gm_find_in t pc i h'
      exact ⟨q, List.mem_cons_of_mem _ h1, h2⟩
theorem gm_any_of {l : List Nat} {a : Nat} (h : l.any (Nat.beq a) = true) : a ∈ l := by
  obtain ⟨q, h1, h2⟩ := List.any_eq_true.mp h
  rw [Nat.eq_of_beq_eq_true h2]
  exact h1
section LK
variable {al : Bool} {sl : Nat} {sx : Nat → Int32}
theorem gt_clsok {ci : Nat} (h : ci < 11) : gm_cls gt_cl gG (gt_T al sl sx) ci (gt_own.getD ci "") (gt_TT ci) (gt_fs.getD ci []).length := by
  obtain ⟨q, h1, h2⟩ := gY_tt ci h
  have h3 := gY_cl ci h
  rw [h1] at h3
  have h4 : (q.1, q.2.2) = (gt_own.getD ci "", (gt_fs.getD ci []).length) := Option.some.inj h3
  refine ⟨?_, fun w hw => ?_, gY_ty ci h, gY_nm ci h⟩
  · rw [h1]
    obtain ⟨q1, q2, q3⟩ := q
    cases h4
    cases h2
    rfl
  · unfold u_ws at hw
    obtain ⟨k, hk, rfl⟩ := List.mem_map.mp hw
    have hk' := List.mem_range.mp hk
    refine gG_in (gY_ok ci h k hk') ?_
    unfold u_lay
    split <;> rfl
theorem gt_fl {own idx ci k : Nat} (h : gm_has4 gFk (own, idx, ci, k) = true) : gm_cls gt_cl gG (gt_T al sl sx) ci (gt_own.getD ci "") (gt_TT ci) (gt_fs.getD ci []).length ∧ k < (gt_fs.getD ci []).length ∧ Cond.fieldLink (gt_own.getD own "") idx (gt_TT ci k).1 (gt_TT ci k).2.1 (gt_TT ci k).2.2.1 ∈ gG := by
  obtain ⟨q, h1, h2⟩ := List.mem_map.mp (gm_has4_of h)
  obtain ⟨z1, z2, z3⟩ := gF_ok q h1
  obtain ⟨q1, q2, q3, q4, q5⟩ := q
  cases h2
  exact ⟨gt_clsok z2, z3, gG_in z1 rfl⟩
theorem gt_cd {j : Nat} {q : Nat × Nat × Nat × Nat × Nat × Nat} (hq : q ∈ gX) (hj : q.1 = j) (hn : j ≠ 900) : gt_at (gt_p j) = some (Cond.code (gt_y j) (gt_b j) (gt_d j).1 (gt_d j).2.1) := by
  have h := gX_code q hq
  rw [hj] at h
  unfold gt_b
  rw [if_neg hn]
  cases hc : gt_at (gt_p j) with
  | none => rw [hc] at h; cases h
  | some w =>
    rw [hc] at h
    cases w with
    | code y b n r =>
      have h' : (decide (y = gt_y j) && decide (n = (gt_d j).1) && decide (r = (gt_d j).2.1)) = true := h
      simp only [Bool.and_eq_true, decide_eq_true_eq] at h'
      obtain ⟨⟨rfl, rfl⟩, rfl⟩ := h'
      rfl
    | _ => cases h
theorem gX_ne900 : ∀ q ∈ gX, q.1 ≠ 900 ∧ (q.2.1 < 14 ∨ 14 ≤ q.2.1) := by decide +kernel
theorem gt_mth {j : Nat} (hj : j ∈ gXk) (hk : (gt_d j).2.2.2.1 < 5) : gm_mth gG (gt_T al sl sx) gt_y gt_b j := by
  obtain ⟨q, hq, rfl⟩ := List.mem_map.mp hj
  obtain ⟨h1, h2, -⟩ := gX_mth q hq hk
  obtain ⟨i1, i2⟩ := gX_ini q hq
  refine ⟨gG_in (gt_cd hq rfl (gX_ne900 q hq).1) rfl, ?_, h1, h2⟩
  rcases Nat.lt_or_ge q.2.1 14 with z | z
  · have := gJ_ok q.2.1 z
    rw [← i1 z] at this
    exact gG_in this rfl
  · exact gG_in (i2 z) rfl
theorem gt_lk1 {own idx j : Nat} (h : gm_has3 gMk (own, idx, j) = true) : Cond.methodLink (gt_own.getD own "") idx (gt_y j) ∈ gG := by
  obtain ⟨q, h1, h2⟩ := List.mem_map.mp (gm_has3_of h)
  have z := gM_ok q h1
  obtain ⟨q1, q2, q3, q4⟩ := q
  cases h2
  exact gG_in z rfl
theorem gm_lkb_ok {own pc : Nat} {isI : Bool} {i : gm_I} (h : gm_lkb own isI pc i = true) : gm_lk gt_cl gG gNW gSR (gt_T al sl sx) gt_y gt_b (gt_own.getD own "") isI pc i := by
  obtain ⟨ig, ia, ib⟩ := i
  cases ig <;> try (exact trivial)
  case ldc idx =>
    have h' : ((Nat.beq ib 0 && gm_has3 gKk (own, idx, ia)) || (Nat.beq ib 2 && (Nat.blt ia 99 && gm_has3 gSk (own, idx, ia)))) = true := h
    simp only [Bool.or_eq_true, Bool.and_eq_true] at h'
    refine ⟨fun z => ?_, fun z => ?_⟩
    · have z' : ib = 0 := z
      subst z'
      rcases h' with ⟨-, h2⟩ | ⟨h1, -⟩
      · obtain ⟨q, q1, q2⟩ := List.mem_map.mp (gm_has3_of h2)
        have z9 := gK_ok q q1
        obtain ⟨a1, a2, a3, a4⟩ := q
        cases q2
        exact gG_in z9 rfl
      · cases h1
    · have z' : ib = 2 := z
      subst z'
      rcases h' with ⟨h1, -⟩ | ⟨-, h1, h2⟩
      · cases h1
      · obtain ⟨q, q1, q2⟩ := List.mem_map.mp (gm_has3_of h2)
        refine ⟨Nat.le_of_ble_eq_true h1, gt_str.getD ia "", List.mem_map.mpr ⟨q, q1, ?_⟩⟩
        obtain ⟨a1, a2, a3, a4⟩ := q
        cases q2
        rfl
  case ldc_w idx =>
    obtain ⟨q, q1, q2⟩ := List.mem_map.mp (gm_has3_of (show gm_has3 gKk (own, idx, ia) = true from h))
    have z := gK_ok q q1
    obtain ⟨a1, a2, a3, a4⟩ := q
    cases q2
    exact gG_in z rfl
  case ldc2_w idx =>
    obtain ⟨q, q1, q2⟩ := List.mem_map.mp (gm_has3_of (show gm_has3 gLk (own, idx, ia) = true from h))
    have z := gL_ok q q1
    obtain ⟨a1, a2, a3, a4⟩ := q
    cases q2
    exact gG_in z rfl
  case goto off => exact of_decide_eq_true (p := (pc : Int) + off = (ia : Int)) h
  case if_icmp c off => exact of_decide_eq_true (p := (pc : Int) + off = (ia : Int)) h
  case ifCond c off => exact of_decide_eq_true (p := (pc : Int) + off = (ia : Int)) h
  case getfield idx =>
    obtain ⟨z1, z2, z3⟩ := gt_fl (al := al) (sl := sl) (sx := sx) (show gm_has4 gFk (own, idx, ia, ib) = true from h)
    exact ⟨_, _, _, z1, z2, z3⟩
  case putfield idx =>
    have h' : (gm_has4 gFk (own, idx, ia, ib) && (!(gt_TT ia ib).2.2.2 || (isI && decide ((gt_TT ia ib).1 = gt_own.getD own "")))) = true := h
    rw [Bool.and_eq_true, Bool.or_eq_true, Bool.and_eq_true] at h'
    obtain ⟨z1, z2, z3⟩ := gt_fl (al := al) (sl := sl) (sx := sx) h'.1
    refine ⟨_, _, _, z1, z2, z3, ?_⟩
    rcases h'.2 with h2 | ⟨h2, h3⟩
    · left
      show (gt_TT ia ib).2.2.2 = false
      cases hf : (gt_TT ia ib).2.2.2 with
      | false => rfl
      | true => rw [hf] at h2; cases h2
    · cases hf : (gt_TT ia ib).2.2.2 with
      | false => exact Or.inl rfl
      | true => exact Or.inr ⟨rfl, h2, of_decide_eq_true h3⟩
  case new idx =>
    obtain ⟨q, q1, q2⟩ := List.mem_map.mp (gm_has3_of (show gm_has3 gNk (own, idx, ia) = true from h))
    obtain ⟨z1, z2⟩ := gN_ok q q1
    obtain ⟨a1, a2, a3, a4⟩ := q
    cases q2
    have z2' : a3 < 11 := z2
    obtain ⟨d1, d2, d3⟩ := gD_ok a3 z2'
    exact ⟨_, _, _, gt_clsok z2', gG_in z1 rfl, gG_in (gI_ok a3 z2') rfl, gG_in (gJ_ok a3 (by omega)) rfl, d1, d2, d3⟩
  case newarray at_ =>
    obtain ⟨a1, a2, a3, a4, a5⟩ := gA_ok
    cases at_ <;> first | exact gG_in a1 rfl | exact gG_in a2 rfl | exact gG_in a3 rfl | exact gG_in a4 rfl | exact gG_in a5 rfl | cases h
  case anewarray idx =>
    obtain ⟨q, q1, q2⟩ := List.mem_map.mp (gm_has3_of (show gm_has3 gNk (own, idx, 6) = true from h))
    obtain ⟨z1, z2⟩ := gN_ok q q1
    obtain ⟨a1, a2, a3, a4⟩ := q
    cases q2
    exact gG_in z1 rfl
  case aastore => exact ⟨_, _, rfl⟩
  case invokestatic idx =>
    have h' : (gm_has3 gMk (own, idx, ia) && (Nat.beq (gt_d ia).2.2.2.1 0 || Nat.ble 5 (gt_d ia).2.2.2.1) && gXk.any (Nat.beq ia)) = true := h
    rw [Bool.and_eq_true, Bool.and_eq_true, Bool.or_eq_true] at h'
    obtain ⟨⟨h1, h2⟩, h3⟩ := h'
    have hj := gm_any_of h3
    obtain ⟨q, hq, e⟩ := List.mem_map.mp hj
    have hkd : (gt_d ia).2.2.2.1 = 0 ∨ 5 ≤ (gt_d ia).2.2.2.1 := h2.imp Nat.eq_of_beq_eq_true Nat.le_of_ble_eq_true
    have hs := gX_kind q hq
    have e' : q.1 = ia := e
    rw [e', if_pos hkd] at hs
    refine ⟨gt_lk1 h1, gG_in hs rfl, fun z => gt_mth hj (by have z' : (gt_d ia).2.2.2.1 = 0 := z; show (gt_d ia).2.2.2.1 < 5; omega), fun z => ?_, fun z => ?_, fun z => ?_, fun z => ?_⟩
    · exact ⟨by rw [← e']; exact gW_5.1 q hq (by rw [e']; exact z), gG_in gW_i rfl, gG_in gW_5.2 rfl⟩
    · exact ⟨by rw [← e']; exact gW_6.1 q hq (by rw [e']; exact z), gG_in gW_i rfl, gG_in gW_6.2 rfl⟩
    · exact ⟨by rw [← e']; exact gW_7.1 q hq (by rw [e']; exact z), gG_in gW_i rfl, gG_in gW_7.2 rfl⟩
    · exact ⟨by rw [← e']; exact gW_8.1 q hq (by rw [e']; exact z), gG_in gW_i rfl, gG_in gW_8.2 rfl⟩
  case invokevirtual idx =>
    have h' : (gm_has3 gMk (own, idx, ia) && (Nat.beq (gt_d ia).2.2.2.1 1 || Nat.beq (gt_d ia).2.2.2.1 3) && gXk.any (Nat.beq ia)) = true := h
    rw [Bool.and_eq_true, Bool.and_eq_true, Bool.or_eq_true] at h'
    obtain ⟨⟨h1, h2⟩, h3⟩ := h'
    have hj := gm_any_of h3
    obtain ⟨q, hq, e⟩ := List.mem_map.mp hj
    have e' : q.1 = ia := e
    have hkd : (gt_d ia).2.2.2.1 = 1 ∨ (gt_d ia).2.2.2.1 = 3 := h2.imp Nat.eq_of_beq_eq_true Nat.eq_of_beq_eq_true
    have hs := gX_kind q hq
    rw [e', if_neg (by omega)] at hs
    have hsel := gX_sel q hq (by rw [e']; exact hkd)
    rw [e'] at hsel
    refine ⟨gt_mth hj (by show (gt_d ia).2.2.2.1 < 5; omega), gt_lk1 h1, gG_in hs rfl, fun z => ?_, fun z => ?_⟩
    · obtain ⟨c1, c2⟩ := gX_cls q hq (by rw [e']; exact z)
      rw [e'] at c1 c2
      have hc := gt_clsok (al := al) (sl := sl) (sx := sx) c2
      refine ⟨_, hc.1, ?_⟩
      show Cond.selects (gt_own.getD (gt_d ia).2.2.2.2 "") (gt_y ia) (gt_y ia) ∈ gG
      rw [← c1]
      exact gG_in hsel rfl
    · have c1 := gX_str q hq (by rw [e']; exact z)
      rw [e'] at c1
      rw [← c1]
      exact gG_in hsel rfl
  case invokespecial idx =>
    have h' : ((Nat.beq ia 999 && gOk.any (fun q => Nat.beq q.1 own && Nat.beq q.2 idx)) || ((gm_has3 gMk (own, idx, ia) || gm_has3 gTk (own, idx, ia)) && Nat.beq (gt_d ia).2.2.2.1 2 && gXk.any (Nat.beq ia))) = true := h
    rw [Bool.or_eq_true, Bool.and_eq_true, Bool.and_eq_true, Bool.and_eq_true, Bool.or_eq_true] at h'
    refine ⟨fun z => ?_, fun z => ?_⟩
    · rcases h' with ⟨h1, h2⟩ | ⟨⟨-, h2⟩, -⟩
      · obtain ⟨q, q1, q2⟩ := List.any_eq_true.mp h2
        rw [Bool.and_eq_true] at q2
        obtain ⟨r, r1, r2⟩ := List.mem_map.mp q1
        have zz := gO_ok r r1
        obtain ⟨a1, a2, a3⟩ := r
        cases r2
        have e1 : a1 = own := Nat.eq_of_beq_eq_true q2.1
        have e2 : a2 = idx := Nat.eq_of_beq_eq_true q2.2
        subst e1; subst e2
        exact ⟨gG_in zz rfl, gG_in gO_c.2 rfl, gG_in gO_c.1 rfl⟩
      · have z' : (gt_d ia).2.2.2.1 = 4 := z
        rw [z'] at h2
        cases h2
    · have z' : (gt_d ia).2.2.2.1 = 2 := z
      rcases h' with ⟨h1, -⟩ | ⟨⟨h1, -⟩, h3⟩
      · have e1 : ia = 999 := Nat.eq_of_beq_eq_true h1
        subst e1
        cases z'
      · have hj := gm_any_of h3
        obtain ⟨q, hq, e⟩ := List.mem_map.mp hj
        have e' : q.1 = ia := e
        have hs := gX_kind q hq
        rw [e', if_neg (by omega)] at hs
        obtain ⟨n1, n2⟩ := gX_init q hq (by rw [e']; exact z')
        rw [e'] at n1 n2
        refine ⟨gt_mth hj (by show (gt_d ia).2.2.2.1 < 5; omega), gG_in hs rfl, n1, n2, ?_⟩
        rcases h1 with h1 | h1
        · exact Or.inl (gt_lk1 h1)
        · obtain ⟨r, r1, r2⟩ := List.mem_map.mp (gm_has3_of h1)
          refine Or.inr ⟨"CommandByTurns", List.mem_map.mpr ⟨r, r1, ?_⟩⟩
          obtain ⟨a1, a2, a3, a4⟩ := r
          cases r2
          rfl
end LK
