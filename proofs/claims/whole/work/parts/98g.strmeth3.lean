/-! .. indexOf; the contracts of the three. -/
def zscan (bx : Int32) : Nat → Nat → Int32
  | 0, _ => -1
  | n + 1, i => if (zB.getD 0 []).getD i 0 = bx then nI i else zscan bx n (i + 1)
theorem zscan_ok : ∀ x, x < 256 → zscan ((nI x).toInt8.toInt32) 8 0 = lxI x := by decide +kernel
section STR
variable {l : Launch} {A : Nat → Prop} {aK adV : Nat → Nat}
theorem z_chrM {i d : Nat} (hi : i < 19) (hd : 4 ≤ d) : zM l A aK adV yzChr prog_21_method_56_code 2 (some .char) d [.ref (aK 1), .int (nI i)] (some (.int (nI (nor i)))) := by
  refine zM_of (by decide +kernel) (Nat.le_refl _) ?_
  intro p e s m below meth c ls S hr hlocks hz hl
  obtain ⟨hx, hb, hml, hown, hts⟩ := id S
  refine z_chr hi S hz va_S.rf hl ⟨by show 4 ≤ d; omega, by show 256 ≤ d * 64; omega⟩ ⟨Nat.zero_le _, Nat.zero_le _⟩ ?_
  exact W.zret hx hb hr (z_norB i hi).2 (fun t ht _ => ⟨rfl, ht⟩) (fun q hq => (by cases hq)) (by decide +kernel) hlocks
theorem z_lic {d x : Nat} (hxx : x < 256) : zM l A aK adV yzLic prog_22_method_23_code 6 (some .int) d [.ref (adV 0), .int (nI x), .int 0, .int (nI 8)] (some (.int (lxI x))) := by
  refine zM_of (by decide +kernel) (show 4 ≤ 6 by decide) ?_
  intro p e s m below meth c ls S hr hlocks hz hl
  obtain ⟨hx, hb, hml, hown, hts⟩ := id S
  have hS : va_S A s.heap s.heap [] := va_S.rf
  have hT : va_T .byte (adV 0) 8 (fun j => .int ((zB.getD 0 []).getD j 0)) A s s.heap := (hz.1.1 0 (by decide)).2.2.2
  have hl : lv_has ls 6 [(0, .ref (adV 0)), (1, .int (nI x)), (2, .int 0), (3, .int (nI 8))] := hl
  have loop : ∀ (n i : Nat) (ls : Array Slot), i + n = 8 → zscan ((nI x).toInt8.toInt32) n i = lxI x → lv_has ls 6 [(5, .int (nI i)), (4, .int ((nI x).toInt8.toInt32)), (0, .ref (adV 0)), (1, .int (nI x)), (2, .int 0), (3, .int (nI 8))] → W p l e (zR d) s m #[.ref (adV 0), .int (nI x), .int 0, .int (nI 8)] below meth c s.heap [] 0 0 (MQ below (zQ (some (.int (lxI x)))) #[.ref (adV 0), .int (nI x), .int 0, .int (nI 8)] s 0 0 (fun _ => False)) (F0 m 7 ls []) := by
    intro n
    induction n with
    | zero =>
      intro i ls hi he hl
      have hi8 : i = 8 := by omega
      subst hi8
      refine lv_iload (i := 5) hx hb (show decode prog_22_method_23_code 7 = .ok (.iload 5, 2) by decide +kernel) (lv_at hl 0 rfl) ?_
      refine lv_iload_n (i := 3) hx hb (show decode prog_22_method_23_code 9 = .ok (.iload_n 3, 1) by decide +kernel) rfl (lv_at hl 5 rfl) ?_
      refine lv_icmp_ge hx hb (tgt := 31) (show decode prog_22_method_23_code 10 = .ok (.if_icmp .ge 21, 3) by decide +kernel) (by decide) (fun _ => ?_) (fun z => absurd (by decide) z)
      refine lv_iconst (v := -1) hx hb (show decode prog_22_method_23_code 31 = .ok (.iconst (-1), 1) by decide +kernel) rfl ?_
      have he' : (-1 : Int32) = lxI x := he
      rw [he']
      exact W.iret hx hb hr (fun t ht _ => ⟨rfl, ht⟩) (fun q hq => (by cases hq)) (by decide +kernel) hlocks
    | succ n ih =>
      intro i ls hi he hl
      refine lv_iload (i := 5) hx hb (show decode prog_22_method_23_code 7 = .ok (.iload 5, 2) by decide +kernel) (lv_at hl 0 rfl) ?_
      refine lv_iload_n (i := 3) hx hb (show decode prog_22_method_23_code 9 = .ok (.iload_n 3, 1) by decide +kernel) rfl (lv_at hl 5 rfl) ?_
      refine lv_icmp_ge hx hb (tgt := 31) (show decode prog_22_method_23_code 10 = .ok (.if_icmp .ge 21, 3) by decide +kernel) (by decide) (fun z => absurd ((nI_le' (a := 8) (by decide) (by omega)).mp z) (by omega)) (fun _ => ?_)
      refine lv_aload_n (i := 0) hx hb (show decode prog_22_method_23_code 13 = .ok (.aload_n 0, 1) by decide +kernel) rfl (lv_at hl 2 rfl) ?_
      refine lv_iload (i := 5) hx hb (show decode prog_22_method_23_code 14 = .ok (.iload 5, 2) by decide +kernel) (lv_at hl 0 rfl) ?_
      refine va_tb hx hb hT hS (i := nI i) (vp_in_nI (by omega) (by decide)) (v := .int ((zB.getD 0 []).getD i 0)) (by rw [nI_clamp (by omega)]) (by decide +kernel) ?_
      refine lv_iload (i := 4) hx hb (show decode prog_22_method_23_code 17 = .ok (.iload 4, 2) by decide +kernel) (lv_at hl 1 rfl) ?_
      have he' : (if (zB.getD 0 []).getD i 0 = (nI x).toInt8.toInt32 then nI i else zscan ((nI x).toInt8.toInt32) n (i + 1)) = lxI x := he
      refine lv_icmp_ne hx hb (tgt := 25) (show decode prog_22_method_23_code 19 = .ok (.if_icmp .ne 6, 3) by decide +kernel) (by decide) (fun z => ?_) (fun z => ?_)
      · rw [if_neg z] at he'
        refine lv_iinc (v := nI (i + 1)) (k := 0) hx hb (show decode prog_22_method_23_code 25 = .ok (.iinc 5 1, 3) by decide +kernel) hl rfl (nI_add i 1) (by decide) rfl (fun ls' hl' => ?_)
        refine lv_goto (tgt := 7) hx hb (show decode prog_22_method_23_code 28 = .ok (.goto (-21), 3) by decide +kernel) (by decide) ?_
        exact ih (i + 1) ls' (by omega) he' hl'
      · have z' : (zB.getD 0 []).getD i 0 = (nI x).toInt8.toInt32 := z
        rw [if_pos z'] at he'
        refine lv_iload (i := 5) hx hb (show decode prog_22_method_23_code 22 = .ok (.iload 5, 2) by decide +kernel) (lv_at hl 0 rfl) ?_
        rw [he']
        exact W.iret hx hb hr (fun t ht _ => ⟨rfl, ht⟩) (fun q hq => (by cases hq)) (by decide +kernel) hlocks
  refine lv_iload_n (i := 1) hx hb (show decode prog_22_method_23_code 0 = .ok (.iload_n 1, 1) by decide +kernel) rfl (lv_at hl 1 rfl) ?_
  refine lv_i2b (v := (nI x).toInt8.toInt32) hx hb (show decode prog_22_method_23_code 1 = .ok (.i2b, 1) by decide +kernel) rfl ?_
  refine lv_istore (i := 4) hx hb (show decode prog_22_method_23_code 2 = .ok (.istore 4, 2) by decide +kernel) hl (by decide) rfl (fun ls1 hl1 => ?_)
  refine lv_iload_n (i := 2) hx hb (show decode prog_22_method_23_code 4 = .ok (.iload_n 2, 1) by decide +kernel) rfl (lv_at hl1 3 rfl) ?_
  refine lv_istore (i := 5) hx hb (show decode prog_22_method_23_code 5 = .ok (.istore 5, 2) by decide +kernel) hl1 (by decide) rfl (fun ls2 hl2 => ?_)
  exact loop 8 0 ls2 rfl (zscan_ok x hxx) hl2
theorem z_lix {d x : Nat} (hd : 1 ≤ d) (hxx : x < 256) : zM l A aK adV yzLix prog_22_method_22_code 4 (some .int) d [.ref (adV 0), .int (nI x), .int 0, .int (nI 8)] (some (.int (lxI x))) := by
  refine zM_of (by decide +kernel) (Nat.le_refl _) ?_
  intro p e s m below meth c ls S hr hlocks hz hl
  obtain ⟨hx, hb, hml, hown, hts⟩ := id S
  have hS : va_S A s.heap s.heap [] := va_S.rf
  have hT : va_T .byte (adV 0) 8 (fun j => .int ((zB.getD 0 []).getD j 0)) A s s.heap := (hz.1.1 0 (by decide)).2.2.2
  have hl : lv_has ls 4 [(0, .ref (adV 0)), (1, .int (nI x)), (2, .int 0), (3, .int (nI 8))] := hl
  have r1 : 1 ≤ (zR d).frames := hd
  have r2 : ∀ k, k ≤ 8 → k + 13 ≤ (zR d).locals := fun k hk => by show k + 13 ≤ d * 64; omega
  refine lv_iload_n (i := 1) hx hb (show decode prog_22_method_22_code 0 = .ok (.iload_n 1, 1) by decide +kernel) rfl (lv_at hl 1 rfl) ?_
  refine z_S (As := [.int (nI x)]) (rest := []) S hz hS (z_can (d := 0) hxx) (zW_in (k := 35) rfl) (zW_in (k := 36) rfl) (zW_in (k := 14) rfl) (zW_in (k := 37) rfl) ⟨by decide, by decide, show (parseMethodDescriptor yzCan.desc).map (fun d => d.parameters.length) = some 1 by decide +kernel⟩ ⟨by show 0 + 1 ≤ d; omega, by show 8 + (1 + 11) + 0 * 64 ≤ d * 64; omega⟩ hl.1 (by decide) ⟨Nat.zero_le _, Nat.zero_le _⟩ (by decide +kernel) ?_
  refine lv_if_ne hx hb (tgt := 9) (show decode prog_22_method_22_code 4 = .ok (.ifCond .ne 5, 3) by decide +kernel) (by decide) (fun _ => ?_) (fun z => absurd z (by decide))
  refine lv_iload_n (i := 2) hx hb (show decode prog_22_method_22_code 9 = .ok (.iload_n 2, 1) by decide +kernel) rfl (lv_at hl 2 rfl) ?_
  refine lv_iconst (v := 0) hx hb (show decode prog_22_method_22_code 10 = .ok (.iconst 0, 1) by decide +kernel) rfl ?_
  refine va_mmax (rest := []) hx hb (hml.trans hl.1.symm) hown (hts _ (zW_in (k := 41) rfl)) (hts _ (zW_in (k := 42) rfl)) (hts _ (zW_in (k := 43) rfl)) (hts _ (zW_in (k := 44) rfl)) r1 (r2 0 (by decide)) (Nat.zero_le _) (Nat.zero_le _) (show decode prog_22_method_22_code 11 = .ok (.invokestatic 92, 3) by decide +kernel) ?_
  refine lv_istore_n (i := 2) hx hb (show decode prog_22_method_22_code 14 = .ok (.istore_n 2, 1) by decide +kernel) rfl hl (by decide) rfl (fun ls1 hl1 => ?_)
  have hl1 : lv_has ls1 4 [(2, .int 0), (0, .ref (adV 0)), (1, .int (nI x)), (3, .int (nI 8))] := hl1
  refine lv_iload_n (i := 3) hx hb (show decode prog_22_method_22_code 15 = .ok (.iload_n 3, 1) by decide +kernel) rfl (lv_at hl1 3 rfl) ?_
  refine lv_aload_n (i := 0) hx hb (show decode prog_22_method_22_code 16 = .ok (.aload_n 0, 1) by decide +kernel) rfl (lv_at hl1 1 rfl) ?_
  refine va_tlen hx hb hT hS (v := nI 8) rfl (by decide +kernel) ?_
  refine va_mmin (rest := []) hx hb (hml.trans hl1.1.symm) hown (hts _ (zW_in (k := 45) rfl)) (hts _ (zW_in (k := 46) rfl)) (hts _ (zW_in (k := 43) rfl)) (hts _ (zW_in (k := 47) rfl)) r1 (r2 0 (by decide)) (Nat.zero_le _) (Nat.zero_le _) (show decode prog_22_method_22_code 18 = .ok (.invokestatic 38, 3) by decide +kernel) ?_
  refine lv_istore_n (i := 3) hx hb (show decode prog_22_method_22_code 21 = .ok (.istore_n 3, 1) by decide +kernel) rfl hl1 (by decide) rfl (fun ls2 hl2 => ?_)
  have hl2 : lv_has ls2 4 [(3, .int (nI 8)), (2, .int 0), (0, .ref (adV 0)), (1, .int (nI x))] := hl2
  refine lv_iload_n (i := 2) hx hb (show decode prog_22_method_22_code 22 = .ok (.iload_n 2, 1) by decide +kernel) rfl (lv_at hl2 1 rfl) ?_
  refine lv_iload_n (i := 3) hx hb (show decode prog_22_method_22_code 23 = .ok (.iload_n 3, 1) by decide +kernel) rfl (lv_at hl2 0 rfl) ?_
  refine lv_icmp_lt hx hb (tgt := 29) (show decode prog_22_method_22_code 24 = .ok (.if_icmp .lt 5, 3) by decide +kernel) (by decide) (fun _ => ?_) (fun z => absurd (by decide) z)
  refine lv_aload_n (i := 0) hx hb (show decode prog_22_method_22_code 29 = .ok (.aload_n 0, 1) by decide +kernel) rfl (lv_at hl2 2 rfl) ?_
  refine lv_iload_n (i := 1) hx hb (show decode prog_22_method_22_code 30 = .ok (.iload_n 1, 1) by decide +kernel) rfl (lv_at hl2 3 rfl) ?_
  refine lv_iload_n (i := 2) hx hb (show decode prog_22_method_22_code 31 = .ok (.iload_n 2, 1) by decide +kernel) rfl (lv_at hl2 1 rfl) ?_
  refine lv_iload_n (i := 3) hx hb (show decode prog_22_method_22_code 32 = .ok (.iload_n 3, 1) by decide +kernel) rfl (lv_at hl2 0 rfl) ?_
  refine z_S (As := [.ref (adV 0), .int (nI x), .int 0, .int (nI 8)]) (rest := []) S hz hS (z_lic (d := 0) hxx) (zW_in (k := 38) rfl) (zW_in (k := 39) rfl) (zW_in (k := 14) rfl) (zW_in (k := 40) rfl) ⟨by decide, by decide, show (parseMethodDescriptor yzLic.desc).map (fun d => d.parameters.length) = some 4 by decide +kernel⟩ ⟨by show 0 + 1 ≤ d; omega, by show 8 + (6 + 11) + 0 * 64 ≤ d * 64; omega⟩ hl2.1 (by decide) ⟨Nat.zero_le _, Nat.zero_le _⟩ (by decide +kernel) ?_
  exact W.iret hx hb hr (fun t ht _ => ⟨rfl, ht⟩) (fun q hq => (by cases hq)) (by decide +kernel) hlocks
theorem z_ix2 {d x : Nat} (hd : 2 ≤ d) (hxx : x < 256) : zM l A aK adV yzIx2 prog_21_method_80_code 3 (some .int) d [.ref (aK 0), .int (nI x), .int 0] (some (.int (lxI x))) := by
  refine zM_of (by decide +kernel) (Nat.le_refl _) ?_
  intro p e s m below meth c ls S hr hlocks hz hl
  obtain ⟨hx, hb, hml, hown, hts⟩ := id S
  have hS : va_S A s.heap s.heap [] := va_S.rf
  have hl : lv_has ls 3 [(0, .ref (aK 0)), (1, .int (nI x)), (2, .int 0)] := hl
  refine lv_aload_n (i := 0) hx hb (show decode prog_21_method_80_code 0 = .ok (.aload_n 0, 1) by decide +kernel) rfl (lv_at hl 0 rfl) ?_
  refine z_V (As := []) (rest := []) S hz hS (hz.1.1 0 (by decide)).1 (z_lat (d := 0) (by decide)) (zW_in (k := 8) rfl) (zW_in (k := 9) rfl) (zW_in (k := 10) rfl) (zW_in (k := 6) rfl) (zW_in (k := 11) rfl) (by decide +kernel) ⟨by show 0 + 1 ≤ d; omega, by show 8 + (1 + 11) + 0 * 64 ≤ d * 64; omega⟩ hl.1 (by decide) ⟨Nat.zero_le _, Nat.zero_le _⟩ (by decide +kernel) ?_
  refine lv_if_eq hx hb (tgt := 23) (show decode prog_21_method_80_code 4 = .ok (.ifCond .eq 19, 3) by decide +kernel) (by decide) (fun z => absurd z (by decide)) (fun _ => ?_)
  refine lv_aload_n (i := 0) hx hb (show decode prog_21_method_80_code 7 = .ok (.aload_n 0, 1) by decide +kernel) rfl (lv_at hl 0 rfl) ?_
  refine vk_getf hx hb (hz.1.1 0 (by decide)).2.2.1 hS hown (hts _ (zW_in (k := 2) rfl)) (fun _ h => h) (by decide +kernel) ?_
  refine lv_iload_n (i := 1) hx hb (show decode prog_21_method_80_code 11 = .ok (.iload_n 1, 1) by decide +kernel) rfl (lv_at hl 1 rfl) ?_
  refine lv_iload_n (i := 2) hx hb (show decode prog_21_method_80_code 12 = .ok (.iload_n 2, 1) by decide +kernel) rfl (lv_at hl 2 rfl) ?_
  refine lv_aload_n (i := 0) hx hb (show decode prog_21_method_80_code 13 = .ok (.aload_n 0, 1) by decide +kernel) rfl (lv_at hl 0 rfl) ?_
  refine z_V (As := []) (rest := [.int 0, .int (nI x), .ref (adV 0)]) S hz hS (hz.1.1 0 (by decide)).1 (z_len (i := 0) (d := 1) (by decide) (by decide)) (zW_in (k := 28) rfl) (zW_in (k := 29) rfl) (zW_in (k := 30) rfl) (zW_in (k := 6) rfl) (zW_in (k := 31) rfl) (by decide +kernel) ⟨by show 1 + 1 ≤ d; omega, by show 8 + (1 + 11) + 1 * 64 ≤ d * 64; omega⟩ hl.1 (show 3 ≤ 8 by decide) ⟨Nat.zero_le _, Nat.zero_le _⟩ (by decide +kernel) ?_
  refine z_S (As := [.ref (adV 0), .int (nI x), .int 0, .int (nI 8)]) (rest := []) S hz hS (z_lix (d := 1) (by decide) hxx) (zW_in (k := 32) rfl) (zW_in (k := 33) rfl) (zW_in (k := 14) rfl) (zW_in (k := 34) rfl) ⟨by decide, by decide, show (parseMethodDescriptor yzLix.desc).map (fun d => d.parameters.length) = some 4 by decide +kernel⟩ ⟨by show 1 + 1 ≤ d; omega, by show 8 + (4 + 11) + 1 * 64 ≤ d * 64; omega⟩ hl.1 (by decide) ⟨Nat.zero_le _, Nat.zero_le _⟩ (by decide +kernel) ?_
  refine lv_goto (tgt := 36) hx hb (show decode prog_21_method_80_code 20 = .ok (.goto 16, 3) by decide +kernel) (by decide) ?_
  exact W.iret hx hb hr (fun t ht _ => ⟨rfl, ht⟩) (fun q hq => (by cases hq)) (by decide +kernel) hlocks
theorem z_ix1 {d x : Nat} (hd : 3 ≤ d) (hxx : x < 256) : zM l A aK adV yzIx1 prog_21_method_79_code 2 (some .int) d [.ref (aK 0), .int (nI x)] (some (.int (lxI x))) := by
  refine zM_of (by decide +kernel) (Nat.le_refl _) ?_
  intro p e s m below meth c ls S hr hlocks hz hl
  obtain ⟨hx, hb, hml, hown, hts⟩ := id S
  have hS : va_S A s.heap s.heap [] := va_S.rf
  have hl : lv_has ls 2 [(0, .ref (aK 0)), (1, .int (nI x))] := hl
  refine lv_aload_n (i := 0) hx hb (show decode prog_21_method_79_code 0 = .ok (.aload_n 0, 1) by decide +kernel) rfl (lv_at hl 0 rfl) ?_
  refine lv_iload_n (i := 1) hx hb (show decode prog_21_method_79_code 1 = .ok (.iload_n 1, 1) by decide +kernel) rfl (lv_at hl 1 rfl) ?_
  refine lv_iconst (v := 0) hx hb (show decode prog_21_method_79_code 2 = .ok (.iconst 0, 1) by decide +kernel) rfl ?_
  refine z_V (As := [.int (nI x), .int 0]) (rest := []) S hz hS (hz.1.1 0 (by decide)).1 (z_ix2 (d := 2) (by decide) hxx) (zW_in (k := 24) rfl) (zW_in (k := 25) rfl) (zW_in (k := 26) rfl) (zW_in (k := 6) rfl) (zW_in (k := 27) rfl) ⟨by decide, by decide, show (parseMethodDescriptor yzIx2.desc).map (fun d => d.parameters.length) = some 2 by decide +kernel⟩ ⟨by show 2 + 1 ≤ d; omega, by show 8 + (3 + 11) + 2 * 64 ≤ d * 64; omega⟩ hl.1 (by decide) ⟨Nat.zero_le _, Nat.zero_le _⟩ (by decide +kernel) ?_
  exact W.iret hx hb hr (fun t ht _ => ⟨rfl, ht⟩) (fun q hq => (by cases hq)) (by decide +kernel) hlocks
end STR
