/-! The contract of the three readers holds. -/
theorem lwW_ok {p : Program} {l : Launch} {e : Env} {s : State} {m : MethodId} {args : Array Value} {below : List Frame} {meth : Method} {c : Code} {Q : State → Prop} {b : Nat} {aK adV sm : Nat → Nat} {D : va_G} {dA : Nat → ClassId} {sl : Nat} {sx : Nat → Int32} (hl0 : l.stackTraces = false) (C : lwC p s m args meth c b aK D dA (xpX b aK adV sm) false sl sx) : lwW p l e s m args below meth c Q b aK D dA sl sx := by
  intro x E k kc ks hq hk hs
  have nf : (gt_y 80).cls = "CommandByTurns" ∧ (gt_y 80).cls ≠ "java/lang/invoke/MethodHandle" ∧ (gt_y 80).cls ≠ "java/lang/invoke/VarHandle" ∧ (parseMethodDescriptor (gt_y 80).desc).map (fun d => d.parameters.length) = some 2 := by decide +kernel
  have nc : (gt_y 81).cls = "CommandByTurns" ∧ (gt_y 81).cls ≠ "java/lang/invoke/MethodHandle" ∧ (gt_y 81).cls ≠ "java/lang/invoke/VarHandle" ∧ (parseMethodDescriptor (gt_y 81).desc).map (fun d => d.parameters.length) = some 2 := by decide +kernel
  have nr : (gt_y 146).cls = "CommandByTurns" ∧ (gt_y 146).cls ≠ "java/lang/invoke/MethodHandle" ∧ (gt_y 146).cls ≠ "java/lang/invoke/VarHandle" ∧ (parseMethodDescriptor (gt_y 146).desc).map (fun d => d.parameters.length) = some 1 := by decide +kernel
  have df : wfN.cls ≠ "java/lang/invoke/MethodHandle" ∧ wfN.cls ≠ "java/lang/invoke/VarHandle" ∧ (parseMethodDescriptor wfN.desc).map (fun d => d.parameters.length) = some 4 := by decide +kernel
  have dc : wcN.cls ≠ "java/lang/invoke/MethodHandle" ∧ wcN.cls ≠ "java/lang/invoke/VarHandle" ∧ (parseMethodDescriptor wcN.desc).map (fun d => d.parameters.length) = some 4 := by decide +kernel
  have dr : wrN.cls ≠ "java/lang/invoke/MethodHandle" ∧ wrN.cls ≠ "java/lang/invoke/VarHandle" ∧ (parseMethodDescriptor wrN.desc).map (fun d => d.parameters.length) = some 3 := by decide +kernel
  have pf : plainName wfN.cls = true := by decide +kernel
  have pc : plainName wcN.cls = true := by decide +kernel
  have pr : plainName wrN.cls = true := by decide +kernel
  have e359 : decode code 359 = .ok (.invokestatic 49, 3) := by decide +kernel
  have e427 : decode code 427 = .ok (.invokestatic 58, 3) := by decide +kernel
  have e1549 : decode code 1549 = .ok (.invokestatic 223, 3) := by decide +kernel
  refine ⟨fun n i hn hi kk => ?_, fun u v hn kk => ?_, fun n i hn hi kk => ?_, fun u v hn kk => ?_, fun n hn kk => ?_, fun u hn kk => ?_⟩
  · intro h hR
    have hM : wM l b aK D dA adV sm sl sx wfN method_3_code 5 wfH 0 0 [.ref 0, .int (nI n), .int (nI i), .ref 73] h 0 (gs_R x 73 0 (fdV E n i).toInt64) := wg2 (j := 80) (idx := 7) pf rfl wD_f hR xW2_80 nf (Nat.le_of_ble_eq_true rfl) rfl rfl rfl (fun Post K => x80 (by decide) hq hn hi K)
    exact law_call C hM (by decide) rfl (xW_in (k := 0) rfl) (xW_in (k := 1) rfl) (xW_in (k := 3) rfl) df (show kc + 0 ≤ 601024 by omega) (show ks + 0 ≤ 7293034 by omega) e359 kk
  · intro h hR
    have hM : wM l b aK D dA adV sm sl sx wfN method_3_code 5 wfH 1 6 [.ref 0, .int u, .int v, .ref 73] h 1 x := wb2 (j := 80) (idx := 7) pf rfl wD_f hR (bad_field hl0 hR hq hn) xW2_80 nf (Nat.le_of_ble_eq_true rfl)
    exact law_call C hM (by decide) rfl (xW_in (k := 0) rfl) (xW_in (k := 1) rfl) (xW_in (k := 3) rfl) df hk hs e359 kk
  · intro h hR
    have hM : wM l b aK D dA adV sm sl sx wcN method_4_code 5 wfH 0 0 [.ref 0, .int (nI n), .int (nI i), .ref 73] h 0 (gs_R x 73 0 (coV E n i).toInt64) := wg2 (j := 81) (idx := 15) pc rfl wD_c hR xW2_81 nc (Nat.le_of_ble_eq_true rfl) rfl rfl rfl (fun Post K => x81 (by decide) hq hn hi K)
    exact law_call C hM (by decide) rfl (xW_in (k := 4) rfl) (xW_in (k := 5) rfl) (xW_in (k := 6) rfl) dc (show kc + 0 ≤ 601024 by omega) (show ks + 0 ≤ 7293034 by omega) e427 kk
  · intro h hR
    have hM : wM l b aK D dA adV sm sl sx wcN method_4_code 5 wfH 1 6 [.ref 0, .int u, .int v, .ref 73] h 1 x := wb2 (j := 81) (idx := 15) pc rfl wD_c hR (bad_consul hl0 hR hn) xW2_81 nc (Nat.le_of_ble_eq_true rfl)
    exact law_call C hM (by decide) rfl (xW_in (k := 4) rfl) (xW_in (k := 5) rfl) (xW_in (k := 6) rfl) dc hk hs e427 kk
  · intro h hR
    have hM : wM l b aK D dA adV sm sl sx wrN method_5_code 4 wrH 0 0 [.ref 0, .int (nI n), .ref 73] h 0 (gs_R x 73 0 (dR E n)) := wg1 (j := 146) (idx := 18) pr rfl wD_r hR xW2_146 nr (Nat.le_of_ble_eq_true rfl) rfl rfl rfl (fun Post K => x146 (by decide) hq hn K)
    exact law_call C hM (by decide) rfl (xW_in (k := 7) rfl) (xW_in (k := 8) rfl) (xW_in (k := 9) rfl) dr (show kc + 0 ≤ 601024 by omega) (show ks + 0 ≤ 7293034 by omega) e1549 kk
  · intro h hR
    have hM : wM l b aK D dA adV sm sl sx wrN method_5_code 4 wrH 1 6 [.ref 0, .int u, .ref 73] h 1 x := wb1 (j := 146) (idx := 18) pr rfl wD_r hR (bad_row hl0 hR hq hn) xW2_146 nr (Nat.le_of_ble_eq_true rfl)
    exact law_call C hM (by decide) rfl (xW_in (k := 7) rfl) (xW_in (k := 8) rfl) (xW_in (k := 9) rfl) dr hk hs e1549 kk
