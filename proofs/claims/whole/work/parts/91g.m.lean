/-! X6_readLaw -/
abbrev rmX6_readLaw : Room := { frames := 3, cells := 0, slots := 0, locals := 62 }
theorem hdV_X6_readLaw : yX6_readLaw.cls = RX6 ∧ yX6_readLaw.cls ≠ "java/lang/invoke/MethodHandle" ∧ yX6_readLaw.cls ≠ "java/lang/invoke/VarHandle" ∧ (parseMethodDescriptor yX6_readLaw.desc).map (fun d => d.parameters.length) = some 1 := by decide +kernel
theorem inX6_readLaw_X3 : ∀ w ∈ wsX30, w ∈ wsX6_readLaw := by decide +kernel
theorem flX6_readLaw_55 : Cond.fieldLink RX6 55 (TX3 3).1 (TX3 3).2.1 (TX3 3).2.2.1 ∈ wsX6_readLaw := by decide +kernel
theorem flX6_readLaw_58 : Cond.fieldLink RX6 58 (TX3 2).1 (TX3 2).2.1 (TX3 2).2.2.1 ∈ wsX6_readLaw := by decide +kernel
set_option maxHeartbeats 4000000 in
set_option maxRecDepth 100000 in
theorem m_X6_readLaw (l : Launch) (D : va_G) (dA : Nat → ClassId) (b0 : Nat) (r0 : Nat) (r1 : Nat) (h : zH) (z : zH) (hf : f_X6_readLaw r0 r1 h = some z) : Met l yX6_readLaw wsX6_readLaw rmX6_readLaw (zPc D dA b0 [.ref (b0 + r0), .ref (b0 + r1)] h) (zQ D dA b0 none z) 0 0 (zA b0) := by
  refine Met.ofW (cc := cX6_readLaw) (maxL := 2) (ret := none) (by decide) rfl ?_
  intro p e s m args below meth c s₁ B hml hv
  obtain ⟨rfl, hP, hz, hK, hN⟩ := hv
  have hr := B.returns
  have hlk := B.notSynchronized
  have X : zX p s m _ c cX6_readLaw 2 RX6 wsX6_readLaw D dA := ⟨⟨B.exec, B.bytes, hml, findClass_of_methodNamed B.named, atoms_spec (ws := wsX6_readLaw) B.pre⟩, hK, hN⟩
  have G : zG D dA b0 s.heap h s.heap [] := ⟨hP, hz, va_S.rf⟩
  have hl := lv_entry ([.ref (b0 + r0), .ref (b0 + r1)]) (n := 2) (Nat.le_of_ble_eq_true rfl)
  rw [lg_entry_eq]
  generalize (lg_sl ([.ref (b0 + r0), .ref (b0 + r1)]) ++ List.replicate (2 - (lg_sl ([.ref (b0 + r0), .ref (b0 + r1)])).length) Slot.unset).toArray = ls at hl ⊢
  have hl : lv_has ls 2 [(0, .ref (b0 + r0)), (1, .ref (b0 + r1))] := hl
  unfold f_X6_readLaw at hf
  refine lv_aload_n X.1.1 X.1.2.1 dX6_readLaw_0 rfl (lv_at hl 0 rfl) ?_
  refine lv_bipush (v := 109) X.1.1 X.1.2.1 dX6_readLaw_1 (by decide) ?_
  obtain ⟨hk, hf⟩ := zck hf
  obtain ⟨q1, eq1, hf⟩ := Option.bind_eq_some_iff.mp hf
  refine zcV0 (As := [.int (109 : Int32)]) (rest := []) (v := none) (h' := q1) X G (rfl : vwCl[6]? = some (RX6, TX6, 4)) hk (m_X6_pass l D dA b0 r0 (109 : Int32) h q1 eq1) (cwV 1 X.1.2.2.2.2 gX6_readLaw_X6_pass rfl rfl rfl hdV_X6_pass ⟨(Nat.le_of_ble_eq_true rfl), (Nat.le_of_ble_eq_true rfl)⟩) rfl hl.1 rfl (Nat.le_of_ble_eq_true rfl) dX6_readLaw_3 ⟨Nat.zero_le _, Nat.zero_le _⟩ (fun H locs G => ?_)
  refine lv_aload_n X.1.1 X.1.2.1 dX6_readLaw_6 rfl (lv_at hl 1 rfl) ?_
  refine lv_aload_n X.1.1 X.1.2.1 dX6_readLaw_7 rfl (lv_at hl 0 rfl) ?_
  refine lv_iconst (v := 0) X.1.1 X.1.2.1 dX6_readLaw_8 (by decide) ?_
  refine lv_bipush (v := 9) X.1.1 X.1.2.1 dX6_readLaw_9 (by decide) ?_
  obtain ⟨hk, hf⟩ := zck hf
  obtain ⟨q2, eq2, hf⟩ := Option.bind_eq_some_iff.mp hf
  refine zcV0 (As := [.int (0 : Int32), .int (9 : Int32)]) (rest := [.ref (b0 + r1)]) (v := (some (.int q2.1))) (h' := q2.2) X G (rfl : vwCl[6]? = some (RX6, TX6, 4)) hk (m_X6_number l D dA b0 r0 (0 : Int32) (9 : Int32) q1 q2 eq2) (cwV 2 X.1.2.2.2.2 gX6_readLaw_X6_number rfl rfl rfl hdV_X6_number ⟨(Nat.le_of_ble_eq_true rfl), (Nat.le_of_ble_eq_true rfl)⟩) rfl hl.1 rfl (Nat.le_of_ble_eq_true rfl) dX6_readLaw_11 ⟨Nat.zero_le _, Nat.zero_le _⟩ (fun H locs G => ?_)
  refine zputI (ci := 3) (k := 3) (C := RX3) (T := TX3) (N := 12) X G rfl inX6_readLaw_X3 tyX3_ok nmX3 (Nat.le_of_ble_eq_true rfl) flX6_readLaw_55 rfl (by decide +kernel) dX6_readLaw_14 hf (fun h3 H locs hf G => ?_)
  refine lv_aload_n X.1.1 X.1.2.1 dX6_readLaw_17 rfl (lv_at hl 0 rfl) ?_
  refine lv_bipush (v := 44) X.1.1 X.1.2.1 dX6_readLaw_18 (by decide) ?_
  obtain ⟨hk, hf⟩ := zck hf
  obtain ⟨q4, eq4, hf⟩ := Option.bind_eq_some_iff.mp hf
  refine zcV0 (As := [.int (44 : Int32)]) (rest := []) (v := none) (h' := q4) X G (rfl : vwCl[6]? = some (RX6, TX6, 4)) hk (m_X6_pass l D dA b0 r0 (44 : Int32) h3 q4 eq4) (cwV 1 X.1.2.2.2.2 gX6_readLaw_X6_pass rfl rfl rfl hdV_X6_pass ⟨(Nat.le_of_ble_eq_true rfl), (Nat.le_of_ble_eq_true rfl)⟩) rfl hl.1 rfl (Nat.le_of_ble_eq_true rfl) dX6_readLaw_20 ⟨Nat.zero_le _, Nat.zero_le _⟩ (fun H locs G => ?_)
  refine lv_aload_n X.1.1 X.1.2.1 dX6_readLaw_23 rfl (lv_at hl 1 rfl) ?_
  refine lv_aload_n X.1.1 X.1.2.1 dX6_readLaw_24 rfl (lv_at hl 0 rfl) ?_
  refine lv_iconst (v := 1) X.1.1 X.1.2.1 dX6_readLaw_25 (by decide) ?_
  refine lv_bipush (v := 6) X.1.1 X.1.2.1 dX6_readLaw_26 (by decide) ?_
  obtain ⟨hk, hf⟩ := zck hf
  obtain ⟨q5, eq5, hf⟩ := Option.bind_eq_some_iff.mp hf
  refine zcV0 (As := [.int (1 : Int32), .int (6 : Int32)]) (rest := [.ref (b0 + r1)]) (v := (some (.int q5.1))) (h' := q5.2) X G (rfl : vwCl[6]? = some (RX6, TX6, 4)) hk (m_X6_number l D dA b0 r0 (1 : Int32) (6 : Int32) q4 q5 eq5) (cwV 2 X.1.2.2.2.2 gX6_readLaw_X6_number rfl rfl rfl hdV_X6_number ⟨(Nat.le_of_ble_eq_true rfl), (Nat.le_of_ble_eq_true rfl)⟩) rfl hl.1 rfl (Nat.le_of_ble_eq_true rfl) dX6_readLaw_28 ⟨Nat.zero_le _, Nat.zero_le _⟩ (fun H locs G => ?_)
  refine zputI (ci := 3) (k := 2) (C := RX3) (T := TX3) (N := 12) X G rfl inX6_readLaw_X3 tyX3_ok nmX3 (Nat.le_of_ble_eq_true rfl) flX6_readLaw_58 rfl (by decide +kernel) dX6_readLaw_31 hf (fun h6 H locs hf G => ?_)
  refine lv_aload_n X.1.1 X.1.2.1 dX6_readLaw_34 rfl (lv_at hl 0 rfl) ?_
  refine lv_bipush (v := 59) X.1.1 X.1.2.1 dX6_readLaw_35 (by decide) ?_
  obtain ⟨hk, hf⟩ := zck hf
  obtain ⟨q7, eq7, hf⟩ := Option.bind_eq_some_iff.mp hf
  refine zcV0 (As := [.int (59 : Int32)]) (rest := []) (v := none) (h' := q7) X G (rfl : vwCl[6]? = some (RX6, TX6, 4)) hk (m_X6_pass l D dA b0 r0 (59 : Int32) h6 q7 eq7) (cwV 1 X.1.2.2.2.2 gX6_readLaw_X6_pass rfl rfl rfl hdV_X6_pass ⟨(Nat.le_of_ble_eq_true rfl), (Nat.le_of_ble_eq_true rfl)⟩) rfl hl.1 rfl (Nat.le_of_ble_eq_true rfl) dX6_readLaw_37 ⟨Nat.zero_le _, Nat.zero_le _⟩ (fun H locs G => ?_)
  exact zretV X hr hlk G hf dX6_readLaw_40
/-! X6_sortOf -/
abbrev rmX6_sortOf : Room := { frames := 0, cells := 0, slots := 0, locals := 0 }
theorem hdS_X6_sortOf : yX6_sortOf.cls ≠ "java/lang/invoke/MethodHandle" ∧ yX6_sortOf.cls ≠ "java/lang/invoke/VarHandle" ∧ (parseMethodDescriptor yX6_sortOf.desc).map (fun d => d.parameters.length) = some 1 := by decide +kernel
set_option maxHeartbeats 4000000 in
set_option maxRecDepth 100000 in
theorem m_X6_sortOf (l : Launch) (D : va_G) (dA : Nat → ClassId) (b0 : Nat) (a0 : Int32) (h : zH) (z : Int32) (hf : f_X6_sortOf a0 h = some z) : Met l yX6_sortOf wsX6_sortOf rmX6_sortOf (zPc D dA b0 [.int a0] h) (zQ D dA b0 (some (.int z)) h) 0 0 (zA b0) := by
  refine Met.ofW (cc := cX6_sortOf) (maxL := 1) (ret := (some .int)) (by decide) rfl ?_
  intro p e s m args below meth c s₁ B hml hv
  obtain ⟨rfl, hP, hz, hK, hN⟩ := hv
  have hr := B.returns
  have hlk := B.notSynchronized
  have X : zX p s m _ c cX6_sortOf 1 RX6 wsX6_sortOf D dA := ⟨⟨B.exec, B.bytes, hml, findClass_of_methodNamed B.named, atoms_spec (ws := wsX6_sortOf) B.pre⟩, hK, hN⟩
  have G : zG D dA b0 s.heap h s.heap [] := ⟨hP, hz, va_S.rf⟩
  have hl := lv_entry ([.int a0]) (n := 1) (Nat.le_of_ble_eq_true rfl)
  rw [lg_entry_eq]
  generalize (lg_sl ([.int a0]) ++ List.replicate (1 - (lg_sl ([.int a0])).length) Slot.unset).toArray = ls at hl ⊢
  have hl : lv_has ls 1 [(0, .int a0)] := hl
  unfold f_X6_sortOf at hf
  refine lv_iload_n X.1.1 X.1.2.1 dX6_sortOf_0 rfl (lv_at hl 0 rfl) ?_
  by_cases c0 : a0 = 99
  · rw [if_pos c0] at hf
    refine lv_lookup (off := 53) (tgt := 54) X.1.1 X.1.2.1 dX6_sortOf_1 (by decide) (by rw [c0]; decide) (by decide) ?_
    refine lv_iconst (v := 2) X.1.1 X.1.2.1 dX6_sortOf_54 (by decide) ?_
    exact zretIr X hr hlk G hf dX6_sortOf_55
  rw [if_neg c0] at hf
  by_cases c1 : a0 = 103
  · rw [if_pos c1] at hf
    refine lv_lookup (off := 59) (tgt := 60) X.1.1 X.1.2.1 dX6_sortOf_1 (by decide) (by rw [c1]; decide) (by decide) ?_
    refine lv_iconst (v := 5) X.1.1 X.1.2.1 dX6_sortOf_60 (by decide) ?_
    exact zretIr X hr hlk G hf dX6_sortOf_61
  rw [if_neg c1] at hf
  by_cases c2 : a0 = 105
  · rw [if_pos c2] at hf
    refine lv_lookup (off := 51) (tgt := 52) X.1.1 X.1.2.1 dX6_sortOf_1 (by decide) (by rw [c2]; decide) (by decide) ?_
    refine lv_iconst (v := 1) X.1.1 X.1.2.1 dX6_sortOf_52 (by decide) ?_
    exact zretIr X hr hlk G hf dX6_sortOf_53
  rw [if_neg c2] at hf
  by_cases c3 : a0 = 115
  · rw [if_pos c3] at hf
    refine lv_lookup (off := 57) (tgt := 58) X.1.1 X.1.2.1 dX6_sortOf_1 (by decide) (by rw [c3]; decide) (by decide) ?_
    refine lv_iconst (v := 4) X.1.1 X.1.2.1 dX6_sortOf_58 (by decide) ?_
    exact zretIr X hr hlk G hf dX6_sortOf_59
  rw [if_neg c3] at hf
  by_cases c4 : a0 = 119
  · rw [if_pos c4] at hf
    refine lv_lookup (off := 55) (tgt := 56) X.1.1 X.1.2.1 dX6_sortOf_1 (by decide) (by rw [c4]; decide) (by decide) ?_
    refine lv_iconst (v := 3) X.1.1 X.1.2.1 dX6_sortOf_56 (by decide) ?_
    exact zretIr X hr hlk G hf dX6_sortOf_57
  rw [if_neg c4] at hf
  refine lv_lookup (off := 61) (tgt := 62) X.1.1 X.1.2.1 dX6_sortOf_1 (by decide) (by show Op.lookupswitch.offset [(99, 53), (103, 59), (105, 51), (115, 57), (119, 55)] 61 _ = 61; rw [lv_osw c0 (by decide)]; rw [lv_osw c1 (by decide)]; rw [lv_osw c2 (by decide)]; rw [lv_osw c3 (by decide)]; rw [lv_osw c4 (by decide)]; rfl) (by decide) ?_
  refine lv_iconst (v := 0) X.1.1 X.1.2.1 dX6_sortOf_62 (by decide) ?_
  exact zretIr X hr hlk G hf dX6_sortOf_63
/-! X6_readThing -/
abbrev rmX6_readThing : Room := { frames := 3, cells := 0, slots := 0, locals := 62 }
theorem hdV_X6_readThing : yX6_readThing.cls = RX6 ∧ yX6_readThing.cls ≠ "java/lang/invoke/MethodHandle" ∧ yX6_readThing.cls ≠ "java/lang/invoke/VarHandle" ∧ (parseMethodDescriptor yX6_readThing.desc).map (fun d => d.parameters.length) = some 1 := by decide +kernel
theorem inX6_readThing_X3 : ∀ w ∈ wsX30, w ∈ wsX6_readThing := by decide +kernel
theorem flX6_readThing_31 : Cond.fieldLink RX6 31 (TX3 1).1 (TX3 1).2.1 (TX3 1).2.2.1 ∈ wsX6_readThing := by decide +kernel
theorem inX6_readThing_X6 : ∀ w ∈ wsX60, w ∈ wsX6_readThing := by decide +kernel
theorem flX6_readThing_19 : Cond.fieldLink RX6 19 (TX6 2).1 (TX6 2).2.1 (TX6 2).2.2.1 ∈ wsX6_readThing := by decide +kernel
theorem flX6_readThing_72 : Cond.fieldLink RX6 72 (TX3 6).1 (TX3 6).2.1 (TX3 6).2.2.1 ∈ wsX6_readThing := by decide +kernel
theorem flX6_readThing_75 : Cond.fieldLink RX6 75 (TX3 7).1 (TX3 7).2.1 (TX3 7).2.2.1 ∈ wsX6_readThing := by decide +kernel
theorem flX6_readThing_78 : Cond.fieldLink RX6 78 (TX3 8).1 (TX3 8).2.1 (TX3 8).2.2.1 ∈ wsX6_readThing := by decide +kernel
theorem flX6_readThing_81 : Cond.fieldLink RX6 81 (TX3 9).1 (TX3 9).2.1 (TX3 9).2.2.1 ∈ wsX6_readThing := by decide +kernel
theorem flX6_readThing_84 : Cond.fieldLink RX6 84 (TX3 10).1 (TX3 10).2.1 (TX3 10).2.2.1 ∈ wsX6_readThing := by decide +kernel
theorem flX6_readThing_58 : Cond.fieldLink RX6 58 (TX3 2).1 (TX3 2).2.1 (TX3 2).2.2.1 ∈ wsX6_readThing := by decide +kernel
set_option maxHeartbeats 4000000 in
set_option maxRecDepth 100000 in
theorem m_X6_readThing (l : Launch) (D : va_G) (dA : Nat → ClassId) (b0 : Nat) (r0 : Nat) (r1 : Nat) (h : zH) (z : zH) (hf : f_X6_readThing r0 r1 h = some z) : Met l yX6_readThing wsX6_readThing rmX6_readThing (zPc D dA b0 [.ref (b0 + r0), .ref (b0 + r1)] h) (zQ D dA b0 none z) 0 0 (zA b0) := by
  refine Met.ofW (cc := cX6_readThing) (maxL := 4) (ret := none) (by decide) rfl ?_
  intro p e s m args below meth c s₁ B hml hv
  obtain ⟨rfl, hP, hz, hK, hN⟩ := hv
  have hr := B.returns
  have hlk := B.notSynchronized
  have X : zX p s m _ c cX6_readThing 4 RX6 wsX6_readThing D dA := ⟨⟨B.exec, B.bytes, hml, findClass_of_methodNamed B.named, atoms_spec (ws := wsX6_readThing) B.pre⟩, hK, hN⟩
  have G : zG D dA b0 s.heap h s.heap [] := ⟨hP, hz, va_S.rf⟩
  have hl := lv_entry ([.ref (b0 + r0), .ref (b0 + r1)]) (n := 4) (Nat.le_of_ble_eq_true rfl)
  rw [lg_entry_eq]
  generalize (lg_sl ([.ref (b0 + r0), .ref (b0 + r1)]) ++ List.replicate (4 - (lg_sl ([.ref (b0 + r0), .ref (b0 + r1)])).length) Slot.unset).toArray = ls at hl ⊢
  have hl : lv_has ls 4 [(0, .ref (b0 + r0)), (1, .ref (b0 + r1))] := hl
  unfold f_X6_readThing at hf
  refine lv_aload_n X.1.1 X.1.2.1 dX6_readThing_0 rfl (lv_at hl 0 rfl) ?_
  obtain ⟨hk, hf⟩ := zck hf
  obtain ⟨q1, eq1, hf⟩ := Option.bind_eq_some_iff.mp hf
  refine zcV0 (As := []) (rest := []) (v := (some (.int q1))) (h' := h) X G (rfl : vwCl[6]? = some (RX6, TX6, 4)) hk (m_X6_next l D dA b0 r0 h q1 eq1) (cwV 0 X.1.2.2.2.2 gX6_readThing_X6_next rfl rfl rfl hdV_X6_next ⟨(Nat.le_of_ble_eq_true rfl), (Nat.le_of_ble_eq_true rfl)⟩) rfl hl.1 rfl (Nat.le_of_ble_eq_true rfl) dX6_readThing_1 ⟨Nat.zero_le _, Nat.zero_le _⟩ (fun H locs G => ?_)
  obtain ⟨q2, eq2, hf⟩ := Option.bind_eq_some_iff.mp hf
  refine zcS0 (As := [.int q1]) (rest := []) (v := (some (.int q2))) (h' := h) X G (m_X6_sortOf l D dA b0 q1 h q2 eq2) (va_cwS 1 X.1.2.2.2.2 gX6_readThing_X6_sortOf rfl rfl rfl hdS_X6_sortOf ⟨(Nat.le_of_ble_eq_true rfl), (Nat.le_of_ble_eq_true rfl)⟩) rfl hl.1 rfl (Nat.le_of_ble_eq_true rfl) dX6_readThing_4 ⟨Nat.zero_le _, Nat.zero_le _⟩ (fun H locs G => ?_)
  refine lv_istore_n (lv' := [(2, .int q2), (0, .ref (b0 + r0)), (1, .ref (b0 + r1))]) X.1.1 X.1.2.1 dX6_readThing_7 rfl hl (by decide) rfl (fun ls hl => ?_)
  refine lv_iload_n X.1.1 X.1.2.1 dX6_readThing_8 rfl (lv_at hl 0 rfl) ?_
  refine zif_ne (tgt := 18) X dX6_readThing_9 (by decide) hf (fun hf => ?_) (fun hf => ?_)
  · refine lv_aload_n X.1.1 X.1.2.1 dX6_readThing_18 rfl (lv_at hl 2 rfl) ?_
    refine zgetI (ci := 3) (k := 1) (C := RX3) (T := TX3) (N := 12) X G rfl inX6_readThing_X3 (Nat.le_of_ble_eq_true rfl) flX6_readThing_31 dX6_readThing_19 hf (fun v3 hf => ?_)
    refine lv_istore_n (lv' := [(3, .int v3), (2, .int q2), (0, .ref (b0 + r0)), (1, .ref (b0 + r1))]) X.1.1 X.1.2.1 dX6_readThing_22 rfl hl (by decide) rfl (fun ls hl => ?_)
    refine lv_iload_n X.1.1 X.1.2.1 dX6_readThing_23 rfl (lv_at hl 0 rfl) ?_
    refine lv_iconst (v := 5) X.1.1 X.1.2.1 dX6_readThing_24 (by decide) ?_
    refine zic_lt (tgt := 34) X dX6_readThing_25 (by decide) hf (fun hf => ?_) (fun hf => ?_)
    · refine lv_aload_n X.1.1 X.1.2.1 dX6_readThing_34 rfl (lv_at hl 2 rfl) ?_
      refine lv_dup X.1.1 X.1.2.1 dX6_readThing_35 rfl ?_
      refine zgetI (ci := 6) (k := 2) (C := RX6) (T := TX6) (N := 4) X G rfl inX6_readThing_X6 (Nat.le_of_ble_eq_true rfl) flX6_readThing_19 dX6_readThing_36 hf (fun v4 hf => ?_)
      refine lv_iconst (v := 1) X.1.1 X.1.2.1 dX6_readThing_39 (by decide) ?_
      refine lv_iadd X.1.1 X.1.2.1 dX6_readThing_40 ?_
      refine zputI (ci := 6) (k := 2) (C := RX6) (T := TX6) (N := 4) X G rfl inX6_readThing_X6 tyX6_ok nmX6 (Nat.le_of_ble_eq_true rfl) flX6_readThing_19 rfl (by decide +kernel) dX6_readThing_41 hf (fun h5 H locs hf G => ?_)
      refine lv_aload_n X.1.1 X.1.2.1 dX6_readThing_44 rfl (lv_at hl 3 rfl) ?_
      refine zgetR (ci := 3) (k := 6) (C := RX3) (T := TX3) (N := 12) X G rfl inX6_readThing_X3 (Nat.le_of_ble_eq_true rfl) flX6_readThing_72 dX6_readThing_45 hf (fun v6 hf => ?_)
      refine lv_iload_n X.1.1 X.1.2.1 dX6_readThing_48 rfl (lv_at hl 0 rfl) ?_
      refine lv_iload_n X.1.1 X.1.2.1 dX6_readThing_49 rfl (lv_at hl 1 rfl) ?_
      refine ziast X G dX6_readThing_50 hf (fun h7 H locs hf G => ?_)
      refine lv_aload_n X.1.1 X.1.2.1 dX6_readThing_51 rfl (lv_at hl 3 rfl) ?_
      refine zgetR (ci := 3) (k := 7) (C := RX3) (T := TX3) (N := 12) X G rfl inX6_readThing_X3 (Nat.le_of_ble_eq_true rfl) flX6_readThing_75 dX6_readThing_52 hf (fun v8 hf => ?_)
      refine lv_iload_n X.1.1 X.1.2.1 dX6_readThing_55 rfl (lv_at hl 0 rfl) ?_
      refine lv_aload_n X.1.1 X.1.2.1 dX6_readThing_56 rfl (lv_at hl 2 rfl) ?_
      refine lv_iconst (v := 0) X.1.1 X.1.2.1 dX6_readThing_57 (by decide) ?_
      refine lv_bipush (v := 40) X.1.1 X.1.2.1 dX6_readThing_58 (by decide) ?_
      obtain ⟨hk, hf⟩ := zck hf
      obtain ⟨q9, eq9, hf⟩ := Option.bind_eq_some_iff.mp hf
      refine zcV0 (As := [.int (0 : Int32), .int (40 : Int32)]) (rest := [.int v3, .ref (b0 + v8)]) (v := (some (.int q9.1))) (h' := q9.2) X G (rfl : vwCl[6]? = some (RX6, TX6, 4)) hk (m_X6_number l D dA b0 r0 (0 : Int32) (40 : Int32) h7 q9 eq9) (cwV 2 X.1.2.2.2.2 gX6_readThing_X6_number rfl rfl rfl hdV_X6_number ⟨(Nat.le_of_ble_eq_true rfl), (Nat.le_of_ble_eq_true rfl)⟩) rfl hl.1 rfl (Nat.le_of_ble_eq_true rfl) dX6_readThing_60 ⟨Nat.zero_le _, Nat.zero_le _⟩ (fun H locs G => ?_)
      refine ziast X G dX6_readThing_63 hf (fun h10 H locs hf G => ?_)
      refine lv_aload_n X.1.1 X.1.2.1 dX6_readThing_64 rfl (lv_at hl 2 rfl) ?_
      refine lv_bipush (v := 44) X.1.1 X.1.2.1 dX6_readThing_65 (by decide) ?_
      obtain ⟨hk, hf⟩ := zck hf
      obtain ⟨q11, eq11, hf⟩ := Option.bind_eq_some_iff.mp hf
      refine zcV0 (As := [.int (44 : Int32)]) (rest := []) (v := none) (h' := q11) X G (rfl : vwCl[6]? = some (RX6, TX6, 4)) hk (m_X6_pass l D dA b0 r0 (44 : Int32) h10 q11 eq11) (cwV 1 X.1.2.2.2.2 gX6_readThing_X6_pass rfl rfl rfl hdV_X6_pass ⟨(Nat.le_of_ble_eq_true rfl), (Nat.le_of_ble_eq_true rfl)⟩) rfl hl.1 rfl (Nat.le_of_ble_eq_true rfl) dX6_readThing_67 ⟨Nat.zero_le _, Nat.zero_le _⟩ (fun H locs G => ?_)
      refine lv_aload_n X.1.1 X.1.2.1 dX6_readThing_70 rfl (lv_at hl 3 rfl) ?_
      refine zgetR (ci := 3) (k := 8) (C := RX3) (T := TX3) (N := 12) X G rfl inX6_readThing_X3 (Nat.le_of_ble_eq_true rfl) flX6_readThing_78 dX6_readThing_71 hf (fun v12 hf => ?_)
      refine lv_iload_n X.1.1 X.1.2.1 dX6_readThing_74 rfl (lv_at hl 0 rfl) ?_
      refine lv_aload_n X.1.1 X.1.2.1 dX6_readThing_75 rfl (lv_at hl 2 rfl) ?_
      refine lv_iconst (v := 0) X.1.1 X.1.2.1 dX6_readThing_76 (by decide) ?_
      refine lv_iconst (v := 3) X.1.1 X.1.2.1 dX6_readThing_77 (by decide) ?_
      obtain ⟨hk, hf⟩ := zck hf
      obtain ⟨q13, eq13, hf⟩ := Option.bind_eq_some_iff.mp hf
      refine zcV0 (As := [.int (0 : Int32), .int (3 : Int32)]) (rest := [.int v3, .ref (b0 + v12)]) (v := (some (.int q13.1))) (h' := q13.2) X G (rfl : vwCl[6]? = some (RX6, TX6, 4)) hk (m_X6_number l D dA b0 r0 (0 : Int32) (3 : Int32) q11 q13 eq13) (cwV 2 X.1.2.2.2.2 gX6_readThing_X6_number rfl rfl rfl hdV_X6_number ⟨(Nat.le_of_ble_eq_true rfl), (Nat.le_of_ble_eq_true rfl)⟩) rfl hl.1 rfl (Nat.le_of_ble_eq_true rfl) dX6_readThing_78 ⟨Nat.zero_le _, Nat.zero_le _⟩ (fun H locs G => ?_)
      refine ziast X G dX6_readThing_81 hf (fun h14 H locs hf G => ?_)
      refine lv_aload_n X.1.1 X.1.2.1 dX6_readThing_82 rfl (lv_at hl 2 rfl) ?_
      refine lv_bipush (v := 44) X.1.1 X.1.2.1 dX6_readThing_83 (by decide) ?_
      obtain ⟨hk, hf⟩ := zck hf
      obtain ⟨q15, eq15, hf⟩ := Option.bind_eq_some_iff.mp hf
      refine zcV0 (As := [.int (44 : Int32)]) (rest := []) (v := none) (h' := q15) X G (rfl : vwCl[6]? = some (RX6, TX6, 4)) hk (m_X6_pass l D dA b0 r0 (44 : Int32) h14 q15 eq15) (cwV 1 X.1.2.2.2.2 gX6_readThing_X6_pass rfl rfl rfl hdV_X6_pass ⟨(Nat.le_of_ble_eq_true rfl), (Nat.le_of_ble_eq_true rfl)⟩) rfl hl.1 rfl (Nat.le_of_ble_eq_true rfl) dX6_readThing_85 ⟨Nat.zero_le _, Nat.zero_le _⟩ (fun H locs G => ?_)
      refine lv_aload_n X.1.1 X.1.2.1 dX6_readThing_88 rfl (lv_at hl 3 rfl) ?_
      refine zgetR (ci := 3) (k := 9) (C := RX3) (T := TX3) (N := 12) X G rfl inX6_readThing_X3 (Nat.le_of_ble_eq_true rfl) flX6_readThing_81 dX6_readThing_89 hf (fun v16 hf => ?_)
      refine lv_iload_n X.1.1 X.1.2.1 dX6_readThing_92 rfl (lv_at hl 0 rfl) ?_
      refine lv_aload_n X.1.1 X.1.2.1 dX6_readThing_93 rfl (lv_at hl 2 rfl) ?_
      refine lv_iconst (v := 1) X.1.1 X.1.2.1 dX6_readThing_94 (by decide) ?_
      refine lv_bipush (v := 9) X.1.1 X.1.2.1 dX6_readThing_95 (by decide) ?_
      obtain ⟨hk, hf⟩ := zck hf
      obtain ⟨q17, eq17, hf⟩ := Option.bind_eq_some_iff.mp hf
      refine zcV0 (As := [.int (1 : Int32), .int (9 : Int32)]) (rest := [.int v3, .ref (b0 + v16)]) (v := (some (.int q17.1))) (h' := q17.2) X G (rfl : vwCl[6]? = some (RX6, TX6, 4)) hk (m_X6_number l D dA b0 r0 (1 : Int32) (9 : Int32) q15 q17 eq17) (cwV 2 X.1.2.2.2.2 gX6_readThing_X6_number rfl rfl rfl hdV_X6_number ⟨(Nat.le_of_ble_eq_true rfl), (Nat.le_of_ble_eq_true rfl)⟩) rfl hl.1 rfl (Nat.le_of_ble_eq_true rfl) dX6_readThing_97 ⟨Nat.zero_le _, Nat.zero_le _⟩ (fun H locs G => ?_)
      refine ziast X G dX6_readThing_100 hf (fun h18 H locs hf G => ?_)
      refine lv_aload_n X.1.1 X.1.2.1 dX6_readThing_101 rfl (lv_at hl 2 rfl) ?_
      refine lv_bipush (v := 44) X.1.1 X.1.2.1 dX6_readThing_102 (by decide) ?_
      obtain ⟨hk, hf⟩ := zck hf
      obtain ⟨q19, eq19, hf⟩ := Option.bind_eq_some_iff.mp hf
      refine zcV0 (As := [.int (44 : Int32)]) (rest := []) (v := none) (h' := q19) X G (rfl : vwCl[6]? = some (RX6, TX6, 4)) hk (m_X6_pass l D dA b0 r0 (44 : Int32) h18 q19 eq19) (cwV 1 X.1.2.2.2.2 gX6_readThing_X6_pass rfl rfl rfl hdV_X6_pass ⟨(Nat.le_of_ble_eq_true rfl), (Nat.le_of_ble_eq_true rfl)⟩) rfl hl.1 rfl (Nat.le_of_ble_eq_true rfl) dX6_readThing_104 ⟨Nat.zero_le _, Nat.zero_le _⟩ (fun H locs G => ?_)
      refine lv_aload_n X.1.1 X.1.2.1 dX6_readThing_107 rfl (lv_at hl 3 rfl) ?_
      refine zgetR (ci := 3) (k := 10) (C := RX3) (T := TX3) (N := 12) X G rfl inX6_readThing_X3 (Nat.le_of_ble_eq_true rfl) flX6_readThing_84 dX6_readThing_108 hf (fun v20 hf => ?_)
      refine lv_iload_n X.1.1 X.1.2.1 dX6_readThing_111 rfl (lv_at hl 0 rfl) ?_
      refine lv_aload_n X.1.1 X.1.2.1 dX6_readThing_112 rfl (lv_at hl 2 rfl) ?_
      refine lv_iconst (v := 0) X.1.1 X.1.2.1 dX6_readThing_113 (by decide) ?_
      refine lv_iconst (v := 1) X.1.1 X.1.2.1 dX6_readThing_114 (by decide) ?_
      refine lv_aload_n X.1.1 X.1.2.1 dX6_readThing_115 rfl (lv_at hl 3 rfl) ?_
      refine zgetI (ci := 3) (k := 2) (C := RX3) (T := TX3) (N := 12) X G rfl inX6_readThing_X3 (Nat.le_of_ble_eq_true rfl) flX6_readThing_58 dX6_readThing_116 hf (fun v21 hf => ?_)
      refine lv_ishl X.1.1 X.1.2.1 dX6_readThing_119 ?_
      refine lv_iconst (v := 1) X.1.1 X.1.2.1 dX6_readThing_120 (by decide) ?_
      refine lv_isub X.1.1 X.1.2.1 dX6_readThing_121 ?_
      obtain ⟨hk, hf⟩ := zck hf
      obtain ⟨q22, eq22, hf⟩ := Option.bind_eq_some_iff.mp hf
      refine zcV0 (As := [.int (0 : Int32), .int (((1 : Int32) <<< (v21 &&& 31)) - (1 : Int32))]) (rest := [.int v3, .ref (b0 + v20)]) (v := (some (.int q22.1))) (h' := q22.2) X G (rfl : vwCl[6]? = some (RX6, TX6, 4)) hk (m_X6_number l D dA b0 r0 (0 : Int32) ((((1 : Int32) <<< (v21 &&& 31)) - (1 : Int32))) q19 q22 eq22) (cwV 2 X.1.2.2.2.2 gX6_readThing_X6_number rfl rfl rfl hdV_X6_number ⟨(Nat.le_of_ble_eq_true rfl), (Nat.le_of_ble_eq_true rfl)⟩) rfl hl.1 rfl (Nat.le_of_ble_eq_true rfl) dX6_readThing_122 ⟨Nat.zero_le _, Nat.zero_le _⟩ (fun H locs G => ?_)
      refine ziast X G dX6_readThing_125 hf (fun h23 H locs hf G => ?_)
      refine lv_aload_n X.1.1 X.1.2.1 dX6_readThing_126 rfl (lv_at hl 2 rfl) ?_
      refine lv_bipush (v := 59) X.1.1 X.1.2.1 dX6_readThing_127 (by decide) ?_
      obtain ⟨hk, hf⟩ := zck hf
      obtain ⟨q24, eq24, hf⟩ := Option.bind_eq_some_iff.mp hf
      refine zcV0 (As := [.int (59 : Int32)]) (rest := []) (v := none) (h' := q24) X G (rfl : vwCl[6]? = some (RX6, TX6, 4)) hk (m_X6_pass l D dA b0 r0 (59 : Int32) h23 q24 eq24) (cwV 1 X.1.2.2.2.2 gX6_readThing_X6_pass rfl rfl rfl hdV_X6_pass ⟨(Nat.le_of_ble_eq_true rfl), (Nat.le_of_ble_eq_true rfl)⟩) rfl hl.1 rfl (Nat.le_of_ble_eq_true rfl) dX6_readThing_129 ⟨Nat.zero_le _, Nat.zero_le _⟩ (fun H locs G => ?_)
      refine lv_aload_n X.1.1 X.1.2.1 dX6_readThing_132 rfl (lv_at hl 3 rfl) ?_
      refine lv_iload_n X.1.1 X.1.2.1 dX6_readThing_133 rfl (lv_at hl 0 rfl) ?_
      refine lv_iconst (v := 1) X.1.1 X.1.2.1 dX6_readThing_134 (by decide) ?_
      refine lv_iadd X.1.1 X.1.2.1 dX6_readThing_135 ?_
      refine zputI (ci := 3) (k := 1) (C := RX3) (T := TX3) (N := 12) X G rfl inX6_readThing_X3 tyX3_ok nmX3 (Nat.le_of_ble_eq_true rfl) flX6_readThing_31 rfl (by decide +kernel) dX6_readThing_136 hf (fun h25 H locs hf G => ?_)
      exact zretV X hr hlk G hf dX6_readThing_139
    · refine lv_aload_n X.1.1 X.1.2.1 dX6_readThing_28 rfl (lv_at hl 2 rfl) ?_
      refine lv_iconst (v := 3) X.1.1 X.1.2.1 dX6_readThing_29 (by decide) ?_
      obtain ⟨hk, hf⟩ := zck hf
      obtain ⟨q26, eq26, hf⟩ := Option.bind_eq_some_iff.mp hf
      refine zcV0 (As := [.int (3 : Int32)]) (rest := []) (v := none) (h' := q26) X G (rfl : vwCl[6]? = some (RX6, TX6, 4)) hk (m_X6_fail l D dA b0 r0 (3 : Int32) h q26 eq26) (cwV 1 X.1.2.2.2.2 gX6_readThing_X6_fail rfl rfl rfl hdV_X6_fail ⟨(Nat.le_of_ble_eq_true rfl), (Nat.le_of_ble_eq_true rfl)⟩) rfl hl.1 rfl (Nat.le_of_ble_eq_true rfl) dX6_readThing_30 ⟨Nat.zero_le _, Nat.zero_le _⟩ (fun H locs G => ?_)
      exact zretV X hr hlk G hf dX6_readThing_33
  · refine lv_aload_n X.1.1 X.1.2.1 dX6_readThing_12 rfl (lv_at hl 1 rfl) ?_
    refine lv_iconst (v := 1) X.1.1 X.1.2.1 dX6_readThing_13 (by decide) ?_
    obtain ⟨hk, hf⟩ := zck hf
    obtain ⟨q27, eq27, hf⟩ := Option.bind_eq_some_iff.mp hf
    refine zcV0 (As := [.int (1 : Int32)]) (rest := []) (v := none) (h' := q27) X G (rfl : vwCl[6]? = some (RX6, TX6, 4)) hk (m_X6_fail l D dA b0 r0 (1 : Int32) h q27 eq27) (cwV 1 X.1.2.2.2.2 gX6_readThing_X6_fail rfl rfl rfl hdV_X6_fail ⟨(Nat.le_of_ble_eq_true rfl), (Nat.le_of_ble_eq_true rfl)⟩) rfl hl.1 rfl (Nat.le_of_ble_eq_true rfl) dX6_readThing_14 ⟨Nat.zero_le _, Nat.zero_le _⟩ (fun H locs G => ?_)
    exact zretV X hr hlk G hf dX6_readThing_17
/-! X6_readInto -/
abbrev rmX6_readInto : Room := { frames := 4, cells := 0, slots := 0, locals := 85 }
theorem hdV_X6_readInto : yX6_readInto.cls = RX6 ∧ yX6_readInto.cls ≠ "java/lang/invoke/MethodHandle" ∧ yX6_readInto.cls ≠ "java/lang/invoke/VarHandle" ∧ (parseMethodDescriptor yX6_readInto.desc).map (fun d => d.parameters.length) = some 1 := by decide +kernel
theorem inX6_readInto_X6 : ∀ w ∈ wsX60, w ∈ wsX6_readInto := by decide +kernel
theorem flX6_readInto_22 : Cond.fieldLink RX6 22 (TX6 3).1 (TX6 3).2.1 (TX6 3).2.2.1 ∈ wsX6_readInto := by decide +kernel
theorem flX6_readInto_19 : Cond.fieldLink RX6 19 (TX6 2).1 (TX6 2).2.1 (TX6 2).2.2.1 ∈ wsX6_readInto := by decide +kernel
theorem flX6_readInto_15 : Cond.fieldLink RX6 15 (TX6 1).1 (TX6 1).2.1 (TX6 1).2.2.1 ∈ wsX6_readInto := by decide +kernel
theorem inX6_readInto_X3 : ∀ w ∈ wsX30, w ∈ wsX6_readInto := by decide +kernel
theorem flX6_readInto_25 : Cond.fieldLink RX6 25 (TX3 0).1 (TX3 0).2.1 (TX3 0).2.2.1 ∈ wsX6_readInto := by decide +kernel
theorem flX6_readInto_31 : Cond.fieldLink RX6 31 (TX3 1).1 (TX3 1).2.1 (TX3 1).2.2.1 ∈ wsX6_readInto := by decide +kernel
theorem flX6_readInto_34 : Cond.fieldLink RX6 34 (TX3 4).1 (TX3 4).2.1 (TX3 4).2.2.1 ∈ wsX6_readInto := by decide +kernel
theorem flX6_readInto_37 : Cond.fieldLink RX6 37 (TX3 5).1 (TX3 5).2.1 (TX3 5).2.2.1 ∈ wsX6_readInto := by decide +kernel
set_option maxHeartbeats 4000000 in
set_option maxRecDepth 100000 in
theorem w_X6_readInto_b72 {p : Program} {l : Launch} {e : Env} {s : State} {m : MethodId} {args : Array Value} {below : List Frame} {meth : Method} {c : Code} {D : va_G} {dA : Nat → ClassId} {b0 : Nat} (X : zX p s m args c cX6_readInto 3 RX6 wsX6_readInto D dA) (hr : meth.sig.returnType = (some .int)) (hlk : meth.locks = false) {z : Int32 × zH} : ∀ (r0 : Nat) (h : zH) (H : Heap) (locs : List Loc) (ls : Array Slot), f_X6_readInto_b72 r0 h = some z → zG D dA b0 s.heap h H locs → lv_has ls 3 [(0, .ref (b0 + r0))] → W p l e rmX6_readInto s m args below meth c H locs 0 0 (MQ below (zQ D dA b0 (some (.int z.1)) z.2) args s 0 0 (zA b0)) (F0 m 72 ls []) := by
  intro r0 h H locs ls hf G hl
  unfold f_X6_readInto_b72 at hf
  refine lv_aload_n X.1.1 X.1.2.1 dX6_readInto_72 rfl (lv_at hl 0 rfl) ?_
  refine zgetI (ci := 6) (k := 3) (C := RX6) (T := TX6) (N := 4) X G rfl inX6_readInto_X6 (Nat.le_of_ble_eq_true rfl) flX6_readInto_22 dX6_readInto_73 hf (fun v1 hf => ?_)
  exact zretI X hr hlk G hf dX6_readInto_76
set_option maxHeartbeats 4000000 in
set_option maxRecDepth 100000 in
theorem w_X6_readInto_b37 {p : Program} {l : Launch} {e : Env} {s : State} {m : MethodId} {args : Array Value} {below : List Frame} {meth : Method} {c : Code} {D : va_G} {dA : Nat → ClassId} {b0 : Nat} (X : zX p s m args c cX6_readInto 3 RX6 wsX6_readInto D dA) (hr : meth.sig.returnType = (some .int)) (hlk : meth.locks = false) {z : Int32 × zH} : ∀ (n : Nat), ∀ (r0 : Nat) (r1 : Nat) (a2 : Int32) (h : zH) (H : Heap) (locs : List Loc) (ls : Array Slot), f_X6_readInto_b37 n r0 r1 a2 h = some z → zG D dA b0 s.heap h H locs → lv_has ls 3 [(0, .ref (b0 + r0)), (1, .ref (b0 + r1)), (2, .int a2)] → W p l e rmX6_readInto s m args below meth c H locs 0 0 (MQ below (zQ D dA b0 (some (.int z.1)) z.2) args s 0 0 (zA b0)) (F0 m 37 ls []) := by
  intro n
  induction n with
  | zero =>
    intro r0 r1 a2 h H locs ls hf
    cases hf
  | succ n ih =>
    intro r0 r1 a2 h H locs ls hf G hl
    rw [f_X6_readInto_b37] at hf
    refine lv_iload_n X.1.1 X.1.2.1 dX6_readInto_37 rfl (lv_at hl 2 rfl) ?_
    refine lv_bipush (v := 100) X.1.1 X.1.2.1 dX6_readInto_38 (by decide) ?_
    refine zic_ge (tgt := 72) X dX6_readInto_40 (by decide) hf (fun hf => ?_) (fun hf => ?_)
    · exact w_X6_readInto_b72 X hr hlk _ _ _ _ _ hf G (lv_sub hl [0] rfl)
    · refine lv_aload_n X.1.1 X.1.2.1 dX6_readInto_43 rfl (lv_at hl 0 rfl) ?_
      refine zgetI (ci := 6) (k := 3) (C := RX6) (T := TX6) (N := 4) X G rfl inX6_readInto_X6 (Nat.le_of_ble_eq_true rfl) flX6_readInto_22 dX6_readInto_44 hf (fun v1 hf => ?_)
      refine zif_ne (tgt := 72) X dX6_readInto_47 (by decide) hf (fun hf => ?_) (fun hf => ?_)
      · exact w_X6_readInto_b72 X hr hlk _ _ _ _ _ hf G (lv_sub hl [0] rfl)
      · refine lv_aload_n X.1.1 X.1.2.1 dX6_readInto_50 rfl (lv_at hl 0 rfl) ?_
        refine zgetI (ci := 6) (k := 2) (C := RX6) (T := TX6) (N := 4) X G rfl inX6_readInto_X6 (Nat.le_of_ble_eq_true rfl) flX6_readInto_19 dX6_readInto_51 hf (fun v2 hf => ?_)
        refine lv_aload_n X.1.1 X.1.2.1 dX6_readInto_54 rfl (lv_at hl 0 rfl) ?_
        refine zgetI (ci := 6) (k := 1) (C := RX6) (T := TX6) (N := 4) X G rfl inX6_readInto_X6 (Nat.le_of_ble_eq_true rfl) flX6_readInto_15 dX6_readInto_55 hf (fun v3 hf => ?_)
        refine zic_ge (tgt := 72) X dX6_readInto_58 (by decide) hf (fun hf => ?_) (fun hf => ?_)
        · exact w_X6_readInto_b72 X hr hlk _ _ _ _ _ hf G (lv_sub hl [0] rfl)
        · refine lv_aload_n X.1.1 X.1.2.1 dX6_readInto_61 rfl (lv_at hl 0 rfl) ?_
          refine lv_aload_n X.1.1 X.1.2.1 dX6_readInto_62 rfl (lv_at hl 1 rfl) ?_
          obtain ⟨hk, hf⟩ := zck hf
          obtain ⟨q4, eq4, hf⟩ := Option.bind_eq_some_iff.mp hf
          refine zcV0 (As := [.ref (b0 + r1)]) (rest := []) (v := none) (h' := q4) X G (rfl : vwCl[6]? = some (RX6, TX6, 4)) hk (m_X6_readThing l D dA b0 r0 r1 h q4 eq4) (cwV 1 X.1.2.2.2.2 gX6_readInto_X6_readThing rfl rfl rfl hdV_X6_readThing ⟨(Nat.le_of_ble_eq_true rfl), (Nat.le_of_ble_eq_true rfl)⟩) rfl hl.1 rfl (Nat.le_of_ble_eq_true rfl) dX6_readInto_63 ⟨Nat.zero_le _, Nat.zero_le _⟩ (fun H locs G => ?_)
          refine lv_iinc (v := (a2 + (1 : Int32))) (lv' := [(2, .int (a2 + (1 : Int32))), (0, .ref (b0 + r0)), (1, .ref (b0 + r1))]) X.1.1 X.1.2.1 dX6_readInto_66 hl (k := 2) rfl rfl (by decide) rfl (fun ls hl => ?_)
          refine lv_goto (tgt := 37) X.1.1 X.1.2.1 dX6_readInto_69 (by decide) ?_
          exact ih _ _ _ _ _ _ _ hf G (lv_sub hl [1, 2, 0] rfl)
set_option maxHeartbeats 4000000 in
set_option maxRecDepth 100000 in
theorem m_X6_readInto (l : Launch) (D : va_G) (dA : Nat → ClassId) (b0 : Nat) (r0 : Nat) (r1 : Nat) (h : zH) (z : Int32 × zH) (hf : f_X6_readInto r0 r1 h = some z) : Met l yX6_readInto wsX6_readInto rmX6_readInto (zPc D dA b0 [.ref (b0 + r0), .ref (b0 + r1)] h) (zQ D dA b0 (some (.int z.1)) z.2) 0 0 (zA b0) := by
  refine Met.ofW (cc := cX6_readInto) (maxL := 3) (ret := (some .int)) (by decide) rfl ?_
  intro p e s m args below meth c s₁ B hml hv
  obtain ⟨rfl, hP, hz, hK, hN⟩ := hv
  have hr := B.returns
  have hlk := B.notSynchronized
  have X : zX p s m _ c cX6_readInto 3 RX6 wsX6_readInto D dA := ⟨⟨B.exec, B.bytes, hml, findClass_of_methodNamed B.named, atoms_spec (ws := wsX6_readInto) B.pre⟩, hK, hN⟩
  have G : zG D dA b0 s.heap h s.heap [] := ⟨hP, hz, va_S.rf⟩
  have hl := lv_entry ([.ref (b0 + r0), .ref (b0 + r1)]) (n := 3) (Nat.le_of_ble_eq_true rfl)
  rw [lg_entry_eq]
  generalize (lg_sl ([.ref (b0 + r0), .ref (b0 + r1)]) ++ List.replicate (3 - (lg_sl ([.ref (b0 + r0), .ref (b0 + r1)])).length) Slot.unset).toArray = ls at hl ⊢
  have hl : lv_has ls 3 [(0, .ref (b0 + r0)), (1, .ref (b0 + r1))] := hl
  unfold f_X6_readInto at hf
  refine lv_aload_n X.1.1 X.1.2.1 dX6_readInto_0 rfl (lv_at hl 0 rfl) ?_
  refine lv_iconst (v := 0) X.1.1 X.1.2.1 dX6_readInto_1 (by decide) ?_
  refine zputI (ci := 6) (k := 2) (C := RX6) (T := TX6) (N := 4) X G rfl inX6_readInto_X6 tyX6_ok nmX6 (Nat.le_of_ble_eq_true rfl) flX6_readInto_19 rfl (by decide +kernel) dX6_readInto_2 hf (fun h1 H locs hf G => ?_)
  refine lv_aload_n X.1.1 X.1.2.1 dX6_readInto_5 rfl (lv_at hl 0 rfl) ?_
  refine lv_iconst (v := 0) X.1.1 X.1.2.1 dX6_readInto_6 (by decide) ?_
  refine zputI (ci := 6) (k := 3) (C := RX6) (T := TX6) (N := 4) X G rfl inX6_readInto_X6 tyX6_ok nmX6 (Nat.le_of_ble_eq_true rfl) flX6_readInto_22 rfl (by decide +kernel) dX6_readInto_7 hf (fun h2 H locs hf G => ?_)
  refine lv_aload_n X.1.1 X.1.2.1 dX6_readInto_10 rfl (lv_at hl 1 rfl) ?_
  refine lv_iconst (v := 1) X.1.1 X.1.2.1 dX6_readInto_11 (by decide) ?_
  refine zputB (ci := 3) (k := 0) (C := RX3) (T := TX3) (N := 12) X G rfl inX6_readInto_X3 tyX3_ok nmX3 (Nat.le_of_ble_eq_true rfl) flX6_readInto_25 rfl (by decide +kernel) dX6_readInto_12 hf (fun h3 H locs hf G => ?_)
  refine lv_aload_n X.1.1 X.1.2.1 dX6_readInto_15 rfl (lv_at hl 1 rfl) ?_
  refine lv_iconst (v := 0) X.1.1 X.1.2.1 dX6_readInto_16 (by decide) ?_
  refine zputI (ci := 3) (k := 1) (C := RX3) (T := TX3) (N := 12) X G rfl inX6_readInto_X3 tyX3_ok nmX3 (Nat.le_of_ble_eq_true rfl) flX6_readInto_31 rfl (by decide +kernel) dX6_readInto_17 hf (fun h5 H locs hf G => ?_)
  refine lv_aload_n X.1.1 X.1.2.1 dX6_readInto_20 rfl (lv_at hl 1 rfl) ?_
  refine lv_iconst (v := 0) X.1.1 X.1.2.1 dX6_readInto_21 (by decide) ?_
  refine zputI (ci := 3) (k := 4) (C := RX3) (T := TX3) (N := 12) X G rfl inX6_readInto_X3 tyX3_ok nmX3 (Nat.le_of_ble_eq_true rfl) flX6_readInto_34 rfl (by decide +kernel) dX6_readInto_22 hf (fun h6 H locs hf G => ?_)
  refine lv_aload_n X.1.1 X.1.2.1 dX6_readInto_25 rfl (lv_at hl 1 rfl) ?_
  refine lv_iconst (v := 0) X.1.1 X.1.2.1 dX6_readInto_26 (by decide) ?_
  refine zputI (ci := 3) (k := 5) (C := RX3) (T := TX3) (N := 12) X G rfl inX6_readInto_X3 tyX3_ok nmX3 (Nat.le_of_ble_eq_true rfl) flX6_readInto_37 rfl (by decide +kernel) dX6_readInto_27 hf (fun h7 H locs hf G => ?_)
  refine lv_aload_n X.1.1 X.1.2.1 dX6_readInto_30 rfl (lv_at hl 0 rfl) ?_
  refine lv_aload_n X.1.1 X.1.2.1 dX6_readInto_31 rfl (lv_at hl 1 rfl) ?_
  obtain ⟨hk, hf⟩ := zck hf
  obtain ⟨q8, eq8, hf⟩ := Option.bind_eq_some_iff.mp hf
  refine zcV0 (As := [.ref (b0 + r1)]) (rest := []) (v := none) (h' := q8) X G (rfl : vwCl[6]? = some (RX6, TX6, 4)) hk (m_X6_readLaw l D dA b0 r0 r1 h7 q8 eq8) (cwV 1 X.1.2.2.2.2 gX6_readInto_X6_readLaw rfl rfl rfl hdV_X6_readLaw ⟨(Nat.le_of_ble_eq_true rfl), (Nat.le_of_ble_eq_true rfl)⟩) rfl hl.1 rfl (Nat.le_of_ble_eq_true rfl) dX6_readInto_32 ⟨Nat.zero_le _, Nat.zero_le _⟩ (fun H locs G => ?_)
  refine lv_iconst (v := 0) X.1.1 X.1.2.1 dX6_readInto_35 (by decide) ?_
  refine lv_istore_n (lv' := [(2, .int (0 : Int32)), (0, .ref (b0 + r0)), (1, .ref (b0 + r1))]) X.1.1 X.1.2.1 dX6_readInto_36 rfl hl (by decide) rfl (fun ls hl => ?_)
  exact w_X6_readInto_b37 X hr hlk _ _ _ _ _ _ _ _ hf G (lv_sub hl [1, 2, 0] rfl)
/-! X7_init -/
abbrev rmX7_init : Room := { frames := 3, cells := 240, slots := 1828, locals := 81 }
theorem hdS_X7_init : yX7_init.cls ≠ "java/lang/invoke/MethodHandle" ∧ yX7_init.cls ≠ "java/lang/invoke/VarHandle" ∧ (parseMethodDescriptor yX7_init.desc).map (fun d => d.parameters.length) = some 0 := by decide +kernel
theorem wdX7_init_oL1 : Cond.methodLink RX7 1 objectInit ∈ wsX7_init := by decide +kernel
theorem wdX7_init_oI : Cond.instanceMethod objectInit ∈ wsX7_init := by decide +kernel
theorem wdX7_init_oC : Cond.code objectInit ⟨#[0xb1]⟩ 1 none ∈ wsX7_init := by decide +kernel
theorem wdX7_init_cl7 : Cond.classLink RX7 7 RX4 ∈ wsX7_init := by decide +kernel
theorem wdX7_init_ins_X4 : Cond.instantiable RX4 3 ∈ wsX7_init := by decide +kernel
theorem wdX7_init_ini_X4 : Cond.initialized RX4 ∈ wsX7_init := by decide +kernel
theorem inX7_init_X4 : ∀ w ∈ wsX40, w ∈ wsX7_init := by decide +kernel
theorem wdX7_init_im_X4_init : Cond.instanceMethod yX4_init ∈ wsX7_init := by decide +kernel
theorem wdX7_init_ml9 : Cond.methodLink RX7 9 yX4_init ∈ wsX7_init := by decide +kernel
theorem inX7_init_X7 : ∀ w ∈ wsX70, w ∈ wsX7_init := by decide +kernel
theorem flX7_init_10 : Cond.fieldLink RX7 10 (TX7 0).1 (TX7 0).2.1 (TX7 0).2.2.1 ∈ wsX7_init := by decide +kernel
theorem wdX7_init_cl16 : Cond.classLink RX7 16 RX6 ∈ wsX7_init := by decide +kernel
theorem wdX7_init_ins_X6 : Cond.instantiable RX6 4 ∈ wsX7_init := by decide +kernel
theorem wdX7_init_ini_X6 : Cond.initialized RX6 ∈ wsX7_init := by decide +kernel
theorem inX7_init_X6 : ∀ w ∈ wsX60, w ∈ wsX7_init := by decide +kernel
theorem wdX7_init_im_X6_init : Cond.instanceMethod yX6_init ∈ wsX7_init := by decide +kernel
theorem flX7_init_19 : Cond.fieldLink RX7 19 (TX7 1).1 (TX7 1).2.1 (TX7 1).2.2.1 ∈ wsX7_init := by decide +kernel
theorem wdX7_init_cl23 : Cond.classLink RX7 23 RX3 ∈ wsX7_init := by decide +kernel
theorem wdX7_init_ins_X3 : Cond.instantiable RX3 12 ∈ wsX7_init := by decide +kernel
theorem wdX7_init_ini_X3 : Cond.initialized RX3 ∈ wsX7_init := by decide +kernel
theorem inX7_init_X3 : ∀ w ∈ wsX30, w ∈ wsX7_init := by decide +kernel
theorem wdX7_init_im_X3_init : Cond.instanceMethod yX3_init ∈ wsX7_init := by decide +kernel
theorem flX7_init_26 : Cond.fieldLink RX7 26 (TX7 2).1 (TX7 2).2.1 (TX7 2).2.2.1 ∈ wsX7_init := by decide +kernel
theorem flX7_init_30 : Cond.fieldLink RX7 30 (TX7 3).1 (TX7 3).2.1 (TX7 3).2.2.1 ∈ wsX7_init := by decide +kernel
theorem wdX7_init_cl33 : Cond.classLink RX7 33 RX0 ∈ wsX7_init := by decide +kernel
theorem wdX7_init_ins_X0 : Cond.instantiable RX0 3 ∈ wsX7_init := by decide +kernel
theorem wdX7_init_ini_X0 : Cond.initialized RX0 ∈ wsX7_init := by decide +kernel
theorem inX7_init_X0 : ∀ w ∈ wsX00, w ∈ wsX7_init := by decide +kernel
theorem wdX7_init_im_X0_init : Cond.instanceMethod yX0_init ∈ wsX7_init := by decide +kernel
theorem wdX7_init_ml35 : Cond.methodLink RX7 35 yX0_init ∈ wsX7_init := by decide +kernel
theorem flX7_init_36 : Cond.fieldLink RX7 36 (TX7 4).1 (TX7 4).2.1 (TX7 4).2.2.1 ∈ wsX7_init := by decide +kernel
theorem flX7_init_40 : Cond.fieldLink RX7 40 (TX7 5).1 (TX7 5).2.1 (TX7 5).2.2.1 ∈ wsX7_init := by decide +kernel
theorem wdX7_init_cl44 : Cond.classLink RX7 44 RX5 ∈ wsX7_init := by decide +kernel
theorem wdX7_init_ins_X5 : Cond.instantiable RX5 2 ∈ wsX7_init := by decide +kernel
theorem wdX7_init_ini_X5 : Cond.initialized RX5 ∈ wsX7_init := by decide +kernel
theorem inX7_init_X5 : ∀ w ∈ wsX50, w ∈ wsX7_init := by decide +kernel
theorem wdX7_init_im_X5_init : Cond.instanceMethod yX5_init ∈ wsX7_init := by decide +kernel
theorem flX7_init_47 : Cond.fieldLink RX7 47 (TX7 6).1 (TX7 6).2.1 (TX7 6).2.2.1 ∈ wsX7_init := by decide +kernel
theorem wdX7_init_cl51 : Cond.classLink RX7 51 RX2 ∈ wsX7_init := by decide +kernel
theorem wdX7_init_ins_X2 : Cond.instantiable RX2 5 ∈ wsX7_init := by decide +kernel
theorem wdX7_init_ini_X2 : Cond.initialized RX2 ∈ wsX7_init := by decide +kernel
theorem inX7_init_X2 : ∀ w ∈ wsX20, w ∈ wsX7_init := by decide +kernel
theorem wdX7_init_im_X2_init : Cond.instanceMethod yX2_init ∈ wsX7_init := by decide +kernel
theorem flX7_init_54 : Cond.fieldLink RX7 54 (TX7 7).1 (TX7 7).2.1 (TX7 7).2.2.1 ∈ wsX7_init := by decide +kernel
theorem wdX7_init_cl58 : Cond.classLink RX7 58 RX1 ∈ wsX7_init := by decide +kernel
theorem wdX7_init_ins_X1 : Cond.instantiable RX1 2 ∈ wsX7_init := by decide +kernel
theorem wdX7_init_ini_X1 : Cond.initialized RX1 ∈ wsX7_init := by decide +kernel
theorem inX7_init_X1 : ∀ w ∈ wsX10, w ∈ wsX7_init := by decide +kernel
theorem wdX7_init_im_X1_init : Cond.instanceMethod yX1_init ∈ wsX7_init := by decide +kernel
theorem flX7_init_61 : Cond.fieldLink RX7 61 (TX7 8).1 (TX7 8).2.1 (TX7 8).2.2.1 ∈ wsX7_init := by decide +kernel
theorem flX7_init_65 : Cond.fieldLink RX7 65 (TX7 9).1 (TX7 9).2.1 (TX7 9).2.2.1 ∈ wsX7_init := by decide +kernel
theorem flX7_init_69 : Cond.fieldLink RX7 69 (TX7 10).1 (TX7 10).2.1 (TX7 10).2.2.1 ∈ wsX7_init := by decide +kernel
set_option maxHeartbeats 8000000 in
set_option maxRecDepth 100000 in
theorem m_X7_init (l : Launch) (D : va_G) (dA : Nat → ClassId) (b0 : Nat) (r0 : Nat) (h : zH) (z : zH) (hf : f_X7_init r0 h = some z) : Met l yX7_init wsX7_init rmX7_init (zPc D dA b0 [.ref (b0 + r0)] h) (zQ D dA b0 none z) 240 1828 (zA b0) := by
  refine Met.ofW (cc := cX7_init) (maxL := 2) (ret := none) (by decide) rfl ?_
  intro p e s m args below meth c s₁ B hml hv
  obtain ⟨rfl, hP, hz, hK, hN⟩ := hv
  have hr := B.returns
  have hlk := B.notSynchronized
  have hin : meth.name = "<init>" := (name_of_methodNamed B.named B.method).1
  have hb0 : b0 ≤ s.heap.size := by rw [hz]; exact Nat.le_add_right _ _
  have X : zX p s m _ c cX7_init 2 RX7 wsX7_init D dA := ⟨⟨B.exec, B.bytes, hml, findClass_of_methodNamed B.named, atoms_spec (ws := wsX7_init) B.pre⟩, hK, hN⟩
  have G : zG D dA b0 s.heap h s.heap [] := ⟨hP, hz, va_S.rf⟩
  have hl := lv_entry ([.ref (b0 + r0)]) (n := 2) (Nat.le_of_ble_eq_true rfl)
  rw [lg_entry_eq]
  generalize (lg_sl ([.ref (b0 + r0)]) ++ List.replicate (2 - (lg_sl ([.ref (b0 + r0)])).length) Slot.unset).toArray = ls at hl ⊢
  have hl : lv_has ls 2 [(0, .ref (b0 + r0))] := hl
  unfold f_X7_init at hf
  refine lv_aload_n X.1.1 X.1.2.1 dX7_init_0 rfl (lv_at hl 0 rfl) ?_
  refine W.objInit X.1.1 X.1.2.1 X.1.2.2.2.1 (X.1.2.2.2.2 _ wdX7_init_oL1) (X.1.2.2.2.2 _ wdX7_init_oI) (X.1.2.2.2.2 _ wdX7_init_oC) rfl (hl.1.trans X.1.2.2.1.symm) rfl dX7_init_1 (Nat.le_of_ble_eq_true rfl) (Nat.le_of_ble_eq_true rfl) ?_
  refine W.eq (g2 := F0 m 4 ls []) rfl ?_
  refine lv_aload_n X.1.1 X.1.2.1 dX7_init_4 rfl (lv_at hl 0 rfl) ?_
  refine znew (ci := 4) (C := RX4) (T := TX4) (N := 3) (fs := [.null, .null, .null]) X hb0 G rfl inX7_init_X4 tyX4_ok wdX7_init_cl7 wdX7_init_ins_X4 wdX7_init_ini_X4 rfl (fun j hj => by rcases (show j = 0 ∨ j = 1 ∨ j = 2 by omega) with rfl | rfl | rfl <;> rfl) (Nat.le_of_ble_eq_true rfl) (Nat.le_of_ble_eq_true rfl) dX7_init_5 hf (fun q1 H hf G => ?_)
  refine W.widen (k := 1) (n := 3) (Nat.le_refl _) (Nat.le_refl _) ?_
  refine lv_dup X.1.1 X.1.2.1 dX7_init_8 rfl ?_
  obtain ⟨q2, eq2, hf⟩ := Option.bind_eq_some_iff.mp hf
  refine zcI (As := []) (r := q1.1) (rest := [.ref (b0 + q1.1), .ref (b0 + r0)]) (v := none) (h' := q2) X G (m_X4_init l D dA b0 q1.1 q1.2 q2 eq2) (cwI 0 X.1.2.2.2.2 gX7_init_X4_init rfl rfl rfl (X.1.2.2.2.2 _ wdX7_init_ini_X4) (X.1.2.2.2.2 _ wdX7_init_ml9) (X.1.2.2.2.2 _ wdX7_init_im_X4_init) rfl hdS_X4_init ⟨(Nat.le_of_ble_eq_true rfl), (Nat.le_of_ble_eq_true rfl)⟩) rfl hl.1 rfl (Nat.le_of_ble_eq_true rfl) dX7_init_9 ⟨(Nat.le_of_ble_eq_true rfl), (Nat.le_of_ble_eq_true rfl)⟩ (fun H locs G => ?_)
  refine W.widen (k := 12) (n := 347) (Nat.le_refl _) (Nat.le_refl _) ?_
  refine zputF (ty := (.object "BuriedHalves$Rows")) (ci := 7) (k := 0) (C := RX7) (T := TX7) (N := 11) X G rfl inX7_init_X7 tyX7_ok nmX7 (Nat.le_of_ble_eq_true rfl) flX7_init_10 rfl hin rfl (by decide +kernel) (fun _ => rfl) (fun _ => rfl) dX7_init_12 hf (fun h3 H locs hf G => ?_)
  refine lv_aload_n X.1.1 X.1.2.1 dX7_init_15 rfl (lv_at hl 0 rfl) ?_
  refine znew (ci := 6) (C := RX6) (T := TX6) (N := 4) (fs := [.null, .int 0, .int 0, .int 0]) X hb0 G rfl inX7_init_X6 tyX6_ok wdX7_init_cl16 wdX7_init_ins_X6 wdX7_init_ini_X6 rfl (fun j hj => by rcases (show j = 0 ∨ j = 1 ∨ j = 2 ∨ j = 3 by omega) with rfl | rfl | rfl | rfl <;> rfl) (Nat.le_of_ble_eq_true rfl) (Nat.le_of_ble_eq_true rfl) dX7_init_16 hf (fun q4 H hf G => ?_)
  refine W.widen (k := 13) (n := 351) (Nat.le_refl _) (Nat.le_refl _) ?_
  refine lv_dup X.1.1 X.1.2.1 dX7_init_19 rfl ?_
  obtain ⟨q5, eq5, hf⟩ := Option.bind_eq_some_iff.mp hf
  refine zcIN (As := []) (r := q4.1) (rest := [.ref (b0 + q4.1), .ref (b0 + r0)]) (v := none) (h' := q5) X G (m_X6_init l D dA b0 q4.1 q4.2 q5 eq5) ⟨va_cnB 0 X.1.2.2.2.2 gX7_init_X6_init_n18 rfl rfl rfl (X.2.2.1 _ (List.mem_of_getElem? (i := 0) rfl)) (X.1.2.2.2.2 _ wdX7_init_ini_X6) hdS_X6_init ⟨(Nat.le_of_ble_eq_true rfl), (Nat.le_of_ble_eq_true rfl)⟩, rfl, X.1.2.2.2.2 _ wdX7_init_im_X6_init⟩ rfl hl.1 rfl (Nat.le_of_ble_eq_true rfl) dX7_init_20 ⟨(Nat.le_of_ble_eq_true rfl), (Nat.le_of_ble_eq_true rfl)⟩ (fun H locs G => ?_)
  refine W.widen (k := 14) (n := 451) (Nat.le_refl _) (Nat.le_refl _) ?_
  refine zputF (ty := (.object "BuriedHalves$Text")) (ci := 7) (k := 1) (C := RX7) (T := TX7) (N := 11) X G rfl inX7_init_X7 tyX7_ok nmX7 (Nat.le_of_ble_eq_true rfl) flX7_init_19 rfl hin rfl (by decide +kernel) (fun _ => rfl) (fun _ => rfl) dX7_init_23 hf (fun h6 H locs hf G => ?_)
  refine lv_aload_n X.1.1 X.1.2.1 dX7_init_26 rfl (lv_at hl 0 rfl) ?_
  refine znew (ci := 3) (C := RX3) (T := TX3) (N := 12) (fs := [.int 0, .int 0, .int 0, .int 0, .int 0, .int 0, .null, .null, .null, .null, .null, .null]) X hb0 G rfl inX7_init_X3 tyX3_ok wdX7_init_cl23 wdX7_init_ins_X3 wdX7_init_ini_X3 rfl (fun j hj => by rcases (show j = 0 ∨ j = 1 ∨ j = 2 ∨ j = 3 ∨ j = 4 ∨ j = 5 ∨ j = 6 ∨ j = 7 ∨ j = 8 ∨ j = 9 ∨ j = 10 ∨ j = 11 by omega) with rfl | rfl | rfl | rfl | rfl | rfl | rfl | rfl | rfl | rfl | rfl | rfl <;> rfl) (Nat.le_of_ble_eq_true rfl) (Nat.le_of_ble_eq_true rfl) dX7_init_27 hf (fun q7 H hf G => ?_)
  refine W.widen (k := 15) (n := 463) (Nat.le_refl _) (Nat.le_refl _) ?_
  refine lv_dup X.1.1 X.1.2.1 dX7_init_30 rfl ?_
  obtain ⟨q8, eq8, hf⟩ := Option.bind_eq_some_iff.mp hf
  refine zcIN (As := []) (r := q7.1) (rest := [.ref (b0 + q7.1), .ref (b0 + r0)]) (v := none) (h' := q8) X G (m_X3_init l D dA b0 q7.1 q7.2 q8 eq8) ⟨va_cnB 0 X.1.2.2.2.2 gX7_init_X3_init_n25 rfl rfl rfl (X.2.2.1 _ (List.mem_of_getElem? (i := 1) rfl)) (X.1.2.2.2.2 _ wdX7_init_ini_X3) hdS_X3_init ⟨(Nat.le_of_ble_eq_true rfl), (Nat.le_of_ble_eq_true rfl)⟩, rfl, X.1.2.2.2.2 _ wdX7_init_im_X3_init⟩ rfl hl.1 rfl (Nat.le_of_ble_eq_true rfl) dX7_init_31 ⟨(Nat.le_of_ble_eq_true rfl), (Nat.le_of_ble_eq_true rfl)⟩ (fun H locs G => ?_)
  refine W.widen (k := 21) (n := 493) (Nat.le_refl _) (Nat.le_refl _) ?_
  refine zputF (ty := (.object "BuriedHalves$Mine")) (ci := 7) (k := 2) (C := RX7) (T := TX7) (N := 11) X G rfl inX7_init_X7 tyX7_ok nmX7 (Nat.le_of_ble_eq_true rfl) flX7_init_26 rfl hin rfl (by decide +kernel) (fun _ => rfl) (fun _ => rfl) dX7_init_34 hf (fun h9 H locs hf G => ?_)
  refine lv_aload_n X.1.1 X.1.2.1 dX7_init_37 rfl (lv_at hl 0 rfl) ?_
  refine znew (ci := 3) (C := RX3) (T := TX3) (N := 12) (fs := [.int 0, .int 0, .int 0, .int 0, .int 0, .int 0, .null, .null, .null, .null, .null, .null]) X hb0 G rfl inX7_init_X3 tyX3_ok wdX7_init_cl23 wdX7_init_ins_X3 wdX7_init_ini_X3 rfl (fun j hj => by rcases (show j = 0 ∨ j = 1 ∨ j = 2 ∨ j = 3 ∨ j = 4 ∨ j = 5 ∨ j = 6 ∨ j = 7 ∨ j = 8 ∨ j = 9 ∨ j = 10 ∨ j = 11 by omega) with rfl | rfl | rfl | rfl | rfl | rfl | rfl | rfl | rfl | rfl | rfl | rfl <;> rfl) (Nat.le_of_ble_eq_true rfl) (Nat.le_of_ble_eq_true rfl) dX7_init_38 hf (fun q10 H hf G => ?_)
  refine W.widen (k := 22) (n := 505) (Nat.le_refl _) (Nat.le_refl _) ?_
  refine lv_dup X.1.1 X.1.2.1 dX7_init_41 rfl ?_
  obtain ⟨q11, eq11, hf⟩ := Option.bind_eq_some_iff.mp hf
  refine zcIN (As := []) (r := q10.1) (rest := [.ref (b0 + q10.1), .ref (b0 + r0)]) (v := none) (h' := q11) X G (m_X3_init l D dA b0 q10.1 q10.2 q11 eq11) ⟨va_cnB 0 X.1.2.2.2.2 gX7_init_X3_init_n25 rfl rfl rfl (X.2.2.1 _ (List.mem_of_getElem? (i := 1) rfl)) (X.1.2.2.2.2 _ wdX7_init_ini_X3) hdS_X3_init ⟨(Nat.le_of_ble_eq_true rfl), (Nat.le_of_ble_eq_true rfl)⟩, rfl, X.1.2.2.2.2 _ wdX7_init_im_X3_init⟩ rfl hl.1 rfl (Nat.le_of_ble_eq_true rfl) dX7_init_42 ⟨(Nat.le_of_ble_eq_true rfl), (Nat.le_of_ble_eq_true rfl)⟩ (fun H locs G => ?_)
  refine W.widen (k := 28) (n := 535) (Nat.le_refl _) (Nat.le_refl _) ?_
  refine zputF (ty := (.object "BuriedHalves$Mine")) (ci := 7) (k := 3) (C := RX7) (T := TX7) (N := 11) X G rfl inX7_init_X7 tyX7_ok nmX7 (Nat.le_of_ble_eq_true rfl) flX7_init_30 rfl hin rfl (by decide +kernel) (fun _ => rfl) (fun _ => rfl) dX7_init_45 hf (fun h12 H locs hf G => ?_)
  refine lv_aload_n X.1.1 X.1.2.1 dX7_init_48 rfl (lv_at hl 0 rfl) ?_
  refine znew (ci := 0) (C := RX0) (T := TX0) (N := 3) (fs := [.null, .int 0, .int 0]) X hb0 G rfl inX7_init_X0 tyX0_ok wdX7_init_cl33 wdX7_init_ins_X0 wdX7_init_ini_X0 rfl (fun j hj => by rcases (show j = 0 ∨ j = 1 ∨ j = 2 by omega) with rfl | rfl | rfl <;> rfl) (Nat.le_of_ble_eq_true rfl) (Nat.le_of_ble_eq_true rfl) dX7_init_49 hf (fun q13 H hf G => ?_)
  refine W.widen (k := 29) (n := 538) (Nat.le_refl _) (Nat.le_refl _) ?_
  refine lv_dup X.1.1 X.1.2.1 dX7_init_52 rfl ?_
  obtain ⟨q14, eq14, hf⟩ := Option.bind_eq_some_iff.mp hf
  refine zcI (As := []) (r := q13.1) (rest := [.ref (b0 + q13.1), .ref (b0 + r0)]) (v := none) (h' := q14) X G (m_X0_init l D dA b0 q13.1 q13.2 q14 eq14) (cwI 0 X.1.2.2.2.2 gX7_init_X0_init rfl rfl rfl (X.1.2.2.2.2 _ wdX7_init_ini_X0) (X.1.2.2.2.2 _ wdX7_init_ml35) (X.1.2.2.2.2 _ wdX7_init_im_X0_init) rfl hdS_X0_init ⟨(Nat.le_of_ble_eq_true rfl), (Nat.le_of_ble_eq_true rfl)⟩) rfl hl.1 rfl (Nat.le_of_ble_eq_true rfl) dX7_init_53 ⟨(Nat.le_of_ble_eq_true rfl), (Nat.le_of_ble_eq_true rfl)⟩ (fun H locs G => ?_)
  refine W.widen (k := 198) (n := 1570) (Nat.le_refl _) (Nat.le_refl _) ?_
  refine zputF (ty := (.object "BuriedHalves$Acts")) (ci := 7) (k := 4) (C := RX7) (T := TX7) (N := 11) X G rfl inX7_init_X7 tyX7_ok nmX7 (Nat.le_of_ble_eq_true rfl) flX7_init_36 rfl hin rfl (by decide +kernel) (fun _ => rfl) (fun _ => rfl) dX7_init_56 hf (fun h15 H locs hf G => ?_)
  refine lv_aload_n X.1.1 X.1.2.1 dX7_init_59 rfl (lv_at hl 0 rfl) ?_
  refine lv_iconst (v := 2) X.1.1 X.1.2.1 dX7_init_60 (by decide) ?_
  refine znewM (N := 2) X hb0 G wdX7_init_cl23 (by decide) (by decide) (Nat.le_of_ble_eq_true rfl) (Nat.le_of_ble_eq_true rfl) (Nat.le_of_ble_eq_true rfl) dX7_init_61 hf (fun q16 H hf G => ?_)
  refine W.widen (k := 199) (n := 1572) (Nat.le_refl _) (Nat.le_refl _) ?_
  refine zputF (ty := (.array (.object "BuriedHalves$Mine"))) (ci := 7) (k := 5) (C := RX7) (T := TX7) (N := 11) X G rfl inX7_init_X7 tyX7_ok nmX7 (Nat.le_of_ble_eq_true rfl) flX7_init_40 rfl hin rfl (by decide +kernel) (fun _ => rfl) (fun _ => rfl) dX7_init_64 hf (fun h17 H locs hf G => ?_)
  refine lv_aload_n X.1.1 X.1.2.1 dX7_init_67 rfl (lv_at hl 0 rfl) ?_
  refine znew (ci := 5) (C := RX5) (T := TX5) (N := 2) (fs := [.null, .null]) X hb0 G rfl inX7_init_X5 tyX5_ok wdX7_init_cl44 wdX7_init_ins_X5 wdX7_init_ini_X5 rfl (fun j hj => by rcases (show j = 0 ∨ j = 1 by omega) with rfl | rfl <;> rfl) (Nat.le_of_ble_eq_true rfl) (Nat.le_of_ble_eq_true rfl) dX7_init_68 hf (fun q18 H hf G => ?_)
  refine W.widen (k := 200) (n := 1574) (Nat.le_refl _) (Nat.le_refl _) ?_
  refine lv_dup X.1.1 X.1.2.1 dX7_init_71 rfl ?_
  obtain ⟨q19, eq19, hf⟩ := Option.bind_eq_some_iff.mp hf
  refine zcIN (As := []) (r := q18.1) (rest := [.ref (b0 + q18.1), .ref (b0 + r0)]) (v := none) (h' := q19) X G (m_X5_init l D dA b0 q18.1 q18.2 q19 eq19) ⟨va_cnB 0 X.1.2.2.2.2 gX7_init_X5_init_n46 rfl rfl rfl (X.2.2.1 _ (List.mem_of_getElem? (i := 3) rfl)) (X.1.2.2.2.2 _ wdX7_init_ini_X5) hdS_X5_init ⟨(Nat.le_of_ble_eq_true rfl), (Nat.le_of_ble_eq_true rfl)⟩, rfl, X.1.2.2.2.2 _ wdX7_init_im_X5_init⟩ rfl hl.1 rfl (Nat.le_of_ble_eq_true rfl) dX7_init_72 ⟨(Nat.le_of_ble_eq_true rfl), (Nat.le_of_ble_eq_true rfl)⟩ (fun H locs G => ?_)
  refine W.widen (k := 208) (n := 1632) (Nat.le_refl _) (Nat.le_refl _) ?_
  refine zputF (ty := (.object "BuriedHalves$Seer")) (ci := 7) (k := 6) (C := RX7) (T := TX7) (N := 11) X G rfl inX7_init_X7 tyX7_ok nmX7 (Nat.le_of_ble_eq_true rfl) flX7_init_47 rfl hin rfl (by decide +kernel) (fun _ => rfl) (fun _ => rfl) dX7_init_75 hf (fun h20 H locs hf G => ?_)
  refine lv_aload_n X.1.1 X.1.2.1 dX7_init_78 rfl (lv_at hl 0 rfl) ?_
  refine znew (ci := 2) (C := RX2) (T := TX2) (N := 5) (fs := [.null, .null, .int 0, .null, .int 0]) X hb0 G rfl inX7_init_X2 tyX2_ok wdX7_init_cl51 wdX7_init_ins_X2 wdX7_init_ini_X2 rfl (fun j hj => by rcases (show j = 0 ∨ j = 1 ∨ j = 2 ∨ j = 3 ∨ j = 4 by omega) with rfl | rfl | rfl | rfl | rfl <;> rfl) (Nat.le_of_ble_eq_true rfl) (Nat.le_of_ble_eq_true rfl) dX7_init_79 hf (fun q21 H hf G => ?_)
  refine W.widen (k := 209) (n := 1637) (Nat.le_refl _) (Nat.le_refl _) ?_
  refine lv_dup X.1.1 X.1.2.1 dX7_init_82 rfl ?_
  obtain ⟨q22, eq22, hf⟩ := Option.bind_eq_some_iff.mp hf
  refine zcIN (As := []) (r := q21.1) (rest := [.ref (b0 + q21.1), .ref (b0 + r0)]) (v := none) (h' := q22) X G (m_X2_init l D dA b0 q21.1 q21.2 q22 eq22) ⟨va_cnB 0 X.1.2.2.2.2 gX7_init_X2_init_n53 rfl rfl rfl (X.2.2.1 _ (List.mem_of_getElem? (i := 5) rfl)) (X.1.2.2.2.2 _ wdX7_init_ini_X2) hdS_X2_init ⟨(Nat.le_of_ble_eq_true rfl), (Nat.le_of_ble_eq_true rfl)⟩, rfl, X.1.2.2.2.2 _ wdX7_init_im_X2_init⟩ rfl hl.1 rfl (Nat.le_of_ble_eq_true rfl) dX7_init_83 ⟨(Nat.le_of_ble_eq_true rfl), (Nat.le_of_ble_eq_true rfl)⟩ (fun H locs G => ?_)
  refine W.widen (k := 224) (n := 1726) (Nat.le_refl _) (Nat.le_refl _) ?_
  refine zputF (ty := (.object "BuriedHalves$Layer")) (ci := 7) (k := 7) (C := RX7) (T := TX7) (N := 11) X G rfl inX7_init_X7 tyX7_ok nmX7 (Nat.le_of_ble_eq_true rfl) flX7_init_54 rfl hin rfl (by decide +kernel) (fun _ => rfl) (fun _ => rfl) dX7_init_86 hf (fun h23 H locs hf G => ?_)
  refine lv_aload_n X.1.1 X.1.2.1 dX7_init_89 rfl (lv_at hl 0 rfl) ?_
  refine znew (ci := 1) (C := RX1) (T := TX1) (N := 2) (fs := [.null, .int 0]) X hb0 G rfl inX7_init_X1 tyX1_ok wdX7_init_cl58 wdX7_init_ins_X1 wdX7_init_ini_X1 rfl (fun j hj => by rcases (show j = 0 ∨ j = 1 by omega) with rfl | rfl <;> rfl) (Nat.le_of_ble_eq_true rfl) (Nat.le_of_ble_eq_true rfl) dX7_init_90 hf (fun q24 H hf G => ?_)
  refine W.widen (k := 225) (n := 1728) (Nat.le_refl _) (Nat.le_refl _) ?_
  refine lv_dup X.1.1 X.1.2.1 dX7_init_93 rfl ?_
  obtain ⟨q25, eq25, hf⟩ := Option.bind_eq_some_iff.mp hf
  refine zcIN (As := []) (r := q24.1) (rest := [.ref (b0 + q24.1), .ref (b0 + r0)]) (v := none) (h' := q25) X G (m_X1_init l D dA b0 q24.1 q24.2 q25 eq25) ⟨va_cnB 0 X.1.2.2.2.2 gX7_init_X1_init_n60 rfl rfl rfl (X.2.2.1 _ (List.mem_of_getElem? (i := 7) rfl)) (X.1.2.2.2.2 _ wdX7_init_ini_X1) hdS_X1_init ⟨(Nat.le_of_ble_eq_true rfl), (Nat.le_of_ble_eq_true rfl)⟩, rfl, X.1.2.2.2.2 _ wdX7_init_im_X1_init⟩ rfl hl.1 rfl (Nat.le_of_ble_eq_true rfl) dX7_init_94 ⟨(Nat.le_of_ble_eq_true rfl), (Nat.le_of_ble_eq_true rfl)⟩ (fun H locs G => ?_)
  refine W.widen (k := 226) (n := 1744) (Nat.le_refl _) (Nat.le_refl _) ?_
  refine zputF (ty := (.object "BuriedHalves$Asker")) (ci := 7) (k := 8) (C := RX7) (T := TX7) (N := 11) X G rfl inX7_init_X7 tyX7_ok nmX7 (Nat.le_of_ble_eq_true rfl) flX7_init_61 rfl hin rfl (by decide +kernel) (fun _ => rfl) (fun _ => rfl) dX7_init_97 hf (fun h26 H locs hf G => ?_)
  refine lv_aload_n X.1.1 X.1.2.1 dX7_init_100 rfl (lv_at hl 0 rfl) ?_
  refine lv_iconst (v := 0) X.1.1 X.1.2.1 dX7_init_101 (by decide) ?_
  refine zputI (ci := 7) (k := 9) (C := RX7) (T := TX7) (N := 11) X G rfl inX7_init_X7 tyX7_ok nmX7 (Nat.le_of_ble_eq_true rfl) flX7_init_65 rfl (by decide +kernel) dX7_init_102 hf (fun h27 H locs hf G => ?_)
  refine lv_aload_n X.1.1 X.1.2.1 dX7_init_105 rfl (lv_at hl 0 rfl) ?_
  refine lv_iconst (v := 0) X.1.1 X.1.2.1 dX7_init_106 (by decide) ?_
  refine zputI (ci := 7) (k := 10) (C := RX7) (T := TX7) (N := 11) X G rfl inX7_init_X7 tyX7_ok nmX7 (Nat.le_of_ble_eq_true rfl) flX7_init_69 rfl (by decide +kernel) dX7_init_107 hf (fun h28 H locs hf G => ?_)
  refine lv_iconst (v := 0) X.1.1 X.1.2.1 dX7_init_110 (by decide) ?_
  refine lv_istore_n (lv' := [(1, .int (0 : Int32)), (0, .ref (b0 + r0))]) X.1.1 X.1.2.1 dX7_init_111 rfl hl (by decide) rfl (fun ls hl => ?_)
  refine lv_iload_n X.1.1 X.1.2.1 dX7_init_112 rfl (lv_at hl 0 rfl) ?_
  refine lv_iconst (v := 2) X.1.1 X.1.2.1 dX7_init_113 (by decide) ?_
  refine lv_icmp_ge (tgt := 136) X.1.1 X.1.2.1 dX7_init_114 (by decide) (fun q => absurd q (by decide)) (fun _ => ?_)
  refine lv_aload_n X.1.1 X.1.2.1 dX7_init_117 rfl (lv_at hl 1 rfl) ?_
  refine zgetR (ci := 7) (k := 5) (C := RX7) (T := TX7) (N := 11) X G rfl inX7_init_X7 (Nat.le_of_ble_eq_true rfl) flX7_init_40 dX7_init_118 hf (fun v29 hf => ?_)
  refine lv_iload_n X.1.1 X.1.2.1 dX7_init_121 rfl (lv_at hl 0 rfl) ?_
  refine znew (ci := 3) (C := RX3) (T := TX3) (N := 12) (fs := [.int 0, .int 0, .int 0, .int 0, .int 0, .int 0, .null, .null, .null, .null, .null, .null]) X hb0 G rfl inX7_init_X3 tyX3_ok wdX7_init_cl23 wdX7_init_ins_X3 wdX7_init_ini_X3 rfl (fun j hj => by rcases (show j = 0 ∨ j = 1 ∨ j = 2 ∨ j = 3 ∨ j = 4 ∨ j = 5 ∨ j = 6 ∨ j = 7 ∨ j = 8 ∨ j = 9 ∨ j = 10 ∨ j = 11 by omega) with rfl | rfl | rfl | rfl | rfl | rfl | rfl | rfl | rfl | rfl | rfl | rfl <;> rfl) (Nat.le_of_ble_eq_true rfl) (Nat.le_of_ble_eq_true rfl) dX7_init_122 hf (fun q30 H hf G => ?_)
  refine W.widen (k := 227) (n := 1756) (Nat.le_refl _) (Nat.le_refl _) ?_
  refine lv_dup X.1.1 X.1.2.1 dX7_init_125 rfl ?_
  obtain ⟨q31, eq31, hf⟩ := Option.bind_eq_some_iff.mp hf
  refine zcIN (As := []) (r := q30.1) (rest := [.ref (b0 + q30.1), .int (0 : Int32), .ref (b0 + v29)]) (v := none) (h' := q31) X G (m_X3_init l D dA b0 q30.1 q30.2 q31 eq31) ⟨va_cnB 0 X.1.2.2.2.2 gX7_init_X3_init_n25 rfl rfl rfl (X.2.2.1 _ (List.mem_of_getElem? (i := 1) rfl)) (X.1.2.2.2.2 _ wdX7_init_ini_X3) hdS_X3_init ⟨(Nat.le_of_ble_eq_true rfl), (Nat.le_of_ble_eq_true rfl)⟩, rfl, X.1.2.2.2.2 _ wdX7_init_im_X3_init⟩ rfl hl.1 rfl (Nat.le_of_ble_eq_true rfl) dX7_init_126 ⟨(Nat.le_of_ble_eq_true rfl), (Nat.le_of_ble_eq_true rfl)⟩ (fun H locs G => ?_)
  refine W.widen (k := 233) (n := 1786) (Nat.le_refl _) (Nat.le_refl _) ?_
  obtain ⟨⟨fs9, hk⟩, hf⟩ := zck hf
  refine zaast X G dX7_init_129 hk hf (fun h32 H locs hf G => ?_)
  refine lv_iinc (v := 1) (lv' := [(1, .int (1 : Int32)), (0, .ref (b0 + r0))]) X.1.1 X.1.2.1 dX7_init_130 hl (k := 0) rfl (by decide) (by decide) rfl (fun ls hl => ?_)
  refine lv_goto (tgt := 112) X.1.1 X.1.2.1 dX7_init_133 (by decide) ?_
  refine lv_iload_n X.1.1 X.1.2.1 dX7_init_112 rfl (lv_at hl 0 rfl) ?_
  refine lv_iconst (v := 2) X.1.1 X.1.2.1 dX7_init_113 (by decide) ?_
  refine lv_icmp_ge (tgt := 136) X.1.1 X.1.2.1 dX7_init_114 (by decide) (fun q => absurd q (by decide)) (fun _ => ?_)
  refine lv_aload_n X.1.1 X.1.2.1 dX7_init_117 rfl (lv_at hl 1 rfl) ?_
  refine zgetR (ci := 7) (k := 5) (C := RX7) (T := TX7) (N := 11) X G rfl inX7_init_X7 (Nat.le_of_ble_eq_true rfl) flX7_init_40 dX7_init_118 hf (fun v33 hf => ?_)
  refine lv_iload_n X.1.1 X.1.2.1 dX7_init_121 rfl (lv_at hl 0 rfl) ?_
  refine znew (ci := 3) (C := RX3) (T := TX3) (N := 12) (fs := [.int 0, .int 0, .int 0, .int 0, .int 0, .int 0, .null, .null, .null, .null, .null, .null]) X hb0 G rfl inX7_init_X3 tyX3_ok wdX7_init_cl23 wdX7_init_ins_X3 wdX7_init_ini_X3 rfl (fun j hj => by rcases (show j = 0 ∨ j = 1 ∨ j = 2 ∨ j = 3 ∨ j = 4 ∨ j = 5 ∨ j = 6 ∨ j = 7 ∨ j = 8 ∨ j = 9 ∨ j = 10 ∨ j = 11 by omega) with rfl | rfl | rfl | rfl | rfl | rfl | rfl | rfl | rfl | rfl | rfl | rfl <;> rfl) (Nat.le_of_ble_eq_true rfl) (Nat.le_of_ble_eq_true rfl) dX7_init_122 hf (fun q34 H hf G => ?_)
  refine W.widen (k := 234) (n := 1798) (Nat.le_refl _) (Nat.le_refl _) ?_
  refine lv_dup X.1.1 X.1.2.1 dX7_init_125 rfl ?_
  obtain ⟨q35, eq35, hf⟩ := Option.bind_eq_some_iff.mp hf
  refine zcIN (As := []) (r := q34.1) (rest := [.ref (b0 + q34.1), .int (1 : Int32), .ref (b0 + v33)]) (v := none) (h' := q35) X G (m_X3_init l D dA b0 q34.1 q34.2 q35 eq35) ⟨va_cnB 0 X.1.2.2.2.2 gX7_init_X3_init_n25 rfl rfl rfl (X.2.2.1 _ (List.mem_of_getElem? (i := 1) rfl)) (X.1.2.2.2.2 _ wdX7_init_ini_X3) hdS_X3_init ⟨(Nat.le_of_ble_eq_true rfl), (Nat.le_of_ble_eq_true rfl)⟩, rfl, X.1.2.2.2.2 _ wdX7_init_im_X3_init⟩ rfl hl.1 rfl (Nat.le_of_ble_eq_true rfl) dX7_init_126 ⟨(Nat.le_of_ble_eq_true rfl), (Nat.le_of_ble_eq_true rfl)⟩ (fun H locs G => ?_)
  refine W.widen (k := 240) (n := 1828) (Nat.le_refl _) (Nat.le_refl _) ?_
  obtain ⟨⟨fs9, hk⟩, hf⟩ := zck hf
  refine zaast X G dX7_init_129 hk hf (fun h36 H locs hf G => ?_)
  refine lv_iinc (v := 2) (lv' := [(1, .int (2 : Int32)), (0, .ref (b0 + r0))]) X.1.1 X.1.2.1 dX7_init_130 hl (k := 0) rfl (by decide) (by decide) rfl (fun ls hl => ?_)
  refine lv_goto (tgt := 112) X.1.1 X.1.2.1 dX7_init_133 (by decide) ?_
  refine lv_iload_n X.1.1 X.1.2.1 dX7_init_112 rfl (lv_at hl 0 rfl) ?_
  refine lv_iconst (v := 2) X.1.1 X.1.2.1 dX7_init_113 (by decide) ?_
  refine lv_icmp_ge (tgt := 136) X.1.1 X.1.2.1 dX7_init_114 (by decide) (fun _ => ?_) (fun q => absurd (by decide) q)
  exact zretV X hr hlk G hf dX7_init_136
/-! X7_isRow -/
abbrev rmX7_isRow : Room := { frames := 0, cells := 0, slots := 0, locals := 0 }
theorem hdS_X7_isRow : yX7_isRow.cls ≠ "java/lang/invoke/MethodHandle" ∧ yX7_isRow.cls ≠ "java/lang/invoke/VarHandle" ∧ (parseMethodDescriptor yX7_isRow.desc).map (fun d => d.parameters.length) = some 1 := by decide +kernel
set_option maxHeartbeats 4000000 in
set_option maxRecDepth 100000 in
theorem m_X7_isRow (l : Launch) (D : va_G) (dA : Nat → ClassId) (b0 : Nat) (a0 : Int32) (h : zH) (z : Int32) (hf : f_X7_isRow a0 h = some z) : Met l yX7_isRow wsX7_isRow rmX7_isRow (zPc D dA b0 [.int a0] h) (zQ D dA b0 (some (.int z)) h) 0 0 (zA b0) := by
  refine Met.ofW (cc := cX7_isRow) (maxL := 1) (ret := (some .boolean)) (by decide) rfl ?_
  intro p e s m args below meth c s₁ B hml hv
  obtain ⟨rfl, hP, hz, hK, hN⟩ := hv
  have hr := B.returns
  have hlk := B.notSynchronized
  have X : zX p s m _ c cX7_isRow 1 RX7 wsX7_isRow D dA := ⟨⟨B.exec, B.bytes, hml, findClass_of_methodNamed B.named, atoms_spec (ws := wsX7_isRow) B.pre⟩, hK, hN⟩
  have G : zG D dA b0 s.heap h s.heap [] := ⟨hP, hz, va_S.rf⟩
  have hl := lv_entry ([.int a0]) (n := 1) (Nat.le_of_ble_eq_true rfl)
  rw [lg_entry_eq]
  generalize (lg_sl ([.int a0]) ++ List.replicate (1 - (lg_sl ([.int a0])).length) Slot.unset).toArray = ls at hl ⊢
  have hl : lv_has ls 1 [(0, .int a0)] := hl
  unfold f_X7_isRow at hf
  refine lv_iload_n X.1.1 X.1.2.1 dX7_isRow_0 rfl (lv_at hl 0 rfl) ?_
  refine zif_lt (tgt := 14) X dX7_isRow_1 (by decide) hf (fun hf => ?_) (fun hf => ?_)
  · refine lv_iconst (v := 0) X.1.1 X.1.2.1 dX7_isRow_14 (by decide) ?_
    exact zretZr X hr hlk G hf dX7_isRow_15
  · refine lv_iload_n X.1.1 X.1.2.1 dX7_isRow_4 rfl (lv_at hl 0 rfl) ?_
    refine lv_bipush (v := 8) X.1.1 X.1.2.1 dX7_isRow_5 (by decide) ?_
    refine zic_ge (tgt := 14) X dX7_isRow_7 (by decide) hf (fun hf => ?_) (fun hf => ?_)
    · refine lv_iconst (v := 0) X.1.1 X.1.2.1 dX7_isRow_14 (by decide) ?_
      exact zretZr X hr hlk G hf dX7_isRow_15
    · refine lv_iconst (v := 1) X.1.1 X.1.2.1 dX7_isRow_10 (by decide) ?_
      refine lv_goto (tgt := 15) X.1.1 X.1.2.1 dX7_isRow_11 (by decide) ?_
      exact zretZr X hr hlk G hf dX7_isRow_15
/-! X7_found -/
abbrev rmX7_found : Room := { frames := 0, cells := 0, slots := 0, locals := 0 }
theorem hdV_X7_found : yX7_found.cls = RX7 ∧ yX7_found.cls ≠ "java/lang/invoke/MethodHandle" ∧ yX7_found.cls ≠ "java/lang/invoke/VarHandle" ∧ (parseMethodDescriptor yX7_found.desc).map (fun d => d.parameters.length) = some 1 := by decide +kernel
theorem inX7_found_X7 : ∀ w ∈ wsX70, w ∈ wsX7_found := by decide +kernel
theorem flX7_found_69 : Cond.fieldLink RX7 69 (TX7 10).1 (TX7 10).2.1 (TX7 10).2.2.1 ∈ wsX7_found := by decide +kernel
theorem coX7_found_295 : Cond.constant RX7 295 (-1000010) ∈ wsX7_found := by decide +kernel
set_option maxHeartbeats 4000000 in
set_option maxRecDepth 100000 in
theorem m_X7_found (l : Launch) (D : va_G) (dA : Nat → ClassId) (b0 : Nat) (r0 : Nat) (a1 : Int32) (h : zH) (z : Int32 × zH) (hf : f_X7_found r0 a1 h = some z) : Met l yX7_found wsX7_found rmX7_found (zPc D dA b0 [.ref (b0 + r0), .int a1] h) (zQ D dA b0 (some (.int z.1)) z.2) 0 0 (zA b0) := by
  refine Met.ofW (cc := cX7_found) (maxL := 2) (ret := (some .int)) (by decide) rfl ?_
  intro p e s m args below meth c s₁ B hml hv
  obtain ⟨rfl, hP, hz, hK, hN⟩ := hv
  have hr := B.returns
  have hlk := B.notSynchronized
  have X : zX p s m _ c cX7_found 2 RX7 wsX7_found D dA := ⟨⟨B.exec, B.bytes, hml, findClass_of_methodNamed B.named, atoms_spec (ws := wsX7_found) B.pre⟩, hK, hN⟩
  have G : zG D dA b0 s.heap h s.heap [] := ⟨hP, hz, va_S.rf⟩
  have hl := lv_entry ([.ref (b0 + r0), .int a1]) (n := 2) (Nat.le_of_ble_eq_true rfl)
  rw [lg_entry_eq]
  generalize (lg_sl ([.ref (b0 + r0), .int a1]) ++ List.replicate (2 - (lg_sl ([.ref (b0 + r0), .int a1])).length) Slot.unset).toArray = ls at hl ⊢
  have hl : lv_has ls 2 [(0, .ref (b0 + r0)), (1, .int a1)] := hl
  unfold f_X7_found at hf
  refine lv_aload_n X.1.1 X.1.2.1 dX7_found_0 rfl (lv_at hl 0 rfl) ?_
  refine lv_iload_n X.1.1 X.1.2.1 dX7_found_1 rfl (lv_at hl 1 rfl) ?_
  refine zputI (ci := 7) (k := 10) (C := RX7) (T := TX7) (N := 11) X G rfl inX7_found_X7 tyX7_ok nmX7 (Nat.le_of_ble_eq_true rfl) flX7_found_69 rfl (by decide +kernel) dX7_found_2 hf (fun h1 H locs hf G => ?_)
  refine lv_ldcw (v := -1000010) X.1.1 X.1.2.1 X.1.2.2.2.1 (X.1.2.2.2.2 _ coX7_found_295) dX7_found_5 ?_
  refine lv_iload_n X.1.1 X.1.2.1 dX7_found_8 rfl (lv_at hl 1 rfl) ?_
  refine lv_isub X.1.1 X.1.2.1 dX7_found_9 ?_
  exact zretI X hr hlk G hf dX7_found_10
/-! X7_fine -/
abbrev rmX7_fine : Room := { frames := 0, cells := 0, slots := 0, locals := 0 }
theorem hdV_X7_fine : yX7_fine.cls = RX7 ∧ yX7_fine.cls ≠ "java/lang/invoke/MethodHandle" ∧ yX7_fine.cls ≠ "java/lang/invoke/VarHandle" ∧ (parseMethodDescriptor yX7_fine.desc).map (fun d => d.parameters.length) = some 1 := by decide +kernel
theorem inX7_fine_X7 : ∀ w ∈ wsX70, w ∈ wsX7_fine := by decide +kernel
theorem flX7_fine_69 : Cond.fieldLink RX7 69 (TX7 10).1 (TX7 10).2.1 (TX7 10).2.2.1 ∈ wsX7_fine := by decide +kernel
set_option maxHeartbeats 4000000 in
set_option maxRecDepth 100000 in
theorem m_X7_fine (l : Launch) (D : va_G) (dA : Nat → ClassId) (b0 : Nat) (r0 : Nat) (a1 : Int32) (h : zH) (z : Int32 × zH) (hf : f_X7_fine r0 a1 h = some z) : Met l yX7_fine wsX7_fine rmX7_fine (zPc D dA b0 [.ref (b0 + r0), .int a1] h) (zQ D dA b0 (some (.int z.1)) z.2) 0 0 (zA b0) := by
  refine Met.ofW (cc := cX7_fine) (maxL := 2) (ret := (some .int)) (by decide) rfl ?_
  intro p e s m args below meth c s₁ B hml hv
  obtain ⟨rfl, hP, hz, hK, hN⟩ := hv
  have hr := B.returns
  have hlk := B.notSynchronized
  have X : zX p s m _ c cX7_fine 2 RX7 wsX7_fine D dA := ⟨⟨B.exec, B.bytes, hml, findClass_of_methodNamed B.named, atoms_spec (ws := wsX7_fine) B.pre⟩, hK, hN⟩
  have G : zG D dA b0 s.heap h s.heap [] := ⟨hP, hz, va_S.rf⟩
  have hl := lv_entry ([.ref (b0 + r0), .int a1]) (n := 2) (Nat.le_of_ble_eq_true rfl)
  rw [lg_entry_eq]
  generalize (lg_sl ([.ref (b0 + r0), .int a1]) ++ List.replicate (2 - (lg_sl ([.ref (b0 + r0), .int a1])).length) Slot.unset).toArray = ls at hl ⊢
  have hl : lv_has ls 2 [(0, .ref (b0 + r0)), (1, .int a1)] := hl
  unfold f_X7_fine at hf
  refine lv_aload_n X.1.1 X.1.2.1 dX7_fine_0 rfl (lv_at hl 0 rfl) ?_
  refine lv_iconst (v := 0) X.1.1 X.1.2.1 dX7_fine_1 (by decide) ?_
  refine zputI (ci := 7) (k := 10) (C := RX7) (T := TX7) (N := 11) X G rfl inX7_fine_X7 tyX7_ok nmX7 (Nat.le_of_ble_eq_true rfl) flX7_fine_69 rfl (by decide +kernel) dX7_fine_2 hf (fun h1 H locs hf G => ?_)
  refine lv_iload_n X.1.1 X.1.2.1 dX7_fine_5 rfl (lv_at hl 1 rfl) ?_
  exact zretI X hr hlk G hf dX7_fine_6
/-! X7_row -/
abbrev rmX7_row : Room := { frames := 1, cells := 0, slots := 0, locals := 24 }
theorem hdV_X7_row : yX7_row.cls = RX7 ∧ yX7_row.cls ≠ "java/lang/invoke/MethodHandle" ∧ yX7_row.cls ≠ "java/lang/invoke/VarHandle" ∧ (parseMethodDescriptor yX7_row.desc).map (fun d => d.parameters.length) = some 3 := by decide +kernel
theorem coX7_row_76 : Cond.constant RX7 76 (-1000001) ∈ wsX7_row := by decide +kernel
theorem inX7_row_X7 : ∀ w ∈ wsX70, w ∈ wsX7_row := by decide +kernel
theorem flX7_row_10 : Cond.fieldLink RX7 10 (TX7 0).1 (TX7 0).2.1 (TX7 0).2.2.1 ∈ wsX7_row := by decide +kernel
set_option maxHeartbeats 4000000 in
set_option maxRecDepth 100000 in
theorem m_X7_row (l : Launch) (D : va_G) (dA : Nat → ClassId) (b0 : Nat) (r0 : Nat) (a1 : Int32) (a2 : Int32) (a3 : Int32) (h : zH) (z : Int32 × zH) (hf : f_X7_row r0 a1 a2 a3 h = some z) : Met l yX7_row wsX7_row rmX7_row (zPc D dA b0 [.ref (b0 + r0), .int a1, .int a2, .int a3] h) (zQ D dA b0 (some (.int z.1)) z.2) 0 0 (zA b0) := by
  refine Met.ofW (cc := cX7_row) (maxL := 4) (ret := (some .int)) (by decide) rfl ?_
  intro p e s m args below meth c s₁ B hml hv
  obtain ⟨rfl, hP, hz, hK, hN⟩ := hv
  have hr := B.returns
  have hlk := B.notSynchronized
  have X : zX p s m _ c cX7_row 4 RX7 wsX7_row D dA := ⟨⟨B.exec, B.bytes, hml, findClass_of_methodNamed B.named, atoms_spec (ws := wsX7_row) B.pre⟩, hK, hN⟩
  have G : zG D dA b0 s.heap h s.heap [] := ⟨hP, hz, va_S.rf⟩
  have hl := lv_entry ([.ref (b0 + r0), .int a1, .int a2, .int a3]) (n := 4) (Nat.le_of_ble_eq_true rfl)
  rw [lg_entry_eq]
  generalize (lg_sl ([.ref (b0 + r0), .int a1, .int a2, .int a3]) ++ List.replicate (4 - (lg_sl ([.ref (b0 + r0), .int a1, .int a2, .int a3])).length) Slot.unset).toArray = ls at hl ⊢
  have hl : lv_has ls 4 [(0, .ref (b0 + r0)), (1, .int a1), (2, .int a2), (3, .int a3)] := hl
  unfold f_X7_row at hf
  refine lv_iload_n X.1.1 X.1.2.1 dX7_row_0 rfl (lv_at hl 1 rfl) ?_
  obtain ⟨q1, eq1, hf⟩ := Option.bind_eq_some_iff.mp hf
  refine zcS0 (As := [.int a1]) (rest := []) (v := (some (.int q1))) (h' := h) X G (m_X7_isRow l D dA b0 a1 h q1 eq1) (va_cwS 1 X.1.2.2.2.2 gX7_row_X7_isRow rfl rfl rfl hdS_X7_isRow ⟨(Nat.le_of_ble_eq_true rfl), (Nat.le_of_ble_eq_true rfl)⟩) rfl hl.1 rfl (Nat.le_of_ble_eq_true rfl) dX7_row_1 ⟨Nat.zero_le _, Nat.zero_le _⟩ (fun H locs G => ?_)
  refine zif_eq (tgt := 22) X dX7_row_4 (by decide) hf (fun hf => ?_) (fun hf => ?_)
  · refine lv_ldc (v := -1000001) X.1.1 X.1.2.1 X.1.2.2.2.1 (X.1.2.2.2.2 _ coX7_row_76) dX7_row_22 ?_
    exact zretI X hr hlk G hf dX7_row_24
  · refine lv_iload_n X.1.1 X.1.2.1 dX7_row_7 rfl (lv_at hl 2 rfl) ?_
    refine zif_lt (tgt := 22) X dX7_row_8 (by decide) hf (fun hf => ?_) (fun hf => ?_)
    · refine lv_ldc (v := -1000001) X.1.1 X.1.2.1 X.1.2.2.2.1 (X.1.2.2.2.2 _ coX7_row_76) dX7_row_22 ?_
      exact zretI X hr hlk G hf dX7_row_24
    · refine lv_iload_n X.1.1 X.1.2.1 dX7_row_11 rfl (lv_at hl 2 rfl) ?_
      refine lv_iconst (v := 3) X.1.1 X.1.2.1 dX7_row_12 (by decide) ?_
      refine zic_ge (tgt := 22) X dX7_row_13 (by decide) hf (fun hf => ?_) (fun hf => ?_)
      · refine lv_ldc (v := -1000001) X.1.1 X.1.2.1 X.1.2.2.2.1 (X.1.2.2.2.2 _ coX7_row_76) dX7_row_22 ?_
        exact zretI X hr hlk G hf dX7_row_24
      · refine lv_iload_n X.1.1 X.1.2.1 dX7_row_16 rfl (lv_at hl 3 rfl) ?_
        refine lv_bipush (v := 40) X.1.1 X.1.2.1 dX7_row_17 (by decide) ?_
        refine zic_le (tgt := 25) X dX7_row_19 (by decide) hf (fun hf => ?_) (fun hf => ?_)
        · refine lv_iload_n X.1.1 X.1.2.1 dX7_row_25 rfl (lv_at hl 3 rfl) ?_
          refine zif_ge (tgt := 35) X dX7_row_26 (by decide) hf (fun hf => ?_) (fun hf => ?_)
          · refine lv_aload_n X.1.1 X.1.2.1 dX7_row_35 rfl (lv_at hl 0 rfl) ?_
            refine zgetR (ci := 7) (k := 0) (C := RX7) (T := TX7) (N := 11) X G rfl inX7_row_X7 (Nat.le_of_ble_eq_true rfl) flX7_row_10 dX7_row_36 hf (fun v2 hf => ?_)
            refine lv_iload_n X.1.1 X.1.2.1 dX7_row_39 rfl (lv_at hl 1 rfl) ?_
            refine lv_iload_n X.1.1 X.1.2.1 dX7_row_40 rfl (lv_at hl 2 rfl) ?_
            refine lv_iload_n X.1.1 X.1.2.1 dX7_row_41 rfl (lv_at hl 3 rfl) ?_
            obtain ⟨hk, hf⟩ := zck hf
            obtain ⟨q3, eq3, hf⟩ := Option.bind_eq_some_iff.mp hf
            refine zcV0 (As := [.int a1, .int a2, .int a3]) (rest := []) (v := none) (h' := q3) X G (rfl : vwCl[4]? = some (RX4, TX4, 3)) hk (m_X4_makeAnew l D dA b0 v2 a1 a2 a3 h q3 eq3) (cwV 3 X.1.2.2.2.2 gX7_row_X4_makeAnew rfl rfl rfl hdV_X4_makeAnew ⟨(Nat.le_of_ble_eq_true rfl), (Nat.le_of_ble_eq_true rfl)⟩) rfl hl.1 rfl (Nat.le_of_ble_eq_true rfl) dX7_row_42 ⟨Nat.zero_le _, Nat.zero_le _⟩ (fun H locs G => ?_)
            refine lv_aload_n X.1.1 X.1.2.1 dX7_row_45 rfl (lv_at hl 0 rfl) ?_
            refine lv_iload_n X.1.1 X.1.2.1 dX7_row_46 rfl (lv_at hl 3 rfl) ?_
            obtain ⟨hk, hf⟩ := zck hf
            obtain ⟨q4, eq4, hf⟩ := Option.bind_eq_some_iff.mp hf
            refine zcV0 (As := [.int a3]) (rest := []) (v := (some (.int q4.1))) (h' := q4.2) X G (rfl : vwCl[7]? = some (RX7, TX7, 11)) hk (m_X7_fine l D dA b0 r0 a3 q3 q4 eq4) (cwV 1 X.1.2.2.2.2 gX7_row_X7_fine rfl rfl rfl hdV_X7_fine ⟨(Nat.le_of_ble_eq_true rfl), (Nat.le_of_ble_eq_true rfl)⟩) rfl hl.1 rfl (Nat.le_of_ble_eq_true rfl) dX7_row_47 ⟨Nat.zero_le _, Nat.zero_le _⟩ (fun H locs G => ?_)
            exact zretI X hr hlk G hf dX7_row_50
          · refine lv_aload_n X.1.1 X.1.2.1 dX7_row_29 rfl (lv_at hl 0 rfl) ?_
            refine lv_iconst (v := 4) X.1.1 X.1.2.1 dX7_row_30 (by decide) ?_
            obtain ⟨hk, hf⟩ := zck hf
            obtain ⟨q5, eq5, hf⟩ := Option.bind_eq_some_iff.mp hf
            refine zcV0 (As := [.int (4 : Int32)]) (rest := []) (v := (some (.int q5.1))) (h' := q5.2) X G (rfl : vwCl[7]? = some (RX7, TX7, 11)) hk (m_X7_found l D dA b0 r0 (4 : Int32) h q5 eq5) (cwV 1 X.1.2.2.2.2 gX7_row_X7_found rfl rfl rfl hdV_X7_found ⟨(Nat.le_of_ble_eq_true rfl), (Nat.le_of_ble_eq_true rfl)⟩) rfl hl.1 rfl (Nat.le_of_ble_eq_true rfl) dX7_row_31 ⟨Nat.zero_le _, Nat.zero_le _⟩ (fun H locs G => ?_)
            exact zretI X hr hlk G hf dX7_row_34
        · refine lv_ldc (v := -1000001) X.1.1 X.1.2.1 X.1.2.2.2.1 (X.1.2.2.2.2 _ coX7_row_76) dX7_row_22 ?_
          exact zretI X hr hlk G hf dX7_row_24
/-! X7_set -/
abbrev rmX7_set : Room := { frames := 1, cells := 0, slots := 0, locals := 24 }
theorem hdV_X7_set : yX7_set.cls = RX7 ∧ yX7_set.cls ≠ "java/lang/invoke/MethodHandle" ∧ yX7_set.cls ≠ "java/lang/invoke/VarHandle" ∧ (parseMethodDescriptor yX7_set.desc).map (fun d => d.parameters.length) = some 3 := by decide +kernel
theorem inX7_set_X7 : ∀ w ∈ wsX70, w ∈ wsX7_set := by decide +kernel
theorem flX7_set_10 : Cond.fieldLink RX7 10 (TX7 0).1 (TX7 0).2.1 (TX7 0).2.2.1 ∈ wsX7_set := by decide +kernel
theorem coX7_set_76 : Cond.constant RX7 76 (-1000001) ∈ wsX7_set := by decide +kernel
set_option maxHeartbeats 4000000 in
set_option maxRecDepth 100000 in
theorem m_X7_set (l : Launch) (D : va_G) (dA : Nat → ClassId) (b0 : Nat) (r0 : Nat) (a1 : Int32) (a2 : Int32) (a3 : Int32) (h : zH) (z : Int32 × zH) (hf : f_X7_set r0 a1 a2 a3 h = some z) : Met l yX7_set wsX7_set rmX7_set (zPc D dA b0 [.ref (b0 + r0), .int a1, .int a2, .int a3] h) (zQ D dA b0 (some (.int z.1)) z.2) 0 0 (zA b0) := by
  refine Met.ofW (cc := cX7_set) (maxL := 4) (ret := (some .int)) (by decide) rfl ?_
  intro p e s m args below meth c s₁ B hml hv
  obtain ⟨rfl, hP, hz, hK, hN⟩ := hv
  have hr := B.returns
  have hlk := B.notSynchronized
  have X : zX p s m _ c cX7_set 4 RX7 wsX7_set D dA := ⟨⟨B.exec, B.bytes, hml, findClass_of_methodNamed B.named, atoms_spec (ws := wsX7_set) B.pre⟩, hK, hN⟩
  have G : zG D dA b0 s.heap h s.heap [] := ⟨hP, hz, va_S.rf⟩
  have hl := lv_entry ([.ref (b0 + r0), .int a1, .int a2, .int a3]) (n := 4) (Nat.le_of_ble_eq_true rfl)
  rw [lg_entry_eq]
  generalize (lg_sl ([.ref (b0 + r0), .int a1, .int a2, .int a3]) ++ List.replicate (4 - (lg_sl ([.ref (b0 + r0), .int a1, .int a2, .int a3])).length) Slot.unset).toArray = ls at hl ⊢
  have hl : lv_has ls 4 [(0, .ref (b0 + r0)), (1, .int a1), (2, .int a2), (3, .int a3)] := hl
  unfold f_X7_set at hf
  refine lv_iload_n X.1.1 X.1.2.1 dX7_set_0 rfl (lv_at hl 1 rfl) ?_
  obtain ⟨q1, eq1, hf⟩ := Option.bind_eq_some_iff.mp hf
  refine zcS0 (As := [.int a1]) (rest := []) (v := (some (.int q1))) (h' := h) X G (m_X7_isRow l D dA b0 a1 h q1 eq1) (va_cwS 1 X.1.2.2.2.2 gX7_set_X7_isRow rfl rfl rfl hdS_X7_isRow ⟨(Nat.le_of_ble_eq_true rfl), (Nat.le_of_ble_eq_true rfl)⟩) rfl hl.1 rfl (Nat.le_of_ble_eq_true rfl) dX7_set_1 ⟨Nat.zero_le _, Nat.zero_le _⟩ (fun H locs G => ?_)
  refine zif_ne (tgt := 10) X dX7_set_4 (by decide) hf (fun hf => ?_) (fun hf => ?_)
  · refine lv_aload_n X.1.1 X.1.2.1 dX7_set_10 rfl (lv_at hl 0 rfl) ?_
    refine zgetR (ci := 7) (k := 0) (C := RX7) (T := TX7) (N := 11) X G rfl inX7_set_X7 (Nat.le_of_ble_eq_true rfl) flX7_set_10 dX7_set_11 hf (fun v2 hf => ?_)
    refine lv_iload_n X.1.1 X.1.2.1 dX7_set_14 rfl (lv_at hl 1 rfl) ?_
    obtain ⟨hk, hf⟩ := zck hf
    obtain ⟨q3, eq3, hf⟩ := Option.bind_eq_some_iff.mp hf
    refine zcV0 (As := [.int a1]) (rest := []) (v := (some (.int q3))) (h' := h) X G (rfl : vwCl[4]? = some (RX4, TX4, 3)) hk (m_X4_isMissing l D dA b0 v2 a1 h q3 eq3) (cwV 1 X.1.2.2.2.2 gX7_set_X4_isMissing rfl rfl rfl hdV_X4_isMissing ⟨(Nat.le_of_ble_eq_true rfl), (Nat.le_of_ble_eq_true rfl)⟩) rfl hl.1 rfl (Nat.le_of_ble_eq_true rfl) dX7_set_15 ⟨Nat.zero_le _, Nat.zero_le _⟩ (fun H locs G => ?_)
    refine zif_eq (tgt := 27) X dX7_set_18 (by decide) hf (fun hf => ?_) (fun hf => ?_)
    · refine lv_aload_n X.1.1 X.1.2.1 dX7_set_27 rfl (lv_at hl 0 rfl) ?_
      refine zgetR (ci := 7) (k := 0) (C := RX7) (T := TX7) (N := 11) X G rfl inX7_set_X7 (Nat.le_of_ble_eq_true rfl) flX7_set_10 dX7_set_28 hf (fun v4 hf => ?_)
      refine lv_iload_n X.1.1 X.1.2.1 dX7_set_31 rfl (lv_at hl 1 rfl) ?_
      refine lv_iload_n X.1.1 X.1.2.1 dX7_set_32 rfl (lv_at hl 2 rfl) ?_
      refine lv_iconst (v := 1) X.1.1 X.1.2.1 dX7_set_33 (by decide) ?_
      obtain ⟨hk, hf⟩ := zck hf
      obtain ⟨q5, eq5, hf⟩ := Option.bind_eq_some_iff.mp hf
      refine zcV0 (As := [.int a1, .int a2, .int (1 : Int32)]) (rest := []) (v := (some (.int q5))) (h' := h) X G (rfl : vwCl[4]? = some (RX4, TX4, 3)) hk (m_X4_hasRun l D dA b0 v4 a1 a2 (1 : Int32) h q5 eq5) (cwV 3 X.1.2.2.2.2 gX7_set_X4_hasRun rfl rfl rfl hdV_X4_hasRun ⟨(Nat.le_of_ble_eq_true rfl), (Nat.le_of_ble_eq_true rfl)⟩) rfl hl.1 rfl (Nat.le_of_ble_eq_true rfl) dX7_set_34 ⟨Nat.zero_le _, Nat.zero_le _⟩ (fun H locs G => ?_)
      refine zif_ne (tgt := 46) X dX7_set_37 (by decide) hf (fun hf => ?_) (fun hf => ?_)
      · refine lv_aload_n X.1.1 X.1.2.1 dX7_set_46 rfl (lv_at hl 0 rfl) ?_
        refine lv_aload_n X.1.1 X.1.2.1 dX7_set_47 rfl (lv_at hl 0 rfl) ?_
        refine zgetR (ci := 7) (k := 0) (C := RX7) (T := TX7) (N := 11) X G rfl inX7_set_X7 (Nat.le_of_ble_eq_true rfl) flX7_set_10 dX7_set_48 hf (fun v6 hf => ?_)
        refine lv_iload_n X.1.1 X.1.2.1 dX7_set_51 rfl (lv_at hl 1 rfl) ?_
        refine lv_iload_n X.1.1 X.1.2.1 dX7_set_52 rfl (lv_at hl 2 rfl) ?_
        refine lv_iload_n X.1.1 X.1.2.1 dX7_set_53 rfl (lv_at hl 3 rfl) ?_
        obtain ⟨hk, hf⟩ := zck hf
        obtain ⟨q7, eq7, hf⟩ := Option.bind_eq_some_iff.mp hf
        refine zcV0 (As := [.int a1, .int a2, .int a3]) (rest := [.ref (b0 + r0)]) (v := (some (.int q7.1))) (h' := q7.2) X G (rfl : vwCl[4]? = some (RX4, TX4, 3)) hk (m_X4_put l D dA b0 v6 a1 a2 a3 h q7 eq7) (cwV 3 X.1.2.2.2.2 gX7_set_X4_put rfl rfl rfl hdV_X4_put ⟨(Nat.le_of_ble_eq_true rfl), (Nat.le_of_ble_eq_true rfl)⟩) rfl hl.1 rfl (Nat.le_of_ble_eq_true rfl) dX7_set_54 ⟨Nat.zero_le _, Nat.zero_le _⟩ (fun H locs G => ?_)
        obtain ⟨hk, hf⟩ := zck hf
        obtain ⟨q8, eq8, hf⟩ := Option.bind_eq_some_iff.mp hf
        refine zcV0 (As := [.int q7.1]) (rest := []) (v := (some (.int q8.1))) (h' := q8.2) X G (rfl : vwCl[7]? = some (RX7, TX7, 11)) hk (m_X7_fine l D dA b0 r0 q7.1 q7.2 q8 eq8) (cwV 1 X.1.2.2.2.2 gX7_set_X7_fine rfl rfl rfl hdV_X7_fine ⟨(Nat.le_of_ble_eq_true rfl), (Nat.le_of_ble_eq_true rfl)⟩) rfl hl.1 rfl (Nat.le_of_ble_eq_true rfl) dX7_set_57 ⟨Nat.zero_le _, Nat.zero_le _⟩ (fun H locs G => ?_)
        exact zretI X hr hlk G hf dX7_set_60
      · refine lv_aload_n X.1.1 X.1.2.1 dX7_set_40 rfl (lv_at hl 0 rfl) ?_
        refine lv_iconst (v := 2) X.1.1 X.1.2.1 dX7_set_41 (by decide) ?_
        obtain ⟨hk, hf⟩ := zck hf
        obtain ⟨q9, eq9, hf⟩ := Option.bind_eq_some_iff.mp hf
        refine zcV0 (As := [.int (2 : Int32)]) (rest := []) (v := (some (.int q9.1))) (h' := q9.2) X G (rfl : vwCl[7]? = some (RX7, TX7, 11)) hk (m_X7_found l D dA b0 r0 (2 : Int32) h q9 eq9) (cwV 1 X.1.2.2.2.2 gX7_set_X7_found rfl rfl rfl hdV_X7_found ⟨(Nat.le_of_ble_eq_true rfl), (Nat.le_of_ble_eq_true rfl)⟩) rfl hl.1 rfl (Nat.le_of_ble_eq_true rfl) dX7_set_42 ⟨Nat.zero_le _, Nat.zero_le _⟩ (fun H locs G => ?_)
        exact zretI X hr hlk G hf dX7_set_45
    · refine lv_aload_n X.1.1 X.1.2.1 dX7_set_21 rfl (lv_at hl 0 rfl) ?_
      refine lv_iconst (v := 1) X.1.1 X.1.2.1 dX7_set_22 (by decide) ?_
      obtain ⟨hk, hf⟩ := zck hf
      obtain ⟨q10, eq10, hf⟩ := Option.bind_eq_some_iff.mp hf
      refine zcV0 (As := [.int (1 : Int32)]) (rest := []) (v := (some (.int q10.1))) (h' := q10.2) X G (rfl : vwCl[7]? = some (RX7, TX7, 11)) hk (m_X7_found l D dA b0 r0 (1 : Int32) h q10 eq10) (cwV 1 X.1.2.2.2.2 gX7_set_X7_found rfl rfl rfl hdV_X7_found ⟨(Nat.le_of_ble_eq_true rfl), (Nat.le_of_ble_eq_true rfl)⟩) rfl hl.1 rfl (Nat.le_of_ble_eq_true rfl) dX7_set_23 ⟨Nat.zero_le _, Nat.zero_le _⟩ (fun H locs G => ?_)
      exact zretI X hr hlk G hf dX7_set_26
  · refine lv_ldc (v := -1000001) X.1.1 X.1.2.1 X.1.2.2.2.1 (X.1.2.2.2.2 _ coX7_set_76) dX7_set_7 ?_
    exact zretI X hr hlk G hf dX7_set_9
