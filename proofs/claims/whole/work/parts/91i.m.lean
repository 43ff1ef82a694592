/-! X7_ahead -/
abbrev rmX7_ahead : Room := { frames := 5, cells := 0, slots := 0, locals := 127 }
theorem hdV_X7_ahead : yX7_ahead.cls = RX7 ∧ yX7_ahead.cls ≠ "java/lang/invoke/MethodHandle" ∧ yX7_ahead.cls ≠ "java/lang/invoke/VarHandle" ∧ (parseMethodDescriptor yX7_ahead.desc).map (fun d => d.parameters.length) = some 2 := by decide +kernel
theorem coX7_ahead_76 : Cond.constant RX7 76 (-1000001) ∈ wsX7_ahead := by decide +kernel
theorem inX7_ahead_X7 : ∀ w ∈ wsX70, w ∈ wsX7_ahead := by decide +kernel
theorem flX7_ahead_47 : Cond.fieldLink RX7 47 (TX7 6).1 (TX7 6).2.1 (TX7 6).2.2.1 ∈ wsX7_ahead := by decide +kernel
theorem flX7_ahead_26 : Cond.fieldLink RX7 26 (TX7 2).1 (TX7 2).2.1 (TX7 2).2.2.1 ∈ wsX7_ahead := by decide +kernel
theorem inX7_ahead_X3 : ∀ w ∈ wsX30, w ∈ wsX7_ahead := by decide +kernel
theorem flX7_ahead_166 : Cond.fieldLink RX7 166 (TX3 7).1 (TX3 7).2.1 (TX3 7).2.2.1 ∈ wsX7_ahead := by decide +kernel
set_option maxHeartbeats 4000000 in
set_option maxRecDepth 100000 in
theorem m_X7_ahead (l : Launch) (D : va_G) (dA : Nat → ClassId) (b0 : Nat) (r0 : Nat) (a1 : Int32) (a2 : Int32) (h : zH) (z : Int32 × zH) (hf : f_X7_ahead r0 a1 a2 h = some z) : Met l yX7_ahead wsX7_ahead rmX7_ahead (zPc D dA b0 [.ref (b0 + r0), .int a1, .int a2] h) (zQ D dA b0 (some (.int z.1)) z.2) 0 0 (zA b0) := by
  refine Met.ofW (cc := cX7_ahead) (maxL := 3) (ret := (some .int)) (by decide) rfl ?_
  intro p e s m args below meth c s₁ B hml hv
  obtain ⟨rfl, hP, hz, hK, hN⟩ := hv
  have hr := B.returns
  have hlk := B.notSynchronized
  have X : zX p s m _ c cX7_ahead 3 RX7 wsX7_ahead D dA := ⟨⟨B.exec, B.bytes, hml, findClass_of_methodNamed B.named, atoms_spec (ws := wsX7_ahead) B.pre⟩, hK, hN⟩
  have G : zG D dA b0 s.heap h s.heap [] := ⟨hP, hz, va_S.rf⟩
  have hl := lv_entry ([.ref (b0 + r0), .int a1, .int a2]) (n := 3) (Nat.le_of_ble_eq_true rfl)
  rw [lg_entry_eq]
  generalize (lg_sl ([.ref (b0 + r0), .int a1, .int a2]) ++ List.replicate (3 - (lg_sl ([.ref (b0 + r0), .int a1, .int a2])).length) Slot.unset).toArray = ls at hl ⊢
  have hl : lv_has ls 3 [(0, .ref (b0 + r0)), (1, .int a1), (2, .int a2)] := hl
  unfold f_X7_ahead at hf
  refine lv_aload_n X.1.1 X.1.2.1 dX7_ahead_0 rfl (lv_at hl 0 rfl) ?_
  refine lv_iload_n X.1.1 X.1.2.1 dX7_ahead_1 rfl (lv_at hl 1 rfl) ?_
  obtain ⟨hk, hf⟩ := zck hf
  obtain ⟨q1, eq1, hf⟩ := Option.bind_eq_some_iff.mp hf
  refine zcV0 (As := [.int a1]) (rest := []) (v := (some (.int q1))) (h' := h) X G (rfl : vwCl[7]? = some (RX7, TX7, 11)) hk (m_X7_isThing l D dA b0 r0 a1 h q1 eq1) (cwV 1 X.1.2.2.2.2 gX7_ahead_X7_isThing rfl rfl rfl hdV_X7_isThing ⟨(Nat.le_of_ble_eq_true rfl), (Nat.le_of_ble_eq_true rfl)⟩) rfl hl.1 rfl (Nat.le_of_ble_eq_true rfl) dX7_ahead_2 ⟨Nat.zero_le _, Nat.zero_le _⟩ (fun H locs G => ?_)
  refine zif_eq (tgt := 15) X dX7_ahead_5 (by decide) hf (fun hf => ?_) (fun hf => ?_)
  · refine lv_ldc (v := -1000001) X.1.1 X.1.2.1 X.1.2.2.2.1 (X.1.2.2.2.2 _ coX7_ahead_76) dX7_ahead_15 ?_
    exact zretI X hr hlk G hf dX7_ahead_17
  · refine lv_iload_n X.1.1 X.1.2.1 dX7_ahead_8 rfl (lv_at hl 2 rfl) ?_
    obtain ⟨q2, eq2, hf⟩ := Option.bind_eq_some_iff.mp hf
    refine zcS0 (As := [.int a2]) (rest := []) (v := (some (.int q2))) (h' := h) X G (m_X7_isForetold l D dA b0 a2 h q2 eq2) (va_cwS 1 X.1.2.2.2.2 gX7_ahead_X7_isForetold rfl rfl rfl hdS_X7_isForetold ⟨(Nat.le_of_ble_eq_true rfl), (Nat.le_of_ble_eq_true rfl)⟩) rfl hl.1 rfl (Nat.le_of_ble_eq_true rfl) dX7_ahead_9 ⟨Nat.zero_le _, Nat.zero_le _⟩ (fun H locs G => ?_)
    refine zif_ne (tgt := 18) X dX7_ahead_12 (by decide) hf (fun hf => ?_) (fun hf => ?_)
    · refine lv_aload_n X.1.1 X.1.2.1 dX7_ahead_18 rfl (lv_at hl 0 rfl) ?_
      refine zgetR (ci := 7) (k := 6) (C := RX7) (T := TX7) (N := 11) X G rfl inX7_ahead_X7 (Nat.le_of_ble_eq_true rfl) flX7_ahead_47 dX7_ahead_19 hf (fun v3 hf => ?_)
      refine lv_aload_n X.1.1 X.1.2.1 dX7_ahead_22 rfl (lv_at hl 0 rfl) ?_
      refine zgetR (ci := 7) (k := 2) (C := RX7) (T := TX7) (N := 11) X G rfl inX7_ahead_X7 (Nat.le_of_ble_eq_true rfl) flX7_ahead_26 dX7_ahead_23 hf (fun v4 hf => ?_)
      refine lv_iload_n X.1.1 X.1.2.1 dX7_ahead_26 rfl (lv_at hl 2 rfl) ?_
      obtain ⟨hk, hf⟩ := zck hf
      obtain ⟨q5, eq5, hf⟩ := Option.bind_eq_some_iff.mp hf
      refine zcV0 (As := [.ref (b0 + v4), .int a2]) (rest := []) (v := (some (.ref (b0 + q5.1)))) (h' := q5.2) X G (rfl : vwCl[5]? = some (RX5, TX5, 2)) hk (m_X5_behind l D dA b0 v3 v4 a2 h q5 eq5) (cwV 2 X.1.2.2.2.2 gX7_ahead_X5_behind rfl rfl rfl hdV_X5_behind ⟨(Nat.le_of_ble_eq_true rfl), (Nat.le_of_ble_eq_true rfl)⟩) rfl hl.1 rfl (Nat.le_of_ble_eq_true rfl) dX7_ahead_27 ⟨Nat.zero_le _, Nat.zero_le _⟩ (fun H locs G => ?_)
      refine zgetR (ci := 3) (k := 7) (C := RX3) (T := TX3) (N := 12) X G rfl inX7_ahead_X3 (Nat.le_of_ble_eq_true rfl) flX7_ahead_166 dX7_ahead_30 hf (fun v6 hf => ?_)
      refine lv_iload_n X.1.1 X.1.2.1 dX7_ahead_33 rfl (lv_at hl 1 rfl) ?_
      refine ziald X G dX7_ahead_34 hf (fun v7 hf => ?_)
      exact zretI X hr hlk G hf dX7_ahead_35
    · refine lv_ldc (v := -1000001) X.1.1 X.1.2.1 X.1.2.2.2.1 (X.1.2.2.2.2 _ coX7_ahead_76) dX7_ahead_15 ?_
      exact zretI X hr hlk G hf dX7_ahead_17
/-! X7_up -/
abbrev rmX7_up : Room := { frames := 5, cells := 0, slots := 0, locals := 127 }
theorem hdV_X7_up : yX7_up.cls = RX7 ∧ yX7_up.cls ≠ "java/lang/invoke/MethodHandle" ∧ yX7_up.cls ≠ "java/lang/invoke/VarHandle" ∧ (parseMethodDescriptor yX7_up.desc).map (fun d => d.parameters.length) = some 1 := by decide +kernel
theorem inX7_up_X7 : ∀ w ∈ wsX70, w ∈ wsX7_up := by decide +kernel
theorem flX7_up_26 : Cond.fieldLink RX7 26 (TX7 2).1 (TX7 2).2.1 (TX7 2).2.2.1 ∈ wsX7_up := by decide +kernel
theorem inX7_up_X3 : ∀ w ∈ wsX30, w ∈ wsX7_up := by decide +kernel
theorem flX7_up_141 : Cond.fieldLink RX7 141 (TX3 0).1 (TX3 0).2.1 (TX3 0).2.2.1 ∈ wsX7_up := by decide +kernel
theorem coX7_up_76 : Cond.constant RX7 76 (-1000001) ∈ wsX7_up := by decide +kernel
theorem flX7_up_47 : Cond.fieldLink RX7 47 (TX7 6).1 (TX7 6).2.1 (TX7 6).2.2.1 ∈ wsX7_up := by decide +kernel
theorem coX7_up_145 : Cond.constant RX7 145 (-1000002) ∈ wsX7_up := by decide +kernel
set_option maxHeartbeats 4000000 in
set_option maxRecDepth 100000 in
theorem m_X7_up (l : Launch) (D : va_G) (dA : Nat → ClassId) (b0 : Nat) (r0 : Nat) (a1 : Int32) (h : zH) (z : Int32 × zH) (hf : f_X7_up r0 a1 h = some z) : Met l yX7_up wsX7_up rmX7_up (zPc D dA b0 [.ref (b0 + r0), .int a1] h) (zQ D dA b0 (some (.int z.1)) z.2) 0 0 (zA b0) := by
  refine Met.ofW (cc := cX7_up) (maxL := 2) (ret := (some .int)) (by decide) rfl ?_
  intro p e s m args below meth c s₁ B hml hv
  obtain ⟨rfl, hP, hz, hK, hN⟩ := hv
  have hr := B.returns
  have hlk := B.notSynchronized
  have X : zX p s m _ c cX7_up 2 RX7 wsX7_up D dA := ⟨⟨B.exec, B.bytes, hml, findClass_of_methodNamed B.named, atoms_spec (ws := wsX7_up) B.pre⟩, hK, hN⟩
  have G : zG D dA b0 s.heap h s.heap [] := ⟨hP, hz, va_S.rf⟩
  have hl := lv_entry ([.ref (b0 + r0), .int a1]) (n := 2) (Nat.le_of_ble_eq_true rfl)
  rw [lg_entry_eq]
  generalize (lg_sl ([.ref (b0 + r0), .int a1]) ++ List.replicate (2 - (lg_sl ([.ref (b0 + r0), .int a1])).length) Slot.unset).toArray = ls at hl ⊢
  have hl : lv_has ls 2 [(0, .ref (b0 + r0)), (1, .int a1)] := hl
  unfold f_X7_up at hf
  refine lv_aload_n X.1.1 X.1.2.1 dX7_up_0 rfl (lv_at hl 0 rfl) ?_
  refine zgetR (ci := 7) (k := 2) (C := RX7) (T := TX7) (N := 11) X G rfl inX7_up_X7 (Nat.le_of_ble_eq_true rfl) flX7_up_26 dX7_up_1 hf (fun v1 hf => ?_)
  refine zgetI (ci := 3) (k := 0) (C := RX3) (T := TX3) (N := 12) X G rfl inX7_up_X3 (Nat.le_of_ble_eq_true rfl) flX7_up_141 dX7_up_4 hf (fun v2 hf => ?_)
  refine zif_ne (tgt := 13) X dX7_up_7 (by decide) hf (fun hf => ?_) (fun hf => ?_)
  · refine lv_iload_n X.1.1 X.1.2.1 dX7_up_13 rfl (lv_at hl 1 rfl) ?_
    obtain ⟨q3, eq3, hf⟩ := Option.bind_eq_some_iff.mp hf
    refine zcS0 (As := [.int a1]) (rest := []) (v := (some (.int q3))) (h' := h) X G (m_X7_isForetold l D dA b0 a1 h q3 eq3) (va_cwS 1 X.1.2.2.2.2 gX7_up_X7_isForetold rfl rfl rfl hdS_X7_isForetold ⟨(Nat.le_of_ble_eq_true rfl), (Nat.le_of_ble_eq_true rfl)⟩) rfl hl.1 rfl (Nat.le_of_ble_eq_true rfl) dX7_up_14 ⟨Nat.zero_le _, Nat.zero_le _⟩ (fun H locs G => ?_)
    refine zif_eq (tgt := 38) X dX7_up_17 (by decide) hf (fun hf => ?_) (fun hf => ?_)
    · refine lv_ldc (v := -1000001) X.1.1 X.1.2.1 X.1.2.2.2.1 (X.1.2.2.2.2 _ coX7_up_76) dX7_up_38 ?_
      exact zretI X hr hlk G hf dX7_up_40
    · refine lv_aload_n X.1.1 X.1.2.1 dX7_up_20 rfl (lv_at hl 0 rfl) ?_
      refine zgetR (ci := 7) (k := 6) (C := RX7) (T := TX7) (N := 11) X G rfl inX7_up_X7 (Nat.le_of_ble_eq_true rfl) flX7_up_47 dX7_up_21 hf (fun v4 hf => ?_)
      refine lv_aload_n X.1.1 X.1.2.1 dX7_up_24 rfl (lv_at hl 0 rfl) ?_
      refine zgetR (ci := 7) (k := 2) (C := RX7) (T := TX7) (N := 11) X G rfl inX7_up_X7 (Nat.le_of_ble_eq_true rfl) flX7_up_26 dX7_up_25 hf (fun v5 hf => ?_)
      refine lv_iload_n X.1.1 X.1.2.1 dX7_up_28 rfl (lv_at hl 1 rfl) ?_
      obtain ⟨hk, hf⟩ := zck hf
      obtain ⟨q6, eq6, hf⟩ := Option.bind_eq_some_iff.mp hf
      refine zcV0 (As := [.ref (b0 + v5), .int a1]) (rest := []) (v := (some (.ref (b0 + q6.1)))) (h' := q6.2) X G (rfl : vwCl[5]? = some (RX5, TX5, 2)) hk (m_X5_behind l D dA b0 v4 v5 a1 h q6 eq6) (cwV 2 X.1.2.2.2.2 gX7_up_X5_behind rfl rfl rfl hdV_X5_behind ⟨(Nat.le_of_ble_eq_true rfl), (Nat.le_of_ble_eq_true rfl)⟩) rfl hl.1 rfl (Nat.le_of_ble_eq_true rfl) dX7_up_29 ⟨Nat.zero_le _, Nat.zero_le _⟩ (fun H locs G => ?_)
      obtain ⟨hk, hf⟩ := zck hf
      obtain ⟨q7, eq7, hf⟩ := Option.bind_eq_some_iff.mp hf
      refine zcV0 (As := []) (rest := []) (v := (some (.int q7))) (h' := q6.2) X G (rfl : vwCl[3]? = some (RX3, TX3, 12)) hk (m_X3_allUp l D dA b0 q6.1 q6.2 q7 eq7) (cwV 0 X.1.2.2.2.2 gX7_up_X3_allUp rfl rfl rfl hdV_X3_allUp ⟨(Nat.le_of_ble_eq_true rfl), (Nat.le_of_ble_eq_true rfl)⟩) rfl hl.1 rfl (Nat.le_of_ble_eq_true rfl) dX7_up_32 ⟨Nat.zero_le _, Nat.zero_le _⟩ (fun H locs G => ?_)
      refine lv_goto (tgt := 40) X.1.1 X.1.2.1 dX7_up_35 (by decide) ?_
      exact zretI X hr hlk G hf dX7_up_40
  · refine lv_ldc (v := -1000002) X.1.1 X.1.2.1 X.1.2.2.2.1 (X.1.2.2.2.2 _ coX7_up_145) dX7_up_10 ?_
    exact zretI X hr hlk G hf dX7_up_12
/-! X7_comesUp -/
abbrev rmX7_comesUp : Room := { frames := 4, cells := 0, slots := 0, locals := 106 }
theorem hdV_X7_comesUp : yX7_comesUp.cls = RX7 ∧ yX7_comesUp.cls ≠ "java/lang/invoke/MethodHandle" ∧ yX7_comesUp.cls ≠ "java/lang/invoke/VarHandle" ∧ (parseMethodDescriptor yX7_comesUp.desc).map (fun d => d.parameters.length) = some 1 := by decide +kernel
theorem coX7_comesUp_76 : Cond.constant RX7 76 (-1000001) ∈ wsX7_comesUp := by decide +kernel
theorem inX7_comesUp_X7 : ∀ w ∈ wsX70, w ∈ wsX7_comesUp := by decide +kernel
theorem flX7_comesUp_47 : Cond.fieldLink RX7 47 (TX7 6).1 (TX7 6).2.1 (TX7 6).2.2.1 ∈ wsX7_comesUp := by decide +kernel
theorem flX7_comesUp_26 : Cond.fieldLink RX7 26 (TX7 2).1 (TX7 2).2.1 (TX7 2).2.2.1 ∈ wsX7_comesUp := by decide +kernel
set_option maxHeartbeats 4000000 in
set_option maxRecDepth 100000 in
theorem m_X7_comesUp (l : Launch) (D : va_G) (dA : Nat → ClassId) (b0 : Nat) (r0 : Nat) (a1 : Int32) (h : zH) (z : Int32 × zH) (hf : f_X7_comesUp r0 a1 h = some z) : Met l yX7_comesUp wsX7_comesUp rmX7_comesUp (zPc D dA b0 [.ref (b0 + r0), .int a1] h) (zQ D dA b0 (some (.int z.1)) z.2) 0 0 (zA b0) := by
  refine Met.ofW (cc := cX7_comesUp) (maxL := 2) (ret := (some .int)) (by decide) rfl ?_
  intro p e s m args below meth c s₁ B hml hv
  obtain ⟨rfl, hP, hz, hK, hN⟩ := hv
  have hr := B.returns
  have hlk := B.notSynchronized
  have X : zX p s m _ c cX7_comesUp 2 RX7 wsX7_comesUp D dA := ⟨⟨B.exec, B.bytes, hml, findClass_of_methodNamed B.named, atoms_spec (ws := wsX7_comesUp) B.pre⟩, hK, hN⟩
  have G : zG D dA b0 s.heap h s.heap [] := ⟨hP, hz, va_S.rf⟩
  have hl := lv_entry ([.ref (b0 + r0), .int a1]) (n := 2) (Nat.le_of_ble_eq_true rfl)
  rw [lg_entry_eq]
  generalize (lg_sl ([.ref (b0 + r0), .int a1]) ++ List.replicate (2 - (lg_sl ([.ref (b0 + r0), .int a1])).length) Slot.unset).toArray = ls at hl ⊢
  have hl : lv_has ls 2 [(0, .ref (b0 + r0)), (1, .int a1)] := hl
  unfold f_X7_comesUp at hf
  refine lv_aload_n X.1.1 X.1.2.1 dX7_comesUp_0 rfl (lv_at hl 0 rfl) ?_
  refine lv_iload_n X.1.1 X.1.2.1 dX7_comesUp_1 rfl (lv_at hl 1 rfl) ?_
  obtain ⟨hk, hf⟩ := zck hf
  obtain ⟨q1, eq1, hf⟩ := Option.bind_eq_some_iff.mp hf
  refine zcV0 (As := [.int a1]) (rest := []) (v := (some (.int q1))) (h' := h) X G (rfl : vwCl[7]? = some (RX7, TX7, 11)) hk (m_X7_isThing l D dA b0 r0 a1 h q1 eq1) (cwV 1 X.1.2.2.2.2 gX7_comesUp_X7_isThing rfl rfl rfl hdV_X7_isThing ⟨(Nat.le_of_ble_eq_true rfl), (Nat.le_of_ble_eq_true rfl)⟩) rfl hl.1 rfl (Nat.le_of_ble_eq_true rfl) dX7_comesUp_2 ⟨Nat.zero_le _, Nat.zero_le _⟩ (fun H locs G => ?_)
  refine zif_eq (tgt := 23) X dX7_comesUp_5 (by decide) hf (fun hf => ?_) (fun hf => ?_)
  · refine lv_ldc (v := -1000001) X.1.1 X.1.2.1 X.1.2.2.2.1 (X.1.2.2.2.2 _ coX7_comesUp_76) dX7_comesUp_23 ?_
    exact zretI X hr hlk G hf dX7_comesUp_25
  · refine lv_aload_n X.1.1 X.1.2.1 dX7_comesUp_8 rfl (lv_at hl 0 rfl) ?_
    refine zgetR (ci := 7) (k := 6) (C := RX7) (T := TX7) (N := 11) X G rfl inX7_comesUp_X7 (Nat.le_of_ble_eq_true rfl) flX7_comesUp_47 dX7_comesUp_9 hf (fun v2 hf => ?_)
    refine lv_aload_n X.1.1 X.1.2.1 dX7_comesUp_12 rfl (lv_at hl 0 rfl) ?_
    refine zgetR (ci := 7) (k := 2) (C := RX7) (T := TX7) (N := 11) X G rfl inX7_comesUp_X7 (Nat.le_of_ble_eq_true rfl) flX7_comesUp_26 dX7_comesUp_13 hf (fun v3 hf => ?_)
    refine lv_iload_n X.1.1 X.1.2.1 dX7_comesUp_16 rfl (lv_at hl 1 rfl) ?_
    obtain ⟨hk, hf⟩ := zck hf
    obtain ⟨q4, eq4, hf⟩ := Option.bind_eq_some_iff.mp hf
    refine zcV0 (As := [.ref (b0 + v3), .int a1]) (rest := []) (v := (some (.int q4.1))) (h' := q4.2) X G (rfl : vwCl[5]? = some (RX5, TX5, 2)) hk (m_X5_yearsUntilUp l D dA b0 v2 v3 a1 h q4 eq4) (cwV 2 X.1.2.2.2.2 gX7_comesUp_X5_yearsUntilUp rfl rfl rfl hdV_X5_yearsUntilUp ⟨(Nat.le_of_ble_eq_true rfl), (Nat.le_of_ble_eq_true rfl)⟩) rfl hl.1 rfl (Nat.le_of_ble_eq_true rfl) dX7_comesUp_17 ⟨Nat.zero_le _, Nat.zero_le _⟩ (fun H locs G => ?_)
    refine lv_goto (tgt := 25) X.1.1 X.1.2.1 dX7_comesUp_20 (by decide) ?_
    exact zretI X hr hlk G hf dX7_comesUp_25
/-! X7_isOneOfTwo -/
abbrev rmX7_isOneOfTwo : Room := { frames := 0, cells := 0, slots := 0, locals := 0 }
theorem hdS_X7_isOneOfTwo : yX7_isOneOfTwo.cls ≠ "java/lang/invoke/MethodHandle" ∧ yX7_isOneOfTwo.cls ≠ "java/lang/invoke/VarHandle" ∧ (parseMethodDescriptor yX7_isOneOfTwo.desc).map (fun d => d.parameters.length) = some 1 := by decide +kernel
set_option maxHeartbeats 4000000 in
set_option maxRecDepth 100000 in
theorem w_X7_isOneOfTwo_b9 {p : Program} {l : Launch} {e : Env} {s : State} {m : MethodId} {args : Array Value} {below : List Frame} {meth : Method} {c : Code} {D : va_G} {dA : Nat → ClassId} {b0 : Nat} {h : zH} (X : zX p s m args c cX7_isOneOfTwo 1 RX7 wsX7_isOneOfTwo D dA) (hr : meth.sig.returnType = (some .boolean)) (hlk : meth.locks = false) {z : Int32} : ∀ (H : Heap) (locs : List Loc) (ls : Array Slot), f_X7_isOneOfTwo_b9 h = some z → zG D dA b0 s.heap h H locs → lv_has ls 1 [] → W p l e rmX7_isOneOfTwo s m args below meth c H locs 0 0 (MQ below (zQ D dA b0 (some (.int z)) h) args s 0 0 (zA b0)) (F0 m 9 ls []) := by
  intro  H locs ls hf G hl
  unfold f_X7_isOneOfTwo_b9 at hf
  refine lv_iconst (v := 1) X.1.1 X.1.2.1 dX7_isOneOfTwo_9 (by decide) ?_
  refine lv_goto (tgt := 14) X.1.1 X.1.2.1 dX7_isOneOfTwo_10 (by decide) ?_
  exact zretZr X hr hlk G hf dX7_isOneOfTwo_14
set_option maxHeartbeats 4000000 in
set_option maxRecDepth 100000 in
theorem m_X7_isOneOfTwo (l : Launch) (D : va_G) (dA : Nat → ClassId) (b0 : Nat) (a0 : Int32) (h : zH) (z : Int32) (hf : f_X7_isOneOfTwo a0 h = some z) : Met l yX7_isOneOfTwo wsX7_isOneOfTwo rmX7_isOneOfTwo (zPc D dA b0 [.int a0] h) (zQ D dA b0 (some (.int z)) h) 0 0 (zA b0) := by
  refine Met.ofW (cc := cX7_isOneOfTwo) (maxL := 1) (ret := (some .boolean)) (by decide) rfl ?_
  intro p e s m args below meth c s₁ B hml hv
  obtain ⟨rfl, hP, hz, hK, hN⟩ := hv
  have hr := B.returns
  have hlk := B.notSynchronized
  have X : zX p s m _ c cX7_isOneOfTwo 1 RX7 wsX7_isOneOfTwo D dA := ⟨⟨B.exec, B.bytes, hml, findClass_of_methodNamed B.named, atoms_spec (ws := wsX7_isOneOfTwo) B.pre⟩, hK, hN⟩
  have G : zG D dA b0 s.heap h s.heap [] := ⟨hP, hz, va_S.rf⟩
  have hl := lv_entry ([.int a0]) (n := 1) (Nat.le_of_ble_eq_true rfl)
  rw [lg_entry_eq]
  generalize (lg_sl ([.int a0]) ++ List.replicate (1 - (lg_sl ([.int a0])).length) Slot.unset).toArray = ls at hl ⊢
  have hl : lv_has ls 1 [(0, .int a0)] := hl
  unfold f_X7_isOneOfTwo at hf
  refine lv_iload_n X.1.1 X.1.2.1 dX7_isOneOfTwo_0 rfl (lv_at hl 0 rfl) ?_
  refine zif_eq (tgt := 9) X dX7_isOneOfTwo_1 (by decide) hf (fun hf => ?_) (fun hf => ?_)
  · exact w_X7_isOneOfTwo_b9 X hr hlk _ _ _ hf G (lv_sub hl [] rfl)
  · refine lv_iload_n X.1.1 X.1.2.1 dX7_isOneOfTwo_4 rfl (lv_at hl 0 rfl) ?_
    refine lv_iconst (v := 1) X.1.1 X.1.2.1 dX7_isOneOfTwo_5 (by decide) ?_
    refine zic_ne (tgt := 13) X dX7_isOneOfTwo_6 (by decide) hf (fun hf => ?_) (fun hf => ?_)
    · refine lv_iconst (v := 0) X.1.1 X.1.2.1 dX7_isOneOfTwo_13 (by decide) ?_
      exact zretZr X hr hlk G hf dX7_isOneOfTwo_14
    · exact w_X7_isOneOfTwo_b9 X hr hlk _ _ _ hf G (lv_sub hl [] rfl)
/-! X7_first -/
abbrev rmX7_first : Room := { frames := 4, cells := 0, slots := 0, locals := 108 }
theorem hdV_X7_first : yX7_first.cls = RX7 ∧ yX7_first.cls ≠ "java/lang/invoke/MethodHandle" ∧ yX7_first.cls ≠ "java/lang/invoke/VarHandle" ∧ (parseMethodDescriptor yX7_first.desc).map (fun d => d.parameters.length) = some 1 := by decide +kernel
theorem inX7_first_X7 : ∀ w ∈ wsX70, w ∈ wsX7_first := by decide +kernel
theorem flX7_first_26 : Cond.fieldLink RX7 26 (TX7 2).1 (TX7 2).2.1 (TX7 2).2.2.1 ∈ wsX7_first := by decide +kernel
theorem inX7_first_X3 : ∀ w ∈ wsX30, w ∈ wsX7_first := by decide +kernel
theorem flX7_first_141 : Cond.fieldLink RX7 141 (TX3 0).1 (TX3 0).2.1 (TX3 0).2.2.1 ∈ wsX7_first := by decide +kernel
theorem coX7_first_76 : Cond.constant RX7 76 (-1000001) ∈ wsX7_first := by decide +kernel
theorem flX7_first_47 : Cond.fieldLink RX7 47 (TX7 6).1 (TX7 6).2.1 (TX7 6).2.2.1 ∈ wsX7_first := by decide +kernel
theorem coX7_first_145 : Cond.constant RX7 145 (-1000002) ∈ wsX7_first := by decide +kernel
set_option maxHeartbeats 4000000 in
set_option maxRecDepth 100000 in
theorem w_X7_first_b37 {p : Program} {l : Launch} {e : Env} {s : State} {m : MethodId} {args : Array Value} {below : List Frame} {meth : Method} {c : Code} {D : va_G} {dA : Nat → ClassId} {b0 : Nat} (X : zX p s m args c cX7_first 2 RX7 wsX7_first D dA) (hr : meth.sig.returnType = (some .int)) (hlk : meth.locks = false) {z : Int32 × zH} : ∀ (s0 : Nat) (s1 : Nat) (s2 : Int32) (h : zH) (H : Heap) (locs : List Loc) (ls : Array Slot), f_X7_first_b37 s0 s1 s2 h = some z → zG D dA b0 s.heap h H locs → lv_has ls 2 [] → W p l e rmX7_first s m args below meth c H locs 0 0 (MQ below (zQ D dA b0 (some (.int z.1)) z.2) args s 0 0 (zA b0)) (F0 m 37 ls [.int s2, .ref (b0 + s1), .ref (b0 + s0)]) := by
  intro s0 s1 s2 h H locs ls hf G hl
  unfold f_X7_first_b37 at hf
  obtain ⟨hk, hf⟩ := zck hf
  obtain ⟨q1, eq1, hf⟩ := Option.bind_eq_some_iff.mp hf
  refine zcV0 (As := [.ref (b0 + s1), .int s2]) (rest := []) (v := (some (.int q1.1))) (h' := q1.2) X G (rfl : vwCl[5]? = some (RX5, TX5, 2)) hk (m_X5_firstUp l D dA b0 s0 s1 s2 h q1 eq1) (cwV 2 X.1.2.2.2.2 gX7_first_X5_firstUp rfl rfl rfl hdV_X5_firstUp ⟨(Nat.le_of_ble_eq_true rfl), (Nat.le_of_ble_eq_true rfl)⟩) rfl hl.1 rfl (Nat.le_of_ble_eq_true rfl) dX7_first_37 ⟨Nat.zero_le _, Nat.zero_le _⟩ (fun H locs G => ?_)
  refine lv_goto (tgt := 45) X.1.1 X.1.2.1 dX7_first_40 (by decide) ?_
  exact zretI X hr hlk G hf dX7_first_45
set_option maxHeartbeats 4000000 in
set_option maxRecDepth 100000 in
theorem m_X7_first (l : Launch) (D : va_G) (dA : Nat → ClassId) (b0 : Nat) (r0 : Nat) (a1 : Int32) (h : zH) (z : Int32 × zH) (hf : f_X7_first r0 a1 h = some z) : Met l yX7_first wsX7_first rmX7_first (zPc D dA b0 [.ref (b0 + r0), .int a1] h) (zQ D dA b0 (some (.int z.1)) z.2) 0 0 (zA b0) := by
  refine Met.ofW (cc := cX7_first) (maxL := 2) (ret := (some .int)) (by decide) rfl ?_
  intro p e s m args below meth c s₁ B hml hv
  obtain ⟨rfl, hP, hz, hK, hN⟩ := hv
  have hr := B.returns
  have hlk := B.notSynchronized
  have X : zX p s m _ c cX7_first 2 RX7 wsX7_first D dA := ⟨⟨B.exec, B.bytes, hml, findClass_of_methodNamed B.named, atoms_spec (ws := wsX7_first) B.pre⟩, hK, hN⟩
  have G : zG D dA b0 s.heap h s.heap [] := ⟨hP, hz, va_S.rf⟩
  have hl := lv_entry ([.ref (b0 + r0), .int a1]) (n := 2) (Nat.le_of_ble_eq_true rfl)
  rw [lg_entry_eq]
  generalize (lg_sl ([.ref (b0 + r0), .int a1]) ++ List.replicate (2 - (lg_sl ([.ref (b0 + r0), .int a1])).length) Slot.unset).toArray = ls at hl ⊢
  have hl : lv_has ls 2 [(0, .ref (b0 + r0)), (1, .int a1)] := hl
  unfold f_X7_first at hf
  refine lv_aload_n X.1.1 X.1.2.1 dX7_first_0 rfl (lv_at hl 0 rfl) ?_
  refine zgetR (ci := 7) (k := 2) (C := RX7) (T := TX7) (N := 11) X G rfl inX7_first_X7 (Nat.le_of_ble_eq_true rfl) flX7_first_26 dX7_first_1 hf (fun v1 hf => ?_)
  refine zgetI (ci := 3) (k := 0) (C := RX3) (T := TX3) (N := 12) X G rfl inX7_first_X3 (Nat.le_of_ble_eq_true rfl) flX7_first_141 dX7_first_4 hf (fun v2 hf => ?_)
  refine zif_ne (tgt := 13) X dX7_first_7 (by decide) hf (fun hf => ?_) (fun hf => ?_)
  · refine lv_iload_n X.1.1 X.1.2.1 dX7_first_13 rfl (lv_at hl 1 rfl) ?_
    obtain ⟨q3, eq3, hf⟩ := Option.bind_eq_some_iff.mp hf
    refine zcS0 (As := [.int a1]) (rest := []) (v := (some (.int q3))) (h' := h) X G (m_X7_isOneOfTwo l D dA b0 a1 h q3 eq3) (va_cwS 1 X.1.2.2.2.2 gX7_first_X7_isOneOfTwo rfl rfl rfl hdS_X7_isOneOfTwo ⟨(Nat.le_of_ble_eq_true rfl), (Nat.le_of_ble_eq_true rfl)⟩) rfl hl.1 rfl (Nat.le_of_ble_eq_true rfl) dX7_first_14 ⟨Nat.zero_le _, Nat.zero_le _⟩ (fun H locs G => ?_)
    refine zif_eq (tgt := 43) X dX7_first_17 (by decide) hf (fun hf => ?_) (fun hf => ?_)
    · refine lv_ldc (v := -1000001) X.1.1 X.1.2.1 X.1.2.2.2.1 (X.1.2.2.2.2 _ coX7_first_76) dX7_first_43 ?_
      exact zretI X hr hlk G hf dX7_first_45
    · refine lv_aload_n X.1.1 X.1.2.1 dX7_first_20 rfl (lv_at hl 0 rfl) ?_
      refine zgetR (ci := 7) (k := 6) (C := RX7) (T := TX7) (N := 11) X G rfl inX7_first_X7 (Nat.le_of_ble_eq_true rfl) flX7_first_47 dX7_first_21 hf (fun v4 hf => ?_)
      refine lv_aload_n X.1.1 X.1.2.1 dX7_first_24 rfl (lv_at hl 0 rfl) ?_
      refine zgetR (ci := 7) (k := 2) (C := RX7) (T := TX7) (N := 11) X G rfl inX7_first_X7 (Nat.le_of_ble_eq_true rfl) flX7_first_26 dX7_first_25 hf (fun v5 hf => ?_)
      refine lv_iload_n X.1.1 X.1.2.1 dX7_first_28 rfl (lv_at hl 1 rfl) ?_
      refine zif_ne (tgt := 36) X dX7_first_29 (by decide) hf (fun hf => ?_) (fun hf => ?_)
      · refine lv_iconst (v := 0) X.1.1 X.1.2.1 dX7_first_36 (by decide) ?_
        exact w_X7_first_b37 X hr hlk _ _ _ _ _ _ _ hf G (lv_sub hl [] rfl)
      · refine lv_iconst (v := 1) X.1.1 X.1.2.1 dX7_first_32 (by decide) ?_
        refine lv_goto (tgt := 37) X.1.1 X.1.2.1 dX7_first_33 (by decide) ?_
        exact w_X7_first_b37 X hr hlk _ _ _ _ _ _ _ hf G (lv_sub hl [] rfl)
  · refine lv_ldc (v := -1000002) X.1.1 X.1.2.1 X.1.2.2.2.1 (X.1.2.2.2.2 _ coX7_first_145) dX7_first_10 ?_
    exact zretI X hr hlk G hf dX7_first_12
/-! X7_trouble -/
abbrev rmX7_trouble : Room := { frames := 4, cells := 0, slots := 0, locals := 108 }
theorem hdV_X7_trouble : yX7_trouble.cls = RX7 ∧ yX7_trouble.cls ≠ "java/lang/invoke/MethodHandle" ∧ yX7_trouble.cls ≠ "java/lang/invoke/VarHandle" ∧ (parseMethodDescriptor yX7_trouble.desc).map (fun d => d.parameters.length) = some 1 := by decide +kernel
theorem inX7_trouble_X7 : ∀ w ∈ wsX70, w ∈ wsX7_trouble := by decide +kernel
theorem flX7_trouble_26 : Cond.fieldLink RX7 26 (TX7 2).1 (TX7 2).2.1 (TX7 2).2.2.1 ∈ wsX7_trouble := by decide +kernel
theorem inX7_trouble_X3 : ∀ w ∈ wsX30, w ∈ wsX7_trouble := by decide +kernel
theorem flX7_trouble_141 : Cond.fieldLink RX7 141 (TX3 0).1 (TX3 0).2.1 (TX3 0).2.2.1 ∈ wsX7_trouble := by decide +kernel
theorem coX7_trouble_76 : Cond.constant RX7 76 (-1000001) ∈ wsX7_trouble := by decide +kernel
theorem flX7_trouble_47 : Cond.fieldLink RX7 47 (TX7 6).1 (TX7 6).2.1 (TX7 6).2.2.1 ∈ wsX7_trouble := by decide +kernel
theorem coX7_trouble_145 : Cond.constant RX7 145 (-1000002) ∈ wsX7_trouble := by decide +kernel
set_option maxHeartbeats 4000000 in
set_option maxRecDepth 100000 in
theorem w_X7_trouble_b37 {p : Program} {l : Launch} {e : Env} {s : State} {m : MethodId} {args : Array Value} {below : List Frame} {meth : Method} {c : Code} {D : va_G} {dA : Nat → ClassId} {b0 : Nat} (X : zX p s m args c cX7_trouble 2 RX7 wsX7_trouble D dA) (hr : meth.sig.returnType = (some .int)) (hlk : meth.locks = false) {z : Int32 × zH} : ∀ (s0 : Nat) (s1 : Nat) (s2 : Int32) (h : zH) (H : Heap) (locs : List Loc) (ls : Array Slot), f_X7_trouble_b37 s0 s1 s2 h = some z → zG D dA b0 s.heap h H locs → lv_has ls 2 [] → W p l e rmX7_trouble s m args below meth c H locs 0 0 (MQ below (zQ D dA b0 (some (.int z.1)) z.2) args s 0 0 (zA b0)) (F0 m 37 ls [.int s2, .ref (b0 + s1), .ref (b0 + s0)]) := by
  intro s0 s1 s2 h H locs ls hf G hl
  unfold f_X7_trouble_b37 at hf
  obtain ⟨hk, hf⟩ := zck hf
  obtain ⟨q1, eq1, hf⟩ := Option.bind_eq_some_iff.mp hf
  refine zcV0 (As := [.ref (b0 + s1), .int s2]) (rest := []) (v := (some (.int q1.1))) (h' := q1.2) X G (rfl : vwCl[5]? = some (RX5, TX5, 2)) hk (m_X5_firstTrouble l D dA b0 s0 s1 s2 h q1 eq1) (cwV 2 X.1.2.2.2.2 gX7_trouble_X5_firstTrouble rfl rfl rfl hdV_X5_firstTrouble ⟨(Nat.le_of_ble_eq_true rfl), (Nat.le_of_ble_eq_true rfl)⟩) rfl hl.1 rfl (Nat.le_of_ble_eq_true rfl) dX7_trouble_37 ⟨Nat.zero_le _, Nat.zero_le _⟩ (fun H locs G => ?_)
  refine lv_goto (tgt := 45) X.1.1 X.1.2.1 dX7_trouble_40 (by decide) ?_
  exact zretI X hr hlk G hf dX7_trouble_45
set_option maxHeartbeats 4000000 in
set_option maxRecDepth 100000 in
theorem m_X7_trouble (l : Launch) (D : va_G) (dA : Nat → ClassId) (b0 : Nat) (r0 : Nat) (a1 : Int32) (h : zH) (z : Int32 × zH) (hf : f_X7_trouble r0 a1 h = some z) : Met l yX7_trouble wsX7_trouble rmX7_trouble (zPc D dA b0 [.ref (b0 + r0), .int a1] h) (zQ D dA b0 (some (.int z.1)) z.2) 0 0 (zA b0) := by
  refine Met.ofW (cc := cX7_trouble) (maxL := 2) (ret := (some .int)) (by decide) rfl ?_
  intro p e s m args below meth c s₁ B hml hv
  obtain ⟨rfl, hP, hz, hK, hN⟩ := hv
  have hr := B.returns
  have hlk := B.notSynchronized
  have X : zX p s m _ c cX7_trouble 2 RX7 wsX7_trouble D dA := ⟨⟨B.exec, B.bytes, hml, findClass_of_methodNamed B.named, atoms_spec (ws := wsX7_trouble) B.pre⟩, hK, hN⟩
  have G : zG D dA b0 s.heap h s.heap [] := ⟨hP, hz, va_S.rf⟩
  have hl := lv_entry ([.ref (b0 + r0), .int a1]) (n := 2) (Nat.le_of_ble_eq_true rfl)
  rw [lg_entry_eq]
  generalize (lg_sl ([.ref (b0 + r0), .int a1]) ++ List.replicate (2 - (lg_sl ([.ref (b0 + r0), .int a1])).length) Slot.unset).toArray = ls at hl ⊢
  have hl : lv_has ls 2 [(0, .ref (b0 + r0)), (1, .int a1)] := hl
  unfold f_X7_trouble at hf
  refine lv_aload_n X.1.1 X.1.2.1 dX7_trouble_0 rfl (lv_at hl 0 rfl) ?_
  refine zgetR (ci := 7) (k := 2) (C := RX7) (T := TX7) (N := 11) X G rfl inX7_trouble_X7 (Nat.le_of_ble_eq_true rfl) flX7_trouble_26 dX7_trouble_1 hf (fun v1 hf => ?_)
  refine zgetI (ci := 3) (k := 0) (C := RX3) (T := TX3) (N := 12) X G rfl inX7_trouble_X3 (Nat.le_of_ble_eq_true rfl) flX7_trouble_141 dX7_trouble_4 hf (fun v2 hf => ?_)
  refine zif_ne (tgt := 13) X dX7_trouble_7 (by decide) hf (fun hf => ?_) (fun hf => ?_)
  · refine lv_iload_n X.1.1 X.1.2.1 dX7_trouble_13 rfl (lv_at hl 1 rfl) ?_
    obtain ⟨q3, eq3, hf⟩ := Option.bind_eq_some_iff.mp hf
    refine zcS0 (As := [.int a1]) (rest := []) (v := (some (.int q3))) (h' := h) X G (m_X7_isOneOfTwo l D dA b0 a1 h q3 eq3) (va_cwS 1 X.1.2.2.2.2 gX7_trouble_X7_isOneOfTwo rfl rfl rfl hdS_X7_isOneOfTwo ⟨(Nat.le_of_ble_eq_true rfl), (Nat.le_of_ble_eq_true rfl)⟩) rfl hl.1 rfl (Nat.le_of_ble_eq_true rfl) dX7_trouble_14 ⟨Nat.zero_le _, Nat.zero_le _⟩ (fun H locs G => ?_)
    refine zif_eq (tgt := 43) X dX7_trouble_17 (by decide) hf (fun hf => ?_) (fun hf => ?_)
    · refine lv_ldc (v := -1000001) X.1.1 X.1.2.1 X.1.2.2.2.1 (X.1.2.2.2.2 _ coX7_trouble_76) dX7_trouble_43 ?_
      exact zretI X hr hlk G hf dX7_trouble_45
    · refine lv_aload_n X.1.1 X.1.2.1 dX7_trouble_20 rfl (lv_at hl 0 rfl) ?_
      refine zgetR (ci := 7) (k := 6) (C := RX7) (T := TX7) (N := 11) X G rfl inX7_trouble_X7 (Nat.le_of_ble_eq_true rfl) flX7_trouble_47 dX7_trouble_21 hf (fun v4 hf => ?_)
      refine lv_aload_n X.1.1 X.1.2.1 dX7_trouble_24 rfl (lv_at hl 0 rfl) ?_
      refine zgetR (ci := 7) (k := 2) (C := RX7) (T := TX7) (N := 11) X G rfl inX7_trouble_X7 (Nat.le_of_ble_eq_true rfl) flX7_trouble_26 dX7_trouble_25 hf (fun v5 hf => ?_)
      refine lv_iload_n X.1.1 X.1.2.1 dX7_trouble_28 rfl (lv_at hl 1 rfl) ?_
      refine zif_ne (tgt := 36) X dX7_trouble_29 (by decide) hf (fun hf => ?_) (fun hf => ?_)
      · refine lv_iconst (v := 0) X.1.1 X.1.2.1 dX7_trouble_36 (by decide) ?_
        exact w_X7_trouble_b37 X hr hlk _ _ _ _ _ _ _ hf G (lv_sub hl [] rfl)
      · refine lv_iconst (v := 1) X.1.1 X.1.2.1 dX7_trouble_32 (by decide) ?_
        refine lv_goto (tgt := 37) X.1.1 X.1.2.1 dX7_trouble_33 (by decide) ?_
        exact w_X7_trouble_b37 X hr hlk _ _ _ _ _ _ _ hf G (lv_sub hl [] rfl)
  · refine lv_ldc (v := -1000002) X.1.1 X.1.2.1 X.1.2.2.2.1 (X.1.2.2.2.2 _ coX7_trouble_145) dX7_trouble_10 ?_
    exact zretI X hr hlk G hf dX7_trouble_12
/-! X7_lay -/
abbrev rmX7_lay : Room := { frames := 6, cells := 0, slots := 0, locals := 154 }
theorem hdV_X7_lay : yX7_lay.cls = RX7 ∧ yX7_lay.cls ≠ "java/lang/invoke/MethodHandle" ∧ yX7_lay.cls ≠ "java/lang/invoke/VarHandle" ∧ (parseMethodDescriptor yX7_lay.desc).map (fun d => d.parameters.length) = some 2 := by decide +kernel
theorem inX7_lay_X7 : ∀ w ∈ wsX70, w ∈ wsX7_lay := by decide +kernel
theorem flX7_lay_26 : Cond.fieldLink RX7 26 (TX7 2).1 (TX7 2).2.1 (TX7 2).2.2.1 ∈ wsX7_lay := by decide +kernel
theorem inX7_lay_X3 : ∀ w ∈ wsX30, w ∈ wsX7_lay := by decide +kernel
theorem flX7_lay_141 : Cond.fieldLink RX7 141 (TX3 0).1 (TX3 0).2.1 (TX3 0).2.2.1 ∈ wsX7_lay := by decide +kernel
theorem coX7_lay_76 : Cond.constant RX7 76 (-1000001) ∈ wsX7_lay := by decide +kernel
theorem flX7_lay_54 : Cond.fieldLink RX7 54 (TX7 7).1 (TX7 7).2.1 (TX7 7).2.2.1 ∈ wsX7_lay := by decide +kernel
theorem inX7_lay_X2 : ∀ w ∈ wsX20, w ∈ wsX7_lay := by decide +kernel
theorem flX7_lay_221 : Cond.fieldLink RX7 221 (TX2 4).1 (TX2 4).2.1 (TX2 4).2.2.1 ∈ wsX7_lay := by decide +kernel
theorem coX7_lay_224 : Cond.constant RX7 224 (-1000000) ∈ wsX7_lay := by decide +kernel
theorem flX7_lay_138 : Cond.fieldLink RX7 138 (TX3 1).1 (TX3 1).2.1 (TX3 1).2.2.1 ∈ wsX7_lay := by decide +kernel
theorem flX7_lay_225 : Cond.fieldLink RX7 225 (TX2 3).1 (TX2 3).2.1 (TX2 3).2.2.1 ∈ wsX7_lay := by decide +kernel
theorem coX7_lay_145 : Cond.constant RX7 145 (-1000002) ∈ wsX7_lay := by decide +kernel
set_option maxHeartbeats 4000000 in
set_option maxRecDepth 100000 in
theorem m_X7_lay (l : Launch) (D : va_G) (dA : Nat → ClassId) (b0 : Nat) (r0 : Nat) (a1 : Int32) (a2 : Int32) (h : zH) (z : Int32 × zH) (hf : f_X7_lay r0 a1 a2 h = some z) : Met l yX7_lay wsX7_lay rmX7_lay (zPc D dA b0 [.ref (b0 + r0), .int a1, .int a2] h) (zQ D dA b0 (some (.int z.1)) z.2) 0 0 (zA b0) := by
  refine Met.ofW (cc := cX7_lay) (maxL := 3) (ret := (some .int)) (by decide) rfl ?_
  intro p e s m args below meth c s₁ B hml hv
  obtain ⟨rfl, hP, hz, hK, hN⟩ := hv
  have hr := B.returns
  have hlk := B.notSynchronized
  have X : zX p s m _ c cX7_lay 3 RX7 wsX7_lay D dA := ⟨⟨B.exec, B.bytes, hml, findClass_of_methodNamed B.named, atoms_spec (ws := wsX7_lay) B.pre⟩, hK, hN⟩
  have G : zG D dA b0 s.heap h s.heap [] := ⟨hP, hz, va_S.rf⟩
  have hl := lv_entry ([.ref (b0 + r0), .int a1, .int a2]) (n := 3) (Nat.le_of_ble_eq_true rfl)
  rw [lg_entry_eq]
  generalize (lg_sl ([.ref (b0 + r0), .int a1, .int a2]) ++ List.replicate (3 - (lg_sl ([.ref (b0 + r0), .int a1, .int a2])).length) Slot.unset).toArray = ls at hl ⊢
  have hl : lv_has ls 3 [(0, .ref (b0 + r0)), (1, .int a1), (2, .int a2)] := hl
  unfold f_X7_lay at hf
  refine lv_aload_n X.1.1 X.1.2.1 dX7_lay_0 rfl (lv_at hl 0 rfl) ?_
  refine zgetR (ci := 7) (k := 2) (C := RX7) (T := TX7) (N := 11) X G rfl inX7_lay_X7 (Nat.le_of_ble_eq_true rfl) flX7_lay_26 dX7_lay_1 hf (fun v1 hf => ?_)
  refine zgetI (ci := 3) (k := 0) (C := RX3) (T := TX3) (N := 12) X G rfl inX7_lay_X3 (Nat.le_of_ble_eq_true rfl) flX7_lay_141 dX7_lay_4 hf (fun v2 hf => ?_)
  refine zif_ne (tgt := 13) X dX7_lay_7 (by decide) hf (fun hf => ?_) (fun hf => ?_)
  · refine lv_iload_n X.1.1 X.1.2.1 dX7_lay_13 rfl (lv_at hl 1 rfl) ?_
    obtain ⟨q3, eq3, hf⟩ := Option.bind_eq_some_iff.mp hf
    refine zcS0 (As := [.int a1]) (rest := []) (v := (some (.int q3))) (h' := h) X G (m_X7_isForetold l D dA b0 a1 h q3 eq3) (va_cwS 1 X.1.2.2.2.2 gX7_lay_X7_isForetold rfl rfl rfl hdS_X7_isForetold ⟨(Nat.le_of_ble_eq_true rfl), (Nat.le_of_ble_eq_true rfl)⟩) rfl hl.1 rfl (Nat.le_of_ble_eq_true rfl) dX7_lay_14 ⟨Nat.zero_le _, Nat.zero_le _⟩ (fun H locs G => ?_)
    refine zif_eq (tgt := 30) X dX7_lay_17 (by decide) hf (fun hf => ?_) (fun hf => ?_)
    · refine lv_ldc (v := -1000001) X.1.1 X.1.2.1 X.1.2.2.2.1 (X.1.2.2.2.2 _ coX7_lay_76) dX7_lay_30 ?_
      exact zretI X hr hlk G hf dX7_lay_32
    · refine lv_iload_n X.1.1 X.1.2.1 dX7_lay_20 rfl (lv_at hl 2 rfl) ?_
      refine lv_iconst (v := -1) X.1.1 X.1.2.1 dX7_lay_21 (by decide) ?_
      refine zic_lt (tgt := 30) X dX7_lay_22 (by decide) hf (fun hf => ?_) (fun hf => ?_)
      · refine lv_ldc (v := -1000001) X.1.1 X.1.2.1 X.1.2.2.2.1 (X.1.2.2.2.2 _ coX7_lay_76) dX7_lay_30 ?_
        exact zretI X hr hlk G hf dX7_lay_32
      · refine lv_iload_n X.1.1 X.1.2.1 dX7_lay_25 rfl (lv_at hl 2 rfl) ?_
        refine lv_iconst (v := 5) X.1.1 X.1.2.1 dX7_lay_26 (by decide) ?_
        refine zic_lt (tgt := 33) X dX7_lay_27 (by decide) hf (fun hf => ?_) (fun hf => ?_)
        · refine lv_aload_n X.1.1 X.1.2.1 dX7_lay_33 rfl (lv_at hl 0 rfl) ?_
          refine zgetR (ci := 7) (k := 7) (C := RX7) (T := TX7) (N := 11) X G rfl inX7_lay_X7 (Nat.le_of_ble_eq_true rfl) flX7_lay_54 dX7_lay_34 hf (fun v4 hf => ?_)
          refine lv_aload_n X.1.1 X.1.2.1 dX7_lay_37 rfl (lv_at hl 0 rfl) ?_
          refine zgetR (ci := 7) (k := 2) (C := RX7) (T := TX7) (N := 11) X G rfl inX7_lay_X7 (Nat.le_of_ble_eq_true rfl) flX7_lay_26 dX7_lay_38 hf (fun v5 hf => ?_)
          refine lv_iload_n X.1.1 X.1.2.1 dX7_lay_41 rfl (lv_at hl 1 rfl) ?_
          obtain ⟨hk, hf⟩ := zck hf
          obtain ⟨q6, eq6, hf⟩ := Option.bind_eq_some_iff.mp hf
          refine zcV0 (As := [.ref (b0 + v5), .int a1]) (rest := []) (v := none) (h' := q6) X G (rfl : vwCl[2]? = some (RX2, TX2, 5)) hk (m_X2_find l D dA b0 v4 v5 a1 h q6 eq6) (cwV 2 X.1.2.2.2.2 gX7_lay_X2_find rfl rfl rfl hdV_X2_find ⟨(Nat.le_of_ble_eq_true rfl), (Nat.le_of_ble_eq_true rfl)⟩) rfl hl.1 rfl (Nat.le_of_ble_eq_true rfl) dX7_lay_42 ⟨Nat.zero_le _, Nat.zero_le _⟩ (fun H locs G => ?_)
          refine lv_aload_n X.1.1 X.1.2.1 dX7_lay_45 rfl (lv_at hl 0 rfl) ?_
          refine zgetR (ci := 7) (k := 7) (C := RX7) (T := TX7) (N := 11) X G rfl inX7_lay_X7 (Nat.le_of_ble_eq_true rfl) flX7_lay_54 dX7_lay_46 hf (fun v7 hf => ?_)
          refine zgetI (ci := 2) (k := 4) (C := RX2) (T := TX2) (N := 5) X G rfl inX7_lay_X2 (Nat.le_of_ble_eq_true rfl) flX7_lay_221 dX7_lay_49 hf (fun v8 hf => ?_)
          refine lv_ldc (v := -1000000) X.1.1 X.1.2.1 X.1.2.2.2.1 (X.1.2.2.2.2 _ coX7_lay_224) dX7_lay_52 ?_
          refine zic_eq (tgt := 68) X dX7_lay_54 (by decide) hf (fun hf => ?_) (fun hf => ?_)
          · refine lv_ldc (v := -1000000) X.1.1 X.1.2.1 X.1.2.2.2.1 (X.1.2.2.2.2 _ coX7_lay_224) dX7_lay_68 ?_
            exact zretI X hr hlk G hf dX7_lay_70
          · refine lv_iload_n X.1.1 X.1.2.1 dX7_lay_57 rfl (lv_at hl 2 rfl) ?_
            refine lv_aload_n X.1.1 X.1.2.1 dX7_lay_58 rfl (lv_at hl 0 rfl) ?_
            refine zgetR (ci := 7) (k := 2) (C := RX7) (T := TX7) (N := 11) X G rfl inX7_lay_X7 (Nat.le_of_ble_eq_true rfl) flX7_lay_26 dX7_lay_59 hf (fun v9 hf => ?_)
            refine zgetI (ci := 3) (k := 1) (C := RX3) (T := TX3) (N := 12) X G rfl inX7_lay_X3 (Nat.le_of_ble_eq_true rfl) flX7_lay_138 dX7_lay_62 hf (fun v10 hf => ?_)
            refine zic_lt (tgt := 71) X dX7_lay_65 (by decide) hf (fun hf => ?_) (fun hf => ?_)
            · refine lv_iload_n X.1.1 X.1.2.1 dX7_lay_71 rfl (lv_at hl 2 rfl) ?_
              refine lv_iconst (v := -1) X.1.1 X.1.2.1 dX7_lay_72 (by decide) ?_
              refine zic_ne (tgt := 86) X dX7_lay_73 (by decide) hf (fun hf => ?_) (fun hf => ?_)
              · refine lv_aload_n X.1.1 X.1.2.1 dX7_lay_86 rfl (lv_at hl 0 rfl) ?_
                refine zgetR (ci := 7) (k := 7) (C := RX7) (T := TX7) (N := 11) X G rfl inX7_lay_X7 (Nat.le_of_ble_eq_true rfl) flX7_lay_54 dX7_lay_87 hf (fun v11 hf => ?_)
                refine zgetR (ci := 2) (k := 3) (C := RX2) (T := TX2) (N := 5) X G rfl inX7_lay_X2 (Nat.le_of_ble_eq_true rfl) flX7_lay_225 dX7_lay_90 hf (fun v12 hf => ?_)
                refine lv_iload_n X.1.1 X.1.2.1 dX7_lay_93 rfl (lv_at hl 2 rfl) ?_
                refine ziald X G dX7_lay_94 hf (fun v13 hf => ?_)
                exact zretI X hr hlk G hf dX7_lay_95
              · refine lv_aload_n X.1.1 X.1.2.1 dX7_lay_76 rfl (lv_at hl 0 rfl) ?_
                refine zgetR (ci := 7) (k := 7) (C := RX7) (T := TX7) (N := 11) X G rfl inX7_lay_X7 (Nat.le_of_ble_eq_true rfl) flX7_lay_54 dX7_lay_77 hf (fun v14 hf => ?_)
                refine zgetI (ci := 2) (k := 4) (C := RX2) (T := TX2) (N := 5) X G rfl inX7_lay_X2 (Nat.le_of_ble_eq_true rfl) flX7_lay_221 dX7_lay_80 hf (fun v15 hf => ?_)
                refine lv_goto (tgt := 95) X.1.1 X.1.2.1 dX7_lay_83 (by decide) ?_
                exact zretI X hr hlk G hf dX7_lay_95
            · refine lv_ldc (v := -1000000) X.1.1 X.1.2.1 X.1.2.2.2.1 (X.1.2.2.2.2 _ coX7_lay_224) dX7_lay_68 ?_
              exact zretI X hr hlk G hf dX7_lay_70
        · refine lv_ldc (v := -1000001) X.1.1 X.1.2.1 X.1.2.2.2.1 (X.1.2.2.2.2 _ coX7_lay_76) dX7_lay_30 ?_
          exact zretI X hr hlk G hf dX7_lay_32
  · refine lv_ldc (v := -1000002) X.1.1 X.1.2.1 X.1.2.2.2.1 (X.1.2.2.2.2 _ coX7_lay_145) dX7_lay_10 ?_
    exact zretI X hr hlk G hf dX7_lay_12
/-! X7_dig -/
abbrev rmX7_dig : Room := { frames := 5, cells := 0, slots := 0, locals := 129 }
theorem hdV_X7_dig : yX7_dig.cls = RX7 ∧ yX7_dig.cls ≠ "java/lang/invoke/MethodHandle" ∧ yX7_dig.cls ≠ "java/lang/invoke/VarHandle" ∧ (parseMethodDescriptor yX7_dig.desc).map (fun d => d.parameters.length) = some 2 := by decide +kernel
theorem coX7_dig_76 : Cond.constant RX7 76 (-1000001) ∈ wsX7_dig := by decide +kernel
theorem inX7_dig_X7 : ∀ w ∈ wsX70, w ∈ wsX7_dig := by decide +kernel
theorem flX7_dig_47 : Cond.fieldLink RX7 47 (TX7 6).1 (TX7 6).2.1 (TX7 6).2.2.1 ∈ wsX7_dig := by decide +kernel
theorem flX7_dig_26 : Cond.fieldLink RX7 26 (TX7 2).1 (TX7 2).2.1 (TX7 2).2.2.1 ∈ wsX7_dig := by decide +kernel
set_option maxHeartbeats 4000000 in
set_option maxRecDepth 100000 in
theorem m_X7_dig (l : Launch) (D : va_G) (dA : Nat → ClassId) (b0 : Nat) (r0 : Nat) (a1 : Int32) (a2 : Int32) (h : zH) (z : Int32 × zH) (hf : f_X7_dig r0 a1 a2 h = some z) : Met l yX7_dig wsX7_dig rmX7_dig (zPc D dA b0 [.ref (b0 + r0), .int a1, .int a2] h) (zQ D dA b0 (some (.int z.1)) z.2) 0 0 (zA b0) := by
  refine Met.ofW (cc := cX7_dig) (maxL := 3) (ret := (some .int)) (by decide) rfl ?_
  intro p e s m args below meth c s₁ B hml hv
  obtain ⟨rfl, hP, hz, hK, hN⟩ := hv
  have hr := B.returns
  have hlk := B.notSynchronized
  have X : zX p s m _ c cX7_dig 3 RX7 wsX7_dig D dA := ⟨⟨B.exec, B.bytes, hml, findClass_of_methodNamed B.named, atoms_spec (ws := wsX7_dig) B.pre⟩, hK, hN⟩
  have G : zG D dA b0 s.heap h s.heap [] := ⟨hP, hz, va_S.rf⟩
  have hl := lv_entry ([.ref (b0 + r0), .int a1, .int a2]) (n := 3) (Nat.le_of_ble_eq_true rfl)
  rw [lg_entry_eq]
  generalize (lg_sl ([.ref (b0 + r0), .int a1, .int a2]) ++ List.replicate (3 - (lg_sl ([.ref (b0 + r0), .int a1, .int a2])).length) Slot.unset).toArray = ls at hl ⊢
  have hl : lv_has ls 3 [(0, .ref (b0 + r0)), (1, .int a1), (2, .int a2)] := hl
  unfold f_X7_dig at hf
  refine lv_aload_n X.1.1 X.1.2.1 dX7_dig_0 rfl (lv_at hl 0 rfl) ?_
  refine lv_iload_n X.1.1 X.1.2.1 dX7_dig_1 rfl (lv_at hl 1 rfl) ?_
  obtain ⟨hk, hf⟩ := zck hf
  obtain ⟨q1, eq1, hf⟩ := Option.bind_eq_some_iff.mp hf
  refine zcV0 (As := [.int a1]) (rest := []) (v := (some (.int q1))) (h' := h) X G (rfl : vwCl[7]? = some (RX7, TX7, 11)) hk (m_X7_isThing l D dA b0 r0 a1 h q1 eq1) (cwV 1 X.1.2.2.2.2 gX7_dig_X7_isThing rfl rfl rfl hdV_X7_isThing ⟨(Nat.le_of_ble_eq_true rfl), (Nat.le_of_ble_eq_true rfl)⟩) rfl hl.1 rfl (Nat.le_of_ble_eq_true rfl) dX7_dig_2 ⟨Nat.zero_le _, Nat.zero_le _⟩ (fun H locs G => ?_)
  refine zif_eq (tgt := 15) X dX7_dig_5 (by decide) hf (fun hf => ?_) (fun hf => ?_)
  · refine lv_ldc (v := -1000001) X.1.1 X.1.2.1 X.1.2.2.2.1 (X.1.2.2.2.2 _ coX7_dig_76) dX7_dig_15 ?_
    exact zretI X hr hlk G hf dX7_dig_17
  · refine lv_iload_n X.1.1 X.1.2.1 dX7_dig_8 rfl (lv_at hl 2 rfl) ?_
    obtain ⟨q2, eq2, hf⟩ := Option.bind_eq_some_iff.mp hf
    refine zcS0 (As := [.int a2]) (rest := []) (v := (some (.int q2))) (h' := h) X G (m_X7_isForetold l D dA b0 a2 h q2 eq2) (va_cwS 1 X.1.2.2.2.2 gX7_dig_X7_isForetold rfl rfl rfl hdS_X7_isForetold ⟨(Nat.le_of_ble_eq_true rfl), (Nat.le_of_ble_eq_true rfl)⟩) rfl hl.1 rfl (Nat.le_of_ble_eq_true rfl) dX7_dig_9 ⟨Nat.zero_le _, Nat.zero_le _⟩ (fun H locs G => ?_)
    refine zif_ne (tgt := 18) X dX7_dig_12 (by decide) hf (fun hf => ?_) (fun hf => ?_)
    · refine lv_aload_n X.1.1 X.1.2.1 dX7_dig_18 rfl (lv_at hl 0 rfl) ?_
      refine zgetR (ci := 7) (k := 6) (C := RX7) (T := TX7) (N := 11) X G rfl inX7_dig_X7 (Nat.le_of_ble_eq_true rfl) flX7_dig_47 dX7_dig_19 hf (fun v3 hf => ?_)
      refine lv_aload_n X.1.1 X.1.2.1 dX7_dig_22 rfl (lv_at hl 0 rfl) ?_
      refine zgetR (ci := 7) (k := 2) (C := RX7) (T := TX7) (N := 11) X G rfl inX7_dig_X7 (Nat.le_of_ble_eq_true rfl) flX7_dig_26 dX7_dig_23 hf (fun v4 hf => ?_)
      refine lv_iload_n X.1.1 X.1.2.1 dX7_dig_26 rfl (lv_at hl 1 rfl) ?_
      refine lv_iload_n X.1.1 X.1.2.1 dX7_dig_27 rfl (lv_at hl 2 rfl) ?_
      obtain ⟨hk, hf⟩ := zck hf
      obtain ⟨q5, eq5, hf⟩ := Option.bind_eq_some_iff.mp hf
      refine zcV0 (As := [.ref (b0 + v4), .int a1, .int a2]) (rest := []) (v := (some (.int q5.1))) (h' := q5.2) X G (rfl : vwCl[5]? = some (RX5, TX5, 2)) hk (m_X5_leastDepth l D dA b0 v3 v4 a1 a2 h q5 eq5) (cwV 3 X.1.2.2.2.2 gX7_dig_X5_leastDepth rfl rfl rfl hdV_X5_leastDepth ⟨(Nat.le_of_ble_eq_true rfl), (Nat.le_of_ble_eq_true rfl)⟩) rfl hl.1 rfl (Nat.le_of_ble_eq_true rfl) dX7_dig_28 ⟨Nat.zero_le _, Nat.zero_le _⟩ (fun H locs G => ?_)
      exact zretI X hr hlk G hf dX7_dig_31
    · refine lv_ldc (v := -1000001) X.1.1 X.1.2.1 X.1.2.2.2.1 (X.1.2.2.2.2 _ coX7_dig_76) dX7_dig_15 ?_
      exact zretI X hr hlk G hf dX7_dig_17
/-! X7_whom -/
abbrev rmX7_whom : Room := { frames := 2, cells := 0, slots := 0, locals := 44 }
theorem hdV_X7_whom : yX7_whom.cls = RX7 ∧ yX7_whom.cls ≠ "java/lang/invoke/MethodHandle" ∧ yX7_whom.cls ≠ "java/lang/invoke/VarHandle" ∧ (parseMethodDescriptor yX7_whom.desc).map (fun d => d.parameters.length) = some 1 := by decide +kernel
theorem inX7_whom_X7 : ∀ w ∈ wsX70, w ∈ wsX7_whom := by decide +kernel
theorem flX7_whom_26 : Cond.fieldLink RX7 26 (TX7 2).1 (TX7 2).2.1 (TX7 2).2.2.1 ∈ wsX7_whom := by decide +kernel
theorem inX7_whom_X3 : ∀ w ∈ wsX30, w ∈ wsX7_whom := by decide +kernel
theorem flX7_whom_141 : Cond.fieldLink RX7 141 (TX3 0).1 (TX3 0).2.1 (TX3 0).2.2.1 ∈ wsX7_whom := by decide +kernel
theorem coX7_whom_224 : Cond.constant RX7 224 (-1000000) ∈ wsX7_whom := by decide +kernel
theorem coX7_whom_76 : Cond.constant RX7 76 (-1000001) ∈ wsX7_whom := by decide +kernel
theorem coX7_whom_145 : Cond.constant RX7 145 (-1000002) ∈ wsX7_whom := by decide +kernel
set_option maxHeartbeats 4000000 in
set_option maxRecDepth 100000 in
theorem m_X7_whom (l : Launch) (D : va_G) (dA : Nat → ClassId) (b0 : Nat) (r0 : Nat) (a1 : Int32) (h : zH) (z : Int32) (hf : f_X7_whom r0 a1 h = some z) : Met l yX7_whom wsX7_whom rmX7_whom (zPc D dA b0 [.ref (b0 + r0), .int a1] h) (zQ D dA b0 (some (.int z)) h) 0 0 (zA b0) := by
  refine Met.ofW (cc := cX7_whom) (maxL := 3) (ret := (some .int)) (by decide) rfl ?_
  intro p e s m args below meth c s₁ B hml hv
  obtain ⟨rfl, hP, hz, hK, hN⟩ := hv
  have hr := B.returns
  have hlk := B.notSynchronized
  have X : zX p s m _ c cX7_whom 3 RX7 wsX7_whom D dA := ⟨⟨B.exec, B.bytes, hml, findClass_of_methodNamed B.named, atoms_spec (ws := wsX7_whom) B.pre⟩, hK, hN⟩
  have G : zG D dA b0 s.heap h s.heap [] := ⟨hP, hz, va_S.rf⟩
  have hl := lv_entry ([.ref (b0 + r0), .int a1]) (n := 3) (Nat.le_of_ble_eq_true rfl)
  rw [lg_entry_eq]
  generalize (lg_sl ([.ref (b0 + r0), .int a1]) ++ List.replicate (3 - (lg_sl ([.ref (b0 + r0), .int a1])).length) Slot.unset).toArray = ls at hl ⊢
  have hl : lv_has ls 3 [(0, .ref (b0 + r0)), (1, .int a1)] := hl
  unfold f_X7_whom at hf
  refine lv_aload_n X.1.1 X.1.2.1 dX7_whom_0 rfl (lv_at hl 0 rfl) ?_
  refine zgetR (ci := 7) (k := 2) (C := RX7) (T := TX7) (N := 11) X G rfl inX7_whom_X7 (Nat.le_of_ble_eq_true rfl) flX7_whom_26 dX7_whom_1 hf (fun v1 hf => ?_)
  refine zgetI (ci := 3) (k := 0) (C := RX3) (T := TX3) (N := 12) X G rfl inX7_whom_X3 (Nat.le_of_ble_eq_true rfl) flX7_whom_141 dX7_whom_4 hf (fun v2 hf => ?_)
  refine zif_ne (tgt := 13) X dX7_whom_7 (by decide) hf (fun hf => ?_) (fun hf => ?_)
  · refine lv_iload_n X.1.1 X.1.2.1 dX7_whom_13 rfl (lv_at hl 1 rfl) ?_
    obtain ⟨q3, eq3, hf⟩ := Option.bind_eq_some_iff.mp hf
    refine zcS0 (As := [.int a1]) (rest := []) (v := (some (.int q3))) (h' := h) X G (m_X7_isOneOfTwo l D dA b0 a1 h q3 eq3) (va_cwS 1 X.1.2.2.2.2 gX7_whom_X7_isOneOfTwo rfl rfl rfl hdS_X7_isOneOfTwo ⟨(Nat.le_of_ble_eq_true rfl), (Nat.le_of_ble_eq_true rfl)⟩) rfl hl.1 rfl (Nat.le_of_ble_eq_true rfl) dX7_whom_14 ⟨Nat.zero_le _, Nat.zero_le _⟩ (fun H locs G => ?_)
    refine zif_ne (tgt := 23) X dX7_whom_17 (by decide) hf (fun hf => ?_) (fun hf => ?_)
    · refine lv_aload_n X.1.1 X.1.2.1 dX7_whom_23 rfl (lv_at hl 0 rfl) ?_
      refine zgetR (ci := 7) (k := 2) (C := RX7) (T := TX7) (N := 11) X G rfl inX7_whom_X7 (Nat.le_of_ble_eq_true rfl) flX7_whom_26 dX7_whom_24 hf (fun v4 hf => ?_)
      obtain ⟨hk, hf⟩ := zck hf
      obtain ⟨q5, eq5, hf⟩ := Option.bind_eq_some_iff.mp hf
      refine zcV0 (As := []) (rest := []) (v := (some (.int q5))) (h' := h) X G (rfl : vwCl[3]? = some (RX3, TX3, 12)) hk (m_X3_fewestWhoKnowAll l D dA b0 v4 h q5 eq5) (cwV 0 X.1.2.2.2.2 gX7_whom_X3_fewestWhoKnowAll rfl rfl rfl hdV_X3_fewestWhoKnowAll ⟨(Nat.le_of_ble_eq_true rfl), (Nat.le_of_ble_eq_true rfl)⟩) rfl hl.1 rfl (Nat.le_of_ble_eq_true rfl) dX7_whom_27 ⟨Nat.zero_le _, Nat.zero_le _⟩ (fun H locs G => ?_)
      refine lv_istore_n (lv' := [(2, .int q5), (0, .ref (b0 + r0)), (1, .int a1)]) X.1.1 X.1.2.1 dX7_whom_30 rfl hl (by decide) rfl (fun ls hl => ?_)
      refine lv_iload_n X.1.1 X.1.2.1 dX7_whom_31 rfl (lv_at hl 0 rfl) ?_
      refine lv_ldc (v := -1000000) X.1.1 X.1.2.1 X.1.2.2.2.1 (X.1.2.2.2.2 _ coX7_whom_224) dX7_whom_32 ?_
      refine zic_ne (tgt := 40) X dX7_whom_34 (by decide) hf (fun hf => ?_) (fun hf => ?_)
      · refine lv_iload_n X.1.1 X.1.2.1 dX7_whom_40 rfl (lv_at hl 2 rfl) ?_
        refine zif_ne (tgt := 51) X dX7_whom_41 (by decide) hf (fun hf => ?_) (fun hf => ?_)
        · refine lv_iload_n X.1.1 X.1.2.1 dX7_whom_51 rfl (lv_at hl 0 rfl) ?_
          exact zretIr X hr hlk G hf dX7_whom_52
        · refine lv_iload_n X.1.1 X.1.2.1 dX7_whom_44 rfl (lv_at hl 0 rfl) ?_
          obtain ⟨q6, eq6, hf⟩ := Option.bind_eq_some_iff.mp hf
          refine zcS0 (As := [.int q5]) (rest := []) (v := (some (.int q6))) (h' := h) X G (m_J6_bitCount_0f7a4 l D dA b0 q5 h q6 eq6) (va_cwS 1 X.1.2.2.2.2 gX7_whom_J6_bitCount_0f7a4 rfl rfl rfl hdS_J6_bitCount_0f7a4 ⟨(Nat.le_of_ble_eq_true rfl), (Nat.le_of_ble_eq_true rfl)⟩) rfl hl.1 rfl (Nat.le_of_ble_eq_true rfl) dX7_whom_45 ⟨Nat.zero_le _, Nat.zero_le _⟩ (fun H locs G => ?_)
          refine lv_goto (tgt := 52) X.1.1 X.1.2.1 dX7_whom_48 (by decide) ?_
          exact zretIr X hr hlk G hf dX7_whom_52
      · refine lv_ldc (v := -1000000) X.1.1 X.1.2.1 X.1.2.2.2.1 (X.1.2.2.2.2 _ coX7_whom_224) dX7_whom_37 ?_
        exact zretIr X hr hlk G hf dX7_whom_39
    · refine lv_ldc (v := -1000001) X.1.1 X.1.2.1 X.1.2.2.2.1 (X.1.2.2.2.2 _ coX7_whom_76) dX7_whom_20 ?_
      exact zretIr X hr hlk G hf dX7_whom_22
  · refine lv_ldc (v := -1000002) X.1.1 X.1.2.1 X.1.2.2.2.1 (X.1.2.2.2.2 _ coX7_whom_145) dX7_whom_10 ?_
    exact zretIr X hr hlk G hf dX7_whom_12
/-! X7_halves -/
abbrev rmX7_halves : Room := { frames := 1, cells := 0, slots := 0, locals := 23 }
theorem hdV_X7_halves : yX7_halves.cls = RX7 ∧ yX7_halves.cls ≠ "java/lang/invoke/MethodHandle" ∧ yX7_halves.cls ≠ "java/lang/invoke/VarHandle" ∧ (parseMethodDescriptor yX7_halves.desc).map (fun d => d.parameters.length) = some 1 := by decide +kernel
theorem inX7_halves_X7 : ∀ w ∈ wsX70, w ∈ wsX7_halves := by decide +kernel
theorem flX7_halves_26 : Cond.fieldLink RX7 26 (TX7 2).1 (TX7 2).2.1 (TX7 2).2.2.1 ∈ wsX7_halves := by decide +kernel
theorem inX7_halves_X3 : ∀ w ∈ wsX30, w ∈ wsX7_halves := by decide +kernel
theorem flX7_halves_141 : Cond.fieldLink RX7 141 (TX3 0).1 (TX3 0).2.1 (TX3 0).2.2.1 ∈ wsX7_halves := by decide +kernel
theorem coX7_halves_76 : Cond.constant RX7 76 (-1000001) ∈ wsX7_halves := by decide +kernel
theorem coX7_halves_145 : Cond.constant RX7 145 (-1000002) ∈ wsX7_halves := by decide +kernel
set_option maxHeartbeats 4000000 in
set_option maxRecDepth 100000 in
theorem m_X7_halves (l : Launch) (D : va_G) (dA : Nat → ClassId) (b0 : Nat) (r0 : Nat) (a1 : Int32) (h : zH) (z : Int32) (hf : f_X7_halves r0 a1 h = some z) : Met l yX7_halves wsX7_halves rmX7_halves (zPc D dA b0 [.ref (b0 + r0), .int a1] h) (zQ D dA b0 (some (.int z)) h) 0 0 (zA b0) := by
  refine Met.ofW (cc := cX7_halves) (maxL := 2) (ret := (some .int)) (by decide) rfl ?_
  intro p e s m args below meth c s₁ B hml hv
  obtain ⟨rfl, hP, hz, hK, hN⟩ := hv
  have hr := B.returns
  have hlk := B.notSynchronized
  have X : zX p s m _ c cX7_halves 2 RX7 wsX7_halves D dA := ⟨⟨B.exec, B.bytes, hml, findClass_of_methodNamed B.named, atoms_spec (ws := wsX7_halves) B.pre⟩, hK, hN⟩
  have G : zG D dA b0 s.heap h s.heap [] := ⟨hP, hz, va_S.rf⟩
  have hl := lv_entry ([.ref (b0 + r0), .int a1]) (n := 2) (Nat.le_of_ble_eq_true rfl)
  rw [lg_entry_eq]
  generalize (lg_sl ([.ref (b0 + r0), .int a1]) ++ List.replicate (2 - (lg_sl ([.ref (b0 + r0), .int a1])).length) Slot.unset).toArray = ls at hl ⊢
  have hl : lv_has ls 2 [(0, .ref (b0 + r0)), (1, .int a1)] := hl
  unfold f_X7_halves at hf
  refine lv_aload_n X.1.1 X.1.2.1 dX7_halves_0 rfl (lv_at hl 0 rfl) ?_
  refine zgetR (ci := 7) (k := 2) (C := RX7) (T := TX7) (N := 11) X G rfl inX7_halves_X7 (Nat.le_of_ble_eq_true rfl) flX7_halves_26 dX7_halves_1 hf (fun v1 hf => ?_)
  refine zgetI (ci := 3) (k := 0) (C := RX3) (T := TX3) (N := 12) X G rfl inX7_halves_X3 (Nat.le_of_ble_eq_true rfl) flX7_halves_141 dX7_halves_4 hf (fun v2 hf => ?_)
  refine zif_ne (tgt := 13) X dX7_halves_7 (by decide) hf (fun hf => ?_) (fun hf => ?_)
  · refine lv_iload_n X.1.1 X.1.2.1 dX7_halves_13 rfl (lv_at hl 1 rfl) ?_
    obtain ⟨q3, eq3, hf⟩ := Option.bind_eq_some_iff.mp hf
    refine zcS0 (As := [.int a1]) (rest := []) (v := (some (.int q3))) (h' := h) X G (m_X7_isOneOfTwo l D dA b0 a1 h q3 eq3) (va_cwS 1 X.1.2.2.2.2 gX7_halves_X7_isOneOfTwo rfl rfl rfl hdS_X7_isOneOfTwo ⟨(Nat.le_of_ble_eq_true rfl), (Nat.le_of_ble_eq_true rfl)⟩) rfl hl.1 rfl (Nat.le_of_ble_eq_true rfl) dX7_halves_14 ⟨Nat.zero_le _, Nat.zero_le _⟩ (fun H locs G => ?_)
    refine zif_ne (tgt := 23) X dX7_halves_17 (by decide) hf (fun hf => ?_) (fun hf => ?_)
    · refine lv_iload_n X.1.1 X.1.2.1 dX7_halves_23 rfl (lv_at hl 1 rfl) ?_
      refine zif_ne (tgt := 37) X dX7_halves_24 (by decide) hf (fun hf => ?_) (fun hf => ?_)
      · refine lv_aload_n X.1.1 X.1.2.1 dX7_halves_37 rfl (lv_at hl 0 rfl) ?_
        refine zgetR (ci := 7) (k := 2) (C := RX7) (T := TX7) (N := 11) X G rfl inX7_halves_X7 (Nat.le_of_ble_eq_true rfl) flX7_halves_26 dX7_halves_38 hf (fun v4 hf => ?_)
        obtain ⟨hk, hf⟩ := zck hf
        obtain ⟨q5, eq5, hf⟩ := Option.bind_eq_some_iff.mp hf
        refine zcV0 (As := []) (rest := []) (v := (some (.int q5))) (h' := h) X G (rfl : vwCl[3]? = some (RX3, TX3, 12)) hk (m_X3_firstHalves l D dA b0 v4 h q5 eq5) (cwV 0 X.1.2.2.2.2 gX7_halves_X3_firstHalves rfl rfl rfl hdV_X3_firstHalves ⟨(Nat.le_of_ble_eq_true rfl), (Nat.le_of_ble_eq_true rfl)⟩) rfl hl.1 rfl (Nat.le_of_ble_eq_true rfl) dX7_halves_41 ⟨Nat.zero_le _, Nat.zero_le _⟩ (fun H locs G => ?_)
        exact zretIr X hr hlk G hf dX7_halves_44
      · refine lv_aload_n X.1.1 X.1.2.1 dX7_halves_27 rfl (lv_at hl 0 rfl) ?_
        refine zgetR (ci := 7) (k := 2) (C := RX7) (T := TX7) (N := 11) X G rfl inX7_halves_X7 (Nat.le_of_ble_eq_true rfl) flX7_halves_26 dX7_halves_28 hf (fun v6 hf => ?_)
        obtain ⟨hk, hf⟩ := zck hf
        obtain ⟨q7, eq7, hf⟩ := Option.bind_eq_some_iff.mp hf
        refine zcV0 (As := []) (rest := []) (v := (some (.int q7))) (h' := h) X G (rfl : vwCl[3]? = some (RX3, TX3, 12)) hk (m_X3_countHalves l D dA b0 v6 h q7 eq7) (cwV 0 X.1.2.2.2.2 gX7_halves_X3_countHalves rfl rfl rfl hdV_X3_countHalves ⟨(Nat.le_of_ble_eq_true rfl), (Nat.le_of_ble_eq_true rfl)⟩) rfl hl.1 rfl (Nat.le_of_ble_eq_true rfl) dX7_halves_31 ⟨Nat.zero_le _, Nat.zero_le _⟩ (fun H locs G => ?_)
        refine lv_goto (tgt := 44) X.1.1 X.1.2.1 dX7_halves_34 (by decide) ?_
        exact zretIr X hr hlk G hf dX7_halves_44
    · refine lv_ldc (v := -1000001) X.1.1 X.1.2.1 X.1.2.2.2.1 (X.1.2.2.2.2 _ coX7_halves_76) dX7_halves_20 ?_
      exact zretIr X hr hlk G hf dX7_halves_22
  · refine lv_ldc (v := -1000002) X.1.1 X.1.2.1 X.1.2.2.2.1 (X.1.2.2.2.2 _ coX7_halves_145) dX7_halves_10 ?_
    exact zretIr X hr hlk G hf dX7_halves_12
/-! X7_fits -/
abbrev rmX7_fits : Room := { frames := 5, cells := 0, slots := 0, locals := 138 }
theorem hdV_X7_fits : yX7_fits.cls = RX7 ∧ yX7_fits.cls ≠ "java/lang/invoke/MethodHandle" ∧ yX7_fits.cls ≠ "java/lang/invoke/VarHandle" ∧ (parseMethodDescriptor yX7_fits.desc).map (fun d => d.parameters.length) = some 5 := by decide +kernel
theorem coX7_fits_76 : Cond.constant RX7 76 (-1000001) ∈ wsX7_fits := by decide +kernel
theorem inX7_fits_X7 : ∀ w ∈ wsX70, w ∈ wsX7_fits := by decide +kernel
theorem flX7_fits_10 : Cond.fieldLink RX7 10 (TX7 0).1 (TX7 0).2.1 (TX7 0).2.2.1 ∈ wsX7_fits := by decide +kernel
theorem flX7_fits_47 : Cond.fieldLink RX7 47 (TX7 6).1 (TX7 6).2.1 (TX7 6).2.2.1 ∈ wsX7_fits := by decide +kernel
theorem inX7_fits_X5 : ∀ w ∈ wsX50, w ∈ wsX7_fits := by decide +kernel
theorem flX7_fits_246 : Cond.fieldLink RX7 246 (TX5 1).1 (TX5 1).2.1 (TX5 1).2.2.1 ∈ wsX7_fits := by decide +kernel
theorem flX7_fits_26 : Cond.fieldLink RX7 26 (TX7 2).1 (TX7 2).2.1 (TX7 2).2.2.1 ∈ wsX7_fits := by decide +kernel
set_option maxHeartbeats 4000000 in
set_option maxRecDepth 100000 in
theorem m_X7_fits (l : Launch) (D : va_G) (dA : Nat → ClassId) (b0 : Nat) (r0 : Nat) (a1 : Int32) (a2 : Int32) (a3 : Int32) (a4 : Int32) (a5 : Int32) (h : zH) (z : Int32 × zH) (hf : f_X7_fits r0 a1 a2 a3 a4 a5 h = some z) : Met l yX7_fits wsX7_fits rmX7_fits (zPc D dA b0 [.ref (b0 + r0), .int a1, .int a2, .int a3, .int a4, .int a5] h) (zQ D dA b0 (some (.int z.1)) z.2) 0 0 (zA b0) := by
  refine Met.ofW (cc := cX7_fits) (maxL := 6) (ret := (some .int)) (by decide) rfl ?_
  intro p e s m args below meth c s₁ B hml hv
  obtain ⟨rfl, hP, hz, hK, hN⟩ := hv
  have hr := B.returns
  have hlk := B.notSynchronized
  have X : zX p s m _ c cX7_fits 6 RX7 wsX7_fits D dA := ⟨⟨B.exec, B.bytes, hml, findClass_of_methodNamed B.named, atoms_spec (ws := wsX7_fits) B.pre⟩, hK, hN⟩
  have G : zG D dA b0 s.heap h s.heap [] := ⟨hP, hz, va_S.rf⟩
  have hl := lv_entry ([.ref (b0 + r0), .int a1, .int a2, .int a3, .int a4, .int a5]) (n := 6) (Nat.le_of_ble_eq_true rfl)
  rw [lg_entry_eq]
  generalize (lg_sl ([.ref (b0 + r0), .int a1, .int a2, .int a3, .int a4, .int a5]) ++ List.replicate (6 - (lg_sl ([.ref (b0 + r0), .int a1, .int a2, .int a3, .int a4, .int a5])).length) Slot.unset).toArray = ls at hl ⊢
  have hl : lv_has ls 6 [(0, .ref (b0 + r0)), (1, .int a1), (2, .int a2), (3, .int a3), (4, .int a4), (5, .int a5)] := hl
  unfold f_X7_fits at hf
  refine lv_aload_n X.1.1 X.1.2.1 dX7_fits_0 rfl (lv_at hl 0 rfl) ?_
  refine lv_iload_n X.1.1 X.1.2.1 dX7_fits_1 rfl (lv_at hl 1 rfl) ?_
  obtain ⟨hk, hf⟩ := zck hf
  obtain ⟨q1, eq1, hf⟩ := Option.bind_eq_some_iff.mp hf
  refine zcV0 (As := [.int a1]) (rest := []) (v := (some (.int q1))) (h' := h) X G (rfl : vwCl[7]? = some (RX7, TX7, 11)) hk (m_X7_isThing l D dA b0 r0 a1 h q1 eq1) (cwV 1 X.1.2.2.2.2 gX7_fits_X7_isThing rfl rfl rfl hdV_X7_isThing ⟨(Nat.le_of_ble_eq_true rfl), (Nat.le_of_ble_eq_true rfl)⟩) rfl hl.1 rfl (Nat.le_of_ble_eq_true rfl) dX7_fits_2 ⟨Nat.zero_le _, Nat.zero_le _⟩ (fun H locs G => ?_)
  refine zif_eq (tgt := 39) X dX7_fits_5 (by decide) hf (fun hf => ?_) (fun hf => ?_)
  · refine lv_ldc (v := -1000001) X.1.1 X.1.2.1 X.1.2.2.2.1 (X.1.2.2.2.2 _ coX7_fits_76) dX7_fits_39 ?_
    exact zretI X hr hlk G hf dX7_fits_41
  · refine lv_iload_n X.1.1 X.1.2.1 dX7_fits_8 rfl (lv_at hl 2 rfl) ?_
    obtain ⟨q2, eq2, hf⟩ := Option.bind_eq_some_iff.mp hf
    refine zcS0 (As := [.int a2]) (rest := []) (v := (some (.int q2))) (h' := h) X G (m_X7_isRow l D dA b0 a2 h q2 eq2) (va_cwS 1 X.1.2.2.2.2 gX7_fits_X7_isRow rfl rfl rfl hdS_X7_isRow ⟨(Nat.le_of_ble_eq_true rfl), (Nat.le_of_ble_eq_true rfl)⟩) rfl hl.1 rfl (Nat.le_of_ble_eq_true rfl) dX7_fits_9 ⟨Nat.zero_le _, Nat.zero_le _⟩ (fun H locs G => ?_)
    refine zif_eq (tgt := 39) X dX7_fits_12 (by decide) hf (fun hf => ?_) (fun hf => ?_)
    · refine lv_ldc (v := -1000001) X.1.1 X.1.2.1 X.1.2.2.2.1 (X.1.2.2.2.2 _ coX7_fits_76) dX7_fits_39 ?_
      exact zretI X hr hlk G hf dX7_fits_41
    · refine lv_iload X.1.1 X.1.2.1 dX7_fits_15 (lv_at hl 4 rfl) ?_
      refine lv_iconst (v := 1) X.1.1 X.1.2.1 dX7_fits_17 (by decide) ?_
      refine zic_lt (tgt := 39) X dX7_fits_18 (by decide) hf (fun hf => ?_) (fun hf => ?_)
      · refine lv_ldc (v := -1000001) X.1.1 X.1.2.1 X.1.2.2.2.1 (X.1.2.2.2.2 _ coX7_fits_76) dX7_fits_39 ?_
        exact zretI X hr hlk G hf dX7_fits_41
      · refine lv_iload X.1.1 X.1.2.1 dX7_fits_21 (lv_at hl 4 rfl) ?_
        refine lv_bipush (v := 16) X.1.1 X.1.2.1 dX7_fits_23 (by decide) ?_
        refine zic_gt (tgt := 39) X dX7_fits_25 (by decide) hf (fun hf => ?_) (fun hf => ?_)
        · refine lv_ldc (v := -1000001) X.1.1 X.1.2.1 X.1.2.2.2.1 (X.1.2.2.2.2 _ coX7_fits_76) dX7_fits_39 ?_
          exact zretI X hr hlk G hf dX7_fits_41
        · refine lv_iload X.1.1 X.1.2.1 dX7_fits_28 (lv_at hl 5 rfl) ?_
          refine zif_lt (tgt := 39) X dX7_fits_30 (by decide) hf (fun hf => ?_) (fun hf => ?_)
          · refine lv_ldc (v := -1000001) X.1.1 X.1.2.1 X.1.2.2.2.1 (X.1.2.2.2.2 _ coX7_fits_76) dX7_fits_39 ?_
            exact zretI X hr hlk G hf dX7_fits_41
          · refine lv_iload X.1.1 X.1.2.1 dX7_fits_33 (lv_at hl 5 rfl) ?_
            refine lv_iconst (v := 2) X.1.1 X.1.2.1 dX7_fits_35 (by decide) ?_
            refine zic_le (tgt := 42) X dX7_fits_36 (by decide) hf (fun hf => ?_) (fun hf => ?_)
            · refine lv_aload_n X.1.1 X.1.2.1 dX7_fits_42 rfl (lv_at hl 0 rfl) ?_
              refine zgetR (ci := 7) (k := 0) (C := RX7) (T := TX7) (N := 11) X G rfl inX7_fits_X7 (Nat.le_of_ble_eq_true rfl) flX7_fits_10 dX7_fits_43 hf (fun v3 hf => ?_)
              refine lv_iload_n X.1.1 X.1.2.1 dX7_fits_46 rfl (lv_at hl 2 rfl) ?_
              obtain ⟨hk, hf⟩ := zck hf
              obtain ⟨q4, eq4, hf⟩ := Option.bind_eq_some_iff.mp hf
              refine zcV0 (As := [.int a2]) (rest := []) (v := (some (.int q4))) (h' := h) X G (rfl : vwCl[4]? = some (RX4, TX4, 3)) hk (m_X4_isMissing l D dA b0 v3 a2 h q4 eq4) (cwV 1 X.1.2.2.2.2 gX7_fits_X4_isMissing rfl rfl rfl hdV_X4_isMissing ⟨(Nat.le_of_ble_eq_true rfl), (Nat.le_of_ble_eq_true rfl)⟩) rfl hl.1 rfl (Nat.le_of_ble_eq_true rfl) dX7_fits_47 ⟨Nat.zero_le _, Nat.zero_le _⟩ (fun H locs G => ?_)
              refine zif_eq (tgt := 59) X dX7_fits_50 (by decide) hf (fun hf => ?_) (fun hf => ?_)
              · refine lv_aload_n X.1.1 X.1.2.1 dX7_fits_59 rfl (lv_at hl 0 rfl) ?_
                refine zgetR (ci := 7) (k := 0) (C := RX7) (T := TX7) (N := 11) X G rfl inX7_fits_X7 (Nat.le_of_ble_eq_true rfl) flX7_fits_10 dX7_fits_60 hf (fun v5 hf => ?_)
                refine lv_iload_n X.1.1 X.1.2.1 dX7_fits_63 rfl (lv_at hl 2 rfl) ?_
                refine lv_iload_n X.1.1 X.1.2.1 dX7_fits_64 rfl (lv_at hl 3 rfl) ?_
                refine lv_iload X.1.1 X.1.2.1 dX7_fits_65 (lv_at hl 4 rfl) ?_
                obtain ⟨hk, hf⟩ := zck hf
                obtain ⟨q6, eq6, hf⟩ := Option.bind_eq_some_iff.mp hf
                refine zcV0 (As := [.int a2, .int a3, .int a4]) (rest := []) (v := (some (.int q6))) (h' := h) X G (rfl : vwCl[4]? = some (RX4, TX4, 3)) hk (m_X4_hasRun l D dA b0 v5 a2 a3 a4 h q6 eq6) (cwV 3 X.1.2.2.2.2 gX7_fits_X4_hasRun rfl rfl rfl hdV_X4_hasRun ⟨(Nat.le_of_ble_eq_true rfl), (Nat.le_of_ble_eq_true rfl)⟩) rfl hl.1 rfl (Nat.le_of_ble_eq_true rfl) dX7_fits_67 ⟨Nat.zero_le _, Nat.zero_le _⟩ (fun H locs G => ?_)
                refine zif_ne (tgt := 79) X dX7_fits_70 (by decide) hf (fun hf => ?_) (fun hf => ?_)
                · refine lv_aload_n X.1.1 X.1.2.1 dX7_fits_79 rfl (lv_at hl 0 rfl) ?_
                  refine zgetR (ci := 7) (k := 0) (C := RX7) (T := TX7) (N := 11) X G rfl inX7_fits_X7 (Nat.le_of_ble_eq_true rfl) flX7_fits_10 dX7_fits_80 hf (fun v7 hf => ?_)
                  refine lv_iload_n X.1.1 X.1.2.1 dX7_fits_83 rfl (lv_at hl 2 rfl) ?_
                  refine lv_iload_n X.1.1 X.1.2.1 dX7_fits_84 rfl (lv_at hl 3 rfl) ?_
                  refine lv_iload X.1.1 X.1.2.1 dX7_fits_85 (lv_at hl 4 rfl) ?_
                  refine lv_aload_n X.1.1 X.1.2.1 dX7_fits_87 rfl (lv_at hl 0 rfl) ?_
                  refine zgetR (ci := 7) (k := 6) (C := RX7) (T := TX7) (N := 11) X G rfl inX7_fits_X7 (Nat.le_of_ble_eq_true rfl) flX7_fits_47 dX7_fits_88 hf (fun v8 hf => ?_)
                  refine zgetR (ci := 5) (k := 1) (C := RX5) (T := TX5) (N := 2) X G rfl inX7_fits_X5 (Nat.le_of_ble_eq_true rfl) flX7_fits_246 dX7_fits_91 hf (fun v9 hf => ?_)
                  obtain ⟨hk, hf⟩ := zck hf
                  obtain ⟨q10, eq10, hf⟩ := Option.bind_eq_some_iff.mp hf
                  refine zcV0 (As := [.int a2, .int a3, .int a4, .ref (b0 + v9)]) (rest := []) (v := none) (h' := q10) X G (rfl : vwCl[4]? = some (RX4, TX4, 3)) hk (m_X4_readRun l D dA b0 v7 a2 a3 a4 v9 h q10 eq10) (cwV 4 X.1.2.2.2.2 gX7_fits_X4_readRun rfl rfl rfl hdV_X4_readRun ⟨(Nat.le_of_ble_eq_true rfl), (Nat.le_of_ble_eq_true rfl)⟩) rfl hl.1 rfl (Nat.le_of_ble_eq_true rfl) dX7_fits_94 ⟨Nat.zero_le _, Nat.zero_le _⟩ (fun H locs G => ?_)
                  refine lv_aload_n X.1.1 X.1.2.1 dX7_fits_97 rfl (lv_at hl 0 rfl) ?_
                  refine lv_aload_n X.1.1 X.1.2.1 dX7_fits_98 rfl (lv_at hl 0 rfl) ?_
                  refine zgetR (ci := 7) (k := 6) (C := RX7) (T := TX7) (N := 11) X G rfl inX7_fits_X7 (Nat.le_of_ble_eq_true rfl) flX7_fits_47 dX7_fits_99 hf (fun v11 hf => ?_)
                  refine lv_aload_n X.1.1 X.1.2.1 dX7_fits_102 rfl (lv_at hl 0 rfl) ?_
                  refine zgetR (ci := 7) (k := 2) (C := RX7) (T := TX7) (N := 11) X G rfl inX7_fits_X7 (Nat.le_of_ble_eq_true rfl) flX7_fits_26 dX7_fits_103 hf (fun v12 hf => ?_)
                  refine lv_iload_n X.1.1 X.1.2.1 dX7_fits_106 rfl (lv_at hl 1 rfl) ?_
                  refine lv_iload X.1.1 X.1.2.1 dX7_fits_107 (lv_at hl 4 rfl) ?_
                  refine lv_iload X.1.1 X.1.2.1 dX7_fits_109 (lv_at hl 5 rfl) ?_
                  obtain ⟨hk, hf⟩ := zck hf
                  obtain ⟨q13, eq13, hf⟩ := Option.bind_eq_some_iff.mp hf
                  refine zcV0 (As := [.ref (b0 + v12), .int a1, .int a4, .int a5]) (rest := [.ref (b0 + r0)]) (v := (some (.int q13.1))) (h' := q13.2) X G (rfl : vwCl[5]? = some (RX5, TX5, 2)) hk (m_X5_thatFit l D dA b0 v11 v12 a1 a4 a5 q10 q13 eq13) (cwV 4 X.1.2.2.2.2 gX7_fits_X5_thatFit rfl rfl rfl hdV_X5_thatFit ⟨(Nat.le_of_ble_eq_true rfl), (Nat.le_of_ble_eq_true rfl)⟩) rfl hl.1 rfl (Nat.le_of_ble_eq_true rfl) dX7_fits_111 ⟨Nat.zero_le _, Nat.zero_le _⟩ (fun H locs G => ?_)
                  obtain ⟨hk, hf⟩ := zck hf
                  obtain ⟨q14, eq14, hf⟩ := Option.bind_eq_some_iff.mp hf
                  refine zcV0 (As := [.int q13.1]) (rest := []) (v := (some (.int q14.1))) (h' := q14.2) X G (rfl : vwCl[7]? = some (RX7, TX7, 11)) hk (m_X7_fine l D dA b0 r0 q13.1 q13.2 q14 eq14) (cwV 1 X.1.2.2.2.2 gX7_fits_X7_fine rfl rfl rfl hdV_X7_fine ⟨(Nat.le_of_ble_eq_true rfl), (Nat.le_of_ble_eq_true rfl)⟩) rfl hl.1 rfl (Nat.le_of_ble_eq_true rfl) dX7_fits_114 ⟨Nat.zero_le _, Nat.zero_le _⟩ (fun H locs G => ?_)
                  exact zretI X hr hlk G hf dX7_fits_117
                · refine lv_aload_n X.1.1 X.1.2.1 dX7_fits_73 rfl (lv_at hl 0 rfl) ?_
                  refine lv_iconst (v := 2) X.1.1 X.1.2.1 dX7_fits_74 (by decide) ?_
                  obtain ⟨hk, hf⟩ := zck hf
                  obtain ⟨q15, eq15, hf⟩ := Option.bind_eq_some_iff.mp hf
                  refine zcV0 (As := [.int (2 : Int32)]) (rest := []) (v := (some (.int q15.1))) (h' := q15.2) X G (rfl : vwCl[7]? = some (RX7, TX7, 11)) hk (m_X7_found l D dA b0 r0 (2 : Int32) h q15 eq15) (cwV 1 X.1.2.2.2.2 gX7_fits_X7_found rfl rfl rfl hdV_X7_found ⟨(Nat.le_of_ble_eq_true rfl), (Nat.le_of_ble_eq_true rfl)⟩) rfl hl.1 rfl (Nat.le_of_ble_eq_true rfl) dX7_fits_75 ⟨Nat.zero_le _, Nat.zero_le _⟩ (fun H locs G => ?_)
                  exact zretI X hr hlk G hf dX7_fits_78
              · refine lv_aload_n X.1.1 X.1.2.1 dX7_fits_53 rfl (lv_at hl 0 rfl) ?_
                refine lv_iconst (v := 1) X.1.1 X.1.2.1 dX7_fits_54 (by decide) ?_
                obtain ⟨hk, hf⟩ := zck hf
                obtain ⟨q16, eq16, hf⟩ := Option.bind_eq_some_iff.mp hf
                refine zcV0 (As := [.int (1 : Int32)]) (rest := []) (v := (some (.int q16.1))) (h' := q16.2) X G (rfl : vwCl[7]? = some (RX7, TX7, 11)) hk (m_X7_found l D dA b0 r0 (1 : Int32) h q16 eq16) (cwV 1 X.1.2.2.2.2 gX7_fits_X7_found rfl rfl rfl hdV_X7_found ⟨(Nat.le_of_ble_eq_true rfl), (Nat.le_of_ble_eq_true rfl)⟩) rfl hl.1 rfl (Nat.le_of_ble_eq_true rfl) dX7_fits_55 ⟨Nat.zero_le _, Nat.zero_le _⟩ (fun H locs G => ?_)
                exact zretI X hr hlk G hf dX7_fits_58
            · refine lv_ldc (v := -1000001) X.1.1 X.1.2.1 X.1.2.2.2.1 (X.1.2.2.2.2 _ coX7_fits_76) dX7_fits_39 ?_
              exact zretI X hr hlk G hf dX7_fits_41
/-! X7_commonDivisor -/
abbrev rmX7_commonDivisor : Room := { frames := 0, cells := 0, slots := 0, locals := 0 }
theorem hdS_X7_commonDivisor : yX7_commonDivisor.cls ≠ "java/lang/invoke/MethodHandle" ∧ yX7_commonDivisor.cls ≠ "java/lang/invoke/VarHandle" ∧ (parseMethodDescriptor yX7_commonDivisor.desc).map (fun d => d.parameters.length) = some 2 := by decide +kernel
set_option maxHeartbeats 4000000 in
set_option maxRecDepth 100000 in
theorem w_X7_commonDivisor_b7 {p : Program} {l : Launch} {e : Env} {s : State} {m : MethodId} {args : Array Value} {below : List Frame} {meth : Method} {c : Code} {D : va_G} {dA : Nat → ClassId} {b0 : Nat} {h : zH} (X : zX p s m args c cX7_commonDivisor 6 RX7 wsX7_commonDivisor D dA) (hr : meth.sig.returnType = (some .int)) (hlk : meth.locks = false) {z : Int32} : ∀ (n : Nat), ∀ (a2 : Int32) (a3 : Int32) (a4 : Int32) (H : Heap) (locs : List Loc) (ls : Array Slot), f_X7_commonDivisor_b7 h n a2 a3 a4 = some z → zG D dA b0 s.heap h H locs → lv_has ls 6 [(2, .int a2), (3, .int a3), (4, .int a4)] → W p l e rmX7_commonDivisor s m args below meth c H locs 0 0 (MQ below (zQ D dA b0 (some (.int z)) h) args s 0 0 (zA b0)) (F0 m 7 ls []) := by
  intro n
  induction n with
  | zero =>
    intro a2 a3 a4 H locs ls hf
    cases hf
  | succ n ih =>
    intro a2 a3 a4 H locs ls hf G hl
    rw [f_X7_commonDivisor_b7] at hf
    refine lv_iload X.1.1 X.1.2.1 dX7_commonDivisor_7 (lv_at hl 2 rfl) ?_
    refine lv_bipush (v := 64) X.1.1 X.1.2.1 dX7_commonDivisor_9 (by decide) ?_
    refine zic_ge (tgt := 34) X dX7_commonDivisor_11 (by decide) hf (fun hf => ?_) (fun hf => ?_)
    · refine lv_iload_n X.1.1 X.1.2.1 dX7_commonDivisor_34 rfl (lv_at hl 0 rfl) ?_
      exact zretIr X hr hlk G hf dX7_commonDivisor_35
    · refine lv_iload_n X.1.1 X.1.2.1 dX7_commonDivisor_14 rfl (lv_at hl 1 rfl) ?_
      refine zif_eq (tgt := 34) X dX7_commonDivisor_15 (by decide) hf (fun hf => ?_) (fun hf => ?_)
      · refine lv_iload_n X.1.1 X.1.2.1 dX7_commonDivisor_34 rfl (lv_at hl 0 rfl) ?_
        exact zretIr X hr hlk G hf dX7_commonDivisor_35
      · refine lv_iload_n X.1.1 X.1.2.1 dX7_commonDivisor_18 rfl (lv_at hl 0 rfl) ?_
        refine lv_iload_n X.1.1 X.1.2.1 dX7_commonDivisor_19 rfl (lv_at hl 1 rfl) ?_
        refine zirem X dX7_commonDivisor_20 hf (fun hf => ?_)
        refine zleti hf (fun x1 hf => ?_)
        refine lv_istore (lv' := [(5, .int x1), (2, .int a2), (3, .int a3), (4, .int a4)]) X.1.1 X.1.2.1 dX7_commonDivisor_21 hl (by decide) rfl (fun ls hl => ?_)
        refine lv_iload_n X.1.1 X.1.2.1 dX7_commonDivisor_23 rfl (lv_at hl 2 rfl) ?_
        refine lv_istore_n (lv' := [(2, .int a3), (5, .int x1), (3, .int a3), (4, .int a4)]) X.1.1 X.1.2.1 dX7_commonDivisor_24 rfl hl (by decide) rfl (fun ls hl => ?_)
        refine lv_iload X.1.1 X.1.2.1 dX7_commonDivisor_25 (lv_at hl 1 rfl) ?_
        refine lv_istore_n (lv' := [(3, .int x1), (2, .int a3), (5, .int x1), (4, .int a4)]) X.1.1 X.1.2.1 dX7_commonDivisor_27 rfl hl (by decide) rfl (fun ls hl => ?_)
        refine lv_iinc (v := (a4 + (1 : Int32))) (lv' := [(4, .int (a4 + (1 : Int32))), (3, .int x1), (2, .int a3), (5, .int x1)]) X.1.1 X.1.2.1 dX7_commonDivisor_28 hl (k := 3) rfl rfl (by decide) rfl (fun ls hl => ?_)
        refine lv_goto (tgt := 7) X.1.1 X.1.2.1 dX7_commonDivisor_31 (by decide) ?_
        exact ih _ _ _ _ _ _ hf G (lv_sub hl [2, 1, 0] rfl)
set_option maxHeartbeats 4000000 in
set_option maxRecDepth 100000 in
theorem m_X7_commonDivisor (l : Launch) (D : va_G) (dA : Nat → ClassId) (b0 : Nat) (a0 : Int32) (a1 : Int32) (h : zH) (z : Int32) (hf : f_X7_commonDivisor a0 a1 h = some z) : Met l yX7_commonDivisor wsX7_commonDivisor rmX7_commonDivisor (zPc D dA b0 [.int a0, .int a1] h) (zQ D dA b0 (some (.int z)) h) 0 0 (zA b0) := by
  refine Met.ofW (cc := cX7_commonDivisor) (maxL := 6) (ret := (some .int)) (by decide) rfl ?_
  intro p e s m args below meth c s₁ B hml hv
  obtain ⟨rfl, hP, hz, hK, hN⟩ := hv
  have hr := B.returns
  have hlk := B.notSynchronized
  have X : zX p s m _ c cX7_commonDivisor 6 RX7 wsX7_commonDivisor D dA := ⟨⟨B.exec, B.bytes, hml, findClass_of_methodNamed B.named, atoms_spec (ws := wsX7_commonDivisor) B.pre⟩, hK, hN⟩
  have G : zG D dA b0 s.heap h s.heap [] := ⟨hP, hz, va_S.rf⟩
  have hl := lv_entry ([.int a0, .int a1]) (n := 6) (Nat.le_of_ble_eq_true rfl)
  rw [lg_entry_eq]
  generalize (lg_sl ([.int a0, .int a1]) ++ List.replicate (6 - (lg_sl ([.int a0, .int a1])).length) Slot.unset).toArray = ls at hl ⊢
  have hl : lv_has ls 6 [(0, .int a0), (1, .int a1)] := hl
  unfold f_X7_commonDivisor at hf
  refine lv_iload_n X.1.1 X.1.2.1 dX7_commonDivisor_0 rfl (lv_at hl 0 rfl) ?_
  refine lv_istore_n (lv' := [(2, .int a0), (0, .int a0), (1, .int a1)]) X.1.1 X.1.2.1 dX7_commonDivisor_1 rfl hl (by decide) rfl (fun ls hl => ?_)
  refine lv_iload_n X.1.1 X.1.2.1 dX7_commonDivisor_2 rfl (lv_at hl 2 rfl) ?_
  refine lv_istore_n (lv' := [(3, .int a1), (2, .int a0), (0, .int a0), (1, .int a1)]) X.1.1 X.1.2.1 dX7_commonDivisor_3 rfl hl (by decide) rfl (fun ls hl => ?_)
  refine lv_iconst (v := 0) X.1.1 X.1.2.1 dX7_commonDivisor_4 (by decide) ?_
  refine lv_istore (lv' := [(4, .int (0 : Int32)), (3, .int a1), (2, .int a0), (0, .int a0), (1, .int a1)]) X.1.1 X.1.2.1 dX7_commonDivisor_5 hl (by decide) rfl (fun ls hl => ?_)
  exact w_X7_commonDivisor_b7 X hr hlk _ _ _ _ _ _ _ hf G (lv_sub hl [2, 1, 0] rfl)
/-! X7_moles -/
abbrev rmX7_moles : Room := { frames := 5, cells := 0, slots := 0, locals := 132 }
theorem hdV_X7_moles : yX7_moles.cls = RX7 ∧ yX7_moles.cls ≠ "java/lang/invoke/MethodHandle" ∧ yX7_moles.cls ≠ "java/lang/invoke/VarHandle" ∧ (parseMethodDescriptor yX7_moles.desc).map (fun d => d.parameters.length) = some 3 := by decide +kernel
theorem inX7_moles_X7 : ∀ w ∈ wsX70, w ∈ wsX7_moles := by decide +kernel
theorem flX7_moles_26 : Cond.fieldLink RX7 26 (TX7 2).1 (TX7 2).2.1 (TX7 2).2.2.1 ∈ wsX7_moles := by decide +kernel
theorem inX7_moles_X3 : ∀ w ∈ wsX30, w ∈ wsX7_moles := by decide +kernel
theorem flX7_moles_141 : Cond.fieldLink RX7 141 (TX3 0).1 (TX3 0).2.1 (TX3 0).2.2.1 ∈ wsX7_moles := by decide +kernel
theorem coX7_moles_76 : Cond.constant RX7 76 (-1000001) ∈ wsX7_moles := by decide +kernel
theorem flX7_moles_47 : Cond.fieldLink RX7 47 (TX7 6).1 (TX7 6).2.1 (TX7 6).2.2.1 ∈ wsX7_moles := by decide +kernel
theorem coX7_moles_224 : Cond.constant RX7 224 (-1000000) ∈ wsX7_moles := by decide +kernel
theorem coX7_moles_145 : Cond.constant RX7 145 (-1000002) ∈ wsX7_moles := by decide +kernel
set_option maxHeartbeats 4000000 in
set_option maxRecDepth 100000 in
theorem w_X7_moles_b97 {p : Program} {l : Launch} {e : Env} {s : State} {m : MethodId} {args : Array Value} {below : List Frame} {meth : Method} {c : Code} {D : va_G} {dA : Nat → ClassId} {b0 : Nat} (X : zX p s m args c cX7_moles 7 RX7 wsX7_moles D dA) (hr : meth.sig.returnType = (some .int)) (hlk : meth.locks = false) {z : Int32 × zH} : ∀ (a6 : Int32) (s0 : Int32) (h : zH) (H : Heap) (locs : List Loc) (ls : Array Slot), f_X7_moles_b97 a6 s0 h = some z → zG D dA b0 s.heap h H locs → lv_has ls 7 [(6, .int a6)] → W p l e rmX7_moles s m args below meth c H locs 0 0 (MQ below (zQ D dA b0 (some (.int z.1)) z.2) args s 0 0 (zA b0)) (F0 m 97 ls [.int s0]) := by
  intro a6 s0 h H locs ls hf G hl
  unfold f_X7_moles_b97 at hf
  refine lv_iload X.1.1 X.1.2.1 dX7_moles_97 (lv_at hl 0 rfl) ?_
  refine zidiv X dX7_moles_99 hf (fun hf => ?_)
  exact zretI X hr hlk G hf dX7_moles_100
set_option maxHeartbeats 4000000 in
set_option maxRecDepth 100000 in
theorem m_X7_moles (l : Launch) (D : va_G) (dA : Nat → ClassId) (b0 : Nat) (r0 : Nat) (a1 : Int32) (a2 : Int32) (a3 : Int32) (h : zH) (z : Int32 × zH) (hf : f_X7_moles r0 a1 a2 a3 h = some z) : Met l yX7_moles wsX7_moles rmX7_moles (zPc D dA b0 [.ref (b0 + r0), .int a1, .int a2, .int a3] h) (zQ D dA b0 (some (.int z.1)) z.2) 0 0 (zA b0) := by
  refine Met.ofW (cc := cX7_moles) (maxL := 7) (ret := (some .int)) (by decide) rfl ?_
  intro p e s m args below meth c s₁ B hml hv
  obtain ⟨rfl, hP, hz, hK, hN⟩ := hv
  have hr := B.returns
  have hlk := B.notSynchronized
  have X : zX p s m _ c cX7_moles 7 RX7 wsX7_moles D dA := ⟨⟨B.exec, B.bytes, hml, findClass_of_methodNamed B.named, atoms_spec (ws := wsX7_moles) B.pre⟩, hK, hN⟩
  have G : zG D dA b0 s.heap h s.heap [] := ⟨hP, hz, va_S.rf⟩
  have hl := lv_entry ([.ref (b0 + r0), .int a1, .int a2, .int a3]) (n := 7) (Nat.le_of_ble_eq_true rfl)
  rw [lg_entry_eq]
  generalize (lg_sl ([.ref (b0 + r0), .int a1, .int a2, .int a3]) ++ List.replicate (7 - (lg_sl ([.ref (b0 + r0), .int a1, .int a2, .int a3])).length) Slot.unset).toArray = ls at hl ⊢
  have hl : lv_has ls 7 [(0, .ref (b0 + r0)), (1, .int a1), (2, .int a2), (3, .int a3)] := hl
  unfold f_X7_moles at hf
  refine lv_aload_n X.1.1 X.1.2.1 dX7_moles_0 rfl (lv_at hl 0 rfl) ?_
  refine zgetR (ci := 7) (k := 2) (C := RX7) (T := TX7) (N := 11) X G rfl inX7_moles_X7 (Nat.le_of_ble_eq_true rfl) flX7_moles_26 dX7_moles_1 hf (fun v1 hf => ?_)
  refine zgetI (ci := 3) (k := 0) (C := RX3) (T := TX3) (N := 12) X G rfl inX7_moles_X3 (Nat.le_of_ble_eq_true rfl) flX7_moles_141 dX7_moles_4 hf (fun v2 hf => ?_)
  refine zif_ne (tgt := 13) X dX7_moles_7 (by decide) hf (fun hf => ?_) (fun hf => ?_)
  · refine lv_iload_n X.1.1 X.1.2.1 dX7_moles_13 rfl (lv_at hl 1 rfl) ?_
    obtain ⟨q3, eq3, hf⟩ := Option.bind_eq_some_iff.mp hf
    refine zcS0 (As := [.int a1]) (rest := []) (v := (some (.int q3))) (h' := h) X G (m_X7_isForetold l D dA b0 a1 h q3 eq3) (va_cwS 1 X.1.2.2.2.2 gX7_moles_X7_isForetold rfl rfl rfl hdS_X7_isForetold ⟨(Nat.le_of_ble_eq_true rfl), (Nat.le_of_ble_eq_true rfl)⟩) rfl hl.1 rfl (Nat.le_of_ble_eq_true rfl) dX7_moles_14 ⟨Nat.zero_le _, Nat.zero_le _⟩ (fun H locs G => ?_)
    refine zif_eq (tgt := 37) X dX7_moles_17 (by decide) hf (fun hf => ?_) (fun hf => ?_)
    · refine lv_ldc (v := -1000001) X.1.1 X.1.2.1 X.1.2.2.2.1 (X.1.2.2.2.2 _ coX7_moles_76) dX7_moles_37 ?_
      exact zretI X hr hlk G hf dX7_moles_39
    · refine lv_iload_n X.1.1 X.1.2.1 dX7_moles_20 rfl (lv_at hl 2 rfl) ?_
      refine zif_lt (tgt := 37) X dX7_moles_21 (by decide) hf (fun hf => ?_) (fun hf => ?_)
      · refine lv_ldc (v := -1000001) X.1.1 X.1.2.1 X.1.2.2.2.1 (X.1.2.2.2.2 _ coX7_moles_76) dX7_moles_37 ?_
        exact zretI X hr hlk G hf dX7_moles_39
      · refine lv_iload_n X.1.1 X.1.2.1 dX7_moles_24 rfl (lv_at hl 2 rfl) ?_
        refine lv_bipush (v := 10) X.1.1 X.1.2.1 dX7_moles_25 (by decide) ?_
        refine zic_gt (tgt := 37) X dX7_moles_27 (by decide) hf (fun hf => ?_) (fun hf => ?_)
        · refine lv_ldc (v := -1000001) X.1.1 X.1.2.1 X.1.2.2.2.1 (X.1.2.2.2.2 _ coX7_moles_76) dX7_moles_37 ?_
          exact zretI X hr hlk G hf dX7_moles_39
        · refine lv_iload_n X.1.1 X.1.2.1 dX7_moles_30 rfl (lv_at hl 3 rfl) ?_
          obtain ⟨q4, eq4, hf⟩ := Option.bind_eq_some_iff.mp hf
          refine zcS0 (As := [.int a3]) (rest := []) (v := (some (.int q4))) (h' := h) X G (m_X7_isOneOfTwo l D dA b0 a3 h q4 eq4) (va_cwS 1 X.1.2.2.2.2 gX7_moles_X7_isOneOfTwo rfl rfl rfl hdS_X7_isOneOfTwo ⟨(Nat.le_of_ble_eq_true rfl), (Nat.le_of_ble_eq_true rfl)⟩) rfl hl.1 rfl (Nat.le_of_ble_eq_true rfl) dX7_moles_31 ⟨Nat.zero_le _, Nat.zero_le _⟩ (fun H locs G => ?_)
          refine zif_ne (tgt := 40) X dX7_moles_34 (by decide) hf (fun hf => ?_) (fun hf => ?_)
          · refine lv_aload_n X.1.1 X.1.2.1 dX7_moles_40 rfl (lv_at hl 0 rfl) ?_
            refine zgetR (ci := 7) (k := 6) (C := RX7) (T := TX7) (N := 11) X G rfl inX7_moles_X7 (Nat.le_of_ble_eq_true rfl) flX7_moles_47 dX7_moles_41 hf (fun v5 hf => ?_)
            refine lv_aload_n X.1.1 X.1.2.1 dX7_moles_44 rfl (lv_at hl 0 rfl) ?_
            refine zgetR (ci := 7) (k := 2) (C := RX7) (T := TX7) (N := 11) X G rfl inX7_moles_X7 (Nat.le_of_ble_eq_true rfl) flX7_moles_26 dX7_moles_45 hf (fun v6 hf => ?_)
            refine lv_iload_n X.1.1 X.1.2.1 dX7_moles_48 rfl (lv_at hl 1 rfl) ?_
            refine lv_iload_n X.1.1 X.1.2.1 dX7_moles_49 rfl (lv_at hl 2 rfl) ?_
            obtain ⟨hk, hf⟩ := zck hf
            obtain ⟨q7, eq7, hf⟩ := Option.bind_eq_some_iff.mp hf
            refine zcV0 (As := [.ref (b0 + v6), .int a1, .int a2]) (rest := []) (v := (some (.int q7.1))) (h' := q7.2) X G (rfl : vwCl[5]? = some (RX5, TX5, 2)) hk (m_X5_weightOfNoneUp l D dA b0 v5 v6 a1 a2 h q7 eq7) (cwV 3 X.1.2.2.2.2 gX7_moles_X5_weightOfNoneUp rfl rfl rfl hdV_X5_weightOfNoneUp ⟨(Nat.le_of_ble_eq_true rfl), (Nat.le_of_ble_eq_true rfl)⟩) rfl hl.1 rfl (Nat.le_of_ble_eq_true rfl) dX7_moles_50 ⟨Nat.zero_le _, Nat.zero_le _⟩ (fun H locs G => ?_)
            refine lv_istore (lv' := [(4, .int q7.1), (0, .ref (b0 + r0)), (1, .int a1), (2, .int a2), (3, .int a3)]) X.1.1 X.1.2.1 dX7_moles_53 hl (by decide) rfl (fun ls hl => ?_)
            refine lv_aload_n X.1.1 X.1.2.1 dX7_moles_55 rfl (lv_at hl 1 rfl) ?_
            refine zgetR (ci := 7) (k := 6) (C := RX7) (T := TX7) (N := 11) X G rfl inX7_moles_X7 (Nat.le_of_ble_eq_true rfl) flX7_moles_47 dX7_moles_56 hf (fun v8 hf => ?_)
            refine lv_aload_n X.1.1 X.1.2.1 dX7_moles_59 rfl (lv_at hl 1 rfl) ?_
            refine zgetR (ci := 7) (k := 2) (C := RX7) (T := TX7) (N := 11) X G rfl inX7_moles_X7 (Nat.le_of_ble_eq_true rfl) flX7_moles_26 dX7_moles_60 hf (fun v9 hf => ?_)
            obtain ⟨hk, hf⟩ := zck hf
            obtain ⟨q10, eq10, hf⟩ := Option.bind_eq_some_iff.mp hf
            refine zcV0 (As := [.ref (b0 + v9)]) (rest := []) (v := (some (.int q10))) (h' := q7.2) X G (rfl : vwCl[5]? = some (RX5, TX5, 2)) hk (m_X5_weightOfAll l D dA b0 v8 v9 q7.2 q10 eq10) (cwV 1 X.1.2.2.2.2 gX7_moles_X5_weightOfAll rfl rfl rfl hdV_X5_weightOfAll ⟨(Nat.le_of_ble_eq_true rfl), (Nat.le_of_ble_eq_true rfl)⟩) rfl hl.1 rfl (Nat.le_of_ble_eq_true rfl) dX7_moles_63 ⟨Nat.zero_le _, Nat.zero_le _⟩ (fun H locs G => ?_)
            refine lv_istore (lv' := [(5, .int q10), (4, .int q7.1), (0, .ref (b0 + r0)), (1, .int a1), (2, .int a2), (3, .int a3)]) X.1.1 X.1.2.1 dX7_moles_66 hl (by decide) rfl (fun ls hl => ?_)
            refine lv_iload X.1.1 X.1.2.1 dX7_moles_68 (lv_at hl 1 rfl) ?_
            refine lv_iload X.1.1 X.1.2.1 dX7_moles_70 (lv_at hl 0 rfl) ?_
            obtain ⟨q11, eq11, hf⟩ := Option.bind_eq_some_iff.mp hf
            refine zcS0 (As := [.int q7.1, .int q10]) (rest := []) (v := (some (.int q11))) (h' := q7.2) X G (m_X7_commonDivisor l D dA b0 q7.1 q10 q7.2 q11 eq11) (va_cwS 2 X.1.2.2.2.2 gX7_moles_X7_commonDivisor rfl rfl rfl hdS_X7_commonDivisor ⟨(Nat.le_of_ble_eq_true rfl), (Nat.le_of_ble_eq_true rfl)⟩) rfl hl.1 rfl (Nat.le_of_ble_eq_true rfl) dX7_moles_72 ⟨Nat.zero_le _, Nat.zero_le _⟩ (fun H locs G => ?_)
            refine lv_istore (lv' := [(6, .int q11), (5, .int q10), (4, .int q7.1), (0, .ref (b0 + r0)), (1, .int a1), (2, .int a2), (3, .int a3)]) X.1.1 X.1.2.1 dX7_moles_75 hl (by decide) rfl (fun ls hl => ?_)
            refine lv_iload X.1.1 X.1.2.1 dX7_moles_77 (lv_at hl 0 rfl) ?_
            refine lv_iconst (v := 1) X.1.1 X.1.2.1 dX7_moles_79 (by decide) ?_
            refine zic_ge (tgt := 86) X dX7_moles_80 (by decide) hf (fun hf => ?_) (fun hf => ?_)
            · refine lv_iload_n X.1.1 X.1.2.1 dX7_moles_86 rfl (lv_at hl 6 rfl) ?_
              refine zif_ne (tgt := 95) X dX7_moles_87 (by decide) hf (fun hf => ?_) (fun hf => ?_)
              · refine lv_iload X.1.1 X.1.2.1 dX7_moles_95 (lv_at hl 1 rfl) ?_
                exact w_X7_moles_b97 X hr hlk _ _ _ _ _ _ hf G (lv_sub hl [0] rfl)
              · refine lv_iload X.1.1 X.1.2.1 dX7_moles_90 (lv_at hl 2 rfl) ?_
                refine lv_goto (tgt := 97) X.1.1 X.1.2.1 dX7_moles_92 (by decide) ?_
                exact w_X7_moles_b97 X hr hlk _ _ _ _ _ _ hf G (lv_sub hl [0] rfl)
            · refine lv_ldc (v := -1000000) X.1.1 X.1.2.1 X.1.2.2.2.1 (X.1.2.2.2.2 _ coX7_moles_224) dX7_moles_83 ?_
              exact zretI X hr hlk G hf dX7_moles_85
          · refine lv_ldc (v := -1000001) X.1.1 X.1.2.1 X.1.2.2.2.1 (X.1.2.2.2.2 _ coX7_moles_76) dX7_moles_37 ?_
            exact zretI X hr hlk G hf dX7_moles_39
  · refine lv_ldc (v := -1000002) X.1.1 X.1.2.1 X.1.2.2.2.1 (X.1.2.2.2.2 _ coX7_moles_145) dX7_moles_10 ?_
    exact zretI X hr hlk G hf dX7_moles_12
/-! X7_isImage -/
abbrev rmX7_isImage : Room := { frames := 0, cells := 0, slots := 0, locals := 0 }
theorem hdS_X7_isImage : yX7_isImage.cls ≠ "java/lang/invoke/MethodHandle" ∧ yX7_isImage.cls ≠ "java/lang/invoke/VarHandle" ∧ (parseMethodDescriptor yX7_isImage.desc).map (fun d => d.parameters.length) = some 1 := by decide +kernel
set_option maxHeartbeats 4000000 in
set_option maxRecDepth 100000 in
theorem m_X7_isImage (l : Launch) (D : va_G) (dA : Nat → ClassId) (b0 : Nat) (a0 : Int32) (h : zH) (z : Int32) (hf : f_X7_isImage a0 h = some z) : Met l yX7_isImage wsX7_isImage rmX7_isImage (zPc D dA b0 [.int a0] h) (zQ D dA b0 (some (.int z)) h) 0 0 (zA b0) := by
  refine Met.ofW (cc := cX7_isImage) (maxL := 1) (ret := (some .boolean)) (by decide) rfl ?_
  intro p e s m args below meth c s₁ B hml hv
  obtain ⟨rfl, hP, hz, hK, hN⟩ := hv
  have hr := B.returns
  have hlk := B.notSynchronized
  have X : zX p s m _ c cX7_isImage 1 RX7 wsX7_isImage D dA := ⟨⟨B.exec, B.bytes, hml, findClass_of_methodNamed B.named, atoms_spec (ws := wsX7_isImage) B.pre⟩, hK, hN⟩
  have G : zG D dA b0 s.heap h s.heap [] := ⟨hP, hz, va_S.rf⟩
  have hl := lv_entry ([.int a0]) (n := 1) (Nat.le_of_ble_eq_true rfl)
  rw [lg_entry_eq]
  generalize (lg_sl ([.int a0]) ++ List.replicate (1 - (lg_sl ([.int a0])).length) Slot.unset).toArray = ls at hl ⊢
  have hl : lv_has ls 1 [(0, .int a0)] := hl
  unfold f_X7_isImage at hf
  refine lv_iload_n X.1.1 X.1.2.1 dX7_isImage_0 rfl (lv_at hl 0 rfl) ?_
  refine zif_lt (tgt := 13) X dX7_isImage_1 (by decide) hf (fun hf => ?_) (fun hf => ?_)
  · refine lv_iconst (v := 0) X.1.1 X.1.2.1 dX7_isImage_13 (by decide) ?_
    exact zretZr X hr hlk G hf dX7_isImage_14
  · refine lv_iload_n X.1.1 X.1.2.1 dX7_isImage_4 rfl (lv_at hl 0 rfl) ?_
    refine lv_iconst (v := 2) X.1.1 X.1.2.1 dX7_isImage_5 (by decide) ?_
    refine zic_ge (tgt := 13) X dX7_isImage_6 (by decide) hf (fun hf => ?_) (fun hf => ?_)
    · refine lv_iconst (v := 0) X.1.1 X.1.2.1 dX7_isImage_13 (by decide) ?_
      exact zretZr X hr hlk G hf dX7_isImage_14
    · refine lv_iconst (v := 1) X.1.1 X.1.2.1 dX7_isImage_9 (by decide) ?_
      refine lv_goto (tgt := 14) X.1.1 X.1.2.1 dX7_isImage_10 (by decide) ?_
      exact zretZr X hr hlk G hf dX7_isImage_14
