/-! X8_layAside -/
abbrev rmX8_layAside : Room := { frames := 1, cells := 0, slots := 0, locals := 24 }
theorem hdV_X8_layAside : yX8_layAside.cls = RX8 ∧ yX8_layAside.cls ≠ "java/lang/invoke/MethodHandle" ∧ yX8_layAside.cls ≠ "java/lang/invoke/VarHandle" ∧ (parseMethodDescriptor yX8_layAside.desc).map (fun d => d.parameters.length) = some 0 := by decide +kernel
theorem inX8_layAside_X8 : ∀ w ∈ wsX80, w ∈ wsX8_layAside := by decide +kernel
theorem flX8_layAside_19 : Cond.fieldLink RX8 19 (TX8 4).1 (TX8 4).2.1 (TX8 4).2.2.1 ∈ wsX8_layAside := by decide +kernel
theorem flX8_layAside_25 : Cond.fieldLink RX8 25 (TX8 6).1 (TX8 6).2.1 (TX8 6).2.2.1 ∈ wsX8_layAside := by decide +kernel
set_option maxHeartbeats 4000000 in
set_option maxRecDepth 100000 in
theorem m_X8_layAside (l : Launch) (D : va_G) (dA : Nat → ClassId) (b0 : Nat) (r0 : Nat) (h : zH) (z : zH) (hf : f_X8_layAside r0 h = some z) : Met l yX8_layAside wsX8_layAside rmX8_layAside (zPc D dA b0 [.ref (b0 + r0)] h) (zQ D dA b0 none z) 0 0 (zA b0) := by
  refine Met.ofW (cc := cX8_layAside) (maxL := 1) (ret := none) (by decide) rfl ?_
  intro p e s m args below meth c s₁ B hml hv
  obtain ⟨rfl, hP, hz, hK, hN⟩ := hv
  have hr := B.returns
  have hlk := B.notSynchronized
  have X : zX p s m _ c cX8_layAside 1 RX8 wsX8_layAside D dA := ⟨⟨B.exec, B.bytes, hml, findClass_of_methodNamed B.named, atoms_spec (ws := wsX8_layAside) B.pre⟩, hK, hN⟩
  have G : zG D dA b0 s.heap h s.heap [] := ⟨hP, hz, va_S.rf⟩
  have hl := lv_entry ([.ref (b0 + r0)]) (n := 1) (Nat.le_of_ble_eq_true rfl)
  rw [lg_entry_eq]
  generalize (lg_sl ([.ref (b0 + r0)]) ++ List.replicate (1 - (lg_sl ([.ref (b0 + r0)])).length) Slot.unset).toArray = ls at hl ⊢
  have hl : lv_has ls 1 [(0, .ref (b0 + r0))] := hl
  unfold f_X8_layAside at hf
  refine lv_aload_n X.1.1 X.1.2.1 dX8_layAside_0 rfl (lv_at hl 0 rfl) ?_
  refine zgetR (ci := 8) (k := 4) (C := RX8) (T := TX8) (N := 24) X G rfl inX8_layAside_X8 (Nat.le_of_ble_eq_true rfl) flX8_layAside_19 dX8_layAside_1 hf (fun v1 hf => ?_)
  refine lv_iconst (v := 0) X.1.1 X.1.2.1 dX8_layAside_4 (by decide) ?_
  refine lv_aload_n X.1.1 X.1.2.1 dX8_layAside_5 rfl (lv_at hl 0 rfl) ?_
  refine zgetR (ci := 8) (k := 6) (C := RX8) (T := TX8) (N := 24) X G rfl inX8_layAside_X8 (Nat.le_of_ble_eq_true rfl) flX8_layAside_25 dX8_layAside_6 hf (fun v2 hf => ?_)
  refine lv_iconst (v := 0) X.1.1 X.1.2.1 dX8_layAside_9 (by decide) ?_
  obtain ⟨q3, eq3, hf⟩ := Option.bind_eq_some_iff.mp hf
  refine zcS0 (As := [.ref (b0 + v1), .int (0 : Int32), .ref (b0 + v2), .int (0 : Int32)]) (rest := []) (v := none) (h' := q3) X G (m_X8_copies l D dA b0 v1 (0 : Int32) v2 (0 : Int32) h q3 eq3) (va_cwS 4 X.1.2.2.2.2 gX8_layAside_X8_copies rfl rfl rfl hdS_X8_copies ⟨(Nat.le_of_ble_eq_true rfl), (Nat.le_of_ble_eq_true rfl)⟩) rfl hl.1 rfl (Nat.le_of_ble_eq_true rfl) dX8_layAside_10 ⟨Nat.zero_le _, Nat.zero_le _⟩ (fun H locs G => ?_)
  exact zretV X hr hlk G hf dX8_layAside_13
/-! X8_go -/
abbrev rmX8_go : Room := { frames := 3, cells := 0, slots := 0, locals := 68 }
theorem hdV_X8_go : yX8_go.cls = RX8 ∧ yX8_go.cls ≠ "java/lang/invoke/MethodHandle" ∧ yX8_go.cls ≠ "java/lang/invoke/VarHandle" ∧ (parseMethodDescriptor yX8_go.desc).map (fun d => d.parameters.length) = some 1 := by decide +kernel
theorem inX8_go_X8 : ∀ w ∈ wsX80, w ∈ wsX8_go := by decide +kernel
theorem flX8_go_25 : Cond.fieldLink RX8 25 (TX8 6).1 (TX8 6).2.1 (TX8 6).2.2.1 ∈ wsX8_go := by decide +kernel
set_option maxHeartbeats 4000000 in
set_option maxRecDepth 100000 in
theorem w_X8_go_b2 {p : Program} {l : Launch} {e : Env} {s : State} {m : MethodId} {args : Array Value} {below : List Frame} {meth : Method} {c : Code} {D : va_G} {dA : Nat → ClassId} {b0 : Nat} (X : zX p s m args c cX8_go 3 RX8 wsX8_go D dA) (hr : meth.sig.returnType = none) (hlk : meth.locks = false) {z : zH} : ∀ (n : Nat), ∀ (r0 : Nat) (a1 : Int32) (a2 : Int32) (h : zH) (H : Heap) (locs : List Loc) (ls : Array Slot), f_X8_go_b2 n r0 a1 a2 h = some z → zG D dA b0 s.heap h H locs → lv_has ls 3 [(0, .ref (b0 + r0)), (1, .int a1), (2, .int a2)] → W p l e rmX8_go s m args below meth c H locs 0 0 (MQ below (zQ D dA b0 none z) args s 0 0 (zA b0)) (F0 m 2 ls []) := by
  intro n
  induction n with
  | zero =>
    intro r0 a1 a2 h H locs ls hf
    cases hf
  | succ n ih =>
    intro r0 a1 a2 h H locs ls hf G hl
    rw [f_X8_go_b2] at hf
    refine lv_iload_n X.1.1 X.1.2.1 dX8_go_2 rfl (lv_at hl 2 rfl) ?_
    refine lv_iload_n X.1.1 X.1.2.1 dX8_go_3 rfl (lv_at hl 1 rfl) ?_
    refine zic_ge (tgt := 21) X dX8_go_4 (by decide) hf (fun hf => ?_) (fun hf => ?_)
    · exact zretV X hr hlk G hf dX8_go_21
    · refine lv_aload_n X.1.1 X.1.2.1 dX8_go_7 rfl (lv_at hl 0 rfl) ?_
      refine lv_aload_n X.1.1 X.1.2.1 dX8_go_8 rfl (lv_at hl 0 rfl) ?_
      refine zgetR (ci := 8) (k := 6) (C := RX8) (T := TX8) (N := 24) X G rfl inX8_go_X8 (Nat.le_of_ble_eq_true rfl) flX8_go_25 dX8_go_9 hf (fun v1 hf => ?_)
      obtain ⟨hk, hf⟩ := zck hf
      obtain ⟨q2, eq2, hf⟩ := Option.bind_eq_some_iff.mp hf
      refine zcV0 (As := [.ref (b0 + v1)]) (rest := []) (v := none) (h' := q2) X G (rfl : vwCl[8]? = some (RX8, TX8, 24)) hk (m_X8_yearGoes l D dA b0 r0 v1 h q2 eq2) (cwV 1 X.1.2.2.2.2 gX8_go_X8_yearGoes rfl rfl rfl hdV_X8_yearGoes ⟨(Nat.le_of_ble_eq_true rfl), (Nat.le_of_ble_eq_true rfl)⟩) rfl hl.1 rfl (Nat.le_of_ble_eq_true rfl) dX8_go_12 ⟨Nat.zero_le _, Nat.zero_le _⟩ (fun H locs G => ?_)
      refine lv_iinc (v := (a2 + (1 : Int32))) (lv' := [(2, .int (a2 + (1 : Int32))), (0, .ref (b0 + r0)), (1, .int a1)]) X.1.1 X.1.2.1 dX8_go_15 hl (k := 2) rfl rfl (by decide) rfl (fun ls hl => ?_)
      refine lv_goto (tgt := 2) X.1.1 X.1.2.1 dX8_go_18 (by decide) ?_
      exact ih _ _ _ _ _ _ _ hf G (lv_sub hl [1, 2, 0] rfl)
set_option maxHeartbeats 4000000 in
set_option maxRecDepth 100000 in
theorem m_X8_go (l : Launch) (D : va_G) (dA : Nat → ClassId) (b0 : Nat) (r0 : Nat) (a1 : Int32) (h : zH) (z : zH) (hf : f_X8_go r0 a1 h = some z) : Met l yX8_go wsX8_go rmX8_go (zPc D dA b0 [.ref (b0 + r0), .int a1] h) (zQ D dA b0 none z) 0 0 (zA b0) := by
  refine Met.ofW (cc := cX8_go) (maxL := 3) (ret := none) (by decide) rfl ?_
  intro p e s m args below meth c s₁ B hml hv
  obtain ⟨rfl, hP, hz, hK, hN⟩ := hv
  have hr := B.returns
  have hlk := B.notSynchronized
  have X : zX p s m _ c cX8_go 3 RX8 wsX8_go D dA := ⟨⟨B.exec, B.bytes, hml, findClass_of_methodNamed B.named, atoms_spec (ws := wsX8_go) B.pre⟩, hK, hN⟩
  have G : zG D dA b0 s.heap h s.heap [] := ⟨hP, hz, va_S.rf⟩
  have hl := lv_entry ([.ref (b0 + r0), .int a1]) (n := 3) (Nat.le_of_ble_eq_true rfl)
  rw [lg_entry_eq]
  generalize (lg_sl ([.ref (b0 + r0), .int a1]) ++ List.replicate (3 - (lg_sl ([.ref (b0 + r0), .int a1])).length) Slot.unset).toArray = ls at hl ⊢
  have hl : lv_has ls 3 [(0, .ref (b0 + r0)), (1, .int a1)] := hl
  unfold f_X8_go at hf
  refine lv_iconst (v := 0) X.1.1 X.1.2.1 dX8_go_0 (by decide) ?_
  refine lv_istore_n (lv' := [(2, .int (0 : Int32)), (0, .ref (b0 + r0)), (1, .int a1)]) X.1.1 X.1.2.1 dX8_go_1 rfl hl (by decide) rfl (fun ls hl => ?_)
  exact w_X8_go_b2 X hr hlk _ _ _ _ _ _ _ _ hf G (lv_sub hl [1, 2, 0] rfl)
/-! X8_ahead -/
abbrev rmX8_ahead : Room := { frames := 4, cells := 0, slots := 0, locals := 90 }
theorem hdV_X8_ahead : yX8_ahead.cls = RX8 ∧ yX8_ahead.cls ≠ "java/lang/invoke/MethodHandle" ∧ yX8_ahead.cls ≠ "java/lang/invoke/VarHandle" ∧ (parseMethodDescriptor yX8_ahead.desc).map (fun d => d.parameters.length) = some 2 := by decide +kernel
theorem coX8_ahead_70 : Cond.constant RX8 70 (-1000001) ∈ wsX8_ahead := by decide +kernel
theorem inX8_ahead_X8 : ∀ w ∈ wsX80, w ∈ wsX8_ahead := by decide +kernel
theorem flX8_ahead_25 : Cond.fieldLink RX8 25 (TX8 6).1 (TX8 6).2.1 (TX8 6).2.2.1 ∈ wsX8_ahead := by decide +kernel
set_option maxHeartbeats 4000000 in
set_option maxRecDepth 100000 in
theorem m_X8_ahead (l : Launch) (D : va_G) (dA : Nat → ClassId) (b0 : Nat) (r0 : Nat) (a1 : Int32) (a2 : Int32) (h : zH) (z : Int32 × zH) (hf : f_X8_ahead r0 a1 a2 h = some z) : Met l yX8_ahead wsX8_ahead rmX8_ahead (zPc D dA b0 [.ref (b0 + r0), .int a1, .int a2] h) (zQ D dA b0 (some (.int z.1)) z.2) 0 0 (zA b0) := by
  refine Met.ofW (cc := cX8_ahead) (maxL := 3) (ret := (some .int)) (by decide) rfl ?_
  intro p e s m args below meth c s₁ B hml hv
  obtain ⟨rfl, hP, hz, hK, hN⟩ := hv
  have hr := B.returns
  have hlk := B.notSynchronized
  have X : zX p s m _ c cX8_ahead 3 RX8 wsX8_ahead D dA := ⟨⟨B.exec, B.bytes, hml, findClass_of_methodNamed B.named, atoms_spec (ws := wsX8_ahead) B.pre⟩, hK, hN⟩
  have G : zG D dA b0 s.heap h s.heap [] := ⟨hP, hz, va_S.rf⟩
  have hl := lv_entry ([.ref (b0 + r0), .int a1, .int a2]) (n := 3) (Nat.le_of_ble_eq_true rfl)
  rw [lg_entry_eq]
  generalize (lg_sl ([.ref (b0 + r0), .int a1, .int a2]) ++ List.replicate (3 - (lg_sl ([.ref (b0 + r0), .int a1, .int a2])).length) Slot.unset).toArray = ls at hl ⊢
  have hl : lv_has ls 3 [(0, .ref (b0 + r0)), (1, .int a1), (2, .int a2)] := hl
  unfold f_X8_ahead at hf
  refine lv_aload_n X.1.1 X.1.2.1 dX8_ahead_0 rfl (lv_at hl 0 rfl) ?_
  refine lv_iload_n X.1.1 X.1.2.1 dX8_ahead_1 rfl (lv_at hl 1 rfl) ?_
  obtain ⟨hk, hf⟩ := zck hf
  obtain ⟨q1, eq1, hf⟩ := Option.bind_eq_some_iff.mp hf
  refine zcV0 (As := [.int a1]) (rest := []) (v := (some (.int q1))) (h' := h) X G (rfl : vwCl[8]? = some (RX8, TX8, 24)) hk (m_X8_isThing l D dA b0 r0 a1 h q1 eq1) (cwV 1 X.1.2.2.2.2 gX8_ahead_X8_isThing rfl rfl rfl hdV_X8_isThing ⟨(Nat.le_of_ble_eq_true rfl), (Nat.le_of_ble_eq_true rfl)⟩) rfl hl.1 rfl (Nat.le_of_ble_eq_true rfl) dX8_ahead_2 ⟨Nat.zero_le _, Nat.zero_le _⟩ (fun H locs G => ?_)
  refine zif_eq (tgt := 15) X dX8_ahead_5 (by decide) hf (fun hf => ?_) (fun hf => ?_)
  · refine lv_ldc (v := -1000001) X.1.1 X.1.2.1 X.1.2.2.2.1 (X.1.2.2.2.2 _ coX8_ahead_70) dX8_ahead_15 ?_
    exact zretI X hr hlk G hf dX8_ahead_17
  · refine lv_iload_n X.1.1 X.1.2.1 dX8_ahead_8 rfl (lv_at hl 2 rfl) ?_
    obtain ⟨q2, eq2, hf⟩ := Option.bind_eq_some_iff.mp hf
    refine zcS0 (As := [.int a2]) (rest := []) (v := (some (.int q2))) (h' := h) X G (m_X8_isSpan l D dA b0 a2 h q2 eq2) (va_cwS 1 X.1.2.2.2.2 gX8_ahead_X8_isSpan rfl rfl rfl hdS_X8_isSpan ⟨(Nat.le_of_ble_eq_true rfl), (Nat.le_of_ble_eq_true rfl)⟩) rfl hl.1 rfl (Nat.le_of_ble_eq_true rfl) dX8_ahead_9 ⟨Nat.zero_le _, Nat.zero_le _⟩ (fun H locs G => ?_)
    refine zif_ne (tgt := 18) X dX8_ahead_12 (by decide) hf (fun hf => ?_) (fun hf => ?_)
    · refine lv_aload_n X.1.1 X.1.2.1 dX8_ahead_18 rfl (lv_at hl 0 rfl) ?_
      obtain ⟨hk, hf⟩ := zck hf
      obtain ⟨q3, eq3, hf⟩ := Option.bind_eq_some_iff.mp hf
      refine zcV0 (As := []) (rest := []) (v := none) (h' := q3) X G (rfl : vwCl[8]? = some (RX8, TX8, 24)) hk (m_X8_layAside l D dA b0 r0 h q3 eq3) (cwV 0 X.1.2.2.2.2 gX8_ahead_X8_layAside rfl rfl rfl hdV_X8_layAside ⟨(Nat.le_of_ble_eq_true rfl), (Nat.le_of_ble_eq_true rfl)⟩) rfl hl.1 rfl (Nat.le_of_ble_eq_true rfl) dX8_ahead_19 ⟨Nat.zero_le _, Nat.zero_le _⟩ (fun H locs G => ?_)
      refine lv_aload_n X.1.1 X.1.2.1 dX8_ahead_22 rfl (lv_at hl 0 rfl) ?_
      refine lv_iload_n X.1.1 X.1.2.1 dX8_ahead_23 rfl (lv_at hl 2 rfl) ?_
      obtain ⟨hk, hf⟩ := zck hf
      obtain ⟨q4, eq4, hf⟩ := Option.bind_eq_some_iff.mp hf
      refine zcV0 (As := [.int a2]) (rest := []) (v := none) (h' := q4) X G (rfl : vwCl[8]? = some (RX8, TX8, 24)) hk (m_X8_go l D dA b0 r0 a2 q3 q4 eq4) (cwV 1 X.1.2.2.2.2 gX8_ahead_X8_go rfl rfl rfl hdV_X8_go ⟨(Nat.le_of_ble_eq_true rfl), (Nat.le_of_ble_eq_true rfl)⟩) rfl hl.1 rfl (Nat.le_of_ble_eq_true rfl) dX8_ahead_24 ⟨Nat.zero_le _, Nat.zero_le _⟩ (fun H locs G => ?_)
      refine lv_aload_n X.1.1 X.1.2.1 dX8_ahead_27 rfl (lv_at hl 0 rfl) ?_
      refine zgetR (ci := 8) (k := 6) (C := RX8) (T := TX8) (N := 24) X G rfl inX8_ahead_X8 (Nat.le_of_ble_eq_true rfl) flX8_ahead_25 dX8_ahead_28 hf (fun v5 hf => ?_)
      refine lv_bipush (v := 13) X.1.1 X.1.2.1 dX8_ahead_31 (by decide) ?_
      refine lv_iload_n X.1.1 X.1.2.1 dX8_ahead_33 rfl (lv_at hl 1 rfl) ?_
      refine lv_iadd X.1.1 X.1.2.1 dX8_ahead_34 ?_
      refine ziald X G dX8_ahead_35 hf (fun v6 hf => ?_)
      exact zretI X hr hlk G hf dX8_ahead_36
    · refine lv_ldc (v := -1000001) X.1.1 X.1.2.1 X.1.2.2.2.1 (X.1.2.2.2.2 _ coX8_ahead_70) dX8_ahead_15 ?_
      exact zretI X hr hlk G hf dX8_ahead_17
/-! X8_up -/
abbrev rmX8_up : Room := { frames := 4, cells := 0, slots := 0, locals := 90 }
theorem hdV_X8_up : yX8_up.cls = RX8 ∧ yX8_up.cls ≠ "java/lang/invoke/MethodHandle" ∧ yX8_up.cls ≠ "java/lang/invoke/VarHandle" ∧ (parseMethodDescriptor yX8_up.desc).map (fun d => d.parameters.length) = some 1 := by decide +kernel
theorem inX8_up_X8 : ∀ w ∈ wsX80, w ∈ wsX8_up := by decide +kernel
theorem flX8_up_25 : Cond.fieldLink RX8 25 (TX8 6).1 (TX8 6).2.1 (TX8 6).2.2.1 ∈ wsX8_up := by decide +kernel
theorem coX8_up_70 : Cond.constant RX8 70 (-1000001) ∈ wsX8_up := by decide +kernel
theorem coX8_up_163 : Cond.constant RX8 163 (-1000002) ∈ wsX8_up := by decide +kernel
set_option maxHeartbeats 4000000 in
set_option maxRecDepth 100000 in
theorem m_X8_up (l : Launch) (D : va_G) (dA : Nat → ClassId) (b0 : Nat) (r0 : Nat) (a1 : Int32) (h : zH) (z : Int32 × zH) (hf : f_X8_up r0 a1 h = some z) : Met l yX8_up wsX8_up rmX8_up (zPc D dA b0 [.ref (b0 + r0), .int a1] h) (zQ D dA b0 (some (.int z.1)) z.2) 0 0 (zA b0) := by
  refine Met.ofW (cc := cX8_up) (maxL := 2) (ret := (some .int)) (by decide) rfl ?_
  intro p e s m args below meth c s₁ B hml hv
  obtain ⟨rfl, hP, hz, hK, hN⟩ := hv
  have hr := B.returns
  have hlk := B.notSynchronized
  have X : zX p s m _ c cX8_up 2 RX8 wsX8_up D dA := ⟨⟨B.exec, B.bytes, hml, findClass_of_methodNamed B.named, atoms_spec (ws := wsX8_up) B.pre⟩, hK, hN⟩
  have G : zG D dA b0 s.heap h s.heap [] := ⟨hP, hz, va_S.rf⟩
  have hl := lv_entry ([.ref (b0 + r0), .int a1]) (n := 2) (Nat.le_of_ble_eq_true rfl)
  rw [lg_entry_eq]
  generalize (lg_sl ([.ref (b0 + r0), .int a1]) ++ List.replicate (2 - (lg_sl ([.ref (b0 + r0), .int a1])).length) Slot.unset).toArray = ls at hl ⊢
  have hl : lv_has ls 2 [(0, .ref (b0 + r0)), (1, .int a1)] := hl
  unfold f_X8_up at hf
  refine lv_aload_n X.1.1 X.1.2.1 dX8_up_0 rfl (lv_at hl 0 rfl) ?_
  obtain ⟨hk, hf⟩ := zck hf
  obtain ⟨q1, eq1, hf⟩ := Option.bind_eq_some_iff.mp hf
  refine zcV0 (As := []) (rest := []) (v := (some (.int q1))) (h' := h) X G (rfl : vwCl[8]? = some (RX8, TX8, 24)) hk (m_X8_isMine l D dA b0 r0 h q1 eq1) (cwV 0 X.1.2.2.2.2 gX8_up_X8_isMine rfl rfl rfl hdV_X8_isMine ⟨(Nat.le_of_ble_eq_true rfl), (Nat.le_of_ble_eq_true rfl)⟩) rfl hl.1 rfl (Nat.le_of_ble_eq_true rfl) dX8_up_1 ⟨Nat.zero_le _, Nat.zero_le _⟩ (fun H locs G => ?_)
  refine zif_ne (tgt := 10) X dX8_up_4 (by decide) hf (fun hf => ?_) (fun hf => ?_)
  · refine lv_iload_n X.1.1 X.1.2.1 dX8_up_10 rfl (lv_at hl 1 rfl) ?_
    obtain ⟨q2, eq2, hf⟩ := Option.bind_eq_some_iff.mp hf
    refine zcS0 (As := [.int a1]) (rest := []) (v := (some (.int q2))) (h' := h) X G (m_X8_isSpan l D dA b0 a1 h q2 eq2) (va_cwS 1 X.1.2.2.2.2 gX8_up_X8_isSpan rfl rfl rfl hdS_X8_isSpan ⟨(Nat.le_of_ble_eq_true rfl), (Nat.le_of_ble_eq_true rfl)⟩) rfl hl.1 rfl (Nat.le_of_ble_eq_true rfl) dX8_up_11 ⟨Nat.zero_le _, Nat.zero_le _⟩ (fun H locs G => ?_)
    refine zif_ne (tgt := 20) X dX8_up_14 (by decide) hf (fun hf => ?_) (fun hf => ?_)
    · refine lv_aload_n X.1.1 X.1.2.1 dX8_up_20 rfl (lv_at hl 0 rfl) ?_
      obtain ⟨hk, hf⟩ := zck hf
      obtain ⟨q3, eq3, hf⟩ := Option.bind_eq_some_iff.mp hf
      refine zcV0 (As := []) (rest := []) (v := none) (h' := q3) X G (rfl : vwCl[8]? = some (RX8, TX8, 24)) hk (m_X8_layAside l D dA b0 r0 h q3 eq3) (cwV 0 X.1.2.2.2.2 gX8_up_X8_layAside rfl rfl rfl hdV_X8_layAside ⟨(Nat.le_of_ble_eq_true rfl), (Nat.le_of_ble_eq_true rfl)⟩) rfl hl.1 rfl (Nat.le_of_ble_eq_true rfl) dX8_up_21 ⟨Nat.zero_le _, Nat.zero_le _⟩ (fun H locs G => ?_)
      refine lv_aload_n X.1.1 X.1.2.1 dX8_up_24 rfl (lv_at hl 0 rfl) ?_
      refine lv_iload_n X.1.1 X.1.2.1 dX8_up_25 rfl (lv_at hl 1 rfl) ?_
      obtain ⟨hk, hf⟩ := zck hf
      obtain ⟨q4, eq4, hf⟩ := Option.bind_eq_some_iff.mp hf
      refine zcV0 (As := [.int a1]) (rest := []) (v := none) (h' := q4) X G (rfl : vwCl[8]? = some (RX8, TX8, 24)) hk (m_X8_go l D dA b0 r0 a1 q3 q4 eq4) (cwV 1 X.1.2.2.2.2 gX8_up_X8_go rfl rfl rfl hdV_X8_go ⟨(Nat.le_of_ble_eq_true rfl), (Nat.le_of_ble_eq_true rfl)⟩) rfl hl.1 rfl (Nat.le_of_ble_eq_true rfl) dX8_up_26 ⟨Nat.zero_le _, Nat.zero_le _⟩ (fun H locs G => ?_)
      refine lv_aload_n X.1.1 X.1.2.1 dX8_up_29 rfl (lv_at hl 0 rfl) ?_
      refine zgetR (ci := 8) (k := 6) (C := RX8) (T := TX8) (N := 24) X G rfl inX8_up_X8 (Nat.le_of_ble_eq_true rfl) flX8_up_25 dX8_up_30 hf (fun v5 hf => ?_)
      obtain ⟨q6, eq6, hf⟩ := Option.bind_eq_some_iff.mp hf
      refine zcS0 (As := [.ref (b0 + v5)]) (rest := []) (v := (some (.int q6))) (h' := q4) X G (m_X8_upOf l D dA b0 v5 q4 q6 eq6) (va_cwS 1 X.1.2.2.2.2 gX8_up_X8_upOf rfl rfl rfl hdS_X8_upOf ⟨(Nat.le_of_ble_eq_true rfl), (Nat.le_of_ble_eq_true rfl)⟩) rfl hl.1 rfl (Nat.le_of_ble_eq_true rfl) dX8_up_33 ⟨Nat.zero_le _, Nat.zero_le _⟩ (fun H locs G => ?_)
      exact zretI X hr hlk G hf dX8_up_36
    · refine lv_ldc (v := -1000001) X.1.1 X.1.2.1 X.1.2.2.2.1 (X.1.2.2.2.2 _ coX8_up_70) dX8_up_17 ?_
      exact zretI X hr hlk G hf dX8_up_19
  · refine lv_ldc (v := -1000002) X.1.1 X.1.2.1 X.1.2.2.2.1 (X.1.2.2.2.2 _ coX8_up_163) dX8_up_7 ?_
    exact zretI X hr hlk G hf dX8_up_9
/-! X8_comesUp -/
abbrev rmX8_comesUp : Room := { frames := 4, cells := 0, slots := 0, locals := 90 }
theorem hdV_X8_comesUp : yX8_comesUp.cls = RX8 ∧ yX8_comesUp.cls ≠ "java/lang/invoke/MethodHandle" ∧ yX8_comesUp.cls ≠ "java/lang/invoke/VarHandle" ∧ (parseMethodDescriptor yX8_comesUp.desc).map (fun d => d.parameters.length) = some 1 := by decide +kernel
theorem coX8_comesUp_157 : Cond.constant RX8 157 (-1000000) ∈ wsX8_comesUp := by decide +kernel
theorem inX8_comesUp_X8 : ∀ w ∈ wsX80, w ∈ wsX8_comesUp := by decide +kernel
theorem flX8_comesUp_25 : Cond.fieldLink RX8 25 (TX8 6).1 (TX8 6).2.1 (TX8 6).2.2.1 ∈ wsX8_comesUp := by decide +kernel
theorem coX8_comesUp_70 : Cond.constant RX8 70 (-1000001) ∈ wsX8_comesUp := by decide +kernel
set_option maxHeartbeats 4000000 in
set_option maxRecDepth 100000 in
theorem w_X8_comesUp_b17 {p : Program} {l : Launch} {e : Env} {s : State} {m : MethodId} {args : Array Value} {below : List Frame} {meth : Method} {c : Code} {D : va_G} {dA : Nat → ClassId} {b0 : Nat} (X : zX p s m args c cX8_comesUp 3 RX8 wsX8_comesUp D dA) (hr : meth.sig.returnType = (some .int)) (hlk : meth.locks = false) {z : Int32 × zH} : ∀ (n : Nat), ∀ (r0 : Nat) (a1 : Int32) (a2 : Int32) (h : zH) (H : Heap) (locs : List Loc) (ls : Array Slot), f_X8_comesUp_b17 n r0 a1 a2 h = some z → zG D dA b0 s.heap h H locs → lv_has ls 3 [(0, .ref (b0 + r0)), (1, .int a1), (2, .int a2)] → W p l e rmX8_comesUp s m args below meth c H locs 0 0 (MQ below (zQ D dA b0 (some (.int z.1)) z.2) args s 0 0 (zA b0)) (F0 m 17 ls []) := by
  intro n
  induction n with
  | zero =>
    intro r0 a1 a2 h H locs ls hf
    cases hf
  | succ n ih =>
    intro r0 a1 a2 h H locs ls hf G hl
    rw [f_X8_comesUp_b17] at hf
    refine lv_iload_n X.1.1 X.1.2.1 dX8_comesUp_17 rfl (lv_at hl 2 rfl) ?_
    refine lv_bipush (v := 100) X.1.1 X.1.2.1 dX8_comesUp_18 (by decide) ?_
    refine zic_ge (tgt := 47) X dX8_comesUp_20 (by decide) hf (fun hf => ?_) (fun hf => ?_)
    · refine lv_ldc (v := -1000000) X.1.1 X.1.2.1 X.1.2.2.2.1 (X.1.2.2.2.2 _ coX8_comesUp_157) dX8_comesUp_47 ?_
      exact zretI X hr hlk G hf dX8_comesUp_49
    · refine lv_aload_n X.1.1 X.1.2.1 dX8_comesUp_23 rfl (lv_at hl 0 rfl) ?_
      refine zgetR (ci := 8) (k := 6) (C := RX8) (T := TX8) (N := 24) X G rfl inX8_comesUp_X8 (Nat.le_of_ble_eq_true rfl) flX8_comesUp_25 dX8_comesUp_24 hf (fun v1 hf => ?_)
      refine lv_iload_n X.1.1 X.1.2.1 dX8_comesUp_27 rfl (lv_at hl 1 rfl) ?_
      obtain ⟨q2, eq2, hf⟩ := Option.bind_eq_some_iff.mp hf
      refine zcS0 (As := [.ref (b0 + v1), .int a1]) (rest := []) (v := (some (.int q2))) (h' := h) X G (m_X8_lies l D dA b0 v1 a1 h q2 eq2) (va_cwS 2 X.1.2.2.2.2 gX8_comesUp_X8_lies rfl rfl rfl hdS_X8_lies ⟨(Nat.le_of_ble_eq_true rfl), (Nat.le_of_ble_eq_true rfl)⟩) rfl hl.1 rfl (Nat.le_of_ble_eq_true rfl) dX8_comesUp_28 ⟨Nat.zero_le _, Nat.zero_le _⟩ (fun H locs G => ?_)
      refine zif_ne (tgt := 36) X dX8_comesUp_31 (by decide) hf (fun hf => ?_) (fun hf => ?_)
      · refine lv_aload_n X.1.1 X.1.2.1 dX8_comesUp_36 rfl (lv_at hl 0 rfl) ?_
        refine lv_iconst (v := 1) X.1.1 X.1.2.1 dX8_comesUp_37 (by decide) ?_
        obtain ⟨hk, hf⟩ := zck hf
        obtain ⟨q3, eq3, hf⟩ := Option.bind_eq_some_iff.mp hf
        refine zcV0 (As := [.int (1 : Int32)]) (rest := []) (v := none) (h' := q3) X G (rfl : vwCl[8]? = some (RX8, TX8, 24)) hk (m_X8_go l D dA b0 r0 (1 : Int32) h q3 eq3) (cwV 1 X.1.2.2.2.2 gX8_comesUp_X8_go rfl rfl rfl hdV_X8_go ⟨(Nat.le_of_ble_eq_true rfl), (Nat.le_of_ble_eq_true rfl)⟩) rfl hl.1 rfl (Nat.le_of_ble_eq_true rfl) dX8_comesUp_38 ⟨Nat.zero_le _, Nat.zero_le _⟩ (fun H locs G => ?_)
        refine lv_iinc (v := (a2 + (1 : Int32))) (lv' := [(2, .int (a2 + (1 : Int32))), (0, .ref (b0 + r0)), (1, .int a1)]) X.1.1 X.1.2.1 dX8_comesUp_41 hl (k := 2) rfl rfl (by decide) rfl (fun ls hl => ?_)
        refine lv_goto (tgt := 17) X.1.1 X.1.2.1 dX8_comesUp_44 (by decide) ?_
        exact ih _ _ _ _ _ _ _ hf G (lv_sub hl [1, 2, 0] rfl)
      · refine lv_iload_n X.1.1 X.1.2.1 dX8_comesUp_34 rfl (lv_at hl 2 rfl) ?_
        exact zretI X hr hlk G hf dX8_comesUp_35
set_option maxHeartbeats 4000000 in
set_option maxRecDepth 100000 in
theorem m_X8_comesUp (l : Launch) (D : va_G) (dA : Nat → ClassId) (b0 : Nat) (r0 : Nat) (a1 : Int32) (h : zH) (z : Int32 × zH) (hf : f_X8_comesUp r0 a1 h = some z) : Met l yX8_comesUp wsX8_comesUp rmX8_comesUp (zPc D dA b0 [.ref (b0 + r0), .int a1] h) (zQ D dA b0 (some (.int z.1)) z.2) 0 0 (zA b0) := by
  refine Met.ofW (cc := cX8_comesUp) (maxL := 3) (ret := (some .int)) (by decide) rfl ?_
  intro p e s m args below meth c s₁ B hml hv
  obtain ⟨rfl, hP, hz, hK, hN⟩ := hv
  have hr := B.returns
  have hlk := B.notSynchronized
  have X : zX p s m _ c cX8_comesUp 3 RX8 wsX8_comesUp D dA := ⟨⟨B.exec, B.bytes, hml, findClass_of_methodNamed B.named, atoms_spec (ws := wsX8_comesUp) B.pre⟩, hK, hN⟩
  have G : zG D dA b0 s.heap h s.heap [] := ⟨hP, hz, va_S.rf⟩
  have hl := lv_entry ([.ref (b0 + r0), .int a1]) (n := 3) (Nat.le_of_ble_eq_true rfl)
  rw [lg_entry_eq]
  generalize (lg_sl ([.ref (b0 + r0), .int a1]) ++ List.replicate (3 - (lg_sl ([.ref (b0 + r0), .int a1])).length) Slot.unset).toArray = ls at hl ⊢
  have hl : lv_has ls 3 [(0, .ref (b0 + r0)), (1, .int a1)] := hl
  unfold f_X8_comesUp at hf
  refine lv_aload_n X.1.1 X.1.2.1 dX8_comesUp_0 rfl (lv_at hl 0 rfl) ?_
  refine lv_iload_n X.1.1 X.1.2.1 dX8_comesUp_1 rfl (lv_at hl 1 rfl) ?_
  obtain ⟨hk, hf⟩ := zck hf
  obtain ⟨q1, eq1, hf⟩ := Option.bind_eq_some_iff.mp hf
  refine zcV0 (As := [.int a1]) (rest := []) (v := (some (.int q1))) (h' := h) X G (rfl : vwCl[8]? = some (RX8, TX8, 24)) hk (m_X8_isThing l D dA b0 r0 a1 h q1 eq1) (cwV 1 X.1.2.2.2.2 gX8_comesUp_X8_isThing rfl rfl rfl hdV_X8_isThing ⟨(Nat.le_of_ble_eq_true rfl), (Nat.le_of_ble_eq_true rfl)⟩) rfl hl.1 rfl (Nat.le_of_ble_eq_true rfl) dX8_comesUp_2 ⟨Nat.zero_le _, Nat.zero_le _⟩ (fun H locs G => ?_)
  refine zif_ne (tgt := 11) X dX8_comesUp_5 (by decide) hf (fun hf => ?_) (fun hf => ?_)
  · refine lv_aload_n X.1.1 X.1.2.1 dX8_comesUp_11 rfl (lv_at hl 0 rfl) ?_
    obtain ⟨hk, hf⟩ := zck hf
    obtain ⟨q2, eq2, hf⟩ := Option.bind_eq_some_iff.mp hf
    refine zcV0 (As := []) (rest := []) (v := none) (h' := q2) X G (rfl : vwCl[8]? = some (RX8, TX8, 24)) hk (m_X8_layAside l D dA b0 r0 h q2 eq2) (cwV 0 X.1.2.2.2.2 gX8_comesUp_X8_layAside rfl rfl rfl hdV_X8_layAside ⟨(Nat.le_of_ble_eq_true rfl), (Nat.le_of_ble_eq_true rfl)⟩) rfl hl.1 rfl (Nat.le_of_ble_eq_true rfl) dX8_comesUp_12 ⟨Nat.zero_le _, Nat.zero_le _⟩ (fun H locs G => ?_)
    refine lv_iconst (v := 0) X.1.1 X.1.2.1 dX8_comesUp_15 (by decide) ?_
    refine lv_istore_n (lv' := [(2, .int (0 : Int32)), (0, .ref (b0 + r0)), (1, .int a1)]) X.1.1 X.1.2.1 dX8_comesUp_16 rfl hl (by decide) rfl (fun ls hl => ?_)
    exact w_X8_comesUp_b17 X hr hlk _ _ _ _ _ _ _ _ hf G (lv_sub hl [1, 2, 0] rfl)
  · refine lv_ldc (v := -1000001) X.1.1 X.1.2.1 X.1.2.2.2.1 (X.1.2.2.2.2 _ coX8_comesUp_70) dX8_comesUp_8 ?_
    exact zretI X hr hlk G hf dX8_comesUp_10
/-! X8_first -/
abbrev rmX8_first : Room := { frames := 4, cells := 0, slots := 0, locals := 90 }
theorem hdV_X8_first : yX8_first.cls = RX8 ∧ yX8_first.cls ≠ "java/lang/invoke/MethodHandle" ∧ yX8_first.cls ≠ "java/lang/invoke/VarHandle" ∧ (parseMethodDescriptor yX8_first.desc).map (fun d => d.parameters.length) = some 1 := by decide +kernel
theorem coX8_first_157 : Cond.constant RX8 157 (-1000000) ∈ wsX8_first := by decide +kernel
theorem inX8_first_X8 : ∀ w ∈ wsX80, w ∈ wsX8_first := by decide +kernel
theorem flX8_first_25 : Cond.fieldLink RX8 25 (TX8 6).1 (TX8 6).2.1 (TX8 6).2.2.1 ∈ wsX8_first := by decide +kernel
theorem flX8_first_19 : Cond.fieldLink RX8 19 (TX8 4).1 (TX8 4).2.1 (TX8 4).2.2.1 ∈ wsX8_first := by decide +kernel
theorem coX8_first_70 : Cond.constant RX8 70 (-1000001) ∈ wsX8_first := by decide +kernel
theorem coX8_first_163 : Cond.constant RX8 163 (-1000002) ∈ wsX8_first := by decide +kernel
set_option maxHeartbeats 4000000 in
set_option maxRecDepth 100000 in
theorem w_X8_first_b61 {p : Program} {l : Launch} {e : Env} {s : State} {m : MethodId} {args : Array Value} {below : List Frame} {meth : Method} {c : Code} {D : va_G} {dA : Nat → ClassId} {b0 : Nat} (X : zX p s m args c cX8_first 6 RX8 wsX8_first D dA) (hr : meth.sig.returnType = (some .int)) (hlk : meth.locks = false) {z : Int32 × zH} (k34 : Nat → Int32 → Int32 → Int32 → zH → Option (Int32 × zH)) (hk34 : ∀ (r0 : Nat) (a1 : Int32) (a2 : Int32) (a3 : Int32) (h : zH) (H : Heap) (locs : List Loc) (ls : Array Slot), k34 r0 a1 a2 a3 h = some z → zG D dA b0 s.heap h H locs → lv_has ls 6 [(0, .ref (b0 + r0)), (1, .int a1), (2, .int a2), (3, .int a3)] → W p l e rmX8_first s m args below meth c H locs 0 0 (MQ below (zQ D dA b0 (some (.int z.1)) z.2) args s 0 0 (zA b0)) (F0 m 34 ls [])) : ∀ (n : Nat), ∀ (r0 : Nat) (a1 : Int32) (a2 : Int32) (a3 : Int32) (a4 : Int32) (a5 : Int32) (h : zH) (H : Heap) (locs : List Loc) (ls : Array Slot), f_X8_first_b61 k34 n r0 a1 a2 a3 a4 a5 h = some z → zG D dA b0 s.heap h H locs → lv_has ls 6 [(0, .ref (b0 + r0)), (1, .int a1), (2, .int a2), (3, .int a3), (4, .int a4), (5, .int a5)] → W p l e rmX8_first s m args below meth c H locs 0 0 (MQ below (zQ D dA b0 (some (.int z.1)) z.2) args s 0 0 (zA b0)) (F0 m 61 ls []) := by
  intro n
  induction n with
  | zero =>
    intro r0 a1 a2 a3 a4 a5 h H locs ls hf
    cases hf
  | succ n ih =>
    intro r0 a1 a2 a3 a4 a5 h H locs ls hf G hl
    rw [f_X8_first_b61] at hf
    refine lv_iload X.1.1 X.1.2.1 dX8_first_61 (lv_at hl 5 rfl) ?_
    refine lv_iconst (v := 5) X.1.1 X.1.2.1 dX8_first_63 (by decide) ?_
    refine zic_ge (tgt := 94) X dX8_first_64 (by decide) hf (fun hf => ?_) (fun hf => ?_)
    · refine lv_iinc (v := (a3 + (1 : Int32))) (lv' := [(3, .int (a3 + (1 : Int32))), (0, .ref (b0 + r0)), (1, .int a1), (2, .int a2), (4, .int a4), (5, .int a5)]) X.1.1 X.1.2.1 dX8_first_94 hl (k := 3) rfl rfl (by decide) rfl (fun ls hl => ?_)
      refine lv_goto (tgt := 34) X.1.1 X.1.2.1 dX8_first_97 (by decide) ?_
      exact hk34 _ _ _ _ _ _ _ _ hf G (lv_sub hl [1, 2, 3, 0] rfl)
    · refine lv_iload X.1.1 X.1.2.1 dX8_first_67 (lv_at hl 4 rfl) ?_
      refine lv_iload X.1.1 X.1.2.1 dX8_first_69 (lv_at hl 5 rfl) ?_
      obtain ⟨q1, eq1, hf⟩ := Option.bind_eq_some_iff.mp hf
      refine zcS0 (As := [.int a4, .int a5]) (rest := []) (v := (some (.int q1))) (h' := h) X G (m_X8_has l D dA b0 a4 a5 h q1 eq1) (va_cwS 2 X.1.2.2.2.2 gX8_first_X8_has rfl rfl rfl hdS_X8_has ⟨(Nat.le_of_ble_eq_true rfl), (Nat.le_of_ble_eq_true rfl)⟩) rfl hl.1 rfl (Nat.le_of_ble_eq_true rfl) dX8_first_71 ⟨Nat.zero_le _, Nat.zero_le _⟩ (fun H locs G => ?_)
      refine zif_eq (tgt := 88) X dX8_first_74 (by decide) hf (fun hf => ?_) (fun hf => ?_)
      · refine lv_iinc (v := (a5 + (1 : Int32))) (lv' := [(5, .int (a5 + (1 : Int32))), (0, .ref (b0 + r0)), (1, .int a1), (2, .int a2), (3, .int a3), (4, .int a4)]) X.1.1 X.1.2.1 dX8_first_88 hl (k := 5) rfl rfl (by decide) rfl (fun ls hl => ?_)
        refine lv_goto (tgt := 61) X.1.1 X.1.2.1 dX8_first_91 (by decide) ?_
        exact ih _ _ _ _ _ _ _ _ _ _ hf G (lv_sub hl [1, 2, 3, 4, 5, 0] rfl)
      · refine lv_iload_n X.1.1 X.1.2.1 dX8_first_77 rfl (lv_at hl 1 rfl) ?_
        refine zif_ne (tgt := 86) X dX8_first_78 (by decide) hf (fun hf => ?_) (fun hf => ?_)
        · refine lv_iload_n X.1.1 X.1.2.1 dX8_first_86 rfl (lv_at hl 3 rfl) ?_
          exact zretI X hr hlk G hf dX8_first_87
        · refine lv_iload X.1.1 X.1.2.1 dX8_first_81 (lv_at hl 5 rfl) ?_
          refine lv_goto (tgt := 87) X.1.1 X.1.2.1 dX8_first_83 (by decide) ?_
          exact zretI X hr hlk G hf dX8_first_87
set_option maxHeartbeats 4000000 in
set_option maxRecDepth 100000 in
theorem w_X8_first_b34 {p : Program} {l : Launch} {e : Env} {s : State} {m : MethodId} {args : Array Value} {below : List Frame} {meth : Method} {c : Code} {D : va_G} {dA : Nat → ClassId} {b0 : Nat} (X : zX p s m args c cX8_first 6 RX8 wsX8_first D dA) (hr : meth.sig.returnType = (some .int)) (hlk : meth.locks = false) {z : Int32 × zH} : ∀ (n : Nat), ∀ (r0 : Nat) (a1 : Int32) (a2 : Int32) (a3 : Int32) (h : zH) (H : Heap) (locs : List Loc) (ls : Array Slot), f_X8_first_b34 n r0 a1 a2 a3 h = some z → zG D dA b0 s.heap h H locs → lv_has ls 6 [(0, .ref (b0 + r0)), (1, .int a1), (2, .int a2), (3, .int a3)] → W p l e rmX8_first s m args below meth c H locs 0 0 (MQ below (zQ D dA b0 (some (.int z.1)) z.2) args s 0 0 (zA b0)) (F0 m 34 ls []) := by
  intro n
  induction n with
  | zero =>
    intro r0 a1 a2 a3 h H locs ls hf
    cases hf
  | succ n ih =>
    intro r0 a1 a2 a3 h H locs ls hf G hl
    rw [f_X8_first_b34] at hf
    refine lv_iload_n X.1.1 X.1.2.1 dX8_first_34 rfl (lv_at hl 3 rfl) ?_
    refine lv_bipush (v := 100) X.1.1 X.1.2.1 dX8_first_35 (by decide) ?_
    refine zic_ge (tgt := 100) X dX8_first_37 (by decide) hf (fun hf => ?_) (fun hf => ?_)
    · refine lv_ldc (v := -1000000) X.1.1 X.1.2.1 X.1.2.2.2.1 (X.1.2.2.2.2 _ coX8_first_157) dX8_first_100 ?_
      exact zretI X hr hlk G hf dX8_first_102
    · refine lv_aload_n X.1.1 X.1.2.1 dX8_first_40 rfl (lv_at hl 0 rfl) ?_
      refine lv_iconst (v := 1) X.1.1 X.1.2.1 dX8_first_41 (by decide) ?_
      obtain ⟨hk, hf⟩ := zck hf
      obtain ⟨q1, eq1, hf⟩ := Option.bind_eq_some_iff.mp hf
      refine zcV0 (As := [.int (1 : Int32)]) (rest := []) (v := none) (h' := q1) X G (rfl : vwCl[8]? = some (RX8, TX8, 24)) hk (m_X8_go l D dA b0 r0 (1 : Int32) h q1 eq1) (cwV 1 X.1.2.2.2.2 gX8_first_X8_go rfl rfl rfl hdV_X8_go ⟨(Nat.le_of_ble_eq_true rfl), (Nat.le_of_ble_eq_true rfl)⟩) rfl hl.1 rfl (Nat.le_of_ble_eq_true rfl) dX8_first_42 ⟨Nat.zero_le _, Nat.zero_le _⟩ (fun H locs G => ?_)
      refine lv_aload_n X.1.1 X.1.2.1 dX8_first_45 rfl (lv_at hl 0 rfl) ?_
      refine zgetR (ci := 8) (k := 6) (C := RX8) (T := TX8) (N := 24) X G rfl inX8_first_X8 (Nat.le_of_ble_eq_true rfl) flX8_first_25 dX8_first_46 hf (fun v2 hf => ?_)
      obtain ⟨q3, eq3, hf⟩ := Option.bind_eq_some_iff.mp hf
      refine zcS0 (As := [.ref (b0 + v2)]) (rest := []) (v := (some (.int q3))) (h' := q1) X G (m_X8_upOf l D dA b0 v2 q1 q3 eq3) (va_cwS 1 X.1.2.2.2.2 gX8_first_X8_upOf rfl rfl rfl hdS_X8_upOf ⟨(Nat.le_of_ble_eq_true rfl), (Nat.le_of_ble_eq_true rfl)⟩) rfl hl.1 rfl (Nat.le_of_ble_eq_true rfl) dX8_first_49 ⟨Nat.zero_le _, Nat.zero_le _⟩ (fun H locs G => ?_)
      refine lv_iload_n X.1.1 X.1.2.1 dX8_first_52 rfl (lv_at hl 2 rfl) ?_
      refine lv_iconst (v := -1) X.1.1 X.1.2.1 dX8_first_53 (by decide) ?_
      refine lv_ixor X.1.1 X.1.2.1 dX8_first_54 ?_
      refine lv_iand X.1.1 X.1.2.1 dX8_first_55 ?_
      refine zleti hf (fun x4 hf => ?_)
      refine lv_istore (lv' := [(4, .int x4), (0, .ref (b0 + r0)), (1, .int a1), (2, .int a2), (3, .int a3)]) X.1.1 X.1.2.1 dX8_first_56 hl (by decide) rfl (fun ls hl => ?_)
      refine lv_iconst (v := 0) X.1.1 X.1.2.1 dX8_first_58 (by decide) ?_
      refine lv_istore (lv' := [(5, .int (0 : Int32)), (4, .int x4), (0, .ref (b0 + r0)), (1, .int a1), (2, .int a2), (3, .int a3)]) X.1.1 X.1.2.1 dX8_first_59 hl (by decide) rfl (fun ls hl => ?_)
      exact w_X8_first_b61 X hr hlk _ ih _ _ _ _ _ _ _ _ _ _ _ hf G (lv_sub hl [2, 3, 4, 5, 1, 0] rfl)
set_option maxHeartbeats 4000000 in
set_option maxRecDepth 100000 in
theorem m_X8_first (l : Launch) (D : va_G) (dA : Nat → ClassId) (b0 : Nat) (r0 : Nat) (a1 : Int32) (h : zH) (z : Int32 × zH) (hf : f_X8_first r0 a1 h = some z) : Met l yX8_first wsX8_first rmX8_first (zPc D dA b0 [.ref (b0 + r0), .int a1] h) (zQ D dA b0 (some (.int z.1)) z.2) 0 0 (zA b0) := by
  refine Met.ofW (cc := cX8_first) (maxL := 6) (ret := (some .int)) (by decide) rfl ?_
  intro p e s m args below meth c s₁ B hml hv
  obtain ⟨rfl, hP, hz, hK, hN⟩ := hv
  have hr := B.returns
  have hlk := B.notSynchronized
  have X : zX p s m _ c cX8_first 6 RX8 wsX8_first D dA := ⟨⟨B.exec, B.bytes, hml, findClass_of_methodNamed B.named, atoms_spec (ws := wsX8_first) B.pre⟩, hK, hN⟩
  have G : zG D dA b0 s.heap h s.heap [] := ⟨hP, hz, va_S.rf⟩
  have hl := lv_entry ([.ref (b0 + r0), .int a1]) (n := 6) (Nat.le_of_ble_eq_true rfl)
  rw [lg_entry_eq]
  generalize (lg_sl ([.ref (b0 + r0), .int a1]) ++ List.replicate (6 - (lg_sl ([.ref (b0 + r0), .int a1])).length) Slot.unset).toArray = ls at hl ⊢
  have hl : lv_has ls 6 [(0, .ref (b0 + r0)), (1, .int a1)] := hl
  unfold f_X8_first at hf
  refine lv_aload_n X.1.1 X.1.2.1 dX8_first_0 rfl (lv_at hl 0 rfl) ?_
  obtain ⟨hk, hf⟩ := zck hf
  obtain ⟨q1, eq1, hf⟩ := Option.bind_eq_some_iff.mp hf
  refine zcV0 (As := []) (rest := []) (v := (some (.int q1))) (h' := h) X G (rfl : vwCl[8]? = some (RX8, TX8, 24)) hk (m_X8_isMine l D dA b0 r0 h q1 eq1) (cwV 0 X.1.2.2.2.2 gX8_first_X8_isMine rfl rfl rfl hdV_X8_isMine ⟨(Nat.le_of_ble_eq_true rfl), (Nat.le_of_ble_eq_true rfl)⟩) rfl hl.1 rfl (Nat.le_of_ble_eq_true rfl) dX8_first_1 ⟨Nat.zero_le _, Nat.zero_le _⟩ (fun H locs G => ?_)
  refine zif_ne (tgt := 10) X dX8_first_4 (by decide) hf (fun hf => ?_) (fun hf => ?_)
  · refine lv_iload_n X.1.1 X.1.2.1 dX8_first_10 rfl (lv_at hl 1 rfl) ?_
    obtain ⟨q2, eq2, hf⟩ := Option.bind_eq_some_iff.mp hf
    refine zcS0 (As := [.int a1]) (rest := []) (v := (some (.int q2))) (h' := h) X G (m_X8_isTwo l D dA b0 a1 h q2 eq2) (va_cwS 1 X.1.2.2.2.2 gX8_first_X8_isTwo rfl rfl rfl hdS_X8_isTwo ⟨(Nat.le_of_ble_eq_true rfl), (Nat.le_of_ble_eq_true rfl)⟩) rfl hl.1 rfl (Nat.le_of_ble_eq_true rfl) dX8_first_11 ⟨Nat.zero_le _, Nat.zero_le _⟩ (fun H locs G => ?_)
    refine zif_ne (tgt := 20) X dX8_first_14 (by decide) hf (fun hf => ?_) (fun hf => ?_)
    · refine lv_aload_n X.1.1 X.1.2.1 dX8_first_20 rfl (lv_at hl 0 rfl) ?_
      refine zgetR (ci := 8) (k := 4) (C := RX8) (T := TX8) (N := 24) X G rfl inX8_first_X8 (Nat.le_of_ble_eq_true rfl) flX8_first_19 dX8_first_21 hf (fun v3 hf => ?_)
      obtain ⟨q4, eq4, hf⟩ := Option.bind_eq_some_iff.mp hf
      refine zcS0 (As := [.ref (b0 + v3)]) (rest := []) (v := (some (.int q4))) (h' := h) X G (m_X8_upOf l D dA b0 v3 h q4 eq4) (va_cwS 1 X.1.2.2.2.2 gX8_first_X8_upOf rfl rfl rfl hdS_X8_upOf ⟨(Nat.le_of_ble_eq_true rfl), (Nat.le_of_ble_eq_true rfl)⟩) rfl hl.1 rfl (Nat.le_of_ble_eq_true rfl) dX8_first_24 ⟨Nat.zero_le _, Nat.zero_le _⟩ (fun H locs G => ?_)
      refine lv_istore_n (lv' := [(2, .int q4), (0, .ref (b0 + r0)), (1, .int a1)]) X.1.1 X.1.2.1 dX8_first_27 rfl hl (by decide) rfl (fun ls hl => ?_)
      refine lv_aload_n X.1.1 X.1.2.1 dX8_first_28 rfl (lv_at hl 1 rfl) ?_
      obtain ⟨hk, hf⟩ := zck hf
      obtain ⟨q5, eq5, hf⟩ := Option.bind_eq_some_iff.mp hf
      refine zcV0 (As := []) (rest := []) (v := none) (h' := q5) X G (rfl : vwCl[8]? = some (RX8, TX8, 24)) hk (m_X8_layAside l D dA b0 r0 h q5 eq5) (cwV 0 X.1.2.2.2.2 gX8_first_X8_layAside rfl rfl rfl hdV_X8_layAside ⟨(Nat.le_of_ble_eq_true rfl), (Nat.le_of_ble_eq_true rfl)⟩) rfl hl.1 rfl (Nat.le_of_ble_eq_true rfl) dX8_first_29 ⟨Nat.zero_le _, Nat.zero_le _⟩ (fun H locs G => ?_)
      refine lv_iconst (v := 1) X.1.1 X.1.2.1 dX8_first_32 (by decide) ?_
      refine lv_istore_n (lv' := [(3, .int (1 : Int32)), (2, .int q4), (0, .ref (b0 + r0)), (1, .int a1)]) X.1.1 X.1.2.1 dX8_first_33 rfl hl (by decide) rfl (fun ls hl => ?_)
      exact w_X8_first_b34 X hr hlk _ _ _ _ _ _ _ _ _ hf G (lv_sub hl [2, 3, 1, 0] rfl)
    · refine lv_ldc (v := -1000001) X.1.1 X.1.2.1 X.1.2.2.2.1 (X.1.2.2.2.2 _ coX8_first_70) dX8_first_17 ?_
      exact zretI X hr hlk G hf dX8_first_19
  · refine lv_ldc (v := -1000002) X.1.1 X.1.2.1 X.1.2.2.2.1 (X.1.2.2.2.2 _ coX8_first_163) dX8_first_7 ?_
    exact zretI X hr hlk G hf dX8_first_9
/-! X8_trouble -/
abbrev rmX8_trouble : Room := { frames := 4, cells := 0, slots := 0, locals := 90 }
theorem hdV_X8_trouble : yX8_trouble.cls = RX8 ∧ yX8_trouble.cls ≠ "java/lang/invoke/MethodHandle" ∧ yX8_trouble.cls ≠ "java/lang/invoke/VarHandle" ∧ (parseMethodDescriptor yX8_trouble.desc).map (fun d => d.parameters.length) = some 1 := by decide +kernel
theorem coX8_trouble_157 : Cond.constant RX8 157 (-1000000) ∈ wsX8_trouble := by decide +kernel
theorem inX8_trouble_X8 : ∀ w ∈ wsX80, w ∈ wsX8_trouble := by decide +kernel
theorem flX8_trouble_25 : Cond.fieldLink RX8 25 (TX8 6).1 (TX8 6).2.1 (TX8 6).2.2.1 ∈ wsX8_trouble := by decide +kernel
theorem coX8_trouble_70 : Cond.constant RX8 70 (-1000001) ∈ wsX8_trouble := by decide +kernel
theorem coX8_trouble_163 : Cond.constant RX8 163 (-1000002) ∈ wsX8_trouble := by decide +kernel
set_option maxHeartbeats 4000000 in
set_option maxRecDepth 100000 in
theorem w_X8_trouble_b26 {p : Program} {l : Launch} {e : Env} {s : State} {m : MethodId} {args : Array Value} {below : List Frame} {meth : Method} {c : Code} {D : va_G} {dA : Nat → ClassId} {b0 : Nat} (X : zX p s m args c cX8_trouble 4 RX8 wsX8_trouble D dA) (hr : meth.sig.returnType = (some .int)) (hlk : meth.locks = false) {z : Int32 × zH} : ∀ (n : Nat), ∀ (r0 : Nat) (a1 : Int32) (a2 : Int32) (h : zH) (H : Heap) (locs : List Loc) (ls : Array Slot), f_X8_trouble_b26 n r0 a1 a2 h = some z → zG D dA b0 s.heap h H locs → lv_has ls 4 [(0, .ref (b0 + r0)), (1, .int a1), (2, .int a2)] → W p l e rmX8_trouble s m args below meth c H locs 0 0 (MQ below (zQ D dA b0 (some (.int z.1)) z.2) args s 0 0 (zA b0)) (F0 m 26 ls []) := by
  intro n
  induction n with
  | zero =>
    intro r0 a1 a2 h H locs ls hf
    cases hf
  | succ n ih =>
    intro r0 a1 a2 h H locs ls hf G hl
    rw [f_X8_trouble_b26] at hf
    refine lv_iload_n X.1.1 X.1.2.1 dX8_trouble_26 rfl (lv_at hl 2 rfl) ?_
    refine lv_bipush (v := 100) X.1.1 X.1.2.1 dX8_trouble_27 (by decide) ?_
    refine zic_ge (tgt := 67) X dX8_trouble_29 (by decide) hf (fun hf => ?_) (fun hf => ?_)
    · refine lv_ldc (v := -1000000) X.1.1 X.1.2.1 X.1.2.2.2.1 (X.1.2.2.2.2 _ coX8_trouble_157) dX8_trouble_67 ?_
      exact zretI X hr hlk G hf dX8_trouble_69
    · refine lv_aload_n X.1.1 X.1.2.1 dX8_trouble_32 rfl (lv_at hl 0 rfl) ?_
      refine zgetR (ci := 8) (k := 6) (C := RX8) (T := TX8) (N := 24) X G rfl inX8_trouble_X8 (Nat.le_of_ble_eq_true rfl) flX8_trouble_25 dX8_trouble_33 hf (fun v1 hf => ?_)
      obtain ⟨q2, eq2, hf⟩ := Option.bind_eq_some_iff.mp hf
      refine zcS0 (As := [.ref (b0 + v1)]) (rest := []) (v := (some (.int q2))) (h' := h) X G (m_X8_twoOf l D dA b0 v1 h q2 eq2) (va_cwS 1 X.1.2.2.2.2 gX8_trouble_X8_twoOf rfl rfl rfl hdS_X8_twoOf ⟨(Nat.le_of_ble_eq_true rfl), (Nat.le_of_ble_eq_true rfl)⟩) rfl hl.1 rfl (Nat.le_of_ble_eq_true rfl) dX8_trouble_36 ⟨Nat.zero_le _, Nat.zero_le _⟩ (fun H locs G => ?_)
      refine lv_istore_n (lv' := [(3, .int q2), (0, .ref (b0 + r0)), (1, .int a1), (2, .int a2)]) X.1.1 X.1.2.1 dX8_trouble_39 rfl hl (by decide) rfl (fun ls hl => ?_)
      refine lv_iload_n X.1.1 X.1.2.1 dX8_trouble_40 rfl (lv_at hl 0 rfl) ?_
      refine lv_ldc (v := -1000000) X.1.1 X.1.2.1 X.1.2.2.2.1 (X.1.2.2.2.2 _ coX8_trouble_157) dX8_trouble_41 ?_
      refine zic_eq (tgt := 56) X dX8_trouble_43 (by decide) hf (fun hf => ?_) (fun hf => ?_)
      · refine lv_aload_n X.1.1 X.1.2.1 dX8_trouble_56 rfl (lv_at hl 1 rfl) ?_
        refine lv_iconst (v := 1) X.1.1 X.1.2.1 dX8_trouble_57 (by decide) ?_
        obtain ⟨hk, hf⟩ := zck hf
        obtain ⟨q3, eq3, hf⟩ := Option.bind_eq_some_iff.mp hf
        refine zcV0 (As := [.int (1 : Int32)]) (rest := []) (v := none) (h' := q3) X G (rfl : vwCl[8]? = some (RX8, TX8, 24)) hk (m_X8_go l D dA b0 r0 (1 : Int32) h q3 eq3) (cwV 1 X.1.2.2.2.2 gX8_trouble_X8_go rfl rfl rfl hdV_X8_go ⟨(Nat.le_of_ble_eq_true rfl), (Nat.le_of_ble_eq_true rfl)⟩) rfl hl.1 rfl (Nat.le_of_ble_eq_true rfl) dX8_trouble_58 ⟨Nat.zero_le _, Nat.zero_le _⟩ (fun H locs G => ?_)
        refine lv_iinc (v := (a2 + (1 : Int32))) (lv' := [(2, .int (a2 + (1 : Int32))), (3, .int q2), (0, .ref (b0 + r0)), (1, .int a1)]) X.1.1 X.1.2.1 dX8_trouble_61 hl (k := 3) rfl rfl (by decide) rfl (fun ls hl => ?_)
        refine lv_goto (tgt := 26) X.1.1 X.1.2.1 dX8_trouble_64 (by decide) ?_
        exact ih _ _ _ _ _ _ _ hf G (lv_sub hl [2, 3, 0] rfl)
      · refine lv_iload_n X.1.1 X.1.2.1 dX8_trouble_46 rfl (lv_at hl 2 rfl) ?_
        refine zif_ne (tgt := 54) X dX8_trouble_47 (by decide) hf (fun hf => ?_) (fun hf => ?_)
        · refine lv_iload_n X.1.1 X.1.2.1 dX8_trouble_54 rfl (lv_at hl 0 rfl) ?_
          exact zretI X hr hlk G hf dX8_trouble_55
        · refine lv_iload_n X.1.1 X.1.2.1 dX8_trouble_50 rfl (lv_at hl 3 rfl) ?_
          refine lv_goto (tgt := 55) X.1.1 X.1.2.1 dX8_trouble_51 (by decide) ?_
          exact zretI X hr hlk G hf dX8_trouble_55
set_option maxHeartbeats 4000000 in
set_option maxRecDepth 100000 in
theorem m_X8_trouble (l : Launch) (D : va_G) (dA : Nat → ClassId) (b0 : Nat) (r0 : Nat) (a1 : Int32) (h : zH) (z : Int32 × zH) (hf : f_X8_trouble r0 a1 h = some z) : Met l yX8_trouble wsX8_trouble rmX8_trouble (zPc D dA b0 [.ref (b0 + r0), .int a1] h) (zQ D dA b0 (some (.int z.1)) z.2) 0 0 (zA b0) := by
  refine Met.ofW (cc := cX8_trouble) (maxL := 4) (ret := (some .int)) (by decide) rfl ?_
  intro p e s m args below meth c s₁ B hml hv
  obtain ⟨rfl, hP, hz, hK, hN⟩ := hv
  have hr := B.returns
  have hlk := B.notSynchronized
  have X : zX p s m _ c cX8_trouble 4 RX8 wsX8_trouble D dA := ⟨⟨B.exec, B.bytes, hml, findClass_of_methodNamed B.named, atoms_spec (ws := wsX8_trouble) B.pre⟩, hK, hN⟩
  have G : zG D dA b0 s.heap h s.heap [] := ⟨hP, hz, va_S.rf⟩
  have hl := lv_entry ([.ref (b0 + r0), .int a1]) (n := 4) (Nat.le_of_ble_eq_true rfl)
  rw [lg_entry_eq]
  generalize (lg_sl ([.ref (b0 + r0), .int a1]) ++ List.replicate (4 - (lg_sl ([.ref (b0 + r0), .int a1])).length) Slot.unset).toArray = ls at hl ⊢
  have hl : lv_has ls 4 [(0, .ref (b0 + r0)), (1, .int a1)] := hl
  unfold f_X8_trouble at hf
  refine lv_aload_n X.1.1 X.1.2.1 dX8_trouble_0 rfl (lv_at hl 0 rfl) ?_
  obtain ⟨hk, hf⟩ := zck hf
  obtain ⟨q1, eq1, hf⟩ := Option.bind_eq_some_iff.mp hf
  refine zcV0 (As := []) (rest := []) (v := (some (.int q1))) (h' := h) X G (rfl : vwCl[8]? = some (RX8, TX8, 24)) hk (m_X8_isMine l D dA b0 r0 h q1 eq1) (cwV 0 X.1.2.2.2.2 gX8_trouble_X8_isMine rfl rfl rfl hdV_X8_isMine ⟨(Nat.le_of_ble_eq_true rfl), (Nat.le_of_ble_eq_true rfl)⟩) rfl hl.1 rfl (Nat.le_of_ble_eq_true rfl) dX8_trouble_1 ⟨Nat.zero_le _, Nat.zero_le _⟩ (fun H locs G => ?_)
  refine zif_ne (tgt := 10) X dX8_trouble_4 (by decide) hf (fun hf => ?_) (fun hf => ?_)
  · refine lv_iload_n X.1.1 X.1.2.1 dX8_trouble_10 rfl (lv_at hl 1 rfl) ?_
    obtain ⟨q2, eq2, hf⟩ := Option.bind_eq_some_iff.mp hf
    refine zcS0 (As := [.int a1]) (rest := []) (v := (some (.int q2))) (h' := h) X G (m_X8_isTwo l D dA b0 a1 h q2 eq2) (va_cwS 1 X.1.2.2.2.2 gX8_trouble_X8_isTwo rfl rfl rfl hdS_X8_isTwo ⟨(Nat.le_of_ble_eq_true rfl), (Nat.le_of_ble_eq_true rfl)⟩) rfl hl.1 rfl (Nat.le_of_ble_eq_true rfl) dX8_trouble_11 ⟨Nat.zero_le _, Nat.zero_le _⟩ (fun H locs G => ?_)
    refine zif_ne (tgt := 20) X dX8_trouble_14 (by decide) hf (fun hf => ?_) (fun hf => ?_)
    · refine lv_aload_n X.1.1 X.1.2.1 dX8_trouble_20 rfl (lv_at hl 0 rfl) ?_
      obtain ⟨hk, hf⟩ := zck hf
      obtain ⟨q3, eq3, hf⟩ := Option.bind_eq_some_iff.mp hf
      refine zcV0 (As := []) (rest := []) (v := none) (h' := q3) X G (rfl : vwCl[8]? = some (RX8, TX8, 24)) hk (m_X8_layAside l D dA b0 r0 h q3 eq3) (cwV 0 X.1.2.2.2.2 gX8_trouble_X8_layAside rfl rfl rfl hdV_X8_layAside ⟨(Nat.le_of_ble_eq_true rfl), (Nat.le_of_ble_eq_true rfl)⟩) rfl hl.1 rfl (Nat.le_of_ble_eq_true rfl) dX8_trouble_21 ⟨Nat.zero_le _, Nat.zero_le _⟩ (fun H locs G => ?_)
      refine lv_iconst (v := 0) X.1.1 X.1.2.1 dX8_trouble_24 (by decide) ?_
      refine lv_istore_n (lv' := [(2, .int (0 : Int32)), (0, .ref (b0 + r0)), (1, .int a1)]) X.1.1 X.1.2.1 dX8_trouble_25 rfl hl (by decide) rfl (fun ls hl => ?_)
      exact w_X8_trouble_b26 X hr hlk _ _ _ _ _ _ _ _ hf G (lv_sub hl [1, 2, 0] rfl)
    · refine lv_ldc (v := -1000001) X.1.1 X.1.2.1 X.1.2.2.2.1 (X.1.2.2.2.2 _ coX8_trouble_70) dX8_trouble_17 ?_
      exact zretI X hr hlk G hf dX8_trouble_19
  · refine lv_ldc (v := -1000002) X.1.1 X.1.2.1 X.1.2.2.2.1 (X.1.2.2.2.2 _ coX8_trouble_163) dX8_trouble_7 ?_
    exact zretI X hr hlk G hf dX8_trouble_9
/-! X8_rests -/
abbrev rmX8_rests : Room := { frames := 4, cells := 0, slots := 0, locals := 90 }
theorem hdV_X8_rests : yX8_rests.cls = RX8 ∧ yX8_rests.cls ≠ "java/lang/invoke/MethodHandle" ∧ yX8_rests.cls ≠ "java/lang/invoke/VarHandle" ∧ (parseMethodDescriptor yX8_rests.desc).map (fun d => d.parameters.length) = some 1 := by decide +kernel
theorem inX8_rests_X8 : ∀ w ∈ wsX80, w ∈ wsX8_rests := by decide +kernel
theorem flX8_rests_25 : Cond.fieldLink RX8 25 (TX8 6).1 (TX8 6).2.1 (TX8 6).2.2.1 ∈ wsX8_rests := by decide +kernel
theorem coX8_rests_157 : Cond.constant RX8 157 (-1000000) ∈ wsX8_rests := by decide +kernel
theorem flX8_rests_19 : Cond.fieldLink RX8 19 (TX8 4).1 (TX8 4).2.1 (TX8 4).2.2.1 ∈ wsX8_rests := by decide +kernel
set_option maxHeartbeats 4000000 in
set_option maxRecDepth 100000 in
theorem w_X8_rests_b10 {p : Program} {l : Launch} {e : Env} {s : State} {m : MethodId} {args : Array Value} {below : List Frame} {meth : Method} {c : Code} {D : va_G} {dA : Nat → ClassId} {b0 : Nat} (X : zX p s m args c cX8_rests 4 RX8 wsX8_rests D dA) (hr : meth.sig.returnType = (some .boolean)) (hlk : meth.locks = false) {z : Int32 × zH} : ∀ (n : Nat), ∀ (r0 : Nat) (a1 : Int32) (a2 : Int32) (a3 : Int32) (h : zH) (H : Heap) (locs : List Loc) (ls : Array Slot), f_X8_rests_b10 n r0 a1 a2 a3 h = some z → zG D dA b0 s.heap h H locs → lv_has ls 4 [(0, .ref (b0 + r0)), (1, .int a1), (2, .int a2), (3, .int a3)] → W p l e rmX8_rests s m args below meth c H locs 0 0 (MQ below (zQ D dA b0 (some (.int z.1)) z.2) args s 0 0 (zA b0)) (F0 m 10 ls []) := by
  intro n
  induction n with
  | zero =>
    intro r0 a1 a2 a3 h H locs ls hf
    cases hf
  | succ n ih =>
    intro r0 a1 a2 a3 h H locs ls hf G hl
    rw [f_X8_rests_b10] at hf
    refine lv_iload_n X.1.1 X.1.2.1 dX8_rests_10 rfl (lv_at hl 3 rfl) ?_
    refine lv_iload_n X.1.1 X.1.2.1 dX8_rests_11 rfl (lv_at hl 1 rfl) ?_
    refine zic_gt (tgt := 51) X dX8_rests_12 (by decide) hf (fun hf => ?_) (fun hf => ?_)
    · refine lv_iconst (v := 1) X.1.1 X.1.2.1 dX8_rests_51 (by decide) ?_
      exact zretZ X hr hlk G hf dX8_rests_52
    · refine lv_aload_n X.1.1 X.1.2.1 dX8_rests_15 rfl (lv_at hl 0 rfl) ?_
      refine zgetR (ci := 8) (k := 6) (C := RX8) (T := TX8) (N := 24) X G rfl inX8_rests_X8 (Nat.le_of_ble_eq_true rfl) flX8_rests_25 dX8_rests_16 hf (fun v1 hf => ?_)
      obtain ⟨q2, eq2, hf⟩ := Option.bind_eq_some_iff.mp hf
      refine zcS0 (As := [.ref (b0 + v1)]) (rest := []) (v := (some (.int q2))) (h' := h) X G (m_X8_twoOf l D dA b0 v1 h q2 eq2) (va_cwS 1 X.1.2.2.2.2 gX8_rests_X8_twoOf rfl rfl rfl hdS_X8_twoOf ⟨(Nat.le_of_ble_eq_true rfl), (Nat.le_of_ble_eq_true rfl)⟩) rfl hl.1 rfl (Nat.le_of_ble_eq_true rfl) dX8_rests_19 ⟨Nat.zero_le _, Nat.zero_le _⟩ (fun H locs G => ?_)
      refine lv_ldc (v := -1000000) X.1.1 X.1.2.1 X.1.2.2.2.1 (X.1.2.2.2.2 _ coX8_rests_157) dX8_rests_22 ?_
      refine zic_ne (tgt := 38) X dX8_rests_24 (by decide) hf (fun hf => ?_) (fun hf => ?_)
      · refine lv_iconst (v := 0) X.1.1 X.1.2.1 dX8_rests_38 (by decide) ?_
        exact zretZ X hr hlk G hf dX8_rests_39
      · refine lv_aload_n X.1.1 X.1.2.1 dX8_rests_27 rfl (lv_at hl 0 rfl) ?_
        refine zgetR (ci := 8) (k := 6) (C := RX8) (T := TX8) (N := 24) X G rfl inX8_rests_X8 (Nat.le_of_ble_eq_true rfl) flX8_rests_25 dX8_rests_28 hf (fun v3 hf => ?_)
        obtain ⟨q4, eq4, hf⟩ := Option.bind_eq_some_iff.mp hf
        refine zcS0 (As := [.ref (b0 + v3)]) (rest := []) (v := (some (.int q4))) (h' := h) X G (m_X8_upOf l D dA b0 v3 h q4 eq4) (va_cwS 1 X.1.2.2.2.2 gX8_rests_X8_upOf rfl rfl rfl hdS_X8_upOf ⟨(Nat.le_of_ble_eq_true rfl), (Nat.le_of_ble_eq_true rfl)⟩) rfl hl.1 rfl (Nat.le_of_ble_eq_true rfl) dX8_rests_31 ⟨Nat.zero_le _, Nat.zero_le _⟩ (fun H locs G => ?_)
        refine lv_iload_n X.1.1 X.1.2.1 dX8_rests_34 rfl (lv_at hl 2 rfl) ?_
        refine zic_eq (tgt := 40) X dX8_rests_35 (by decide) hf (fun hf => ?_) (fun hf => ?_)
        · refine lv_aload_n X.1.1 X.1.2.1 dX8_rests_40 rfl (lv_at hl 0 rfl) ?_
          refine lv_iconst (v := 1) X.1.1 X.1.2.1 dX8_rests_41 (by decide) ?_
          obtain ⟨hk, hf⟩ := zck hf
          obtain ⟨q5, eq5, hf⟩ := Option.bind_eq_some_iff.mp hf
          refine zcV0 (As := [.int (1 : Int32)]) (rest := []) (v := none) (h' := q5) X G (rfl : vwCl[8]? = some (RX8, TX8, 24)) hk (m_X8_go l D dA b0 r0 (1 : Int32) h q5 eq5) (cwV 1 X.1.2.2.2.2 gX8_rests_X8_go rfl rfl rfl hdV_X8_go ⟨(Nat.le_of_ble_eq_true rfl), (Nat.le_of_ble_eq_true rfl)⟩) rfl hl.1 rfl (Nat.le_of_ble_eq_true rfl) dX8_rests_42 ⟨Nat.zero_le _, Nat.zero_le _⟩ (fun H locs G => ?_)
          refine lv_iinc (v := (a3 + (1 : Int32))) (lv' := [(3, .int (a3 + (1 : Int32))), (0, .ref (b0 + r0)), (1, .int a1), (2, .int a2)]) X.1.1 X.1.2.1 dX8_rests_45 hl (k := 3) rfl rfl (by decide) rfl (fun ls hl => ?_)
          refine lv_goto (tgt := 10) X.1.1 X.1.2.1 dX8_rests_48 (by decide) ?_
          exact ih _ _ _ _ _ _ _ _ hf G (lv_sub hl [1, 2, 3, 0] rfl)
        · refine lv_iconst (v := 0) X.1.1 X.1.2.1 dX8_rests_38 (by decide) ?_
          exact zretZ X hr hlk G hf dX8_rests_39
set_option maxHeartbeats 4000000 in
set_option maxRecDepth 100000 in
theorem m_X8_rests (l : Launch) (D : va_G) (dA : Nat → ClassId) (b0 : Nat) (r0 : Nat) (a1 : Int32) (h : zH) (z : Int32 × zH) (hf : f_X8_rests r0 a1 h = some z) : Met l yX8_rests wsX8_rests rmX8_rests (zPc D dA b0 [.ref (b0 + r0), .int a1] h) (zQ D dA b0 (some (.int z.1)) z.2) 0 0 (zA b0) := by
  refine Met.ofW (cc := cX8_rests) (maxL := 4) (ret := (some .boolean)) (by decide) rfl ?_
  intro p e s m args below meth c s₁ B hml hv
  obtain ⟨rfl, hP, hz, hK, hN⟩ := hv
  have hr := B.returns
  have hlk := B.notSynchronized
  have X : zX p s m _ c cX8_rests 4 RX8 wsX8_rests D dA := ⟨⟨B.exec, B.bytes, hml, findClass_of_methodNamed B.named, atoms_spec (ws := wsX8_rests) B.pre⟩, hK, hN⟩
  have G : zG D dA b0 s.heap h s.heap [] := ⟨hP, hz, va_S.rf⟩
  have hl := lv_entry ([.ref (b0 + r0), .int a1]) (n := 4) (Nat.le_of_ble_eq_true rfl)
  rw [lg_entry_eq]
  generalize (lg_sl ([.ref (b0 + r0), .int a1]) ++ List.replicate (4 - (lg_sl ([.ref (b0 + r0), .int a1])).length) Slot.unset).toArray = ls at hl ⊢
  have hl : lv_has ls 4 [(0, .ref (b0 + r0)), (1, .int a1)] := hl
  unfold f_X8_rests at hf
  refine lv_aload_n X.1.1 X.1.2.1 dX8_rests_0 rfl (lv_at hl 0 rfl) ?_
  refine zgetR (ci := 8) (k := 4) (C := RX8) (T := TX8) (N := 24) X G rfl inX8_rests_X8 (Nat.le_of_ble_eq_true rfl) flX8_rests_19 dX8_rests_1 hf (fun v1 hf => ?_)
  obtain ⟨q2, eq2, hf⟩ := Option.bind_eq_some_iff.mp hf
  refine zcS0 (As := [.ref (b0 + v1)]) (rest := []) (v := (some (.int q2))) (h' := h) X G (m_X8_upOf l D dA b0 v1 h q2 eq2) (va_cwS 1 X.1.2.2.2.2 gX8_rests_X8_upOf rfl rfl rfl hdS_X8_upOf ⟨(Nat.le_of_ble_eq_true rfl), (Nat.le_of_ble_eq_true rfl)⟩) rfl hl.1 rfl (Nat.le_of_ble_eq_true rfl) dX8_rests_4 ⟨Nat.zero_le _, Nat.zero_le _⟩ (fun H locs G => ?_)
  refine lv_istore_n (lv' := [(2, .int q2), (0, .ref (b0 + r0)), (1, .int a1)]) X.1.1 X.1.2.1 dX8_rests_7 rfl hl (by decide) rfl (fun ls hl => ?_)
  refine lv_iconst (v := 0) X.1.1 X.1.2.1 dX8_rests_8 (by decide) ?_
  refine lv_istore_n (lv' := [(3, .int (0 : Int32)), (2, .int q2), (0, .ref (b0 + r0)), (1, .int a1)]) X.1.1 X.1.2.1 dX8_rests_9 rfl hl (by decide) rfl (fun ls hl => ?_)
  exact w_X8_rests_b10 X hr hlk _ _ _ _ _ _ _ _ _ hf G (lv_sub hl [2, 3, 1, 0] rfl)
/-! X8_layPlaces -/
abbrev rmX8_layPlaces : Room := { frames := 2, cells := 0, slots := 0, locals := 44 }
theorem hdV_X8_layPlaces : yX8_layPlaces.cls = RX8 ∧ yX8_layPlaces.cls ≠ "java/lang/invoke/MethodHandle" ∧ yX8_layPlaces.cls ≠ "java/lang/invoke/VarHandle" ∧ (parseMethodDescriptor yX8_layPlaces.desc).map (fun d => d.parameters.length) = some 1 := by decide +kernel
theorem inX8_layPlaces_X8 : ∀ w ∈ wsX80, w ∈ wsX8_layPlaces := by decide +kernel
theorem flX8_layPlaces_25 : Cond.fieldLink RX8 25 (TX8 6).1 (TX8 6).2.1 (TX8 6).2.2.1 ∈ wsX8_layPlaces := by decide +kernel
theorem flX8_layPlaces_47 : Cond.fieldLink RX8 47 (TX8 22).1 (TX8 22).2.1 (TX8 22).2.2.1 ∈ wsX8_layPlaces := by decide +kernel
theorem flX8_layPlaces_19 : Cond.fieldLink RX8 19 (TX8 4).1 (TX8 4).2.1 (TX8 4).2.2.1 ∈ wsX8_layPlaces := by decide +kernel
theorem coX8_layPlaces_207 : Cond.constant RX8 207 (1000000) ∈ wsX8_layPlaces := by decide +kernel
set_option maxHeartbeats 4000000 in
set_option maxRecDepth 100000 in
theorem w_X8_layPlaces_b92 {p : Program} {l : Launch} {e : Env} {s : State} {m : MethodId} {args : Array Value} {below : List Frame} {meth : Method} {c : Code} {D : va_G} {dA : Nat → ClassId} {b0 : Nat} (X : zX p s m args c cX8_layPlaces 6 RX8 wsX8_layPlaces D dA) (hr : meth.sig.returnType = (some .int)) (hlk : meth.locks = false) {z : Int32 × zH} (k18 : Nat → Int32 → Int32 → Int32 → zH → Option (Int32 × zH)) (hk18 : ∀ (r0 : Nat) (a2 : Int32) (a3 : Int32) (a4 : Int32) (h : zH) (H : Heap) (locs : List Loc) (ls : Array Slot), k18 r0 a2 a3 a4 h = some z → zG D dA b0 s.heap h H locs → lv_has ls 6 [(0, .ref (b0 + r0)), (2, .int a2), (3, .int a3), (4, .int a4)] → W p l e rmX8_layPlaces s m args below meth c H locs 0 0 (MQ below (zQ D dA b0 (some (.int z.1)) z.2) args s 0 0 (zA b0)) (F0 m 18 ls [])) : ∀ (r0 : Nat) (a2 : Int32) (a4 : Int32) (s0 : Int32) (s1 : Int32) (h : zH) (H : Heap) (locs : List Loc) (ls : Array Slot), f_X8_layPlaces_b92 k18 r0 a2 a4 s0 s1 h = some z → zG D dA b0 s.heap h H locs → lv_has ls 6 [(0, .ref (b0 + r0)), (2, .int a2), (4, .int a4)] → W p l e rmX8_layPlaces s m args below meth c H locs 0 0 (MQ below (zQ D dA b0 (some (.int z.1)) z.2) args s 0 0 (zA b0)) (F0 m 92 ls [.int s1, .int s0]) := by
  intro r0 a2 a4 s0 s1 h H locs ls hf G hl
  unfold f_X8_layPlaces_b92 at hf
  refine lv_iadd X.1.1 X.1.2.1 dX8_layPlaces_92 ?_
  refine zleti hf (fun x1 hf => ?_)
  refine lv_istore_n (lv' := [(3, .int x1), (0, .ref (b0 + r0)), (2, .int a2), (4, .int a4)]) X.1.1 X.1.2.1 dX8_layPlaces_93 rfl hl (by decide) rfl (fun ls hl => ?_)
  refine lv_aload_n X.1.1 X.1.2.1 dX8_layPlaces_94 rfl (lv_at hl 1 rfl) ?_
  refine zgetR (ci := 8) (k := 6) (C := RX8) (T := TX8) (N := 24) X G rfl inX8_layPlaces_X8 (Nat.le_of_ble_eq_true rfl) flX8_layPlaces_25 dX8_layPlaces_95 hf (fun v2 hf => ?_)
  refine lv_bipush (v := 18) X.1.1 X.1.2.1 dX8_layPlaces_98 (by decide) ?_
  refine lv_iload X.1.1 X.1.2.1 dX8_layPlaces_100 (lv_at hl 3 rfl) ?_
  refine lv_iadd X.1.1 X.1.2.1 dX8_layPlaces_102 ?_
  refine lv_aload_n X.1.1 X.1.2.1 dX8_layPlaces_103 rfl (lv_at hl 1 rfl) ?_
  refine zgetR (ci := 8) (k := 22) (C := RX8) (T := TX8) (N := 24) X G rfl inX8_layPlaces_X8 (Nat.le_of_ble_eq_true rfl) flX8_layPlaces_47 dX8_layPlaces_104 hf (fun v3 hf => ?_)
  refine lv_iload X.1.1 X.1.2.1 dX8_layPlaces_107 (lv_at hl 3 rfl) ?_
  refine ziald X G dX8_layPlaces_109 hf (fun v4 hf => ?_)
  refine ziast X G dX8_layPlaces_110 hf (fun h5 H locs hf G => ?_)
  refine lv_iinc (v := (a4 + (-1 : Int32))) (lv' := [(4, .int (a4 + (-1 : Int32))), (3, .int x1), (0, .ref (b0 + r0)), (2, .int a2)]) X.1.1 X.1.2.1 dX8_layPlaces_111 hl (k := 3) rfl rfl (by decide) rfl (fun ls hl => ?_)
  refine lv_goto (tgt := 18) X.1.1 X.1.2.1 dX8_layPlaces_114 (by decide) ?_
  exact hk18 _ _ _ _ _ _ _ _ hf G (lv_sub hl [2, 3, 1, 0] rfl)
set_option maxHeartbeats 4000000 in
set_option maxRecDepth 100000 in
theorem w_X8_layPlaces_b62 {p : Program} {l : Launch} {e : Env} {s : State} {m : MethodId} {args : Array Value} {below : List Frame} {meth : Method} {c : Code} {D : va_G} {dA : Nat → ClassId} {b0 : Nat} (X : zX p s m args c cX8_layPlaces 6 RX8 wsX8_layPlaces D dA) (hr : meth.sig.returnType = (some .int)) (hlk : meth.locks = false) {z : Int32 × zH} (k18 : Nat → Int32 → Int32 → Int32 → zH → Option (Int32 × zH)) (hk18 : ∀ (r0 : Nat) (a2 : Int32) (a3 : Int32) (a4 : Int32) (h : zH) (H : Heap) (locs : List Loc) (ls : Array Slot), k18 r0 a2 a3 a4 h = some z → zG D dA b0 s.heap h H locs → lv_has ls 6 [(0, .ref (b0 + r0)), (2, .int a2), (3, .int a3), (4, .int a4)] → W p l e rmX8_layPlaces s m args below meth c H locs 0 0 (MQ below (zQ D dA b0 (some (.int z.1)) z.2) args s 0 0 (zA b0)) (F0 m 18 ls [])) : ∀ (r0 : Nat) (a2 : Int32) (a3 : Int32) (a4 : Int32) (s0 : Int32) (h : zH) (H : Heap) (locs : List Loc) (ls : Array Slot), f_X8_layPlaces_b62 k18 r0 a2 a3 a4 s0 h = some z → zG D dA b0 s.heap h H locs → lv_has ls 6 [(0, .ref (b0 + r0)), (2, .int a2), (3, .int a3), (4, .int a4)] → W p l e rmX8_layPlaces s m args below meth c H locs 0 0 (MQ below (zQ D dA b0 (some (.int z.1)) z.2) args s 0 0 (zA b0)) (F0 m 62 ls [.int s0]) := by
  intro r0 a2 a3 a4 s0 h H locs ls hf G hl
  unfold f_X8_layPlaces_b62 at hf
  refine lv_istore (lv' := [(5, .int s0), (0, .ref (b0 + r0)), (2, .int a2), (3, .int a3), (4, .int a4)]) X.1.1 X.1.2.1 dX8_layPlaces_62 hl (by decide) rfl (fun ls hl => ?_)
  refine lv_iload_n X.1.1 X.1.2.1 dX8_layPlaces_64 rfl (lv_at hl 3 rfl) ?_
  refine lv_iload X.1.1 X.1.2.1 dX8_layPlaces_65 (lv_at hl 0 rfl) ?_
  refine zif_ne (tgt := 74) X dX8_layPlaces_67 (by decide) hf (fun hf => ?_) (fun hf => ?_)
  · refine lv_aload_n X.1.1 X.1.2.1 dX8_layPlaces_74 rfl (lv_at hl 1 rfl) ?_
    refine zgetR (ci := 8) (k := 4) (C := RX8) (T := TX8) (N := 24) X G rfl inX8_layPlaces_X8 (Nat.le_of_ble_eq_true rfl) flX8_layPlaces_19 dX8_layPlaces_75 hf (fun v1 hf => ?_)
    refine lv_iload X.1.1 X.1.2.1 dX8_layPlaces_78 (lv_at hl 4 rfl) ?_
    obtain ⟨q2, eq2, hf⟩ := Option.bind_eq_some_iff.mp hf
    refine zcS0 (As := [.ref (b0 + v1), .int a4]) (rest := [.int a3]) (v := (some (.int q2))) (h' := h) X G (m_X8_lies l D dA b0 v1 a4 h q2 eq2) (va_cwS 2 X.1.2.2.2.2 gX8_layPlaces_X8_lies rfl rfl rfl hdS_X8_lies ⟨(Nat.le_of_ble_eq_true rfl), (Nat.le_of_ble_eq_true rfl)⟩) rfl hl.1 rfl (Nat.le_of_ble_eq_true rfl) dX8_layPlaces_80 ⟨Nat.zero_le _, Nat.zero_le _⟩ (fun H locs G => ?_)
    refine zif_eq (tgt := 90) X dX8_layPlaces_83 (by decide) hf (fun hf => ?_) (fun hf => ?_)
    · refine lv_ldc (v := 1000000) X.1.1 X.1.2.1 X.1.2.2.2.1 (X.1.2.2.2.2 _ coX8_layPlaces_207) dX8_layPlaces_90 ?_
      exact w_X8_layPlaces_b92 X hr hlk _ hk18 _ _ _ _ _ _ _ _ _ hf G (lv_sub hl [1, 2, 4] rfl)
    · refine lv_iconst (v := 1) X.1.1 X.1.2.1 dX8_layPlaces_86 (by decide) ?_
      refine lv_goto (tgt := 92) X.1.1 X.1.2.1 dX8_layPlaces_87 (by decide) ?_
      exact w_X8_layPlaces_b92 X hr hlk _ hk18 _ _ _ _ _ _ _ _ _ hf G (lv_sub hl [1, 2, 4] rfl)
  · refine lv_iconst (v := 0) X.1.1 X.1.2.1 dX8_layPlaces_70 (by decide) ?_
    refine lv_goto (tgt := 92) X.1.1 X.1.2.1 dX8_layPlaces_71 (by decide) ?_
    exact w_X8_layPlaces_b92 X hr hlk _ hk18 _ _ _ _ _ _ _ _ _ hf G (lv_sub hl [1, 2, 4] rfl)
set_option maxHeartbeats 4000000 in
set_option maxRecDepth 100000 in
theorem w_X8_layPlaces_b18 {p : Program} {l : Launch} {e : Env} {s : State} {m : MethodId} {args : Array Value} {below : List Frame} {meth : Method} {c : Code} {D : va_G} {dA : Nat → ClassId} {b0 : Nat} (X : zX p s m args c cX8_layPlaces 6 RX8 wsX8_layPlaces D dA) (hr : meth.sig.returnType = (some .int)) (hlk : meth.locks = false) {z : Int32 × zH} : ∀ (n : Nat), ∀ (r0 : Nat) (a2 : Int32) (a3 : Int32) (a4 : Int32) (h : zH) (H : Heap) (locs : List Loc) (ls : Array Slot), f_X8_layPlaces_b18 n r0 a2 a3 a4 h = some z → zG D dA b0 s.heap h H locs → lv_has ls 6 [(0, .ref (b0 + r0)), (2, .int a2), (3, .int a3), (4, .int a4)] → W p l e rmX8_layPlaces s m args below meth c H locs 0 0 (MQ below (zQ D dA b0 (some (.int z.1)) z.2) args s 0 0 (zA b0)) (F0 m 18 ls []) := by
  intro n
  induction n with
  | zero =>
    intro r0 a2 a3 a4 h H locs ls hf
    cases hf
  | succ n ih =>
    intro r0 a2 a3 a4 h H locs ls hf G hl
    rw [f_X8_layPlaces_b18] at hf
    refine lv_iload X.1.1 X.1.2.1 dX8_layPlaces_18 (lv_at hl 3 rfl) ?_
    refine zif_lt (tgt := 117) X dX8_layPlaces_20 (by decide) hf (fun hf => ?_) (fun hf => ?_)
    · refine lv_iload_n X.1.1 X.1.2.1 dX8_layPlaces_117 rfl (lv_at hl 2 rfl) ?_
      exact zretI X hr hlk G hf dX8_layPlaces_118
    · refine lv_aload_n X.1.1 X.1.2.1 dX8_layPlaces_23 rfl (lv_at hl 0 rfl) ?_
      refine zgetR (ci := 8) (k := 22) (C := RX8) (T := TX8) (N := 24) X G rfl inX8_layPlaces_X8 (Nat.le_of_ble_eq_true rfl) flX8_layPlaces_47 dX8_layPlaces_24 hf (fun v1 hf => ?_)
      refine lv_iload X.1.1 X.1.2.1 dX8_layPlaces_27 (lv_at hl 3 rfl) ?_
      refine lv_iload_n X.1.1 X.1.2.1 dX8_layPlaces_29 rfl (lv_at hl 1 rfl) ?_
      refine lv_iconst (v := 4) X.1.1 X.1.2.1 dX8_layPlaces_30 (by decide) ?_
      refine zirem X dX8_layPlaces_31 hf (fun hf => ?_)
      refine ziast X G dX8_layPlaces_32 hf (fun h2 H locs hf G => ?_)
      refine lv_iload_n X.1.1 X.1.2.1 dX8_layPlaces_33 rfl (lv_at hl 1 rfl) ?_
      refine lv_iconst (v := 4) X.1.1 X.1.2.1 dX8_layPlaces_34 (by decide) ?_
      refine zidiv X dX8_layPlaces_35 hf (fun hf => ?_)
      refine zleti hf (fun x3 hf => ?_)
      refine lv_istore_n (lv' := [(2, .int x3), (0, .ref (b0 + r0)), (3, .int a3), (4, .int a4)]) X.1.1 X.1.2.1 dX8_layPlaces_36 rfl hl (by decide) rfl (fun ls hl => ?_)
      refine lv_aload_n X.1.1 X.1.2.1 dX8_layPlaces_37 rfl (lv_at hl 1 rfl) ?_
      refine zgetR (ci := 8) (k := 22) (C := RX8) (T := TX8) (N := 24) X G rfl inX8_layPlaces_X8 (Nat.le_of_ble_eq_true rfl) flX8_layPlaces_47 dX8_layPlaces_38 hf (fun v4 hf => ?_)
      refine lv_iload X.1.1 X.1.2.1 dX8_layPlaces_41 (lv_at hl 3 rfl) ?_
      refine ziald X G dX8_layPlaces_43 hf (fun v5 hf => ?_)
      refine lv_aload_n X.1.1 X.1.2.1 dX8_layPlaces_44 rfl (lv_at hl 1 rfl) ?_
      refine zgetR (ci := 8) (k := 4) (C := RX8) (T := TX8) (N := 24) X G rfl inX8_layPlaces_X8 (Nat.le_of_ble_eq_true rfl) flX8_layPlaces_19 dX8_layPlaces_45 hf (fun v6 hf => ?_)
      refine lv_bipush (v := 18) X.1.1 X.1.2.1 dX8_layPlaces_48 (by decide) ?_
      refine lv_iload X.1.1 X.1.2.1 dX8_layPlaces_50 (lv_at hl 3 rfl) ?_
      refine lv_iadd X.1.1 X.1.2.1 dX8_layPlaces_52 ?_
      refine ziald X G dX8_layPlaces_53 hf (fun v7 hf => ?_)
      refine zic_eq (tgt := 61) X dX8_layPlaces_54 (by decide) hf (fun hf => ?_) (fun hf => ?_)
      · refine lv_iconst (v := 0) X.1.1 X.1.2.1 dX8_layPlaces_61 (by decide) ?_
        exact w_X8_layPlaces_b62 X hr hlk _ ih _ _ _ _ _ _ _ _ _ hf G (lv_sub hl [1, 0, 2, 3] rfl)
      · refine lv_iconst (v := 1) X.1.1 X.1.2.1 dX8_layPlaces_57 (by decide) ?_
        refine lv_goto (tgt := 62) X.1.1 X.1.2.1 dX8_layPlaces_58 (by decide) ?_
        exact w_X8_layPlaces_b62 X hr hlk _ ih _ _ _ _ _ _ _ _ _ hf G (lv_sub hl [1, 0, 2, 3] rfl)
set_option maxHeartbeats 4000000 in
set_option maxRecDepth 100000 in
theorem m_X8_layPlaces (l : Launch) (D : va_G) (dA : Nat → ClassId) (b0 : Nat) (r0 : Nat) (a1 : Int32) (h : zH) (z : Int32 × zH) (hf : f_X8_layPlaces r0 a1 h = some z) : Met l yX8_layPlaces wsX8_layPlaces rmX8_layPlaces (zPc D dA b0 [.ref (b0 + r0), .int a1] h) (zQ D dA b0 (some (.int z.1)) z.2) 0 0 (zA b0) := by
  refine Met.ofW (cc := cX8_layPlaces) (maxL := 6) (ret := (some .int)) (by decide) rfl ?_
  intro p e s m args below meth c s₁ B hml hv
  obtain ⟨rfl, hP, hz, hK, hN⟩ := hv
  have hr := B.returns
  have hlk := B.notSynchronized
  have X : zX p s m _ c cX8_layPlaces 6 RX8 wsX8_layPlaces D dA := ⟨⟨B.exec, B.bytes, hml, findClass_of_methodNamed B.named, atoms_spec (ws := wsX8_layPlaces) B.pre⟩, hK, hN⟩
  have G : zG D dA b0 s.heap h s.heap [] := ⟨hP, hz, va_S.rf⟩
  have hl := lv_entry ([.ref (b0 + r0), .int a1]) (n := 6) (Nat.le_of_ble_eq_true rfl)
  rw [lg_entry_eq]
  generalize (lg_sl ([.ref (b0 + r0), .int a1]) ++ List.replicate (6 - (lg_sl ([.ref (b0 + r0), .int a1])).length) Slot.unset).toArray = ls at hl ⊢
  have hl : lv_has ls 6 [(0, .ref (b0 + r0)), (1, .int a1)] := hl
  unfold f_X8_layPlaces at hf
  refine lv_iload_n X.1.1 X.1.2.1 dX8_layPlaces_0 rfl (lv_at hl 1 rfl) ?_
  refine lv_istore_n (lv' := [(2, .int a1), (0, .ref (b0 + r0)), (1, .int a1)]) X.1.1 X.1.2.1 dX8_layPlaces_1 rfl hl (by decide) rfl (fun ls hl => ?_)
  refine lv_iconst (v := 0) X.1.1 X.1.2.1 dX8_layPlaces_2 (by decide) ?_
  refine lv_istore_n (lv' := [(3, .int (0 : Int32)), (2, .int a1), (0, .ref (b0 + r0)), (1, .int a1)]) X.1.1 X.1.2.1 dX8_layPlaces_3 rfl hl (by decide) rfl (fun ls hl => ?_)
  refine lv_aload_n X.1.1 X.1.2.1 dX8_layPlaces_4 rfl (lv_at hl 2 rfl) ?_
  obtain ⟨hk, hf⟩ := zck hf
  obtain ⟨q1, eq1, hf⟩ := Option.bind_eq_some_iff.mp hf
  refine zcV0 (As := []) (rest := []) (v := none) (h' := q1) X G (rfl : vwCl[8]? = some (RX8, TX8, 24)) hk (m_X8_layAside l D dA b0 r0 h q1 eq1) (cwV 0 X.1.2.2.2.2 gX8_layPlaces_X8_layAside rfl rfl rfl hdV_X8_layAside ⟨(Nat.le_of_ble_eq_true rfl), (Nat.le_of_ble_eq_true rfl)⟩) rfl hl.1 rfl (Nat.le_of_ble_eq_true rfl) dX8_layPlaces_5 ⟨Nat.zero_le _, Nat.zero_le _⟩ (fun H locs G => ?_)
  refine lv_aload_n X.1.1 X.1.2.1 dX8_layPlaces_8 rfl (lv_at hl 2 rfl) ?_
  refine zgetR (ci := 8) (k := 4) (C := RX8) (T := TX8) (N := 24) X G rfl inX8_layPlaces_X8 (Nat.le_of_ble_eq_true rfl) flX8_layPlaces_19 dX8_layPlaces_9 hf (fun v2 hf => ?_)
  refine lv_iconst (v := 0) X.1.1 X.1.2.1 dX8_layPlaces_12 (by decide) ?_
  refine ziald X G dX8_layPlaces_13 hf (fun v3 hf => ?_)
  refine lv_iconst (v := 1) X.1.1 X.1.2.1 dX8_layPlaces_14 (by decide) ?_
  refine lv_isub X.1.1 X.1.2.1 dX8_layPlaces_15 ?_
  refine zleti hf (fun x4 hf => ?_)
  refine lv_istore (lv' := [(4, .int x4), (3, .int (0 : Int32)), (2, .int a1), (0, .ref (b0 + r0)), (1, .int a1)]) X.1.1 X.1.2.1 dX8_layPlaces_16 hl (by decide) rfl (fun ls hl => ?_)
  exact w_X8_layPlaces_b18 X hr hlk _ _ _ _ _ _ _ _ _ hf G (lv_sub hl [3, 2, 1, 0] rfl)
/-! X8_lay -/
abbrev rmX8_lay : Room := { frames := 5, cells := 0, slots := 0, locals := 113 }
theorem hdV_X8_lay : yX8_lay.cls = RX8 ∧ yX8_lay.cls ≠ "java/lang/invoke/MethodHandle" ∧ yX8_lay.cls ≠ "java/lang/invoke/VarHandle" ∧ (parseMethodDescriptor yX8_lay.desc).map (fun d => d.parameters.length) = some 2 := by decide +kernel
theorem inX8_lay_X8 : ∀ w ∈ wsX80, w ∈ wsX8_lay := by decide +kernel
theorem flX8_lay_50 : Cond.fieldLink RX8 50 (TX8 23).1 (TX8 23).2.1 (TX8 23).2.2.1 ∈ wsX8_lay := by decide +kernel
theorem flX8_lay_47 : Cond.fieldLink RX8 47 (TX8 22).1 (TX8 22).2.1 (TX8 22).2.2.1 ∈ wsX8_lay := by decide +kernel
theorem flX8_lay_19 : Cond.fieldLink RX8 19 (TX8 4).1 (TX8 4).2.1 (TX8 4).2.2.1 ∈ wsX8_lay := by decide +kernel
theorem coX8_lay_207 : Cond.constant RX8 207 (1000000) ∈ wsX8_lay := by decide +kernel
theorem coX8_lay_157 : Cond.constant RX8 157 (-1000000) ∈ wsX8_lay := by decide +kernel
theorem coX8_lay_70 : Cond.constant RX8 70 (-1000001) ∈ wsX8_lay := by decide +kernel
theorem clX8_lay_208 : Cond.constantLong RX8 208 (-1) ∈ wsX8_lay := by decide +kernel
theorem clX8_lay_210 : Cond.constantLong RX8 210 (4) ∈ wsX8_lay := by decide +kernel
theorem coX8_lay_163 : Cond.constant RX8 163 (-1000002) ∈ wsX8_lay := by decide +kernel
set_option maxHeartbeats 4000000 in
set_option maxRecDepth 100000 in
theorem w_X8_lay_b83 {p : Program} {l : Launch} {e : Env} {s : State} {m : MethodId} {args : Array Value} {below : List Frame} {meth : Method} {c : Code} {D : va_G} {dA : Nat → ClassId} {b0 : Nat} (X : zX p s m args c cX8_lay 7 RX8 wsX8_lay D dA) (hr : meth.sig.returnType = (some .int)) (hlk : meth.locks = false) {z : Int32 × zH} (k40 : Nat → Int32 → Int32 → Int32 → Int32 → zH → Option (Int32 × zH)) (hk40 : ∀ (r0 : Nat) (a1 : Int32) (a2 : Int32) (a3 : Int32) (a4 : Int32) (h : zH) (H : Heap) (locs : List Loc) (ls : Array Slot), k40 r0 a1 a2 a3 a4 h = some z → zG D dA b0 s.heap h H locs → lv_has ls 7 [(0, .ref (b0 + r0)), (1, .int a1), (2, .int a2), (3, .int a3), (4, .int a4)] → W p l e rmX8_lay s m args below meth c H locs 0 0 (MQ below (zQ D dA b0 (some (.int z.1)) z.2) args s 0 0 (zA b0)) (F0 m 40 ls [])) : ∀ (n : Nat), ∀ (r0 : Nat) (a1 : Int32) (a2 : Int32) (a3 : Int32) (a4 : Int32) (a6 : Int32) (h : zH) (H : Heap) (locs : List Loc) (ls : Array Slot), f_X8_lay_b83 k40 n r0 a1 a2 a3 a4 a6 h = some z → zG D dA b0 s.heap h H locs → lv_has ls 7 [(0, .ref (b0 + r0)), (1, .int a1), (2, .int a2), (3, .int a3), (4, .int a4), (6, .int a6)] → W p l e rmX8_lay s m args below meth c H locs 0 0 (MQ below (zQ D dA b0 (some (.int z.1)) z.2) args s 0 0 (zA b0)) (F0 m 83 ls []) := by
  intro n
  induction n with
  | zero =>
    intro r0 a1 a2 a3 a4 a6 h H locs ls hf
    cases hf
  | succ n ih =>
    intro r0 a1 a2 a3 a4 a6 h H locs ls hf G hl
    rw [f_X8_lay_b83] at hf
    refine lv_iload X.1.1 X.1.2.1 dX8_lay_83 (lv_at hl 5 rfl) ?_
    refine lv_iconst (v := 5) X.1.1 X.1.2.1 dX8_lay_85 (by decide) ?_
    refine zic_ge (tgt := 109) X dX8_lay_86 (by decide) hf (fun hf => ?_) (fun hf => ?_)
    · refine lv_iinc (v := (a4 + (1 : Int32))) (lv' := [(4, .int (a4 + (1 : Int32))), (0, .ref (b0 + r0)), (1, .int a1), (2, .int a2), (3, .int a3), (6, .int a6)]) X.1.1 X.1.2.1 dX8_lay_109 hl (k := 4) rfl rfl (by decide) rfl (fun ls hl => ?_)
      refine lv_goto (tgt := 40) X.1.1 X.1.2.1 dX8_lay_112 (by decide) ?_
      exact hk40 _ _ _ _ _ _ _ _ _ hf G (lv_sub hl [1, 2, 3, 4, 0] rfl)
    · refine lv_aload_n X.1.1 X.1.2.1 dX8_lay_89 rfl (lv_at hl 0 rfl) ?_
      refine zgetR (ci := 8) (k := 23) (C := RX8) (T := TX8) (N := 24) X G rfl inX8_lay_X8 (Nat.le_of_ble_eq_true rfl) flX8_lay_50 dX8_lay_90 hf (fun v1 hf => ?_)
      refine lv_iload X.1.1 X.1.2.1 dX8_lay_93 (lv_at hl 5 rfl) ?_
      refine lv_aload_n X.1.1 X.1.2.1 dX8_lay_95 rfl (lv_at hl 0 rfl) ?_
      refine zgetR (ci := 8) (k := 22) (C := RX8) (T := TX8) (N := 24) X G rfl inX8_lay_X8 (Nat.le_of_ble_eq_true rfl) flX8_lay_47 dX8_lay_96 hf (fun v2 hf => ?_)
      refine lv_iload X.1.1 X.1.2.1 dX8_lay_99 (lv_at hl 5 rfl) ?_
      refine ziald X G dX8_lay_101 hf (fun v3 hf => ?_)
      refine ziast X G dX8_lay_102 hf (fun h4 H locs hf G => ?_)
      refine lv_iinc (v := (a6 + (1 : Int32))) (lv' := [(6, .int (a6 + (1 : Int32))), (0, .ref (b0 + r0)), (1, .int a1), (2, .int a2), (3, .int a3), (4, .int a4)]) X.1.1 X.1.2.1 dX8_lay_103 hl (k := 5) rfl rfl (by decide) rfl (fun ls hl => ?_)
      refine lv_goto (tgt := 83) X.1.1 X.1.2.1 dX8_lay_106 (by decide) ?_
      exact ih _ _ _ _ _ _ _ _ _ _ hf G (lv_sub hl [1, 2, 3, 4, 5, 0] rfl)
set_option maxHeartbeats 4000000 in
set_option maxRecDepth 100000 in
theorem w_X8_lay_b40 {p : Program} {l : Launch} {e : Env} {s : State} {m : MethodId} {args : Array Value} {below : List Frame} {meth : Method} {c : Code} {D : va_G} {dA : Nat → ClassId} {b0 : Nat} (X : zX p s m args c cX8_lay 7 RX8 wsX8_lay D dA) (hr : meth.sig.returnType = (some .int)) (hlk : meth.locks = false) {z : Int32 × zH} : ∀ (n : Nat), ∀ (r0 : Nat) (a1 : Int32) (a2 : Int32) (a3 : Int32) (a4 : Int32) (h : zH) (H : Heap) (locs : List Loc) (ls : Array Slot), f_X8_lay_b40 n r0 a1 a2 a3 a4 h = some z → zG D dA b0 s.heap h H locs → lv_has ls 7 [(0, .ref (b0 + r0)), (1, .int a1), (2, .int a2), (3, .int a3), (4, .int a4)] → W p l e rmX8_lay s m args below meth c H locs 0 0 (MQ below (zQ D dA b0 (some (.int z.1)) z.2) args s 0 0 (zA b0)) (F0 m 40 ls []) := by
  intro n
  induction n with
  | zero =>
    intro r0 a1 a2 a3 a4 h H locs ls hf
    cases hf
  | succ n ih =>
    intro r0 a1 a2 a3 a4 h H locs ls hf G hl
    rw [f_X8_lay_b40] at hf
    refine lv_iload X.1.1 X.1.2.1 dX8_lay_40 (lv_at hl 4 rfl) ?_
    refine lv_iconst (v := 1) X.1.1 X.1.2.1 dX8_lay_42 (by decide) ?_
    refine lv_iconst (v := 2) X.1.1 X.1.2.1 dX8_lay_43 (by decide) ?_
    refine lv_aload_n X.1.1 X.1.2.1 dX8_lay_44 rfl (lv_at hl 0 rfl) ?_
    refine zgetR (ci := 8) (k := 4) (C := RX8) (T := TX8) (N := 24) X G rfl inX8_lay_X8 (Nat.le_of_ble_eq_true rfl) flX8_lay_19 dX8_lay_45 hf (fun v1 hf => ?_)
    refine lv_iconst (v := 0) X.1.1 X.1.2.1 dX8_lay_48 (by decide) ?_
    refine ziald X G dX8_lay_49 hf (fun v2 hf => ?_)
    refine lv_imul X.1.1 X.1.2.1 dX8_lay_50 ?_
    refine lv_ishl X.1.1 X.1.2.1 dX8_lay_51 ?_
    refine zic_ge (tgt := 115) X dX8_lay_52 (by decide) hf (fun hf => ?_) (fun hf => ?_)
    · refine lv_iload_n X.1.1 X.1.2.1 dX8_lay_115 rfl (lv_at hl 3 rfl) ?_
      refine lv_ldc (v := 1000000) X.1.1 X.1.2.1 X.1.2.2.2.1 (X.1.2.2.2.2 _ coX8_lay_207) dX8_lay_116 ?_
      refine zic_ne (tgt := 126) X dX8_lay_118 (by decide) hf (fun hf => ?_) (fun hf => ?_)
      · refine lv_iload_n X.1.1 X.1.2.1 dX8_lay_126 rfl (lv_at hl 2 rfl) ?_
        refine lv_iconst (v := -1) X.1.1 X.1.2.1 dX8_lay_127 (by decide) ?_
        refine zic_ne (tgt := 135) X dX8_lay_128 (by decide) hf (fun hf => ?_) (fun hf => ?_)
        · refine lv_aload_n X.1.1 X.1.2.1 dX8_lay_135 rfl (lv_at hl 0 rfl) ?_
          refine lv_iload_n X.1.1 X.1.2.1 dX8_lay_136 rfl (lv_at hl 2 rfl) ?_
          obtain ⟨hk, hf⟩ := zck hf
          obtain ⟨q3, eq3, hf⟩ := Option.bind_eq_some_iff.mp hf
          refine zcV0 (As := [.int a2]) (rest := []) (v := (some (.int q3))) (h' := h) X G (rfl : vwCl[8]? = some (RX8, TX8, 24)) hk (m_X8_isThing l D dA b0 r0 a2 h q3 eq3) (cwV 1 X.1.2.2.2.2 gX8_lay_X8_isThing rfl rfl rfl hdV_X8_isThing ⟨(Nat.le_of_ble_eq_true rfl), (Nat.le_of_ble_eq_true rfl)⟩) rfl hl.1 rfl (Nat.le_of_ble_eq_true rfl) dX8_lay_137 ⟨Nat.zero_le _, Nat.zero_le _⟩ (fun H locs G => ?_)
          refine zif_eq (tgt := 152) X dX8_lay_140 (by decide) hf (fun hf => ?_) (fun hf => ?_)
          · refine lv_ldc (v := -1000000) X.1.1 X.1.2.1 X.1.2.2.2.1 (X.1.2.2.2.2 _ coX8_lay_157) dX8_lay_152 ?_
            exact zretI X hr hlk G hf dX8_lay_154
          · refine lv_aload_n X.1.1 X.1.2.1 dX8_lay_143 rfl (lv_at hl 0 rfl) ?_
            refine zgetR (ci := 8) (k := 23) (C := RX8) (T := TX8) (N := 24) X G rfl inX8_lay_X8 (Nat.le_of_ble_eq_true rfl) flX8_lay_50 dX8_lay_144 hf (fun v4 hf => ?_)
            refine lv_iload_n X.1.1 X.1.2.1 dX8_lay_147 rfl (lv_at hl 2 rfl) ?_
            refine ziald X G dX8_lay_148 hf (fun v5 hf => ?_)
            refine lv_goto (tgt := 154) X.1.1 X.1.2.1 dX8_lay_149 (by decide) ?_
            exact zretI X hr hlk G hf dX8_lay_154
        · refine lv_iload_n X.1.1 X.1.2.1 dX8_lay_131 rfl (lv_at hl 3 rfl) ?_
          refine lv_goto (tgt := 154) X.1.1 X.1.2.1 dX8_lay_132 (by decide) ?_
          exact zretI X hr hlk G hf dX8_lay_154
      · refine lv_ldc (v := -1000000) X.1.1 X.1.2.1 X.1.2.2.2.1 (X.1.2.2.2.2 _ coX8_lay_157) dX8_lay_121 ?_
        refine lv_goto (tgt := 154) X.1.1 X.1.2.1 dX8_lay_123 (by decide) ?_
        exact zretI X hr hlk G hf dX8_lay_154
    · refine lv_aload_n X.1.1 X.1.2.1 dX8_lay_55 rfl (lv_at hl 0 rfl) ?_
      refine lv_iload X.1.1 X.1.2.1 dX8_lay_56 (lv_at hl 4 rfl) ?_
      obtain ⟨hk, hf⟩ := zck hf
      obtain ⟨q6, eq6, hf⟩ := Option.bind_eq_some_iff.mp hf
      refine zcV0 (As := [.int a4]) (rest := []) (v := (some (.int q6.1))) (h' := q6.2) X G (rfl : vwCl[8]? = some (RX8, TX8, 24)) hk (m_X8_layPlaces l D dA b0 r0 a4 h q6 eq6) (cwV 1 X.1.2.2.2.2 gX8_lay_X8_layPlaces rfl rfl rfl hdV_X8_layPlaces ⟨(Nat.le_of_ble_eq_true rfl), (Nat.le_of_ble_eq_true rfl)⟩) rfl hl.1 rfl (Nat.le_of_ble_eq_true rfl) dX8_lay_58 ⟨Nat.zero_le _, Nat.zero_le _⟩ (fun H locs G => ?_)
      refine lv_istore (lv' := [(5, .int q6.1), (0, .ref (b0 + r0)), (1, .int a1), (2, .int a2), (3, .int a3), (4, .int a4)]) X.1.1 X.1.2.1 dX8_lay_61 hl (by decide) rfl (fun ls hl => ?_)
      refine lv_iload X.1.1 X.1.2.1 dX8_lay_63 (lv_at hl 0 rfl) ?_
      refine lv_iload_n X.1.1 X.1.2.1 dX8_lay_65 rfl (lv_at hl 4 rfl) ?_
      refine zic_ge (tgt := 109) X dX8_lay_66 (by decide) hf (fun hf => ?_) (fun hf => ?_)
      · refine lv_iinc (v := (a4 + (1 : Int32))) (lv' := [(4, .int (a4 + (1 : Int32))), (5, .int q6.1), (0, .ref (b0 + r0)), (1, .int a1), (2, .int a2), (3, .int a3)]) X.1.1 X.1.2.1 dX8_lay_109 hl (k := 5) rfl rfl (by decide) rfl (fun ls hl => ?_)
        refine lv_goto (tgt := 40) X.1.1 X.1.2.1 dX8_lay_112 (by decide) ?_
        exact ih _ _ _ _ _ _ _ _ _ hf G (lv_sub hl [2, 3, 4, 5, 0] rfl)
      · refine lv_aload_n X.1.1 X.1.2.1 dX8_lay_69 rfl (lv_at hl 1 rfl) ?_
        refine lv_iload_n X.1.1 X.1.2.1 dX8_lay_70 rfl (lv_at hl 2 rfl) ?_
        obtain ⟨hk, hf⟩ := zck hf
        obtain ⟨q7, eq7, hf⟩ := Option.bind_eq_some_iff.mp hf
        refine zcV0 (As := [.int a1]) (rest := []) (v := (some (.int q7.1))) (h' := q7.2) X G (rfl : vwCl[8]? = some (RX8, TX8, 24)) hk (m_X8_rests l D dA b0 r0 a1 q6.2 q7 eq7) (cwV 1 X.1.2.2.2.2 gX8_lay_X8_rests rfl rfl rfl hdV_X8_rests ⟨(Nat.le_of_ble_eq_true rfl), (Nat.le_of_ble_eq_true rfl)⟩) rfl hl.1 rfl (Nat.le_of_ble_eq_true rfl) dX8_lay_71 ⟨Nat.zero_le _, Nat.zero_le _⟩ (fun H locs G => ?_)
        refine zif_eq (tgt := 109) X dX8_lay_74 (by decide) hf (fun hf => ?_) (fun hf => ?_)
        · refine lv_iinc (v := (a4 + (1 : Int32))) (lv' := [(4, .int (a4 + (1 : Int32))), (5, .int q6.1), (0, .ref (b0 + r0)), (1, .int a1), (2, .int a2), (3, .int a3)]) X.1.1 X.1.2.1 dX8_lay_109 hl (k := 5) rfl rfl (by decide) rfl (fun ls hl => ?_)
          refine lv_goto (tgt := 40) X.1.1 X.1.2.1 dX8_lay_112 (by decide) ?_
          exact ih _ _ _ _ _ _ _ _ _ hf G (lv_sub hl [2, 3, 4, 5, 0] rfl)
        · refine lv_iload X.1.1 X.1.2.1 dX8_lay_77 (lv_at hl 0 rfl) ?_
          refine lv_istore_n (lv' := [(3, .int q6.1), (5, .int q6.1), (0, .ref (b0 + r0)), (1, .int a1), (2, .int a2), (4, .int a4)]) X.1.1 X.1.2.1 dX8_lay_79 rfl hl (by decide) rfl (fun ls hl => ?_)
          refine lv_iconst (v := 0) X.1.1 X.1.2.1 dX8_lay_80 (by decide) ?_
          refine lv_istore (lv' := [(6, .int (0 : Int32)), (3, .int q6.1), (5, .int q6.1), (0, .ref (b0 + r0)), (1, .int a1), (2, .int a2), (4, .int a4)]) X.1.1 X.1.2.1 dX8_lay_81 hl (by decide) rfl (fun ls hl => ?_)
          exact w_X8_lay_b83 X hr hlk _ ih _ _ _ _ _ _ _ _ _ _ _ hf G (lv_sub hl [3, 4, 5, 1, 6, 0] rfl)
set_option maxHeartbeats 4000000 in
set_option maxRecDepth 100000 in
theorem m_X8_lay (l : Launch) (D : va_G) (dA : Nat → ClassId) (b0 : Nat) (r0 : Nat) (a1 : Int32) (a2 : Int32) (h : zH) (z : Int32 × zH) (hf : f_X8_lay r0 a1 a2 h = some z) : Met l yX8_lay wsX8_lay rmX8_lay (zPc D dA b0 [.ref (b0 + r0), .int a1, .int a2] h) (zQ D dA b0 (some (.int z.1)) z.2) 0 0 (zA b0) := by
  refine Met.ofW (cc := cX8_lay) (maxL := 7) (ret := (some .int)) (by decide) rfl ?_
  intro p e s m args below meth c s₁ B hml hv
  obtain ⟨rfl, hP, hz, hK, hN⟩ := hv
  have hr := B.returns
  have hlk := B.notSynchronized
  have X : zX p s m _ c cX8_lay 7 RX8 wsX8_lay D dA := ⟨⟨B.exec, B.bytes, hml, findClass_of_methodNamed B.named, atoms_spec (ws := wsX8_lay) B.pre⟩, hK, hN⟩
  have G : zG D dA b0 s.heap h s.heap [] := ⟨hP, hz, va_S.rf⟩
  have hl := lv_entry ([.ref (b0 + r0), .int a1, .int a2]) (n := 7) (Nat.le_of_ble_eq_true rfl)
  rw [lg_entry_eq]
  generalize (lg_sl ([.ref (b0 + r0), .int a1, .int a2]) ++ List.replicate (7 - (lg_sl ([.ref (b0 + r0), .int a1, .int a2])).length) Slot.unset).toArray = ls at hl ⊢
  have hl : lv_has ls 7 [(0, .ref (b0 + r0)), (1, .int a1), (2, .int a2)] := hl
  unfold f_X8_lay at hf
  refine lv_aload_n X.1.1 X.1.2.1 dX8_lay_0 rfl (lv_at hl 0 rfl) ?_
  obtain ⟨hk, hf⟩ := zck hf
  obtain ⟨q1, eq1, hf⟩ := Option.bind_eq_some_iff.mp hf
  refine zcV0 (As := []) (rest := []) (v := (some (.int q1))) (h' := h) X G (rfl : vwCl[8]? = some (RX8, TX8, 24)) hk (m_X8_isMine l D dA b0 r0 h q1 eq1) (cwV 0 X.1.2.2.2.2 gX8_lay_X8_isMine rfl rfl rfl hdV_X8_isMine ⟨(Nat.le_of_ble_eq_true rfl), (Nat.le_of_ble_eq_true rfl)⟩) rfl hl.1 rfl (Nat.le_of_ble_eq_true rfl) dX8_lay_1 ⟨Nat.zero_le _, Nat.zero_le _⟩ (fun H locs G => ?_)
  refine zif_ne (tgt := 10) X dX8_lay_4 (by decide) hf (fun hf => ?_) (fun hf => ?_)
  · refine lv_iload_n X.1.1 X.1.2.1 dX8_lay_10 rfl (lv_at hl 1 rfl) ?_
    obtain ⟨q2, eq2, hf⟩ := Option.bind_eq_some_iff.mp hf
    refine zcS0 (As := [.int a1]) (rest := []) (v := (some (.int q2))) (h' := h) X G (m_X8_isSpan l D dA b0 a1 h q2 eq2) (va_cwS 1 X.1.2.2.2.2 gX8_lay_X8_isSpan rfl rfl rfl hdS_X8_isSpan ⟨(Nat.le_of_ble_eq_true rfl), (Nat.le_of_ble_eq_true rfl)⟩) rfl hl.1 rfl (Nat.le_of_ble_eq_true rfl) dX8_lay_11 ⟨Nat.zero_le _, Nat.zero_le _⟩ (fun H locs G => ?_)
    refine zif_eq (tgt := 31) X dX8_lay_14 (by decide) hf (fun hf => ?_) (fun hf => ?_)
    · refine lv_ldc (v := -1000001) X.1.1 X.1.2.1 X.1.2.2.2.1 (X.1.2.2.2.2 _ coX8_lay_70) dX8_lay_31 ?_
      exact zretI X hr hlk G hf dX8_lay_33
    · refine lv_iload_n X.1.1 X.1.2.1 dX8_lay_17 rfl (lv_at hl 2 rfl) ?_
      refine lv_i2l X.1.1 X.1.2.1 dX8_lay_18 rfl ?_
      refine lv_ldc2 (v := -1) X.1.1 X.1.2.1 X.1.2.2.2.1 (X.1.2.2.2.2 _ clX8_lay_208) dX8_lay_19 ?_
      refine lv_ldc2 (v := 4) X.1.1 X.1.2.1 X.1.2.2.2.1 (X.1.2.2.2.2 _ clX8_lay_210) dX8_lay_22 ?_
      obtain ⟨q3, eq3, hf⟩ := Option.bind_eq_some_iff.mp hf
      refine zcS0 (As := [.long (Int32.toInt64 a2), .long (-1 : Int64), .long (4 : Int64)]) (rest := []) (v := (some (.int q3))) (h' := h) X G (m_X8_in l D dA b0 ((Int32.toInt64 a2)) (-1 : Int64) (4 : Int64) h q3 eq3) (va_cwS 3 X.1.2.2.2.2 gX8_lay_X8_in rfl rfl rfl hdS_X8_in ⟨(Nat.le_of_ble_eq_true rfl), (Nat.le_of_ble_eq_true rfl)⟩) rfl hl.1 rfl (Nat.le_of_ble_eq_true rfl) dX8_lay_25 ⟨Nat.zero_le _, Nat.zero_le _⟩ (fun H locs G => ?_)
      refine zif_ne (tgt := 34) X dX8_lay_28 (by decide) hf (fun hf => ?_) (fun hf => ?_)
      · refine lv_ldc (v := 1000000) X.1.1 X.1.2.1 X.1.2.2.2.1 (X.1.2.2.2.2 _ coX8_lay_207) dX8_lay_34 ?_
        refine lv_istore_n (lv' := [(3, .int (1000000 : Int32)), (0, .ref (b0 + r0)), (1, .int a1), (2, .int a2)]) X.1.1 X.1.2.1 dX8_lay_36 rfl hl (by decide) rfl (fun ls hl => ?_)
        refine lv_iconst (v := 0) X.1.1 X.1.2.1 dX8_lay_37 (by decide) ?_
        refine lv_istore (lv' := [(4, .int (0 : Int32)), (3, .int (1000000 : Int32)), (0, .ref (b0 + r0)), (1, .int a1), (2, .int a2)]) X.1.1 X.1.2.1 dX8_lay_38 hl (by decide) rfl (fun ls hl => ?_)
        exact w_X8_lay_b40 X hr hlk _ _ _ _ _ _ _ _ _ _ hf G (lv_sub hl [2, 3, 4, 1, 0] rfl)
      · refine lv_ldc (v := -1000001) X.1.1 X.1.2.1 X.1.2.2.2.1 (X.1.2.2.2.2 _ coX8_lay_70) dX8_lay_31 ?_
        exact zretI X hr hlk G hf dX8_lay_33
  · refine lv_ldc (v := -1000002) X.1.1 X.1.2.1 X.1.2.2.2.1 (X.1.2.2.2.2 _ coX8_lay_163) dX8_lay_7 ?_
    exact zretI X hr hlk G hf dX8_lay_9
