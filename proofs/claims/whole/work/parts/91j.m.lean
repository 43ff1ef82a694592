/-! X7_image -/
abbrev rmX7_image : Room := { frames := 1, cells := 0, slots := 0, locals := 22 }
theorem hdV_X7_image : yX7_image.cls = RX7 ∧ yX7_image.cls ≠ "java/lang/invoke/MethodHandle" ∧ yX7_image.cls ≠ "java/lang/invoke/VarHandle" ∧ (parseMethodDescriptor yX7_image.desc).map (fun d => d.parameters.length) = some 1 := by decide +kernel
theorem inX7_image_X7 : ∀ w ∈ wsX70, w ∈ wsX7_image := by decide +kernel
theorem flX7_image_26 : Cond.fieldLink RX7 26 (TX7 2).1 (TX7 2).2.1 (TX7 2).2.2.1 ∈ wsX7_image := by decide +kernel
theorem inX7_image_X3 : ∀ w ∈ wsX30, w ∈ wsX7_image := by decide +kernel
theorem flX7_image_141 : Cond.fieldLink RX7 141 (TX3 0).1 (TX3 0).2.1 (TX3 0).2.2.1 ∈ wsX7_image := by decide +kernel
theorem flX7_image_40 : Cond.fieldLink RX7 40 (TX7 5).1 (TX7 5).2.1 (TX7 5).2.2.1 ∈ wsX7_image := by decide +kernel
theorem coX7_image_145 : Cond.constant RX7 145 (-1000002) ∈ wsX7_image := by decide +kernel
theorem coX7_image_76 : Cond.constant RX7 76 (-1000001) ∈ wsX7_image := by decide +kernel
set_option maxHeartbeats 4000000 in
set_option maxRecDepth 100000 in
theorem m_X7_image (l : Launch) (D : va_G) (dA : Nat → ClassId) (b0 : Nat) (r0 : Nat) (a1 : Int32) (h : zH) (z : Int32 × zH) (hf : f_X7_image r0 a1 h = some z) : Met l yX7_image wsX7_image rmX7_image (zPc D dA b0 [.ref (b0 + r0), .int a1] h) (zQ D dA b0 (some (.int z.1)) z.2) 0 0 (zA b0) := by
  refine Met.ofW (cc := cX7_image) (maxL := 2) (ret := (some .int)) (by decide) rfl ?_
  intro p e s m args below meth c s₁ B hml hv
  obtain ⟨rfl, hP, hz, hK, hN⟩ := hv
  have hr := B.returns
  have hlk := B.notSynchronized
  have X : zX p s m _ c cX7_image 2 RX7 wsX7_image D dA := ⟨⟨B.exec, B.bytes, hml, findClass_of_methodNamed B.named, atoms_spec (ws := wsX7_image) B.pre⟩, hK, hN⟩
  have G : zG D dA b0 s.heap h s.heap [] := ⟨hP, hz, va_S.rf⟩
  have hl := lv_entry ([.ref (b0 + r0), .int a1]) (n := 2) (Nat.le_of_ble_eq_true rfl)
  rw [lg_entry_eq]
  generalize (lg_sl ([.ref (b0 + r0), .int a1]) ++ List.replicate (2 - (lg_sl ([.ref (b0 + r0), .int a1])).length) Slot.unset).toArray = ls at hl ⊢
  have hl : lv_has ls 2 [(0, .ref (b0 + r0)), (1, .int a1)] := hl
  unfold f_X7_image at hf
  refine lv_iload_n X.1.1 X.1.2.1 dX7_image_0 rfl (lv_at hl 1 rfl) ?_
  obtain ⟨q1, eq1, hf⟩ := Option.bind_eq_some_iff.mp hf
  refine zcS0 (As := [.int a1]) (rest := []) (v := (some (.int q1))) (h' := h) X G (m_X7_isImage l D dA b0 a1 h q1 eq1) (va_cwS 1 X.1.2.2.2.2 gX7_image_X7_isImage rfl rfl rfl hdS_X7_isImage ⟨(Nat.le_of_ble_eq_true rfl), (Nat.le_of_ble_eq_true rfl)⟩) rfl hl.1 rfl (Nat.le_of_ble_eq_true rfl) dX7_image_1 ⟨Nat.zero_le _, Nat.zero_le _⟩ (fun H locs G => ?_)
  refine zif_ne (tgt := 10) X dX7_image_4 (by decide) hf (fun hf => ?_) (fun hf => ?_)
  · refine lv_aload_n X.1.1 X.1.2.1 dX7_image_10 rfl (lv_at hl 0 rfl) ?_
    refine zgetR (ci := 7) (k := 2) (C := RX7) (T := TX7) (N := 11) X G rfl inX7_image_X7 (Nat.le_of_ble_eq_true rfl) flX7_image_26 dX7_image_11 hf (fun v2 hf => ?_)
    refine zgetI (ci := 3) (k := 0) (C := RX3) (T := TX3) (N := 12) X G rfl inX7_image_X3 (Nat.le_of_ble_eq_true rfl) flX7_image_141 dX7_image_14 hf (fun v3 hf => ?_)
    refine zif_ne (tgt := 23) X dX7_image_17 (by decide) hf (fun hf => ?_) (fun hf => ?_)
    · refine lv_aload_n X.1.1 X.1.2.1 dX7_image_23 rfl (lv_at hl 0 rfl) ?_
      refine zgetR (ci := 7) (k := 5) (C := RX7) (T := TX7) (N := 11) X G rfl inX7_image_X7 (Nat.le_of_ble_eq_true rfl) flX7_image_40 dX7_image_24 hf (fun v4 hf => ?_)
      refine lv_iload_n X.1.1 X.1.2.1 dX7_image_27 rfl (lv_at hl 1 rfl) ?_
      refine zaald 2 X G rfl rfl dX7_image_28 hf (fun v5 hf => ?_)
      refine lv_aload_n X.1.1 X.1.2.1 dX7_image_29 rfl (lv_at hl 0 rfl) ?_
      refine zgetR (ci := 7) (k := 2) (C := RX7) (T := TX7) (N := 11) X G rfl inX7_image_X7 (Nat.le_of_ble_eq_true rfl) flX7_image_26 dX7_image_30 hf (fun v6 hf => ?_)
      obtain ⟨hk, hf⟩ := zck hf
      obtain ⟨q7, eq7, hf⟩ := Option.bind_eq_some_iff.mp hf
      refine zcV0 (As := [.ref (b0 + v6)]) (rest := []) (v := none) (h' := q7) X G (rfl : vwCl[3]? = some (RX3, TX3, 12)) hk (m_X3_become l D dA b0 v5 v6 h q7 eq7) (cwV 1 X.1.2.2.2.2 gX7_image_X3_become rfl rfl rfl hdV_X3_become ⟨(Nat.le_of_ble_eq_true rfl), (Nat.le_of_ble_eq_true rfl)⟩) rfl hl.1 rfl (Nat.le_of_ble_eq_true rfl) dX7_image_33 ⟨Nat.zero_le _, Nat.zero_le _⟩ (fun H locs G => ?_)
      refine lv_iconst (v := 1) X.1.1 X.1.2.1 dX7_image_36 (by decide) ?_
      exact zretI X hr hlk G hf dX7_image_37
    · refine lv_ldc (v := -1000002) X.1.1 X.1.2.1 X.1.2.2.2.1 (X.1.2.2.2.2 _ coX7_image_145) dX7_image_20 ?_
      exact zretI X hr hlk G hf dX7_image_22
  · refine lv_ldc (v := -1000001) X.1.1 X.1.2.1 X.1.2.2.2.1 (X.1.2.2.2.2 _ coX7_image_76) dX7_image_7 ?_
    exact zretI X hr hlk G hf dX7_image_9
/-! X7_restore -/
abbrev rmX7_restore : Room := { frames := 1, cells := 0, slots := 0, locals := 22 }
theorem hdV_X7_restore : yX7_restore.cls = RX7 ∧ yX7_restore.cls ≠ "java/lang/invoke/MethodHandle" ∧ yX7_restore.cls ≠ "java/lang/invoke/VarHandle" ∧ (parseMethodDescriptor yX7_restore.desc).map (fun d => d.parameters.length) = some 1 := by decide +kernel
theorem inX7_restore_X7 : ∀ w ∈ wsX70, w ∈ wsX7_restore := by decide +kernel
theorem flX7_restore_40 : Cond.fieldLink RX7 40 (TX7 5).1 (TX7 5).2.1 (TX7 5).2.2.1 ∈ wsX7_restore := by decide +kernel
theorem inX7_restore_X3 : ∀ w ∈ wsX30, w ∈ wsX7_restore := by decide +kernel
theorem flX7_restore_141 : Cond.fieldLink RX7 141 (TX3 0).1 (TX3 0).2.1 (TX3 0).2.2.1 ∈ wsX7_restore := by decide +kernel
theorem flX7_restore_26 : Cond.fieldLink RX7 26 (TX7 2).1 (TX7 2).2.1 (TX7 2).2.2.1 ∈ wsX7_restore := by decide +kernel
theorem flX7_restore_36 : Cond.fieldLink RX7 36 (TX7 4).1 (TX7 4).2.1 (TX7 4).2.2.1 ∈ wsX7_restore := by decide +kernel
theorem coX7_restore_145 : Cond.constant RX7 145 (-1000002) ∈ wsX7_restore := by decide +kernel
theorem coX7_restore_76 : Cond.constant RX7 76 (-1000001) ∈ wsX7_restore := by decide +kernel
set_option maxHeartbeats 4000000 in
set_option maxRecDepth 100000 in
theorem m_X7_restore (l : Launch) (D : va_G) (dA : Nat → ClassId) (b0 : Nat) (r0 : Nat) (a1 : Int32) (h : zH) (z : Int32 × zH) (hf : f_X7_restore r0 a1 h = some z) : Met l yX7_restore wsX7_restore rmX7_restore (zPc D dA b0 [.ref (b0 + r0), .int a1] h) (zQ D dA b0 (some (.int z.1)) z.2) 0 0 (zA b0) := by
  refine Met.ofW (cc := cX7_restore) (maxL := 2) (ret := (some .int)) (by decide) rfl ?_
  intro p e s m args below meth c s₁ B hml hv
  obtain ⟨rfl, hP, hz, hK, hN⟩ := hv
  have hr := B.returns
  have hlk := B.notSynchronized
  have X : zX p s m _ c cX7_restore 2 RX7 wsX7_restore D dA := ⟨⟨B.exec, B.bytes, hml, findClass_of_methodNamed B.named, atoms_spec (ws := wsX7_restore) B.pre⟩, hK, hN⟩
  have G : zG D dA b0 s.heap h s.heap [] := ⟨hP, hz, va_S.rf⟩
  have hl := lv_entry ([.ref (b0 + r0), .int a1]) (n := 2) (Nat.le_of_ble_eq_true rfl)
  rw [lg_entry_eq]
  generalize (lg_sl ([.ref (b0 + r0), .int a1]) ++ List.replicate (2 - (lg_sl ([.ref (b0 + r0), .int a1])).length) Slot.unset).toArray = ls at hl ⊢
  have hl : lv_has ls 2 [(0, .ref (b0 + r0)), (1, .int a1)] := hl
  unfold f_X7_restore at hf
  refine lv_iload_n X.1.1 X.1.2.1 dX7_restore_0 rfl (lv_at hl 1 rfl) ?_
  obtain ⟨q1, eq1, hf⟩ := Option.bind_eq_some_iff.mp hf
  refine zcS0 (As := [.int a1]) (rest := []) (v := (some (.int q1))) (h' := h) X G (m_X7_isImage l D dA b0 a1 h q1 eq1) (va_cwS 1 X.1.2.2.2.2 gX7_restore_X7_isImage rfl rfl rfl hdS_X7_isImage ⟨(Nat.le_of_ble_eq_true rfl), (Nat.le_of_ble_eq_true rfl)⟩) rfl hl.1 rfl (Nat.le_of_ble_eq_true rfl) dX7_restore_1 ⟨Nat.zero_le _, Nat.zero_le _⟩ (fun H locs G => ?_)
  refine zif_ne (tgt := 10) X dX7_restore_4 (by decide) hf (fun hf => ?_) (fun hf => ?_)
  · refine lv_aload_n X.1.1 X.1.2.1 dX7_restore_10 rfl (lv_at hl 0 rfl) ?_
    refine zgetR (ci := 7) (k := 5) (C := RX7) (T := TX7) (N := 11) X G rfl inX7_restore_X7 (Nat.le_of_ble_eq_true rfl) flX7_restore_40 dX7_restore_11 hf (fun v2 hf => ?_)
    refine lv_iload_n X.1.1 X.1.2.1 dX7_restore_14 rfl (lv_at hl 1 rfl) ?_
    refine zaald 2 X G rfl rfl dX7_restore_15 hf (fun v3 hf => ?_)
    refine zgetI (ci := 3) (k := 0) (C := RX3) (T := TX3) (N := 12) X G rfl inX7_restore_X3 (Nat.le_of_ble_eq_true rfl) flX7_restore_141 dX7_restore_16 hf (fun v4 hf => ?_)
    refine zif_ne (tgt := 25) X dX7_restore_19 (by decide) hf (fun hf => ?_) (fun hf => ?_)
    · refine lv_aload_n X.1.1 X.1.2.1 dX7_restore_25 rfl (lv_at hl 0 rfl) ?_
      refine zgetR (ci := 7) (k := 2) (C := RX7) (T := TX7) (N := 11) X G rfl inX7_restore_X7 (Nat.le_of_ble_eq_true rfl) flX7_restore_26 dX7_restore_26 hf (fun v5 hf => ?_)
      refine lv_aload_n X.1.1 X.1.2.1 dX7_restore_29 rfl (lv_at hl 0 rfl) ?_
      refine zgetR (ci := 7) (k := 5) (C := RX7) (T := TX7) (N := 11) X G rfl inX7_restore_X7 (Nat.le_of_ble_eq_true rfl) flX7_restore_40 dX7_restore_30 hf (fun v6 hf => ?_)
      refine lv_iload_n X.1.1 X.1.2.1 dX7_restore_33 rfl (lv_at hl 1 rfl) ?_
      refine zaald 2 X G rfl rfl dX7_restore_34 hf (fun v7 hf => ?_)
      obtain ⟨hk, hf⟩ := zck hf
      obtain ⟨q8, eq8, hf⟩ := Option.bind_eq_some_iff.mp hf
      refine zcV0 (As := [.ref (b0 + v7)]) (rest := []) (v := none) (h' := q8) X G (rfl : vwCl[3]? = some (RX3, TX3, 12)) hk (m_X3_become l D dA b0 v5 v7 h q8 eq8) (cwV 1 X.1.2.2.2.2 gX7_restore_X3_become rfl rfl rfl hdV_X3_become ⟨(Nat.le_of_ble_eq_true rfl), (Nat.le_of_ble_eq_true rfl)⟩) rfl hl.1 rfl (Nat.le_of_ble_eq_true rfl) dX7_restore_35 ⟨Nat.zero_le _, Nat.zero_le _⟩ (fun H locs G => ?_)
      refine lv_aload_n X.1.1 X.1.2.1 dX7_restore_38 rfl (lv_at hl 0 rfl) ?_
      refine zgetR (ci := 7) (k := 4) (C := RX7) (T := TX7) (N := 11) X G rfl inX7_restore_X7 (Nat.le_of_ble_eq_true rfl) flX7_restore_36 dX7_restore_39 hf (fun v9 hf => ?_)
      obtain ⟨hk, hf⟩ := zck hf
      obtain ⟨q10, eq10, hf⟩ := Option.bind_eq_some_iff.mp hf
      refine zcV0 (As := []) (rest := []) (v := none) (h' := q10) X G (rfl : vwCl[0]? = some (RX0, TX0, 3)) hk (m_X0_forgetAll l D dA b0 v9 q8 q10 eq10) (cwV 0 X.1.2.2.2.2 gX7_restore_X0_forgetAll rfl rfl rfl hdV_X0_forgetAll ⟨(Nat.le_of_ble_eq_true rfl), (Nat.le_of_ble_eq_true rfl)⟩) rfl hl.1 rfl (Nat.le_of_ble_eq_true rfl) dX7_restore_42 ⟨Nat.zero_le _, Nat.zero_le _⟩ (fun H locs G => ?_)
      refine lv_iconst (v := 1) X.1.1 X.1.2.1 dX7_restore_45 (by decide) ?_
      exact zretI X hr hlk G hf dX7_restore_46
    · refine lv_ldc (v := -1000002) X.1.1 X.1.2.1 X.1.2.2.2.1 (X.1.2.2.2.2 _ coX7_restore_145) dX7_restore_22 ?_
      exact zretI X hr hlk G hf dX7_restore_24
  · refine lv_ldc (v := -1000001) X.1.1 X.1.2.1 X.1.2.2.2.1 (X.1.2.2.2.2 _ coX7_restore_76) dX7_restore_7 ?_
    exact zretI X hr hlk G hf dX7_restore_9
/-! X7_kind -/
abbrev rmX7_kind : Room := { frames := 1, cells := 0, slots := 0, locals := 21 }
theorem hdV_X7_kind : yX7_kind.cls = RX7 ∧ yX7_kind.cls ≠ "java/lang/invoke/MethodHandle" ∧ yX7_kind.cls ≠ "java/lang/invoke/VarHandle" ∧ (parseMethodDescriptor yX7_kind.desc).map (fun d => d.parameters.length) = some 1 := by decide +kernel
theorem coX7_kind_76 : Cond.constant RX7 76 (-1000001) ∈ wsX7_kind := by decide +kernel
theorem inX7_kind_X7 : ∀ w ∈ wsX70, w ∈ wsX7_kind := by decide +kernel
theorem flX7_kind_26 : Cond.fieldLink RX7 26 (TX7 2).1 (TX7 2).2.1 (TX7 2).2.2.1 ∈ wsX7_kind := by decide +kernel
theorem inX7_kind_X3 : ∀ w ∈ wsX30, w ∈ wsX7_kind := by decide +kernel
theorem flX7_kind_270 : Cond.fieldLink RX7 270 (TX3 6).1 (TX3 6).2.1 (TX3 6).2.2.1 ∈ wsX7_kind := by decide +kernel
set_option maxHeartbeats 4000000 in
set_option maxRecDepth 100000 in
theorem m_X7_kind (l : Launch) (D : va_G) (dA : Nat → ClassId) (b0 : Nat) (r0 : Nat) (a1 : Int32) (h : zH) (z : Int32) (hf : f_X7_kind r0 a1 h = some z) : Met l yX7_kind wsX7_kind rmX7_kind (zPc D dA b0 [.ref (b0 + r0), .int a1] h) (zQ D dA b0 (some (.int z)) h) 0 0 (zA b0) := by
  refine Met.ofW (cc := cX7_kind) (maxL := 2) (ret := (some .int)) (by decide) rfl ?_
  intro p e s m args below meth c s₁ B hml hv
  obtain ⟨rfl, hP, hz, hK, hN⟩ := hv
  have hr := B.returns
  have hlk := B.notSynchronized
  have X : zX p s m _ c cX7_kind 2 RX7 wsX7_kind D dA := ⟨⟨B.exec, B.bytes, hml, findClass_of_methodNamed B.named, atoms_spec (ws := wsX7_kind) B.pre⟩, hK, hN⟩
  have G : zG D dA b0 s.heap h s.heap [] := ⟨hP, hz, va_S.rf⟩
  have hl := lv_entry ([.ref (b0 + r0), .int a1]) (n := 2) (Nat.le_of_ble_eq_true rfl)
  rw [lg_entry_eq]
  generalize (lg_sl ([.ref (b0 + r0), .int a1]) ++ List.replicate (2 - (lg_sl ([.ref (b0 + r0), .int a1])).length) Slot.unset).toArray = ls at hl ⊢
  have hl : lv_has ls 2 [(0, .ref (b0 + r0)), (1, .int a1)] := hl
  unfold f_X7_kind at hf
  refine lv_aload_n X.1.1 X.1.2.1 dX7_kind_0 rfl (lv_at hl 0 rfl) ?_
  refine lv_iload_n X.1.1 X.1.2.1 dX7_kind_1 rfl (lv_at hl 1 rfl) ?_
  obtain ⟨hk, hf⟩ := zck hf
  obtain ⟨q1, eq1, hf⟩ := Option.bind_eq_some_iff.mp hf
  refine zcV0 (As := [.int a1]) (rest := []) (v := (some (.int q1))) (h' := h) X G (rfl : vwCl[7]? = some (RX7, TX7, 11)) hk (m_X7_isThing l D dA b0 r0 a1 h q1 eq1) (cwV 1 X.1.2.2.2.2 gX7_kind_X7_isThing rfl rfl rfl hdV_X7_isThing ⟨(Nat.le_of_ble_eq_true rfl), (Nat.le_of_ble_eq_true rfl)⟩) rfl hl.1 rfl (Nat.le_of_ble_eq_true rfl) dX7_kind_2 ⟨Nat.zero_le _, Nat.zero_le _⟩ (fun H locs G => ?_)
  refine zif_eq (tgt := 20) X dX7_kind_5 (by decide) hf (fun hf => ?_) (fun hf => ?_)
  · refine lv_ldc (v := -1000001) X.1.1 X.1.2.1 X.1.2.2.2.1 (X.1.2.2.2.2 _ coX7_kind_76) dX7_kind_20 ?_
    exact zretIr X hr hlk G hf dX7_kind_22
  · refine lv_aload_n X.1.1 X.1.2.1 dX7_kind_8 rfl (lv_at hl 0 rfl) ?_
    refine zgetR (ci := 7) (k := 2) (C := RX7) (T := TX7) (N := 11) X G rfl inX7_kind_X7 (Nat.le_of_ble_eq_true rfl) flX7_kind_26 dX7_kind_9 hf (fun v2 hf => ?_)
    refine zgetR (ci := 3) (k := 6) (C := RX3) (T := TX3) (N := 12) X G rfl inX7_kind_X3 (Nat.le_of_ble_eq_true rfl) flX7_kind_270 dX7_kind_12 hf (fun v3 hf => ?_)
    refine lv_iload_n X.1.1 X.1.2.1 dX7_kind_15 rfl (lv_at hl 1 rfl) ?_
    refine ziald X G dX7_kind_16 hf (fun v4 hf => ?_)
    refine lv_goto (tgt := 22) X.1.1 X.1.2.1 dX7_kind_17 (by decide) ?_
    exact zretIr X hr hlk G hf dX7_kind_22
/-! X7_isOfKind -/
abbrev rmX7_isOfKind : Room := { frames := 1, cells := 0, slots := 0, locals := 20 }
theorem hdS_X7_isOfKind : yX7_isOfKind.cls ≠ "java/lang/invoke/MethodHandle" ∧ yX7_isOfKind.cls ≠ "java/lang/invoke/VarHandle" ∧ (parseMethodDescriptor yX7_isOfKind.desc).map (fun d => d.parameters.length) = some 2 := by decide +kernel
set_option maxHeartbeats 4000000 in
set_option maxRecDepth 100000 in
theorem w_X7_isOfKind_b25 {p : Program} {l : Launch} {e : Env} {s : State} {m : MethodId} {args : Array Value} {below : List Frame} {meth : Method} {c : Code} {D : va_G} {dA : Nat → ClassId} {b0 : Nat} {h : zH} (X : zX p s m args c cX7_isOfKind 4 RX7 wsX7_isOfKind D dA) (hr : meth.sig.returnType = (some .boolean)) (hlk : meth.locks = false) {z : Int32} : ∀ (a1 : Int32) (a2 : Int32) (H : Heap) (locs : List Loc) (ls : Array Slot), f_X7_isOfKind_b25 h a1 a2 = some z → zG D dA b0 s.heap h H locs → lv_has ls 4 [(1, .int a1), (2, .int a2)] → W p l e rmX7_isOfKind s m args below meth c H locs 0 0 (MQ below (zQ D dA b0 (some (.int z)) h) args s 0 0 (zA b0)) (F0 m 25 ls []) := by
  intro a1 a2 H locs ls hf G hl
  unfold f_X7_isOfKind_b25 at hf
  refine lv_iload_n X.1.1 X.1.2.1 dX7_isOfKind_25 rfl (lv_at hl 1 rfl) ?_
  refine lv_iload_n X.1.1 X.1.2.1 dX7_isOfKind_26 rfl (lv_at hl 0 rfl) ?_
  refine zic_ne (tgt := 34) X dX7_isOfKind_27 (by decide) hf (fun hf => ?_) (fun hf => ?_)
  · refine lv_iconst (v := 0) X.1.1 X.1.2.1 dX7_isOfKind_34 (by decide) ?_
    exact zretZr X hr hlk G hf dX7_isOfKind_35
  · refine lv_iconst (v := 1) X.1.1 X.1.2.1 dX7_isOfKind_30 (by decide) ?_
    refine lv_goto (tgt := 35) X.1.1 X.1.2.1 dX7_isOfKind_31 (by decide) ?_
    exact zretZr X hr hlk G hf dX7_isOfKind_35
set_option maxHeartbeats 4000000 in
set_option maxRecDepth 100000 in
theorem w_X7_isOfKind_b4 {p : Program} {l : Launch} {e : Env} {s : State} {m : MethodId} {args : Array Value} {below : List Frame} {meth : Method} {c : Code} {D : va_G} {dA : Nat → ClassId} {b0 : Nat} {h : zH} (X : zX p s m args c cX7_isOfKind 4 RX7 wsX7_isOfKind D dA) (hr : meth.sig.returnType = (some .boolean)) (hlk : meth.locks = false) {z : Int32} : ∀ (n : Nat), ∀ (a1 : Int32) (a2 : Int32) (a3 : Int32) (H : Heap) (locs : List Loc) (ls : Array Slot), f_X7_isOfKind_b4 h n a1 a2 a3 = some z → zG D dA b0 s.heap h H locs → lv_has ls 4 [(1, .int a1), (2, .int a2), (3, .int a3)] → W p l e rmX7_isOfKind s m args below meth c H locs 0 0 (MQ below (zQ D dA b0 (some (.int z)) h) args s 0 0 (zA b0)) (F0 m 4 ls []) := by
  intro n
  induction n with
  | zero =>
    intro a1 a2 a3 H locs ls hf
    cases hf
  | succ n ih =>
    intro a1 a2 a3 H locs ls hf G hl
    rw [f_X7_isOfKind_b4] at hf
    refine lv_iload_n X.1.1 X.1.2.1 dX7_isOfKind_4 rfl (lv_at hl 2 rfl) ?_
    refine lv_iconst (v := 5) X.1.1 X.1.2.1 dX7_isOfKind_5 (by decide) ?_
    refine zic_ge (tgt := 25) X dX7_isOfKind_6 (by decide) hf (fun hf => ?_) (fun hf => ?_)
    · exact w_X7_isOfKind_b25 X hr hlk _ _ _ _ _ hf G (lv_sub hl [0, 1] rfl)
    · refine lv_iload_n X.1.1 X.1.2.1 dX7_isOfKind_9 rfl (lv_at hl 1 rfl) ?_
      refine lv_iload_n X.1.1 X.1.2.1 dX7_isOfKind_10 rfl (lv_at hl 0 rfl) ?_
      refine zic_eq (tgt := 25) X dX7_isOfKind_11 (by decide) hf (fun hf => ?_) (fun hf => ?_)
      · exact w_X7_isOfKind_b25 X hr hlk _ _ _ _ _ hf G (lv_sub hl [0, 1] rfl)
      · refine lv_iload_n X.1.1 X.1.2.1 dX7_isOfKind_14 rfl (lv_at hl 1 rfl) ?_
        obtain ⟨q1, eq1, hf⟩ := Option.bind_eq_some_iff.mp hf
        refine zcS0 (As := [.int a2]) (rest := []) (v := (some (.int q1))) (h' := h) X G (m_X7_kindAbove l D dA b0 a2 h q1 eq1) (va_cwS 1 X.1.2.2.2.2 gX7_isOfKind_X7_kindAbove rfl rfl rfl hdS_X7_kindAbove ⟨(Nat.le_of_ble_eq_true rfl), (Nat.le_of_ble_eq_true rfl)⟩) rfl hl.1 rfl (Nat.le_of_ble_eq_true rfl) dX7_isOfKind_15 ⟨Nat.zero_le _, Nat.zero_le _⟩ (fun H locs G => ?_)
        refine lv_istore_n (lv' := [(2, .int q1), (1, .int a1), (3, .int a3)]) X.1.1 X.1.2.1 dX7_isOfKind_18 rfl hl (by decide) rfl (fun ls hl => ?_)
        refine lv_iinc (v := (a3 + (1 : Int32))) (lv' := [(3, .int (a3 + (1 : Int32))), (2, .int q1), (1, .int a1)]) X.1.1 X.1.2.1 dX7_isOfKind_19 hl (k := 2) rfl rfl (by decide) rfl (fun ls hl => ?_)
        refine lv_goto (tgt := 4) X.1.1 X.1.2.1 dX7_isOfKind_22 (by decide) ?_
        exact ih _ _ _ _ _ _ hf G (lv_sub hl [2, 1, 0] rfl)
set_option maxHeartbeats 4000000 in
set_option maxRecDepth 100000 in
theorem m_X7_isOfKind (l : Launch) (D : va_G) (dA : Nat → ClassId) (b0 : Nat) (a0 : Int32) (a1 : Int32) (h : zH) (z : Int32) (hf : f_X7_isOfKind a0 a1 h = some z) : Met l yX7_isOfKind wsX7_isOfKind rmX7_isOfKind (zPc D dA b0 [.int a0, .int a1] h) (zQ D dA b0 (some (.int z)) h) 0 0 (zA b0) := by
  refine Met.ofW (cc := cX7_isOfKind) (maxL := 4) (ret := (some .boolean)) (by decide) rfl ?_
  intro p e s m args below meth c s₁ B hml hv
  obtain ⟨rfl, hP, hz, hK, hN⟩ := hv
  have hr := B.returns
  have hlk := B.notSynchronized
  have X : zX p s m _ c cX7_isOfKind 4 RX7 wsX7_isOfKind D dA := ⟨⟨B.exec, B.bytes, hml, findClass_of_methodNamed B.named, atoms_spec (ws := wsX7_isOfKind) B.pre⟩, hK, hN⟩
  have G : zG D dA b0 s.heap h s.heap [] := ⟨hP, hz, va_S.rf⟩
  have hl := lv_entry ([.int a0, .int a1]) (n := 4) (Nat.le_of_ble_eq_true rfl)
  rw [lg_entry_eq]
  generalize (lg_sl ([.int a0, .int a1]) ++ List.replicate (4 - (lg_sl ([.int a0, .int a1])).length) Slot.unset).toArray = ls at hl ⊢
  have hl : lv_has ls 4 [(0, .int a0), (1, .int a1)] := hl
  unfold f_X7_isOfKind at hf
  refine lv_iload_n X.1.1 X.1.2.1 dX7_isOfKind_0 rfl (lv_at hl 0 rfl) ?_
  refine lv_istore_n (lv' := [(2, .int a0), (0, .int a0), (1, .int a1)]) X.1.1 X.1.2.1 dX7_isOfKind_1 rfl hl (by decide) rfl (fun ls hl => ?_)
  refine lv_iconst (v := 0) X.1.1 X.1.2.1 dX7_isOfKind_2 (by decide) ?_
  refine lv_istore_n (lv' := [(3, .int (0 : Int32)), (2, .int a0), (0, .int a0), (1, .int a1)]) X.1.1 X.1.2.1 dX7_isOfKind_3 rfl hl (by decide) rfl (fun ls hl => ?_)
  exact w_X7_isOfKind_b4 X hr hlk _ _ _ _ _ _ _ hf G (lv_sub hl [3, 1, 0] rfl)
/-! X7_as -/
abbrev rmX7_as : Room := { frames := 2, cells := 0, slots := 0, locals := 43 }
theorem hdV_X7_as : yX7_as.cls = RX7 ∧ yX7_as.cls ≠ "java/lang/invoke/MethodHandle" ∧ yX7_as.cls ≠ "java/lang/invoke/VarHandle" ∧ (parseMethodDescriptor yX7_as.desc).map (fun d => d.parameters.length) = some 2 := by decide +kernel
theorem coX7_as_76 : Cond.constant RX7 76 (-1000001) ∈ wsX7_as := by decide +kernel
theorem inX7_as_X7 : ∀ w ∈ wsX70, w ∈ wsX7_as := by decide +kernel
theorem flX7_as_26 : Cond.fieldLink RX7 26 (TX7 2).1 (TX7 2).2.1 (TX7 2).2.2.1 ∈ wsX7_as := by decide +kernel
theorem inX7_as_X3 : ∀ w ∈ wsX30, w ∈ wsX7_as := by decide +kernel
theorem flX7_as_270 : Cond.fieldLink RX7 270 (TX3 6).1 (TX3 6).2.1 (TX3 6).2.2.1 ∈ wsX7_as := by decide +kernel
set_option maxHeartbeats 4000000 in
set_option maxRecDepth 100000 in
theorem m_X7_as (l : Launch) (D : va_G) (dA : Nat → ClassId) (b0 : Nat) (r0 : Nat) (a1 : Int32) (a2 : Int32) (h : zH) (z : Int32 × zH) (hf : f_X7_as r0 a1 a2 h = some z) : Met l yX7_as wsX7_as rmX7_as (zPc D dA b0 [.ref (b0 + r0), .int a1, .int a2] h) (zQ D dA b0 (some (.int z.1)) z.2) 0 0 (zA b0) := by
  refine Met.ofW (cc := cX7_as) (maxL := 3) (ret := (some .int)) (by decide) rfl ?_
  intro p e s m args below meth c s₁ B hml hv
  obtain ⟨rfl, hP, hz, hK, hN⟩ := hv
  have hr := B.returns
  have hlk := B.notSynchronized
  have X : zX p s m _ c cX7_as 3 RX7 wsX7_as D dA := ⟨⟨B.exec, B.bytes, hml, findClass_of_methodNamed B.named, atoms_spec (ws := wsX7_as) B.pre⟩, hK, hN⟩
  have G : zG D dA b0 s.heap h s.heap [] := ⟨hP, hz, va_S.rf⟩
  have hl := lv_entry ([.ref (b0 + r0), .int a1, .int a2]) (n := 3) (Nat.le_of_ble_eq_true rfl)
  rw [lg_entry_eq]
  generalize (lg_sl ([.ref (b0 + r0), .int a1, .int a2]) ++ List.replicate (3 - (lg_sl ([.ref (b0 + r0), .int a1, .int a2])).length) Slot.unset).toArray = ls at hl ⊢
  have hl : lv_has ls 3 [(0, .ref (b0 + r0)), (1, .int a1), (2, .int a2)] := hl
  unfold f_X7_as at hf
  refine lv_aload_n X.1.1 X.1.2.1 dX7_as_0 rfl (lv_at hl 0 rfl) ?_
  refine lv_iload_n X.1.1 X.1.2.1 dX7_as_1 rfl (lv_at hl 1 rfl) ?_
  obtain ⟨hk, hf⟩ := zck hf
  obtain ⟨q1, eq1, hf⟩ := Option.bind_eq_some_iff.mp hf
  refine zcV0 (As := [.int a1]) (rest := []) (v := (some (.int q1))) (h' := h) X G (rfl : vwCl[7]? = some (RX7, TX7, 11)) hk (m_X7_isThing l D dA b0 r0 a1 h q1 eq1) (cwV 1 X.1.2.2.2.2 gX7_as_X7_isThing rfl rfl rfl hdV_X7_isThing ⟨(Nat.le_of_ble_eq_true rfl), (Nat.le_of_ble_eq_true rfl)⟩) rfl hl.1 rfl (Nat.le_of_ble_eq_true rfl) dX7_as_2 ⟨Nat.zero_le _, Nat.zero_le _⟩ (fun H locs G => ?_)
  refine zif_eq (tgt := 17) X dX7_as_5 (by decide) hf (fun hf => ?_) (fun hf => ?_)
  · refine lv_ldc (v := -1000001) X.1.1 X.1.2.1 X.1.2.2.2.1 (X.1.2.2.2.2 _ coX7_as_76) dX7_as_17 ?_
    exact zretI X hr hlk G hf dX7_as_19
  · refine lv_iload_n X.1.1 X.1.2.1 dX7_as_8 rfl (lv_at hl 2 rfl) ?_
    refine zif_lt (tgt := 17) X dX7_as_9 (by decide) hf (fun hf => ?_) (fun hf => ?_)
    · refine lv_ldc (v := -1000001) X.1.1 X.1.2.1 X.1.2.2.2.1 (X.1.2.2.2.2 _ coX7_as_76) dX7_as_17 ?_
      exact zretI X hr hlk G hf dX7_as_19
    · refine lv_iload_n X.1.1 X.1.2.1 dX7_as_12 rfl (lv_at hl 2 rfl) ?_
      refine lv_iconst (v := 5) X.1.1 X.1.2.1 dX7_as_13 (by decide) ?_
      refine zic_le (tgt := 20) X dX7_as_14 (by decide) hf (fun hf => ?_) (fun hf => ?_)
      · refine lv_aload_n X.1.1 X.1.2.1 dX7_as_20 rfl (lv_at hl 0 rfl) ?_
        refine zgetR (ci := 7) (k := 2) (C := RX7) (T := TX7) (N := 11) X G rfl inX7_as_X7 (Nat.le_of_ble_eq_true rfl) flX7_as_26 dX7_as_21 hf (fun v2 hf => ?_)
        refine zgetR (ci := 3) (k := 6) (C := RX3) (T := TX3) (N := 12) X G rfl inX7_as_X3 (Nat.le_of_ble_eq_true rfl) flX7_as_270 dX7_as_24 hf (fun v3 hf => ?_)
        refine lv_iload_n X.1.1 X.1.2.1 dX7_as_27 rfl (lv_at hl 1 rfl) ?_
        refine ziald X G dX7_as_28 hf (fun v4 hf => ?_)
        refine lv_iload_n X.1.1 X.1.2.1 dX7_as_29 rfl (lv_at hl 2 rfl) ?_
        obtain ⟨q5, eq5, hf⟩ := Option.bind_eq_some_iff.mp hf
        refine zcS0 (As := [.int v4, .int a2]) (rest := []) (v := (some (.int q5))) (h' := h) X G (m_X7_isOfKind l D dA b0 v4 a2 h q5 eq5) (va_cwS 2 X.1.2.2.2.2 gX7_as_X7_isOfKind rfl rfl rfl hdS_X7_isOfKind ⟨(Nat.le_of_ble_eq_true rfl), (Nat.le_of_ble_eq_true rfl)⟩) rfl hl.1 rfl (Nat.le_of_ble_eq_true rfl) dX7_as_30 ⟨Nat.zero_le _, Nat.zero_le _⟩ (fun H locs G => ?_)
        refine zif_eq (tgt := 44) X dX7_as_33 (by decide) hf (fun hf => ?_) (fun hf => ?_)
        · refine lv_aload_n X.1.1 X.1.2.1 dX7_as_44 rfl (lv_at hl 0 rfl) ?_
          refine lv_iconst (v := 3) X.1.1 X.1.2.1 dX7_as_45 (by decide) ?_
          obtain ⟨hk, hf⟩ := zck hf
          obtain ⟨q6, eq6, hf⟩ := Option.bind_eq_some_iff.mp hf
          refine zcV0 (As := [.int (3 : Int32)]) (rest := []) (v := (some (.int q6.1))) (h' := q6.2) X G (rfl : vwCl[7]? = some (RX7, TX7, 11)) hk (m_X7_found l D dA b0 r0 (3 : Int32) h q6 eq6) (cwV 1 X.1.2.2.2.2 gX7_as_X7_found rfl rfl rfl hdV_X7_found ⟨(Nat.le_of_ble_eq_true rfl), (Nat.le_of_ble_eq_true rfl)⟩) rfl hl.1 rfl (Nat.le_of_ble_eq_true rfl) dX7_as_46 ⟨Nat.zero_le _, Nat.zero_le _⟩ (fun H locs G => ?_)
          exact zretI X hr hlk G hf dX7_as_49
        · refine lv_aload_n X.1.1 X.1.2.1 dX7_as_36 rfl (lv_at hl 0 rfl) ?_
          refine lv_iload_n X.1.1 X.1.2.1 dX7_as_37 rfl (lv_at hl 1 rfl) ?_
          obtain ⟨hk, hf⟩ := zck hf
          obtain ⟨q7, eq7, hf⟩ := Option.bind_eq_some_iff.mp hf
          refine zcV0 (As := [.int a1]) (rest := []) (v := (some (.int q7.1))) (h' := q7.2) X G (rfl : vwCl[7]? = some (RX7, TX7, 11)) hk (m_X7_fine l D dA b0 r0 a1 h q7 eq7) (cwV 1 X.1.2.2.2.2 gX7_as_X7_fine rfl rfl rfl hdV_X7_fine ⟨(Nat.le_of_ble_eq_true rfl), (Nat.le_of_ble_eq_true rfl)⟩) rfl hl.1 rfl (Nat.le_of_ble_eq_true rfl) dX7_as_38 ⟨Nat.zero_le _, Nat.zero_le _⟩ (fun H locs G => ?_)
          refine lv_goto (tgt := 49) X.1.1 X.1.2.1 dX7_as_41 (by decide) ?_
          exact zretI X hr hlk G hf dX7_as_49
      · refine lv_ldc (v := -1000001) X.1.1 X.1.2.1 X.1.2.2.2.1 (X.1.2.2.2.2 _ coX7_as_76) dX7_as_17 ?_
        exact zretI X hr hlk G hf dX7_as_19
/-! X7_ask -/
abbrev rmX7_ask : Room := { frames := 35, cells := 0, slots := 0, locals := 1287 }
theorem hdV_X7_ask : yX7_ask.cls = RX7 ∧ yX7_ask.cls ≠ "java/lang/invoke/MethodHandle" ∧ yX7_ask.cls ≠ "java/lang/invoke/VarHandle" ∧ (parseMethodDescriptor yX7_ask.desc).map (fun d => d.parameters.length) = some 2 := by decide +kernel
theorem coX7_ask_76 : Cond.constant RX7 76 (-1000001) ∈ wsX7_ask := by decide +kernel
theorem inX7_ask_X7 : ∀ w ∈ wsX70, w ∈ wsX7_ask := by decide +kernel
theorem flX7_ask_61 : Cond.fieldLink RX7 61 (TX7 8).1 (TX7 8).2.1 (TX7 8).2.2.1 ∈ wsX7_ask := by decide +kernel
theorem flX7_ask_26 : Cond.fieldLink RX7 26 (TX7 2).1 (TX7 2).2.1 (TX7 2).2.2.1 ∈ wsX7_ask := by decide +kernel
set_option maxHeartbeats 4000000 in
set_option maxRecDepth 100000 in
theorem m_X7_ask (l : Launch) (D : va_G) (dA : Nat → ClassId) (b0 : Nat) (r0 : Nat) (a1 : Int32) (a2 : Int32) (h : zH) (z : Int32 × zH) (hf : f_X7_ask r0 a1 a2 h = some z) : Met l yX7_ask wsX7_ask rmX7_ask (zPc D dA b0 [.ref (b0 + r0), .int a1, .int a2] h) (zQ D dA b0 (some (.int z.1)) z.2) 0 0 (zA b0) := by
  refine Met.ofW (cc := cX7_ask) (maxL := 3) (ret := (some .int)) (by decide) rfl ?_
  intro p e s m args below meth c s₁ B hml hv
  obtain ⟨rfl, hP, hz, hK, hN⟩ := hv
  have hr := B.returns
  have hlk := B.notSynchronized
  have X : zX p s m _ c cX7_ask 3 RX7 wsX7_ask D dA := ⟨⟨B.exec, B.bytes, hml, findClass_of_methodNamed B.named, atoms_spec (ws := wsX7_ask) B.pre⟩, hK, hN⟩
  have G : zG D dA b0 s.heap h s.heap [] := ⟨hP, hz, va_S.rf⟩
  have hl := lv_entry ([.ref (b0 + r0), .int a1, .int a2]) (n := 3) (Nat.le_of_ble_eq_true rfl)
  rw [lg_entry_eq]
  generalize (lg_sl ([.ref (b0 + r0), .int a1, .int a2]) ++ List.replicate (3 - (lg_sl ([.ref (b0 + r0), .int a1, .int a2])).length) Slot.unset).toArray = ls at hl ⊢
  have hl : lv_has ls 3 [(0, .ref (b0 + r0)), (1, .int a1), (2, .int a2)] := hl
  unfold f_X7_ask at hf
  refine lv_aload_n X.1.1 X.1.2.1 dX7_ask_0 rfl (lv_at hl 0 rfl) ?_
  refine lv_iload_n X.1.1 X.1.2.1 dX7_ask_1 rfl (lv_at hl 1 rfl) ?_
  obtain ⟨hk, hf⟩ := zck hf
  obtain ⟨q1, eq1, hf⟩ := Option.bind_eq_some_iff.mp hf
  refine zcV0 (As := [.int a1]) (rest := []) (v := (some (.int q1))) (h' := h) X G (rfl : vwCl[7]? = some (RX7, TX7, 11)) hk (m_X7_isThing l D dA b0 r0 a1 h q1 eq1) (cwV 1 X.1.2.2.2.2 gX7_ask_X7_isThing rfl rfl rfl hdV_X7_isThing ⟨(Nat.le_of_ble_eq_true rfl), (Nat.le_of_ble_eq_true rfl)⟩) rfl hl.1 rfl (Nat.le_of_ble_eq_true rfl) dX7_ask_2 ⟨Nat.zero_le _, Nat.zero_le _⟩ (fun H locs G => ?_)
  refine zif_eq (tgt := 15) X dX7_ask_5 (by decide) hf (fun hf => ?_) (fun hf => ?_)
  · refine lv_ldc (v := -1000001) X.1.1 X.1.2.1 X.1.2.2.2.1 (X.1.2.2.2.2 _ coX7_ask_76) dX7_ask_15 ?_
    exact zretI X hr hlk G hf dX7_ask_17
  · refine lv_iload_n X.1.1 X.1.2.1 dX7_ask_8 rfl (lv_at hl 2 rfl) ?_
    obtain ⟨q2, eq2, hf⟩ := Option.bind_eq_some_iff.mp hf
    refine zcS0 (As := [.int a2]) (rest := []) (v := (some (.int q2))) (h' := h) X G (m_X7_isOneOfTwo l D dA b0 a2 h q2 eq2) (va_cwS 1 X.1.2.2.2.2 gX7_ask_X7_isOneOfTwo rfl rfl rfl hdS_X7_isOneOfTwo ⟨(Nat.le_of_ble_eq_true rfl), (Nat.le_of_ble_eq_true rfl)⟩) rfl hl.1 rfl (Nat.le_of_ble_eq_true rfl) dX7_ask_9 ⟨Nat.zero_le _, Nat.zero_le _⟩ (fun H locs G => ?_)
    refine zif_ne (tgt := 18) X dX7_ask_12 (by decide) hf (fun hf => ?_) (fun hf => ?_)
    · refine lv_aload_n X.1.1 X.1.2.1 dX7_ask_18 rfl (lv_at hl 0 rfl) ?_
      refine zgetR (ci := 7) (k := 8) (C := RX7) (T := TX7) (N := 11) X G rfl inX7_ask_X7 (Nat.le_of_ble_eq_true rfl) flX7_ask_61 dX7_ask_19 hf (fun v3 hf => ?_)
      refine lv_aload_n X.1.1 X.1.2.1 dX7_ask_22 rfl (lv_at hl 0 rfl) ?_
      refine zgetR (ci := 7) (k := 2) (C := RX7) (T := TX7) (N := 11) X G rfl inX7_ask_X7 (Nat.le_of_ble_eq_true rfl) flX7_ask_26 dX7_ask_23 hf (fun v4 hf => ?_)
      refine lv_iload_n X.1.1 X.1.2.1 dX7_ask_26 rfl (lv_at hl 1 rfl) ?_
      refine lv_iload_n X.1.1 X.1.2.1 dX7_ask_27 rfl (lv_at hl 2 rfl) ?_
      obtain ⟨hk, hf⟩ := zck hf
      obtain ⟨q5, eq5, hf⟩ := Option.bind_eq_some_iff.mp hf
      refine zcV0 (As := [.ref (b0 + v4), .int a1, .int a2]) (rest := []) (v := (some (.int q5.1))) (h' := q5.2) X G (rfl : vwCl[1]? = some (RX1, TX1, 2)) hk (m_X1_begin l D dA b0 v3 v4 a1 a2 h q5 eq5) (cwV 3 X.1.2.2.2.2 gX7_ask_X1_begin rfl rfl rfl hdV_X1_begin ⟨(Nat.le_of_ble_eq_true rfl), (Nat.le_of_ble_eq_true rfl)⟩) rfl hl.1 rfl (Nat.le_of_ble_eq_true rfl) dX7_ask_28 ⟨Nat.zero_le _, Nat.zero_le _⟩ (fun H locs G => ?_)
      exact zretI X hr hlk G hf dX7_ask_31
    · refine lv_ldc (v := -1000001) X.1.1 X.1.2.1 X.1.2.2.2.1 (X.1.2.2.2.2 _ coX7_ask_76) dX7_ask_15 ?_
      exact zretI X hr hlk G hf dX7_ask_17
/-! X7_trace -/
abbrev rmX7_trace : Room := { frames := 0, cells := 0, slots := 0, locals := 0 }
theorem hdV_X7_trace : yX7_trace.cls = RX7 ∧ yX7_trace.cls ≠ "java/lang/invoke/MethodHandle" ∧ yX7_trace.cls ≠ "java/lang/invoke/VarHandle" ∧ (parseMethodDescriptor yX7_trace.desc).map (fun d => d.parameters.length) = some 1 := by decide +kernel
theorem coX7_trace_224 : Cond.constant RX7 224 (-1000000) ∈ wsX7_trace := by decide +kernel
theorem inX7_trace_X7 : ∀ w ∈ wsX70, w ∈ wsX7_trace := by decide +kernel
theorem flX7_trace_61 : Cond.fieldLink RX7 61 (TX7 8).1 (TX7 8).2.1 (TX7 8).2.2.1 ∈ wsX7_trace := by decide +kernel
theorem inX7_trace_X1 : ∀ w ∈ wsX10, w ∈ wsX7_trace := by decide +kernel
theorem flX7_trace_280 : Cond.fieldLink RX7 280 (TX1 1).1 (TX1 1).2.1 (TX1 1).2.2.1 ∈ wsX7_trace := by decide +kernel
theorem flX7_trace_283 : Cond.fieldLink RX7 283 (TX1 0).1 (TX1 0).2.1 (TX1 0).2.2.1 ∈ wsX7_trace := by decide +kernel
set_option maxHeartbeats 4000000 in
set_option maxRecDepth 100000 in
theorem m_X7_trace (l : Launch) (D : va_G) (dA : Nat → ClassId) (b0 : Nat) (r0 : Nat) (a1 : Int32) (h : zH) (z : Int32) (hf : f_X7_trace r0 a1 h = some z) : Met l yX7_trace wsX7_trace rmX7_trace (zPc D dA b0 [.ref (b0 + r0), .int a1] h) (zQ D dA b0 (some (.int z)) h) 0 0 (zA b0) := by
  refine Met.ofW (cc := cX7_trace) (maxL := 2) (ret := (some .int)) (by decide) rfl ?_
  intro p e s m args below meth c s₁ B hml hv
  obtain ⟨rfl, hP, hz, hK, hN⟩ := hv
  have hr := B.returns
  have hlk := B.notSynchronized
  have X : zX p s m _ c cX7_trace 2 RX7 wsX7_trace D dA := ⟨⟨B.exec, B.bytes, hml, findClass_of_methodNamed B.named, atoms_spec (ws := wsX7_trace) B.pre⟩, hK, hN⟩
  have G : zG D dA b0 s.heap h s.heap [] := ⟨hP, hz, va_S.rf⟩
  have hl := lv_entry ([.ref (b0 + r0), .int a1]) (n := 2) (Nat.le_of_ble_eq_true rfl)
  rw [lg_entry_eq]
  generalize (lg_sl ([.ref (b0 + r0), .int a1]) ++ List.replicate (2 - (lg_sl ([.ref (b0 + r0), .int a1])).length) Slot.unset).toArray = ls at hl ⊢
  have hl : lv_has ls 2 [(0, .ref (b0 + r0)), (1, .int a1)] := hl
  unfold f_X7_trace at hf
  refine lv_iload_n X.1.1 X.1.2.1 dX7_trace_0 rfl (lv_at hl 1 rfl) ?_
  refine zif_lt (tgt := 27) X dX7_trace_1 (by decide) hf (fun hf => ?_) (fun hf => ?_)
  · refine lv_ldc (v := -1000000) X.1.1 X.1.2.1 X.1.2.2.2.1 (X.1.2.2.2.2 _ coX7_trace_224) dX7_trace_27 ?_
    exact zretIr X hr hlk G hf dX7_trace_29
  · refine lv_iload_n X.1.1 X.1.2.1 dX7_trace_4 rfl (lv_at hl 1 rfl) ?_
    refine lv_aload_n X.1.1 X.1.2.1 dX7_trace_5 rfl (lv_at hl 0 rfl) ?_
    refine zgetR (ci := 7) (k := 8) (C := RX7) (T := TX7) (N := 11) X G rfl inX7_trace_X7 (Nat.le_of_ble_eq_true rfl) flX7_trace_61 dX7_trace_6 hf (fun v1 hf => ?_)
    refine zgetI (ci := 1) (k := 1) (C := RX1) (T := TX1) (N := 2) X G rfl inX7_trace_X1 (Nat.le_of_ble_eq_true rfl) flX7_trace_280 dX7_trace_9 hf (fun v2 hf => ?_)
    refine zic_ge (tgt := 27) X dX7_trace_12 (by decide) hf (fun hf => ?_) (fun hf => ?_)
    · refine lv_ldc (v := -1000000) X.1.1 X.1.2.1 X.1.2.2.2.1 (X.1.2.2.2.2 _ coX7_trace_224) dX7_trace_27 ?_
      exact zretIr X hr hlk G hf dX7_trace_29
    · refine lv_aload_n X.1.1 X.1.2.1 dX7_trace_15 rfl (lv_at hl 0 rfl) ?_
      refine zgetR (ci := 7) (k := 8) (C := RX7) (T := TX7) (N := 11) X G rfl inX7_trace_X7 (Nat.le_of_ble_eq_true rfl) flX7_trace_61 dX7_trace_16 hf (fun v3 hf => ?_)
      refine zgetR (ci := 1) (k := 0) (C := RX1) (T := TX1) (N := 2) X G rfl inX7_trace_X1 (Nat.le_of_ble_eq_true rfl) flX7_trace_283 dX7_trace_19 hf (fun v4 hf => ?_)
      refine lv_iload_n X.1.1 X.1.2.1 dX7_trace_22 rfl (lv_at hl 1 rfl) ?_
      refine ziald X G dX7_trace_23 hf (fun v5 hf => ?_)
      refine lv_goto (tgt := 29) X.1.1 X.1.2.1 dX7_trace_24 (by decide) ?_
      exact zretIr X hr hlk G hf dX7_trace_29
/-! X7_count -/
abbrev rmX7_count : Room := { frames := 2, cells := 0, slots := 0, locals := 43 }
theorem hdV_X7_count : yX7_count.cls = RX7 ∧ yX7_count.cls ≠ "java/lang/invoke/MethodHandle" ∧ yX7_count.cls ≠ "java/lang/invoke/VarHandle" ∧ (parseMethodDescriptor yX7_count.desc).map (fun d => d.parameters.length) = some 1 := by decide +kernel
theorem inX7_count_X7 : ∀ w ∈ wsX70, w ∈ wsX7_count := by decide +kernel
theorem flX7_count_10 : Cond.fieldLink RX7 10 (TX7 0).1 (TX7 0).2.1 (TX7 0).2.2.1 ∈ wsX7_count := by decide +kernel
theorem flX7_count_26 : Cond.fieldLink RX7 26 (TX7 2).1 (TX7 2).2.1 (TX7 2).2.2.1 ∈ wsX7_count := by decide +kernel
theorem inX7_count_X3 : ∀ w ∈ wsX30, w ∈ wsX7_count := by decide +kernel
theorem flX7_count_138 : Cond.fieldLink RX7 138 (TX3 1).1 (TX3 1).2.1 (TX3 1).2.2.1 ∈ wsX7_count := by decide +kernel
theorem flX7_count_289 : Cond.fieldLink RX7 289 (TX3 2).1 (TX3 2).2.1 (TX3 2).2.2.1 ∈ wsX7_count := by decide +kernel
theorem flX7_count_146 : Cond.fieldLink RX7 146 (TX3 4).1 (TX3 4).2.1 (TX3 4).2.2.1 ∈ wsX7_count := by decide +kernel
theorem flX7_count_292 : Cond.fieldLink RX7 292 (TX3 3).1 (TX3 3).2.1 (TX3 3).2.2.1 ∈ wsX7_count := by decide +kernel
theorem flX7_count_163 : Cond.fieldLink RX7 163 (TX3 5).1 (TX3 5).2.1 (TX3 5).2.2.1 ∈ wsX7_count := by decide +kernel
theorem flX7_count_36 : Cond.fieldLink RX7 36 (TX7 4).1 (TX7 4).2.1 (TX7 4).2.2.1 ∈ wsX7_count := by decide +kernel
theorem inX7_count_X0 : ∀ w ∈ wsX00, w ∈ wsX7_count := by decide +kernel
theorem flX7_count_178 : Cond.fieldLink RX7 178 (TX0 2).1 (TX0 2).2.1 (TX0 2).2.2.1 ∈ wsX7_count := by decide +kernel
theorem flX7_count_19 : Cond.fieldLink RX7 19 (TX7 1).1 (TX7 1).2.1 (TX7 1).2.2.1 ∈ wsX7_count := by decide +kernel
theorem inX7_count_X6 : ∀ w ∈ wsX60, w ∈ wsX7_count := by decide +kernel
theorem flX7_count_116 : Cond.fieldLink RX7 116 (TX6 1).1 (TX6 1).2.1 (TX6 1).2.2.1 ∈ wsX7_count := by decide +kernel
theorem coX7_count_76 : Cond.constant RX7 76 (-1000001) ∈ wsX7_count := by decide +kernel
set_option maxHeartbeats 4000000 in
set_option maxRecDepth 100000 in
theorem m_X7_count (l : Launch) (D : va_G) (dA : Nat → ClassId) (b0 : Nat) (r0 : Nat) (a1 : Int32) (h : zH) (z : Int32) (hf : f_X7_count r0 a1 h = some z) : Met l yX7_count wsX7_count rmX7_count (zPc D dA b0 [.ref (b0 + r0), .int a1] h) (zQ D dA b0 (some (.int z)) h) 0 0 (zA b0) := by
  refine Met.ofW (cc := cX7_count) (maxL := 2) (ret := (some .int)) (by decide) rfl ?_
  intro p e s m args below meth c s₁ B hml hv
  obtain ⟨rfl, hP, hz, hK, hN⟩ := hv
  have hr := B.returns
  have hlk := B.notSynchronized
  have X : zX p s m _ c cX7_count 2 RX7 wsX7_count D dA := ⟨⟨B.exec, B.bytes, hml, findClass_of_methodNamed B.named, atoms_spec (ws := wsX7_count) B.pre⟩, hK, hN⟩
  have G : zG D dA b0 s.heap h s.heap [] := ⟨hP, hz, va_S.rf⟩
  have hl := lv_entry ([.ref (b0 + r0), .int a1]) (n := 2) (Nat.le_of_ble_eq_true rfl)
  rw [lg_entry_eq]
  generalize (lg_sl ([.ref (b0 + r0), .int a1]) ++ List.replicate (2 - (lg_sl ([.ref (b0 + r0), .int a1])).length) Slot.unset).toArray = ls at hl ⊢
  have hl : lv_has ls 2 [(0, .ref (b0 + r0)), (1, .int a1)] := hl
  unfold f_X7_count at hf
  refine lv_iload_n X.1.1 X.1.2.1 dX7_count_0 rfl (lv_at hl 1 rfl) ?_
  by_cases c0 : a1 = 0
  · rw [if_pos c0] at hf
    refine lv_tableIn (off := 47) (tgt := 48) X.1.1 X.1.2.1 dX7_count_1 (by rw [c0]; decide) (by rw [c0]; decide) (by rw [c0]; decide) (by decide) ?_
    refine lv_aload_n X.1.1 X.1.2.1 dX7_count_48 rfl (lv_at hl 0 rfl) ?_
    refine zgetR (ci := 7) (k := 0) (C := RX7) (T := TX7) (N := 11) X G rfl inX7_count_X7 (Nat.le_of_ble_eq_true rfl) flX7_count_10 dX7_count_49 hf (fun v1 hf => ?_)
    obtain ⟨hk, hf⟩ := zck hf
    obtain ⟨q2, eq2, hf⟩ := Option.bind_eq_some_iff.mp hf
    refine zcV0 (As := []) (rest := []) (v := (some (.int q2))) (h' := h) X G (rfl : vwCl[4]? = some (RX4, TX4, 3)) hk (m_X4_countThere l D dA b0 v1 h q2 eq2) (cwV 0 X.1.2.2.2.2 gX7_count_X4_countThere rfl rfl rfl hdV_X4_countThere ⟨(Nat.le_of_ble_eq_true rfl), (Nat.le_of_ble_eq_true rfl)⟩) rfl hl.1 rfl (Nat.le_of_ble_eq_true rfl) dX7_count_52 ⟨Nat.zero_le _, Nat.zero_le _⟩ (fun H locs G => ?_)
    exact zretIr X hr hlk G hf dX7_count_55
  rw [if_neg c0] at hf
  by_cases c1 : a1 = 1
  · rw [if_pos c1] at hf
    refine lv_tableIn (off := 55) (tgt := 56) X.1.1 X.1.2.1 dX7_count_1 (by rw [c1]; decide) (by rw [c1]; decide) (by rw [c1]; decide) (by decide) ?_
    refine lv_aload_n X.1.1 X.1.2.1 dX7_count_56 rfl (lv_at hl 0 rfl) ?_
    refine zgetR (ci := 7) (k := 2) (C := RX7) (T := TX7) (N := 11) X G rfl inX7_count_X7 (Nat.le_of_ble_eq_true rfl) flX7_count_26 dX7_count_57 hf (fun v3 hf => ?_)
    refine zgetI (ci := 3) (k := 1) (C := RX3) (T := TX3) (N := 12) X G rfl inX7_count_X3 (Nat.le_of_ble_eq_true rfl) flX7_count_138 dX7_count_60 hf (fun v4 hf => ?_)
    exact zretIr X hr hlk G hf dX7_count_63
  rw [if_neg c1] at hf
  by_cases c2 : a1 = 2
  · rw [if_pos c2] at hf
    refine lv_tableIn (off := 63) (tgt := 64) X.1.1 X.1.2.1 dX7_count_1 (by rw [c2]; decide) (by rw [c2]; decide) (by rw [c2]; decide) (by decide) ?_
    refine lv_aload_n X.1.1 X.1.2.1 dX7_count_64 rfl (lv_at hl 0 rfl) ?_
    refine zgetR (ci := 7) (k := 2) (C := RX7) (T := TX7) (N := 11) X G rfl inX7_count_X7 (Nat.le_of_ble_eq_true rfl) flX7_count_26 dX7_count_65 hf (fun v5 hf => ?_)
    refine zgetI (ci := 3) (k := 2) (C := RX3) (T := TX3) (N := 12) X G rfl inX7_count_X3 (Nat.le_of_ble_eq_true rfl) flX7_count_289 dX7_count_68 hf (fun v6 hf => ?_)
    exact zretIr X hr hlk G hf dX7_count_71
  rw [if_neg c2] at hf
  by_cases c3 : a1 = 3
  · rw [if_pos c3] at hf
    refine lv_tableIn (off := 71) (tgt := 72) X.1.1 X.1.2.1 dX7_count_1 (by rw [c3]; decide) (by rw [c3]; decide) (by rw [c3]; decide) (by decide) ?_
    refine lv_aload_n X.1.1 X.1.2.1 dX7_count_72 rfl (lv_at hl 0 rfl) ?_
    refine zgetR (ci := 7) (k := 2) (C := RX7) (T := TX7) (N := 11) X G rfl inX7_count_X7 (Nat.le_of_ble_eq_true rfl) flX7_count_26 dX7_count_73 hf (fun v7 hf => ?_)
    refine zgetI (ci := 3) (k := 4) (C := RX3) (T := TX3) (N := 12) X G rfl inX7_count_X3 (Nat.le_of_ble_eq_true rfl) flX7_count_146 dX7_count_76 hf (fun v8 hf => ?_)
    exact zretIr X hr hlk G hf dX7_count_79
  rw [if_neg c3] at hf
  by_cases c4 : a1 = 4
  · rw [if_pos c4] at hf
    refine lv_tableIn (off := 79) (tgt := 80) X.1.1 X.1.2.1 dX7_count_1 (by rw [c4]; decide) (by rw [c4]; decide) (by rw [c4]; decide) (by decide) ?_
    refine lv_aload_n X.1.1 X.1.2.1 dX7_count_80 rfl (lv_at hl 0 rfl) ?_
    refine zgetR (ci := 7) (k := 2) (C := RX7) (T := TX7) (N := 11) X G rfl inX7_count_X7 (Nat.le_of_ble_eq_true rfl) flX7_count_26 dX7_count_81 hf (fun v9 hf => ?_)
    refine zgetI (ci := 3) (k := 3) (C := RX3) (T := TX3) (N := 12) X G rfl inX7_count_X3 (Nat.le_of_ble_eq_true rfl) flX7_count_292 dX7_count_84 hf (fun v10 hf => ?_)
    exact zretIr X hr hlk G hf dX7_count_87
  rw [if_neg c4] at hf
  by_cases c5 : a1 = 5
  · rw [if_pos c5] at hf
    refine lv_tableIn (off := 87) (tgt := 88) X.1.1 X.1.2.1 dX7_count_1 (by rw [c5]; decide) (by rw [c5]; decide) (by rw [c5]; decide) (by decide) ?_
    refine lv_aload_n X.1.1 X.1.2.1 dX7_count_88 rfl (lv_at hl 0 rfl) ?_
    refine zgetR (ci := 7) (k := 2) (C := RX7) (T := TX7) (N := 11) X G rfl inX7_count_X7 (Nat.le_of_ble_eq_true rfl) flX7_count_26 dX7_count_89 hf (fun v11 hf => ?_)
    refine zgetI (ci := 3) (k := 5) (C := RX3) (T := TX3) (N := 12) X G rfl inX7_count_X3 (Nat.le_of_ble_eq_true rfl) flX7_count_163 dX7_count_92 hf (fun v12 hf => ?_)
    exact zretIr X hr hlk G hf dX7_count_95
  rw [if_neg c5] at hf
  by_cases c6 : a1 = 6
  · rw [if_pos c6] at hf
    refine lv_tableIn (off := 95) (tgt := 96) X.1.1 X.1.2.1 dX7_count_1 (by rw [c6]; decide) (by rw [c6]; decide) (by rw [c6]; decide) (by decide) ?_
    refine lv_aload_n X.1.1 X.1.2.1 dX7_count_96 rfl (lv_at hl 0 rfl) ?_
    refine zgetR (ci := 7) (k := 4) (C := RX7) (T := TX7) (N := 11) X G rfl inX7_count_X7 (Nat.le_of_ble_eq_true rfl) flX7_count_36 dX7_count_97 hf (fun v13 hf => ?_)
    refine zgetI (ci := 0) (k := 2) (C := RX0) (T := TX0) (N := 3) X G rfl inX7_count_X0 (Nat.le_of_ble_eq_true rfl) flX7_count_178 dX7_count_100 hf (fun v14 hf => ?_)
    exact zretIr X hr hlk G hf dX7_count_103
  rw [if_neg c6] at hf
  by_cases c7 : a1 = 7
  · rw [if_pos c7] at hf
    refine lv_tableIn (off := 103) (tgt := 104) X.1.1 X.1.2.1 dX7_count_1 (by rw [c7]; decide) (by rw [c7]; decide) (by rw [c7]; decide) (by decide) ?_
    refine lv_aload_n X.1.1 X.1.2.1 dX7_count_104 rfl (lv_at hl 0 rfl) ?_
    refine zgetR (ci := 7) (k := 1) (C := RX7) (T := TX7) (N := 11) X G rfl inX7_count_X7 (Nat.le_of_ble_eq_true rfl) flX7_count_19 dX7_count_105 hf (fun v15 hf => ?_)
    refine zgetI (ci := 6) (k := 1) (C := RX6) (T := TX6) (N := 4) X G rfl inX7_count_X6 (Nat.le_of_ble_eq_true rfl) flX7_count_116 dX7_count_108 hf (fun v16 hf => ?_)
    exact zretIr X hr hlk G hf dX7_count_111
  rw [if_neg c7] at hf
  refine lv_tableOut (tgt := 112) X.1.1 X.1.2.1 dX7_count_1 (by have n0 := lv_neT c0 (show ((0 : Int32)).toInt = 0 from by decide); have n1 := lv_neT c1 (show ((1 : Int32)).toInt = 1 from by decide); have n2 := lv_neT c2 (show ((2 : Int32)).toInt = 2 from by decide); have n3 := lv_neT c3 (show ((3 : Int32)).toInt = 3 from by decide); have n4 := lv_neT c4 (show ((4 : Int32)).toInt = 4 from by decide); have n5 := lv_neT c5 (show ((5 : Int32)).toInt = 5 from by decide); have n6 := lv_neT c6 (show ((6 : Int32)).toInt = 6 from by decide); have n7 := lv_neT c7 (show ((7 : Int32)).toInt = 7 from by decide); omega) (by decide) ?_
  refine lv_ldc (v := -1000001) X.1.1 X.1.2.1 X.1.2.2.2.1 (X.1.2.2.2.2 _ coX7_count_76) dX7_count_112 ?_
  exact zretIr X hr hlk G hf dX7_count_114
/-! X7_status -/
abbrev rmX7_status : Room := { frames := 0, cells := 0, slots := 0, locals := 0 }
theorem hdV_X7_status : yX7_status.cls = RX7 ∧ yX7_status.cls ≠ "java/lang/invoke/MethodHandle" ∧ yX7_status.cls ≠ "java/lang/invoke/VarHandle" ∧ (parseMethodDescriptor yX7_status.desc).map (fun d => d.parameters.length) = some 0 := by decide +kernel
theorem inX7_status_X7 : ∀ w ∈ wsX70, w ∈ wsX7_status := by decide +kernel
theorem flX7_status_69 : Cond.fieldLink RX7 69 (TX7 10).1 (TX7 10).2.1 (TX7 10).2.2.1 ∈ wsX7_status := by decide +kernel
set_option maxHeartbeats 4000000 in
set_option maxRecDepth 100000 in
theorem m_X7_status (l : Launch) (D : va_G) (dA : Nat → ClassId) (b0 : Nat) (r0 : Nat) (h : zH) (z : Int32) (hf : f_X7_status r0 h = some z) : Met l yX7_status wsX7_status rmX7_status (zPc D dA b0 [.ref (b0 + r0)] h) (zQ D dA b0 (some (.int z)) h) 0 0 (zA b0) := by
  refine Met.ofW (cc := cX7_status) (maxL := 1) (ret := (some .int)) (by decide) rfl ?_
  intro p e s m args below meth c s₁ B hml hv
  obtain ⟨rfl, hP, hz, hK, hN⟩ := hv
  have hr := B.returns
  have hlk := B.notSynchronized
  have X : zX p s m _ c cX7_status 1 RX7 wsX7_status D dA := ⟨⟨B.exec, B.bytes, hml, findClass_of_methodNamed B.named, atoms_spec (ws := wsX7_status) B.pre⟩, hK, hN⟩
  have G : zG D dA b0 s.heap h s.heap [] := ⟨hP, hz, va_S.rf⟩
  have hl := lv_entry ([.ref (b0 + r0)]) (n := 1) (Nat.le_of_ble_eq_true rfl)
  rw [lg_entry_eq]
  generalize (lg_sl ([.ref (b0 + r0)]) ++ List.replicate (1 - (lg_sl ([.ref (b0 + r0)])).length) Slot.unset).toArray = ls at hl ⊢
  have hl : lv_has ls 1 [(0, .ref (b0 + r0))] := hl
  unfold f_X7_status at hf
  refine lv_aload_n X.1.1 X.1.2.1 dX7_status_0 rfl (lv_at hl 0 rfl) ?_
  refine zgetI (ci := 7) (k := 10) (C := RX7) (T := TX7) (N := 11) X G rfl inX7_status_X7 (Nat.le_of_ble_eq_true rfl) flX7_status_69 dX7_status_1 hf (fun v1 hf => ?_)
  exact zretIr X hr hlk G hf dX7_status_4
/-! X8_init -/
abbrev rmX8_init : Room := { frames := 1, cells := 14, slots := 1339, locals := 40 }
theorem hdS_X8_init : yX8_init.cls ≠ "java/lang/invoke/MethodHandle" ∧ yX8_init.cls ≠ "java/lang/invoke/VarHandle" ∧ (parseMethodDescriptor yX8_init.desc).map (fun d => d.parameters.length) = some 0 := by decide +kernel
theorem wdX8_init_oL1 : Cond.methodLink RX8 1 objectInit ∈ wsX8_init := by decide +kernel
theorem wdX8_init_oI : Cond.instanceMethod objectInit ∈ wsX8_init := by decide +kernel
theorem wdX8_init_oC : Cond.code objectInit ⟨#[0xb1]⟩ 1 none ∈ wsX8_init := by decide +kernel
theorem wdX8_init_ac_int : Cond.arrayClass .int ∈ wsX8_init := by decide +kernel
theorem inX8_init_X8 : ∀ w ∈ wsX80, w ∈ wsX8_init := by decide +kernel
theorem flX8_init_7 : Cond.fieldLink RX8 7 (TX8 0).1 (TX8 0).2.1 (TX8 0).2.2.1 ∈ wsX8_init := by decide +kernel
theorem flX8_init_13 : Cond.fieldLink RX8 13 (TX8 1).1 (TX8 1).2.1 (TX8 1).2.2.1 ∈ wsX8_init := by decide +kernel
theorem flX8_init_16 : Cond.fieldLink RX8 16 (TX8 2).1 (TX8 2).2.1 (TX8 2).2.2.1 ∈ wsX8_init := by decide +kernel
theorem flX8_init_19 : Cond.fieldLink RX8 19 (TX8 4).1 (TX8 4).2.1 (TX8 4).2.2.1 ∈ wsX8_init := by decide +kernel
theorem flX8_init_22 : Cond.fieldLink RX8 22 (TX8 5).1 (TX8 5).2.1 (TX8 5).2.2.1 ∈ wsX8_init := by decide +kernel
theorem flX8_init_25 : Cond.fieldLink RX8 25 (TX8 6).1 (TX8 6).2.1 (TX8 6).2.2.1 ∈ wsX8_init := by decide +kernel
theorem flX8_init_28 : Cond.fieldLink RX8 28 (TX8 7).1 (TX8 7).2.1 (TX8 7).2.2.1 ∈ wsX8_init := by decide +kernel
theorem flX8_init_31 : Cond.fieldLink RX8 31 (TX8 9).1 (TX8 9).2.1 (TX8 9).2.2.1 ∈ wsX8_init := by decide +kernel
theorem wdX8_init_ac_boolean : Cond.arrayClass .boolean ∈ wsX8_init := by decide +kernel
theorem flX8_init_34 : Cond.fieldLink RX8 34 (TX8 10).1 (TX8 10).2.1 (TX8 10).2.2.1 ∈ wsX8_init := by decide +kernel
theorem flX8_init_38 : Cond.fieldLink RX8 38 (TX8 11).1 (TX8 11).2.1 (TX8 11).2.2.1 ∈ wsX8_init := by decide +kernel
theorem flX8_init_41 : Cond.fieldLink RX8 41 (TX8 14).1 (TX8 14).2.1 (TX8 14).2.2.1 ∈ wsX8_init := by decide +kernel
theorem flX8_init_44 : Cond.fieldLink RX8 44 (TX8 21).1 (TX8 21).2.1 (TX8 21).2.2.1 ∈ wsX8_init := by decide +kernel
theorem flX8_init_47 : Cond.fieldLink RX8 47 (TX8 22).1 (TX8 22).2.1 (TX8 22).2.2.1 ∈ wsX8_init := by decide +kernel
theorem flX8_init_50 : Cond.fieldLink RX8 50 (TX8 23).1 (TX8 23).2.1 (TX8 23).2.2.1 ∈ wsX8_init := by decide +kernel
set_option maxHeartbeats 8000000 in
set_option maxRecDepth 100000 in
theorem m_X8_init (l : Launch) (D : va_G) (dA : Nat → ClassId) (b0 : Nat) (r0 : Nat) (h : zH) (z : zH) (hf : f_X8_init r0 h = some z) : Met l yX8_init wsX8_init rmX8_init (zPc D dA b0 [.ref (b0 + r0)] h) (zQ D dA b0 none z) 14 1339 (zA b0) := by
  refine Met.ofW (cc := cX8_init) (maxL := 2) (ret := none) (by decide) rfl ?_
  intro p e s m args below meth c s₁ B hml hv
  obtain ⟨rfl, hP, hz, hK, hN⟩ := hv
  have hr := B.returns
  have hlk := B.notSynchronized
  have hin : meth.name = "<init>" := (name_of_methodNamed B.named B.method).1
  have hb0 : b0 ≤ s.heap.size := by rw [hz]; exact Nat.le_add_right _ _
  have X : zX p s m _ c cX8_init 2 RX8 wsX8_init D dA := ⟨⟨B.exec, B.bytes, hml, findClass_of_methodNamed B.named, atoms_spec (ws := wsX8_init) B.pre⟩, hK, hN⟩
  have G : zG D dA b0 s.heap h s.heap [] := ⟨hP, hz, va_S.rf⟩
  have hl := lv_entry ([.ref (b0 + r0)]) (n := 2) (Nat.le_of_ble_eq_true rfl)
  rw [lg_entry_eq]
  generalize (lg_sl ([.ref (b0 + r0)]) ++ List.replicate (2 - (lg_sl ([.ref (b0 + r0)])).length) Slot.unset).toArray = ls at hl ⊢
  have hl : lv_has ls 2 [(0, .ref (b0 + r0))] := hl
  unfold f_X8_init at hf
  refine lv_aload_n X.1.1 X.1.2.1 dX8_init_0 rfl (lv_at hl 0 rfl) ?_
  refine W.objInit X.1.1 X.1.2.1 X.1.2.2.2.1 (X.1.2.2.2.2 _ wdX8_init_oL1) (X.1.2.2.2.2 _ wdX8_init_oI) (X.1.2.2.2.2 _ wdX8_init_oC) rfl (hl.1.trans X.1.2.2.1.symm) rfl dX8_init_1 (Nat.le_of_ble_eq_true rfl) (Nat.le_of_ble_eq_true rfl) ?_
  refine W.eq (g2 := F0 m 4 ls []) rfl ?_
  refine lv_aload_n X.1.1 X.1.2.1 dX8_init_4 rfl (lv_at hl 0 rfl) ?_
  refine lv_bipush (v := 8) X.1.1 X.1.2.1 dX8_init_5 (by decide) ?_
  refine znewI (N := 8) X hb0 G wdX8_init_ac_int (by decide) (by decide) (Nat.le_of_ble_eq_true rfl) (Nat.le_of_ble_eq_true rfl) (Nat.le_of_ble_eq_true rfl) dX8_init_7 hf (fun q1 H hf G => ?_)
  refine W.widen (k := 1) (n := 8) (Nat.le_refl _) (Nat.le_refl _) ?_
  refine zputF (ty := (.array .int)) (ci := 8) (k := 0) (C := RX8) (T := TX8) (N := 24) X G rfl inX8_init_X8 tyX8_ok nmX8 (Nat.le_of_ble_eq_true rfl) flX8_init_7 rfl hin rfl (by decide +kernel) (fun _ => rfl) (fun _ => rfl) dX8_init_9 hf (fun h2 H locs hf G => ?_)
  refine lv_aload_n X.1.1 X.1.2.1 dX8_init_12 rfl (lv_at hl 0 rfl) ?_
  refine lv_bipush (v := 8) X.1.1 X.1.2.1 dX8_init_13 (by decide) ?_
  refine znewI (N := 8) X hb0 G wdX8_init_ac_int (by decide) (by decide) (Nat.le_of_ble_eq_true rfl) (Nat.le_of_ble_eq_true rfl) (Nat.le_of_ble_eq_true rfl) dX8_init_15 hf (fun q3 H hf G => ?_)
  refine W.widen (k := 2) (n := 16) (Nat.le_refl _) (Nat.le_refl _) ?_
  refine zputF (ty := (.array .int)) (ci := 8) (k := 1) (C := RX8) (T := TX8) (N := 24) X G rfl inX8_init_X8 tyX8_ok nmX8 (Nat.le_of_ble_eq_true rfl) flX8_init_13 rfl hin rfl (by decide +kernel) (fun _ => rfl) (fun _ => rfl) dX8_init_17 hf (fun h4 H locs hf G => ?_)
  refine lv_aload_n X.1.1 X.1.2.1 dX8_init_20 rfl (lv_at hl 0 rfl) ?_
  refine lv_sipush (v := 320) X.1.1 X.1.2.1 dX8_init_21 (by decide) ?_
  refine znewI (N := 320) X hb0 G wdX8_init_ac_int (by decide) (by decide) (Nat.le_of_ble_eq_true rfl) (Nat.le_of_ble_eq_true rfl) (Nat.le_of_ble_eq_true rfl) dX8_init_24 hf (fun q5 H hf G => ?_)
  refine W.widen (k := 3) (n := 336) (Nat.le_refl _) (Nat.le_refl _) ?_
  refine zputF (ty := (.array .int)) (ci := 8) (k := 2) (C := RX8) (T := TX8) (N := 24) X G rfl inX8_init_X8 tyX8_ok nmX8 (Nat.le_of_ble_eq_true rfl) flX8_init_16 rfl hin rfl (by decide +kernel) (fun _ => rfl) (fun _ => rfl) dX8_init_26 hf (fun h6 H locs hf G => ?_)
  refine lv_aload_n X.1.1 X.1.2.1 dX8_init_29 rfl (lv_at hl 0 rfl) ?_
  refine lv_bipush (v := 30) X.1.1 X.1.2.1 dX8_init_30 (by decide) ?_
  refine znewI (N := 30) X hb0 G wdX8_init_ac_int (by decide) (by decide) (Nat.le_of_ble_eq_true rfl) (Nat.le_of_ble_eq_true rfl) (Nat.le_of_ble_eq_true rfl) dX8_init_32 hf (fun q7 H hf G => ?_)
  refine W.widen (k := 4) (n := 366) (Nat.le_refl _) (Nat.le_refl _) ?_
  refine zputF (ty := (.array .int)) (ci := 8) (k := 4) (C := RX8) (T := TX8) (N := 24) X G rfl inX8_init_X8 tyX8_ok nmX8 (Nat.le_of_ble_eq_true rfl) flX8_init_19 rfl hin rfl (by decide +kernel) (fun _ => rfl) (fun _ => rfl) dX8_init_34 hf (fun h8 H locs hf G => ?_)
  refine lv_aload_n X.1.1 X.1.2.1 dX8_init_37 rfl (lv_at hl 0 rfl) ?_
  refine lv_bipush (v := 30) X.1.1 X.1.2.1 dX8_init_38 (by decide) ?_
  refine znewI (N := 30) X hb0 G wdX8_init_ac_int (by decide) (by decide) (Nat.le_of_ble_eq_true rfl) (Nat.le_of_ble_eq_true rfl) (Nat.le_of_ble_eq_true rfl) dX8_init_40 hf (fun q9 H hf G => ?_)
  refine W.widen (k := 5) (n := 396) (Nat.le_refl _) (Nat.le_refl _) ?_
  refine zputF (ty := (.array .int)) (ci := 8) (k := 5) (C := RX8) (T := TX8) (N := 24) X G rfl inX8_init_X8 tyX8_ok nmX8 (Nat.le_of_ble_eq_true rfl) flX8_init_22 rfl hin rfl (by decide +kernel) (fun _ => rfl) (fun _ => rfl) dX8_init_42 hf (fun h10 H locs hf G => ?_)
  refine lv_aload_n X.1.1 X.1.2.1 dX8_init_45 rfl (lv_at hl 0 rfl) ?_
  refine lv_bipush (v := 30) X.1.1 X.1.2.1 dX8_init_46 (by decide) ?_
  refine znewI (N := 30) X hb0 G wdX8_init_ac_int (by decide) (by decide) (Nat.le_of_ble_eq_true rfl) (Nat.le_of_ble_eq_true rfl) (Nat.le_of_ble_eq_true rfl) dX8_init_48 hf (fun q11 H hf G => ?_)
  refine W.widen (k := 6) (n := 426) (Nat.le_refl _) (Nat.le_refl _) ?_
  refine zputF (ty := (.array .int)) (ci := 8) (k := 6) (C := RX8) (T := TX8) (N := 24) X G rfl inX8_init_X8 tyX8_ok nmX8 (Nat.le_of_ble_eq_true rfl) flX8_init_25 rfl hin rfl (by decide +kernel) (fun _ => rfl) (fun _ => rfl) dX8_init_50 hf (fun h12 H locs hf G => ?_)
  refine lv_aload_n X.1.1 X.1.2.1 dX8_init_53 rfl (lv_at hl 0 rfl) ?_
  refine lv_sipush (v := 720) X.1.1 X.1.2.1 dX8_init_54 (by decide) ?_
  refine znewI (N := 720) X hb0 G wdX8_init_ac_int (by decide) (by decide) (Nat.le_of_ble_eq_true rfl) (Nat.le_of_ble_eq_true rfl) (Nat.le_of_ble_eq_true rfl) dX8_init_57 hf (fun q13 H hf G => ?_)
  refine W.widen (k := 7) (n := 1146) (Nat.le_refl _) (Nat.le_refl _) ?_
  refine zputF (ty := (.array .int)) (ci := 8) (k := 7) (C := RX8) (T := TX8) (N := 24) X G rfl inX8_init_X8 tyX8_ok nmX8 (Nat.le_of_ble_eq_true rfl) flX8_init_28 rfl hin rfl (by decide +kernel) (fun _ => rfl) (fun _ => rfl) dX8_init_59 hf (fun h14 H locs hf G => ?_)
  refine lv_aload_n X.1.1 X.1.2.1 dX8_init_62 rfl (lv_at hl 0 rfl) ?_
  refine lv_bipush (v := 60) X.1.1 X.1.2.1 dX8_init_63 (by decide) ?_
  refine znewI (N := 60) X hb0 G wdX8_init_ac_int (by decide) (by decide) (Nat.le_of_ble_eq_true rfl) (Nat.le_of_ble_eq_true rfl) (Nat.le_of_ble_eq_true rfl) dX8_init_65 hf (fun q15 H hf G => ?_)
  refine W.widen (k := 8) (n := 1206) (Nat.le_refl _) (Nat.le_refl _) ?_
  refine zputF (ty := (.array .int)) (ci := 8) (k := 9) (C := RX8) (T := TX8) (N := 24) X G rfl inX8_init_X8 tyX8_ok nmX8 (Nat.le_of_ble_eq_true rfl) flX8_init_31 rfl hin rfl (by decide +kernel) (fun _ => rfl) (fun _ => rfl) dX8_init_67 hf (fun h16 H locs hf G => ?_)
  refine lv_aload_n X.1.1 X.1.2.1 dX8_init_70 rfl (lv_at hl 0 rfl) ?_
  refine lv_iconst (v := 2) X.1.1 X.1.2.1 dX8_init_71 (by decide) ?_
  refine znewZ (N := 2) X hb0 G wdX8_init_ac_boolean (by decide) (by decide) (Nat.le_of_ble_eq_true rfl) (Nat.le_of_ble_eq_true rfl) (Nat.le_of_ble_eq_true rfl) dX8_init_72 hf (fun q17 H hf G => ?_)
  refine W.widen (k := 9) (n := 1208) (Nat.le_refl _) (Nat.le_refl _) ?_
  refine zputF (ty := (.array .boolean)) (ci := 8) (k := 10) (C := RX8) (T := TX8) (N := 24) X G rfl inX8_init_X8 tyX8_ok nmX8 (Nat.le_of_ble_eq_true rfl) flX8_init_34 rfl hin rfl (by decide +kernel) (fun _ => rfl) (fun _ => rfl) dX8_init_74 hf (fun h18 H locs hf G => ?_)
  refine lv_aload_n X.1.1 X.1.2.1 dX8_init_77 rfl (lv_at hl 0 rfl) ?_
  refine lv_bipush (v := 100) X.1.1 X.1.2.1 dX8_init_78 (by decide) ?_
  refine znewI (N := 100) X hb0 G wdX8_init_ac_int (by decide) (by decide) (Nat.le_of_ble_eq_true rfl) (Nat.le_of_ble_eq_true rfl) (Nat.le_of_ble_eq_true rfl) dX8_init_80 hf (fun q19 H hf G => ?_)
  refine W.widen (k := 10) (n := 1308) (Nat.le_refl _) (Nat.le_refl _) ?_
  refine zputF (ty := (.array .int)) (ci := 8) (k := 11) (C := RX8) (T := TX8) (N := 24) X G rfl inX8_init_X8 tyX8_ok nmX8 (Nat.le_of_ble_eq_true rfl) flX8_init_38 rfl hin rfl (by decide +kernel) (fun _ => rfl) (fun _ => rfl) dX8_init_82 hf (fun h20 H locs hf G => ?_)
  refine lv_aload_n X.1.1 X.1.2.1 dX8_init_85 rfl (lv_at hl 0 rfl) ?_
  refine lv_bipush (v := 16) X.1.1 X.1.2.1 dX8_init_86 (by decide) ?_
  refine znewI (N := 16) X hb0 G wdX8_init_ac_int (by decide) (by decide) (Nat.le_of_ble_eq_true rfl) (Nat.le_of_ble_eq_true rfl) (Nat.le_of_ble_eq_true rfl) dX8_init_88 hf (fun q21 H hf G => ?_)
  refine W.widen (k := 11) (n := 1324) (Nat.le_refl _) (Nat.le_refl _) ?_
  refine zputF (ty := (.array .int)) (ci := 8) (k := 14) (C := RX8) (T := TX8) (N := 24) X G rfl inX8_init_X8 tyX8_ok nmX8 (Nat.le_of_ble_eq_true rfl) flX8_init_41 rfl hin rfl (by decide +kernel) (fun _ => rfl) (fun _ => rfl) dX8_init_90 hf (fun h22 H locs hf G => ?_)
  refine lv_aload_n X.1.1 X.1.2.1 dX8_init_93 rfl (lv_at hl 0 rfl) ?_
  refine lv_iconst (v := 5) X.1.1 X.1.2.1 dX8_init_94 (by decide) ?_
  refine znewI (N := 5) X hb0 G wdX8_init_ac_int (by decide) (by decide) (Nat.le_of_ble_eq_true rfl) (Nat.le_of_ble_eq_true rfl) (Nat.le_of_ble_eq_true rfl) dX8_init_95 hf (fun q23 H hf G => ?_)
  refine W.widen (k := 12) (n := 1329) (Nat.le_refl _) (Nat.le_refl _) ?_
  refine zputF (ty := (.array .int)) (ci := 8) (k := 21) (C := RX8) (T := TX8) (N := 24) X G rfl inX8_init_X8 tyX8_ok nmX8 (Nat.le_of_ble_eq_true rfl) flX8_init_44 rfl hin rfl (by decide +kernel) (fun _ => rfl) (fun _ => rfl) dX8_init_97 hf (fun h24 H locs hf G => ?_)
  refine lv_aload_n X.1.1 X.1.2.1 dX8_init_100 rfl (lv_at hl 0 rfl) ?_
  refine lv_iconst (v := 5) X.1.1 X.1.2.1 dX8_init_101 (by decide) ?_
  refine znewI (N := 5) X hb0 G wdX8_init_ac_int (by decide) (by decide) (Nat.le_of_ble_eq_true rfl) (Nat.le_of_ble_eq_true rfl) (Nat.le_of_ble_eq_true rfl) dX8_init_102 hf (fun q25 H hf G => ?_)
  refine W.widen (k := 13) (n := 1334) (Nat.le_refl _) (Nat.le_refl _) ?_
  refine zputF (ty := (.array .int)) (ci := 8) (k := 22) (C := RX8) (T := TX8) (N := 24) X G rfl inX8_init_X8 tyX8_ok nmX8 (Nat.le_of_ble_eq_true rfl) flX8_init_47 rfl hin rfl (by decide +kernel) (fun _ => rfl) (fun _ => rfl) dX8_init_104 hf (fun h26 H locs hf G => ?_)
  refine lv_aload_n X.1.1 X.1.2.1 dX8_init_107 rfl (lv_at hl 0 rfl) ?_
  refine lv_iconst (v := 5) X.1.1 X.1.2.1 dX8_init_108 (by decide) ?_
  refine znewI (N := 5) X hb0 G wdX8_init_ac_int (by decide) (by decide) (Nat.le_of_ble_eq_true rfl) (Nat.le_of_ble_eq_true rfl) (Nat.le_of_ble_eq_true rfl) dX8_init_109 hf (fun q27 H hf G => ?_)
  refine W.widen (k := 14) (n := 1339) (Nat.le_refl _) (Nat.le_refl _) ?_
  refine zputF (ty := (.array .int)) (ci := 8) (k := 23) (C := RX8) (T := TX8) (N := 24) X G rfl inX8_init_X8 tyX8_ok nmX8 (Nat.le_of_ble_eq_true rfl) flX8_init_50 rfl hin rfl (by decide +kernel) (fun _ => rfl) (fun _ => rfl) dX8_init_111 hf (fun h28 H locs hf G => ?_)
  refine lv_iconst (v := 0) X.1.1 X.1.2.1 dX8_init_114 (by decide) ?_
  refine lv_istore_n (lv' := [(1, .int (0 : Int32)), (0, .ref (b0 + r0))]) X.1.1 X.1.2.1 dX8_init_115 rfl hl (by decide) rfl (fun ls hl => ?_)
  refine lv_iload_n X.1.1 X.1.2.1 dX8_init_116 rfl (lv_at hl 0 rfl) ?_
  refine lv_bipush (v := 8) X.1.1 X.1.2.1 dX8_init_117 (by decide) ?_
  refine lv_icmp_ge (tgt := 135) X.1.1 X.1.2.1 dX8_init_119 (by decide) (fun q => absurd q (by decide)) (fun _ => ?_)
  refine lv_aload_n X.1.1 X.1.2.1 dX8_init_122 rfl (lv_at hl 1 rfl) ?_
  refine zgetR (ci := 8) (k := 1) (C := RX8) (T := TX8) (N := 24) X G rfl inX8_init_X8 (Nat.le_of_ble_eq_true rfl) flX8_init_13 dX8_init_123 hf (fun v29 hf => ?_)
  refine lv_iload_n X.1.1 X.1.2.1 dX8_init_126 rfl (lv_at hl 0 rfl) ?_
  refine lv_iconst (v := -1) X.1.1 X.1.2.1 dX8_init_127 (by decide) ?_
  refine ziast X G dX8_init_128 hf (fun h30 H locs hf G => ?_)
  refine lv_iinc (v := 1) (lv' := [(1, .int (1 : Int32)), (0, .ref (b0 + r0))]) X.1.1 X.1.2.1 dX8_init_129 hl (k := 0) rfl (by decide) (by decide) rfl (fun ls hl => ?_)
  refine lv_goto (tgt := 116) X.1.1 X.1.2.1 dX8_init_132 (by decide) ?_
  refine lv_iload_n X.1.1 X.1.2.1 dX8_init_116 rfl (lv_at hl 0 rfl) ?_
  refine lv_bipush (v := 8) X.1.1 X.1.2.1 dX8_init_117 (by decide) ?_
  refine lv_icmp_ge (tgt := 135) X.1.1 X.1.2.1 dX8_init_119 (by decide) (fun q => absurd q (by decide)) (fun _ => ?_)
  refine lv_aload_n X.1.1 X.1.2.1 dX8_init_122 rfl (lv_at hl 1 rfl) ?_
  refine zgetR (ci := 8) (k := 1) (C := RX8) (T := TX8) (N := 24) X G rfl inX8_init_X8 (Nat.le_of_ble_eq_true rfl) flX8_init_13 dX8_init_123 hf (fun v31 hf => ?_)
  refine lv_iload_n X.1.1 X.1.2.1 dX8_init_126 rfl (lv_at hl 0 rfl) ?_
  refine lv_iconst (v := -1) X.1.1 X.1.2.1 dX8_init_127 (by decide) ?_
  refine ziast X G dX8_init_128 hf (fun h32 H locs hf G => ?_)
  refine lv_iinc (v := 2) (lv' := [(1, .int (2 : Int32)), (0, .ref (b0 + r0))]) X.1.1 X.1.2.1 dX8_init_129 hl (k := 0) rfl (by decide) (by decide) rfl (fun ls hl => ?_)
  refine lv_goto (tgt := 116) X.1.1 X.1.2.1 dX8_init_132 (by decide) ?_
  refine lv_iload_n X.1.1 X.1.2.1 dX8_init_116 rfl (lv_at hl 0 rfl) ?_
  refine lv_bipush (v := 8) X.1.1 X.1.2.1 dX8_init_117 (by decide) ?_
  refine lv_icmp_ge (tgt := 135) X.1.1 X.1.2.1 dX8_init_119 (by decide) (fun q => absurd q (by decide)) (fun _ => ?_)
  refine lv_aload_n X.1.1 X.1.2.1 dX8_init_122 rfl (lv_at hl 1 rfl) ?_
  refine zgetR (ci := 8) (k := 1) (C := RX8) (T := TX8) (N := 24) X G rfl inX8_init_X8 (Nat.le_of_ble_eq_true rfl) flX8_init_13 dX8_init_123 hf (fun v33 hf => ?_)
  refine lv_iload_n X.1.1 X.1.2.1 dX8_init_126 rfl (lv_at hl 0 rfl) ?_
  refine lv_iconst (v := -1) X.1.1 X.1.2.1 dX8_init_127 (by decide) ?_
  refine ziast X G dX8_init_128 hf (fun h34 H locs hf G => ?_)
  refine lv_iinc (v := 3) (lv' := [(1, .int (3 : Int32)), (0, .ref (b0 + r0))]) X.1.1 X.1.2.1 dX8_init_129 hl (k := 0) rfl (by decide) (by decide) rfl (fun ls hl => ?_)
  refine lv_goto (tgt := 116) X.1.1 X.1.2.1 dX8_init_132 (by decide) ?_
  refine lv_iload_n X.1.1 X.1.2.1 dX8_init_116 rfl (lv_at hl 0 rfl) ?_
  refine lv_bipush (v := 8) X.1.1 X.1.2.1 dX8_init_117 (by decide) ?_
  refine lv_icmp_ge (tgt := 135) X.1.1 X.1.2.1 dX8_init_119 (by decide) (fun q => absurd q (by decide)) (fun _ => ?_)
  refine lv_aload_n X.1.1 X.1.2.1 dX8_init_122 rfl (lv_at hl 1 rfl) ?_
  refine zgetR (ci := 8) (k := 1) (C := RX8) (T := TX8) (N := 24) X G rfl inX8_init_X8 (Nat.le_of_ble_eq_true rfl) flX8_init_13 dX8_init_123 hf (fun v35 hf => ?_)
  refine lv_iload_n X.1.1 X.1.2.1 dX8_init_126 rfl (lv_at hl 0 rfl) ?_
  refine lv_iconst (v := -1) X.1.1 X.1.2.1 dX8_init_127 (by decide) ?_
  refine ziast X G dX8_init_128 hf (fun h36 H locs hf G => ?_)
  refine lv_iinc (v := 4) (lv' := [(1, .int (4 : Int32)), (0, .ref (b0 + r0))]) X.1.1 X.1.2.1 dX8_init_129 hl (k := 0) rfl (by decide) (by decide) rfl (fun ls hl => ?_)
  refine lv_goto (tgt := 116) X.1.1 X.1.2.1 dX8_init_132 (by decide) ?_
  refine lv_iload_n X.1.1 X.1.2.1 dX8_init_116 rfl (lv_at hl 0 rfl) ?_
  refine lv_bipush (v := 8) X.1.1 X.1.2.1 dX8_init_117 (by decide) ?_
  refine lv_icmp_ge (tgt := 135) X.1.1 X.1.2.1 dX8_init_119 (by decide) (fun q => absurd q (by decide)) (fun _ => ?_)
  refine lv_aload_n X.1.1 X.1.2.1 dX8_init_122 rfl (lv_at hl 1 rfl) ?_
  refine zgetR (ci := 8) (k := 1) (C := RX8) (T := TX8) (N := 24) X G rfl inX8_init_X8 (Nat.le_of_ble_eq_true rfl) flX8_init_13 dX8_init_123 hf (fun v37 hf => ?_)
  refine lv_iload_n X.1.1 X.1.2.1 dX8_init_126 rfl (lv_at hl 0 rfl) ?_
  refine lv_iconst (v := -1) X.1.1 X.1.2.1 dX8_init_127 (by decide) ?_
  refine ziast X G dX8_init_128 hf (fun h38 H locs hf G => ?_)
  refine lv_iinc (v := 5) (lv' := [(1, .int (5 : Int32)), (0, .ref (b0 + r0))]) X.1.1 X.1.2.1 dX8_init_129 hl (k := 0) rfl (by decide) (by decide) rfl (fun ls hl => ?_)
  refine lv_goto (tgt := 116) X.1.1 X.1.2.1 dX8_init_132 (by decide) ?_
  refine lv_iload_n X.1.1 X.1.2.1 dX8_init_116 rfl (lv_at hl 0 rfl) ?_
  refine lv_bipush (v := 8) X.1.1 X.1.2.1 dX8_init_117 (by decide) ?_
  refine lv_icmp_ge (tgt := 135) X.1.1 X.1.2.1 dX8_init_119 (by decide) (fun q => absurd q (by decide)) (fun _ => ?_)
  refine lv_aload_n X.1.1 X.1.2.1 dX8_init_122 rfl (lv_at hl 1 rfl) ?_
  refine zgetR (ci := 8) (k := 1) (C := RX8) (T := TX8) (N := 24) X G rfl inX8_init_X8 (Nat.le_of_ble_eq_true rfl) flX8_init_13 dX8_init_123 hf (fun v39 hf => ?_)
  refine lv_iload_n X.1.1 X.1.2.1 dX8_init_126 rfl (lv_at hl 0 rfl) ?_
  refine lv_iconst (v := -1) X.1.1 X.1.2.1 dX8_init_127 (by decide) ?_
  refine ziast X G dX8_init_128 hf (fun h40 H locs hf G => ?_)
  refine lv_iinc (v := 6) (lv' := [(1, .int (6 : Int32)), (0, .ref (b0 + r0))]) X.1.1 X.1.2.1 dX8_init_129 hl (k := 0) rfl (by decide) (by decide) rfl (fun ls hl => ?_)
  refine lv_goto (tgt := 116) X.1.1 X.1.2.1 dX8_init_132 (by decide) ?_
  refine lv_iload_n X.1.1 X.1.2.1 dX8_init_116 rfl (lv_at hl 0 rfl) ?_
  refine lv_bipush (v := 8) X.1.1 X.1.2.1 dX8_init_117 (by decide) ?_
  refine lv_icmp_ge (tgt := 135) X.1.1 X.1.2.1 dX8_init_119 (by decide) (fun q => absurd q (by decide)) (fun _ => ?_)
  refine lv_aload_n X.1.1 X.1.2.1 dX8_init_122 rfl (lv_at hl 1 rfl) ?_
  refine zgetR (ci := 8) (k := 1) (C := RX8) (T := TX8) (N := 24) X G rfl inX8_init_X8 (Nat.le_of_ble_eq_true rfl) flX8_init_13 dX8_init_123 hf (fun v41 hf => ?_)
  refine lv_iload_n X.1.1 X.1.2.1 dX8_init_126 rfl (lv_at hl 0 rfl) ?_
  refine lv_iconst (v := -1) X.1.1 X.1.2.1 dX8_init_127 (by decide) ?_
  refine ziast X G dX8_init_128 hf (fun h42 H locs hf G => ?_)
  refine lv_iinc (v := 7) (lv' := [(1, .int (7 : Int32)), (0, .ref (b0 + r0))]) X.1.1 X.1.2.1 dX8_init_129 hl (k := 0) rfl (by decide) (by decide) rfl (fun ls hl => ?_)
  refine lv_goto (tgt := 116) X.1.1 X.1.2.1 dX8_init_132 (by decide) ?_
  refine lv_iload_n X.1.1 X.1.2.1 dX8_init_116 rfl (lv_at hl 0 rfl) ?_
  refine lv_bipush (v := 8) X.1.1 X.1.2.1 dX8_init_117 (by decide) ?_
  refine lv_icmp_ge (tgt := 135) X.1.1 X.1.2.1 dX8_init_119 (by decide) (fun q => absurd q (by decide)) (fun _ => ?_)
  refine lv_aload_n X.1.1 X.1.2.1 dX8_init_122 rfl (lv_at hl 1 rfl) ?_
  refine zgetR (ci := 8) (k := 1) (C := RX8) (T := TX8) (N := 24) X G rfl inX8_init_X8 (Nat.le_of_ble_eq_true rfl) flX8_init_13 dX8_init_123 hf (fun v43 hf => ?_)
  refine lv_iload_n X.1.1 X.1.2.1 dX8_init_126 rfl (lv_at hl 0 rfl) ?_
  refine lv_iconst (v := -1) X.1.1 X.1.2.1 dX8_init_127 (by decide) ?_
  refine ziast X G dX8_init_128 hf (fun h44 H locs hf G => ?_)
  refine lv_iinc (v := 8) (lv' := [(1, .int (8 : Int32)), (0, .ref (b0 + r0))]) X.1.1 X.1.2.1 dX8_init_129 hl (k := 0) rfl (by decide) (by decide) rfl (fun ls hl => ?_)
  refine lv_goto (tgt := 116) X.1.1 X.1.2.1 dX8_init_132 (by decide) ?_
  refine lv_iload_n X.1.1 X.1.2.1 dX8_init_116 rfl (lv_at hl 0 rfl) ?_
  refine lv_bipush (v := 8) X.1.1 X.1.2.1 dX8_init_117 (by decide) ?_
  refine lv_icmp_ge (tgt := 135) X.1.1 X.1.2.1 dX8_init_119 (by decide) (fun _ => ?_) (fun q => absurd (by decide) q)
  exact zretV X hr hlk G hf dX8_init_135
/-! X8_in -/
abbrev rmX8_in : Room := { frames := 0, cells := 0, slots := 0, locals := 0 }
theorem hdS_X8_in : yX8_in.cls ≠ "java/lang/invoke/MethodHandle" ∧ yX8_in.cls ≠ "java/lang/invoke/VarHandle" ∧ (parseMethodDescriptor yX8_in.desc).map (fun d => d.parameters.length) = some 3 := by decide +kernel
set_option maxHeartbeats 4000000 in
set_option maxRecDepth 100000 in
theorem m_X8_in (l : Launch) (D : va_G) (dA : Nat → ClassId) (b0 : Nat) (a0 : Int64) (a2 : Int64) (a4 : Int64) (h : zH) (z : Int32) (hf : f_X8_in a0 a2 a4 h = some z) : Met l yX8_in wsX8_in rmX8_in (zPc D dA b0 [.long a0, .long a2, .long a4] h) (zQ D dA b0 (some (.int z)) h) 0 0 (zA b0) := by
  refine Met.ofW (cc := cX8_in) (maxL := 6) (ret := (some .boolean)) (by decide) rfl ?_
  intro p e s m args below meth c s₁ B hml hv
  obtain ⟨rfl, hP, hz, hK, hN⟩ := hv
  have hr := B.returns
  have hlk := B.notSynchronized
  have X : zX p s m _ c cX8_in 6 RX8 wsX8_in D dA := ⟨⟨B.exec, B.bytes, hml, findClass_of_methodNamed B.named, atoms_spec (ws := wsX8_in) B.pre⟩, hK, hN⟩
  have G : zG D dA b0 s.heap h s.heap [] := ⟨hP, hz, va_S.rf⟩
  have hl := lv_entry ([.long a0, .long a2, .long a4]) (n := 6) (Nat.le_of_ble_eq_true rfl)
  rw [lg_entry_eq]
  generalize (lg_sl ([.long a0, .long a2, .long a4]) ++ List.replicate (6 - (lg_sl ([.long a0, .long a2, .long a4])).length) Slot.unset).toArray = ls at hl ⊢
  have hl : lv_has ls 6 [(0, .long a0), (2, .long a2), (4, .long a4)] := hl
  unfold f_X8_in at hf
  refine lv_lload_n X.1.1 X.1.2.1 dX8_in_0 rfl (lv_at hl 0 rfl) ?_
  refine lv_lload_n X.1.1 X.1.2.1 dX8_in_1 rfl (lv_at hl 1 rfl) ?_
  refine W.lcmp X.1.1 X.1.2.1 dX8_in_2 ?_
  refine zif_lt (tgt := 17) X dX8_in_3 (by decide) hf (fun hf => ?_) (fun hf => ?_)
  · refine lv_iconst (v := 0) X.1.1 X.1.2.1 dX8_in_17 (by decide) ?_
    exact zretZr X hr hlk G hf dX8_in_18
  · refine lv_lload_n X.1.1 X.1.2.1 dX8_in_6 rfl (lv_at hl 0 rfl) ?_
    refine lv_lload X.1.1 X.1.2.1 dX8_in_7 (lv_at hl 2 rfl) ?_
    refine W.lcmp X.1.1 X.1.2.1 dX8_in_9 ?_
    refine zif_gt (tgt := 17) X dX8_in_10 (by decide) hf (fun hf => ?_) (fun hf => ?_)
    · refine lv_iconst (v := 0) X.1.1 X.1.2.1 dX8_in_17 (by decide) ?_
      exact zretZr X hr hlk G hf dX8_in_18
    · refine lv_iconst (v := 1) X.1.1 X.1.2.1 dX8_in_13 (by decide) ?_
      refine lv_goto (tgt := 18) X.1.1 X.1.2.1 dX8_in_14 (by decide) ?_
      exact zretZr X hr hlk G hf dX8_in_18
/-! X8_found -/
abbrev rmX8_found : Room := { frames := 0, cells := 0, slots := 0, locals := 0 }
theorem hdV_X8_found : yX8_found.cls = RX8 ∧ yX8_found.cls ≠ "java/lang/invoke/MethodHandle" ∧ yX8_found.cls ≠ "java/lang/invoke/VarHandle" ∧ (parseMethodDescriptor yX8_found.desc).map (fun d => d.parameters.length) = some 1 := by decide +kernel
theorem inX8_found_X8 : ∀ w ∈ wsX80, w ∈ wsX8_found := by decide +kernel
theorem flX8_found_53 : Cond.fieldLink RX8 53 (TX8 3).1 (TX8 3).2.1 (TX8 3).2.2.1 ∈ wsX8_found := by decide +kernel
theorem coX8_found_57 : Cond.constant RX8 57 (-1000010) ∈ wsX8_found := by decide +kernel
set_option maxHeartbeats 4000000 in
set_option maxRecDepth 100000 in
theorem m_X8_found (l : Launch) (D : va_G) (dA : Nat → ClassId) (b0 : Nat) (r0 : Nat) (a1 : Int32) (h : zH) (z : Int32 × zH) (hf : f_X8_found r0 a1 h = some z) : Met l yX8_found wsX8_found rmX8_found (zPc D dA b0 [.ref (b0 + r0), .int a1] h) (zQ D dA b0 (some (.int z.1)) z.2) 0 0 (zA b0) := by
  refine Met.ofW (cc := cX8_found) (maxL := 2) (ret := (some .int)) (by decide) rfl ?_
  intro p e s m args below meth c s₁ B hml hv
  obtain ⟨rfl, hP, hz, hK, hN⟩ := hv
  have hr := B.returns
  have hlk := B.notSynchronized
  have X : zX p s m _ c cX8_found 2 RX8 wsX8_found D dA := ⟨⟨B.exec, B.bytes, hml, findClass_of_methodNamed B.named, atoms_spec (ws := wsX8_found) B.pre⟩, hK, hN⟩
  have G : zG D dA b0 s.heap h s.heap [] := ⟨hP, hz, va_S.rf⟩
  have hl := lv_entry ([.ref (b0 + r0), .int a1]) (n := 2) (Nat.le_of_ble_eq_true rfl)
  rw [lg_entry_eq]
  generalize (lg_sl ([.ref (b0 + r0), .int a1]) ++ List.replicate (2 - (lg_sl ([.ref (b0 + r0), .int a1])).length) Slot.unset).toArray = ls at hl ⊢
  have hl : lv_has ls 2 [(0, .ref (b0 + r0)), (1, .int a1)] := hl
  unfold f_X8_found at hf
  refine lv_aload_n X.1.1 X.1.2.1 dX8_found_0 rfl (lv_at hl 0 rfl) ?_
  refine lv_iload_n X.1.1 X.1.2.1 dX8_found_1 rfl (lv_at hl 1 rfl) ?_
  refine zputI (ci := 8) (k := 3) (C := RX8) (T := TX8) (N := 24) X G rfl inX8_found_X8 tyX8_ok nmX8 (Nat.le_of_ble_eq_true rfl) flX8_found_53 rfl (by decide +kernel) dX8_found_2 hf (fun h1 H locs hf G => ?_)
  refine lv_ldc (v := -1000010) X.1.1 X.1.2.1 X.1.2.2.2.1 (X.1.2.2.2.2 _ coX8_found_57) dX8_found_5 ?_
  refine lv_iload_n X.1.1 X.1.2.1 dX8_found_7 rfl (lv_at hl 1 rfl) ?_
  refine lv_isub X.1.1 X.1.2.1 dX8_found_8 ?_
  exact zretI X hr hlk G hf dX8_found_9
/-! X8_well -/
abbrev rmX8_well : Room := { frames := 0, cells := 0, slots := 0, locals := 0 }
theorem hdV_X8_well : yX8_well.cls = RX8 ∧ yX8_well.cls ≠ "java/lang/invoke/MethodHandle" ∧ yX8_well.cls ≠ "java/lang/invoke/VarHandle" ∧ (parseMethodDescriptor yX8_well.desc).map (fun d => d.parameters.length) = some 1 := by decide +kernel
theorem inX8_well_X8 : ∀ w ∈ wsX80, w ∈ wsX8_well := by decide +kernel
theorem flX8_well_53 : Cond.fieldLink RX8 53 (TX8 3).1 (TX8 3).2.1 (TX8 3).2.2.1 ∈ wsX8_well := by decide +kernel
set_option maxHeartbeats 4000000 in
set_option maxRecDepth 100000 in
theorem m_X8_well (l : Launch) (D : va_G) (dA : Nat → ClassId) (b0 : Nat) (r0 : Nat) (a1 : Int32) (h : zH) (z : Int32 × zH) (hf : f_X8_well r0 a1 h = some z) : Met l yX8_well wsX8_well rmX8_well (zPc D dA b0 [.ref (b0 + r0), .int a1] h) (zQ D dA b0 (some (.int z.1)) z.2) 0 0 (zA b0) := by
  refine Met.ofW (cc := cX8_well) (maxL := 2) (ret := (some .int)) (by decide) rfl ?_
  intro p e s m args below meth c s₁ B hml hv
  obtain ⟨rfl, hP, hz, hK, hN⟩ := hv
  have hr := B.returns
  have hlk := B.notSynchronized
  have X : zX p s m _ c cX8_well 2 RX8 wsX8_well D dA := ⟨⟨B.exec, B.bytes, hml, findClass_of_methodNamed B.named, atoms_spec (ws := wsX8_well) B.pre⟩, hK, hN⟩
  have G : zG D dA b0 s.heap h s.heap [] := ⟨hP, hz, va_S.rf⟩
  have hl := lv_entry ([.ref (b0 + r0), .int a1]) (n := 2) (Nat.le_of_ble_eq_true rfl)
  rw [lg_entry_eq]
  generalize (lg_sl ([.ref (b0 + r0), .int a1]) ++ List.replicate (2 - (lg_sl ([.ref (b0 + r0), .int a1])).length) Slot.unset).toArray = ls at hl ⊢
  have hl : lv_has ls 2 [(0, .ref (b0 + r0)), (1, .int a1)] := hl
  unfold f_X8_well at hf
  refine lv_aload_n X.1.1 X.1.2.1 dX8_well_0 rfl (lv_at hl 0 rfl) ?_
  refine lv_iconst (v := 0) X.1.1 X.1.2.1 dX8_well_1 (by decide) ?_
  refine zputI (ci := 8) (k := 3) (C := RX8) (T := TX8) (N := 24) X G rfl inX8_well_X8 tyX8_ok nmX8 (Nat.le_of_ble_eq_true rfl) flX8_well_53 rfl (by decide +kernel) dX8_well_2 hf (fun h1 H locs hf G => ?_)
  refine lv_iload_n X.1.1 X.1.2.1 dX8_well_5 rfl (lv_at hl 1 rfl) ?_
  exact zretI X hr hlk G hf dX8_well_6
/-! X8_isRow -/
abbrev rmX8_isRow : Room := { frames := 1, cells := 0, slots := 0, locals := 25 }
theorem hdS_X8_isRow : yX8_isRow.cls ≠ "java/lang/invoke/MethodHandle" ∧ yX8_isRow.cls ≠ "java/lang/invoke/VarHandle" ∧ (parseMethodDescriptor yX8_isRow.desc).map (fun d => d.parameters.length) = some 1 := by decide +kernel
theorem clX8_isRow_58 : Cond.constantLong RX8 58 (7) ∈ wsX8_isRow := by decide +kernel
set_option maxHeartbeats 4000000 in
set_option maxRecDepth 100000 in
theorem m_X8_isRow (l : Launch) (D : va_G) (dA : Nat → ClassId) (b0 : Nat) (a0 : Int32) (h : zH) (z : Int32) (hf : f_X8_isRow a0 h = some z) : Met l yX8_isRow wsX8_isRow rmX8_isRow (zPc D dA b0 [.int a0] h) (zQ D dA b0 (some (.int z)) h) 0 0 (zA b0) := by
  refine Met.ofW (cc := cX8_isRow) (maxL := 1) (ret := (some .boolean)) (by decide) rfl ?_
  intro p e s m args below meth c s₁ B hml hv
  obtain ⟨rfl, hP, hz, hK, hN⟩ := hv
  have hr := B.returns
  have hlk := B.notSynchronized
  have X : zX p s m _ c cX8_isRow 1 RX8 wsX8_isRow D dA := ⟨⟨B.exec, B.bytes, hml, findClass_of_methodNamed B.named, atoms_spec (ws := wsX8_isRow) B.pre⟩, hK, hN⟩
  have G : zG D dA b0 s.heap h s.heap [] := ⟨hP, hz, va_S.rf⟩
  have hl := lv_entry ([.int a0]) (n := 1) (Nat.le_of_ble_eq_true rfl)
  rw [lg_entry_eq]
  generalize (lg_sl ([.int a0]) ++ List.replicate (1 - (lg_sl ([.int a0])).length) Slot.unset).toArray = ls at hl ⊢
  have hl : lv_has ls 1 [(0, .int a0)] := hl
  unfold f_X8_isRow at hf
  refine lv_iload_n X.1.1 X.1.2.1 dX8_isRow_0 rfl (lv_at hl 0 rfl) ?_
  refine lv_i2l X.1.1 X.1.2.1 dX8_isRow_1 rfl ?_
  refine lv_lconst (v := 0) X.1.1 X.1.2.1 dX8_isRow_2 (by decide) ?_
  refine lv_ldc2 (v := 7) X.1.1 X.1.2.1 X.1.2.2.2.1 (X.1.2.2.2.2 _ clX8_isRow_58) dX8_isRow_3 ?_
  obtain ⟨q1, eq1, hf⟩ := Option.bind_eq_some_iff.mp hf
  refine zcS0 (As := [.long (Int32.toInt64 a0), .long (0 : Int64), .long (7 : Int64)]) (rest := []) (v := (some (.int q1))) (h' := h) X G (m_X8_in l D dA b0 ((Int32.toInt64 a0)) (0 : Int64) (7 : Int64) h q1 eq1) (va_cwS 3 X.1.2.2.2.2 gX8_isRow_X8_in rfl rfl rfl hdS_X8_in ⟨(Nat.le_of_ble_eq_true rfl), (Nat.le_of_ble_eq_true rfl)⟩) rfl hl.1 rfl (Nat.le_of_ble_eq_true rfl) dX8_isRow_6 ⟨Nat.zero_le _, Nat.zero_le _⟩ (fun H locs G => ?_)
  exact zretZr X hr hlk G hf dX8_isRow_9
/-! X8_row -/
abbrev rmX8_row : Room := { frames := 2, cells := 0, slots := 0, locals := 45 }
theorem hdV_X8_row : yX8_row.cls = RX8 ∧ yX8_row.cls ≠ "java/lang/invoke/MethodHandle" ∧ yX8_row.cls ≠ "java/lang/invoke/VarHandle" ∧ (parseMethodDescriptor yX8_row.desc).map (fun d => d.parameters.length) = some 3 := by decide +kernel
theorem inX8_row_X8 : ∀ w ∈ wsX80, w ∈ wsX8_row := by decide +kernel
theorem flX8_row_16 : Cond.fieldLink RX8 16 (TX8 2).1 (TX8 2).2.1 (TX8 2).2.2.1 ∈ wsX8_row := by decide +kernel
theorem coX8_row_70 : Cond.constant RX8 70 (-1000001) ∈ wsX8_row := by decide +kernel
theorem clX8_row_68 : Cond.constantLong RX8 68 (2) ∈ wsX8_row := by decide +kernel
theorem flX8_row_7 : Cond.fieldLink RX8 7 (TX8 0).1 (TX8 0).2.1 (TX8 0).2.2.1 ∈ wsX8_row := by decide +kernel
theorem flX8_row_13 : Cond.fieldLink RX8 13 (TX8 1).1 (TX8 1).2.1 (TX8 1).2.2.1 ∈ wsX8_row := by decide +kernel
set_option maxHeartbeats 4000000 in
set_option maxRecDepth 100000 in
theorem w_X8_row_b55 {p : Program} {l : Launch} {e : Env} {s : State} {m : MethodId} {args : Array Value} {below : List Frame} {meth : Method} {c : Code} {D : va_G} {dA : Nat → ClassId} {b0 : Nat} (X : zX p s m args c cX8_row 5 RX8 wsX8_row D dA) (hr : meth.sig.returnType = (some .int)) (hlk : meth.locks = false) {z : Int32 × zH} : ∀ (n : Nat), ∀ (r0 : Nat) (a1 : Int32) (a3 : Int32) (a4 : Int32) (h : zH) (H : Heap) (locs : List Loc) (ls : Array Slot), f_X8_row_b55 n r0 a1 a3 a4 h = some z → zG D dA b0 s.heap h H locs → lv_has ls 5 [(0, .ref (b0 + r0)), (1, .int a1), (3, .int a3), (4, .int a4)] → W p l e rmX8_row s m args below meth c H locs 0 0 (MQ below (zQ D dA b0 (some (.int z.1)) z.2) args s 0 0 (zA b0)) (F0 m 55 ls []) := by
  intro n
  induction n with
  | zero =>
    intro r0 a1 a3 a4 h H locs ls hf
    cases hf
  | succ n ih =>
    intro r0 a1 a3 a4 h H locs ls hf G hl
    rw [f_X8_row_b55] at hf
    refine lv_iload X.1.1 X.1.2.1 dX8_row_55 (lv_at hl 3 rfl) ?_
    refine lv_bipush (v := 40) X.1.1 X.1.2.1 dX8_row_57 (by decide) ?_
    refine zic_ge (tgt := 81) X dX8_row_59 (by decide) hf (fun hf => ?_) (fun hf => ?_)
    · refine lv_aload_n X.1.1 X.1.2.1 dX8_row_81 rfl (lv_at hl 0 rfl) ?_
      refine lv_iload_n X.1.1 X.1.2.1 dX8_row_82 rfl (lv_at hl 2 rfl) ?_
      obtain ⟨hk, hf⟩ := zck hf
      obtain ⟨q1, eq1, hf⟩ := Option.bind_eq_some_iff.mp hf
      refine zcV0 (As := [.int a3]) (rest := []) (v := (some (.int q1.1))) (h' := q1.2) X G (rfl : vwCl[8]? = some (RX8, TX8, 24)) hk (m_X8_well l D dA b0 r0 a3 h q1 eq1) (cwV 1 X.1.2.2.2.2 gX8_row_X8_well rfl rfl rfl hdV_X8_well ⟨(Nat.le_of_ble_eq_true rfl), (Nat.le_of_ble_eq_true rfl)⟩) rfl hl.1 rfl (Nat.le_of_ble_eq_true rfl) dX8_row_83 ⟨Nat.zero_le _, Nat.zero_le _⟩ (fun H locs G => ?_)
      exact zretI X hr hlk G hf dX8_row_86
    · refine lv_aload_n X.1.1 X.1.2.1 dX8_row_62 rfl (lv_at hl 0 rfl) ?_
      refine zgetR (ci := 8) (k := 2) (C := RX8) (T := TX8) (N := 24) X G rfl inX8_row_X8 (Nat.le_of_ble_eq_true rfl) flX8_row_16 dX8_row_63 hf (fun v2 hf => ?_)
      refine lv_bipush (v := 40) X.1.1 X.1.2.1 dX8_row_66 (by decide) ?_
      refine lv_iload_n X.1.1 X.1.2.1 dX8_row_68 rfl (lv_at hl 1 rfl) ?_
      refine lv_imul X.1.1 X.1.2.1 dX8_row_69 ?_
      refine lv_iload X.1.1 X.1.2.1 dX8_row_70 (lv_at hl 3 rfl) ?_
      refine lv_iadd X.1.1 X.1.2.1 dX8_row_72 ?_
      refine lv_iconst (v := 0) X.1.1 X.1.2.1 dX8_row_73 (by decide) ?_
      refine ziast X G dX8_row_74 hf (fun h3 H locs hf G => ?_)
      refine lv_iinc (v := (a4 + (1 : Int32))) (lv' := [(4, .int (a4 + (1 : Int32))), (0, .ref (b0 + r0)), (1, .int a1), (3, .int a3)]) X.1.1 X.1.2.1 dX8_row_75 hl (k := 3) rfl rfl (by decide) rfl (fun ls hl => ?_)
      refine lv_goto (tgt := 55) X.1.1 X.1.2.1 dX8_row_78 (by decide) ?_
      exact ih _ _ _ _ _ _ _ _ hf G (lv_sub hl [1, 2, 3, 0] rfl)
set_option maxHeartbeats 4000000 in
set_option maxRecDepth 100000 in
theorem m_X8_row (l : Launch) (D : va_G) (dA : Nat → ClassId) (b0 : Nat) (r0 : Nat) (a1 : Int32) (a2 : Int32) (a3 : Int32) (h : zH) (z : Int32 × zH) (hf : f_X8_row r0 a1 a2 a3 h = some z) : Met l yX8_row wsX8_row rmX8_row (zPc D dA b0 [.ref (b0 + r0), .int a1, .int a2, .int a3] h) (zQ D dA b0 (some (.int z.1)) z.2) 0 0 (zA b0) := by
  refine Met.ofW (cc := cX8_row) (maxL := 5) (ret := (some .int)) (by decide) rfl ?_
  intro p e s m args below meth c s₁ B hml hv
  obtain ⟨rfl, hP, hz, hK, hN⟩ := hv
  have hr := B.returns
  have hlk := B.notSynchronized
  have X : zX p s m _ c cX8_row 5 RX8 wsX8_row D dA := ⟨⟨B.exec, B.bytes, hml, findClass_of_methodNamed B.named, atoms_spec (ws := wsX8_row) B.pre⟩, hK, hN⟩
  have G : zG D dA b0 s.heap h s.heap [] := ⟨hP, hz, va_S.rf⟩
  have hl := lv_entry ([.ref (b0 + r0), .int a1, .int a2, .int a3]) (n := 5) (Nat.le_of_ble_eq_true rfl)
  rw [lg_entry_eq]
  generalize (lg_sl ([.ref (b0 + r0), .int a1, .int a2, .int a3]) ++ List.replicate (5 - (lg_sl ([.ref (b0 + r0), .int a1, .int a2, .int a3])).length) Slot.unset).toArray = ls at hl ⊢
  have hl : lv_has ls 5 [(0, .ref (b0 + r0)), (1, .int a1), (2, .int a2), (3, .int a3)] := hl
  unfold f_X8_row at hf
  refine lv_iload_n X.1.1 X.1.2.1 dX8_row_0 rfl (lv_at hl 1 rfl) ?_
  obtain ⟨q1, eq1, hf⟩ := Option.bind_eq_some_iff.mp hf
  refine zcS0 (As := [.int a1]) (rest := []) (v := (some (.int q1))) (h' := h) X G (m_X8_isRow l D dA b0 a1 h q1 eq1) (va_cwS 1 X.1.2.2.2.2 gX8_row_X8_isRow rfl rfl rfl hdS_X8_isRow ⟨(Nat.le_of_ble_eq_true rfl), (Nat.le_of_ble_eq_true rfl)⟩) rfl hl.1 rfl (Nat.le_of_ble_eq_true rfl) dX8_row_1 ⟨Nat.zero_le _, Nat.zero_le _⟩ (fun H locs G => ?_)
  refine zif_eq (tgt := 25) X dX8_row_4 (by decide) hf (fun hf => ?_) (fun hf => ?_)
  · refine lv_ldc (v := -1000001) X.1.1 X.1.2.1 X.1.2.2.2.1 (X.1.2.2.2.2 _ coX8_row_70) dX8_row_25 ?_
    exact zretI X hr hlk G hf dX8_row_27
  · refine lv_iload_n X.1.1 X.1.2.1 dX8_row_7 rfl (lv_at hl 2 rfl) ?_
    refine lv_i2l X.1.1 X.1.2.1 dX8_row_8 rfl ?_
    refine lv_lconst (v := 0) X.1.1 X.1.2.1 dX8_row_9 (by decide) ?_
    refine lv_ldc2 (v := 2) X.1.1 X.1.2.1 X.1.2.2.2.1 (X.1.2.2.2.2 _ clX8_row_68) dX8_row_10 ?_
    obtain ⟨q2, eq2, hf⟩ := Option.bind_eq_some_iff.mp hf
    refine zcS0 (As := [.long (Int32.toInt64 a2), .long (0 : Int64), .long (2 : Int64)]) (rest := []) (v := (some (.int q2))) (h' := h) X G (m_X8_in l D dA b0 ((Int32.toInt64 a2)) (0 : Int64) (2 : Int64) h q2 eq2) (va_cwS 3 X.1.2.2.2.2 gX8_row_X8_in rfl rfl rfl hdS_X8_in ⟨(Nat.le_of_ble_eq_true rfl), (Nat.le_of_ble_eq_true rfl)⟩) rfl hl.1 rfl (Nat.le_of_ble_eq_true rfl) dX8_row_13 ⟨Nat.zero_le _, Nat.zero_le _⟩ (fun H locs G => ?_)
    refine zif_eq (tgt := 25) X dX8_row_16 (by decide) hf (fun hf => ?_) (fun hf => ?_)
    · refine lv_ldc (v := -1000001) X.1.1 X.1.2.1 X.1.2.2.2.1 (X.1.2.2.2.2 _ coX8_row_70) dX8_row_25 ?_
      exact zretI X hr hlk G hf dX8_row_27
    · refine lv_iload_n X.1.1 X.1.2.1 dX8_row_19 rfl (lv_at hl 3 rfl) ?_
      refine lv_bipush (v := 40) X.1.1 X.1.2.1 dX8_row_20 (by decide) ?_
      refine zic_le (tgt := 28) X dX8_row_22 (by decide) hf (fun hf => ?_) (fun hf => ?_)
      · refine lv_iload_n X.1.1 X.1.2.1 dX8_row_28 rfl (lv_at hl 3 rfl) ?_
        refine zif_ge (tgt := 38) X dX8_row_29 (by decide) hf (fun hf => ?_) (fun hf => ?_)
        · refine lv_aload_n X.1.1 X.1.2.1 dX8_row_38 rfl (lv_at hl 0 rfl) ?_
          refine zgetR (ci := 8) (k := 0) (C := RX8) (T := TX8) (N := 24) X G rfl inX8_row_X8 (Nat.le_of_ble_eq_true rfl) flX8_row_7 dX8_row_39 hf (fun v3 hf => ?_)
          refine lv_iload_n X.1.1 X.1.2.1 dX8_row_42 rfl (lv_at hl 1 rfl) ?_
          refine lv_iload_n X.1.1 X.1.2.1 dX8_row_43 rfl (lv_at hl 2 rfl) ?_
          refine ziast X G dX8_row_44 hf (fun h4 H locs hf G => ?_)
          refine lv_aload_n X.1.1 X.1.2.1 dX8_row_45 rfl (lv_at hl 0 rfl) ?_
          refine zgetR (ci := 8) (k := 1) (C := RX8) (T := TX8) (N := 24) X G rfl inX8_row_X8 (Nat.le_of_ble_eq_true rfl) flX8_row_13 dX8_row_46 hf (fun v5 hf => ?_)
          refine lv_iload_n X.1.1 X.1.2.1 dX8_row_49 rfl (lv_at hl 1 rfl) ?_
          refine lv_iload_n X.1.1 X.1.2.1 dX8_row_50 rfl (lv_at hl 3 rfl) ?_
          refine ziast X G dX8_row_51 hf (fun h6 H locs hf G => ?_)
          refine lv_iconst (v := 0) X.1.1 X.1.2.1 dX8_row_52 (by decide) ?_
          refine lv_istore (lv' := [(4, .int (0 : Int32)), (0, .ref (b0 + r0)), (1, .int a1), (2, .int a2), (3, .int a3)]) X.1.1 X.1.2.1 dX8_row_53 hl (by decide) rfl (fun ls hl => ?_)
          exact w_X8_row_b55 X hr hlk _ _ _ _ _ _ _ _ _ hf G (lv_sub hl [1, 2, 4, 0] rfl)
        · refine lv_aload_n X.1.1 X.1.2.1 dX8_row_32 rfl (lv_at hl 0 rfl) ?_
          refine lv_iconst (v := 4) X.1.1 X.1.2.1 dX8_row_33 (by decide) ?_
          obtain ⟨hk, hf⟩ := zck hf
          obtain ⟨q7, eq7, hf⟩ := Option.bind_eq_some_iff.mp hf
          refine zcV0 (As := [.int (4 : Int32)]) (rest := []) (v := (some (.int q7.1))) (h' := q7.2) X G (rfl : vwCl[8]? = some (RX8, TX8, 24)) hk (m_X8_found l D dA b0 r0 (4 : Int32) h q7 eq7) (cwV 1 X.1.2.2.2.2 gX8_row_X8_found rfl rfl rfl hdV_X8_found ⟨(Nat.le_of_ble_eq_true rfl), (Nat.le_of_ble_eq_true rfl)⟩) rfl hl.1 rfl (Nat.le_of_ble_eq_true rfl) dX8_row_34 ⟨Nat.zero_le _, Nat.zero_le _⟩ (fun H locs G => ?_)
          exact zretI X hr hlk G hf dX8_row_37
      · refine lv_ldc (v := -1000001) X.1.1 X.1.2.1 X.1.2.2.2.1 (X.1.2.2.2.2 _ coX8_row_70) dX8_row_25 ?_
        exact zretI X hr hlk G hf dX8_row_27
