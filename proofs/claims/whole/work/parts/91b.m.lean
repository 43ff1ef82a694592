/-! X0_takeBack -/
abbrev rmX0_takeBack : Room := { frames := 1, cells := 0, slots := 0, locals := 22 }
theorem hdV_X0_takeBack : yX0_takeBack.cls = RX0 ∧ yX0_takeBack.cls ≠ "java/lang/invoke/MethodHandle" ∧ yX0_takeBack.cls ≠ "java/lang/invoke/VarHandle" ∧ (parseMethodDescriptor yX0_takeBack.desc).map (fun d => d.parameters.length) = some 1 := by decide +kernel
theorem inX0_takeBack_X0 : ∀ w ∈ wsX00, w ∈ wsX0_takeBack := by decide +kernel
theorem flX0_takeBack_17 : Cond.fieldLink RX0 17 (TX0 1).1 (TX0 1).2.1 (TX0 1).2.2.1 ∈ wsX0_takeBack := by decide +kernel
theorem flX0_takeBack_21 : Cond.fieldLink RX0 21 (TX0 2).1 (TX0 2).2.1 (TX0 2).2.2.1 ∈ wsX0_takeBack := by decide +kernel
theorem flX0_takeBack_11 : Cond.fieldLink RX0 11 (TX0 0).1 (TX0 0).2.1 (TX0 0).2.2.1 ∈ wsX0_takeBack := by decide +kernel
set_option maxHeartbeats 4000000 in
set_option maxRecDepth 100000 in
theorem w_X0_takeBack_b26 {p : Program} {l : Launch} {e : Env} {s : State} {m : MethodId} {args : Array Value} {below : List Frame} {meth : Method} {c : Code} {D : va_G} {dA : Nat → ClassId} {b0 : Nat} (X : zX p s m args c cX0_takeBack 2 RX0 wsX0_takeBack D dA) (hr : meth.sig.returnType = none) (hlk : meth.locks = false) {z : zH} : ∀ (r0 : Nat) (r1 : Nat) (s0 : Nat) (s1 : Int32) (h : zH) (H : Heap) (locs : List Loc) (ls : Array Slot), f_X0_takeBack_b26 r0 r1 s0 s1 h = some z → zG D dA b0 s.heap h H locs → lv_has ls 2 [(0, .ref (b0 + r0)), (1, .ref (b0 + r1))] → W p l e rmX0_takeBack s m args below meth c H locs 0 0 (MQ below (zQ D dA b0 none z) args s 0 0 (zA b0)) (F0 m 26 ls [.int s1, .ref (b0 + s0)]) := by
  intro r0 r1 s0 s1 h H locs ls hf G hl
  unfold f_X0_takeBack_b26 at hf
  refine zputI (ci := 0) (k := 1) (C := RX0) (T := TX0) (N := 3) X G rfl inX0_takeBack_X0 tyX0_ok nmX0 (Nat.le_of_ble_eq_true rfl) flX0_takeBack_17 rfl (by decide +kernel) dX0_takeBack_26 hf (fun h1 H locs hf G => ?_)
  refine lv_aload_n X.1.1 X.1.2.1 dX0_takeBack_29 rfl (lv_at hl 0 rfl) ?_
  refine lv_dup X.1.1 X.1.2.1 dX0_takeBack_30 rfl ?_
  refine zgetI (ci := 0) (k := 2) (C := RX0) (T := TX0) (N := 3) X G rfl inX0_takeBack_X0 (Nat.le_of_ble_eq_true rfl) flX0_takeBack_21 dX0_takeBack_31 hf (fun v2 hf => ?_)
  refine lv_iconst (v := 1) X.1.1 X.1.2.1 dX0_takeBack_34 (by decide) ?_
  refine lv_isub X.1.1 X.1.2.1 dX0_takeBack_35 ?_
  refine zputI (ci := 0) (k := 2) (C := RX0) (T := TX0) (N := 3) X G rfl inX0_takeBack_X0 tyX0_ok nmX0 (Nat.le_of_ble_eq_true rfl) flX0_takeBack_21 rfl (by decide +kernel) dX0_takeBack_36 hf (fun h3 H locs hf G => ?_)
  refine lv_aload_n X.1.1 X.1.2.1 dX0_takeBack_39 rfl (lv_at hl 1 rfl) ?_
  refine lv_aload_n X.1.1 X.1.2.1 dX0_takeBack_40 rfl (lv_at hl 0 rfl) ?_
  refine zgetR (ci := 0) (k := 0) (C := RX0) (T := TX0) (N := 3) X G rfl inX0_takeBack_X0 (Nat.le_of_ble_eq_true rfl) flX0_takeBack_11 dX0_takeBack_41 hf (fun v4 hf => ?_)
  refine lv_aload_n X.1.1 X.1.2.1 dX0_takeBack_44 rfl (lv_at hl 0 rfl) ?_
  refine zgetI (ci := 0) (k := 1) (C := RX0) (T := TX0) (N := 3) X G rfl inX0_takeBack_X0 (Nat.le_of_ble_eq_true rfl) flX0_takeBack_17 dX0_takeBack_45 hf (fun v5 hf => ?_)
  refine zaald 2 X G rfl rfl dX0_takeBack_48 hf (fun v6 hf => ?_)
  obtain ⟨hk, hf⟩ := zck hf
  obtain ⟨q7, eq7, hf⟩ := Option.bind_eq_some_iff.mp hf
  refine zcV0 (As := [.ref (b0 + v6)]) (rest := []) (v := none) (h' := q7) X G (rfl : vwCl[3]? = some (RX3, TX3, 12)) hk (m_X3_become l D dA b0 r1 v6 h3 q7 eq7) (cwV 1 X.1.2.2.2.2 gX0_takeBack_X3_become rfl rfl rfl hdV_X3_become ⟨(Nat.le_of_ble_eq_true rfl), (Nat.le_of_ble_eq_true rfl)⟩) rfl hl.1 rfl (Nat.le_of_ble_eq_true rfl) dX0_takeBack_49 ⟨Nat.zero_le _, Nat.zero_le _⟩ (fun H locs G => ?_)
  exact zretV X hr hlk G hf dX0_takeBack_52
set_option maxHeartbeats 4000000 in
set_option maxRecDepth 100000 in
theorem m_X0_takeBack (l : Launch) (D : va_G) (dA : Nat → ClassId) (b0 : Nat) (r0 : Nat) (r1 : Nat) (h : zH) (z : zH) (hf : f_X0_takeBack r0 r1 h = some z) : Met l yX0_takeBack wsX0_takeBack rmX0_takeBack (zPc D dA b0 [.ref (b0 + r0), .ref (b0 + r1)] h) (zQ D dA b0 none z) 0 0 (zA b0) := by
  refine Met.ofW (cc := cX0_takeBack) (maxL := 2) (ret := none) (by decide) rfl ?_
  intro p e s m args below meth c s₁ B hml hv
  obtain ⟨rfl, hP, hz, hK, hN⟩ := hv
  have hr := B.returns
  have hlk := B.notSynchronized
  have X : zX p s m _ c cX0_takeBack 2 RX0 wsX0_takeBack D dA := ⟨⟨B.exec, B.bytes, hml, findClass_of_methodNamed B.named, atoms_spec (ws := wsX0_takeBack) B.pre⟩, hK, hN⟩
  have G : zG D dA b0 s.heap h s.heap [] := ⟨hP, hz, va_S.rf⟩
  have hl := lv_entry ([.ref (b0 + r0), .ref (b0 + r1)]) (n := 2) (Nat.le_of_ble_eq_true rfl)
  rw [lg_entry_eq]
  generalize (lg_sl ([.ref (b0 + r0), .ref (b0 + r1)]) ++ List.replicate (2 - (lg_sl ([.ref (b0 + r0), .ref (b0 + r1)])).length) Slot.unset).toArray = ls at hl ⊢
  have hl : lv_has ls 2 [(0, .ref (b0 + r0)), (1, .ref (b0 + r1))] := hl
  unfold f_X0_takeBack at hf
  refine lv_aload_n X.1.1 X.1.2.1 dX0_takeBack_0 rfl (lv_at hl 0 rfl) ?_
  refine zgetI (ci := 0) (k := 2) (C := RX0) (T := TX0) (N := 3) X G rfl inX0_takeBack_X0 (Nat.le_of_ble_eq_true rfl) flX0_takeBack_21 dX0_takeBack_1 hf (fun v1 hf => ?_)
  refine zif_le (tgt := 52) X dX0_takeBack_4 (by decide) hf (fun hf => ?_) (fun hf => ?_)
  · exact zretV X hr hlk G hf dX0_takeBack_52
  · refine lv_aload_n X.1.1 X.1.2.1 dX0_takeBack_7 rfl (lv_at hl 0 rfl) ?_
    refine lv_aload_n X.1.1 X.1.2.1 dX0_takeBack_8 rfl (lv_at hl 0 rfl) ?_
    refine zgetI (ci := 0) (k := 1) (C := RX0) (T := TX0) (N := 3) X G rfl inX0_takeBack_X0 (Nat.le_of_ble_eq_true rfl) flX0_takeBack_17 dX0_takeBack_9 hf (fun v2 hf => ?_)
    refine zif_le (tgt := 24) X dX0_takeBack_12 (by decide) hf (fun hf => ?_) (fun hf => ?_)
    · refine lv_bipush (v := 23) X.1.1 X.1.2.1 dX0_takeBack_24 (by decide) ?_
      exact w_X0_takeBack_b26 X hr hlk _ _ _ _ _ _ _ _ hf G hl
    · refine lv_aload_n X.1.1 X.1.2.1 dX0_takeBack_15 rfl (lv_at hl 0 rfl) ?_
      refine zgetI (ci := 0) (k := 1) (C := RX0) (T := TX0) (N := 3) X G rfl inX0_takeBack_X0 (Nat.le_of_ble_eq_true rfl) flX0_takeBack_17 dX0_takeBack_16 hf (fun v3 hf => ?_)
      refine lv_iconst (v := 1) X.1.1 X.1.2.1 dX0_takeBack_19 (by decide) ?_
      refine lv_isub X.1.1 X.1.2.1 dX0_takeBack_20 ?_
      refine lv_goto (tgt := 26) X.1.1 X.1.2.1 dX0_takeBack_21 (by decide) ?_
      exact w_X0_takeBack_b26 X hr hlk _ _ _ _ _ _ _ _ hf G hl
/-! X1_init -/
abbrev rmX1_init : Room := { frames := 1, cells := 1, slots := 16, locals := 40 }
theorem hdS_X1_init : yX1_init.cls ≠ "java/lang/invoke/MethodHandle" ∧ yX1_init.cls ≠ "java/lang/invoke/VarHandle" ∧ (parseMethodDescriptor yX1_init.desc).map (fun d => d.parameters.length) = some 0 := by decide +kernel
theorem wdX1_init_oL3 : Cond.methodLink RX1 3 objectInit ∈ wsX1_init := by decide +kernel
theorem wdX1_init_oI : Cond.instanceMethod objectInit ∈ wsX1_init := by decide +kernel
theorem wdX1_init_oC : Cond.code objectInit ⟨#[0xb1]⟩ 1 none ∈ wsX1_init := by decide +kernel
theorem wdX1_init_ac_int : Cond.arrayClass .int ∈ wsX1_init := by decide +kernel
theorem inX1_init_X1 : ∀ w ∈ wsX10, w ∈ wsX1_init := by decide +kernel
theorem flX1_init_9 : Cond.fieldLink RX1 9 (TX1 0).1 (TX1 0).2.1 (TX1 0).2.2.1 ∈ wsX1_init := by decide +kernel
theorem flX1_init_15 : Cond.fieldLink RX1 15 (TX1 1).1 (TX1 1).2.1 (TX1 1).2.2.1 ∈ wsX1_init := by decide +kernel
set_option maxHeartbeats 8000000 in
set_option maxRecDepth 100000 in
theorem m_X1_init (l : Launch) (D : va_G) (dA : Nat → ClassId) (b0 : Nat) (r0 : Nat) (h : zH) (z : zH) (hf : f_X1_init r0 h = some z) : Met l yX1_init wsX1_init rmX1_init (zPc D dA b0 [.ref (b0 + r0)] h) (zQ D dA b0 none z) 1 16 (zA b0) := by
  refine Met.ofW (cc := cX1_init) (maxL := 1) (ret := none) (by decide) rfl ?_
  intro p e s m args below meth c s₁ B hml hv
  obtain ⟨rfl, hP, hz, hK, hN⟩ := hv
  have hr := B.returns
  have hlk := B.notSynchronized
  have hin : meth.name = "<init>" := (name_of_methodNamed B.named B.method).1
  have hb0 : b0 ≤ s.heap.size := by rw [hz]; exact Nat.le_add_right _ _
  have X : zX p s m _ c cX1_init 1 RX1 wsX1_init D dA := ⟨⟨B.exec, B.bytes, hml, findClass_of_methodNamed B.named, atoms_spec (ws := wsX1_init) B.pre⟩, hK, hN⟩
  have G : zG D dA b0 s.heap h s.heap [] := ⟨hP, hz, va_S.rf⟩
  have hl := lv_entry ([.ref (b0 + r0)]) (n := 1) (Nat.le_of_ble_eq_true rfl)
  rw [lg_entry_eq]
  generalize (lg_sl ([.ref (b0 + r0)]) ++ List.replicate (1 - (lg_sl ([.ref (b0 + r0)])).length) Slot.unset).toArray = ls at hl ⊢
  have hl : lv_has ls 1 [(0, .ref (b0 + r0))] := hl
  unfold f_X1_init at hf
  refine lv_aload_n X.1.1 X.1.2.1 dX1_init_0 rfl (lv_at hl 0 rfl) ?_
  refine W.objInit X.1.1 X.1.2.1 X.1.2.2.2.1 (X.1.2.2.2.2 _ wdX1_init_oL3) (X.1.2.2.2.2 _ wdX1_init_oI) (X.1.2.2.2.2 _ wdX1_init_oC) rfl (hl.1.trans X.1.2.2.1.symm) rfl dX1_init_1 (Nat.le_of_ble_eq_true rfl) (Nat.le_of_ble_eq_true rfl) ?_
  refine W.eq (g2 := F0 m 4 ls []) rfl ?_
  refine lv_aload_n X.1.1 X.1.2.1 dX1_init_4 rfl (lv_at hl 0 rfl) ?_
  refine lv_bipush (v := 16) X.1.1 X.1.2.1 dX1_init_5 (by decide) ?_
  refine znewI (N := 16) X hb0 G wdX1_init_ac_int (by decide) (by decide) (Nat.le_of_ble_eq_true rfl) (Nat.le_of_ble_eq_true rfl) (Nat.le_of_ble_eq_true rfl) dX1_init_7 hf (fun q1 H hf G => ?_)
  refine W.widen (k := 1) (n := 16) (Nat.le_refl _) (Nat.le_refl _) ?_
  refine zputF (ty := (.array .int)) (ci := 1) (k := 0) (C := RX1) (T := TX1) (N := 2) X G rfl inX1_init_X1 tyX1_ok nmX1 (Nat.le_of_ble_eq_true rfl) flX1_init_9 rfl hin rfl (by decide +kernel) (fun _ => rfl) (fun _ => rfl) dX1_init_9 hf (fun h2 H locs hf G => ?_)
  refine lv_aload_n X.1.1 X.1.2.1 dX1_init_12 rfl (lv_at hl 0 rfl) ?_
  refine lv_iconst (v := 0) X.1.1 X.1.2.1 dX1_init_13 (by decide) ?_
  refine zputI (ci := 1) (k := 1) (C := RX1) (T := TX1) (N := 2) X G rfl inX1_init_X1 tyX1_ok nmX1 (Nat.le_of_ble_eq_true rfl) flX1_init_15 rfl (by decide +kernel) dX1_init_14 hf (fun h3 H locs hf G => ?_)
  exact zretV X hr hlk G hf dX1_init_17
/-! X1_sizeBody -/
abbrev rmX1_sizeBody : Room := { frames := 0, cells := 0, slots := 0, locals := 0 }
theorem hdS_X1_sizeBody : yX1_sizeBody.cls ≠ "java/lang/invoke/MethodHandle" ∧ yX1_sizeBody.cls ≠ "java/lang/invoke/VarHandle" ∧ (parseMethodDescriptor yX1_sizeBody.desc).map (fun d => d.parameters.length) = some 1 := by decide +kernel
set_option maxHeartbeats 4000000 in
set_option maxRecDepth 100000 in
theorem m_X1_sizeBody (l : Launch) (D : va_G) (dA : Nat → ClassId) (b0 : Nat) (a0 : Int32) (h : zH) (z : Int32) (hf : f_X1_sizeBody a0 h = some z) : Met l yX1_sizeBody wsX1_sizeBody rmX1_sizeBody (zPc D dA b0 [.int a0] h) (zQ D dA b0 (some (.int z)) h) 0 0 (zA b0) := by
  refine Met.ofW (cc := cX1_sizeBody) (maxL := 1) (ret := (some .int)) (by decide) rfl ?_
  intro p e s m args below meth c s₁ B hml hv
  obtain ⟨rfl, hP, hz, hK, hN⟩ := hv
  have hr := B.returns
  have hlk := B.notSynchronized
  have X : zX p s m _ c cX1_sizeBody 1 RX1 wsX1_sizeBody D dA := ⟨⟨B.exec, B.bytes, hml, findClass_of_methodNamed B.named, atoms_spec (ws := wsX1_sizeBody) B.pre⟩, hK, hN⟩
  have G : zG D dA b0 s.heap h s.heap [] := ⟨hP, hz, va_S.rf⟩
  have hl := lv_entry ([.int a0]) (n := 1) (Nat.le_of_ble_eq_true rfl)
  rw [lg_entry_eq]
  generalize (lg_sl ([.int a0]) ++ List.replicate (1 - (lg_sl ([.int a0])).length) Slot.unset).toArray = ls at hl ⊢
  have hl : lv_has ls 1 [(0, .int a0)] := hl
  unfold f_X1_sizeBody at hf
  refine lv_iload_n X.1.1 X.1.2.1 dX1_sizeBody_0 rfl (lv_at hl 0 rfl) ?_
  by_cases c0 : a0 = 0
  · rw [if_pos c0] at hf
    refine lv_tableIn (off := 39) (tgt := 40) X.1.1 X.1.2.1 dX1_sizeBody_1 (by rw [c0]; decide) (by rw [c0]; decide) (by rw [c0]; decide) (by decide) ?_
    refine lv_bipush (v := 10) X.1.1 X.1.2.1 dX1_sizeBody_40 (by decide) ?_
    exact zretIr X hr hlk G hf dX1_sizeBody_42
  rw [if_neg c0] at hf
  by_cases c1 : a0 = 1
  · rw [if_pos c1] at hf
    refine lv_tableIn (off := 42) (tgt := 43) X.1.1 X.1.2.1 dX1_sizeBody_1 (by rw [c1]; decide) (by rw [c1]; decide) (by rw [c1]; decide) (by decide) ?_
    refine lv_bipush (v := 11) X.1.1 X.1.2.1 dX1_sizeBody_43 (by decide) ?_
    exact zretIr X hr hlk G hf dX1_sizeBody_45
  rw [if_neg c1] at hf
  by_cases c2 : a0 = 2
  · rw [if_pos c2] at hf
    refine lv_tableIn (off := 45) (tgt := 46) X.1.1 X.1.2.1 dX1_sizeBody_1 (by rw [c2]; decide) (by rw [c2]; decide) (by rw [c2]; decide) (by decide) ?_
    refine lv_bipush (v := 12) X.1.1 X.1.2.1 dX1_sizeBody_46 (by decide) ?_
    exact zretIr X hr hlk G hf dX1_sizeBody_48
  rw [if_neg c2] at hf
  by_cases c3 : a0 = 3
  · rw [if_pos c3] at hf
    refine lv_tableIn (off := 54) (tgt := 55) X.1.1 X.1.2.1 dX1_sizeBody_1 (by rw [c3]; decide) (by rw [c3]; decide) (by rw [c3]; decide) (by decide) ?_
    refine lv_iconst (v := -1) X.1.1 X.1.2.1 dX1_sizeBody_55 (by decide) ?_
    exact zretIr X hr hlk G hf dX1_sizeBody_56
  rw [if_neg c3] at hf
  by_cases c4 : a0 = 4
  · rw [if_pos c4] at hf
    refine lv_tableIn (off := 48) (tgt := 49) X.1.1 X.1.2.1 dX1_sizeBody_1 (by rw [c4]; decide) (by rw [c4]; decide) (by rw [c4]; decide) (by decide) ?_
    refine lv_bipush (v := 13) X.1.1 X.1.2.1 dX1_sizeBody_49 (by decide) ?_
    exact zretIr X hr hlk G hf dX1_sizeBody_51
  rw [if_neg c4] at hf
  by_cases c5 : a0 = 5
  · rw [if_pos c5] at hf
    refine lv_tableIn (off := 51) (tgt := 52) X.1.1 X.1.2.1 dX1_sizeBody_1 (by rw [c5]; decide) (by rw [c5]; decide) (by rw [c5]; decide) (by decide) ?_
    refine lv_bipush (v := 14) X.1.1 X.1.2.1 dX1_sizeBody_52 (by decide) ?_
    exact zretIr X hr hlk G hf dX1_sizeBody_54
  rw [if_neg c5] at hf
  refine lv_tableOut (tgt := 55) X.1.1 X.1.2.1 dX1_sizeBody_1 (by have n0 := lv_neT c0 (show ((0 : Int32)).toInt = 0 from by decide); have n1 := lv_neT c1 (show ((1 : Int32)).toInt = 1 from by decide); have n2 := lv_neT c2 (show ((2 : Int32)).toInt = 2 from by decide); have n3 := lv_neT c3 (show ((3 : Int32)).toInt = 3 from by decide); have n4 := lv_neT c4 (show ((4 : Int32)).toInt = 4 from by decide); have n5 := lv_neT c5 (show ((5 : Int32)).toInt = 5 from by decide); omega) (by decide) ?_
  refine lv_iconst (v := -1) X.1.1 X.1.2.1 dX1_sizeBody_55 (by decide) ?_
  exact zretIr X hr hlk G hf dX1_sizeBody_56
/-! X1_markBody -/
abbrev rmX1_markBody : Room := { frames := 0, cells := 0, slots := 0, locals := 0 }
theorem hdS_X1_markBody : yX1_markBody.cls ≠ "java/lang/invoke/MethodHandle" ∧ yX1_markBody.cls ≠ "java/lang/invoke/VarHandle" ∧ (parseMethodDescriptor yX1_markBody.desc).map (fun d => d.parameters.length) = some 1 := by decide +kernel
set_option maxHeartbeats 4000000 in
set_option maxRecDepth 100000 in
theorem m_X1_markBody (l : Launch) (D : va_G) (dA : Nat → ClassId) (b0 : Nat) (a0 : Int32) (h : zH) (z : Int32) (hf : f_X1_markBody a0 h = some z) : Met l yX1_markBody wsX1_markBody rmX1_markBody (zPc D dA b0 [.int a0] h) (zQ D dA b0 (some (.int z)) h) 0 0 (zA b0) := by
  refine Met.ofW (cc := cX1_markBody) (maxL := 1) (ret := (some .int)) (by decide) rfl ?_
  intro p e s m args below meth c s₁ B hml hv
  obtain ⟨rfl, hP, hz, hK, hN⟩ := hv
  have hr := B.returns
  have hlk := B.notSynchronized
  have X : zX p s m _ c cX1_markBody 1 RX1 wsX1_markBody D dA := ⟨⟨B.exec, B.bytes, hml, findClass_of_methodNamed B.named, atoms_spec (ws := wsX1_markBody) B.pre⟩, hK, hN⟩
  have G : zG D dA b0 s.heap h s.heap [] := ⟨hP, hz, va_S.rf⟩
  have hl := lv_entry ([.int a0]) (n := 1) (Nat.le_of_ble_eq_true rfl)
  rw [lg_entry_eq]
  generalize (lg_sl ([.int a0]) ++ List.replicate (1 - (lg_sl ([.int a0])).length) Slot.unset).toArray = ls at hl ⊢
  have hl : lv_has ls 1 [(0, .int a0)] := hl
  unfold f_X1_markBody at hf
  refine lv_iload_n X.1.1 X.1.2.1 dX1_markBody_0 rfl (lv_at hl 0 rfl) ?_
  by_cases c0 : a0 = 0
  · rw [if_pos c0] at hf
    refine lv_tableIn (off := 35) (tgt := 36) X.1.1 X.1.2.1 dX1_markBody_1 (by rw [c0]; decide) (by rw [c0]; decide) (by rw [c0]; decide) (by decide) ?_
    refine lv_bipush (v := 20) X.1.1 X.1.2.1 dX1_markBody_36 (by decide) ?_
    exact zretIr X hr hlk G hf dX1_markBody_38
  rw [if_neg c0] at hf
  by_cases c1 : a0 = 1
  · rw [if_pos c1] at hf
    refine lv_tableIn (off := 38) (tgt := 39) X.1.1 X.1.2.1 dX1_markBody_1 (by rw [c1]; decide) (by rw [c1]; decide) (by rw [c1]; decide) (by decide) ?_
    refine lv_bipush (v := 21) X.1.1 X.1.2.1 dX1_markBody_39 (by decide) ?_
    exact zretIr X hr hlk G hf dX1_markBody_41
  rw [if_neg c1] at hf
  by_cases c2 : a0 = 2
  · rw [if_pos c2] at hf
    refine lv_tableIn (off := 47) (tgt := 48) X.1.1 X.1.2.1 dX1_markBody_1 (by rw [c2]; decide) (by rw [c2]; decide) (by rw [c2]; decide) (by decide) ?_
    refine lv_bipush (v := 24) X.1.1 X.1.2.1 dX1_markBody_48 (by decide) ?_
    exact zretIr X hr hlk G hf dX1_markBody_50
  rw [if_neg c2] at hf
  by_cases c3 : a0 = 3
  · rw [if_pos c3] at hf
    refine lv_tableIn (off := 41) (tgt := 42) X.1.1 X.1.2.1 dX1_markBody_1 (by rw [c3]; decide) (by rw [c3]; decide) (by rw [c3]; decide) (by decide) ?_
    refine lv_bipush (v := 22) X.1.1 X.1.2.1 dX1_markBody_42 (by decide) ?_
    exact zretIr X hr hlk G hf dX1_markBody_44
  rw [if_neg c3] at hf
  by_cases c4 : a0 = 4
  · rw [if_pos c4] at hf
    refine lv_tableIn (off := 44) (tgt := 45) X.1.1 X.1.2.1 dX1_markBody_1 (by rw [c4]; decide) (by rw [c4]; decide) (by rw [c4]; decide) (by decide) ?_
    refine lv_bipush (v := 23) X.1.1 X.1.2.1 dX1_markBody_45 (by decide) ?_
    exact zretIr X hr hlk G hf dX1_markBody_47
  rw [if_neg c4] at hf
  refine lv_tableOut (tgt := 51) X.1.1 X.1.2.1 dX1_markBody_1 (by have n0 := lv_neT c0 (show ((0 : Int32)).toInt = 0 from by decide); have n1 := lv_neT c1 (show ((1 : Int32)).toInt = 1 from by decide); have n2 := lv_neT c2 (show ((2 : Int32)).toInt = 2 from by decide); have n3 := lv_neT c3 (show ((3 : Int32)).toInt = 3 from by decide); have n4 := lv_neT c4 (show ((4 : Int32)).toInt = 4 from by decide); omega) (by decide) ?_
  refine lv_iconst (v := -1) X.1.1 X.1.2.1 dX1_markBody_51 (by decide) ?_
  exact zretIr X hr hlk G hf dX1_markBody_52
/-! X7_kindAbove -/
abbrev rmX7_kindAbove : Room := { frames := 0, cells := 0, slots := 0, locals := 0 }
theorem hdS_X7_kindAbove : yX7_kindAbove.cls ≠ "java/lang/invoke/MethodHandle" ∧ yX7_kindAbove.cls ≠ "java/lang/invoke/VarHandle" ∧ (parseMethodDescriptor yX7_kindAbove.desc).map (fun d => d.parameters.length) = some 1 := by decide +kernel
set_option maxHeartbeats 4000000 in
set_option maxRecDepth 100000 in
theorem m_X7_kindAbove (l : Launch) (D : va_G) (dA : Nat → ClassId) (b0 : Nat) (a0 : Int32) (h : zH) (z : Int32) (hf : f_X7_kindAbove a0 h = some z) : Met l yX7_kindAbove wsX7_kindAbove rmX7_kindAbove (zPc D dA b0 [.int a0] h) (zQ D dA b0 (some (.int z)) h) 0 0 (zA b0) := by
  refine Met.ofW (cc := cX7_kindAbove) (maxL := 1) (ret := (some .int)) (by decide) rfl ?_
  intro p e s m args below meth c s₁ B hml hv
  obtain ⟨rfl, hP, hz, hK, hN⟩ := hv
  have hr := B.returns
  have hlk := B.notSynchronized
  have X : zX p s m _ c cX7_kindAbove 1 RX7 wsX7_kindAbove D dA := ⟨⟨B.exec, B.bytes, hml, findClass_of_methodNamed B.named, atoms_spec (ws := wsX7_kindAbove) B.pre⟩, hK, hN⟩
  have G : zG D dA b0 s.heap h s.heap [] := ⟨hP, hz, va_S.rf⟩
  have hl := lv_entry ([.int a0]) (n := 1) (Nat.le_of_ble_eq_true rfl)
  rw [lg_entry_eq]
  generalize (lg_sl ([.int a0]) ++ List.replicate (1 - (lg_sl ([.int a0])).length) Slot.unset).toArray = ls at hl ⊢
  have hl : lv_has ls 1 [(0, .int a0)] := hl
  unfold f_X7_kindAbove at hf
  refine lv_iload_n X.1.1 X.1.2.1 dX7_kindAbove_0 rfl (lv_at hl 0 rfl) ?_
  by_cases c0 : a0 = 2
  · rw [if_pos c0] at hf
    refine lv_tableIn (off := 31) (tgt := 32) X.1.1 X.1.2.1 dX7_kindAbove_1 (by rw [c0]; decide) (by rw [c0]; decide) (by rw [c0]; decide) (by decide) ?_
    refine lv_iconst (v := 1) X.1.1 X.1.2.1 dX7_kindAbove_32 (by decide) ?_
    exact zretIr X hr hlk G hf dX7_kindAbove_33
  rw [if_neg c0] at hf
  by_cases c1 : a0 = 3
  · rw [if_pos c1] at hf
    refine lv_tableIn (off := 33) (tgt := 34) X.1.1 X.1.2.1 dX7_kindAbove_1 (by rw [c1]; decide) (by rw [c1]; decide) (by rw [c1]; decide) (by decide) ?_
    refine lv_iconst (v := 1) X.1.1 X.1.2.1 dX7_kindAbove_34 (by decide) ?_
    exact zretIr X hr hlk G hf dX7_kindAbove_35
  rw [if_neg c1] at hf
  by_cases c2 : a0 = 4
  · rw [if_pos c2] at hf
    refine lv_tableIn (off := 37) (tgt := 38) X.1.1 X.1.2.1 dX7_kindAbove_1 (by rw [c2]; decide) (by rw [c2]; decide) (by rw [c2]; decide) (by decide) ?_
    refine lv_iconst (v := 0) X.1.1 X.1.2.1 dX7_kindAbove_38 (by decide) ?_
    exact zretIr X hr hlk G hf dX7_kindAbove_39
  rw [if_neg c2] at hf
  by_cases c3 : a0 = 5
  · rw [if_pos c3] at hf
    refine lv_tableIn (off := 35) (tgt := 36) X.1.1 X.1.2.1 dX7_kindAbove_1 (by rw [c3]; decide) (by rw [c3]; decide) (by rw [c3]; decide) (by decide) ?_
    refine lv_iconst (v := 4) X.1.1 X.1.2.1 dX7_kindAbove_36 (by decide) ?_
    exact zretIr X hr hlk G hf dX7_kindAbove_37
  rw [if_neg c3] at hf
  refine lv_tableOut (tgt := 38) X.1.1 X.1.2.1 dX7_kindAbove_1 (by have n0 := lv_neT c0 (show ((2 : Int32)).toInt = 2 from by decide); have n1 := lv_neT c1 (show ((3 : Int32)).toInt = 3 from by decide); have n2 := lv_neT c2 (show ((4 : Int32)).toInt = 4 from by decide); have n3 := lv_neT c3 (show ((5 : Int32)).toInt = 5 from by decide); omega) (by decide) ?_
  refine lv_iconst (v := 0) X.1.1 X.1.2.1 dX7_kindAbove_38 (by decide) ?_
  exact zretIr X hr hlk G hf dX7_kindAbove_39
/-! X1_bodyFor -/
abbrev rmX1_bodyFor : Room := { frames := 1, cells := 0, slots := 0, locals := 20 }
theorem hdS_X1_bodyFor : yX1_bodyFor.cls ≠ "java/lang/invoke/MethodHandle" ∧ yX1_bodyFor.cls ≠ "java/lang/invoke/VarHandle" ∧ (parseMethodDescriptor yX1_bodyFor.desc).map (fun d => d.parameters.length) = some 2 := by decide +kernel
theorem wdX1_bodyFor_st_X7_kindAbove : Cond.static yX7_kindAbove ∈ wsX1_bodyFor := by decide +kernel
theorem wdX1_bodyFor_ini_X7 : Cond.initialized RX7 ∈ wsX1_bodyFor := by decide +kernel
set_option maxHeartbeats 4000000 in
set_option maxRecDepth 100000 in
theorem w_X1_bodyFor_b24 {p : Program} {l : Launch} {e : Env} {s : State} {m : MethodId} {args : Array Value} {below : List Frame} {meth : Method} {c : Code} {D : va_G} {dA : Nat → ClassId} {b0 : Nat} {h : zH} (X : zX p s m args c cX1_bodyFor 5 RX1 wsX1_bodyFor D dA) (hr : meth.sig.returnType = (some .int)) (hlk : meth.locks = false) {z : Int32} (k4 : Int32 → Int32 → Int32 → Option (Int32)) (hk4 : ∀ (a1 : Int32) (a2 : Int32) (a3 : Int32) (H : Heap) (locs : List Loc) (ls : Array Slot), k4 a1 a2 a3 = some z → zG D dA b0 s.heap h H locs → lv_has ls 5 [(1, .int a1), (2, .int a2), (3, .int a3)] → W p l e rmX1_bodyFor s m args below meth c H locs 0 0 (MQ below (zQ D dA b0 (some (.int z)) h) args s 0 0 (zA b0)) (F0 m 4 ls [])) : ∀ (a1 : Int32) (a2 : Int32) (a3 : Int32) (s0 : Int32) (H : Heap) (locs : List Loc) (ls : Array Slot), f_X1_bodyFor_b24 h k4 a1 a2 a3 s0 = some z → zG D dA b0 s.heap h H locs → lv_has ls 5 [(1, .int a1), (2, .int a2), (3, .int a3)] → W p l e rmX1_bodyFor s m args below meth c H locs 0 0 (MQ below (zQ D dA b0 (some (.int z)) h) args s 0 0 (zA b0)) (F0 m 24 ls [.int s0]) := by
  intro a1 a2 a3 s0 H locs ls hf G hl
  unfold f_X1_bodyFor_b24 at hf
  refine lv_istore (lv' := [(4, .int s0), (1, .int a1), (2, .int a2), (3, .int a3)]) X.1.1 X.1.2.1 dX1_bodyFor_24 hl (by decide) rfl (fun ls hl => ?_)
  refine lv_iload X.1.1 X.1.2.1 dX1_bodyFor_26 (lv_at hl 0 rfl) ?_
  refine lv_iconst (v := -1) X.1.1 X.1.2.1 dX1_bodyFor_28 (by decide) ?_
  refine zic_eq (tgt := 35) X dX1_bodyFor_29 (by decide) hf (fun hf => ?_) (fun hf => ?_)
  · refine lv_iload_n X.1.1 X.1.2.1 dX1_bodyFor_35 rfl (lv_at hl 2 rfl) ?_
    obtain ⟨q1, eq1, hf⟩ := Option.bind_eq_some_iff.mp hf
    refine zcSN0 (As := [.int a2]) (rest := []) (v := (some (.int q1))) (h' := h) X G (m_X7_kindAbove l D dA b0 a2 h q1 eq1) ⟨va_cnB 1 X.1.2.2.2.2 gX1_bodyFor_X7_kindAbove_n42 rfl rfl rfl (X.2.2.1 _ (List.mem_of_getElem? (i := 9) rfl)) (X.1.2.2.2.2 _ wdX1_bodyFor_ini_X7) hdS_X7_kindAbove ⟨(Nat.le_of_ble_eq_true rfl), (Nat.le_of_ble_eq_true rfl)⟩, X.1.2.2.2.2 _ wdX1_bodyFor_st_X7_kindAbove, trivial⟩ rfl hl.1 rfl (Nat.le_of_ble_eq_true rfl) dX1_bodyFor_36 ⟨Nat.zero_le _, Nat.zero_le _⟩ (fun H locs G => ?_)
    refine lv_istore_n (lv' := [(2, .int q1), (4, .int s0), (1, .int a1), (3, .int a3)]) X.1.1 X.1.2.1 dX1_bodyFor_39 rfl hl (by decide) rfl (fun ls hl => ?_)
    refine lv_iinc (v := (a3 + (1 : Int32))) (lv' := [(3, .int (a3 + (1 : Int32))), (2, .int q1), (4, .int s0), (1, .int a1)]) X.1.1 X.1.2.1 dX1_bodyFor_40 hl (k := 3) rfl rfl (by decide) rfl (fun ls hl => ?_)
    refine lv_goto (tgt := 4) X.1.1 X.1.2.1 dX1_bodyFor_43 (by decide) ?_
    exact hk4 _ _ _ _ _ _ hf G (lv_sub hl [3, 1, 0] rfl)
  · refine lv_iload X.1.1 X.1.2.1 dX1_bodyFor_32 (lv_at hl 0 rfl) ?_
    exact zretIr X hr hlk G hf dX1_bodyFor_34
set_option maxHeartbeats 4000000 in
set_option maxRecDepth 100000 in
theorem w_X1_bodyFor_b4 {p : Program} {l : Launch} {e : Env} {s : State} {m : MethodId} {args : Array Value} {below : List Frame} {meth : Method} {c : Code} {D : va_G} {dA : Nat → ClassId} {b0 : Nat} {h : zH} (X : zX p s m args c cX1_bodyFor 5 RX1 wsX1_bodyFor D dA) (hr : meth.sig.returnType = (some .int)) (hlk : meth.locks = false) {z : Int32} : ∀ (n : Nat), ∀ (a1 : Int32) (a2 : Int32) (a3 : Int32) (H : Heap) (locs : List Loc) (ls : Array Slot), f_X1_bodyFor_b4 h n a1 a2 a3 = some z → zG D dA b0 s.heap h H locs → lv_has ls 5 [(1, .int a1), (2, .int a2), (3, .int a3)] → W p l e rmX1_bodyFor s m args below meth c H locs 0 0 (MQ below (zQ D dA b0 (some (.int z)) h) args s 0 0 (zA b0)) (F0 m 4 ls []) := by
  intro n
  induction n with
  | zero =>
    intro a1 a2 a3 H locs ls hf
    cases hf
  | succ n ih =>
    intro a1 a2 a3 H locs ls hf G hl
    rw [f_X1_bodyFor_b4] at hf
    refine lv_iload_n X.1.1 X.1.2.1 dX1_bodyFor_4 rfl (lv_at hl 2 rfl) ?_
    refine lv_iconst (v := 5) X.1.1 X.1.2.1 dX1_bodyFor_5 (by decide) ?_
    refine zic_ge (tgt := 46) X dX1_bodyFor_6 (by decide) hf (fun hf => ?_) (fun hf => ?_)
    · refine lv_iconst (v := -1) X.1.1 X.1.2.1 dX1_bodyFor_46 (by decide) ?_
      exact zretIr X hr hlk G hf dX1_bodyFor_47
    · refine lv_iload_n X.1.1 X.1.2.1 dX1_bodyFor_9 rfl (lv_at hl 0 rfl) ?_
      refine zif_ne (tgt := 20) X dX1_bodyFor_10 (by decide) hf (fun hf => ?_) (fun hf => ?_)
      · refine lv_iload_n X.1.1 X.1.2.1 dX1_bodyFor_20 rfl (lv_at hl 1 rfl) ?_
        obtain ⟨q1, eq1, hf⟩ := Option.bind_eq_some_iff.mp hf
        refine zcS0 (As := [.int a2]) (rest := []) (v := (some (.int q1))) (h' := h) X G (m_X1_markBody l D dA b0 a2 h q1 eq1) (va_cwS 1 X.1.2.2.2.2 gX1_bodyFor_X1_markBody rfl rfl rfl hdS_X1_markBody ⟨(Nat.le_of_ble_eq_true rfl), (Nat.le_of_ble_eq_true rfl)⟩) rfl hl.1 rfl (Nat.le_of_ble_eq_true rfl) dX1_bodyFor_21 ⟨Nat.zero_le _, Nat.zero_le _⟩ (fun H locs G => ?_)
        exact w_X1_bodyFor_b24 X hr hlk _ ih _ _ _ _ _ _ _ hf G hl
      · refine lv_iload_n X.1.1 X.1.2.1 dX1_bodyFor_13 rfl (lv_at hl 1 rfl) ?_
        obtain ⟨q2, eq2, hf⟩ := Option.bind_eq_some_iff.mp hf
        refine zcS0 (As := [.int a2]) (rest := []) (v := (some (.int q2))) (h' := h) X G (m_X1_sizeBody l D dA b0 a2 h q2 eq2) (va_cwS 1 X.1.2.2.2.2 gX1_bodyFor_X1_sizeBody rfl rfl rfl hdS_X1_sizeBody ⟨(Nat.le_of_ble_eq_true rfl), (Nat.le_of_ble_eq_true rfl)⟩) rfl hl.1 rfl (Nat.le_of_ble_eq_true rfl) dX1_bodyFor_14 ⟨Nat.zero_le _, Nat.zero_le _⟩ (fun H locs G => ?_)
        refine lv_goto (tgt := 24) X.1.1 X.1.2.1 dX1_bodyFor_17 (by decide) ?_
        exact w_X1_bodyFor_b24 X hr hlk _ ih _ _ _ _ _ _ _ hf G hl
set_option maxHeartbeats 4000000 in
set_option maxRecDepth 100000 in
theorem m_X1_bodyFor (l : Launch) (D : va_G) (dA : Nat → ClassId) (b0 : Nat) (a0 : Int32) (a1 : Int32) (h : zH) (z : Int32) (hf : f_X1_bodyFor a0 a1 h = some z) : Met l yX1_bodyFor wsX1_bodyFor rmX1_bodyFor (zPc D dA b0 [.int a0, .int a1] h) (zQ D dA b0 (some (.int z)) h) 0 0 (zA b0) := by
  refine Met.ofW (cc := cX1_bodyFor) (maxL := 5) (ret := (some .int)) (by decide) rfl ?_
  intro p e s m args below meth c s₁ B hml hv
  obtain ⟨rfl, hP, hz, hK, hN⟩ := hv
  have hr := B.returns
  have hlk := B.notSynchronized
  have X : zX p s m _ c cX1_bodyFor 5 RX1 wsX1_bodyFor D dA := ⟨⟨B.exec, B.bytes, hml, findClass_of_methodNamed B.named, atoms_spec (ws := wsX1_bodyFor) B.pre⟩, hK, hN⟩
  have G : zG D dA b0 s.heap h s.heap [] := ⟨hP, hz, va_S.rf⟩
  have hl := lv_entry ([.int a0, .int a1]) (n := 5) (Nat.le_of_ble_eq_true rfl)
  rw [lg_entry_eq]
  generalize (lg_sl ([.int a0, .int a1]) ++ List.replicate (5 - (lg_sl ([.int a0, .int a1])).length) Slot.unset).toArray = ls at hl ⊢
  have hl : lv_has ls 5 [(0, .int a0), (1, .int a1)] := hl
  unfold f_X1_bodyFor at hf
  refine lv_iload_n X.1.1 X.1.2.1 dX1_bodyFor_0 rfl (lv_at hl 0 rfl) ?_
  refine lv_istore_n (lv' := [(2, .int a0), (0, .int a0), (1, .int a1)]) X.1.1 X.1.2.1 dX1_bodyFor_1 rfl hl (by decide) rfl (fun ls hl => ?_)
  refine lv_iconst (v := 0) X.1.1 X.1.2.1 dX1_bodyFor_2 (by decide) ?_
  refine lv_istore_n (lv' := [(3, .int (0 : Int32)), (2, .int a0), (0, .int a0), (1, .int a1)]) X.1.1 X.1.2.1 dX1_bodyFor_3 rfl hl (by decide) rfl (fun ls hl => ?_)
  exact w_X1_bodyFor_b4 X hr hlk _ _ _ _ _ _ _ hf G (lv_sub hl [3, 1, 0] rfl)
/-! X1_note -/
abbrev rmX1_note : Room := { frames := 0, cells := 0, slots := 0, locals := 0 }
theorem hdV_X1_note : yX1_note.cls = RX1 ∧ yX1_note.cls ≠ "java/lang/invoke/MethodHandle" ∧ yX1_note.cls ≠ "java/lang/invoke/VarHandle" ∧ (parseMethodDescriptor yX1_note.desc).map (fun d => d.parameters.length) = some 1 := by decide +kernel
theorem inX1_note_X1 : ∀ w ∈ wsX10, w ∈ wsX1_note := by decide +kernel
theorem flX1_note_15 : Cond.fieldLink RX1 15 (TX1 1).1 (TX1 1).2.1 (TX1 1).2.2.1 ∈ wsX1_note := by decide +kernel
theorem flX1_note_9 : Cond.fieldLink RX1 9 (TX1 0).1 (TX1 0).2.1 (TX1 0).2.2.1 ∈ wsX1_note := by decide +kernel
set_option maxHeartbeats 4000000 in
set_option maxRecDepth 100000 in
theorem m_X1_note (l : Launch) (D : va_G) (dA : Nat → ClassId) (b0 : Nat) (r0 : Nat) (a1 : Int32) (h : zH) (z : zH) (hf : f_X1_note r0 a1 h = some z) : Met l yX1_note wsX1_note rmX1_note (zPc D dA b0 [.ref (b0 + r0), .int a1] h) (zQ D dA b0 none z) 0 0 (zA b0) := by
  refine Met.ofW (cc := cX1_note) (maxL := 2) (ret := none) (by decide) rfl ?_
  intro p e s m args below meth c s₁ B hml hv
  obtain ⟨rfl, hP, hz, hK, hN⟩ := hv
  have hr := B.returns
  have hlk := B.notSynchronized
  have X : zX p s m _ c cX1_note 2 RX1 wsX1_note D dA := ⟨⟨B.exec, B.bytes, hml, findClass_of_methodNamed B.named, atoms_spec (ws := wsX1_note) B.pre⟩, hK, hN⟩
  have G : zG D dA b0 s.heap h s.heap [] := ⟨hP, hz, va_S.rf⟩
  have hl := lv_entry ([.ref (b0 + r0), .int a1]) (n := 2) (Nat.le_of_ble_eq_true rfl)
  rw [lg_entry_eq]
  generalize (lg_sl ([.ref (b0 + r0), .int a1]) ++ List.replicate (2 - (lg_sl ([.ref (b0 + r0), .int a1])).length) Slot.unset).toArray = ls at hl ⊢
  have hl : lv_has ls 2 [(0, .ref (b0 + r0)), (1, .int a1)] := hl
  unfold f_X1_note at hf
  refine lv_aload_n X.1.1 X.1.2.1 dX1_note_0 rfl (lv_at hl 0 rfl) ?_
  refine zgetI (ci := 1) (k := 1) (C := RX1) (T := TX1) (N := 2) X G rfl inX1_note_X1 (Nat.le_of_ble_eq_true rfl) flX1_note_15 dX1_note_1 hf (fun v1 hf => ?_)
  refine lv_bipush (v := 16) X.1.1 X.1.2.1 dX1_note_4 (by decide) ?_
  refine zic_ge (tgt := 29) X dX1_note_6 (by decide) hf (fun hf => ?_) (fun hf => ?_)
  · exact zretV X hr hlk G hf dX1_note_29
  · refine lv_aload_n X.1.1 X.1.2.1 dX1_note_9 rfl (lv_at hl 0 rfl) ?_
    refine zgetR (ci := 1) (k := 0) (C := RX1) (T := TX1) (N := 2) X G rfl inX1_note_X1 (Nat.le_of_ble_eq_true rfl) flX1_note_9 dX1_note_10 hf (fun v2 hf => ?_)
    refine lv_aload_n X.1.1 X.1.2.1 dX1_note_13 rfl (lv_at hl 0 rfl) ?_
    refine zgetI (ci := 1) (k := 1) (C := RX1) (T := TX1) (N := 2) X G rfl inX1_note_X1 (Nat.le_of_ble_eq_true rfl) flX1_note_15 dX1_note_14 hf (fun v3 hf => ?_)
    refine lv_iload_n X.1.1 X.1.2.1 dX1_note_17 rfl (lv_at hl 1 rfl) ?_
    refine ziast X G dX1_note_18 hf (fun h4 H locs hf G => ?_)
    refine lv_aload_n X.1.1 X.1.2.1 dX1_note_19 rfl (lv_at hl 0 rfl) ?_
    refine lv_dup X.1.1 X.1.2.1 dX1_note_20 rfl ?_
    refine zgetI (ci := 1) (k := 1) (C := RX1) (T := TX1) (N := 2) X G rfl inX1_note_X1 (Nat.le_of_ble_eq_true rfl) flX1_note_15 dX1_note_21 hf (fun v5 hf => ?_)
    refine lv_iconst (v := 1) X.1.1 X.1.2.1 dX1_note_24 (by decide) ?_
    refine lv_iadd X.1.1 X.1.2.1 dX1_note_25 ?_
    refine zputI (ci := 1) (k := 1) (C := RX1) (T := TX1) (N := 2) X G rfl inX1_note_X1 tyX1_ok nmX1 (Nat.le_of_ble_eq_true rfl) flX1_note_15 rfl (by decide +kernel) dX1_note_26 hf (fun h6 H locs hf G => ?_)
    exact zretV X hr hlk G hf dX1_note_29
/-! X1_answer -/
abbrev rmX1_give (n : Nat) : Room := { frames := 2 * n + 4, cells := 0, slots := 0, locals := 80 * n + 80 }
abbrev rmX1_answer (n : Nat) : Room := { frames := 2 * n + 5, cells := 0, slots := 0, locals := 80 * n + 120 }
theorem hdV_X1_give : yX1_give.cls = RX1 ∧ yX1_give.cls ≠ "java/lang/invoke/MethodHandle" ∧ yX1_give.cls ≠ "java/lang/invoke/VarHandle" ∧ (parseMethodDescriptor yX1_give.desc).map (fun d => d.parameters.length) = some 4 := by decide +kernel
theorem hdV_X1_answer : yX1_answer.cls = RX1 ∧ yX1_answer.cls ≠ "java/lang/invoke/MethodHandle" ∧ yX1_answer.cls ≠ "java/lang/invoke/VarHandle" ∧ (parseMethodDescriptor yX1_answer.desc).map (fun d => d.parameters.length) = some 4 := by decide +kernel
theorem inX1_answer_X3 : ∀ w ∈ wsX30, w ∈ wsX1_answer := by decide +kernel
theorem flX1_answer_23 : Cond.fieldLink RX1 23 (TX3 6).1 (TX3 6).2.1 (TX3 6).2.2.1 ∈ wsX1_answer := by decide +kernel
set_option maxHeartbeats 4000000 in
set_option maxRecDepth 100000 in
theorem m_X1_answer (l : Launch) (D : va_G) (dA : Nat → ClassId) (b0 : Nat) (n : Nat) (kg : Nat → Nat → Int32 → Int32 → Int32 → zH → Option (Int32 × zH)) (hkg : ∀ (r0 r1 : Nat) (a2 a3 a4 : Int32) (h : zH) (z : Int32 × zH), kg r0 r1 a2 a3 a4 h = some z → Met l yX1_give wsX1_give (rmX1_give n) (zPc D dA b0 [.ref (b0 + r0), .ref (b0 + r1), .int a2, .int a3, .int a4] h) (zQ D dA b0 (some (.int z.1)) z.2) 0 0 (zA b0)) (r0 : Nat) (r1 : Nat) (a2 : Int32) (a3 : Int32) (a4 : Int32) (h : zH) (z : Int32 × zH) (hf : f_X1_answer kg r0 r1 a2 a3 a4 h = some z) : Met l yX1_answer wsX1_answer (rmX1_answer n) (zPc D dA b0 [.ref (b0 + r0), .ref (b0 + r1), .int a2, .int a3, .int a4] h) (zQ D dA b0 (some (.int z.1)) z.2) 0 0 (zA b0) := by
  refine Met.ofW (cc := cX1_answer) (maxL := 5) (ret := (some .int)) (by decide) rfl ?_
  intro p e s m args below meth c s₁ B hml hv
  obtain ⟨rfl, hP, hz, hK, hN⟩ := hv
  have hr := B.returns
  have hlk := B.notSynchronized
  have X : zX p s m _ c cX1_answer 5 RX1 wsX1_answer D dA := ⟨⟨B.exec, B.bytes, hml, findClass_of_methodNamed B.named, atoms_spec (ws := wsX1_answer) B.pre⟩, hK, hN⟩
  have G : zG D dA b0 s.heap h s.heap [] := ⟨hP, hz, va_S.rf⟩
  have hl := lv_entry ([.ref (b0 + r0), .ref (b0 + r1), .int a2, .int a3, .int a4]) (n := 5) (Nat.le_of_ble_eq_true rfl)
  rw [lg_entry_eq]
  generalize (lg_sl ([.ref (b0 + r0), .ref (b0 + r1), .int a2, .int a3, .int a4]) ++ List.replicate (5 - (lg_sl ([.ref (b0 + r0), .ref (b0 + r1), .int a2, .int a3, .int a4])).length) Slot.unset).toArray = ls at hl ⊢
  have hl : lv_has ls 5 [(0, .ref (b0 + r0)), (1, .ref (b0 + r1)), (2, .int a2), (3, .int a3), (4, .int a4)] := hl
  unfold f_X1_answer at hf
  refine lv_aload_n X.1.1 X.1.2.1 dX1_answer_0 rfl (lv_at hl 0 rfl) ?_
  refine lv_aload_n X.1.1 X.1.2.1 dX1_answer_1 rfl (lv_at hl 1 rfl) ?_
  refine lv_iload_n X.1.1 X.1.2.1 dX1_answer_2 rfl (lv_at hl 2 rfl) ?_
  refine lv_aload_n X.1.1 X.1.2.1 dX1_answer_3 rfl (lv_at hl 1 rfl) ?_
  refine zgetR (ci := 3) (k := 6) (C := RX3) (T := TX3) (N := 12) X G rfl inX1_answer_X3 (Nat.le_of_ble_eq_true rfl) flX1_answer_23 dX1_answer_4 hf (fun v1 hf => ?_)
  refine lv_iload_n X.1.1 X.1.2.1 dX1_answer_7 rfl (lv_at hl 2 rfl) ?_
  refine ziald X G dX1_answer_8 hf (fun v2 hf => ?_)
  refine lv_iload_n X.1.1 X.1.2.1 dX1_answer_9 rfl (lv_at hl 3 rfl) ?_
  obtain ⟨q3, eq3, hf⟩ := Option.bind_eq_some_iff.mp hf
  refine zcS0 (As := [.int v2, .int a3]) (rest := [.int a2, .ref (b0 + r1), .ref (b0 + r0)]) (v := (some (.int q3))) (h' := h) X G (m_X1_bodyFor l D dA b0 v2 a3 h q3 eq3) (va_cwS 2 X.1.2.2.2.2 gX1_answer_X1_bodyFor rfl rfl rfl hdS_X1_bodyFor ⟨(by show 1 + 1 ≤ 2 * n + 5; omega), (by show 8 + (5 + 11) + 20 ≤ 80 * n + 120; omega)⟩) rfl hl.1 rfl (Nat.le_of_ble_eq_true rfl) dX1_answer_10 ⟨Nat.zero_le _, Nat.zero_le _⟩ (fun H locs G => ?_)
  refine lv_iload X.1.1 X.1.2.1 dX1_answer_13 (lv_at hl 4 rfl) ?_
  obtain ⟨hk, hf⟩ := zck hf
  obtain ⟨q4, eq4, hf⟩ := Option.bind_eq_some_iff.mp hf
  refine zcV0 (As := [.ref (b0 + r1), .int a2, .int q3, .int a4]) (rest := []) (v := (some (.int q4.1))) (h' := q4.2) X G (rfl : vwCl[1]? = some (RX1, TX1, 2)) hk (hkg r0 r1 a2 q3 a4 h q4 eq4) (cwV 4 X.1.2.2.2.2 gX1_answer_X1_give rfl rfl rfl hdV_X1_give ⟨(by show (2 * n + 4) + 1 ≤ 2 * n + 5; omega), (by show 8 + (6 + 11) + (80 * n + 80) ≤ 80 * n + 120; omega)⟩) rfl hl.1 rfl (Nat.le_of_ble_eq_true rfl) dX1_answer_15 ⟨Nat.zero_le _, Nat.zero_le _⟩ (fun H locs G => ?_)
  exact zretI X hr hlk G hf dX1_answer_18
/-! X1_give -/
theorem inX1_give_X3 : ∀ w ∈ wsX30, w ∈ wsX1_give := by decide +kernel
theorem flX1_give_49 : Cond.fieldLink RX1 49 (TX3 9).1 (TX3 9).2.1 (TX3 9).2.2.1 ∈ wsX1_give := by decide +kernel
theorem flX1_give_52 : Cond.fieldLink RX1 52 (TX3 7).1 (TX3 7).2.1 (TX3 7).2.2.1 ∈ wsX1_give := by decide +kernel
set_option maxHeartbeats 4000000 in
set_option maxRecDepth 100000 in
theorem m1_X1_give (l : Launch) (D : va_G) (dA : Nat → ClassId) (b0 : Nat) (n : Nat) (kg : Nat → Nat → Int32 → Int32 → Int32 → zH → Option (Int32 × zH)) (hkg : ∀ (r0 r1 : Nat) (a2 a3 a4 : Int32) (h : zH) (z : Int32 × zH), kg r0 r1 a2 a3 a4 h = some z → Met l yX1_give wsX1_give (rmX1_give n) (zPc D dA b0 [.ref (b0 + r0), .ref (b0 + r1), .int a2, .int a3, .int a4] h) (zQ D dA b0 (some (.int z.1)) z.2) 0 0 (zA b0)) (r0 : Nat) (r1 : Nat) (a2 : Int32) (a3 : Int32) (a4 : Int32) (h : zH) (z : Int32 × zH) (hf : f1_X1_give kg r0 r1 a2 a3 a4 h = some z) : Met l yX1_give wsX1_give (rmX1_give (n + 1)) (zPc D dA b0 [.ref (b0 + r0), .ref (b0 + r1), .int a2, .int a3, .int a4] h) (zQ D dA b0 (some (.int z.1)) z.2) 0 0 (zA b0) := by
  refine Met.ofW (cc := cX1_give) (maxL := 6) (ret := (some .int)) (by decide) rfl ?_
  intro p e s m args below meth c s₁ B hml hv
  obtain ⟨rfl, hP, hz, hK, hN⟩ := hv
  have hr := B.returns
  have hlk := B.notSynchronized
  have X : zX p s m _ c cX1_give 6 RX1 wsX1_give D dA := ⟨⟨B.exec, B.bytes, hml, findClass_of_methodNamed B.named, atoms_spec (ws := wsX1_give) B.pre⟩, hK, hN⟩
  have G : zG D dA b0 s.heap h s.heap [] := ⟨hP, hz, va_S.rf⟩
  have hl := lv_entry ([.ref (b0 + r0), .ref (b0 + r1), .int a2, .int a3, .int a4]) (n := 6) (Nat.le_of_ble_eq_true rfl)
  rw [lg_entry_eq]
  generalize (lg_sl ([.ref (b0 + r0), .ref (b0 + r1), .int a2, .int a3, .int a4]) ++ List.replicate (6 - (lg_sl ([.ref (b0 + r0), .ref (b0 + r1), .int a2, .int a3, .int a4])).length) Slot.unset).toArray = ls at hl ⊢
  have hl : lv_has ls 6 [(0, .ref (b0 + r0)), (1, .ref (b0 + r1)), (2, .int a2), (3, .int a3), (4, .int a4)] := hl
  unfold f1_X1_give at hf
  refine lv_iload X.1.1 X.1.2.1 dX1_give_0 (lv_at hl 4 rfl) ?_
  refine lv_bipush (v := 12) X.1.1 X.1.2.1 dX1_give_2 (by decide) ?_
  refine zic_lt (tgt := 9) X dX1_give_4 (by decide) hf (fun hf => ?_) (fun hf => ?_)
  · refine lv_aload_n X.1.1 X.1.2.1 dX1_give_9 rfl (lv_at hl 0 rfl) ?_
    refine lv_iload_n X.1.1 X.1.2.1 dX1_give_10 rfl (lv_at hl 3 rfl) ?_
    obtain ⟨hk, hf⟩ := zck hf
    obtain ⟨q1, eq1, hf⟩ := Option.bind_eq_some_iff.mp hf
    refine zcV0 (As := [.int a3]) (rest := []) (v := none) (h' := q1) X G (rfl : vwCl[1]? = some (RX1, TX1, 2)) hk (m_X1_note l D dA b0 r0 a3 h q1 eq1) (cwV 1 X.1.2.2.2.2 gX1_give_X1_note rfl rfl rfl hdV_X1_note ⟨(by show 0 + 1 ≤ 2 * (n + 1) + 4; omega), (by show 8 + (2 + 11) + 0 ≤ 80 * (n + 1) + 80; omega)⟩) rfl hl.1 rfl (Nat.le_of_ble_eq_true rfl) dX1_give_11 ⟨Nat.zero_le _, Nat.zero_le _⟩ (fun H locs G => ?_)
    refine lv_iload X.1.1 X.1.2.1 dX1_give_14 (lv_at hl 4 rfl) ?_
    refine lv_iconst (v := 1) X.1.1 X.1.2.1 dX1_give_16 (by decide) ?_
    refine lv_iadd X.1.1 X.1.2.1 dX1_give_17 ?_
    refine zleti hf (fun x2 hf => ?_)
    refine lv_istore (lv' := [(5, .int x2), (0, .ref (b0 + r0)), (1, .ref (b0 + r1)), (2, .int a2), (3, .int a3), (4, .int a4)]) X.1.1 X.1.2.1 dX1_give_18 hl (by decide) rfl (fun ls hl => ?_)
    refine lv_iload_n X.1.1 X.1.2.1 dX1_give_20 rfl (lv_at hl 4 rfl) ?_
    by_cases c0 : a3 = 10
    · rw [if_pos c0] at hf
      refine lv_tableIn (off := 75) (tgt := 96) X.1.1 X.1.2.1 dX1_give_21 (by rw [c0]; decide) (by rw [c0]; decide) (by rw [c0]; decide) (by decide) ?_
      refine lv_aload_n X.1.1 X.1.2.1 dX1_give_96 rfl (lv_at hl 2 rfl) ?_
      refine zgetR (ci := 3) (k := 9) (C := RX3) (T := TX3) (N := 12) X G rfl inX1_give_X3 (Nat.le_of_ble_eq_true rfl) flX1_give_49 dX1_give_97 hf (fun v3 hf => ?_)
      refine lv_iload_n X.1.1 X.1.2.1 dX1_give_100 rfl (lv_at hl 3 rfl) ?_
      refine ziald X G dX1_give_101 hf (fun v4 hf => ?_)
      exact zretI X hr hlk G hf dX1_give_102
    rw [if_neg c0] at hf
    by_cases c1 : a3 = 11
    · rw [if_pos c1] at hf
      refine lv_tableIn (off := 82) (tgt := 103) X.1.1 X.1.2.1 dX1_give_21 (by rw [c1]; decide) (by rw [c1]; decide) (by rw [c1]; decide) (by decide) ?_
      refine lv_aload_n X.1.1 X.1.2.1 dX1_give_103 rfl (lv_at hl 1 rfl) ?_
      refine lv_aload_n X.1.1 X.1.2.1 dX1_give_104 rfl (lv_at hl 2 rfl) ?_
      refine lv_iload_n X.1.1 X.1.2.1 dX1_give_105 rfl (lv_at hl 3 rfl) ?_
      refine lv_bipush (v := 10) X.1.1 X.1.2.1 dX1_give_106 (by decide) ?_
      refine lv_iload X.1.1 X.1.2.1 dX1_give_108 (lv_at hl 0 rfl) ?_
      obtain ⟨hk, hf⟩ := zck hf
      obtain ⟨q5, eq5, hf⟩ := Option.bind_eq_some_iff.mp hf
      refine zcV0 (As := [.ref (b0 + r1), .int a2, .int (10 : Int32), .int x2]) (rest := []) (v := (some (.int q5.1))) (h' := q5.2) X G (rfl : vwCl[1]? = some (RX1, TX1, 2)) hk (hkg r0 r1 a2 (10 : Int32) x2 q1 q5 eq5) (cwV 4 X.1.2.2.2.2 gX1_give_X1_give rfl rfl rfl hdV_X1_give ⟨(by show (2 * n + 4) + 1 ≤ 2 * (n + 1) + 4; omega), (by show 8 + (6 + 11) + (80 * n + 80) ≤ 80 * (n + 1) + 80; omega)⟩) rfl hl.1 rfl (Nat.le_of_ble_eq_true rfl) dX1_give_110 ⟨Nat.zero_le _, Nat.zero_le _⟩ (fun H locs G => ?_)
      refine lv_aload_n X.1.1 X.1.2.1 dX1_give_113 rfl (lv_at hl 1 rfl) ?_
      refine lv_aload_n X.1.1 X.1.2.1 dX1_give_114 rfl (lv_at hl 2 rfl) ?_
      refine lv_iload_n X.1.1 X.1.2.1 dX1_give_115 rfl (lv_at hl 3 rfl) ?_
      refine lv_iconst (v := 1) X.1.1 X.1.2.1 dX1_give_116 (by decide) ?_
      refine lv_iload X.1.1 X.1.2.1 dX1_give_117 (lv_at hl 0 rfl) ?_
      obtain ⟨hk, hf⟩ := zck hf
      obtain ⟨q6, eq6, hf⟩ := Option.bind_eq_some_iff.mp hf
      refine zcV0 (As := [.ref (b0 + r1), .int a2, .int (1 : Int32), .int x2]) (rest := [.int q5.1]) (v := (some (.int q6.1))) (h' := q6.2) X G (rfl : vwCl[1]? = some (RX1, TX1, 2)) hk (m_X1_answer l D dA b0 n kg hkg r0 r1 a2 (1 : Int32) x2 q5.2 q6 eq6) (cwV 4 X.1.2.2.2.2 gX1_give_X1_answer rfl rfl rfl hdV_X1_answer ⟨(by show (2 * n + 5) + 1 ≤ 2 * (n + 1) + 4; omega), (by show 8 + (5 + 11) + (80 * n + 120) ≤ 80 * (n + 1) + 80; omega)⟩) rfl hl.1 rfl (Nat.le_of_ble_eq_true rfl) dX1_give_119 ⟨Nat.zero_le _, Nat.zero_le _⟩ (fun H locs G => ?_)
      refine lv_iadd X.1.1 X.1.2.1 dX1_give_122 ?_
      exact zretI X hr hlk G hf dX1_give_123
    rw [if_neg c1] at hf
    by_cases c2 : a3 = 12
    · rw [if_pos c2] at hf
      refine lv_tableIn (off := 103) (tgt := 124) X.1.1 X.1.2.1 dX1_give_21 (by rw [c2]; decide) (by rw [c2]; decide) (by rw [c2]; decide) (by decide) ?_
      refine lv_aload_n X.1.1 X.1.2.1 dX1_give_124 rfl (lv_at hl 1 rfl) ?_
      refine lv_aload_n X.1.1 X.1.2.1 dX1_give_125 rfl (lv_at hl 2 rfl) ?_
      refine lv_iload_n X.1.1 X.1.2.1 dX1_give_126 rfl (lv_at hl 3 rfl) ?_
      refine lv_bipush (v := 11) X.1.1 X.1.2.1 dX1_give_127 (by decide) ?_
      refine lv_iload X.1.1 X.1.2.1 dX1_give_129 (lv_at hl 0 rfl) ?_
      obtain ⟨hk, hf⟩ := zck hf
      obtain ⟨q7, eq7, hf⟩ := Option.bind_eq_some_iff.mp hf
      refine zcV0 (As := [.ref (b0 + r1), .int a2, .int (11 : Int32), .int x2]) (rest := []) (v := (some (.int q7.1))) (h' := q7.2) X G (rfl : vwCl[1]? = some (RX1, TX1, 2)) hk (hkg r0 r1 a2 (11 : Int32) x2 q1 q7 eq7) (cwV 4 X.1.2.2.2.2 gX1_give_X1_give rfl rfl rfl hdV_X1_give ⟨(by show (2 * n + 4) + 1 ≤ 2 * (n + 1) + 4; omega), (by show 8 + (6 + 11) + (80 * n + 80) ≤ 80 * (n + 1) + 80; omega)⟩) rfl hl.1 rfl (Nat.le_of_ble_eq_true rfl) dX1_give_131 ⟨Nat.zero_le _, Nat.zero_le _⟩ (fun H locs G => ?_)
      refine lv_ineg X.1.1 X.1.2.1 dX1_give_134 ?_
      exact zretI X hr hlk G hf dX1_give_135
    rw [if_neg c2] at hf
    by_cases c3 : a3 = 13
    · rw [if_pos c3] at hf
      refine lv_tableIn (off := 115) (tgt := 136) X.1.1 X.1.2.1 dX1_give_21 (by rw [c3]; decide) (by rw [c3]; decide) (by rw [c3]; decide) (by decide) ?_
      refine lv_aload_n X.1.1 X.1.2.1 dX1_give_136 rfl (lv_at hl 1 rfl) ?_
      refine lv_aload_n X.1.1 X.1.2.1 dX1_give_137 rfl (lv_at hl 2 rfl) ?_
      refine lv_iload_n X.1.1 X.1.2.1 dX1_give_138 rfl (lv_at hl 3 rfl) ?_
      refine lv_bipush (v := 10) X.1.1 X.1.2.1 dX1_give_139 (by decide) ?_
      refine lv_iload X.1.1 X.1.2.1 dX1_give_141 (lv_at hl 0 rfl) ?_
      obtain ⟨hk, hf⟩ := zck hf
      obtain ⟨q8, eq8, hf⟩ := Option.bind_eq_some_iff.mp hf
      refine zcV0 (As := [.ref (b0 + r1), .int a2, .int (10 : Int32), .int x2]) (rest := []) (v := (some (.int q8.1))) (h' := q8.2) X G (rfl : vwCl[1]? = some (RX1, TX1, 2)) hk (hkg r0 r1 a2 (10 : Int32) x2 q1 q8 eq8) (cwV 4 X.1.2.2.2.2 gX1_give_X1_give rfl rfl rfl hdV_X1_give ⟨(by show (2 * n + 4) + 1 ≤ 2 * (n + 1) + 4; omega), (by show 8 + (6 + 11) + (80 * n + 80) ≤ 80 * (n + 1) + 80; omega)⟩) rfl hl.1 rfl (Nat.le_of_ble_eq_true rfl) dX1_give_143 ⟨Nat.zero_le _, Nat.zero_le _⟩ (fun H locs G => ?_)
      refine lv_bipush (v := 100) X.1.1 X.1.2.1 dX1_give_146 (by decide) ?_
      refine lv_isub X.1.1 X.1.2.1 dX1_give_148 ?_
      exact zretI X hr hlk G hf dX1_give_149
    rw [if_neg c3] at hf
    by_cases c4 : a3 = 14
    · rw [if_pos c4] at hf
      refine lv_tableIn (off := 129) (tgt := 150) X.1.1 X.1.2.1 dX1_give_21 (by rw [c4]; decide) (by rw [c4]; decide) (by rw [c4]; decide) (by decide) ?_
      refine lv_iconst (v := 2) X.1.1 X.1.2.1 dX1_give_150 (by decide) ?_
      refine lv_aload_n X.1.1 X.1.2.1 dX1_give_151 rfl (lv_at hl 1 rfl) ?_
      refine lv_aload_n X.1.1 X.1.2.1 dX1_give_152 rfl (lv_at hl 2 rfl) ?_
      refine lv_iload_n X.1.1 X.1.2.1 dX1_give_153 rfl (lv_at hl 3 rfl) ?_
      refine lv_bipush (v := 13) X.1.1 X.1.2.1 dX1_give_154 (by decide) ?_
      refine lv_iload X.1.1 X.1.2.1 dX1_give_156 (lv_at hl 0 rfl) ?_
      obtain ⟨hk, hf⟩ := zck hf
      obtain ⟨q9, eq9, hf⟩ := Option.bind_eq_some_iff.mp hf
      refine zcV0 (As := [.ref (b0 + r1), .int a2, .int (13 : Int32), .int x2]) (rest := [.int (2 : Int32)]) (v := (some (.int q9.1))) (h' := q9.2) X G (rfl : vwCl[1]? = some (RX1, TX1, 2)) hk (hkg r0 r1 a2 (13 : Int32) x2 q1 q9 eq9) (cwV 4 X.1.2.2.2.2 gX1_give_X1_give rfl rfl rfl hdV_X1_give ⟨(by show (2 * n + 4) + 1 ≤ 2 * (n + 1) + 4; omega), (by show 8 + (6 + 11) + (80 * n + 80) ≤ 80 * (n + 1) + 80; omega)⟩) rfl hl.1 rfl (Nat.le_of_ble_eq_true rfl) dX1_give_158 ⟨Nat.zero_le _, Nat.zero_le _⟩ (fun H locs G => ?_)
      refine lv_imul X.1.1 X.1.2.1 dX1_give_161 ?_
      exact zretI X hr hlk G hf dX1_give_162
    rw [if_neg c4] at hf
    by_cases c5 : a3 = 15
    · rw [if_pos c5] at hf
      refine lv_tableIn (off := 211) (tgt := 232) X.1.1 X.1.2.1 dX1_give_21 (by rw [c5]; decide) (by rw [c5]; decide) (by rw [c5]; decide) (by decide) ?_
      refine lv_iconst (v := 0) X.1.1 X.1.2.1 dX1_give_232 (by decide) ?_
      exact zretI X hr hlk G hf dX1_give_233
    rw [if_neg c5] at hf
    by_cases c6 : a3 = 16
    · rw [if_pos c6] at hf
      refine lv_tableIn (off := 211) (tgt := 232) X.1.1 X.1.2.1 dX1_give_21 (by rw [c6]; decide) (by rw [c6]; decide) (by rw [c6]; decide) (by decide) ?_
      refine lv_iconst (v := 0) X.1.1 X.1.2.1 dX1_give_232 (by decide) ?_
      exact zretI X hr hlk G hf dX1_give_233
    rw [if_neg c6] at hf
    by_cases c7 : a3 = 17
    · rw [if_pos c7] at hf
      refine lv_tableIn (off := 211) (tgt := 232) X.1.1 X.1.2.1 dX1_give_21 (by rw [c7]; decide) (by rw [c7]; decide) (by rw [c7]; decide) (by decide) ?_
      refine lv_iconst (v := 0) X.1.1 X.1.2.1 dX1_give_232 (by decide) ?_
      exact zretI X hr hlk G hf dX1_give_233
    rw [if_neg c7] at hf
    by_cases c8 : a3 = 18
    · rw [if_pos c8] at hf
      refine lv_tableIn (off := 211) (tgt := 232) X.1.1 X.1.2.1 dX1_give_21 (by rw [c8]; decide) (by rw [c8]; decide) (by rw [c8]; decide) (by decide) ?_
      refine lv_iconst (v := 0) X.1.1 X.1.2.1 dX1_give_232 (by decide) ?_
      exact zretI X hr hlk G hf dX1_give_233
    rw [if_neg c8] at hf
    by_cases c9 : a3 = 19
    · rw [if_pos c9] at hf
      refine lv_tableIn (off := 211) (tgt := 232) X.1.1 X.1.2.1 dX1_give_21 (by rw [c9]; decide) (by rw [c9]; decide) (by rw [c9]; decide) (by decide) ?_
      refine lv_iconst (v := 0) X.1.1 X.1.2.1 dX1_give_232 (by decide) ?_
      exact zretI X hr hlk G hf dX1_give_233
    rw [if_neg c9] at hf
    by_cases c10 : a3 = 20
    · rw [if_pos c10] at hf
      refine lv_tableIn (off := 142) (tgt := 163) X.1.1 X.1.2.1 dX1_give_21 (by rw [c10]; decide) (by rw [c10]; decide) (by rw [c10]; decide) (by decide) ?_
      refine lv_iload_n X.1.1 X.1.2.1 dX1_give_163 rfl (lv_at hl 3 rfl) ?_
      exact zretI X hr hlk G hf dX1_give_164
    rw [if_neg c10] at hf
    by_cases c11 : a3 = 21
    · rw [if_pos c11] at hf
      refine lv_tableIn (off := 144) (tgt := 165) X.1.1 X.1.2.1 dX1_give_21 (by rw [c11]; decide) (by rw [c11]; decide) (by rw [c11]; decide) (by decide) ?_
      refine lv_aload_n X.1.1 X.1.2.1 dX1_give_165 rfl (lv_at hl 1 rfl) ?_
      refine lv_aload_n X.1.1 X.1.2.1 dX1_give_166 rfl (lv_at hl 2 rfl) ?_
      refine lv_iload_n X.1.1 X.1.2.1 dX1_give_167 rfl (lv_at hl 3 rfl) ?_
      refine lv_bipush (v := 20) X.1.1 X.1.2.1 dX1_give_168 (by decide) ?_
      refine lv_iload X.1.1 X.1.2.1 dX1_give_170 (lv_at hl 0 rfl) ?_
      obtain ⟨hk, hf⟩ := zck hf
      obtain ⟨q10, eq10, hf⟩ := Option.bind_eq_some_iff.mp hf
      refine zcV0 (As := [.ref (b0 + r1), .int a2, .int (20 : Int32), .int x2]) (rest := []) (v := (some (.int q10.1))) (h' := q10.2) X G (rfl : vwCl[1]? = some (RX1, TX1, 2)) hk (hkg r0 r1 a2 (20 : Int32) x2 q1 q10 eq10) (cwV 4 X.1.2.2.2.2 gX1_give_X1_give rfl rfl rfl hdV_X1_give ⟨(by show (2 * n + 4) + 1 ≤ 2 * (n + 1) + 4; omega), (by show 8 + (6 + 11) + (80 * n + 80) ≤ 80 * (n + 1) + 80; omega)⟩) rfl hl.1 rfl (Nat.le_of_ble_eq_true rfl) dX1_give_172 ⟨Nat.zero_le _, Nat.zero_le _⟩ (fun H locs G => ?_)
      refine lv_aload_n X.1.1 X.1.2.1 dX1_give_175 rfl (lv_at hl 2 rfl) ?_
      refine zgetR (ci := 3) (k := 7) (C := RX3) (T := TX3) (N := 12) X G rfl inX1_give_X3 (Nat.le_of_ble_eq_true rfl) flX1_give_52 dX1_give_176 hf (fun v11 hf => ?_)
      refine lv_iload_n X.1.1 X.1.2.1 dX1_give_179 rfl (lv_at hl 3 rfl) ?_
      refine ziald X G dX1_give_180 hf (fun v12 hf => ?_)
      refine lv_iadd X.1.1 X.1.2.1 dX1_give_181 ?_
      exact zretI X hr hlk G hf dX1_give_182
    rw [if_neg c11] at hf
    by_cases c12 : a3 = 22
    · rw [if_pos c12] at hf
      refine lv_tableIn (off := 162) (tgt := 183) X.1.1 X.1.2.1 dX1_give_21 (by rw [c12]; decide) (by rw [c12]; decide) (by rw [c12]; decide) (by decide) ?_
      refine lv_aload_n X.1.1 X.1.2.1 dX1_give_183 rfl (lv_at hl 1 rfl) ?_
      refine lv_aload_n X.1.1 X.1.2.1 dX1_give_184 rfl (lv_at hl 2 rfl) ?_
      refine lv_iload_n X.1.1 X.1.2.1 dX1_give_185 rfl (lv_at hl 3 rfl) ?_
      refine lv_bipush (v := 21) X.1.1 X.1.2.1 dX1_give_186 (by decide) ?_
      refine lv_iload X.1.1 X.1.2.1 dX1_give_188 (lv_at hl 0 rfl) ?_
      obtain ⟨hk, hf⟩ := zck hf
      obtain ⟨q13, eq13, hf⟩ := Option.bind_eq_some_iff.mp hf
      refine zcV0 (As := [.ref (b0 + r1), .int a2, .int (21 : Int32), .int x2]) (rest := []) (v := (some (.int q13.1))) (h' := q13.2) X G (rfl : vwCl[1]? = some (RX1, TX1, 2)) hk (hkg r0 r1 a2 (21 : Int32) x2 q1 q13 eq13) (cwV 4 X.1.2.2.2.2 gX1_give_X1_give rfl rfl rfl hdV_X1_give ⟨(by show (2 * n + 4) + 1 ≤ 2 * (n + 1) + 4; omega), (by show 8 + (6 + 11) + (80 * n + 80) ≤ 80 * (n + 1) + 80; omega)⟩) rfl hl.1 rfl (Nat.le_of_ble_eq_true rfl) dX1_give_190 ⟨Nat.zero_le _, Nat.zero_le _⟩ (fun H locs G => ?_)
      refine lv_sipush (v := 1000) X.1.1 X.1.2.1 dX1_give_193 (by decide) ?_
      refine lv_isub X.1.1 X.1.2.1 dX1_give_196 ?_
      exact zretI X hr hlk G hf dX1_give_197
    rw [if_neg c12] at hf
    by_cases c13 : a3 = 23
    · rw [if_pos c13] at hf
      refine lv_tableIn (off := 177) (tgt := 198) X.1.1 X.1.2.1 dX1_give_21 (by rw [c13]; decide) (by rw [c13]; decide) (by rw [c13]; decide) (by decide) ?_
      refine lv_aload_n X.1.1 X.1.2.1 dX1_give_198 rfl (lv_at hl 1 rfl) ?_
      refine lv_aload_n X.1.1 X.1.2.1 dX1_give_199 rfl (lv_at hl 2 rfl) ?_
      refine lv_iload_n X.1.1 X.1.2.1 dX1_give_200 rfl (lv_at hl 3 rfl) ?_
      refine lv_bipush (v := 20) X.1.1 X.1.2.1 dX1_give_201 (by decide) ?_
      refine lv_iload X.1.1 X.1.2.1 dX1_give_203 (lv_at hl 0 rfl) ?_
      obtain ⟨hk, hf⟩ := zck hf
      obtain ⟨q14, eq14, hf⟩ := Option.bind_eq_some_iff.mp hf
      refine zcV0 (As := [.ref (b0 + r1), .int a2, .int (20 : Int32), .int x2]) (rest := []) (v := (some (.int q14.1))) (h' := q14.2) X G (rfl : vwCl[1]? = some (RX1, TX1, 2)) hk (hkg r0 r1 a2 (20 : Int32) x2 q1 q14 eq14) (cwV 4 X.1.2.2.2.2 gX1_give_X1_give rfl rfl rfl hdV_X1_give ⟨(by show (2 * n + 4) + 1 ≤ 2 * (n + 1) + 4; omega), (by show 8 + (6 + 11) + (80 * n + 80) ≤ 80 * (n + 1) + 80; omega)⟩) rfl hl.1 rfl (Nat.le_of_ble_eq_true rfl) dX1_give_205 ⟨Nat.zero_le _, Nat.zero_le _⟩ (fun H locs G => ?_)
      refine lv_aload_n X.1.1 X.1.2.1 dX1_give_208 rfl (lv_at hl 1 rfl) ?_
      refine lv_aload_n X.1.1 X.1.2.1 dX1_give_209 rfl (lv_at hl 2 rfl) ?_
      refine lv_iload_n X.1.1 X.1.2.1 dX1_give_210 rfl (lv_at hl 3 rfl) ?_
      refine lv_iconst (v := 0) X.1.1 X.1.2.1 dX1_give_211 (by decide) ?_
      refine lv_iload X.1.1 X.1.2.1 dX1_give_212 (lv_at hl 0 rfl) ?_
      obtain ⟨hk, hf⟩ := zck hf
      obtain ⟨q15, eq15, hf⟩ := Option.bind_eq_some_iff.mp hf
      refine zcV0 (As := [.ref (b0 + r1), .int a2, .int (0 : Int32), .int x2]) (rest := [.int q14.1]) (v := (some (.int q15.1))) (h' := q15.2) X G (rfl : vwCl[1]? = some (RX1, TX1, 2)) hk (m_X1_answer l D dA b0 n kg hkg r0 r1 a2 (0 : Int32) x2 q14.2 q15 eq15) (cwV 4 X.1.2.2.2.2 gX1_give_X1_answer rfl rfl rfl hdV_X1_answer ⟨(by show (2 * n + 5) + 1 ≤ 2 * (n + 1) + 4; omega), (by show 8 + (5 + 11) + (80 * n + 120) ≤ 80 * (n + 1) + 80; omega)⟩) rfl hl.1 rfl (Nat.le_of_ble_eq_true rfl) dX1_give_214 ⟨Nat.zero_le _, Nat.zero_le _⟩ (fun H locs G => ?_)
      refine lv_isub X.1.1 X.1.2.1 dX1_give_217 ?_
      exact zretI X hr hlk G hf dX1_give_218
    rw [if_neg c13] at hf
    by_cases c14 : a3 = 24
    · rw [if_pos c14] at hf
      refine lv_tableIn (off := 198) (tgt := 219) X.1.1 X.1.2.1 dX1_give_21 (by rw [c14]; decide) (by rw [c14]; decide) (by rw [c14]; decide) (by decide) ?_
      refine lv_iconst (v := 2) X.1.1 X.1.2.1 dX1_give_219 (by decide) ?_
      refine lv_aload_n X.1.1 X.1.2.1 dX1_give_220 rfl (lv_at hl 1 rfl) ?_
      refine lv_aload_n X.1.1 X.1.2.1 dX1_give_221 rfl (lv_at hl 2 rfl) ?_
      refine lv_iload_n X.1.1 X.1.2.1 dX1_give_222 rfl (lv_at hl 3 rfl) ?_
      refine lv_bipush (v := 21) X.1.1 X.1.2.1 dX1_give_223 (by decide) ?_
      refine lv_iload X.1.1 X.1.2.1 dX1_give_225 (lv_at hl 0 rfl) ?_
      obtain ⟨hk, hf⟩ := zck hf
      obtain ⟨q16, eq16, hf⟩ := Option.bind_eq_some_iff.mp hf
      refine zcV0 (As := [.ref (b0 + r1), .int a2, .int (21 : Int32), .int x2]) (rest := [.int (2 : Int32)]) (v := (some (.int q16.1))) (h' := q16.2) X G (rfl : vwCl[1]? = some (RX1, TX1, 2)) hk (hkg r0 r1 a2 (21 : Int32) x2 q1 q16 eq16) (cwV 4 X.1.2.2.2.2 gX1_give_X1_give rfl rfl rfl hdV_X1_give ⟨(by show (2 * n + 4) + 1 ≤ 2 * (n + 1) + 4; omega), (by show 8 + (6 + 11) + (80 * n + 80) ≤ 80 * (n + 1) + 80; omega)⟩) rfl hl.1 rfl (Nat.le_of_ble_eq_true rfl) dX1_give_227 ⟨Nat.zero_le _, Nat.zero_le _⟩ (fun H locs G => ?_)
      refine lv_imul X.1.1 X.1.2.1 dX1_give_230 ?_
      exact zretI X hr hlk G hf dX1_give_231
    rw [if_neg c14] at hf
    refine lv_tableOut (tgt := 232) X.1.1 X.1.2.1 dX1_give_21 (by have n0 := lv_neT c0 (show ((10 : Int32)).toInt = 10 from by decide); have n1 := lv_neT c1 (show ((11 : Int32)).toInt = 11 from by decide); have n2 := lv_neT c2 (show ((12 : Int32)).toInt = 12 from by decide); have n3 := lv_neT c3 (show ((13 : Int32)).toInt = 13 from by decide); have n4 := lv_neT c4 (show ((14 : Int32)).toInt = 14 from by decide); have n5 := lv_neT c5 (show ((15 : Int32)).toInt = 15 from by decide); have n6 := lv_neT c6 (show ((16 : Int32)).toInt = 16 from by decide); have n7 := lv_neT c7 (show ((17 : Int32)).toInt = 17 from by decide); have n8 := lv_neT c8 (show ((18 : Int32)).toInt = 18 from by decide); have n9 := lv_neT c9 (show ((19 : Int32)).toInt = 19 from by decide); have n10 := lv_neT c10 (show ((20 : Int32)).toInt = 20 from by decide); have n11 := lv_neT c11 (show ((21 : Int32)).toInt = 21 from by decide); have n12 := lv_neT c12 (show ((22 : Int32)).toInt = 22 from by decide); have n13 := lv_neT c13 (show ((23 : Int32)).toInt = 23 from by decide); have n14 := lv_neT c14 (show ((24 : Int32)).toInt = 24 from by decide); omega) (by decide) ?_
    refine lv_iconst (v := 0) X.1.1 X.1.2.1 dX1_give_232 (by decide) ?_
    exact zretI X hr hlk G hf dX1_give_233
  · refine lv_iconst (v := 0) X.1.1 X.1.2.1 dX1_give_7 (by decide) ?_
    exact zretI X hr hlk G hf dX1_give_8
theorem m_X1_give (l : Launch) (D : va_G) (dA : Nat → ClassId) (b0 : Nat) : ∀ (n : Nat) (r0 r1 : Nat) (a2 a3 a4 : Int32) (h : zH) (z : Int32 × zH), f_X1_give n r0 r1 a2 a3 a4 h = some z → Met l yX1_give wsX1_give (rmX1_give n) (zPc D dA b0 [.ref (b0 + r0), .ref (b0 + r1), .int a2, .int a3, .int a4] h) (zQ D dA b0 (some (.int z.1)) z.2) 0 0 (zA b0)
  | 0 => fun _ _ _ _ _ _ _ hf => by cases hf
  | n + 1 => fun r0 r1 a2 a3 a4 h z hf => m1_X1_give l D dA b0 n (f_X1_give n) (m_X1_give l D dA b0 n) r0 r1 a2 a3 a4 h z hf
/-! X1_begin -/
abbrev rmX1_begin : Room := { frames := 34, cells := 0, slots := 0, locals := 1264 }
theorem hdV_X1_begin : yX1_begin.cls = RX1 ∧ yX1_begin.cls ≠ "java/lang/invoke/MethodHandle" ∧ yX1_begin.cls ≠ "java/lang/invoke/VarHandle" ∧ (parseMethodDescriptor yX1_begin.desc).map (fun d => d.parameters.length) = some 3 := by decide +kernel
theorem inX1_begin_X1 : ∀ w ∈ wsX10, w ∈ wsX1_begin := by decide +kernel
theorem flX1_begin_15 : Cond.fieldLink RX1 15 (TX1 1).1 (TX1 1).2.1 (TX1 1).2.2.1 ∈ wsX1_begin := by decide +kernel
set_option maxHeartbeats 4000000 in
set_option maxRecDepth 100000 in
theorem m_X1_begin (l : Launch) (D : va_G) (dA : Nat → ClassId) (b0 : Nat) (r0 : Nat) (r1 : Nat) (a2 : Int32) (a3 : Int32) (h : zH) (z : Int32 × zH) (hf : f_X1_begin r0 r1 a2 a3 h = some z) : Met l yX1_begin wsX1_begin rmX1_begin (zPc D dA b0 [.ref (b0 + r0), .ref (b0 + r1), .int a2, .int a3] h) (zQ D dA b0 (some (.int z.1)) z.2) 0 0 (zA b0) := by
  refine Met.ofW (cc := cX1_begin) (maxL := 4) (ret := (some .int)) (by decide) rfl ?_
  intro p e s m args below meth c s₁ B hml hv
  obtain ⟨rfl, hP, hz, hK, hN⟩ := hv
  have hr := B.returns
  have hlk := B.notSynchronized
  have X : zX p s m _ c cX1_begin 4 RX1 wsX1_begin D dA := ⟨⟨B.exec, B.bytes, hml, findClass_of_methodNamed B.named, atoms_spec (ws := wsX1_begin) B.pre⟩, hK, hN⟩
  have G : zG D dA b0 s.heap h s.heap [] := ⟨hP, hz, va_S.rf⟩
  have hl := lv_entry ([.ref (b0 + r0), .ref (b0 + r1), .int a2, .int a3]) (n := 4) (Nat.le_of_ble_eq_true rfl)
  rw [lg_entry_eq]
  generalize (lg_sl ([.ref (b0 + r0), .ref (b0 + r1), .int a2, .int a3]) ++ List.replicate (4 - (lg_sl ([.ref (b0 + r0), .ref (b0 + r1), .int a2, .int a3])).length) Slot.unset).toArray = ls at hl ⊢
  have hl : lv_has ls 4 [(0, .ref (b0 + r0)), (1, .ref (b0 + r1)), (2, .int a2), (3, .int a3)] := hl
  unfold f_X1_begin at hf
  refine lv_aload_n X.1.1 X.1.2.1 dX1_begin_0 rfl (lv_at hl 0 rfl) ?_
  refine lv_iconst (v := 0) X.1.1 X.1.2.1 dX1_begin_1 (by decide) ?_
  refine zputI (ci := 1) (k := 1) (C := RX1) (T := TX1) (N := 2) X G rfl inX1_begin_X1 tyX1_ok nmX1 (Nat.le_of_ble_eq_true rfl) flX1_begin_15 rfl (by decide +kernel) dX1_begin_2 hf (fun h1 H locs hf G => ?_)
  refine lv_aload_n X.1.1 X.1.2.1 dX1_begin_5 rfl (lv_at hl 0 rfl) ?_
  refine lv_aload_n X.1.1 X.1.2.1 dX1_begin_6 rfl (lv_at hl 1 rfl) ?_
  refine lv_iload_n X.1.1 X.1.2.1 dX1_begin_7 rfl (lv_at hl 2 rfl) ?_
  refine lv_iload_n X.1.1 X.1.2.1 dX1_begin_8 rfl (lv_at hl 3 rfl) ?_
  refine lv_iconst (v := 0) X.1.1 X.1.2.1 dX1_begin_9 (by decide) ?_
  obtain ⟨hk, hf⟩ := zck hf
  obtain ⟨q2, eq2, hf⟩ := Option.bind_eq_some_iff.mp hf
  refine zcV0 (As := [.ref (b0 + r1), .int a2, .int a3, .int (0 : Int32)]) (rest := []) (v := (some (.int q2.1))) (h' := q2.2) X G (rfl : vwCl[1]? = some (RX1, TX1, 2)) hk (m_X1_answer l D dA b0 zD (f_X1_give zD) (m_X1_give l D dA b0 zD) r0 r1 a2 a3 (0 : Int32) h1 q2 eq2) (cwV 4 X.1.2.2.2.2 gX1_begin_X1_answer rfl rfl rfl hdV_X1_answer ⟨(Nat.le_of_ble_eq_true rfl), (Nat.le_of_ble_eq_true rfl)⟩) rfl hl.1 rfl (Nat.le_of_ble_eq_true rfl) dX1_begin_10 ⟨Nat.zero_le _, Nat.zero_le _⟩ (fun H locs G => ?_)
  exact zretI X hr hlk G hf dX1_begin_13
/-! X2_init -/
abbrev rmX2_init : Room := { frames := 2, cells := 15, slots := 89, locals := 60 }
theorem hdS_X2_init : yX2_init.cls ≠ "java/lang/invoke/MethodHandle" ∧ yX2_init.cls ≠ "java/lang/invoke/VarHandle" ∧ (parseMethodDescriptor yX2_init.desc).map (fun d => d.parameters.length) = some 0 := by decide +kernel
theorem wdX2_init_oL3 : Cond.methodLink RX2 3 objectInit ∈ wsX2_init := by decide +kernel
theorem wdX2_init_oI : Cond.instanceMethod objectInit ∈ wsX2_init := by decide +kernel
theorem wdX2_init_oC : Cond.code objectInit ⟨#[0xb1]⟩ 1 none ∈ wsX2_init := by decide +kernel
theorem wdX2_init_cl9 : Cond.classLink RX2 9 RX3 ∈ wsX2_init := by decide +kernel
theorem wdX2_init_ins_X3 : Cond.instantiable RX3 12 ∈ wsX2_init := by decide +kernel
theorem wdX2_init_ini_X3 : Cond.initialized RX3 ∈ wsX2_init := by decide +kernel
theorem inX2_init_X3 : ∀ w ∈ wsX30, w ∈ wsX2_init := by decide +kernel
theorem wdX2_init_im_X3_init : Cond.instanceMethod yX3_init ∈ wsX2_init := by decide +kernel
theorem inX2_init_X2 : ∀ w ∈ wsX20, w ∈ wsX2_init := by decide +kernel
theorem flX2_init_12 : Cond.fieldLink RX2 12 (TX2 0).1 (TX2 0).2.1 (TX2 0).2.2.1 ∈ wsX2_init := by decide +kernel
theorem flX2_init_18 : Cond.fieldLink RX2 18 (TX2 1).1 (TX2 1).2.1 (TX2 1).2.2.1 ∈ wsX2_init := by decide +kernel
theorem flX2_init_21 : Cond.fieldLink RX2 21 (TX2 2).1 (TX2 2).2.1 (TX2 2).2.2.1 ∈ wsX2_init := by decide +kernel
theorem wdX2_init_ac_int : Cond.arrayClass .int ∈ wsX2_init := by decide +kernel
theorem flX2_init_25 : Cond.fieldLink RX2 25 (TX2 3).1 (TX2 3).2.1 (TX2 3).2.2.1 ∈ wsX2_init := by decide +kernel
theorem coX2_init_29 : Cond.constant RX2 29 (-1000000) ∈ wsX2_init := by decide +kernel
theorem flX2_init_30 : Cond.fieldLink RX2 30 (TX2 4).1 (TX2 4).2.1 (TX2 4).2.2.1 ∈ wsX2_init := by decide +kernel
set_option maxHeartbeats 8000000 in
set_option maxRecDepth 100000 in
theorem m_X2_init (l : Launch) (D : va_G) (dA : Nat → ClassId) (b0 : Nat) (r0 : Nat) (h : zH) (z : zH) (hf : f_X2_init r0 h = some z) : Met l yX2_init wsX2_init rmX2_init (zPc D dA b0 [.ref (b0 + r0)] h) (zQ D dA b0 none z) 15 89 (zA b0) := by
  refine Met.ofW (cc := cX2_init) (maxL := 1) (ret := none) (by decide) rfl ?_
  intro p e s m args below meth c s₁ B hml hv
  obtain ⟨rfl, hP, hz, hK, hN⟩ := hv
  have hr := B.returns
  have hlk := B.notSynchronized
  have hin : meth.name = "<init>" := (name_of_methodNamed B.named B.method).1
  have hb0 : b0 ≤ s.heap.size := by rw [hz]; exact Nat.le_add_right _ _
  have X : zX p s m _ c cX2_init 1 RX2 wsX2_init D dA := ⟨⟨B.exec, B.bytes, hml, findClass_of_methodNamed B.named, atoms_spec (ws := wsX2_init) B.pre⟩, hK, hN⟩
  have G : zG D dA b0 s.heap h s.heap [] := ⟨hP, hz, va_S.rf⟩
  have hl := lv_entry ([.ref (b0 + r0)]) (n := 1) (Nat.le_of_ble_eq_true rfl)
  rw [lg_entry_eq]
  generalize (lg_sl ([.ref (b0 + r0)]) ++ List.replicate (1 - (lg_sl ([.ref (b0 + r0)])).length) Slot.unset).toArray = ls at hl ⊢
  have hl : lv_has ls 1 [(0, .ref (b0 + r0))] := hl
  unfold f_X2_init at hf
  refine lv_aload_n X.1.1 X.1.2.1 dX2_init_0 rfl (lv_at hl 0 rfl) ?_
  refine W.objInit X.1.1 X.1.2.1 X.1.2.2.2.1 (X.1.2.2.2.2 _ wdX2_init_oL3) (X.1.2.2.2.2 _ wdX2_init_oI) (X.1.2.2.2.2 _ wdX2_init_oC) rfl (hl.1.trans X.1.2.2.1.symm) rfl dX2_init_1 (Nat.le_of_ble_eq_true rfl) (Nat.le_of_ble_eq_true rfl) ?_
  refine W.eq (g2 := F0 m 4 ls []) rfl ?_
  refine lv_aload_n X.1.1 X.1.2.1 dX2_init_4 rfl (lv_at hl 0 rfl) ?_
  refine znew (ci := 3) (C := RX3) (T := TX3) (N := 12) (fs := [.int 0, .int 0, .int 0, .int 0, .int 0, .int 0, .null, .null, .null, .null, .null, .null]) X hb0 G rfl inX2_init_X3 tyX3_ok wdX2_init_cl9 wdX2_init_ins_X3 wdX2_init_ini_X3 rfl (fun j hj => by rcases (show j = 0 ∨ j = 1 ∨ j = 2 ∨ j = 3 ∨ j = 4 ∨ j = 5 ∨ j = 6 ∨ j = 7 ∨ j = 8 ∨ j = 9 ∨ j = 10 ∨ j = 11 by omega) with rfl | rfl | rfl | rfl | rfl | rfl | rfl | rfl | rfl | rfl | rfl | rfl <;> rfl) (Nat.le_of_ble_eq_true rfl) (Nat.le_of_ble_eq_true rfl) dX2_init_5 hf (fun q1 H hf G => ?_)
  refine W.widen (k := 1) (n := 12) (Nat.le_refl _) (Nat.le_refl _) ?_
  refine lv_dup X.1.1 X.1.2.1 dX2_init_8 rfl ?_
  obtain ⟨q2, eq2, hf⟩ := Option.bind_eq_some_iff.mp hf
  refine zcIN (As := []) (r := q1.1) (rest := [.ref (b0 + q1.1), .ref (b0 + r0)]) (v := none) (h' := q2) X G (m_X3_init l D dA b0 q1.1 q1.2 q2 eq2) ⟨va_cnB 0 X.1.2.2.2.2 gX2_init_X3_init_n11 rfl rfl rfl (X.2.2.1 _ (List.mem_of_getElem? (i := 6) rfl)) (X.1.2.2.2.2 _ wdX2_init_ini_X3) hdS_X3_init ⟨(Nat.le_of_ble_eq_true rfl), (Nat.le_of_ble_eq_true rfl)⟩, rfl, X.1.2.2.2.2 _ wdX2_init_im_X3_init⟩ rfl hl.1 rfl (Nat.le_of_ble_eq_true rfl) dX2_init_9 ⟨(Nat.le_of_ble_eq_true rfl), (Nat.le_of_ble_eq_true rfl)⟩ (fun H locs G => ?_)
  refine W.widen (k := 7) (n := 42) (Nat.le_refl _) (Nat.le_refl _) ?_
  refine zputF (ty := (.object "BuriedHalves$Mine")) (ci := 2) (k := 0) (C := RX2) (T := TX2) (N := 5) X G rfl inX2_init_X2 tyX2_ok nmX2 (Nat.le_of_ble_eq_true rfl) flX2_init_12 rfl hin rfl (by decide +kernel) (fun _ => rfl) (fun _ => rfl) dX2_init_12 hf (fun h3 H locs hf G => ?_)
  refine lv_aload_n X.1.1 X.1.2.1 dX2_init_15 rfl (lv_at hl 0 rfl) ?_
  refine znew (ci := 3) (C := RX3) (T := TX3) (N := 12) (fs := [.int 0, .int 0, .int 0, .int 0, .int 0, .int 0, .null, .null, .null, .null, .null, .null]) X hb0 G rfl inX2_init_X3 tyX3_ok wdX2_init_cl9 wdX2_init_ins_X3 wdX2_init_ini_X3 rfl (fun j hj => by rcases (show j = 0 ∨ j = 1 ∨ j = 2 ∨ j = 3 ∨ j = 4 ∨ j = 5 ∨ j = 6 ∨ j = 7 ∨ j = 8 ∨ j = 9 ∨ j = 10 ∨ j = 11 by omega) with rfl | rfl | rfl | rfl | rfl | rfl | rfl | rfl | rfl | rfl | rfl | rfl <;> rfl) (Nat.le_of_ble_eq_true rfl) (Nat.le_of_ble_eq_true rfl) dX2_init_16 hf (fun q4 H hf G => ?_)
  refine W.widen (k := 8) (n := 54) (Nat.le_refl _) (Nat.le_refl _) ?_
  refine lv_dup X.1.1 X.1.2.1 dX2_init_19 rfl ?_
  obtain ⟨q5, eq5, hf⟩ := Option.bind_eq_some_iff.mp hf
  refine zcIN (As := []) (r := q4.1) (rest := [.ref (b0 + q4.1), .ref (b0 + r0)]) (v := none) (h' := q5) X G (m_X3_init l D dA b0 q4.1 q4.2 q5 eq5) ⟨va_cnB 0 X.1.2.2.2.2 gX2_init_X3_init_n11 rfl rfl rfl (X.2.2.1 _ (List.mem_of_getElem? (i := 6) rfl)) (X.1.2.2.2.2 _ wdX2_init_ini_X3) hdS_X3_init ⟨(Nat.le_of_ble_eq_true rfl), (Nat.le_of_ble_eq_true rfl)⟩, rfl, X.1.2.2.2.2 _ wdX2_init_im_X3_init⟩ rfl hl.1 rfl (Nat.le_of_ble_eq_true rfl) dX2_init_20 ⟨(Nat.le_of_ble_eq_true rfl), (Nat.le_of_ble_eq_true rfl)⟩ (fun H locs G => ?_)
  refine W.widen (k := 14) (n := 84) (Nat.le_refl _) (Nat.le_refl _) ?_
  refine zputF (ty := (.object "BuriedHalves$Mine")) (ci := 2) (k := 1) (C := RX2) (T := TX2) (N := 5) X G rfl inX2_init_X2 tyX2_ok nmX2 (Nat.le_of_ble_eq_true rfl) flX2_init_18 rfl hin rfl (by decide +kernel) (fun _ => rfl) (fun _ => rfl) dX2_init_23 hf (fun h6 H locs hf G => ?_)
  refine lv_aload_n X.1.1 X.1.2.1 dX2_init_26 rfl (lv_at hl 0 rfl) ?_
  refine lv_iconst (v := -1) X.1.1 X.1.2.1 dX2_init_27 (by decide) ?_
  refine zputI (ci := 2) (k := 2) (C := RX2) (T := TX2) (N := 5) X G rfl inX2_init_X2 tyX2_ok nmX2 (Nat.le_of_ble_eq_true rfl) flX2_init_21 rfl (by decide +kernel) dX2_init_28 hf (fun h7 H locs hf G => ?_)
  refine lv_aload_n X.1.1 X.1.2.1 dX2_init_31 rfl (lv_at hl 0 rfl) ?_
  refine lv_iconst (v := 5) X.1.1 X.1.2.1 dX2_init_32 (by decide) ?_
  refine znewI (N := 5) X hb0 G wdX2_init_ac_int (by decide) (by decide) (Nat.le_of_ble_eq_true rfl) (Nat.le_of_ble_eq_true rfl) (Nat.le_of_ble_eq_true rfl) dX2_init_33 hf (fun q8 H hf G => ?_)
  refine W.widen (k := 15) (n := 89) (Nat.le_refl _) (Nat.le_refl _) ?_
  refine zputF (ty := (.array .int)) (ci := 2) (k := 3) (C := RX2) (T := TX2) (N := 5) X G rfl inX2_init_X2 tyX2_ok nmX2 (Nat.le_of_ble_eq_true rfl) flX2_init_25 rfl hin rfl (by decide +kernel) (fun _ => rfl) (fun _ => rfl) dX2_init_35 hf (fun h9 H locs hf G => ?_)
  refine lv_aload_n X.1.1 X.1.2.1 dX2_init_38 rfl (lv_at hl 0 rfl) ?_
  refine lv_ldc (v := -1000000) X.1.1 X.1.2.1 X.1.2.2.2.1 (X.1.2.2.2.2 _ coX2_init_29) dX2_init_39 ?_
  refine zputI (ci := 2) (k := 4) (C := RX2) (T := TX2) (N := 5) X G rfl inX2_init_X2 tyX2_ok nmX2 (Nat.le_of_ble_eq_true rfl) flX2_init_30 rfl (by decide +kernel) dX2_init_41 hf (fun h10 H locs hf G => ?_)
  exact zretV X hr hlk G hf dX2_init_44
/-! X3_foretellsLike -/
abbrev rmX3_foretellsLike : Room := { frames := 0, cells := 0, slots := 0, locals := 0 }
theorem hdV_X3_foretellsLike : yX3_foretellsLike.cls = RX3 ∧ yX3_foretellsLike.cls ≠ "java/lang/invoke/MethodHandle" ∧ yX3_foretellsLike.cls ≠ "java/lang/invoke/VarHandle" ∧ (parseMethodDescriptor yX3_foretellsLike.desc).map (fun d => d.parameters.length) = some 1 := by decide +kernel
theorem inX3_foretellsLike_X3 : ∀ w ∈ wsX30, w ∈ wsX3_foretellsLike := by decide +kernel
theorem flX3_foretellsLike_15 : Cond.fieldLink RX3 15 (TX3 1).1 (TX3 1).2.1 (TX3 1).2.2.1 ∈ wsX3_foretellsLike := by decide +kernel
theorem flX3_foretellsLike_31 : Cond.fieldLink RX3 31 (TX3 6).1 (TX3 6).2.1 (TX3 6).2.2.1 ∈ wsX3_foretellsLike := by decide +kernel
theorem flX3_foretellsLike_35 : Cond.fieldLink RX3 35 (TX3 7).1 (TX3 7).2.1 (TX3 7).2.2.1 ∈ wsX3_foretellsLike := by decide +kernel
theorem flX3_foretellsLike_38 : Cond.fieldLink RX3 38 (TX3 8).1 (TX3 8).2.1 (TX3 8).2.2.1 ∈ wsX3_foretellsLike := by decide +kernel
theorem flX3_foretellsLike_41 : Cond.fieldLink RX3 41 (TX3 9).1 (TX3 9).2.1 (TX3 9).2.2.1 ∈ wsX3_foretellsLike := by decide +kernel
theorem flX3_foretellsLike_22 : Cond.fieldLink RX3 22 (TX3 3).1 (TX3 3).2.1 (TX3 3).2.2.1 ∈ wsX3_foretellsLike := by decide +kernel
theorem flX3_foretellsLike_25 : Cond.fieldLink RX3 25 (TX3 4).1 (TX3 4).2.1 (TX3 4).2.2.1 ∈ wsX3_foretellsLike := by decide +kernel
set_option maxHeartbeats 4000000 in
set_option maxRecDepth 100000 in
theorem w_X3_foretellsLike_b37 {p : Program} {l : Launch} {e : Env} {s : State} {m : MethodId} {args : Array Value} {below : List Frame} {meth : Method} {c : Code} {D : va_G} {dA : Nat → ClassId} {b0 : Nat} {h : zH} (X : zX p s m args c cX3_foretellsLike 3 RX3 wsX3_foretellsLike D dA) (hr : meth.sig.returnType = (some .boolean)) (hlk : meth.locks = false) {z : Int32} : ∀ (n : Nat), ∀ (r0 : Nat) (r1 : Nat) (a2 : Int32) (H : Heap) (locs : List Loc) (ls : Array Slot), f_X3_foretellsLike_b37 h n r0 r1 a2 = some z → zG D dA b0 s.heap h H locs → lv_has ls 3 [(0, .ref (b0 + r0)), (1, .ref (b0 + r1)), (2, .int a2)] → W p l e rmX3_foretellsLike s m args below meth c H locs 0 0 (MQ below (zQ D dA b0 (some (.int z)) h) args s 0 0 (zA b0)) (F0 m 37 ls []) := by
  intro n
  induction n with
  | zero =>
    intro r0 r1 a2 H locs ls hf
    cases hf
  | succ n ih =>
    intro r0 r1 a2 H locs ls hf G hl
    rw [f_X3_foretellsLike_b37] at hf
    refine lv_iload_n X.1.1 X.1.2.1 dX3_foretellsLike_37 rfl (lv_at hl 2 rfl) ?_
    refine lv_aload_n X.1.1 X.1.2.1 dX3_foretellsLike_38 rfl (lv_at hl 0 rfl) ?_
    refine zgetI (ci := 3) (k := 1) (C := RX3) (T := TX3) (N := 12) X G rfl inX3_foretellsLike_X3 (Nat.le_of_ble_eq_true rfl) flX3_foretellsLike_15 dX3_foretellsLike_39 hf (fun v1 hf => ?_)
    refine zic_ge (tgt := 113) X dX3_foretellsLike_42 (by decide) hf (fun hf => ?_) (fun hf => ?_)
    · refine lv_iconst (v := 1) X.1.1 X.1.2.1 dX3_foretellsLike_113 (by decide) ?_
      exact zretZr X hr hlk G hf dX3_foretellsLike_114
    · refine lv_aload_n X.1.1 X.1.2.1 dX3_foretellsLike_45 rfl (lv_at hl 0 rfl) ?_
      refine zgetR (ci := 3) (k := 6) (C := RX3) (T := TX3) (N := 12) X G rfl inX3_foretellsLike_X3 (Nat.le_of_ble_eq_true rfl) flX3_foretellsLike_31 dX3_foretellsLike_46 hf (fun v2 hf => ?_)
      refine lv_iload_n X.1.1 X.1.2.1 dX3_foretellsLike_49 rfl (lv_at hl 2 rfl) ?_
      refine ziald X G dX3_foretellsLike_50 hf (fun v3 hf => ?_)
      refine lv_aload_n X.1.1 X.1.2.1 dX3_foretellsLike_51 rfl (lv_at hl 1 rfl) ?_
      refine zgetR (ci := 3) (k := 6) (C := RX3) (T := TX3) (N := 12) X G rfl inX3_foretellsLike_X3 (Nat.le_of_ble_eq_true rfl) flX3_foretellsLike_31 dX3_foretellsLike_52 hf (fun v4 hf => ?_)
      refine lv_iload_n X.1.1 X.1.2.1 dX3_foretellsLike_55 rfl (lv_at hl 2 rfl) ?_
      refine ziald X G dX3_foretellsLike_56 hf (fun v5 hf => ?_)
      refine zic_ne (tgt := 105) X dX3_foretellsLike_57 (by decide) hf (fun hf => ?_) (fun hf => ?_)
      · refine lv_iconst (v := 0) X.1.1 X.1.2.1 dX3_foretellsLike_105 (by decide) ?_
        exact zretZr X hr hlk G hf dX3_foretellsLike_106
      · refine lv_aload_n X.1.1 X.1.2.1 dX3_foretellsLike_60 rfl (lv_at hl 0 rfl) ?_
        refine zgetR (ci := 3) (k := 7) (C := RX3) (T := TX3) (N := 12) X G rfl inX3_foretellsLike_X3 (Nat.le_of_ble_eq_true rfl) flX3_foretellsLike_35 dX3_foretellsLike_61 hf (fun v6 hf => ?_)
        refine lv_iload_n X.1.1 X.1.2.1 dX3_foretellsLike_64 rfl (lv_at hl 2 rfl) ?_
        refine ziald X G dX3_foretellsLike_65 hf (fun v7 hf => ?_)
        refine lv_aload_n X.1.1 X.1.2.1 dX3_foretellsLike_66 rfl (lv_at hl 1 rfl) ?_
        refine zgetR (ci := 3) (k := 7) (C := RX3) (T := TX3) (N := 12) X G rfl inX3_foretellsLike_X3 (Nat.le_of_ble_eq_true rfl) flX3_foretellsLike_35 dX3_foretellsLike_67 hf (fun v8 hf => ?_)
        refine lv_iload_n X.1.1 X.1.2.1 dX3_foretellsLike_70 rfl (lv_at hl 2 rfl) ?_
        refine ziald X G dX3_foretellsLike_71 hf (fun v9 hf => ?_)
        refine zic_ne (tgt := 105) X dX3_foretellsLike_72 (by decide) hf (fun hf => ?_) (fun hf => ?_)
        · refine lv_iconst (v := 0) X.1.1 X.1.2.1 dX3_foretellsLike_105 (by decide) ?_
          exact zretZr X hr hlk G hf dX3_foretellsLike_106
        · refine lv_aload_n X.1.1 X.1.2.1 dX3_foretellsLike_75 rfl (lv_at hl 0 rfl) ?_
          refine zgetR (ci := 3) (k := 8) (C := RX3) (T := TX3) (N := 12) X G rfl inX3_foretellsLike_X3 (Nat.le_of_ble_eq_true rfl) flX3_foretellsLike_38 dX3_foretellsLike_76 hf (fun v10 hf => ?_)
          refine lv_iload_n X.1.1 X.1.2.1 dX3_foretellsLike_79 rfl (lv_at hl 2 rfl) ?_
          refine ziald X G dX3_foretellsLike_80 hf (fun v11 hf => ?_)
          refine lv_aload_n X.1.1 X.1.2.1 dX3_foretellsLike_81 rfl (lv_at hl 1 rfl) ?_
          refine zgetR (ci := 3) (k := 8) (C := RX3) (T := TX3) (N := 12) X G rfl inX3_foretellsLike_X3 (Nat.le_of_ble_eq_true rfl) flX3_foretellsLike_38 dX3_foretellsLike_82 hf (fun v12 hf => ?_)
          refine lv_iload_n X.1.1 X.1.2.1 dX3_foretellsLike_85 rfl (lv_at hl 2 rfl) ?_
          refine ziald X G dX3_foretellsLike_86 hf (fun v13 hf => ?_)
          refine zic_ne (tgt := 105) X dX3_foretellsLike_87 (by decide) hf (fun hf => ?_) (fun hf => ?_)
          · refine lv_iconst (v := 0) X.1.1 X.1.2.1 dX3_foretellsLike_105 (by decide) ?_
            exact zretZr X hr hlk G hf dX3_foretellsLike_106
          · refine lv_aload_n X.1.1 X.1.2.1 dX3_foretellsLike_90 rfl (lv_at hl 0 rfl) ?_
            refine zgetR (ci := 3) (k := 9) (C := RX3) (T := TX3) (N := 12) X G rfl inX3_foretellsLike_X3 (Nat.le_of_ble_eq_true rfl) flX3_foretellsLike_41 dX3_foretellsLike_91 hf (fun v14 hf => ?_)
            refine lv_iload_n X.1.1 X.1.2.1 dX3_foretellsLike_94 rfl (lv_at hl 2 rfl) ?_
            refine ziald X G dX3_foretellsLike_95 hf (fun v15 hf => ?_)
            refine lv_aload_n X.1.1 X.1.2.1 dX3_foretellsLike_96 rfl (lv_at hl 1 rfl) ?_
            refine zgetR (ci := 3) (k := 9) (C := RX3) (T := TX3) (N := 12) X G rfl inX3_foretellsLike_X3 (Nat.le_of_ble_eq_true rfl) flX3_foretellsLike_41 dX3_foretellsLike_97 hf (fun v16 hf => ?_)
            refine lv_iload_n X.1.1 X.1.2.1 dX3_foretellsLike_100 rfl (lv_at hl 2 rfl) ?_
            refine ziald X G dX3_foretellsLike_101 hf (fun v17 hf => ?_)
            refine zic_eq (tgt := 107) X dX3_foretellsLike_102 (by decide) hf (fun hf => ?_) (fun hf => ?_)
            · refine lv_iinc (v := (a2 + (1 : Int32))) (lv' := [(2, .int (a2 + (1 : Int32))), (0, .ref (b0 + r0)), (1, .ref (b0 + r1))]) X.1.1 X.1.2.1 dX3_foretellsLike_107 hl (k := 2) rfl rfl (by decide) rfl (fun ls hl => ?_)
              refine lv_goto (tgt := 37) X.1.1 X.1.2.1 dX3_foretellsLike_110 (by decide) ?_
              exact ih _ _ _ _ _ _ hf G (lv_sub hl [1, 2, 0] rfl)
            · refine lv_iconst (v := 0) X.1.1 X.1.2.1 dX3_foretellsLike_105 (by decide) ?_
              exact zretZr X hr hlk G hf dX3_foretellsLike_106
set_option maxHeartbeats 4000000 in
set_option maxRecDepth 100000 in
theorem m_X3_foretellsLike (l : Launch) (D : va_G) (dA : Nat → ClassId) (b0 : Nat) (r0 : Nat) (r1 : Nat) (h : zH) (z : Int32) (hf : f_X3_foretellsLike r0 r1 h = some z) : Met l yX3_foretellsLike wsX3_foretellsLike rmX3_foretellsLike (zPc D dA b0 [.ref (b0 + r0), .ref (b0 + r1)] h) (zQ D dA b0 (some (.int z)) h) 0 0 (zA b0) := by
  refine Met.ofW (cc := cX3_foretellsLike) (maxL := 3) (ret := (some .boolean)) (by decide) rfl ?_
  intro p e s m args below meth c s₁ B hml hv
  obtain ⟨rfl, hP, hz, hK, hN⟩ := hv
  have hr := B.returns
  have hlk := B.notSynchronized
  have X : zX p s m _ c cX3_foretellsLike 3 RX3 wsX3_foretellsLike D dA := ⟨⟨B.exec, B.bytes, hml, findClass_of_methodNamed B.named, atoms_spec (ws := wsX3_foretellsLike) B.pre⟩, hK, hN⟩
  have G : zG D dA b0 s.heap h s.heap [] := ⟨hP, hz, va_S.rf⟩
  have hl := lv_entry ([.ref (b0 + r0), .ref (b0 + r1)]) (n := 3) (Nat.le_of_ble_eq_true rfl)
  rw [lg_entry_eq]
  generalize (lg_sl ([.ref (b0 + r0), .ref (b0 + r1)]) ++ List.replicate (3 - (lg_sl ([.ref (b0 + r0), .ref (b0 + r1)])).length) Slot.unset).toArray = ls at hl ⊢
  have hl : lv_has ls 3 [(0, .ref (b0 + r0)), (1, .ref (b0 + r1))] := hl
  unfold f_X3_foretellsLike at hf
  refine lv_aload_n X.1.1 X.1.2.1 dX3_foretellsLike_0 rfl (lv_at hl 0 rfl) ?_
  refine zgetI (ci := 3) (k := 1) (C := RX3) (T := TX3) (N := 12) X G rfl inX3_foretellsLike_X3 (Nat.le_of_ble_eq_true rfl) flX3_foretellsLike_15 dX3_foretellsLike_1 hf (fun v1 hf => ?_)
  refine lv_aload_n X.1.1 X.1.2.1 dX3_foretellsLike_4 rfl (lv_at hl 1 rfl) ?_
  refine zgetI (ci := 3) (k := 1) (C := RX3) (T := TX3) (N := 12) X G rfl inX3_foretellsLike_X3 (Nat.le_of_ble_eq_true rfl) flX3_foretellsLike_15 dX3_foretellsLike_5 hf (fun v2 hf => ?_)
  refine zic_ne (tgt := 33) X dX3_foretellsLike_8 (by decide) hf (fun hf => ?_) (fun hf => ?_)
  · refine lv_iconst (v := 0) X.1.1 X.1.2.1 dX3_foretellsLike_33 (by decide) ?_
    exact zretZr X hr hlk G hf dX3_foretellsLike_34
  · refine lv_aload_n X.1.1 X.1.2.1 dX3_foretellsLike_11 rfl (lv_at hl 0 rfl) ?_
    refine zgetI (ci := 3) (k := 3) (C := RX3) (T := TX3) (N := 12) X G rfl inX3_foretellsLike_X3 (Nat.le_of_ble_eq_true rfl) flX3_foretellsLike_22 dX3_foretellsLike_12 hf (fun v3 hf => ?_)
    refine lv_aload_n X.1.1 X.1.2.1 dX3_foretellsLike_15 rfl (lv_at hl 1 rfl) ?_
    refine zgetI (ci := 3) (k := 3) (C := RX3) (T := TX3) (N := 12) X G rfl inX3_foretellsLike_X3 (Nat.le_of_ble_eq_true rfl) flX3_foretellsLike_22 dX3_foretellsLike_16 hf (fun v4 hf => ?_)
    refine zic_ne (tgt := 33) X dX3_foretellsLike_19 (by decide) hf (fun hf => ?_) (fun hf => ?_)
    · refine lv_iconst (v := 0) X.1.1 X.1.2.1 dX3_foretellsLike_33 (by decide) ?_
      exact zretZr X hr hlk G hf dX3_foretellsLike_34
    · refine lv_aload_n X.1.1 X.1.2.1 dX3_foretellsLike_22 rfl (lv_at hl 0 rfl) ?_
      refine zgetI (ci := 3) (k := 4) (C := RX3) (T := TX3) (N := 12) X G rfl inX3_foretellsLike_X3 (Nat.le_of_ble_eq_true rfl) flX3_foretellsLike_25 dX3_foretellsLike_23 hf (fun v5 hf => ?_)
      refine lv_aload_n X.1.1 X.1.2.1 dX3_foretellsLike_26 rfl (lv_at hl 1 rfl) ?_
      refine zgetI (ci := 3) (k := 4) (C := RX3) (T := TX3) (N := 12) X G rfl inX3_foretellsLike_X3 (Nat.le_of_ble_eq_true rfl) flX3_foretellsLike_25 dX3_foretellsLike_27 hf (fun v6 hf => ?_)
      refine zic_eq (tgt := 35) X dX3_foretellsLike_30 (by decide) hf (fun hf => ?_) (fun hf => ?_)
      · refine lv_iconst (v := 0) X.1.1 X.1.2.1 dX3_foretellsLike_35 (by decide) ?_
        refine lv_istore_n (lv' := [(2, .int (0 : Int32)), (0, .ref (b0 + r0)), (1, .ref (b0 + r1))]) X.1.1 X.1.2.1 dX3_foretellsLike_36 rfl hl (by decide) rfl (fun ls hl => ?_)
        exact w_X3_foretellsLike_b37 X hr hlk _ _ _ _ _ _ _ hf G (lv_sub hl [1, 2, 0] rfl)
      · refine lv_iconst (v := 0) X.1.1 X.1.2.1 dX3_foretellsLike_33 (by decide) ?_
        exact zretZr X hr hlk G hf dX3_foretellsLike_34
/-! X3_isUp -/
abbrev rmX3_isUp : Room := { frames := 0, cells := 0, slots := 0, locals := 0 }
theorem hdV_X3_isUp : yX3_isUp.cls = RX3 ∧ yX3_isUp.cls ≠ "java/lang/invoke/MethodHandle" ∧ yX3_isUp.cls ≠ "java/lang/invoke/VarHandle" ∧ (parseMethodDescriptor yX3_isUp.desc).map (fun d => d.parameters.length) = some 1 := by decide +kernel
theorem inX3_isUp_X3 : ∀ w ∈ wsX30, w ∈ wsX3_isUp := by decide +kernel
theorem flX3_isUp_35 : Cond.fieldLink RX3 35 (TX3 7).1 (TX3 7).2.1 (TX3 7).2.2.1 ∈ wsX3_isUp := by decide +kernel
set_option maxHeartbeats 4000000 in
set_option maxRecDepth 100000 in
theorem m_X3_isUp (l : Launch) (D : va_G) (dA : Nat → ClassId) (b0 : Nat) (r0 : Nat) (a1 : Int32) (h : zH) (z : Int32) (hf : f_X3_isUp r0 a1 h = some z) : Met l yX3_isUp wsX3_isUp rmX3_isUp (zPc D dA b0 [.ref (b0 + r0), .int a1] h) (zQ D dA b0 (some (.int z)) h) 0 0 (zA b0) := by
  refine Met.ofW (cc := cX3_isUp) (maxL := 2) (ret := (some .boolean)) (by decide) rfl ?_
  intro p e s m args below meth c s₁ B hml hv
  obtain ⟨rfl, hP, hz, hK, hN⟩ := hv
  have hr := B.returns
  have hlk := B.notSynchronized
  have X : zX p s m _ c cX3_isUp 2 RX3 wsX3_isUp D dA := ⟨⟨B.exec, B.bytes, hml, findClass_of_methodNamed B.named, atoms_spec (ws := wsX3_isUp) B.pre⟩, hK, hN⟩
  have G : zG D dA b0 s.heap h s.heap [] := ⟨hP, hz, va_S.rf⟩
  have hl := lv_entry ([.ref (b0 + r0), .int a1]) (n := 2) (Nat.le_of_ble_eq_true rfl)
  rw [lg_entry_eq]
  generalize (lg_sl ([.ref (b0 + r0), .int a1]) ++ List.replicate (2 - (lg_sl ([.ref (b0 + r0), .int a1])).length) Slot.unset).toArray = ls at hl ⊢
  have hl : lv_has ls 2 [(0, .ref (b0 + r0)), (1, .int a1)] := hl
  unfold f_X3_isUp at hf
  refine lv_aload_n X.1.1 X.1.2.1 dX3_isUp_0 rfl (lv_at hl 0 rfl) ?_
  refine zgetR (ci := 3) (k := 7) (C := RX3) (T := TX3) (N := 12) X G rfl inX3_isUp_X3 (Nat.le_of_ble_eq_true rfl) flX3_isUp_35 dX3_isUp_1 hf (fun v1 hf => ?_)
  refine lv_iload_n X.1.1 X.1.2.1 dX3_isUp_4 rfl (lv_at hl 1 rfl) ?_
  refine ziald X G dX3_isUp_5 hf (fun v2 hf => ?_)
  refine zif_ne (tgt := 13) X dX3_isUp_6 (by decide) hf (fun hf => ?_) (fun hf => ?_)
  · refine lv_iconst (v := 0) X.1.1 X.1.2.1 dX3_isUp_13 (by decide) ?_
    exact zretZr X hr hlk G hf dX3_isUp_14
  · refine lv_iconst (v := 1) X.1.1 X.1.2.1 dX3_isUp_9 (by decide) ?_
    refine lv_goto (tgt := 14) X.1.1 X.1.2.1 dX3_isUp_10 (by decide) ?_
    exact zretZr X hr hlk G hf dX3_isUp_14
/-! X3_ironRise -/
abbrev rmX3_ironRise : Room := { frames := 0, cells := 0, slots := 0, locals := 0 }
theorem hdV_X3_ironRise : yX3_ironRise.cls = RX3 ∧ yX3_ironRise.cls ≠ "java/lang/invoke/MethodHandle" ∧ yX3_ironRise.cls ≠ "java/lang/invoke/VarHandle" ∧ (parseMethodDescriptor yX3_ironRise.desc).map (fun d => d.parameters.length) = some 1 := by decide +kernel
theorem inX3_ironRise_X3 : ∀ w ∈ wsX30, w ∈ wsX3_ironRise := by decide +kernel
theorem flX3_ironRise_41 : Cond.fieldLink RX3 41 (TX3 9).1 (TX3 9).2.1 (TX3 9).2.2.1 ∈ wsX3_ironRise := by decide +kernel
theorem flX3_ironRise_25 : Cond.fieldLink RX3 25 (TX3 4).1 (TX3 4).2.1 (TX3 4).2.2.1 ∈ wsX3_ironRise := by decide +kernel
set_option maxHeartbeats 4000000 in
set_option maxRecDepth 100000 in
theorem m_X3_ironRise (l : Launch) (D : va_G) (dA : Nat → ClassId) (b0 : Nat) (r0 : Nat) (a1 : Int32) (h : zH) (z : Int32) (hf : f_X3_ironRise r0 a1 h = some z) : Met l yX3_ironRise wsX3_ironRise rmX3_ironRise (zPc D dA b0 [.ref (b0 + r0), .int a1] h) (zQ D dA b0 (some (.int z)) h) 0 0 (zA b0) := by
  refine Met.ofW (cc := cX3_ironRise) (maxL := 2) (ret := (some .int)) (by decide) rfl ?_
  intro p e s m args below meth c s₁ B hml hv
  obtain ⟨rfl, hP, hz, hK, hN⟩ := hv
  have hr := B.returns
  have hlk := B.notSynchronized
  have X : zX p s m _ c cX3_ironRise 2 RX3 wsX3_ironRise D dA := ⟨⟨B.exec, B.bytes, hml, findClass_of_methodNamed B.named, atoms_spec (ws := wsX3_ironRise) B.pre⟩, hK, hN⟩
  have G : zG D dA b0 s.heap h s.heap [] := ⟨hP, hz, va_S.rf⟩
  have hl := lv_entry ([.ref (b0 + r0), .int a1]) (n := 2) (Nat.le_of_ble_eq_true rfl)
  rw [lg_entry_eq]
  generalize (lg_sl ([.ref (b0 + r0), .int a1]) ++ List.replicate (2 - (lg_sl ([.ref (b0 + r0), .int a1])).length) Slot.unset).toArray = ls at hl ⊢
  have hl : lv_has ls 2 [(0, .ref (b0 + r0)), (1, .int a1)] := hl
  unfold f_X3_ironRise at hf
  refine lv_aload_n X.1.1 X.1.2.1 dX3_ironRise_0 rfl (lv_at hl 0 rfl) ?_
  refine zgetR (ci := 3) (k := 9) (C := RX3) (T := TX3) (N := 12) X G rfl inX3_ironRise_X3 (Nat.le_of_ble_eq_true rfl) flX3_ironRise_41 dX3_ironRise_1 hf (fun v1 hf => ?_)
  refine lv_iload_n X.1.1 X.1.2.1 dX3_ironRise_4 rfl (lv_at hl 1 rfl) ?_
  refine ziald X G dX3_ironRise_5 hf (fun v2 hf => ?_)
  refine zif_le (tgt := 27) X dX3_ironRise_6 (by decide) hf (fun hf => ?_) (fun hf => ?_)
  · refine lv_iconst (v := 0) X.1.1 X.1.2.1 dX3_ironRise_27 (by decide) ?_
    exact zretIr X hr hlk G hf dX3_ironRise_28
  · refine lv_aload_n X.1.1 X.1.2.1 dX3_ironRise_9 rfl (lv_at hl 0 rfl) ?_
    refine zgetI (ci := 3) (k := 4) (C := RX3) (T := TX3) (N := 12) X G rfl inX3_ironRise_X3 (Nat.le_of_ble_eq_true rfl) flX3_ironRise_25 dX3_ironRise_10 hf (fun v3 hf => ?_)
    refine lv_aload_n X.1.1 X.1.2.1 dX3_ironRise_13 rfl (lv_at hl 0 rfl) ?_
    refine zgetR (ci := 3) (k := 9) (C := RX3) (T := TX3) (N := 12) X G rfl inX3_ironRise_X3 (Nat.le_of_ble_eq_true rfl) flX3_ironRise_41 dX3_ironRise_14 hf (fun v4 hf => ?_)
    refine lv_iload_n X.1.1 X.1.2.1 dX3_ironRise_17 rfl (lv_at hl 1 rfl) ?_
    refine ziald X G dX3_ironRise_18 hf (fun v5 hf => ?_)
    refine zirem X dX3_ironRise_19 hf (fun hf => ?_)
    refine zif_ne (tgt := 27) X dX3_ironRise_20 (by decide) hf (fun hf => ?_) (fun hf => ?_)
    · refine lv_iconst (v := 0) X.1.1 X.1.2.1 dX3_ironRise_27 (by decide) ?_
      exact zretIr X hr hlk G hf dX3_ironRise_28
    · refine lv_iconst (v := 1) X.1.1 X.1.2.1 dX3_ironRise_23 (by decide) ?_
      refine lv_goto (tgt := 28) X.1.1 X.1.2.1 dX3_ironRise_24 (by decide) ?_
      exact zretIr X hr hlk G hf dX3_ironRise_28
