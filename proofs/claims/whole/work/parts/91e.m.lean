/-! X4_makeAnew -/
abbrev rmX4_makeAnew : Room := { frames := 0, cells := 0, slots := 0, locals := 0 }
theorem hdV_X4_makeAnew : yX4_makeAnew.cls = RX4 ∧ yX4_makeAnew.cls ≠ "java/lang/invoke/MethodHandle" ∧ yX4_makeAnew.cls ≠ "java/lang/invoke/VarHandle" ∧ (parseMethodDescriptor yX4_makeAnew.desc).map (fun d => d.parameters.length) = some 3 := by decide +kernel
theorem inX4_makeAnew_X4 : ∀ w ∈ wsX40, w ∈ wsX4_makeAnew := by decide +kernel
theorem flX4_makeAnew_11 : Cond.fieldLink RX4 11 (TX4 0).1 (TX4 0).2.1 (TX4 0).2.2.1 ∈ wsX4_makeAnew := by decide +kernel
theorem flX4_makeAnew_16 : Cond.fieldLink RX4 16 (TX4 1).1 (TX4 1).2.1 (TX4 1).2.2.1 ∈ wsX4_makeAnew := by decide +kernel
theorem flX4_makeAnew_20 : Cond.fieldLink RX4 20 (TX4 2).1 (TX4 2).2.1 (TX4 2).2.2.1 ∈ wsX4_makeAnew := by decide +kernel
set_option maxHeartbeats 4000000 in
set_option maxRecDepth 100000 in
theorem w_X4_makeAnew_b17 {p : Program} {l : Launch} {e : Env} {s : State} {m : MethodId} {args : Array Value} {below : List Frame} {meth : Method} {c : Code} {D : va_G} {dA : Nat → ClassId} {b0 : Nat} (X : zX p s m args c cX4_makeAnew 5 RX4 wsX4_makeAnew D dA) (hr : meth.sig.returnType = none) (hlk : meth.locks = false) {z : zH} : ∀ (n : Nat), ∀ (r0 : Nat) (a1 : Int32) (a3 : Int32) (a4 : Int32) (h : zH) (H : Heap) (locs : List Loc) (ls : Array Slot), f_X4_makeAnew_b17 n r0 a1 a3 a4 h = some z → zG D dA b0 s.heap h H locs → lv_has ls 5 [(0, .ref (b0 + r0)), (1, .int a1), (3, .int a3), (4, .int a4)] → W p l e rmX4_makeAnew s m args below meth c H locs 0 0 (MQ below (zQ D dA b0 none z) args s 0 0 (zA b0)) (F0 m 17 ls []) := by
  intro n
  induction n with
  | zero =>
    intro r0 a1 a3 a4 h H locs ls hf
    cases hf
  | succ n ih =>
    intro r0 a1 a3 a4 h H locs ls hf G hl
    rw [f_X4_makeAnew_b17] at hf
    refine lv_iload X.1.1 X.1.2.1 dX4_makeAnew_17 (lv_at hl 3 rfl) ?_
    refine lv_iload_n X.1.1 X.1.2.1 dX4_makeAnew_19 rfl (lv_at hl 2 rfl) ?_
    refine zic_ge (tgt := 39) X dX4_makeAnew_20 (by decide) hf (fun hf => ?_) (fun hf => ?_)
    · exact zretV X hr hlk G hf dX4_makeAnew_39
    · refine lv_aload_n X.1.1 X.1.2.1 dX4_makeAnew_23 rfl (lv_at hl 0 rfl) ?_
      refine zgetR (ci := 4) (k := 0) (C := RX4) (T := TX4) (N := 3) X G rfl inX4_makeAnew_X4 (Nat.le_of_ble_eq_true rfl) flX4_makeAnew_11 dX4_makeAnew_24 hf (fun v1 hf => ?_)
      refine lv_iload_n X.1.1 X.1.2.1 dX4_makeAnew_27 rfl (lv_at hl 1 rfl) ?_
      refine zaald 3 X G rfl rfl dX4_makeAnew_28 hf (fun v2 hf => ?_)
      refine lv_iload X.1.1 X.1.2.1 dX4_makeAnew_29 (lv_at hl 3 rfl) ?_
      refine lv_iconst (v := 0) X.1.1 X.1.2.1 dX4_makeAnew_31 (by decide) ?_
      refine ziast X G dX4_makeAnew_32 hf (fun h3 H locs hf G => ?_)
      refine lv_iinc (v := (a4 + (1 : Int32))) (lv' := [(4, .int (a4 + (1 : Int32))), (0, .ref (b0 + r0)), (1, .int a1), (3, .int a3)]) X.1.1 X.1.2.1 dX4_makeAnew_33 hl (k := 3) rfl rfl (by decide) rfl (fun ls hl => ?_)
      refine lv_goto (tgt := 17) X.1.1 X.1.2.1 dX4_makeAnew_36 (by decide) ?_
      exact ih _ _ _ _ _ _ _ _ hf G (lv_sub hl [1, 2, 3, 0] rfl)
set_option maxHeartbeats 4000000 in
set_option maxRecDepth 100000 in
theorem m_X4_makeAnew (l : Launch) (D : va_G) (dA : Nat → ClassId) (b0 : Nat) (r0 : Nat) (a1 : Int32) (a2 : Int32) (a3 : Int32) (h : zH) (z : zH) (hf : f_X4_makeAnew r0 a1 a2 a3 h = some z) : Met l yX4_makeAnew wsX4_makeAnew rmX4_makeAnew (zPc D dA b0 [.ref (b0 + r0), .int a1, .int a2, .int a3] h) (zQ D dA b0 none z) 0 0 (zA b0) := by
  refine Met.ofW (cc := cX4_makeAnew) (maxL := 5) (ret := none) (by decide) rfl ?_
  intro p e s m args below meth c s₁ B hml hv
  obtain ⟨rfl, hP, hz, hK, hN⟩ := hv
  have hr := B.returns
  have hlk := B.notSynchronized
  have X : zX p s m _ c cX4_makeAnew 5 RX4 wsX4_makeAnew D dA := ⟨⟨B.exec, B.bytes, hml, findClass_of_methodNamed B.named, atoms_spec (ws := wsX4_makeAnew) B.pre⟩, hK, hN⟩
  have G : zG D dA b0 s.heap h s.heap [] := ⟨hP, hz, va_S.rf⟩
  have hl := lv_entry ([.ref (b0 + r0), .int a1, .int a2, .int a3]) (n := 5) (Nat.le_of_ble_eq_true rfl)
  rw [lg_entry_eq]
  generalize (lg_sl ([.ref (b0 + r0), .int a1, .int a2, .int a3]) ++ List.replicate (5 - (lg_sl ([.ref (b0 + r0), .int a1, .int a2, .int a3])).length) Slot.unset).toArray = ls at hl ⊢
  have hl : lv_has ls 5 [(0, .ref (b0 + r0)), (1, .int a1), (2, .int a2), (3, .int a3)] := hl
  unfold f_X4_makeAnew at hf
  refine lv_aload_n X.1.1 X.1.2.1 dX4_makeAnew_0 rfl (lv_at hl 0 rfl) ?_
  refine zgetR (ci := 4) (k := 1) (C := RX4) (T := TX4) (N := 3) X G rfl inX4_makeAnew_X4 (Nat.le_of_ble_eq_true rfl) flX4_makeAnew_16 dX4_makeAnew_1 hf (fun v1 hf => ?_)
  refine lv_iload_n X.1.1 X.1.2.1 dX4_makeAnew_4 rfl (lv_at hl 1 rfl) ?_
  refine lv_iload_n X.1.1 X.1.2.1 dX4_makeAnew_5 rfl (lv_at hl 2 rfl) ?_
  refine ziast X G dX4_makeAnew_6 hf (fun h2 H locs hf G => ?_)
  refine lv_aload_n X.1.1 X.1.2.1 dX4_makeAnew_7 rfl (lv_at hl 0 rfl) ?_
  refine zgetR (ci := 4) (k := 2) (C := RX4) (T := TX4) (N := 3) X G rfl inX4_makeAnew_X4 (Nat.le_of_ble_eq_true rfl) flX4_makeAnew_20 dX4_makeAnew_8 hf (fun v3 hf => ?_)
  refine lv_iload_n X.1.1 X.1.2.1 dX4_makeAnew_11 rfl (lv_at hl 1 rfl) ?_
  refine lv_iload_n X.1.1 X.1.2.1 dX4_makeAnew_12 rfl (lv_at hl 3 rfl) ?_
  refine ziast X G dX4_makeAnew_13 hf (fun h4 H locs hf G => ?_)
  refine lv_iconst (v := 0) X.1.1 X.1.2.1 dX4_makeAnew_14 (by decide) ?_
  refine lv_istore (lv' := [(4, .int (0 : Int32)), (0, .ref (b0 + r0)), (1, .int a1), (2, .int a2), (3, .int a3)]) X.1.1 X.1.2.1 dX4_makeAnew_15 hl (by decide) rfl (fun ls hl => ?_)
  exact w_X4_makeAnew_b17 X hr hlk _ _ _ _ _ _ _ _ _ hf G (lv_sub hl [1, 2, 4, 0] rfl)
/-! X4_put -/
abbrev rmX4_put : Room := { frames := 0, cells := 0, slots := 0, locals := 0 }
theorem hdV_X4_put : yX4_put.cls = RX4 ∧ yX4_put.cls ≠ "java/lang/invoke/MethodHandle" ∧ yX4_put.cls ≠ "java/lang/invoke/VarHandle" ∧ (parseMethodDescriptor yX4_put.desc).map (fun d => d.parameters.length) = some 3 := by decide +kernel
theorem inX4_put_X4 : ∀ w ∈ wsX40, w ∈ wsX4_put := by decide +kernel
theorem flX4_put_11 : Cond.fieldLink RX4 11 (TX4 0).1 (TX4 0).2.1 (TX4 0).2.2.1 ∈ wsX4_put := by decide +kernel
theorem flX4_put_16 : Cond.fieldLink RX4 16 (TX4 1).1 (TX4 1).2.1 (TX4 1).2.2.1 ∈ wsX4_put := by decide +kernel
set_option maxHeartbeats 4000000 in
set_option maxRecDepth 100000 in
theorem w_X4_put_b33 {p : Program} {l : Launch} {e : Env} {s : State} {m : MethodId} {args : Array Value} {below : List Frame} {meth : Method} {c : Code} {D : va_G} {dA : Nat → ClassId} {b0 : Nat} (X : zX p s m args c cX4_put 5 RX4 wsX4_put D dA) (hr : meth.sig.returnType = (some .int)) (hlk : meth.locks = false) {z : Int32 × zH} : ∀ (r0 : Nat) (a1 : Int32) (a2 : Int32) (a4 : Int32) (h : zH) (H : Heap) (locs : List Loc) (ls : Array Slot), f_X4_put_b33 r0 a1 a2 a4 h = some z → zG D dA b0 s.heap h H locs → lv_has ls 5 [(0, .ref (b0 + r0)), (1, .int a1), (2, .int a2), (4, .int a4)] → W p l e rmX4_put s m args below meth c H locs 0 0 (MQ below (zQ D dA b0 (some (.int z.1)) z.2) args s 0 0 (zA b0)) (F0 m 33 ls []) := by
  intro r0 a1 a2 a4 h H locs ls hf G hl
  unfold f_X4_put_b33 at hf
  refine lv_aload_n X.1.1 X.1.2.1 dX4_put_33 rfl (lv_at hl 0 rfl) ?_
  refine zgetR (ci := 4) (k := 0) (C := RX4) (T := TX4) (N := 3) X G rfl inX4_put_X4 (Nat.le_of_ble_eq_true rfl) flX4_put_11 dX4_put_34 hf (fun v1 hf => ?_)
  refine lv_iload_n X.1.1 X.1.2.1 dX4_put_37 rfl (lv_at hl 1 rfl) ?_
  refine zaald 3 X G rfl rfl dX4_put_38 hf (fun v2 hf => ?_)
  refine lv_iload_n X.1.1 X.1.2.1 dX4_put_39 rfl (lv_at hl 2 rfl) ?_
  refine lv_iload X.1.1 X.1.2.1 dX4_put_40 (lv_at hl 3 rfl) ?_
  refine ziast X G dX4_put_42 hf (fun h3 H locs hf G => ?_)
  refine lv_iload X.1.1 X.1.2.1 dX4_put_43 (lv_at hl 3 rfl) ?_
  exact zretI X hr hlk G hf dX4_put_45
set_option maxHeartbeats 4000000 in
set_option maxRecDepth 100000 in
theorem m_X4_put (l : Launch) (D : va_G) (dA : Nat → ClassId) (b0 : Nat) (r0 : Nat) (a1 : Int32) (a2 : Int32) (a3 : Int32) (h : zH) (z : Int32 × zH) (hf : f_X4_put r0 a1 a2 a3 h = some z) : Met l yX4_put wsX4_put rmX4_put (zPc D dA b0 [.ref (b0 + r0), .int a1, .int a2, .int a3] h) (zQ D dA b0 (some (.int z.1)) z.2) 0 0 (zA b0) := by
  refine Met.ofW (cc := cX4_put) (maxL := 5) (ret := (some .int)) (by decide) rfl ?_
  intro p e s m args below meth c s₁ B hml hv
  obtain ⟨rfl, hP, hz, hK, hN⟩ := hv
  have hr := B.returns
  have hlk := B.notSynchronized
  have X : zX p s m _ c cX4_put 5 RX4 wsX4_put D dA := ⟨⟨B.exec, B.bytes, hml, findClass_of_methodNamed B.named, atoms_spec (ws := wsX4_put) B.pre⟩, hK, hN⟩
  have G : zG D dA b0 s.heap h s.heap [] := ⟨hP, hz, va_S.rf⟩
  have hl := lv_entry ([.ref (b0 + r0), .int a1, .int a2, .int a3]) (n := 5) (Nat.le_of_ble_eq_true rfl)
  rw [lg_entry_eq]
  generalize (lg_sl ([.ref (b0 + r0), .int a1, .int a2, .int a3]) ++ List.replicate (5 - (lg_sl ([.ref (b0 + r0), .int a1, .int a2, .int a3])).length) Slot.unset).toArray = ls at hl ⊢
  have hl : lv_has ls 5 [(0, .ref (b0 + r0)), (1, .int a1), (2, .int a2), (3, .int a3)] := hl
  unfold f_X4_put at hf
  refine lv_iload_n X.1.1 X.1.2.1 dX4_put_0 rfl (lv_at hl 3 rfl) ?_
  refine lv_istore (lv' := [(4, .int a3), (0, .ref (b0 + r0)), (1, .int a1), (2, .int a2), (3, .int a3)]) X.1.1 X.1.2.1 dX4_put_1 hl (by decide) rfl (fun ls hl => ?_)
  refine lv_aload_n X.1.1 X.1.2.1 dX4_put_3 rfl (lv_at hl 1 rfl) ?_
  refine zgetR (ci := 4) (k := 1) (C := RX4) (T := TX4) (N := 3) X G rfl inX4_put_X4 (Nat.le_of_ble_eq_true rfl) flX4_put_16 dX4_put_4 hf (fun v1 hf => ?_)
  refine lv_iload_n X.1.1 X.1.2.1 dX4_put_7 rfl (lv_at hl 2 rfl) ?_
  refine ziald X G dX4_put_8 hf (fun v2 hf => ?_)
  refine zif_ne (tgt := 19) X dX4_put_9 (by decide) hf (fun hf => ?_) (fun hf => ?_)
  · refine lv_aload_n X.1.1 X.1.2.1 dX4_put_19 rfl (lv_at hl 1 rfl) ?_
    refine zgetR (ci := 4) (k := 1) (C := RX4) (T := TX4) (N := 3) X G rfl inX4_put_X4 (Nat.le_of_ble_eq_true rfl) flX4_put_16 dX4_put_20 hf (fun v3 hf => ?_)
    refine lv_iload_n X.1.1 X.1.2.1 dX4_put_23 rfl (lv_at hl 2 rfl) ?_
    refine ziald X G dX4_put_24 hf (fun v4 hf => ?_)
    refine lv_iconst (v := 1) X.1.1 X.1.2.1 dX4_put_25 (by decide) ?_
    refine zic_ne (tgt := 33) X dX4_put_26 (by decide) hf (fun hf => ?_) (fun hf => ?_)
    · exact w_X4_put_b33 X hr hlk _ _ _ _ _ _ _ _ hf G (lv_sub hl [1, 2, 3, 0] rfl)
    · refine lv_iload_n X.1.1 X.1.2.1 dX4_put_29 rfl (lv_at hl 4 rfl) ?_
      refine lv_i2s X.1.1 X.1.2.1 dX4_put_30 rfl ?_
      refine zleti hf (fun x5 hf => ?_)
      refine lv_istore (lv' := [(4, .int x5), (0, .ref (b0 + r0)), (1, .int a1), (2, .int a2), (3, .int a3)]) X.1.1 X.1.2.1 dX4_put_31 hl (by decide) rfl (fun ls hl => ?_)
      exact w_X4_put_b33 X hr hlk _ _ _ _ _ _ _ _ hf G (lv_sub hl [1, 2, 3, 0] rfl)
  · refine lv_iload_n X.1.1 X.1.2.1 dX4_put_12 rfl (lv_at hl 4 rfl) ?_
    refine lv_i2b X.1.1 X.1.2.1 dX4_put_13 rfl ?_
    refine zleti hf (fun x6 hf => ?_)
    refine lv_istore (lv' := [(4, .int x6), (0, .ref (b0 + r0)), (1, .int a1), (2, .int a2), (3, .int a3)]) X.1.1 X.1.2.1 dX4_put_14 hl (by decide) rfl (fun ls hl => ?_)
    refine lv_goto (tgt := 33) X.1.1 X.1.2.1 dX4_put_16 (by decide) ?_
    exact w_X4_put_b33 X hr hlk _ _ _ _ _ _ _ _ hf G (lv_sub hl [1, 2, 3, 0] rfl)
/-! X4_readRun -/
abbrev rmX4_readRun : Room := { frames := 0, cells := 0, slots := 0, locals := 0 }
theorem hdV_X4_readRun : yX4_readRun.cls = RX4 ∧ yX4_readRun.cls ≠ "java/lang/invoke/MethodHandle" ∧ yX4_readRun.cls ≠ "java/lang/invoke/VarHandle" ∧ (parseMethodDescriptor yX4_readRun.desc).map (fun d => d.parameters.length) = some 4 := by decide +kernel
theorem inX4_readRun_X4 : ∀ w ∈ wsX40, w ∈ wsX4_readRun := by decide +kernel
theorem flX4_readRun_11 : Cond.fieldLink RX4 11 (TX4 0).1 (TX4 0).2.1 (TX4 0).2.2.1 ∈ wsX4_readRun := by decide +kernel
set_option maxHeartbeats 4000000 in
set_option maxRecDepth 100000 in
theorem w_X4_readRun_b3 {p : Program} {l : Launch} {e : Env} {s : State} {m : MethodId} {args : Array Value} {below : List Frame} {meth : Method} {c : Code} {D : va_G} {dA : Nat → ClassId} {b0 : Nat} (X : zX p s m args c cX4_readRun 6 RX4 wsX4_readRun D dA) (hr : meth.sig.returnType = none) (hlk : meth.locks = false) {z : zH} : ∀ (n : Nat), ∀ (r0 : Nat) (a1 : Int32) (a2 : Int32) (a3 : Int32) (r4 : Nat) (a5 : Int32) (h : zH) (H : Heap) (locs : List Loc) (ls : Array Slot), f_X4_readRun_b3 n r0 a1 a2 a3 r4 a5 h = some z → zG D dA b0 s.heap h H locs → lv_has ls 6 [(0, .ref (b0 + r0)), (1, .int a1), (2, .int a2), (3, .int a3), (4, .ref (b0 + r4)), (5, .int a5)] → W p l e rmX4_readRun s m args below meth c H locs 0 0 (MQ below (zQ D dA b0 none z) args s 0 0 (zA b0)) (F0 m 3 ls []) := by
  intro n
  induction n with
  | zero =>
    intro r0 a1 a2 a3 r4 a5 h H locs ls hf
    cases hf
  | succ n ih =>
    intro r0 a1 a2 a3 r4 a5 h H locs ls hf G hl
    rw [f_X4_readRun_b3] at hf
    refine lv_iload X.1.1 X.1.2.1 dX4_readRun_3 (lv_at hl 5 rfl) ?_
    refine lv_iload_n X.1.1 X.1.2.1 dX4_readRun_5 rfl (lv_at hl 3 rfl) ?_
    refine zic_ge (tgt := 31) X dX4_readRun_6 (by decide) hf (fun hf => ?_) (fun hf => ?_)
    · exact zretV X hr hlk G hf dX4_readRun_31
    · refine lv_aload X.1.1 X.1.2.1 dX4_readRun_9 (lv_at hl 4 rfl) ?_
      refine lv_iload X.1.1 X.1.2.1 dX4_readRun_11 (lv_at hl 5 rfl) ?_
      refine lv_aload_n X.1.1 X.1.2.1 dX4_readRun_13 rfl (lv_at hl 0 rfl) ?_
      refine zgetR (ci := 4) (k := 0) (C := RX4) (T := TX4) (N := 3) X G rfl inX4_readRun_X4 (Nat.le_of_ble_eq_true rfl) flX4_readRun_11 dX4_readRun_14 hf (fun v1 hf => ?_)
      refine lv_iload_n X.1.1 X.1.2.1 dX4_readRun_17 rfl (lv_at hl 1 rfl) ?_
      refine zaald 3 X G rfl rfl dX4_readRun_18 hf (fun v2 hf => ?_)
      refine lv_iload_n X.1.1 X.1.2.1 dX4_readRun_19 rfl (lv_at hl 2 rfl) ?_
      refine lv_iload X.1.1 X.1.2.1 dX4_readRun_20 (lv_at hl 5 rfl) ?_
      refine lv_iadd X.1.1 X.1.2.1 dX4_readRun_22 ?_
      refine ziald X G dX4_readRun_23 hf (fun v3 hf => ?_)
      refine ziast X G dX4_readRun_24 hf (fun h4 H locs hf G => ?_)
      refine lv_iinc (v := (a5 + (1 : Int32))) (lv' := [(5, .int (a5 + (1 : Int32))), (0, .ref (b0 + r0)), (1, .int a1), (2, .int a2), (3, .int a3), (4, .ref (b0 + r4))]) X.1.1 X.1.2.1 dX4_readRun_25 hl (k := 5) rfl rfl (by decide) rfl (fun ls hl => ?_)
      refine lv_goto (tgt := 3) X.1.1 X.1.2.1 dX4_readRun_28 (by decide) ?_
      exact ih _ _ _ _ _ _ _ _ _ _ hf G (lv_sub hl [1, 2, 3, 4, 5, 0] rfl)
set_option maxHeartbeats 4000000 in
set_option maxRecDepth 100000 in
theorem m_X4_readRun (l : Launch) (D : va_G) (dA : Nat → ClassId) (b0 : Nat) (r0 : Nat) (a1 : Int32) (a2 : Int32) (a3 : Int32) (r4 : Nat) (h : zH) (z : zH) (hf : f_X4_readRun r0 a1 a2 a3 r4 h = some z) : Met l yX4_readRun wsX4_readRun rmX4_readRun (zPc D dA b0 [.ref (b0 + r0), .int a1, .int a2, .int a3, .ref (b0 + r4)] h) (zQ D dA b0 none z) 0 0 (zA b0) := by
  refine Met.ofW (cc := cX4_readRun) (maxL := 6) (ret := none) (by decide) rfl ?_
  intro p e s m args below meth c s₁ B hml hv
  obtain ⟨rfl, hP, hz, hK, hN⟩ := hv
  have hr := B.returns
  have hlk := B.notSynchronized
  have X : zX p s m _ c cX4_readRun 6 RX4 wsX4_readRun D dA := ⟨⟨B.exec, B.bytes, hml, findClass_of_methodNamed B.named, atoms_spec (ws := wsX4_readRun) B.pre⟩, hK, hN⟩
  have G : zG D dA b0 s.heap h s.heap [] := ⟨hP, hz, va_S.rf⟩
  have hl := lv_entry ([.ref (b0 + r0), .int a1, .int a2, .int a3, .ref (b0 + r4)]) (n := 6) (Nat.le_of_ble_eq_true rfl)
  rw [lg_entry_eq]
  generalize (lg_sl ([.ref (b0 + r0), .int a1, .int a2, .int a3, .ref (b0 + r4)]) ++ List.replicate (6 - (lg_sl ([.ref (b0 + r0), .int a1, .int a2, .int a3, .ref (b0 + r4)])).length) Slot.unset).toArray = ls at hl ⊢
  have hl : lv_has ls 6 [(0, .ref (b0 + r0)), (1, .int a1), (2, .int a2), (3, .int a3), (4, .ref (b0 + r4))] := hl
  unfold f_X4_readRun at hf
  refine lv_iconst (v := 0) X.1.1 X.1.2.1 dX4_readRun_0 (by decide) ?_
  refine lv_istore (lv' := [(5, .int (0 : Int32)), (0, .ref (b0 + r0)), (1, .int a1), (2, .int a2), (3, .int a3), (4, .ref (b0 + r4))]) X.1.1 X.1.2.1 dX4_readRun_1 hl (by decide) rfl (fun ls hl => ?_)
  exact w_X4_readRun_b3 X hr hlk _ _ _ _ _ _ _ _ _ _ _ hf G (lv_sub hl [1, 2, 3, 4, 5, 0] rfl)
/-! X4_countThere -/
abbrev rmX4_countThere : Room := { frames := 1, cells := 0, slots := 0, locals := 21 }
theorem hdV_X4_countThere : yX4_countThere.cls = RX4 ∧ yX4_countThere.cls ≠ "java/lang/invoke/MethodHandle" ∧ yX4_countThere.cls ≠ "java/lang/invoke/VarHandle" ∧ (parseMethodDescriptor yX4_countThere.desc).map (fun d => d.parameters.length) = some 0 := by decide +kernel
set_option maxHeartbeats 4000000 in
set_option maxRecDepth 100000 in
theorem w_X4_countThere_b4 {p : Program} {l : Launch} {e : Env} {s : State} {m : MethodId} {args : Array Value} {below : List Frame} {meth : Method} {c : Code} {D : va_G} {dA : Nat → ClassId} {b0 : Nat} {h : zH} (X : zX p s m args c cX4_countThere 3 RX4 wsX4_countThere D dA) (hr : meth.sig.returnType = (some .int)) (hlk : meth.locks = false) {z : Int32} : ∀ (n : Nat), ∀ (r0 : Nat) (a1 : Int32) (a2 : Int32) (H : Heap) (locs : List Loc) (ls : Array Slot), f_X4_countThere_b4 h n r0 a1 a2 = some z → zG D dA b0 s.heap h H locs → lv_has ls 3 [(0, .ref (b0 + r0)), (1, .int a1), (2, .int a2)] → W p l e rmX4_countThere s m args below meth c H locs 0 0 (MQ below (zQ D dA b0 (some (.int z)) h) args s 0 0 (zA b0)) (F0 m 4 ls []) := by
  intro n
  induction n with
  | zero =>
    intro r0 a1 a2 H locs ls hf
    cases hf
  | succ n ih =>
    intro r0 a1 a2 H locs ls hf G hl
    rw [f_X4_countThere_b4] at hf
    refine lv_iload_n X.1.1 X.1.2.1 dX4_countThere_4 rfl (lv_at hl 2 rfl) ?_
    refine lv_bipush (v := 8) X.1.1 X.1.2.1 dX4_countThere_5 (by decide) ?_
    refine zic_ge (tgt := 27) X dX4_countThere_7 (by decide) hf (fun hf => ?_) (fun hf => ?_)
    · refine lv_iload_n X.1.1 X.1.2.1 dX4_countThere_27 rfl (lv_at hl 1 rfl) ?_
      exact zretIr X hr hlk G hf dX4_countThere_28
    · refine lv_aload_n X.1.1 X.1.2.1 dX4_countThere_10 rfl (lv_at hl 0 rfl) ?_
      refine lv_iload_n X.1.1 X.1.2.1 dX4_countThere_11 rfl (lv_at hl 2 rfl) ?_
      obtain ⟨hk, hf⟩ := zck hf
      obtain ⟨q1, eq1, hf⟩ := Option.bind_eq_some_iff.mp hf
      refine zcV0 (As := [.int a2]) (rest := []) (v := (some (.int q1))) (h' := h) X G (rfl : vwCl[4]? = some (RX4, TX4, 3)) hk (m_X4_isMissing l D dA b0 r0 a2 h q1 eq1) (cwV 1 X.1.2.2.2.2 gX4_countThere_X4_isMissing rfl rfl rfl hdV_X4_isMissing ⟨(Nat.le_of_ble_eq_true rfl), (Nat.le_of_ble_eq_true rfl)⟩) rfl hl.1 rfl (Nat.le_of_ble_eq_true rfl) dX4_countThere_12 ⟨Nat.zero_le _, Nat.zero_le _⟩ (fun H locs G => ?_)
      refine zif_ne (tgt := 21) X dX4_countThere_15 (by decide) hf (fun hf => ?_) (fun hf => ?_)
      · refine lv_iinc (v := (a2 + (1 : Int32))) (lv' := [(2, .int (a2 + (1 : Int32))), (0, .ref (b0 + r0)), (1, .int a1)]) X.1.1 X.1.2.1 dX4_countThere_21 hl (k := 2) rfl rfl (by decide) rfl (fun ls hl => ?_)
        refine lv_goto (tgt := 4) X.1.1 X.1.2.1 dX4_countThere_24 (by decide) ?_
        exact ih _ _ _ _ _ _ hf G (lv_sub hl [1, 2, 0] rfl)
      · refine lv_iinc (v := (a1 + (1 : Int32))) (lv' := [(1, .int (a1 + (1 : Int32))), (0, .ref (b0 + r0)), (2, .int a2)]) X.1.1 X.1.2.1 dX4_countThere_18 hl (k := 1) rfl rfl (by decide) rfl (fun ls hl => ?_)
        refine lv_iinc (v := (a2 + (1 : Int32))) (lv' := [(2, .int (a2 + (1 : Int32))), (1, .int (a1 + (1 : Int32))), (0, .ref (b0 + r0))]) X.1.1 X.1.2.1 dX4_countThere_21 hl (k := 2) rfl rfl (by decide) rfl (fun ls hl => ?_)
        refine lv_goto (tgt := 4) X.1.1 X.1.2.1 dX4_countThere_24 (by decide) ?_
        exact ih _ _ _ _ _ _ hf G (lv_sub hl [2, 1, 0] rfl)
set_option maxHeartbeats 4000000 in
set_option maxRecDepth 100000 in
theorem m_X4_countThere (l : Launch) (D : va_G) (dA : Nat → ClassId) (b0 : Nat) (r0 : Nat) (h : zH) (z : Int32) (hf : f_X4_countThere r0 h = some z) : Met l yX4_countThere wsX4_countThere rmX4_countThere (zPc D dA b0 [.ref (b0 + r0)] h) (zQ D dA b0 (some (.int z)) h) 0 0 (zA b0) := by
  refine Met.ofW (cc := cX4_countThere) (maxL := 3) (ret := (some .int)) (by decide) rfl ?_
  intro p e s m args below meth c s₁ B hml hv
  obtain ⟨rfl, hP, hz, hK, hN⟩ := hv
  have hr := B.returns
  have hlk := B.notSynchronized
  have X : zX p s m _ c cX4_countThere 3 RX4 wsX4_countThere D dA := ⟨⟨B.exec, B.bytes, hml, findClass_of_methodNamed B.named, atoms_spec (ws := wsX4_countThere) B.pre⟩, hK, hN⟩
  have G : zG D dA b0 s.heap h s.heap [] := ⟨hP, hz, va_S.rf⟩
  have hl := lv_entry ([.ref (b0 + r0)]) (n := 3) (Nat.le_of_ble_eq_true rfl)
  rw [lg_entry_eq]
  generalize (lg_sl ([.ref (b0 + r0)]) ++ List.replicate (3 - (lg_sl ([.ref (b0 + r0)])).length) Slot.unset).toArray = ls at hl ⊢
  have hl : lv_has ls 3 [(0, .ref (b0 + r0))] := hl
  unfold f_X4_countThere at hf
  refine lv_iconst (v := 0) X.1.1 X.1.2.1 dX4_countThere_0 (by decide) ?_
  refine lv_istore_n (lv' := [(1, .int (0 : Int32)), (0, .ref (b0 + r0))]) X.1.1 X.1.2.1 dX4_countThere_1 rfl hl (by decide) rfl (fun ls hl => ?_)
  refine lv_iconst (v := 0) X.1.1 X.1.2.1 dX4_countThere_2 (by decide) ?_
  refine lv_istore_n (lv' := [(2, .int (0 : Int32)), (1, .int (0 : Int32)), (0, .ref (b0 + r0))]) X.1.1 X.1.2.1 dX4_countThere_3 rfl hl (by decide) rfl (fun ls hl => ?_)
  exact w_X4_countThere_b4 X hr hlk _ _ _ _ _ _ _ hf G (lv_sub hl [2, 1, 0] rfl)
/-! X5_init -/
abbrev rmX5_init : Room := { frames := 2, cells := 8, slots := 58, locals := 60 }
theorem hdS_X5_init : yX5_init.cls ≠ "java/lang/invoke/MethodHandle" ∧ yX5_init.cls ≠ "java/lang/invoke/VarHandle" ∧ (parseMethodDescriptor yX5_init.desc).map (fun d => d.parameters.length) = some 0 := by decide +kernel
theorem wdX5_init_oL3 : Cond.methodLink RX5 3 objectInit ∈ wsX5_init := by decide +kernel
theorem wdX5_init_oI : Cond.instanceMethod objectInit ∈ wsX5_init := by decide +kernel
theorem wdX5_init_oC : Cond.code objectInit ⟨#[0xb1]⟩ 1 none ∈ wsX5_init := by decide +kernel
theorem wdX5_init_cl9 : Cond.classLink RX5 9 RX3 ∈ wsX5_init := by decide +kernel
theorem wdX5_init_ins_X3 : Cond.instantiable RX3 12 ∈ wsX5_init := by decide +kernel
theorem wdX5_init_ini_X3 : Cond.initialized RX3 ∈ wsX5_init := by decide +kernel
theorem inX5_init_X3 : ∀ w ∈ wsX30, w ∈ wsX5_init := by decide +kernel
theorem wdX5_init_im_X3_init : Cond.instanceMethod yX3_init ∈ wsX5_init := by decide +kernel
theorem inX5_init_X5 : ∀ w ∈ wsX50, w ∈ wsX5_init := by decide +kernel
theorem flX5_init_12 : Cond.fieldLink RX5 12 (TX5 0).1 (TX5 0).2.1 (TX5 0).2.2.1 ∈ wsX5_init := by decide +kernel
theorem wdX5_init_ac_int : Cond.arrayClass .int ∈ wsX5_init := by decide +kernel
theorem flX5_init_18 : Cond.fieldLink RX5 18 (TX5 1).1 (TX5 1).2.1 (TX5 1).2.2.1 ∈ wsX5_init := by decide +kernel
set_option maxHeartbeats 8000000 in
set_option maxRecDepth 100000 in
theorem m_X5_init (l : Launch) (D : va_G) (dA : Nat → ClassId) (b0 : Nat) (r0 : Nat) (h : zH) (z : zH) (hf : f_X5_init r0 h = some z) : Met l yX5_init wsX5_init rmX5_init (zPc D dA b0 [.ref (b0 + r0)] h) (zQ D dA b0 none z) 8 58 (zA b0) := by
  refine Met.ofW (cc := cX5_init) (maxL := 1) (ret := none) (by decide) rfl ?_
  intro p e s m args below meth c s₁ B hml hv
  obtain ⟨rfl, hP, hz, hK, hN⟩ := hv
  have hr := B.returns
  have hlk := B.notSynchronized
  have hin : meth.name = "<init>" := (name_of_methodNamed B.named B.method).1
  have hb0 : b0 ≤ s.heap.size := by rw [hz]; exact Nat.le_add_right _ _
  have X : zX p s m _ c cX5_init 1 RX5 wsX5_init D dA := ⟨⟨B.exec, B.bytes, hml, findClass_of_methodNamed B.named, atoms_spec (ws := wsX5_init) B.pre⟩, hK, hN⟩
  have G : zG D dA b0 s.heap h s.heap [] := ⟨hP, hz, va_S.rf⟩
  have hl := lv_entry ([.ref (b0 + r0)]) (n := 1) (Nat.le_of_ble_eq_true rfl)
  rw [lg_entry_eq]
  generalize (lg_sl ([.ref (b0 + r0)]) ++ List.replicate (1 - (lg_sl ([.ref (b0 + r0)])).length) Slot.unset).toArray = ls at hl ⊢
  have hl : lv_has ls 1 [(0, .ref (b0 + r0))] := hl
  unfold f_X5_init at hf
  refine lv_aload_n X.1.1 X.1.2.1 dX5_init_0 rfl (lv_at hl 0 rfl) ?_
  refine W.objInit X.1.1 X.1.2.1 X.1.2.2.2.1 (X.1.2.2.2.2 _ wdX5_init_oL3) (X.1.2.2.2.2 _ wdX5_init_oI) (X.1.2.2.2.2 _ wdX5_init_oC) rfl (hl.1.trans X.1.2.2.1.symm) rfl dX5_init_1 (Nat.le_of_ble_eq_true rfl) (Nat.le_of_ble_eq_true rfl) ?_
  refine W.eq (g2 := F0 m 4 ls []) rfl ?_
  refine lv_aload_n X.1.1 X.1.2.1 dX5_init_4 rfl (lv_at hl 0 rfl) ?_
  refine znew (ci := 3) (C := RX3) (T := TX3) (N := 12) (fs := [.int 0, .int 0, .int 0, .int 0, .int 0, .int 0, .null, .null, .null, .null, .null, .null]) X hb0 G rfl inX5_init_X3 tyX3_ok wdX5_init_cl9 wdX5_init_ins_X3 wdX5_init_ini_X3 rfl (fun j hj => by rcases (show j = 0 ∨ j = 1 ∨ j = 2 ∨ j = 3 ∨ j = 4 ∨ j = 5 ∨ j = 6 ∨ j = 7 ∨ j = 8 ∨ j = 9 ∨ j = 10 ∨ j = 11 by omega) with rfl | rfl | rfl | rfl | rfl | rfl | rfl | rfl | rfl | rfl | rfl | rfl <;> rfl) (Nat.le_of_ble_eq_true rfl) (Nat.le_of_ble_eq_true rfl) dX5_init_5 hf (fun q1 H hf G => ?_)
  refine W.widen (k := 1) (n := 12) (Nat.le_refl _) (Nat.le_refl _) ?_
  refine lv_dup X.1.1 X.1.2.1 dX5_init_8 rfl ?_
  obtain ⟨q2, eq2, hf⟩ := Option.bind_eq_some_iff.mp hf
  refine zcIN (As := []) (r := q1.1) (rest := [.ref (b0 + q1.1), .ref (b0 + r0)]) (v := none) (h' := q2) X G (m_X3_init l D dA b0 q1.1 q1.2 q2 eq2) ⟨va_cnB 0 X.1.2.2.2.2 gX5_init_X3_init_n11 rfl rfl rfl (X.2.2.1 _ (List.mem_of_getElem? (i := 4) rfl)) (X.1.2.2.2.2 _ wdX5_init_ini_X3) hdS_X3_init ⟨(Nat.le_of_ble_eq_true rfl), (Nat.le_of_ble_eq_true rfl)⟩, rfl, X.1.2.2.2.2 _ wdX5_init_im_X3_init⟩ rfl hl.1 rfl (Nat.le_of_ble_eq_true rfl) dX5_init_9 ⟨(Nat.le_of_ble_eq_true rfl), (Nat.le_of_ble_eq_true rfl)⟩ (fun H locs G => ?_)
  refine W.widen (k := 7) (n := 42) (Nat.le_refl _) (Nat.le_refl _) ?_
  refine zputF (ty := (.object "BuriedHalves$Mine")) (ci := 5) (k := 0) (C := RX5) (T := TX5) (N := 2) X G rfl inX5_init_X5 tyX5_ok nmX5 (Nat.le_of_ble_eq_true rfl) flX5_init_12 rfl hin rfl (by decide +kernel) (fun _ => rfl) (fun _ => rfl) dX5_init_12 hf (fun h3 H locs hf G => ?_)
  refine lv_aload_n X.1.1 X.1.2.1 dX5_init_15 rfl (lv_at hl 0 rfl) ?_
  refine lv_bipush (v := 16) X.1.1 X.1.2.1 dX5_init_16 (by decide) ?_
  refine znewI (N := 16) X hb0 G wdX5_init_ac_int (by decide) (by decide) (Nat.le_of_ble_eq_true rfl) (Nat.le_of_ble_eq_true rfl) (Nat.le_of_ble_eq_true rfl) dX5_init_18 hf (fun q4 H hf G => ?_)
  refine W.widen (k := 8) (n := 58) (Nat.le_refl _) (Nat.le_refl _) ?_
  refine zputF (ty := (.array .int)) (ci := 5) (k := 1) (C := RX5) (T := TX5) (N := 2) X G rfl inX5_init_X5 tyX5_ok nmX5 (Nat.le_of_ble_eq_true rfl) flX5_init_18 rfl hin rfl (by decide +kernel) (fun _ => rfl) (fun _ => rfl) dX5_init_20 hf (fun h5 H locs hf G => ?_)
  exact zretV X hr hlk G hf dX5_init_23
/-! X5_passYears -/
abbrev rmX5_passYears : Room := { frames := 3, cells := 0, slots := 0, locals := 83 }
theorem hdV_X5_passYears : yX5_passYears.cls = RX5 ∧ yX5_passYears.cls ≠ "java/lang/invoke/MethodHandle" ∧ yX5_passYears.cls ≠ "java/lang/invoke/VarHandle" ∧ (parseMethodDescriptor yX5_passYears.desc).map (fun d => d.parameters.length) = some 1 := by decide +kernel
theorem inX5_passYears_X5 : ∀ w ∈ wsX50, w ∈ wsX5_passYears := by decide +kernel
theorem flX5_passYears_12 : Cond.fieldLink RX5 12 (TX5 0).1 (TX5 0).2.1 (TX5 0).2.2.1 ∈ wsX5_passYears := by decide +kernel
set_option maxHeartbeats 4000000 in
set_option maxRecDepth 100000 in
theorem w_X5_passYears_b2 {p : Program} {l : Launch} {e : Env} {s : State} {m : MethodId} {args : Array Value} {below : List Frame} {meth : Method} {c : Code} {D : va_G} {dA : Nat → ClassId} {b0 : Nat} (X : zX p s m args c cX5_passYears 3 RX5 wsX5_passYears D dA) (hr : meth.sig.returnType = none) (hlk : meth.locks = false) {z : zH} : ∀ (n : Nat), ∀ (r0 : Nat) (a1 : Int32) (a2 : Int32) (h : zH) (H : Heap) (locs : List Loc) (ls : Array Slot), f_X5_passYears_b2 n r0 a1 a2 h = some z → zG D dA b0 s.heap h H locs → lv_has ls 3 [(0, .ref (b0 + r0)), (1, .int a1), (2, .int a2)] → W p l e rmX5_passYears s m args below meth c H locs 0 0 (MQ below (zQ D dA b0 none z) args s 0 0 (zA b0)) (F0 m 2 ls []) := by
  intro n
  induction n with
  | zero =>
    intro r0 a1 a2 h H locs ls hf
    cases hf
  | succ n ih =>
    intro r0 a1 a2 h H locs ls hf G hl
    rw [f_X5_passYears_b2] at hf
    refine lv_iload_n X.1.1 X.1.2.1 dX5_passYears_2 rfl (lv_at hl 2 rfl) ?_
    refine lv_iload_n X.1.1 X.1.2.1 dX5_passYears_3 rfl (lv_at hl 1 rfl) ?_
    refine zic_ge (tgt := 21) X dX5_passYears_4 (by decide) hf (fun hf => ?_) (fun hf => ?_)
    · exact zretV X hr hlk G hf dX5_passYears_21
    · refine lv_aload_n X.1.1 X.1.2.1 dX5_passYears_7 rfl (lv_at hl 0 rfl) ?_
      refine zgetR (ci := 5) (k := 0) (C := RX5) (T := TX5) (N := 2) X G rfl inX5_passYears_X5 (Nat.le_of_ble_eq_true rfl) flX5_passYears_12 dX5_passYears_8 hf (fun v1 hf => ?_)
      obtain ⟨hk, hf⟩ := zck hf
      obtain ⟨q2, eq2, hf⟩ := Option.bind_eq_some_iff.mp hf
      refine zcV0 (As := []) (rest := []) (v := (some (.int q2.1))) (h' := q2.2) X G (rfl : vwCl[3]? = some (RX3, TX3, 12)) hk (m_X3_passYear l D dA b0 v1 h q2 eq2) (cwV 0 X.1.2.2.2.2 gX5_passYears_X3_passYear rfl rfl rfl hdV_X3_passYear ⟨(Nat.le_of_ble_eq_true rfl), (Nat.le_of_ble_eq_true rfl)⟩) rfl hl.1 rfl (Nat.le_of_ble_eq_true rfl) dX5_passYears_11 ⟨Nat.zero_le _, Nat.zero_le _⟩ (fun H locs G => ?_)
      refine lv_pop X.1.1 X.1.2.1 dX5_passYears_14 rfl ?_
      refine lv_iinc (v := (a2 + (1 : Int32))) (lv' := [(2, .int (a2 + (1 : Int32))), (0, .ref (b0 + r0)), (1, .int a1)]) X.1.1 X.1.2.1 dX5_passYears_15 hl (k := 2) rfl rfl (by decide) rfl (fun ls hl => ?_)
      refine lv_goto (tgt := 2) X.1.1 X.1.2.1 dX5_passYears_18 (by decide) ?_
      exact ih _ _ _ _ _ _ _ hf G (lv_sub hl [1, 2, 0] rfl)
set_option maxHeartbeats 4000000 in
set_option maxRecDepth 100000 in
theorem m_X5_passYears (l : Launch) (D : va_G) (dA : Nat → ClassId) (b0 : Nat) (r0 : Nat) (a1 : Int32) (h : zH) (z : zH) (hf : f_X5_passYears r0 a1 h = some z) : Met l yX5_passYears wsX5_passYears rmX5_passYears (zPc D dA b0 [.ref (b0 + r0), .int a1] h) (zQ D dA b0 none z) 0 0 (zA b0) := by
  refine Met.ofW (cc := cX5_passYears) (maxL := 3) (ret := none) (by decide) rfl ?_
  intro p e s m args below meth c s₁ B hml hv
  obtain ⟨rfl, hP, hz, hK, hN⟩ := hv
  have hr := B.returns
  have hlk := B.notSynchronized
  have X : zX p s m _ c cX5_passYears 3 RX5 wsX5_passYears D dA := ⟨⟨B.exec, B.bytes, hml, findClass_of_methodNamed B.named, atoms_spec (ws := wsX5_passYears) B.pre⟩, hK, hN⟩
  have G : zG D dA b0 s.heap h s.heap [] := ⟨hP, hz, va_S.rf⟩
  have hl := lv_entry ([.ref (b0 + r0), .int a1]) (n := 3) (Nat.le_of_ble_eq_true rfl)
  rw [lg_entry_eq]
  generalize (lg_sl ([.ref (b0 + r0), .int a1]) ++ List.replicate (3 - (lg_sl ([.ref (b0 + r0), .int a1])).length) Slot.unset).toArray = ls at hl ⊢
  have hl : lv_has ls 3 [(0, .ref (b0 + r0)), (1, .int a1)] := hl
  unfold f_X5_passYears at hf
  refine lv_iconst (v := 0) X.1.1 X.1.2.1 dX5_passYears_0 (by decide) ?_
  refine lv_istore_n (lv' := [(2, .int (0 : Int32)), (0, .ref (b0 + r0)), (1, .int a1)]) X.1.1 X.1.2.1 dX5_passYears_1 rfl hl (by decide) rfl (fun ls hl => ?_)
  exact w_X5_passYears_b2 X hr hlk _ _ _ _ _ _ _ _ hf G (lv_sub hl [1, 2, 0] rfl)
/-! X5_behind -/
abbrev rmX5_behind : Room := { frames := 4, cells := 0, slots := 0, locals := 105 }
theorem hdV_X5_behind : yX5_behind.cls = RX5 ∧ yX5_behind.cls ≠ "java/lang/invoke/MethodHandle" ∧ yX5_behind.cls ≠ "java/lang/invoke/VarHandle" ∧ (parseMethodDescriptor yX5_behind.desc).map (fun d => d.parameters.length) = some 2 := by decide +kernel
theorem inX5_behind_X5 : ∀ w ∈ wsX50, w ∈ wsX5_behind := by decide +kernel
theorem flX5_behind_12 : Cond.fieldLink RX5 12 (TX5 0).1 (TX5 0).2.1 (TX5 0).2.2.1 ∈ wsX5_behind := by decide +kernel
set_option maxHeartbeats 4000000 in
set_option maxRecDepth 100000 in
theorem m_X5_behind (l : Launch) (D : va_G) (dA : Nat → ClassId) (b0 : Nat) (r0 : Nat) (r1 : Nat) (a2 : Int32) (h : zH) (z : Nat × zH) (hf : f_X5_behind r0 r1 a2 h = some z) : Met l yX5_behind wsX5_behind rmX5_behind (zPc D dA b0 [.ref (b0 + r0), .ref (b0 + r1), .int a2] h) (zQ D dA b0 (some (.ref (b0 + z.1))) z.2) 0 0 (zA b0) := by
  refine Met.ofW (cc := cX5_behind) (maxL := 3) (ret := (some (.object "BuriedHalves$Mine"))) (by decide) rfl ?_
  intro p e s m args below meth c s₁ B hml hv
  obtain ⟨rfl, hP, hz, hK, hN⟩ := hv
  have hr := B.returns
  have hlk := B.notSynchronized
  have X : zX p s m _ c cX5_behind 3 RX5 wsX5_behind D dA := ⟨⟨B.exec, B.bytes, hml, findClass_of_methodNamed B.named, atoms_spec (ws := wsX5_behind) B.pre⟩, hK, hN⟩
  have G : zG D dA b0 s.heap h s.heap [] := ⟨hP, hz, va_S.rf⟩
  have hl := lv_entry ([.ref (b0 + r0), .ref (b0 + r1), .int a2]) (n := 3) (Nat.le_of_ble_eq_true rfl)
  rw [lg_entry_eq]
  generalize (lg_sl ([.ref (b0 + r0), .ref (b0 + r1), .int a2]) ++ List.replicate (3 - (lg_sl ([.ref (b0 + r0), .ref (b0 + r1), .int a2])).length) Slot.unset).toArray = ls at hl ⊢
  have hl : lv_has ls 3 [(0, .ref (b0 + r0)), (1, .ref (b0 + r1)), (2, .int a2)] := hl
  unfold f_X5_behind at hf
  refine lv_aload_n X.1.1 X.1.2.1 dX5_behind_0 rfl (lv_at hl 0 rfl) ?_
  refine zgetR (ci := 5) (k := 0) (C := RX5) (T := TX5) (N := 2) X G rfl inX5_behind_X5 (Nat.le_of_ble_eq_true rfl) flX5_behind_12 dX5_behind_1 hf (fun v1 hf => ?_)
  refine lv_aload_n X.1.1 X.1.2.1 dX5_behind_4 rfl (lv_at hl 1 rfl) ?_
  obtain ⟨hk, hf⟩ := zck hf
  obtain ⟨q2, eq2, hf⟩ := Option.bind_eq_some_iff.mp hf
  refine zcV0 (As := [.ref (b0 + r1)]) (rest := []) (v := none) (h' := q2) X G (rfl : vwCl[3]? = some (RX3, TX3, 12)) hk (m_X3_become l D dA b0 v1 r1 h q2 eq2) (cwV 1 X.1.2.2.2.2 gX5_behind_X3_become rfl rfl rfl hdV_X3_become ⟨(Nat.le_of_ble_eq_true rfl), (Nat.le_of_ble_eq_true rfl)⟩) rfl hl.1 rfl (Nat.le_of_ble_eq_true rfl) dX5_behind_5 ⟨Nat.zero_le _, Nat.zero_le _⟩ (fun H locs G => ?_)
  refine lv_aload_n X.1.1 X.1.2.1 dX5_behind_8 rfl (lv_at hl 0 rfl) ?_
  refine lv_iload_n X.1.1 X.1.2.1 dX5_behind_9 rfl (lv_at hl 2 rfl) ?_
  obtain ⟨hk, hf⟩ := zck hf
  obtain ⟨q3, eq3, hf⟩ := Option.bind_eq_some_iff.mp hf
  refine zcV0 (As := [.int a2]) (rest := []) (v := none) (h' := q3) X G (rfl : vwCl[5]? = some (RX5, TX5, 2)) hk (m_X5_passYears l D dA b0 r0 a2 q2 q3 eq3) (cwV 1 X.1.2.2.2.2 gX5_behind_X5_passYears rfl rfl rfl hdV_X5_passYears ⟨(Nat.le_of_ble_eq_true rfl), (Nat.le_of_ble_eq_true rfl)⟩) rfl hl.1 rfl (Nat.le_of_ble_eq_true rfl) dX5_behind_10 ⟨Nat.zero_le _, Nat.zero_le _⟩ (fun H locs G => ?_)
  refine lv_aload_n X.1.1 X.1.2.1 dX5_behind_13 rfl (lv_at hl 0 rfl) ?_
  refine zgetR (ci := 5) (k := 0) (C := RX5) (T := TX5) (N := 2) X G rfl inX5_behind_X5 (Nat.le_of_ble_eq_true rfl) flX5_behind_12 dX5_behind_14 hf (fun v4 hf => ?_)
  exact zretA X hr (Or.inl ⟨_, rfl⟩) hlk G hf dX5_behind_17
/-! X5_yearsUntilUp -/
abbrev rmX5_yearsUntilUp : Room := { frames := 3, cells := 0, slots := 0, locals := 83 }
theorem hdV_X5_yearsUntilUp : yX5_yearsUntilUp.cls = RX5 ∧ yX5_yearsUntilUp.cls ≠ "java/lang/invoke/MethodHandle" ∧ yX5_yearsUntilUp.cls ≠ "java/lang/invoke/VarHandle" ∧ (parseMethodDescriptor yX5_yearsUntilUp.desc).map (fun d => d.parameters.length) = some 2 := by decide +kernel
theorem coX5_yearsUntilUp_38 : Cond.constant RX5 38 (-1000000) ∈ wsX5_yearsUntilUp := by decide +kernel
theorem inX5_yearsUntilUp_X5 : ∀ w ∈ wsX50, w ∈ wsX5_yearsUntilUp := by decide +kernel
theorem flX5_yearsUntilUp_12 : Cond.fieldLink RX5 12 (TX5 0).1 (TX5 0).2.1 (TX5 0).2.2.1 ∈ wsX5_yearsUntilUp := by decide +kernel
set_option maxHeartbeats 4000000 in
set_option maxRecDepth 100000 in
theorem w_X5_yearsUntilUp_b10 {p : Program} {l : Launch} {e : Env} {s : State} {m : MethodId} {args : Array Value} {below : List Frame} {meth : Method} {c : Code} {D : va_G} {dA : Nat → ClassId} {b0 : Nat} (X : zX p s m args c cX5_yearsUntilUp 4 RX5 wsX5_yearsUntilUp D dA) (hr : meth.sig.returnType = (some .int)) (hlk : meth.locks = false) {z : Int32 × zH} : ∀ (n : Nat), ∀ (r0 : Nat) (a2 : Int32) (a3 : Int32) (h : zH) (H : Heap) (locs : List Loc) (ls : Array Slot), f_X5_yearsUntilUp_b10 n r0 a2 a3 h = some z → zG D dA b0 s.heap h H locs → lv_has ls 4 [(0, .ref (b0 + r0)), (2, .int a2), (3, .int a3)] → W p l e rmX5_yearsUntilUp s m args below meth c H locs 0 0 (MQ below (zQ D dA b0 (some (.int z.1)) z.2) args s 0 0 (zA b0)) (F0 m 10 ls []) := by
  intro n
  induction n with
  | zero =>
    intro r0 a2 a3 h H locs ls hf
    cases hf
  | succ n ih =>
    intro r0 a2 a3 h H locs ls hf G hl
    rw [f_X5_yearsUntilUp_b10] at hf
    refine lv_iload_n X.1.1 X.1.2.1 dX5_yearsUntilUp_10 rfl (lv_at hl 2 rfl) ?_
    refine lv_bipush (v := 99) X.1.1 X.1.2.1 dX5_yearsUntilUp_11 (by decide) ?_
    refine zic_gt (tgt := 43) X dX5_yearsUntilUp_13 (by decide) hf (fun hf => ?_) (fun hf => ?_)
    · refine lv_ldc (v := -1000000) X.1.1 X.1.2.1 X.1.2.2.2.1 (X.1.2.2.2.2 _ coX5_yearsUntilUp_38) dX5_yearsUntilUp_43 ?_
      exact zretI X hr hlk G hf dX5_yearsUntilUp_45
    · refine lv_aload_n X.1.1 X.1.2.1 dX5_yearsUntilUp_16 rfl (lv_at hl 0 rfl) ?_
      refine zgetR (ci := 5) (k := 0) (C := RX5) (T := TX5) (N := 2) X G rfl inX5_yearsUntilUp_X5 (Nat.le_of_ble_eq_true rfl) flX5_yearsUntilUp_12 dX5_yearsUntilUp_17 hf (fun v1 hf => ?_)
      refine lv_iload_n X.1.1 X.1.2.1 dX5_yearsUntilUp_20 rfl (lv_at hl 1 rfl) ?_
      obtain ⟨hk, hf⟩ := zck hf
      obtain ⟨q2, eq2, hf⟩ := Option.bind_eq_some_iff.mp hf
      refine zcV0 (As := [.int a2]) (rest := []) (v := (some (.int q2))) (h' := h) X G (rfl : vwCl[3]? = some (RX3, TX3, 12)) hk (m_X3_isUp l D dA b0 v1 a2 h q2 eq2) (cwV 1 X.1.2.2.2.2 gX5_yearsUntilUp_X3_isUp rfl rfl rfl hdV_X3_isUp ⟨(Nat.le_of_ble_eq_true rfl), (Nat.le_of_ble_eq_true rfl)⟩) rfl hl.1 rfl (Nat.le_of_ble_eq_true rfl) dX5_yearsUntilUp_21 ⟨Nat.zero_le _, Nat.zero_le _⟩ (fun H locs G => ?_)
      refine zif_eq (tgt := 29) X dX5_yearsUntilUp_24 (by decide) hf (fun hf => ?_) (fun hf => ?_)
      · refine lv_aload_n X.1.1 X.1.2.1 dX5_yearsUntilUp_29 rfl (lv_at hl 0 rfl) ?_
        refine zgetR (ci := 5) (k := 0) (C := RX5) (T := TX5) (N := 2) X G rfl inX5_yearsUntilUp_X5 (Nat.le_of_ble_eq_true rfl) flX5_yearsUntilUp_12 dX5_yearsUntilUp_30 hf (fun v3 hf => ?_)
        obtain ⟨hk, hf⟩ := zck hf
        obtain ⟨q4, eq4, hf⟩ := Option.bind_eq_some_iff.mp hf
        refine zcV0 (As := []) (rest := []) (v := (some (.int q4.1))) (h' := q4.2) X G (rfl : vwCl[3]? = some (RX3, TX3, 12)) hk (m_X3_passYear l D dA b0 v3 h q4 eq4) (cwV 0 X.1.2.2.2.2 gX5_yearsUntilUp_X3_passYear rfl rfl rfl hdV_X3_passYear ⟨(Nat.le_of_ble_eq_true rfl), (Nat.le_of_ble_eq_true rfl)⟩) rfl hl.1 rfl (Nat.le_of_ble_eq_true rfl) dX5_yearsUntilUp_33 ⟨Nat.zero_le _, Nat.zero_le _⟩ (fun H locs G => ?_)
        refine lv_pop X.1.1 X.1.2.1 dX5_yearsUntilUp_36 rfl ?_
        refine lv_iinc (v := (a3 + (1 : Int32))) (lv' := [(3, .int (a3 + (1 : Int32))), (0, .ref (b0 + r0)), (2, .int a2)]) X.1.1 X.1.2.1 dX5_yearsUntilUp_37 hl (k := 2) rfl rfl (by decide) rfl (fun ls hl => ?_)
        refine lv_goto (tgt := 10) X.1.1 X.1.2.1 dX5_yearsUntilUp_40 (by decide) ?_
        exact ih _ _ _ _ _ _ _ hf G (lv_sub hl [1, 2, 0] rfl)
      · refine lv_iload_n X.1.1 X.1.2.1 dX5_yearsUntilUp_27 rfl (lv_at hl 2 rfl) ?_
        exact zretI X hr hlk G hf dX5_yearsUntilUp_28
set_option maxHeartbeats 4000000 in
set_option maxRecDepth 100000 in
theorem m_X5_yearsUntilUp (l : Launch) (D : va_G) (dA : Nat → ClassId) (b0 : Nat) (r0 : Nat) (r1 : Nat) (a2 : Int32) (h : zH) (z : Int32 × zH) (hf : f_X5_yearsUntilUp r0 r1 a2 h = some z) : Met l yX5_yearsUntilUp wsX5_yearsUntilUp rmX5_yearsUntilUp (zPc D dA b0 [.ref (b0 + r0), .ref (b0 + r1), .int a2] h) (zQ D dA b0 (some (.int z.1)) z.2) 0 0 (zA b0) := by
  refine Met.ofW (cc := cX5_yearsUntilUp) (maxL := 4) (ret := (some .int)) (by decide) rfl ?_
  intro p e s m args below meth c s₁ B hml hv
  obtain ⟨rfl, hP, hz, hK, hN⟩ := hv
  have hr := B.returns
  have hlk := B.notSynchronized
  have X : zX p s m _ c cX5_yearsUntilUp 4 RX5 wsX5_yearsUntilUp D dA := ⟨⟨B.exec, B.bytes, hml, findClass_of_methodNamed B.named, atoms_spec (ws := wsX5_yearsUntilUp) B.pre⟩, hK, hN⟩
  have G : zG D dA b0 s.heap h s.heap [] := ⟨hP, hz, va_S.rf⟩
  have hl := lv_entry ([.ref (b0 + r0), .ref (b0 + r1), .int a2]) (n := 4) (Nat.le_of_ble_eq_true rfl)
  rw [lg_entry_eq]
  generalize (lg_sl ([.ref (b0 + r0), .ref (b0 + r1), .int a2]) ++ List.replicate (4 - (lg_sl ([.ref (b0 + r0), .ref (b0 + r1), .int a2])).length) Slot.unset).toArray = ls at hl ⊢
  have hl : lv_has ls 4 [(0, .ref (b0 + r0)), (1, .ref (b0 + r1)), (2, .int a2)] := hl
  unfold f_X5_yearsUntilUp at hf
  refine lv_aload_n X.1.1 X.1.2.1 dX5_yearsUntilUp_0 rfl (lv_at hl 0 rfl) ?_
  refine zgetR (ci := 5) (k := 0) (C := RX5) (T := TX5) (N := 2) X G rfl inX5_yearsUntilUp_X5 (Nat.le_of_ble_eq_true rfl) flX5_yearsUntilUp_12 dX5_yearsUntilUp_1 hf (fun v1 hf => ?_)
  refine lv_aload_n X.1.1 X.1.2.1 dX5_yearsUntilUp_4 rfl (lv_at hl 1 rfl) ?_
  obtain ⟨hk, hf⟩ := zck hf
  obtain ⟨q2, eq2, hf⟩ := Option.bind_eq_some_iff.mp hf
  refine zcV0 (As := [.ref (b0 + r1)]) (rest := []) (v := none) (h' := q2) X G (rfl : vwCl[3]? = some (RX3, TX3, 12)) hk (m_X3_become l D dA b0 v1 r1 h q2 eq2) (cwV 1 X.1.2.2.2.2 gX5_yearsUntilUp_X3_become rfl rfl rfl hdV_X3_become ⟨(Nat.le_of_ble_eq_true rfl), (Nat.le_of_ble_eq_true rfl)⟩) rfl hl.1 rfl (Nat.le_of_ble_eq_true rfl) dX5_yearsUntilUp_5 ⟨Nat.zero_le _, Nat.zero_le _⟩ (fun H locs G => ?_)
  refine lv_iconst (v := 0) X.1.1 X.1.2.1 dX5_yearsUntilUp_8 (by decide) ?_
  refine lv_istore_n (lv' := [(3, .int (0 : Int32)), (0, .ref (b0 + r0)), (1, .ref (b0 + r1)), (2, .int a2)]) X.1.1 X.1.2.1 dX5_yearsUntilUp_9 rfl hl (by decide) rfl (fun ls hl => ?_)
  exact w_X5_yearsUntilUp_b10 X hr hlk _ _ _ _ _ _ _ _ hf G (lv_sub hl [1, 3, 0] rfl)
/-! X7_leastOf -/
abbrev rmX7_leastOf : Room := { frames := 0, cells := 0, slots := 0, locals := 0 }
theorem hdS_X7_leastOf : yX7_leastOf.cls ≠ "java/lang/invoke/MethodHandle" ∧ yX7_leastOf.cls ≠ "java/lang/invoke/VarHandle" ∧ (parseMethodDescriptor yX7_leastOf.desc).map (fun d => d.parameters.length) = some 1 := by decide +kernel
theorem coX7_leastOf_224 : Cond.constant RX7 224 (-1000000) ∈ wsX7_leastOf := by decide +kernel
set_option maxHeartbeats 4000000 in
set_option maxRecDepth 100000 in
theorem w_X7_leastOf_b2 {p : Program} {l : Launch} {e : Env} {s : State} {m : MethodId} {args : Array Value} {below : List Frame} {meth : Method} {c : Code} {D : va_G} {dA : Nat → ClassId} {b0 : Nat} {h : zH} (X : zX p s m args c cX7_leastOf 2 RX7 wsX7_leastOf D dA) (hr : meth.sig.returnType = (some .int)) (hlk : meth.locks = false) {z : Int32} : ∀ (n : Nat), ∀ (a0 : Int32) (a1 : Int32) (H : Heap) (locs : List Loc) (ls : Array Slot), f_X7_leastOf_b2 h n a0 a1 = some z → zG D dA b0 s.heap h H locs → lv_has ls 2 [(0, .int a0), (1, .int a1)] → W p l e rmX7_leastOf s m args below meth c H locs 0 0 (MQ below (zQ D dA b0 (some (.int z)) h) args s 0 0 (zA b0)) (F0 m 2 ls []) := by
  intro n
  induction n with
  | zero =>
    intro a0 a1 H locs ls hf
    cases hf
  | succ n ih =>
    intro a0 a1 H locs ls hf G hl
    rw [f_X7_leastOf_b2] at hf
    refine lv_iload_n X.1.1 X.1.2.1 dX7_leastOf_2 rfl (lv_at hl 1 rfl) ?_
    refine lv_iconst (v := 5) X.1.1 X.1.2.1 dX7_leastOf_3 (by decide) ?_
    refine zic_ge (tgt := 24) X dX7_leastOf_4 (by decide) hf (fun hf => ?_) (fun hf => ?_)
    · refine lv_ldc (v := -1000000) X.1.1 X.1.2.1 X.1.2.2.2.1 (X.1.2.2.2.2 _ coX7_leastOf_224) dX7_leastOf_24 ?_
      exact zretIr X hr hlk G hf dX7_leastOf_26
    · refine lv_iload_n X.1.1 X.1.2.1 dX7_leastOf_7 rfl (lv_at hl 0 rfl) ?_
      refine lv_iload_n X.1.1 X.1.2.1 dX7_leastOf_8 rfl (lv_at hl 1 rfl) ?_
      refine lv_ishr X.1.1 X.1.2.1 dX7_leastOf_9 ?_
      refine lv_iconst (v := 1) X.1.1 X.1.2.1 dX7_leastOf_10 (by decide) ?_
      refine lv_iand X.1.1 X.1.2.1 dX7_leastOf_11 ?_
      refine lv_iconst (v := 1) X.1.1 X.1.2.1 dX7_leastOf_12 (by decide) ?_
      refine zic_ne (tgt := 18) X dX7_leastOf_13 (by decide) hf (fun hf => ?_) (fun hf => ?_)
      · refine lv_iinc (v := (a1 + (1 : Int32))) (lv' := [(1, .int (a1 + (1 : Int32))), (0, .int a0)]) X.1.1 X.1.2.1 dX7_leastOf_18 hl (k := 1) rfl rfl (by decide) rfl (fun ls hl => ?_)
        refine lv_goto (tgt := 2) X.1.1 X.1.2.1 dX7_leastOf_21 (by decide) ?_
        exact ih _ _ _ _ _ hf G (lv_sub hl [1, 0] rfl)
      · refine lv_iload_n X.1.1 X.1.2.1 dX7_leastOf_16 rfl (lv_at hl 1 rfl) ?_
        exact zretIr X hr hlk G hf dX7_leastOf_17
set_option maxHeartbeats 4000000 in
set_option maxRecDepth 100000 in
theorem m_X7_leastOf (l : Launch) (D : va_G) (dA : Nat → ClassId) (b0 : Nat) (a0 : Int32) (h : zH) (z : Int32) (hf : f_X7_leastOf a0 h = some z) : Met l yX7_leastOf wsX7_leastOf rmX7_leastOf (zPc D dA b0 [.int a0] h) (zQ D dA b0 (some (.int z)) h) 0 0 (zA b0) := by
  refine Met.ofW (cc := cX7_leastOf) (maxL := 2) (ret := (some .int)) (by decide) rfl ?_
  intro p e s m args below meth c s₁ B hml hv
  obtain ⟨rfl, hP, hz, hK, hN⟩ := hv
  have hr := B.returns
  have hlk := B.notSynchronized
  have X : zX p s m _ c cX7_leastOf 2 RX7 wsX7_leastOf D dA := ⟨⟨B.exec, B.bytes, hml, findClass_of_methodNamed B.named, atoms_spec (ws := wsX7_leastOf) B.pre⟩, hK, hN⟩
  have G : zG D dA b0 s.heap h s.heap [] := ⟨hP, hz, va_S.rf⟩
  have hl := lv_entry ([.int a0]) (n := 2) (Nat.le_of_ble_eq_true rfl)
  rw [lg_entry_eq]
  generalize (lg_sl ([.int a0]) ++ List.replicate (2 - (lg_sl ([.int a0])).length) Slot.unset).toArray = ls at hl ⊢
  have hl : lv_has ls 2 [(0, .int a0)] := hl
  unfold f_X7_leastOf at hf
  refine lv_iconst (v := 0) X.1.1 X.1.2.1 dX7_leastOf_0 (by decide) ?_
  refine lv_istore_n (lv' := [(1, .int (0 : Int32)), (0, .int a0)]) X.1.1 X.1.2.1 dX7_leastOf_1 rfl hl (by decide) rfl (fun ls hl => ?_)
  exact w_X7_leastOf_b2 X hr hlk _ _ _ _ _ _ hf G (lv_sub hl [1, 0] rfl)
/-! X5_firstUp -/
abbrev rmX5_firstUp : Room := { frames := 3, cells := 0, slots := 0, locals := 83 }
theorem hdV_X5_firstUp : yX5_firstUp.cls = RX5 ∧ yX5_firstUp.cls ≠ "java/lang/invoke/MethodHandle" ∧ yX5_firstUp.cls ≠ "java/lang/invoke/VarHandle" ∧ (parseMethodDescriptor yX5_firstUp.desc).map (fun d => d.parameters.length) = some 2 := by decide +kernel
theorem coX5_firstUp_38 : Cond.constant RX5 38 (-1000000) ∈ wsX5_firstUp := by decide +kernel
theorem inX5_firstUp_X5 : ∀ w ∈ wsX50, w ∈ wsX5_firstUp := by decide +kernel
theorem flX5_firstUp_12 : Cond.fieldLink RX5 12 (TX5 0).1 (TX5 0).2.1 (TX5 0).2.2.1 ∈ wsX5_firstUp := by decide +kernel
theorem wdX5_firstUp_st_X7_leastOf : Cond.static yX7_leastOf ∈ wsX5_firstUp := by decide +kernel
theorem wdX5_firstUp_ini_X7 : Cond.initialized RX7 ∈ wsX5_firstUp := by decide +kernel
set_option maxHeartbeats 4000000 in
set_option maxRecDepth 100000 in
theorem w_X5_firstUp_b16 {p : Program} {l : Launch} {e : Env} {s : State} {m : MethodId} {args : Array Value} {below : List Frame} {meth : Method} {c : Code} {D : va_G} {dA : Nat → ClassId} {b0 : Nat} (X : zX p s m args c cX5_firstUp 6 RX5 wsX5_firstUp D dA) (hr : meth.sig.returnType = (some .int)) (hlk : meth.locks = false) {z : Int32 × zH} : ∀ (n : Nat), ∀ (r0 : Nat) (a2 : Int32) (a3 : Int32) (a4 : Int32) (h : zH) (H : Heap) (locs : List Loc) (ls : Array Slot), f_X5_firstUp_b16 n r0 a2 a3 a4 h = some z → zG D dA b0 s.heap h H locs → lv_has ls 6 [(0, .ref (b0 + r0)), (2, .int a2), (3, .int a3), (4, .int a4)] → W p l e rmX5_firstUp s m args below meth c H locs 0 0 (MQ below (zQ D dA b0 (some (.int z.1)) z.2) args s 0 0 (zA b0)) (F0 m 16 ls []) := by
  intro n
  induction n with
  | zero =>
    intro r0 a2 a3 a4 h H locs ls hf
    cases hf
  | succ n ih =>
    intro r0 a2 a3 a4 h H locs ls hf G hl
    rw [f_X5_firstUp_b16] at hf
    refine lv_iload X.1.1 X.1.2.1 dX5_firstUp_16 (lv_at hl 3 rfl) ?_
    refine lv_bipush (v := 99) X.1.1 X.1.2.1 dX5_firstUp_18 (by decide) ?_
    refine zic_gt (tgt := 70) X dX5_firstUp_20 (by decide) hf (fun hf => ?_) (fun hf => ?_)
    · refine lv_ldc (v := -1000000) X.1.1 X.1.2.1 X.1.2.2.2.1 (X.1.2.2.2.2 _ coX5_firstUp_38) dX5_firstUp_70 ?_
      exact zretI X hr hlk G hf dX5_firstUp_72
    · refine lv_aload_n X.1.1 X.1.2.1 dX5_firstUp_23 rfl (lv_at hl 0 rfl) ?_
      refine zgetR (ci := 5) (k := 0) (C := RX5) (T := TX5) (N := 2) X G rfl inX5_firstUp_X5 (Nat.le_of_ble_eq_true rfl) flX5_firstUp_12 dX5_firstUp_24 hf (fun v1 hf => ?_)
      obtain ⟨hk, hf⟩ := zck hf
      obtain ⟨q2, eq2, hf⟩ := Option.bind_eq_some_iff.mp hf
      refine zcV0 (As := []) (rest := []) (v := (some (.int q2.1))) (h' := q2.2) X G (rfl : vwCl[3]? = some (RX3, TX3, 12)) hk (m_X3_passYear l D dA b0 v1 h q2 eq2) (cwV 0 X.1.2.2.2.2 gX5_firstUp_X3_passYear rfl rfl rfl hdV_X3_passYear ⟨(Nat.le_of_ble_eq_true rfl), (Nat.le_of_ble_eq_true rfl)⟩) rfl hl.1 rfl (Nat.le_of_ble_eq_true rfl) dX5_firstUp_27 ⟨Nat.zero_le _, Nat.zero_le _⟩ (fun H locs G => ?_)
      refine lv_pop X.1.1 X.1.2.1 dX5_firstUp_30 rfl ?_
      refine lv_aload_n X.1.1 X.1.2.1 dX5_firstUp_31 rfl (lv_at hl 0 rfl) ?_
      refine zgetR (ci := 5) (k := 0) (C := RX5) (T := TX5) (N := 2) X G rfl inX5_firstUp_X5 (Nat.le_of_ble_eq_true rfl) flX5_firstUp_12 dX5_firstUp_32 hf (fun v3 hf => ?_)
      obtain ⟨hk, hf⟩ := zck hf
      obtain ⟨q4, eq4, hf⟩ := Option.bind_eq_some_iff.mp hf
      refine zcV0 (As := []) (rest := []) (v := (some (.int q4))) (h' := q2.2) X G (rfl : vwCl[3]? = some (RX3, TX3, 12)) hk (m_X3_allUp l D dA b0 v3 q2.2 q4 eq4) (cwV 0 X.1.2.2.2.2 gX5_firstUp_X3_allUp rfl rfl rfl hdV_X3_allUp ⟨(Nat.le_of_ble_eq_true rfl), (Nat.le_of_ble_eq_true rfl)⟩) rfl hl.1 rfl (Nat.le_of_ble_eq_true rfl) dX5_firstUp_35 ⟨Nat.zero_le _, Nat.zero_le _⟩ (fun H locs G => ?_)
      refine lv_iload_n X.1.1 X.1.2.1 dX5_firstUp_38 rfl (lv_at hl 2 rfl) ?_
      refine lv_iconst (v := -1) X.1.1 X.1.2.1 dX5_firstUp_39 (by decide) ?_
      refine lv_ixor X.1.1 X.1.2.1 dX5_firstUp_40 ?_
      refine lv_iand X.1.1 X.1.2.1 dX5_firstUp_41 ?_
      refine zleti hf (fun x5 hf => ?_)
      refine lv_istore (lv' := [(5, .int x5), (0, .ref (b0 + r0)), (2, .int a2), (3, .int a3), (4, .int a4)]) X.1.1 X.1.2.1 dX5_firstUp_42 hl (by decide) rfl (fun ls hl => ?_)
      refine lv_iload X.1.1 X.1.2.1 dX5_firstUp_44 (lv_at hl 0 rfl) ?_
      refine zif_eq (tgt := 64) X dX5_firstUp_46 (by decide) hf (fun hf => ?_) (fun hf => ?_)
      · refine lv_iinc (v := (a4 + (1 : Int32))) (lv' := [(4, .int (a4 + (1 : Int32))), (5, .int x5), (0, .ref (b0 + r0)), (2, .int a2), (3, .int a3)]) X.1.1 X.1.2.1 dX5_firstUp_64 hl (k := 4) rfl rfl (by decide) rfl (fun ls hl => ?_)
        refine lv_goto (tgt := 16) X.1.1 X.1.2.1 dX5_firstUp_67 (by decide) ?_
        exact ih _ _ _ _ _ _ _ _ hf G (lv_sub hl [2, 3, 4, 0] rfl)
      · refine lv_iload_n X.1.1 X.1.2.1 dX5_firstUp_49 rfl (lv_at hl 2 rfl) ?_
        refine zif_eq (tgt := 61) X dX5_firstUp_50 (by decide) hf (fun hf => ?_) (fun hf => ?_)
        · refine lv_iload X.1.1 X.1.2.1 dX5_firstUp_61 (lv_at hl 4 rfl) ?_
          exact zretI X hr hlk G hf dX5_firstUp_63
        · refine lv_iload X.1.1 X.1.2.1 dX5_firstUp_53 (lv_at hl 0 rfl) ?_
          obtain ⟨q6, eq6, hf⟩ := Option.bind_eq_some_iff.mp hf
          refine zcSN0 (As := [.int x5]) (rest := []) (v := (some (.int q6))) (h' := q2.2) X G (m_X7_leastOf l D dA b0 x5 q2.2 q6 eq6) ⟨va_cnB 1 X.1.2.2.2.2 gX5_firstUp_X7_leastOf_n43 rfl rfl rfl (X.2.2.1 _ (List.mem_of_getElem? (i := 8) rfl)) (X.1.2.2.2.2 _ wdX5_firstUp_ini_X7) hdS_X7_leastOf ⟨(Nat.le_of_ble_eq_true rfl), (Nat.le_of_ble_eq_true rfl)⟩, X.1.2.2.2.2 _ wdX5_firstUp_st_X7_leastOf, trivial⟩ rfl hl.1 rfl (Nat.le_of_ble_eq_true rfl) dX5_firstUp_55 ⟨Nat.zero_le _, Nat.zero_le _⟩ (fun H locs G => ?_)
          refine lv_goto (tgt := 63) X.1.1 X.1.2.1 dX5_firstUp_58 (by decide) ?_
          exact zretI X hr hlk G hf dX5_firstUp_63
set_option maxHeartbeats 4000000 in
set_option maxRecDepth 100000 in
theorem m_X5_firstUp (l : Launch) (D : va_G) (dA : Nat → ClassId) (b0 : Nat) (r0 : Nat) (r1 : Nat) (a2 : Int32) (h : zH) (z : Int32 × zH) (hf : f_X5_firstUp r0 r1 a2 h = some z) : Met l yX5_firstUp wsX5_firstUp rmX5_firstUp (zPc D dA b0 [.ref (b0 + r0), .ref (b0 + r1), .int a2] h) (zQ D dA b0 (some (.int z.1)) z.2) 0 0 (zA b0) := by
  refine Met.ofW (cc := cX5_firstUp) (maxL := 6) (ret := (some .int)) (by decide) rfl ?_
  intro p e s m args below meth c s₁ B hml hv
  obtain ⟨rfl, hP, hz, hK, hN⟩ := hv
  have hr := B.returns
  have hlk := B.notSynchronized
  have X : zX p s m _ c cX5_firstUp 6 RX5 wsX5_firstUp D dA := ⟨⟨B.exec, B.bytes, hml, findClass_of_methodNamed B.named, atoms_spec (ws := wsX5_firstUp) B.pre⟩, hK, hN⟩
  have G : zG D dA b0 s.heap h s.heap [] := ⟨hP, hz, va_S.rf⟩
  have hl := lv_entry ([.ref (b0 + r0), .ref (b0 + r1), .int a2]) (n := 6) (Nat.le_of_ble_eq_true rfl)
  rw [lg_entry_eq]
  generalize (lg_sl ([.ref (b0 + r0), .ref (b0 + r1), .int a2]) ++ List.replicate (6 - (lg_sl ([.ref (b0 + r0), .ref (b0 + r1), .int a2])).length) Slot.unset).toArray = ls at hl ⊢
  have hl : lv_has ls 6 [(0, .ref (b0 + r0)), (1, .ref (b0 + r1)), (2, .int a2)] := hl
  unfold f_X5_firstUp at hf
  refine lv_aload_n X.1.1 X.1.2.1 dX5_firstUp_0 rfl (lv_at hl 1 rfl) ?_
  obtain ⟨hk, hf⟩ := zck hf
  obtain ⟨q1, eq1, hf⟩ := Option.bind_eq_some_iff.mp hf
  refine zcV0 (As := []) (rest := []) (v := (some (.int q1))) (h' := h) X G (rfl : vwCl[3]? = some (RX3, TX3, 12)) hk (m_X3_allUp l D dA b0 r1 h q1 eq1) (cwV 0 X.1.2.2.2.2 gX5_firstUp_X3_allUp rfl rfl rfl hdV_X3_allUp ⟨(Nat.le_of_ble_eq_true rfl), (Nat.le_of_ble_eq_true rfl)⟩) rfl hl.1 rfl (Nat.le_of_ble_eq_true rfl) dX5_firstUp_1 ⟨Nat.zero_le _, Nat.zero_le _⟩ (fun H locs G => ?_)
  refine lv_istore_n (lv' := [(3, .int q1), (0, .ref (b0 + r0)), (1, .ref (b0 + r1)), (2, .int a2)]) X.1.1 X.1.2.1 dX5_firstUp_4 rfl hl (by decide) rfl (fun ls hl => ?_)
  refine lv_aload_n X.1.1 X.1.2.1 dX5_firstUp_5 rfl (lv_at hl 1 rfl) ?_
  refine zgetR (ci := 5) (k := 0) (C := RX5) (T := TX5) (N := 2) X G rfl inX5_firstUp_X5 (Nat.le_of_ble_eq_true rfl) flX5_firstUp_12 dX5_firstUp_6 hf (fun v2 hf => ?_)
  refine lv_aload_n X.1.1 X.1.2.1 dX5_firstUp_9 rfl (lv_at hl 2 rfl) ?_
  obtain ⟨hk, hf⟩ := zck hf
  obtain ⟨q3, eq3, hf⟩ := Option.bind_eq_some_iff.mp hf
  refine zcV0 (As := [.ref (b0 + r1)]) (rest := []) (v := none) (h' := q3) X G (rfl : vwCl[3]? = some (RX3, TX3, 12)) hk (m_X3_become l D dA b0 v2 r1 h q3 eq3) (cwV 1 X.1.2.2.2.2 gX5_firstUp_X3_become rfl rfl rfl hdV_X3_become ⟨(Nat.le_of_ble_eq_true rfl), (Nat.le_of_ble_eq_true rfl)⟩) rfl hl.1 rfl (Nat.le_of_ble_eq_true rfl) dX5_firstUp_10 ⟨Nat.zero_le _, Nat.zero_le _⟩ (fun H locs G => ?_)
  refine lv_iconst (v := 1) X.1.1 X.1.2.1 dX5_firstUp_13 (by decide) ?_
  refine lv_istore (lv' := [(4, .int (1 : Int32)), (3, .int q1), (0, .ref (b0 + r0)), (1, .ref (b0 + r1)), (2, .int a2)]) X.1.1 X.1.2.1 dX5_firstUp_14 hl (by decide) rfl (fun ls hl => ?_)
  exact w_X5_firstUp_b16 X hr hlk _ _ _ _ _ _ _ _ _ hf G (lv_sub hl [2, 4, 1, 0] rfl)
/-! X5_firstTrouble -/
abbrev rmX5_firstTrouble : Room := { frames := 3, cells := 0, slots := 0, locals := 84 }
theorem hdV_X5_firstTrouble : yX5_firstTrouble.cls = RX5 ∧ yX5_firstTrouble.cls ≠ "java/lang/invoke/MethodHandle" ∧ yX5_firstTrouble.cls ≠ "java/lang/invoke/VarHandle" ∧ (parseMethodDescriptor yX5_firstTrouble.desc).map (fun d => d.parameters.length) = some 2 := by decide +kernel
theorem coX5_firstTrouble_38 : Cond.constant RX5 38 (-1000000) ∈ wsX5_firstTrouble := by decide +kernel
theorem inX5_firstTrouble_X5 : ∀ w ∈ wsX50, w ∈ wsX5_firstTrouble := by decide +kernel
theorem flX5_firstTrouble_12 : Cond.fieldLink RX5 12 (TX5 0).1 (TX5 0).2.1 (TX5 0).2.2.1 ∈ wsX5_firstTrouble := by decide +kernel
set_option maxHeartbeats 4000000 in
set_option maxRecDepth 100000 in
theorem w_X5_firstTrouble_b10 {p : Program} {l : Launch} {e : Env} {s : State} {m : MethodId} {args : Array Value} {below : List Frame} {meth : Method} {c : Code} {D : va_G} {dA : Nat → ClassId} {b0 : Nat} (X : zX p s m args c cX5_firstTrouble 5 RX5 wsX5_firstTrouble D dA) (hr : meth.sig.returnType = (some .int)) (hlk : meth.locks = false) {z : Int32 × zH} : ∀ (n : Nat), ∀ (r0 : Nat) (a2 : Int32) (a3 : Int32) (h : zH) (H : Heap) (locs : List Loc) (ls : Array Slot), f_X5_firstTrouble_b10 n r0 a2 a3 h = some z → zG D dA b0 s.heap h H locs → lv_has ls 5 [(0, .ref (b0 + r0)), (2, .int a2), (3, .int a3)] → W p l e rmX5_firstTrouble s m args below meth c H locs 0 0 (MQ below (zQ D dA b0 (some (.int z.1)) z.2) args s 0 0 (zA b0)) (F0 m 10 ls []) := by
  intro n
  induction n with
  | zero =>
    intro r0 a2 a3 h H locs ls hf
    cases hf
  | succ n ih =>
    intro r0 a2 a3 h H locs ls hf G hl
    rw [f_X5_firstTrouble_b10] at hf
    refine lv_iload_n X.1.1 X.1.2.1 dX5_firstTrouble_10 rfl (lv_at hl 2 rfl) ?_
    refine lv_bipush (v := 99) X.1.1 X.1.2.1 dX5_firstTrouble_11 (by decide) ?_
    refine zic_gt (tgt := 57) X dX5_firstTrouble_13 (by decide) hf (fun hf => ?_) (fun hf => ?_)
    · refine lv_ldc (v := -1000000) X.1.1 X.1.2.1 X.1.2.2.2.1 (X.1.2.2.2.2 _ coX5_firstTrouble_38) dX5_firstTrouble_57 ?_
      exact zretI X hr hlk G hf dX5_firstTrouble_59
    · refine lv_aload_n X.1.1 X.1.2.1 dX5_firstTrouble_16 rfl (lv_at hl 0 rfl) ?_
      refine zgetR (ci := 5) (k := 0) (C := RX5) (T := TX5) (N := 2) X G rfl inX5_firstTrouble_X5 (Nat.le_of_ble_eq_true rfl) flX5_firstTrouble_12 dX5_firstTrouble_17 hf (fun v1 hf => ?_)
      obtain ⟨hk, hf⟩ := zck hf
      obtain ⟨q2, eq2, hf⟩ := Option.bind_eq_some_iff.mp hf
      refine zcV0 (As := []) (rest := []) (v := (some (.int q2))) (h' := h) X G (rfl : vwCl[3]? = some (RX3, TX3, 12)) hk (m_X3_firstTooNear l D dA b0 v1 h q2 eq2) (cwV 0 X.1.2.2.2.2 gX5_firstTrouble_X3_firstTooNear rfl rfl rfl hdV_X3_firstTooNear ⟨(Nat.le_of_ble_eq_true rfl), (Nat.le_of_ble_eq_true rfl)⟩) rfl hl.1 rfl (Nat.le_of_ble_eq_true rfl) dX5_firstTrouble_20 ⟨Nat.zero_le _, Nat.zero_le _⟩ (fun H locs G => ?_)
      refine lv_istore (lv' := [(4, .int q2), (0, .ref (b0 + r0)), (2, .int a2), (3, .int a3)]) X.1.1 X.1.2.1 dX5_firstTrouble_23 hl (by decide) rfl (fun ls hl => ?_)
      refine lv_iload X.1.1 X.1.2.1 dX5_firstTrouble_25 (lv_at hl 0 rfl) ?_
      refine lv_ldc (v := -1000000) X.1.1 X.1.2.1 X.1.2.2.2.1 (X.1.2.2.2.2 _ coX5_firstTrouble_38) dX5_firstTrouble_27 ?_
      refine zic_eq (tgt := 43) X dX5_firstTrouble_29 (by decide) hf (fun hf => ?_) (fun hf => ?_)
      · refine lv_aload_n X.1.1 X.1.2.1 dX5_firstTrouble_43 rfl (lv_at hl 1 rfl) ?_
        refine zgetR (ci := 5) (k := 0) (C := RX5) (T := TX5) (N := 2) X G rfl inX5_firstTrouble_X5 (Nat.le_of_ble_eq_true rfl) flX5_firstTrouble_12 dX5_firstTrouble_44 hf (fun v3 hf => ?_)
        obtain ⟨hk, hf⟩ := zck hf
        obtain ⟨q4, eq4, hf⟩ := Option.bind_eq_some_iff.mp hf
        refine zcV0 (As := []) (rest := []) (v := (some (.int q4.1))) (h' := q4.2) X G (rfl : vwCl[3]? = some (RX3, TX3, 12)) hk (m_X3_passYear l D dA b0 v3 h q4 eq4) (cwV 0 X.1.2.2.2.2 gX5_firstTrouble_X3_passYear rfl rfl rfl hdV_X3_passYear ⟨(Nat.le_of_ble_eq_true rfl), (Nat.le_of_ble_eq_true rfl)⟩) rfl hl.1 rfl (Nat.le_of_ble_eq_true rfl) dX5_firstTrouble_47 ⟨Nat.zero_le _, Nat.zero_le _⟩ (fun H locs G => ?_)
        refine lv_pop X.1.1 X.1.2.1 dX5_firstTrouble_50 rfl ?_
        refine lv_iinc (v := (a3 + (1 : Int32))) (lv' := [(3, .int (a3 + (1 : Int32))), (4, .int q2), (0, .ref (b0 + r0)), (2, .int a2)]) X.1.1 X.1.2.1 dX5_firstTrouble_51 hl (k := 3) rfl rfl (by decide) rfl (fun ls hl => ?_)
        refine lv_goto (tgt := 10) X.1.1 X.1.2.1 dX5_firstTrouble_54 (by decide) ?_
        exact ih _ _ _ _ _ _ _ hf G (lv_sub hl [2, 3, 0] rfl)
      · refine lv_iload_n X.1.1 X.1.2.1 dX5_firstTrouble_32 rfl (lv_at hl 2 rfl) ?_
        refine zif_eq (tgt := 40) X dX5_firstTrouble_33 (by decide) hf (fun hf => ?_) (fun hf => ?_)
        · refine lv_iload X.1.1 X.1.2.1 dX5_firstTrouble_40 (lv_at hl 0 rfl) ?_
          exact zretI X hr hlk G hf dX5_firstTrouble_42
        · refine lv_iload_n X.1.1 X.1.2.1 dX5_firstTrouble_36 rfl (lv_at hl 3 rfl) ?_
          refine lv_goto (tgt := 42) X.1.1 X.1.2.1 dX5_firstTrouble_37 (by decide) ?_
          exact zretI X hr hlk G hf dX5_firstTrouble_42
set_option maxHeartbeats 4000000 in
set_option maxRecDepth 100000 in
theorem m_X5_firstTrouble (l : Launch) (D : va_G) (dA : Nat → ClassId) (b0 : Nat) (r0 : Nat) (r1 : Nat) (a2 : Int32) (h : zH) (z : Int32 × zH) (hf : f_X5_firstTrouble r0 r1 a2 h = some z) : Met l yX5_firstTrouble wsX5_firstTrouble rmX5_firstTrouble (zPc D dA b0 [.ref (b0 + r0), .ref (b0 + r1), .int a2] h) (zQ D dA b0 (some (.int z.1)) z.2) 0 0 (zA b0) := by
  refine Met.ofW (cc := cX5_firstTrouble) (maxL := 5) (ret := (some .int)) (by decide) rfl ?_
  intro p e s m args below meth c s₁ B hml hv
  obtain ⟨rfl, hP, hz, hK, hN⟩ := hv
  have hr := B.returns
  have hlk := B.notSynchronized
  have X : zX p s m _ c cX5_firstTrouble 5 RX5 wsX5_firstTrouble D dA := ⟨⟨B.exec, B.bytes, hml, findClass_of_methodNamed B.named, atoms_spec (ws := wsX5_firstTrouble) B.pre⟩, hK, hN⟩
  have G : zG D dA b0 s.heap h s.heap [] := ⟨hP, hz, va_S.rf⟩
  have hl := lv_entry ([.ref (b0 + r0), .ref (b0 + r1), .int a2]) (n := 5) (Nat.le_of_ble_eq_true rfl)
  rw [lg_entry_eq]
  generalize (lg_sl ([.ref (b0 + r0), .ref (b0 + r1), .int a2]) ++ List.replicate (5 - (lg_sl ([.ref (b0 + r0), .ref (b0 + r1), .int a2])).length) Slot.unset).toArray = ls at hl ⊢
  have hl : lv_has ls 5 [(0, .ref (b0 + r0)), (1, .ref (b0 + r1)), (2, .int a2)] := hl
  unfold f_X5_firstTrouble at hf
  refine lv_aload_n X.1.1 X.1.2.1 dX5_firstTrouble_0 rfl (lv_at hl 0 rfl) ?_
  refine zgetR (ci := 5) (k := 0) (C := RX5) (T := TX5) (N := 2) X G rfl inX5_firstTrouble_X5 (Nat.le_of_ble_eq_true rfl) flX5_firstTrouble_12 dX5_firstTrouble_1 hf (fun v1 hf => ?_)
  refine lv_aload_n X.1.1 X.1.2.1 dX5_firstTrouble_4 rfl (lv_at hl 1 rfl) ?_
  obtain ⟨hk, hf⟩ := zck hf
  obtain ⟨q2, eq2, hf⟩ := Option.bind_eq_some_iff.mp hf
  refine zcV0 (As := [.ref (b0 + r1)]) (rest := []) (v := none) (h' := q2) X G (rfl : vwCl[3]? = some (RX3, TX3, 12)) hk (m_X3_become l D dA b0 v1 r1 h q2 eq2) (cwV 1 X.1.2.2.2.2 gX5_firstTrouble_X3_become rfl rfl rfl hdV_X3_become ⟨(Nat.le_of_ble_eq_true rfl), (Nat.le_of_ble_eq_true rfl)⟩) rfl hl.1 rfl (Nat.le_of_ble_eq_true rfl) dX5_firstTrouble_5 ⟨Nat.zero_le _, Nat.zero_le _⟩ (fun H locs G => ?_)
  refine lv_iconst (v := 0) X.1.1 X.1.2.1 dX5_firstTrouble_8 (by decide) ?_
  refine lv_istore_n (lv' := [(3, .int (0 : Int32)), (0, .ref (b0 + r0)), (1, .ref (b0 + r1)), (2, .int a2)]) X.1.1 X.1.2.1 dX5_firstTrouble_9 rfl hl (by decide) rfl (fun ls hl => ?_)
  exact w_X5_firstTrouble_b10 X hr hlk _ _ _ _ _ _ _ _ hf G (lv_sub hl [1, 3, 0] rfl)
/-! X5_leastDepth -/
abbrev rmX5_leastDepth : Room := { frames := 4, cells := 0, slots := 0, locals := 105 }
theorem hdV_X5_leastDepth : yX5_leastDepth.cls = RX5 ∧ yX5_leastDepth.cls ≠ "java/lang/invoke/MethodHandle" ∧ yX5_leastDepth.cls ≠ "java/lang/invoke/VarHandle" ∧ (parseMethodDescriptor yX5_leastDepth.desc).map (fun d => d.parameters.length) = some 3 := by decide +kernel
theorem coX5_leastDepth_38 : Cond.constant RX5 38 (-1000000) ∈ wsX5_leastDepth := by decide +kernel
theorem inX5_leastDepth_X5 : ∀ w ∈ wsX50, w ∈ wsX5_leastDepth := by decide +kernel
theorem flX5_leastDepth_12 : Cond.fieldLink RX5 12 (TX5 0).1 (TX5 0).2.1 (TX5 0).2.2.1 ∈ wsX5_leastDepth := by decide +kernel
theorem inX5_leastDepth_X3 : ∀ w ∈ wsX30, w ∈ wsX5_leastDepth := by decide +kernel
theorem flX5_leastDepth_50 : Cond.fieldLink RX5 50 (TX3 7).1 (TX3 7).2.1 (TX3 7).2.2.1 ∈ wsX5_leastDepth := by decide +kernel
set_option maxHeartbeats 4000000 in
set_option maxRecDepth 100000 in
theorem w_X5_leastDepth_b3 {p : Program} {l : Launch} {e : Env} {s : State} {m : MethodId} {args : Array Value} {below : List Frame} {meth : Method} {c : Code} {D : va_G} {dA : Nat → ClassId} {b0 : Nat} (X : zX p s m args c cX5_leastDepth 5 RX5 wsX5_leastDepth D dA) (hr : meth.sig.returnType = (some .int)) (hlk : meth.locks = false) {z : Int32 × zH} : ∀ (n : Nat), ∀ (r0 : Nat) (r1 : Nat) (a2 : Int32) (a3 : Int32) (a4 : Int32) (h : zH) (H : Heap) (locs : List Loc) (ls : Array Slot), f_X5_leastDepth_b3 n r0 r1 a2 a3 a4 h = some z → zG D dA b0 s.heap h H locs → lv_has ls 5 [(0, .ref (b0 + r0)), (1, .ref (b0 + r1)), (2, .int a2), (3, .int a3), (4, .int a4)] → W p l e rmX5_leastDepth s m args below meth c H locs 0 0 (MQ below (zQ D dA b0 (some (.int z.1)) z.2) args s 0 0 (zA b0)) (F0 m 3 ls []) := by
  intro n
  induction n with
  | zero =>
    intro r0 r1 a2 a3 a4 h H locs ls hf
    cases hf
  | succ n ih =>
    intro r0 r1 a2 a3 a4 h H locs ls hf G hl
    rw [f_X5_leastDepth_b3] at hf
    refine lv_iload X.1.1 X.1.2.1 dX5_leastDepth_3 (lv_at hl 4 rfl) ?_
    refine lv_bipush (v := 40) X.1.1 X.1.2.1 dX5_leastDepth_5 (by decide) ?_
    refine zic_gt (tgt := 54) X dX5_leastDepth_7 (by decide) hf (fun hf => ?_) (fun hf => ?_)
    · refine lv_ldc (v := -1000000) X.1.1 X.1.2.1 X.1.2.2.2.1 (X.1.2.2.2.2 _ coX5_leastDepth_38) dX5_leastDepth_54 ?_
      exact zretI X hr hlk G hf dX5_leastDepth_56
    · refine lv_aload_n X.1.1 X.1.2.1 dX5_leastDepth_10 rfl (lv_at hl 0 rfl) ?_
      refine zgetR (ci := 5) (k := 0) (C := RX5) (T := TX5) (N := 2) X G rfl inX5_leastDepth_X5 (Nat.le_of_ble_eq_true rfl) flX5_leastDepth_12 dX5_leastDepth_11 hf (fun v1 hf => ?_)
      refine lv_aload_n X.1.1 X.1.2.1 dX5_leastDepth_14 rfl (lv_at hl 1 rfl) ?_
      obtain ⟨hk, hf⟩ := zck hf
      obtain ⟨q2, eq2, hf⟩ := Option.bind_eq_some_iff.mp hf
      refine zcV0 (As := [.ref (b0 + r1)]) (rest := []) (v := none) (h' := q2) X G (rfl : vwCl[3]? = some (RX3, TX3, 12)) hk (m_X3_become l D dA b0 v1 r1 h q2 eq2) (cwV 1 X.1.2.2.2.2 gX5_leastDepth_X3_become rfl rfl rfl hdV_X3_become ⟨(Nat.le_of_ble_eq_true rfl), (Nat.le_of_ble_eq_true rfl)⟩) rfl hl.1 rfl (Nat.le_of_ble_eq_true rfl) dX5_leastDepth_15 ⟨Nat.zero_le _, Nat.zero_le _⟩ (fun H locs G => ?_)
      refine lv_aload_n X.1.1 X.1.2.1 dX5_leastDepth_18 rfl (lv_at hl 0 rfl) ?_
      refine zgetR (ci := 5) (k := 0) (C := RX5) (T := TX5) (N := 2) X G rfl inX5_leastDepth_X5 (Nat.le_of_ble_eq_true rfl) flX5_leastDepth_12 dX5_leastDepth_19 hf (fun v3 hf => ?_)
      refine zgetR (ci := 3) (k := 7) (C := RX3) (T := TX3) (N := 12) X G rfl inX5_leastDepth_X3 (Nat.le_of_ble_eq_true rfl) flX5_leastDepth_50 dX5_leastDepth_22 hf (fun v4 hf => ?_)
      refine lv_iload_n X.1.1 X.1.2.1 dX5_leastDepth_25 rfl (lv_at hl 2 rfl) ?_
      refine lv_iload X.1.1 X.1.2.1 dX5_leastDepth_26 (lv_at hl 4 rfl) ?_
      refine ziast X G dX5_leastDepth_28 hf (fun h5 H locs hf G => ?_)
      refine lv_aload_n X.1.1 X.1.2.1 dX5_leastDepth_29 rfl (lv_at hl 0 rfl) ?_
      refine lv_iload_n X.1.1 X.1.2.1 dX5_leastDepth_30 rfl (lv_at hl 3 rfl) ?_
      obtain ⟨hk, hf⟩ := zck hf
      obtain ⟨q6, eq6, hf⟩ := Option.bind_eq_some_iff.mp hf
      refine zcV0 (As := [.int a3]) (rest := []) (v := none) (h' := q6) X G (rfl : vwCl[5]? = some (RX5, TX5, 2)) hk (m_X5_passYears l D dA b0 r0 a3 h5 q6 eq6) (cwV 1 X.1.2.2.2.2 gX5_leastDepth_X5_passYears rfl rfl rfl hdV_X5_passYears ⟨(Nat.le_of_ble_eq_true rfl), (Nat.le_of_ble_eq_true rfl)⟩) rfl hl.1 rfl (Nat.le_of_ble_eq_true rfl) dX5_leastDepth_31 ⟨Nat.zero_le _, Nat.zero_le _⟩ (fun H locs G => ?_)
      refine lv_aload_n X.1.1 X.1.2.1 dX5_leastDepth_34 rfl (lv_at hl 0 rfl) ?_
      refine zgetR (ci := 5) (k := 0) (C := RX5) (T := TX5) (N := 2) X G rfl inX5_leastDepth_X5 (Nat.le_of_ble_eq_true rfl) flX5_leastDepth_12 dX5_leastDepth_35 hf (fun v7 hf => ?_)
      refine lv_iload_n X.1.1 X.1.2.1 dX5_leastDepth_38 rfl (lv_at hl 2 rfl) ?_
      obtain ⟨hk, hf⟩ := zck hf
      obtain ⟨q8, eq8, hf⟩ := Option.bind_eq_some_iff.mp hf
      refine zcV0 (As := [.int a2]) (rest := []) (v := (some (.int q8))) (h' := q6) X G (rfl : vwCl[3]? = some (RX3, TX3, 12)) hk (m_X3_isUp l D dA b0 v7 a2 q6 q8 eq8) (cwV 1 X.1.2.2.2.2 gX5_leastDepth_X3_isUp rfl rfl rfl hdV_X3_isUp ⟨(Nat.le_of_ble_eq_true rfl), (Nat.le_of_ble_eq_true rfl)⟩) rfl hl.1 rfl (Nat.le_of_ble_eq_true rfl) dX5_leastDepth_39 ⟨Nat.zero_le _, Nat.zero_le _⟩ (fun H locs G => ?_)
      refine zif_ne (tgt := 48) X dX5_leastDepth_42 (by decide) hf (fun hf => ?_) (fun hf => ?_)
      · refine lv_iinc (v := (a4 + (1 : Int32))) (lv' := [(4, .int (a4 + (1 : Int32))), (0, .ref (b0 + r0)), (1, .ref (b0 + r1)), (2, .int a2), (3, .int a3)]) X.1.1 X.1.2.1 dX5_leastDepth_48 hl (k := 4) rfl rfl (by decide) rfl (fun ls hl => ?_)
        refine lv_goto (tgt := 3) X.1.1 X.1.2.1 dX5_leastDepth_51 (by decide) ?_
        exact ih _ _ _ _ _ _ _ _ _ hf G (lv_sub hl [1, 2, 3, 4, 0] rfl)
      · refine lv_iload X.1.1 X.1.2.1 dX5_leastDepth_45 (lv_at hl 4 rfl) ?_
        exact zretI X hr hlk G hf dX5_leastDepth_47
set_option maxHeartbeats 4000000 in
set_option maxRecDepth 100000 in
theorem m_X5_leastDepth (l : Launch) (D : va_G) (dA : Nat → ClassId) (b0 : Nat) (r0 : Nat) (r1 : Nat) (a2 : Int32) (a3 : Int32) (h : zH) (z : Int32 × zH) (hf : f_X5_leastDepth r0 r1 a2 a3 h = some z) : Met l yX5_leastDepth wsX5_leastDepth rmX5_leastDepth (zPc D dA b0 [.ref (b0 + r0), .ref (b0 + r1), .int a2, .int a3] h) (zQ D dA b0 (some (.int z.1)) z.2) 0 0 (zA b0) := by
  refine Met.ofW (cc := cX5_leastDepth) (maxL := 5) (ret := (some .int)) (by decide) rfl ?_
  intro p e s m args below meth c s₁ B hml hv
  obtain ⟨rfl, hP, hz, hK, hN⟩ := hv
  have hr := B.returns
  have hlk := B.notSynchronized
  have X : zX p s m _ c cX5_leastDepth 5 RX5 wsX5_leastDepth D dA := ⟨⟨B.exec, B.bytes, hml, findClass_of_methodNamed B.named, atoms_spec (ws := wsX5_leastDepth) B.pre⟩, hK, hN⟩
  have G : zG D dA b0 s.heap h s.heap [] := ⟨hP, hz, va_S.rf⟩
  have hl := lv_entry ([.ref (b0 + r0), .ref (b0 + r1), .int a2, .int a3]) (n := 5) (Nat.le_of_ble_eq_true rfl)
  rw [lg_entry_eq]
  generalize (lg_sl ([.ref (b0 + r0), .ref (b0 + r1), .int a2, .int a3]) ++ List.replicate (5 - (lg_sl ([.ref (b0 + r0), .ref (b0 + r1), .int a2, .int a3])).length) Slot.unset).toArray = ls at hl ⊢
  have hl : lv_has ls 5 [(0, .ref (b0 + r0)), (1, .ref (b0 + r1)), (2, .int a2), (3, .int a3)] := hl
  unfold f_X5_leastDepth at hf
  refine lv_iconst (v := 1) X.1.1 X.1.2.1 dX5_leastDepth_0 (by decide) ?_
  refine lv_istore (lv' := [(4, .int (1 : Int32)), (0, .ref (b0 + r0)), (1, .ref (b0 + r1)), (2, .int a2), (3, .int a3)]) X.1.1 X.1.2.1 dX5_leastDepth_1 hl (by decide) rfl (fun ls hl => ?_)
  exact w_X5_leastDepth_b3 X hr hlk _ _ _ _ _ _ _ _ _ _ hf G (lv_sub hl [1, 2, 3, 4, 0] rfl)
/-! X5_goesAsTold -/
abbrev rmX5_goesAsTold : Room := { frames := 3, cells := 0, slots := 0, locals := 85 }
theorem hdV_X5_goesAsTold : yX5_goesAsTold.cls = RX5 ∧ yX5_goesAsTold.cls ≠ "java/lang/invoke/MethodHandle" ∧ yX5_goesAsTold.cls ≠ "java/lang/invoke/VarHandle" ∧ (parseMethodDescriptor yX5_goesAsTold.desc).map (fun d => d.parameters.length) = some 3 := by decide +kernel
theorem inX5_goesAsTold_X5 : ∀ w ∈ wsX50, w ∈ wsX5_goesAsTold := by decide +kernel
theorem flX5_goesAsTold_18 : Cond.fieldLink RX5 18 (TX5 1).1 (TX5 1).2.1 (TX5 1).2.2.1 ∈ wsX5_goesAsTold := by decide +kernel
theorem flX5_goesAsTold_12 : Cond.fieldLink RX5 12 (TX5 0).1 (TX5 0).2.1 (TX5 0).2.2.1 ∈ wsX5_goesAsTold := by decide +kernel
theorem inX5_goesAsTold_X3 : ∀ w ∈ wsX30, w ∈ wsX5_goesAsTold := by decide +kernel
theorem flX5_goesAsTold_50 : Cond.fieldLink RX5 50 (TX3 7).1 (TX3 7).2.1 (TX3 7).2.2.1 ∈ wsX5_goesAsTold := by decide +kernel
set_option maxHeartbeats 4000000 in
set_option maxRecDepth 100000 in
theorem w_X5_goesAsTold_b42 {p : Program} {l : Launch} {e : Env} {s : State} {m : MethodId} {args : Array Value} {below : List Frame} {meth : Method} {c : Code} {D : va_G} {dA : Nat → ClassId} {b0 : Nat} (X : zX p s m args c cX5_goesAsTold 6 RX5 wsX5_goesAsTold D dA) (hr : meth.sig.returnType = (some .boolean)) (hlk : meth.locks = false) {z : Int32 × zH} (k3 : Nat → Int32 → Int32 → Int32 → Int32 → zH → Option (Int32 × zH)) (hk3 : ∀ (r0 : Nat) (a1 : Int32) (a2 : Int32) (a3 : Int32) (a4 : Int32) (h : zH) (H : Heap) (locs : List Loc) (ls : Array Slot), k3 r0 a1 a2 a3 a4 h = some z → zG D dA b0 s.heap h H locs → lv_has ls 6 [(0, .ref (b0 + r0)), (1, .int a1), (2, .int a2), (3, .int a3), (4, .int a4)] → W p l e rmX5_goesAsTold s m args below meth c H locs 0 0 (MQ below (zQ D dA b0 (some (.int z.1)) z.2) args s 0 0 (zA b0)) (F0 m 3 ls [])) : ∀ (r0 : Nat) (a1 : Int32) (a2 : Int32) (a3 : Int32) (a4 : Int32) (s0 : Int32) (h : zH) (H : Heap) (locs : List Loc) (ls : Array Slot), f_X5_goesAsTold_b42 k3 r0 a1 a2 a3 a4 s0 h = some z → zG D dA b0 s.heap h H locs → lv_has ls 6 [(0, .ref (b0 + r0)), (1, .int a1), (2, .int a2), (3, .int a3), (4, .int a4)] → W p l e rmX5_goesAsTold s m args below meth c H locs 0 0 (MQ below (zQ D dA b0 (some (.int z.1)) z.2) args s 0 0 (zA b0)) (F0 m 42 ls [.int s0]) := by
  intro r0 a1 a2 a3 a4 s0 h H locs ls hf G hl
  unfold f_X5_goesAsTold_b42 at hf
  refine lv_istore (lv' := [(5, .int s0), (0, .ref (b0 + r0)), (1, .int a1), (2, .int a2), (3, .int a3), (4, .int a4)]) X.1.1 X.1.2.1 dX5_goesAsTold_42 hl (by decide) rfl (fun ls hl => ?_)
  refine lv_iload X.1.1 X.1.2.1 dX5_goesAsTold_44 (lv_at hl 0 rfl) ?_
  refine lv_aload_n X.1.1 X.1.2.1 dX5_goesAsTold_46 rfl (lv_at hl 1 rfl) ?_
  refine zgetR (ci := 5) (k := 1) (C := RX5) (T := TX5) (N := 2) X G rfl inX5_goesAsTold_X5 (Nat.le_of_ble_eq_true rfl) flX5_goesAsTold_18 dX5_goesAsTold_47 hf (fun v1 hf => ?_)
  refine lv_iload X.1.1 X.1.2.1 dX5_goesAsTold_50 (lv_at hl 5 rfl) ?_
  refine ziald X G dX5_goesAsTold_52 hf (fun v2 hf => ?_)
  refine zic_eq (tgt := 58) X dX5_goesAsTold_53 (by decide) hf (fun hf => ?_) (fun hf => ?_)
  · refine lv_iinc (v := (a4 + (1 : Int32))) (lv' := [(4, .int (a4 + (1 : Int32))), (5, .int s0), (0, .ref (b0 + r0)), (1, .int a1), (2, .int a2), (3, .int a3)]) X.1.1 X.1.2.1 dX5_goesAsTold_58 hl (k := 5) rfl rfl (by decide) rfl (fun ls hl => ?_)
    refine lv_goto (tgt := 3) X.1.1 X.1.2.1 dX5_goesAsTold_61 (by decide) ?_
    exact hk3 _ _ _ _ _ _ _ _ _ hf G (lv_sub hl [2, 3, 4, 5, 0] rfl)
  · refine lv_iconst (v := 0) X.1.1 X.1.2.1 dX5_goesAsTold_56 (by decide) ?_
    exact zretZ X hr hlk G hf dX5_goesAsTold_57
set_option maxHeartbeats 4000000 in
set_option maxRecDepth 100000 in
theorem w_X5_goesAsTold_b3 {p : Program} {l : Launch} {e : Env} {s : State} {m : MethodId} {args : Array Value} {below : List Frame} {meth : Method} {c : Code} {D : va_G} {dA : Nat → ClassId} {b0 : Nat} (X : zX p s m args c cX5_goesAsTold 6 RX5 wsX5_goesAsTold D dA) (hr : meth.sig.returnType = (some .boolean)) (hlk : meth.locks = false) {z : Int32 × zH} : ∀ (n : Nat), ∀ (r0 : Nat) (a1 : Int32) (a2 : Int32) (a3 : Int32) (a4 : Int32) (h : zH) (H : Heap) (locs : List Loc) (ls : Array Slot), f_X5_goesAsTold_b3 n r0 a1 a2 a3 a4 h = some z → zG D dA b0 s.heap h H locs → lv_has ls 6 [(0, .ref (b0 + r0)), (1, .int a1), (2, .int a2), (3, .int a3), (4, .int a4)] → W p l e rmX5_goesAsTold s m args below meth c H locs 0 0 (MQ below (zQ D dA b0 (some (.int z.1)) z.2) args s 0 0 (zA b0)) (F0 m 3 ls []) := by
  intro n
  induction n with
  | zero =>
    intro r0 a1 a2 a3 a4 h H locs ls hf
    cases hf
  | succ n ih =>
    intro r0 a1 a2 a3 a4 h H locs ls hf G hl
    rw [f_X5_goesAsTold_b3] at hf
    refine lv_iload X.1.1 X.1.2.1 dX5_goesAsTold_3 (lv_at hl 4 rfl) ?_
    refine lv_iload_n X.1.1 X.1.2.1 dX5_goesAsTold_5 rfl (lv_at hl 2 rfl) ?_
    refine zic_ge (tgt := 64) X dX5_goesAsTold_6 (by decide) hf (fun hf => ?_) (fun hf => ?_)
    · refine lv_iconst (v := 1) X.1.1 X.1.2.1 dX5_goesAsTold_64 (by decide) ?_
      exact zretZ X hr hlk G hf dX5_goesAsTold_65
    · refine lv_aload_n X.1.1 X.1.2.1 dX5_goesAsTold_9 rfl (lv_at hl 0 rfl) ?_
      refine zgetR (ci := 5) (k := 0) (C := RX5) (T := TX5) (N := 2) X G rfl inX5_goesAsTold_X5 (Nat.le_of_ble_eq_true rfl) flX5_goesAsTold_12 dX5_goesAsTold_10 hf (fun v1 hf => ?_)
      obtain ⟨hk, hf⟩ := zck hf
      obtain ⟨q2, eq2, hf⟩ := Option.bind_eq_some_iff.mp hf
      refine zcV0 (As := []) (rest := []) (v := (some (.int q2.1))) (h' := q2.2) X G (rfl : vwCl[3]? = some (RX3, TX3, 12)) hk (m_X3_passYear l D dA b0 v1 h q2 eq2) (cwV 0 X.1.2.2.2.2 gX5_goesAsTold_X3_passYear rfl rfl rfl hdV_X3_passYear ⟨(Nat.le_of_ble_eq_true rfl), (Nat.le_of_ble_eq_true rfl)⟩) rfl hl.1 rfl (Nat.le_of_ble_eq_true rfl) dX5_goesAsTold_13 ⟨Nat.zero_le _, Nat.zero_le _⟩ (fun H locs G => ?_)
      refine lv_pop X.1.1 X.1.2.1 dX5_goesAsTold_16 rfl ?_
      refine lv_iload_n X.1.1 X.1.2.1 dX5_goesAsTold_17 rfl (lv_at hl 3 rfl) ?_
      refine lv_iconst (v := 2) X.1.1 X.1.2.1 dX5_goesAsTold_18 (by decide) ?_
      refine zic_ne (tgt := 33) X dX5_goesAsTold_19 (by decide) hf (fun hf => ?_) (fun hf => ?_)
      · refine lv_aload_n X.1.1 X.1.2.1 dX5_goesAsTold_33 rfl (lv_at hl 0 rfl) ?_
        refine zgetR (ci := 5) (k := 0) (C := RX5) (T := TX5) (N := 2) X G rfl inX5_goesAsTold_X5 (Nat.le_of_ble_eq_true rfl) flX5_goesAsTold_12 dX5_goesAsTold_34 hf (fun v3 hf => ?_)
        refine zgetR (ci := 3) (k := 7) (C := RX3) (T := TX3) (N := 12) X G rfl inX5_goesAsTold_X3 (Nat.le_of_ble_eq_true rfl) flX5_goesAsTold_50 dX5_goesAsTold_37 hf (fun v4 hf => ?_)
        refine lv_iload_n X.1.1 X.1.2.1 dX5_goesAsTold_40 rfl (lv_at hl 1 rfl) ?_
        refine ziald X G dX5_goesAsTold_41 hf (fun v5 hf => ?_)
        exact w_X5_goesAsTold_b42 X hr hlk _ ih _ _ _ _ _ _ _ _ _ _ hf G hl
      · refine lv_aload_n X.1.1 X.1.2.1 dX5_goesAsTold_22 rfl (lv_at hl 0 rfl) ?_
        refine zgetR (ci := 5) (k := 0) (C := RX5) (T := TX5) (N := 2) X G rfl inX5_goesAsTold_X5 (Nat.le_of_ble_eq_true rfl) flX5_goesAsTold_12 dX5_goesAsTold_23 hf (fun v6 hf => ?_)
        refine lv_iload_n X.1.1 X.1.2.1 dX5_goesAsTold_26 rfl (lv_at hl 1 rfl) ?_
        obtain ⟨hk, hf⟩ := zck hf
        obtain ⟨q7, eq7, hf⟩ := Option.bind_eq_some_iff.mp hf
        refine zcV0 (As := [.int a1]) (rest := []) (v := (some (.int q7))) (h' := q2.2) X G (rfl : vwCl[3]? = some (RX3, TX3, 12)) hk (m_X3_nearTo l D dA b0 v6 a1 q2.2 q7 eq7) (cwV 1 X.1.2.2.2.2 gX5_goesAsTold_X3_nearTo rfl rfl rfl hdV_X3_nearTo ⟨(Nat.le_of_ble_eq_true rfl), (Nat.le_of_ble_eq_true rfl)⟩) rfl hl.1 rfl (Nat.le_of_ble_eq_true rfl) dX5_goesAsTold_27 ⟨Nat.zero_le _, Nat.zero_le _⟩ (fun H locs G => ?_)
        refine lv_goto (tgt := 42) X.1.1 X.1.2.1 dX5_goesAsTold_30 (by decide) ?_
        exact w_X5_goesAsTold_b42 X hr hlk _ ih _ _ _ _ _ _ _ _ _ _ hf G hl
set_option maxHeartbeats 4000000 in
set_option maxRecDepth 100000 in
theorem m_X5_goesAsTold (l : Launch) (D : va_G) (dA : Nat → ClassId) (b0 : Nat) (r0 : Nat) (a1 : Int32) (a2 : Int32) (a3 : Int32) (h : zH) (z : Int32 × zH) (hf : f_X5_goesAsTold r0 a1 a2 a3 h = some z) : Met l yX5_goesAsTold wsX5_goesAsTold rmX5_goesAsTold (zPc D dA b0 [.ref (b0 + r0), .int a1, .int a2, .int a3] h) (zQ D dA b0 (some (.int z.1)) z.2) 0 0 (zA b0) := by
  refine Met.ofW (cc := cX5_goesAsTold) (maxL := 6) (ret := (some .boolean)) (by decide) rfl ?_
  intro p e s m args below meth c s₁ B hml hv
  obtain ⟨rfl, hP, hz, hK, hN⟩ := hv
  have hr := B.returns
  have hlk := B.notSynchronized
  have X : zX p s m _ c cX5_goesAsTold 6 RX5 wsX5_goesAsTold D dA := ⟨⟨B.exec, B.bytes, hml, findClass_of_methodNamed B.named, atoms_spec (ws := wsX5_goesAsTold) B.pre⟩, hK, hN⟩
  have G : zG D dA b0 s.heap h s.heap [] := ⟨hP, hz, va_S.rf⟩
  have hl := lv_entry ([.ref (b0 + r0), .int a1, .int a2, .int a3]) (n := 6) (Nat.le_of_ble_eq_true rfl)
  rw [lg_entry_eq]
  generalize (lg_sl ([.ref (b0 + r0), .int a1, .int a2, .int a3]) ++ List.replicate (6 - (lg_sl ([.ref (b0 + r0), .int a1, .int a2, .int a3])).length) Slot.unset).toArray = ls at hl ⊢
  have hl : lv_has ls 6 [(0, .ref (b0 + r0)), (1, .int a1), (2, .int a2), (3, .int a3)] := hl
  unfold f_X5_goesAsTold at hf
  refine lv_iconst (v := 0) X.1.1 X.1.2.1 dX5_goesAsTold_0 (by decide) ?_
  refine lv_istore (lv' := [(4, .int (0 : Int32)), (0, .ref (b0 + r0)), (1, .int a1), (2, .int a2), (3, .int a3)]) X.1.1 X.1.2.1 dX5_goesAsTold_1 hl (by decide) rfl (fun ls hl => ?_)
  exact w_X5_goesAsTold_b3 X hr hlk _ _ _ _ _ _ _ _ _ _ hf G (lv_sub hl [1, 2, 3, 4, 0] rfl)
