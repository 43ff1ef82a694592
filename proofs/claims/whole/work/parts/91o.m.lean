/-! X8_dig -/
abbrev rmX8_dig : Room := { frames := 4, cells := 0, slots := 0, locals := 90 }
theorem hdV_X8_dig : yX8_dig.cls = RX8 ∧ yX8_dig.cls ≠ "java/lang/invoke/MethodHandle" ∧ yX8_dig.cls ≠ "java/lang/invoke/VarHandle" ∧ (parseMethodDescriptor yX8_dig.desc).map (fun d => d.parameters.length) = some 2 := by decide +kernel
theorem coX8_dig_157 : Cond.constant RX8 157 (-1000000) ∈ wsX8_dig := by decide +kernel
theorem inX8_dig_X8 : ∀ w ∈ wsX80, w ∈ wsX8_dig := by decide +kernel
theorem flX8_dig_25 : Cond.fieldLink RX8 25 (TX8 6).1 (TX8 6).2.1 (TX8 6).2.2.1 ∈ wsX8_dig := by decide +kernel
theorem coX8_dig_70 : Cond.constant RX8 70 (-1000001) ∈ wsX8_dig := by decide +kernel
set_option maxHeartbeats 4000000 in
set_option maxRecDepth 100000 in
theorem w_X8_dig_b20 {p : Program} {l : Launch} {e : Env} {s : State} {m : MethodId} {args : Array Value} {below : List Frame} {meth : Method} {c : Code} {D : va_G} {dA : Nat → ClassId} {b0 : Nat} (X : zX p s m args c cX8_dig 4 RX8 wsX8_dig D dA) (hr : meth.sig.returnType = (some .int)) (hlk : meth.locks = false) {z : Int32 × zH} : ∀ (n : Nat), ∀ (r0 : Nat) (a1 : Int32) (a2 : Int32) (a3 : Int32) (h : zH) (H : Heap) (locs : List Loc) (ls : Array Slot), f_X8_dig_b20 n r0 a1 a2 a3 h = some z → zG D dA b0 s.heap h H locs → lv_has ls 4 [(0, .ref (b0 + r0)), (1, .int a1), (2, .int a2), (3, .int a3)] → W p l e rmX8_dig s m args below meth c H locs 0 0 (MQ below (zQ D dA b0 (some (.int z.1)) z.2) args s 0 0 (zA b0)) (F0 m 20 ls []) := by
  intro n
  induction n with
  | zero =>
    intro r0 a1 a2 a3 h H locs ls hf
    cases hf
  | succ n ih =>
    intro r0 a1 a2 a3 h H locs ls hf G hl
    rw [f_X8_dig_b20] at hf
    refine lv_iload_n X.1.1 X.1.2.1 dX8_dig_20 rfl (lv_at hl 3 rfl) ?_
    refine lv_bipush (v := 41) X.1.1 X.1.2.1 dX8_dig_21 (by decide) ?_
    refine zic_ge (tgt := 64) X dX8_dig_23 (by decide) hf (fun hf => ?_) (fun hf => ?_)
    · refine lv_ldc (v := -1000000) X.1.1 X.1.2.1 X.1.2.2.2.1 (X.1.2.2.2.2 _ coX8_dig_157) dX8_dig_64 ?_
      exact zretI X hr hlk G hf dX8_dig_66
    · refine lv_aload_n X.1.1 X.1.2.1 dX8_dig_26 rfl (lv_at hl 0 rfl) ?_
      obtain ⟨hk, hf⟩ := zck hf
      obtain ⟨q1, eq1, hf⟩ := Option.bind_eq_some_iff.mp hf
      refine zcV0 (As := []) (rest := []) (v := none) (h' := q1) X G (rfl : vwCl[8]? = some (RX8, TX8, 24)) hk (m_X8_layAside l D dA b0 r0 h q1 eq1) (cwV 0 X.1.2.2.2.2 gX8_dig_X8_layAside rfl rfl rfl hdV_X8_layAside ⟨(Nat.le_of_ble_eq_true rfl), (Nat.le_of_ble_eq_true rfl)⟩) rfl hl.1 rfl (Nat.le_of_ble_eq_true rfl) dX8_dig_27 ⟨Nat.zero_le _, Nat.zero_le _⟩ (fun H locs G => ?_)
      refine lv_aload_n X.1.1 X.1.2.1 dX8_dig_30 rfl (lv_at hl 0 rfl) ?_
      refine zgetR (ci := 8) (k := 6) (C := RX8) (T := TX8) (N := 24) X G rfl inX8_dig_X8 (Nat.le_of_ble_eq_true rfl) flX8_dig_25 dX8_dig_31 hf (fun v2 hf => ?_)
      refine lv_bipush (v := 13) X.1.1 X.1.2.1 dX8_dig_34 (by decide) ?_
      refine lv_iload_n X.1.1 X.1.2.1 dX8_dig_36 rfl (lv_at hl 1 rfl) ?_
      refine lv_iadd X.1.1 X.1.2.1 dX8_dig_37 ?_
      refine lv_iload_n X.1.1 X.1.2.1 dX8_dig_38 rfl (lv_at hl 3 rfl) ?_
      refine ziast X G dX8_dig_39 hf (fun h3 H locs hf G => ?_)
      refine lv_aload_n X.1.1 X.1.2.1 dX8_dig_40 rfl (lv_at hl 0 rfl) ?_
      refine lv_iload_n X.1.1 X.1.2.1 dX8_dig_41 rfl (lv_at hl 2 rfl) ?_
      obtain ⟨hk, hf⟩ := zck hf
      obtain ⟨q4, eq4, hf⟩ := Option.bind_eq_some_iff.mp hf
      refine zcV0 (As := [.int a2]) (rest := []) (v := none) (h' := q4) X G (rfl : vwCl[8]? = some (RX8, TX8, 24)) hk (m_X8_go l D dA b0 r0 a2 h3 q4 eq4) (cwV 1 X.1.2.2.2.2 gX8_dig_X8_go rfl rfl rfl hdV_X8_go ⟨(Nat.le_of_ble_eq_true rfl), (Nat.le_of_ble_eq_true rfl)⟩) rfl hl.1 rfl (Nat.le_of_ble_eq_true rfl) dX8_dig_42 ⟨Nat.zero_le _, Nat.zero_le _⟩ (fun H locs G => ?_)
      refine lv_aload_n X.1.1 X.1.2.1 dX8_dig_45 rfl (lv_at hl 0 rfl) ?_
      refine zgetR (ci := 8) (k := 6) (C := RX8) (T := TX8) (N := 24) X G rfl inX8_dig_X8 (Nat.le_of_ble_eq_true rfl) flX8_dig_25 dX8_dig_46 hf (fun v5 hf => ?_)
      refine lv_iload_n X.1.1 X.1.2.1 dX8_dig_49 rfl (lv_at hl 1 rfl) ?_
      obtain ⟨q6, eq6, hf⟩ := Option.bind_eq_some_iff.mp hf
      refine zcS0 (As := [.ref (b0 + v5), .int a1]) (rest := []) (v := (some (.int q6))) (h' := q4) X G (m_X8_lies l D dA b0 v5 a1 q4 q6 eq6) (va_cwS 2 X.1.2.2.2.2 gX8_dig_X8_lies rfl rfl rfl hdS_X8_lies ⟨(Nat.le_of_ble_eq_true rfl), (Nat.le_of_ble_eq_true rfl)⟩) rfl hl.1 rfl (Nat.le_of_ble_eq_true rfl) dX8_dig_50 ⟨Nat.zero_le _, Nat.zero_le _⟩ (fun H locs G => ?_)
      refine zif_eq (tgt := 58) X dX8_dig_53 (by decide) hf (fun hf => ?_) (fun hf => ?_)
      · refine lv_iinc (v := (a3 + (1 : Int32))) (lv' := [(3, .int (a3 + (1 : Int32))), (0, .ref (b0 + r0)), (1, .int a1), (2, .int a2)]) X.1.1 X.1.2.1 dX8_dig_58 hl (k := 3) rfl rfl (by decide) rfl (fun ls hl => ?_)
        refine lv_goto (tgt := 20) X.1.1 X.1.2.1 dX8_dig_61 (by decide) ?_
        exact ih _ _ _ _ _ _ _ _ hf G (lv_sub hl [1, 2, 3, 0] rfl)
      · refine lv_iload_n X.1.1 X.1.2.1 dX8_dig_56 rfl (lv_at hl 3 rfl) ?_
        exact zretI X hr hlk G hf dX8_dig_57
set_option maxHeartbeats 4000000 in
set_option maxRecDepth 100000 in
theorem m_X8_dig (l : Launch) (D : va_G) (dA : Nat → ClassId) (b0 : Nat) (r0 : Nat) (a1 : Int32) (a2 : Int32) (h : zH) (z : Int32 × zH) (hf : f_X8_dig r0 a1 a2 h = some z) : Met l yX8_dig wsX8_dig rmX8_dig (zPc D dA b0 [.ref (b0 + r0), .int a1, .int a2] h) (zQ D dA b0 (some (.int z.1)) z.2) 0 0 (zA b0) := by
  refine Met.ofW (cc := cX8_dig) (maxL := 4) (ret := (some .int)) (by decide) rfl ?_
  intro p e s m args below meth c s₁ B hml hv
  obtain ⟨rfl, hP, hz, hK, hN⟩ := hv
  have hr := B.returns
  have hlk := B.notSynchronized
  have X : zX p s m _ c cX8_dig 4 RX8 wsX8_dig D dA := ⟨⟨B.exec, B.bytes, hml, findClass_of_methodNamed B.named, atoms_spec (ws := wsX8_dig) B.pre⟩, hK, hN⟩
  have G : zG D dA b0 s.heap h s.heap [] := ⟨hP, hz, va_S.rf⟩
  have hl := lv_entry ([.ref (b0 + r0), .int a1, .int a2]) (n := 4) (Nat.le_of_ble_eq_true rfl)
  rw [lg_entry_eq]
  generalize (lg_sl ([.ref (b0 + r0), .int a1, .int a2]) ++ List.replicate (4 - (lg_sl ([.ref (b0 + r0), .int a1, .int a2])).length) Slot.unset).toArray = ls at hl ⊢
  have hl : lv_has ls 4 [(0, .ref (b0 + r0)), (1, .int a1), (2, .int a2)] := hl
  unfold f_X8_dig at hf
  refine lv_aload_n X.1.1 X.1.2.1 dX8_dig_0 rfl (lv_at hl 0 rfl) ?_
  refine lv_iload_n X.1.1 X.1.2.1 dX8_dig_1 rfl (lv_at hl 1 rfl) ?_
  obtain ⟨hk, hf⟩ := zck hf
  obtain ⟨q1, eq1, hf⟩ := Option.bind_eq_some_iff.mp hf
  refine zcV0 (As := [.int a1]) (rest := []) (v := (some (.int q1))) (h' := h) X G (rfl : vwCl[8]? = some (RX8, TX8, 24)) hk (m_X8_isThing l D dA b0 r0 a1 h q1 eq1) (cwV 1 X.1.2.2.2.2 gX8_dig_X8_isThing rfl rfl rfl hdV_X8_isThing ⟨(Nat.le_of_ble_eq_true rfl), (Nat.le_of_ble_eq_true rfl)⟩) rfl hl.1 rfl (Nat.le_of_ble_eq_true rfl) dX8_dig_2 ⟨Nat.zero_le _, Nat.zero_le _⟩ (fun H locs G => ?_)
  refine zif_eq (tgt := 15) X dX8_dig_5 (by decide) hf (fun hf => ?_) (fun hf => ?_)
  · refine lv_ldc (v := -1000001) X.1.1 X.1.2.1 X.1.2.2.2.1 (X.1.2.2.2.2 _ coX8_dig_70) dX8_dig_15 ?_
    exact zretI X hr hlk G hf dX8_dig_17
  · refine lv_iload_n X.1.1 X.1.2.1 dX8_dig_8 rfl (lv_at hl 2 rfl) ?_
    obtain ⟨q2, eq2, hf⟩ := Option.bind_eq_some_iff.mp hf
    refine zcS0 (As := [.int a2]) (rest := []) (v := (some (.int q2))) (h' := h) X G (m_X8_isSpan l D dA b0 a2 h q2 eq2) (va_cwS 1 X.1.2.2.2.2 gX8_dig_X8_isSpan rfl rfl rfl hdS_X8_isSpan ⟨(Nat.le_of_ble_eq_true rfl), (Nat.le_of_ble_eq_true rfl)⟩) rfl hl.1 rfl (Nat.le_of_ble_eq_true rfl) dX8_dig_9 ⟨Nat.zero_le _, Nat.zero_le _⟩ (fun H locs G => ?_)
    refine zif_ne (tgt := 18) X dX8_dig_12 (by decide) hf (fun hf => ?_) (fun hf => ?_)
    · refine lv_iconst (v := 1) X.1.1 X.1.2.1 dX8_dig_18 (by decide) ?_
      refine lv_istore_n (lv' := [(3, .int (1 : Int32)), (0, .ref (b0 + r0)), (1, .int a1), (2, .int a2)]) X.1.1 X.1.2.1 dX8_dig_19 rfl hl (by decide) rfl (fun ls hl => ?_)
      exact w_X8_dig_b20 X hr hlk _ _ _ _ _ _ _ _ _ hf G (lv_sub hl [1, 2, 3, 0] rfl)
    · refine lv_ldc (v := -1000001) X.1.1 X.1.2.1 X.1.2.2.2.1 (X.1.2.2.2.2 _ coX8_dig_70) dX8_dig_15 ?_
      exact zretI X hr hlk G hf dX8_dig_17
/-! X8_whom -/
abbrev rmX8_whom : Room := { frames := 2, cells := 0, slots := 0, locals := 45 }
theorem hdV_X8_whom : yX8_whom.cls = RX8 ∧ yX8_whom.cls ≠ "java/lang/invoke/MethodHandle" ∧ yX8_whom.cls ≠ "java/lang/invoke/VarHandle" ∧ (parseMethodDescriptor yX8_whom.desc).map (fun d => d.parameters.length) = some 1 := by decide +kernel
theorem inX8_whom_X8 : ∀ w ∈ wsX80, w ∈ wsX8_whom := by decide +kernel
theorem flX8_whom_19 : Cond.fieldLink RX8 19 (TX8 4).1 (TX8 4).2.1 (TX8 4).2.2.1 ∈ wsX8_whom := by decide +kernel
theorem coX8_whom_157 : Cond.constant RX8 157 (-1000000) ∈ wsX8_whom := by decide +kernel
theorem coX8_whom_70 : Cond.constant RX8 70 (-1000001) ∈ wsX8_whom := by decide +kernel
theorem coX8_whom_163 : Cond.constant RX8 163 (-1000002) ∈ wsX8_whom := by decide +kernel
set_option maxHeartbeats 4000000 in
set_option maxRecDepth 100000 in
theorem w_X8_whom_b132 {p : Program} {l : Launch} {e : Env} {s : State} {m : MethodId} {args : Array Value} {below : List Frame} {meth : Method} {c : Code} {D : va_G} {dA : Nat → ClassId} {b0 : Nat} {h : zH} (X : zX p s m args c cX8_whom 6 RX8 wsX8_whom D dA) (hr : meth.sig.returnType = (some .int)) (hlk : meth.locks = false) {z : Int32} : ∀ (a2 : Int32) (H : Heap) (locs : List Loc) (ls : Array Slot), f_X8_whom_b132 h a2 = some z → zG D dA b0 s.heap h H locs → lv_has ls 6 [(2, .int a2)] → W p l e rmX8_whom s m args below meth c H locs 0 0 (MQ below (zQ D dA b0 (some (.int z)) h) args s 0 0 (zA b0)) (F0 m 132 ls []) := by
  intro a2 H locs ls hf G hl
  unfold f_X8_whom_b132 at hf
  refine lv_iload_n X.1.1 X.1.2.1 dX8_whom_132 rfl (lv_at hl 0 rfl) ?_
  refine lv_goto (tgt := 140) X.1.1 X.1.2.1 dX8_whom_133 (by decide) ?_
  exact zretIr X hr hlk G hf dX8_whom_140
set_option maxHeartbeats 4000000 in
set_option maxRecDepth 100000 in
theorem w_X8_whom_b114 {p : Program} {l : Launch} {e : Env} {s : State} {m : MethodId} {args : Array Value} {below : List Frame} {meth : Method} {c : Code} {D : va_G} {dA : Nat → ClassId} {b0 : Nat} {h : zH} (X : zX p s m args c cX8_whom 6 RX8 wsX8_whom D dA) (hr : meth.sig.returnType = (some .int)) (hlk : meth.locks = false) {z : Int32} (k25 : Nat → Int32 → Int32 → Int32 → Option (Int32)) (hk25 : ∀ (r0 : Nat) (a1 : Int32) (a2 : Int32) (a3 : Int32) (H : Heap) (locs : List Loc) (ls : Array Slot), k25 r0 a1 a2 a3 = some z → zG D dA b0 s.heap h H locs → lv_has ls 6 [(0, .ref (b0 + r0)), (1, .int a1), (2, .int a2), (3, .int a3)] → W p l e rmX8_whom s m args below meth c H locs 0 0 (MQ below (zQ D dA b0 (some (.int z)) h) args s 0 0 (zA b0)) (F0 m 25 ls [])) : ∀ (r0 : Nat) (a1 : Int32) (a3 : Int32) (s0 : Int32) (H : Heap) (locs : List Loc) (ls : Array Slot), f_X8_whom_b114 h k25 r0 a1 a3 s0 = some z → zG D dA b0 s.heap h H locs → lv_has ls 6 [(0, .ref (b0 + r0)), (1, .int a1), (3, .int a3)] → W p l e rmX8_whom s m args below meth c H locs 0 0 (MQ below (zQ D dA b0 (some (.int z)) h) args s 0 0 (zA b0)) (F0 m 114 ls [.int s0]) := by
  intro r0 a1 a3 s0 H locs ls hf G hl
  unfold f_X8_whom_b114 at hf
  refine lv_istore_n (lv' := [(2, .int s0), (0, .ref (b0 + r0)), (1, .int a1), (3, .int a3)]) X.1.1 X.1.2.1 dX8_whom_114 rfl hl (by decide) rfl (fun ls hl => ?_)
  refine lv_iinc (v := (a3 + (1 : Int32))) (lv' := [(3, .int (a3 + (1 : Int32))), (2, .int s0), (0, .ref (b0 + r0)), (1, .int a1)]) X.1.1 X.1.2.1 dX8_whom_115 hl (k := 3) rfl rfl (by decide) rfl (fun ls hl => ?_)
  refine lv_goto (tgt := 25) X.1.1 X.1.2.1 dX8_whom_118 (by decide) ?_
  exact hk25 _ _ _ _ _ _ _ hf G (lv_sub hl [2, 3, 1, 0] rfl)
set_option maxHeartbeats 4000000 in
set_option maxRecDepth 100000 in
theorem w_X8_whom_b113 {p : Program} {l : Launch} {e : Env} {s : State} {m : MethodId} {args : Array Value} {below : List Frame} {meth : Method} {c : Code} {D : va_G} {dA : Nat → ClassId} {b0 : Nat} {h : zH} (X : zX p s m args c cX8_whom 6 RX8 wsX8_whom D dA) (hr : meth.sig.returnType = (some .int)) (hlk : meth.locks = false) {z : Int32} (k25 : Nat → Int32 → Int32 → Int32 → Option (Int32)) (hk25 : ∀ (r0 : Nat) (a1 : Int32) (a2 : Int32) (a3 : Int32) (H : Heap) (locs : List Loc) (ls : Array Slot), k25 r0 a1 a2 a3 = some z → zG D dA b0 s.heap h H locs → lv_has ls 6 [(0, .ref (b0 + r0)), (1, .int a1), (2, .int a2), (3, .int a3)] → W p l e rmX8_whom s m args below meth c H locs 0 0 (MQ below (zQ D dA b0 (some (.int z)) h) args s 0 0 (zA b0)) (F0 m 25 ls [])) : ∀ (r0 : Nat) (a1 : Int32) (a2 : Int32) (a3 : Int32) (H : Heap) (locs : List Loc) (ls : Array Slot), f_X8_whom_b113 h k25 r0 a1 a2 a3 = some z → zG D dA b0 s.heap h H locs → lv_has ls 6 [(0, .ref (b0 + r0)), (1, .int a1), (2, .int a2), (3, .int a3)] → W p l e rmX8_whom s m args below meth c H locs 0 0 (MQ below (zQ D dA b0 (some (.int z)) h) args s 0 0 (zA b0)) (F0 m 113 ls []) := by
  intro r0 a1 a2 a3 H locs ls hf G hl
  unfold f_X8_whom_b113 at hf
  refine lv_iload_n X.1.1 X.1.2.1 dX8_whom_113 rfl (lv_at hl 2 rfl) ?_
  exact w_X8_whom_b114 X hr hlk _ hk25 _ _ _ _ _ _ _ hf G (lv_sub hl [0, 1, 3] rfl)
set_option maxHeartbeats 4000000 in
set_option maxRecDepth 100000 in
theorem w_X8_whom_b109 {p : Program} {l : Launch} {e : Env} {s : State} {m : MethodId} {args : Array Value} {below : List Frame} {meth : Method} {c : Code} {D : va_G} {dA : Nat → ClassId} {b0 : Nat} {h : zH} (X : zX p s m args c cX8_whom 6 RX8 wsX8_whom D dA) (hr : meth.sig.returnType = (some .int)) (hlk : meth.locks = false) {z : Int32} (k25 : Nat → Int32 → Int32 → Int32 → Option (Int32)) (hk25 : ∀ (r0 : Nat) (a1 : Int32) (a2 : Int32) (a3 : Int32) (H : Heap) (locs : List Loc) (ls : Array Slot), k25 r0 a1 a2 a3 = some z → zG D dA b0 s.heap h H locs → lv_has ls 6 [(0, .ref (b0 + r0)), (1, .int a1), (2, .int a2), (3, .int a3)] → W p l e rmX8_whom s m args below meth c H locs 0 0 (MQ below (zQ D dA b0 (some (.int z)) h) args s 0 0 (zA b0)) (F0 m 25 ls [])) : ∀ (r0 : Nat) (a1 : Int32) (a3 : Int32) (H : Heap) (locs : List Loc) (ls : Array Slot), f_X8_whom_b109 h k25 r0 a1 a3 = some z → zG D dA b0 s.heap h H locs → lv_has ls 6 [(0, .ref (b0 + r0)), (1, .int a1), (3, .int a3)] → W p l e rmX8_whom s m args below meth c H locs 0 0 (MQ below (zQ D dA b0 (some (.int z)) h) args s 0 0 (zA b0)) (F0 m 109 ls []) := by
  intro r0 a1 a3 H locs ls hf G hl
  unfold f_X8_whom_b109 at hf
  refine lv_iload_n X.1.1 X.1.2.1 dX8_whom_109 rfl (lv_at hl 2 rfl) ?_
  refine lv_goto (tgt := 114) X.1.1 X.1.2.1 dX8_whom_110 (by decide) ?_
  exact w_X8_whom_b114 X hr hlk _ hk25 _ _ _ _ _ _ _ hf G hl
set_option maxHeartbeats 4000000 in
set_option maxRecDepth 100000 in
theorem w_X8_whom_b79 {p : Program} {l : Launch} {e : Env} {s : State} {m : MethodId} {args : Array Value} {below : List Frame} {meth : Method} {c : Code} {D : va_G} {dA : Nat → ClassId} {b0 : Nat} {h : zH} (X : zX p s m args c cX8_whom 6 RX8 wsX8_whom D dA) (hr : meth.sig.returnType = (some .int)) (hlk : meth.locks = false) {z : Int32} (k25 : Nat → Int32 → Int32 → Int32 → Option (Int32)) (hk25 : ∀ (r0 : Nat) (a1 : Int32) (a2 : Int32) (a3 : Int32) (H : Heap) (locs : List Loc) (ls : Array Slot), k25 r0 a1 a2 a3 = some z → zG D dA b0 s.heap h H locs → lv_has ls 6 [(0, .ref (b0 + r0)), (1, .int a1), (2, .int a2), (3, .int a3)] → W p l e rmX8_whom s m args below meth c H locs 0 0 (MQ below (zQ D dA b0 (some (.int z)) h) args s 0 0 (zA b0)) (F0 m 25 ls [])) (k43 : Nat → Int32 → Int32 → Int32 → Int32 → Int32 → Option (Int32)) (hk43 : ∀ (r0 : Nat) (a1 : Int32) (a2 : Int32) (a3 : Int32) (a4 : Int32) (a5 : Int32) (H : Heap) (locs : List Loc) (ls : Array Slot), k43 r0 a1 a2 a3 a4 a5 = some z → zG D dA b0 s.heap h H locs → lv_has ls 6 [(0, .ref (b0 + r0)), (1, .int a1), (2, .int a2), (3, .int a3), (4, .int a4), (5, .int a5)] → W p l e rmX8_whom s m args below meth c H locs 0 0 (MQ below (zQ D dA b0 (some (.int z)) h) args s 0 0 (zA b0)) (F0 m 43 ls [])) : ∀ (r0 : Nat) (a1 : Int32) (a2 : Int32) (a3 : Int32) (a5 : Int32) (s0 : Int32) (H : Heap) (locs : List Loc) (ls : Array Slot), f_X8_whom_b79 h k25 k43 r0 a1 a2 a3 a5 s0 = some z → zG D dA b0 s.heap h H locs → lv_has ls 6 [(0, .ref (b0 + r0)), (1, .int a1), (2, .int a2), (3, .int a3), (5, .int a5)] → W p l e rmX8_whom s m args below meth c H locs 0 0 (MQ below (zQ D dA b0 (some (.int z)) h) args s 0 0 (zA b0)) (F0 m 79 ls [.int s0]) := by
  intro r0 a1 a2 a3 a5 s0 H locs ls hf G hl
  unfold f_X8_whom_b79 at hf
  refine lv_istore (lv' := [(4, .int s0), (0, .ref (b0 + r0)), (1, .int a1), (2, .int a2), (3, .int a3), (5, .int a5)]) X.1.1 X.1.2.1 dX8_whom_79 hl (by decide) rfl (fun ls hl => ?_)
  refine lv_iinc (v := (a5 + (1 : Int32))) (lv' := [(5, .int (a5 + (1 : Int32))), (4, .int s0), (0, .ref (b0 + r0)), (1, .int a1), (2, .int a2), (3, .int a3)]) X.1.1 X.1.2.1 dX8_whom_81 hl (k := 5) rfl rfl (by decide) rfl (fun ls hl => ?_)
  refine lv_goto (tgt := 43) X.1.1 X.1.2.1 dX8_whom_84 (by decide) ?_
  exact hk43 _ _ _ _ _ _ _ _ _ hf G (lv_sub hl [2, 3, 4, 5, 1, 0] rfl)
set_option maxHeartbeats 4000000 in
set_option maxRecDepth 100000 in
theorem w_X8_whom_b78 {p : Program} {l : Launch} {e : Env} {s : State} {m : MethodId} {args : Array Value} {below : List Frame} {meth : Method} {c : Code} {D : va_G} {dA : Nat → ClassId} {b0 : Nat} {h : zH} (X : zX p s m args c cX8_whom 6 RX8 wsX8_whom D dA) (hr : meth.sig.returnType = (some .int)) (hlk : meth.locks = false) {z : Int32} (k25 : Nat → Int32 → Int32 → Int32 → Option (Int32)) (hk25 : ∀ (r0 : Nat) (a1 : Int32) (a2 : Int32) (a3 : Int32) (H : Heap) (locs : List Loc) (ls : Array Slot), k25 r0 a1 a2 a3 = some z → zG D dA b0 s.heap h H locs → lv_has ls 6 [(0, .ref (b0 + r0)), (1, .int a1), (2, .int a2), (3, .int a3)] → W p l e rmX8_whom s m args below meth c H locs 0 0 (MQ below (zQ D dA b0 (some (.int z)) h) args s 0 0 (zA b0)) (F0 m 25 ls [])) (k43 : Nat → Int32 → Int32 → Int32 → Int32 → Int32 → Option (Int32)) (hk43 : ∀ (r0 : Nat) (a1 : Int32) (a2 : Int32) (a3 : Int32) (a4 : Int32) (a5 : Int32) (H : Heap) (locs : List Loc) (ls : Array Slot), k43 r0 a1 a2 a3 a4 a5 = some z → zG D dA b0 s.heap h H locs → lv_has ls 6 [(0, .ref (b0 + r0)), (1, .int a1), (2, .int a2), (3, .int a3), (4, .int a4), (5, .int a5)] → W p l e rmX8_whom s m args below meth c H locs 0 0 (MQ below (zQ D dA b0 (some (.int z)) h) args s 0 0 (zA b0)) (F0 m 43 ls [])) : ∀ (r0 : Nat) (a1 : Int32) (a2 : Int32) (a3 : Int32) (a5 : Int32) (H : Heap) (locs : List Loc) (ls : Array Slot), f_X8_whom_b78 h k25 k43 r0 a1 a2 a3 a5 = some z → zG D dA b0 s.heap h H locs → lv_has ls 6 [(0, .ref (b0 + r0)), (1, .int a1), (2, .int a2), (3, .int a3), (5, .int a5)] → W p l e rmX8_whom s m args below meth c H locs 0 0 (MQ below (zQ D dA b0 (some (.int z)) h) args s 0 0 (zA b0)) (F0 m 78 ls []) := by
  intro r0 a1 a2 a3 a5 H locs ls hf G hl
  unfold f_X8_whom_b78 at hf
  refine lv_iconst (v := 0) X.1.1 X.1.2.1 dX8_whom_78 (by decide) ?_
  exact w_X8_whom_b79 X hr hlk _ hk25 _ hk43 _ _ _ _ _ _ _ _ _ hf G hl
set_option maxHeartbeats 4000000 in
set_option maxRecDepth 100000 in
theorem w_X8_whom_b43 {p : Program} {l : Launch} {e : Env} {s : State} {m : MethodId} {args : Array Value} {below : List Frame} {meth : Method} {c : Code} {D : va_G} {dA : Nat → ClassId} {b0 : Nat} {h : zH} (X : zX p s m args c cX8_whom 6 RX8 wsX8_whom D dA) (hr : meth.sig.returnType = (some .int)) (hlk : meth.locks = false) {z : Int32} (k25 : Nat → Int32 → Int32 → Int32 → Option (Int32)) (hk25 : ∀ (r0 : Nat) (a1 : Int32) (a2 : Int32) (a3 : Int32) (H : Heap) (locs : List Loc) (ls : Array Slot), k25 r0 a1 a2 a3 = some z → zG D dA b0 s.heap h H locs → lv_has ls 6 [(0, .ref (b0 + r0)), (1, .int a1), (2, .int a2), (3, .int a3)] → W p l e rmX8_whom s m args below meth c H locs 0 0 (MQ below (zQ D dA b0 (some (.int z)) h) args s 0 0 (zA b0)) (F0 m 25 ls [])) : ∀ (n : Nat), ∀ (r0 : Nat) (a1 : Int32) (a2 : Int32) (a3 : Int32) (a4 : Int32) (a5 : Int32) (H : Heap) (locs : List Loc) (ls : Array Slot), f_X8_whom_b43 h k25 n r0 a1 a2 a3 a4 a5 = some z → zG D dA b0 s.heap h H locs → lv_has ls 6 [(0, .ref (b0 + r0)), (1, .int a1), (2, .int a2), (3, .int a3), (4, .int a4), (5, .int a5)] → W p l e rmX8_whom s m args below meth c H locs 0 0 (MQ below (zQ D dA b0 (some (.int z)) h) args s 0 0 (zA b0)) (F0 m 43 ls []) := by
  intro n
  induction n with
  | zero =>
    intro r0 a1 a2 a3 a4 a5 H locs ls hf
    cases hf
  | succ n ih =>
    intro r0 a1 a2 a3 a4 a5 H locs ls hf G hl
    rw [f_X8_whom_b43] at hf
    refine lv_iload X.1.1 X.1.2.1 dX8_whom_43 (lv_at hl 5 rfl) ?_
    refine lv_aload_n X.1.1 X.1.2.1 dX8_whom_45 rfl (lv_at hl 0 rfl) ?_
    refine zgetR (ci := 8) (k := 4) (C := RX8) (T := TX8) (N := 24) X G rfl inX8_whom_X8 (Nat.le_of_ble_eq_true rfl) flX8_whom_19 dX8_whom_46 hf (fun v1 hf => ?_)
    refine lv_iconst (v := 0) X.1.1 X.1.2.1 dX8_whom_49 (by decide) ?_
    refine ziald X G dX8_whom_50 hf (fun v2 hf => ?_)
    refine zic_ge (tgt := 87) X dX8_whom_51 (by decide) hf (fun hf => ?_) (fun hf => ?_)
    · refine lv_iload X.1.1 X.1.2.1 dX8_whom_87 (lv_at hl 4 rfl) ?_
      refine zif_eq (tgt := 113) X dX8_whom_89 (by decide) hf (fun hf => ?_) (fun hf => ?_)
      · exact w_X8_whom_b113 X hr hlk _ hk25 _ _ _ _ _ _ _ hf G (lv_sub hl [0, 1, 2, 3] rfl)
      · refine lv_iload_n X.1.1 X.1.2.1 dX8_whom_92 rfl (lv_at hl 2 rfl) ?_
        refine lv_ldc (v := -1000000) X.1.1 X.1.2.1 X.1.2.2.2.1 (X.1.2.2.2.2 _ coX8_whom_157) dX8_whom_93 ?_
        refine zic_eq (tgt := 109) X dX8_whom_95 (by decide) hf (fun hf => ?_) (fun hf => ?_)
        · exact w_X8_whom_b109 X hr hlk _ hk25 _ _ _ _ _ _ hf G (lv_sub hl [0, 1, 3] rfl)
        · refine lv_iload_n X.1.1 X.1.2.1 dX8_whom_98 rfl (lv_at hl 3 rfl) ?_
          obtain ⟨q3, eq3, hf⟩ := Option.bind_eq_some_iff.mp hf
          refine zcS0 (As := [.int a3]) (rest := []) (v := (some (.int q3))) (h' := h) X G (m_X8_bits l D dA b0 a3 h q3 eq3) (va_cwS 1 X.1.2.2.2.2 gX8_whom_X8_bits rfl rfl rfl hdS_X8_bits ⟨(Nat.le_of_ble_eq_true rfl), (Nat.le_of_ble_eq_true rfl)⟩) rfl hl.1 rfl (Nat.le_of_ble_eq_true rfl) dX8_whom_99 ⟨Nat.zero_le _, Nat.zero_le _⟩ (fun H locs G => ?_)
          refine lv_iload_n X.1.1 X.1.2.1 dX8_whom_102 rfl (lv_at hl 2 rfl) ?_
          obtain ⟨q4, eq4, hf⟩ := Option.bind_eq_some_iff.mp hf
          refine zcS0 (As := [.int a2]) (rest := [.int q3]) (v := (some (.int q4))) (h' := h) X G (m_X8_bits l D dA b0 a2 h q4 eq4) (va_cwS 1 X.1.2.2.2.2 gX8_whom_X8_bits rfl rfl rfl hdS_X8_bits ⟨(Nat.le_of_ble_eq_true rfl), (Nat.le_of_ble_eq_true rfl)⟩) rfl hl.1 rfl (Nat.le_of_ble_eq_true rfl) dX8_whom_103 ⟨Nat.zero_le _, Nat.zero_le _⟩ (fun H locs G => ?_)
          refine zic_ge (tgt := 113) X dX8_whom_106 (by decide) hf (fun hf => ?_) (fun hf => ?_)
          · exact w_X8_whom_b113 X hr hlk _ hk25 _ _ _ _ _ _ _ hf G (lv_sub hl [0, 1, 2, 3] rfl)
          · exact w_X8_whom_b109 X hr hlk _ hk25 _ _ _ _ _ _ hf G (lv_sub hl [0, 1, 3] rfl)
    · refine lv_iload X.1.1 X.1.2.1 dX8_whom_54 (lv_at hl 4 rfl) ?_
      refine zif_eq (tgt := 78) X dX8_whom_56 (by decide) hf (fun hf => ?_) (fun hf => ?_)
      · exact w_X8_whom_b78 X hr hlk _ hk25 _ ih _ _ _ _ _ _ _ _ hf G (lv_sub hl [0, 1, 2, 3, 5] rfl)
      · refine lv_aload_n X.1.1 X.1.2.1 dX8_whom_59 rfl (lv_at hl 0 rfl) ?_
        refine zgetR (ci := 8) (k := 4) (C := RX8) (T := TX8) (N := 24) X G rfl inX8_whom_X8 (Nat.le_of_ble_eq_true rfl) flX8_whom_19 dX8_whom_60 hf (fun v5 hf => ?_)
        refine lv_bipush (v := 23) X.1.1 X.1.2.1 dX8_whom_63 (by decide) ?_
        refine lv_iload X.1.1 X.1.2.1 dX8_whom_65 (lv_at hl 5 rfl) ?_
        refine lv_iadd X.1.1 X.1.2.1 dX8_whom_67 ?_
        refine ziald X G dX8_whom_68 hf (fun v6 hf => ?_)
        refine lv_iload_n X.1.1 X.1.2.1 dX8_whom_69 rfl (lv_at hl 3 rfl) ?_
        refine lv_iand X.1.1 X.1.2.1 dX8_whom_70 ?_
        refine zif_eq (tgt := 78) X dX8_whom_71 (by decide) hf (fun hf => ?_) (fun hf => ?_)
        · exact w_X8_whom_b78 X hr hlk _ hk25 _ ih _ _ _ _ _ _ _ _ hf G (lv_sub hl [0, 1, 2, 3, 5] rfl)
        · refine lv_iconst (v := 1) X.1.1 X.1.2.1 dX8_whom_74 (by decide) ?_
          refine lv_goto (tgt := 79) X.1.1 X.1.2.1 dX8_whom_75 (by decide) ?_
          exact w_X8_whom_b79 X hr hlk _ hk25 _ ih _ _ _ _ _ _ _ _ _ hf G (lv_sub hl [0, 1, 2, 3, 5] rfl)
set_option maxHeartbeats 4000000 in
set_option maxRecDepth 100000 in
theorem w_X8_whom_b25 {p : Program} {l : Launch} {e : Env} {s : State} {m : MethodId} {args : Array Value} {below : List Frame} {meth : Method} {c : Code} {D : va_G} {dA : Nat → ClassId} {b0 : Nat} {h : zH} (X : zX p s m args c cX8_whom 6 RX8 wsX8_whom D dA) (hr : meth.sig.returnType = (some .int)) (hlk : meth.locks = false) {z : Int32} : ∀ (n : Nat), ∀ (r0 : Nat) (a1 : Int32) (a2 : Int32) (a3 : Int32) (H : Heap) (locs : List Loc) (ls : Array Slot), f_X8_whom_b25 h n r0 a1 a2 a3 = some z → zG D dA b0 s.heap h H locs → lv_has ls 6 [(0, .ref (b0 + r0)), (1, .int a1), (2, .int a2), (3, .int a3)] → W p l e rmX8_whom s m args below meth c H locs 0 0 (MQ below (zQ D dA b0 (some (.int z)) h) args s 0 0 (zA b0)) (F0 m 25 ls []) := by
  intro n
  induction n with
  | zero =>
    intro r0 a1 a2 a3 H locs ls hf
    cases hf
  | succ n ih =>
    intro r0 a1 a2 a3 H locs ls hf G hl
    rw [f_X8_whom_b25] at hf
    refine lv_iload_n X.1.1 X.1.2.1 dX8_whom_25 rfl (lv_at hl 3 rfl) ?_
    refine lv_iconst (v := 1) X.1.1 X.1.2.1 dX8_whom_26 (by decide) ?_
    refine lv_aload_n X.1.1 X.1.2.1 dX8_whom_27 rfl (lv_at hl 0 rfl) ?_
    refine zgetR (ci := 8) (k := 4) (C := RX8) (T := TX8) (N := 24) X G rfl inX8_whom_X8 (Nat.le_of_ble_eq_true rfl) flX8_whom_19 dX8_whom_28 hf (fun v1 hf => ?_)
    refine lv_iconst (v := 2) X.1.1 X.1.2.1 dX8_whom_31 (by decide) ?_
    refine ziald X G dX8_whom_32 hf (fun v2 hf => ?_)
    refine lv_ishl X.1.1 X.1.2.1 dX8_whom_33 ?_
    refine zic_ge (tgt := 121) X dX8_whom_34 (by decide) hf (fun hf => ?_) (fun hf => ?_)
    · refine lv_iload_n X.1.1 X.1.2.1 dX8_whom_121 rfl (lv_at hl 2 rfl) ?_
      refine lv_ldc (v := -1000000) X.1.1 X.1.2.1 X.1.2.2.2.1 (X.1.2.2.2.2 _ coX8_whom_157) dX8_whom_122 ?_
      refine zic_eq (tgt := 132) X dX8_whom_124 (by decide) hf (fun hf => ?_) (fun hf => ?_)
      · exact w_X8_whom_b132 X hr hlk _ _ _ _ hf G (lv_sub hl [2] rfl)
      · refine lv_iload_n X.1.1 X.1.2.1 dX8_whom_127 rfl (lv_at hl 1 rfl) ?_
        refine lv_iconst (v := 1) X.1.1 X.1.2.1 dX8_whom_128 (by decide) ?_
        refine zic_ne (tgt := 136) X dX8_whom_129 (by decide) hf (fun hf => ?_) (fun hf => ?_)
        · refine lv_iload_n X.1.1 X.1.2.1 dX8_whom_136 rfl (lv_at hl 2 rfl) ?_
          obtain ⟨q3, eq3, hf⟩ := Option.bind_eq_some_iff.mp hf
          refine zcS0 (As := [.int a2]) (rest := []) (v := (some (.int q3))) (h' := h) X G (m_X8_bits l D dA b0 a2 h q3 eq3) (va_cwS 1 X.1.2.2.2.2 gX8_whom_X8_bits rfl rfl rfl hdS_X8_bits ⟨(Nat.le_of_ble_eq_true rfl), (Nat.le_of_ble_eq_true rfl)⟩) rfl hl.1 rfl (Nat.le_of_ble_eq_true rfl) dX8_whom_137 ⟨Nat.zero_le _, Nat.zero_le _⟩ (fun H locs G => ?_)
          exact zretIr X hr hlk G hf dX8_whom_140
        · exact w_X8_whom_b132 X hr hlk _ _ _ _ hf G (lv_sub hl [2] rfl)
    · refine lv_iconst (v := 1) X.1.1 X.1.2.1 dX8_whom_37 (by decide) ?_
      refine lv_istore (lv' := [(4, .int (1 : Int32)), (0, .ref (b0 + r0)), (1, .int a1), (2, .int a2), (3, .int a3)]) X.1.1 X.1.2.1 dX8_whom_38 hl (by decide) rfl (fun ls hl => ?_)
      refine lv_iconst (v := 0) X.1.1 X.1.2.1 dX8_whom_40 (by decide) ?_
      refine lv_istore (lv' := [(5, .int (0 : Int32)), (4, .int (1 : Int32)), (0, .ref (b0 + r0)), (1, .int a1), (2, .int a2), (3, .int a3)]) X.1.1 X.1.2.1 dX8_whom_41 hl (by decide) rfl (fun ls hl => ?_)
      exact w_X8_whom_b43 X hr hlk _ ih _ _ _ _ _ _ _ _ _ _ hf G (lv_sub hl [2, 3, 4, 5, 1, 0] rfl)
set_option maxHeartbeats 4000000 in
set_option maxRecDepth 100000 in
theorem m_X8_whom (l : Launch) (D : va_G) (dA : Nat → ClassId) (b0 : Nat) (r0 : Nat) (a1 : Int32) (h : zH) (z : Int32) (hf : f_X8_whom r0 a1 h = some z) : Met l yX8_whom wsX8_whom rmX8_whom (zPc D dA b0 [.ref (b0 + r0), .int a1] h) (zQ D dA b0 (some (.int z)) h) 0 0 (zA b0) := by
  refine Met.ofW (cc := cX8_whom) (maxL := 6) (ret := (some .int)) (by decide) rfl ?_
  intro p e s m args below meth c s₁ B hml hv
  obtain ⟨rfl, hP, hz, hK, hN⟩ := hv
  have hr := B.returns
  have hlk := B.notSynchronized
  have X : zX p s m _ c cX8_whom 6 RX8 wsX8_whom D dA := ⟨⟨B.exec, B.bytes, hml, findClass_of_methodNamed B.named, atoms_spec (ws := wsX8_whom) B.pre⟩, hK, hN⟩
  have G : zG D dA b0 s.heap h s.heap [] := ⟨hP, hz, va_S.rf⟩
  have hl := lv_entry ([.ref (b0 + r0), .int a1]) (n := 6) (Nat.le_of_ble_eq_true rfl)
  rw [lg_entry_eq]
  generalize (lg_sl ([.ref (b0 + r0), .int a1]) ++ List.replicate (6 - (lg_sl ([.ref (b0 + r0), .int a1])).length) Slot.unset).toArray = ls at hl ⊢
  have hl : lv_has ls 6 [(0, .ref (b0 + r0)), (1, .int a1)] := hl
  unfold f_X8_whom at hf
  refine lv_aload_n X.1.1 X.1.2.1 dX8_whom_0 rfl (lv_at hl 0 rfl) ?_
  obtain ⟨hk, hf⟩ := zck hf
  obtain ⟨q1, eq1, hf⟩ := Option.bind_eq_some_iff.mp hf
  refine zcV0 (As := []) (rest := []) (v := (some (.int q1))) (h' := h) X G (rfl : vwCl[8]? = some (RX8, TX8, 24)) hk (m_X8_isMine l D dA b0 r0 h q1 eq1) (cwV 0 X.1.2.2.2.2 gX8_whom_X8_isMine rfl rfl rfl hdV_X8_isMine ⟨(Nat.le_of_ble_eq_true rfl), (Nat.le_of_ble_eq_true rfl)⟩) rfl hl.1 rfl (Nat.le_of_ble_eq_true rfl) dX8_whom_1 ⟨Nat.zero_le _, Nat.zero_le _⟩ (fun H locs G => ?_)
  refine zif_ne (tgt := 10) X dX8_whom_4 (by decide) hf (fun hf => ?_) (fun hf => ?_)
  · refine lv_iload_n X.1.1 X.1.2.1 dX8_whom_10 rfl (lv_at hl 1 rfl) ?_
    obtain ⟨q2, eq2, hf⟩ := Option.bind_eq_some_iff.mp hf
    refine zcS0 (As := [.int a1]) (rest := []) (v := (some (.int q2))) (h' := h) X G (m_X8_isTwo l D dA b0 a1 h q2 eq2) (va_cwS 1 X.1.2.2.2.2 gX8_whom_X8_isTwo rfl rfl rfl hdS_X8_isTwo ⟨(Nat.le_of_ble_eq_true rfl), (Nat.le_of_ble_eq_true rfl)⟩) rfl hl.1 rfl (Nat.le_of_ble_eq_true rfl) dX8_whom_11 ⟨Nat.zero_le _, Nat.zero_le _⟩ (fun H locs G => ?_)
    refine zif_ne (tgt := 20) X dX8_whom_14 (by decide) hf (fun hf => ?_) (fun hf => ?_)
    · refine lv_ldc (v := -1000000) X.1.1 X.1.2.1 X.1.2.2.2.1 (X.1.2.2.2.2 _ coX8_whom_157) dX8_whom_20 ?_
      refine lv_istore_n (lv' := [(2, .int (-1000000 : Int32)), (0, .ref (b0 + r0)), (1, .int a1)]) X.1.1 X.1.2.1 dX8_whom_22 rfl hl (by decide) rfl (fun ls hl => ?_)
      refine lv_iconst (v := 0) X.1.1 X.1.2.1 dX8_whom_23 (by decide) ?_
      refine lv_istore_n (lv' := [(3, .int (0 : Int32)), (2, .int (-1000000 : Int32)), (0, .ref (b0 + r0)), (1, .int a1)]) X.1.1 X.1.2.1 dX8_whom_24 rfl hl (by decide) rfl (fun ls hl => ?_)
      exact w_X8_whom_b25 X hr hlk _ _ _ _ _ _ _ _ hf G (lv_sub hl [2, 3, 1, 0] rfl)
    · refine lv_ldc (v := -1000001) X.1.1 X.1.2.1 X.1.2.2.2.1 (X.1.2.2.2.2 _ coX8_whom_70) dX8_whom_17 ?_
      exact zretIr X hr hlk G hf dX8_whom_19
  · refine lv_ldc (v := -1000002) X.1.1 X.1.2.1 X.1.2.2.2.1 (X.1.2.2.2.2 _ coX8_whom_163) dX8_whom_7 ?_
    exact zretIr X hr hlk G hf dX8_whom_9
/-! X8_halves -/
abbrev rmX8_halves : Room := { frames := 2, cells := 0, slots := 0, locals := 45 }
theorem hdV_X8_halves : yX8_halves.cls = RX8 ∧ yX8_halves.cls ≠ "java/lang/invoke/MethodHandle" ∧ yX8_halves.cls ≠ "java/lang/invoke/VarHandle" ∧ (parseMethodDescriptor yX8_halves.desc).map (fun d => d.parameters.length) = some 1 := by decide +kernel
theorem coX8_halves_157 : Cond.constant RX8 157 (-1000000) ∈ wsX8_halves := by decide +kernel
theorem inX8_halves_X8 : ∀ w ∈ wsX80, w ∈ wsX8_halves := by decide +kernel
theorem flX8_halves_19 : Cond.fieldLink RX8 19 (TX8 4).1 (TX8 4).2.1 (TX8 4).2.2.1 ∈ wsX8_halves := by decide +kernel
theorem coX8_halves_70 : Cond.constant RX8 70 (-1000001) ∈ wsX8_halves := by decide +kernel
theorem coX8_halves_163 : Cond.constant RX8 163 (-1000002) ∈ wsX8_halves := by decide +kernel
set_option maxHeartbeats 4000000 in
set_option maxRecDepth 100000 in
theorem w_X8_halves_b123 {p : Program} {l : Launch} {e : Env} {s : State} {m : MethodId} {args : Array Value} {below : List Frame} {meth : Method} {c : Code} {D : va_G} {dA : Nat → ClassId} {b0 : Nat} {h : zH} (X : zX p s m args c cX8_halves 7 RX8 wsX8_halves D dA) (hr : meth.sig.returnType = (some .int)) (hlk : meth.locks = false) {z : Int32} (k28 : Nat → Int32 → Int32 → Int32 → Int32 → Option (Int32)) (hk28 : ∀ (r0 : Nat) (a1 : Int32) (a2 : Int32) (a3 : Int32) (a4 : Int32) (H : Heap) (locs : List Loc) (ls : Array Slot), k28 r0 a1 a2 a3 a4 = some z → zG D dA b0 s.heap h H locs → lv_has ls 7 [(0, .ref (b0 + r0)), (1, .int a1), (2, .int a2), (3, .int a3), (4, .int a4)] → W p l e rmX8_halves s m args below meth c H locs 0 0 (MQ below (zQ D dA b0 (some (.int z)) h) args s 0 0 (zA b0)) (F0 m 28 ls [])) (k45 : Nat → Int32 → Int32 → Int32 → Int32 → Int32 → Option (Int32)) (hk45 : ∀ (r0 : Nat) (a1 : Int32) (a2 : Int32) (a3 : Int32) (a4 : Int32) (a5 : Int32) (H : Heap) (locs : List Loc) (ls : Array Slot), k45 r0 a1 a2 a3 a4 a5 = some z → zG D dA b0 s.heap h H locs → lv_has ls 7 [(0, .ref (b0 + r0)), (1, .int a1), (2, .int a2), (3, .int a3), (4, .int a4), (5, .int a5)] → W p l e rmX8_halves s m args below meth c H locs 0 0 (MQ below (zQ D dA b0 (some (.int z)) h) args s 0 0 (zA b0)) (F0 m 45 ls [])) : ∀ (r0 : Nat) (a1 : Int32) (a2 : Int32) (a4 : Int32) (a5 : Int32) (s0 : Int32) (H : Heap) (locs : List Loc) (ls : Array Slot), f_X8_halves_b123 h k28 k45 r0 a1 a2 a4 a5 s0 = some z → zG D dA b0 s.heap h H locs → lv_has ls 7 [(0, .ref (b0 + r0)), (1, .int a1), (2, .int a2), (4, .int a4), (5, .int a5)] → W p l e rmX8_halves s m args below meth c H locs 0 0 (MQ below (zQ D dA b0 (some (.int z)) h) args s 0 0 (zA b0)) (F0 m 123 ls [.int s0]) := by
  intro r0 a1 a2 a4 a5 s0 H locs ls hf G hl
  unfold f_X8_halves_b123 at hf
  refine lv_istore_n (lv' := [(3, .int s0), (0, .ref (b0 + r0)), (1, .int a1), (2, .int a2), (4, .int a4), (5, .int a5)]) X.1.1 X.1.2.1 dX8_halves_123 rfl hl (by decide) rfl (fun ls hl => ?_)
  refine lv_iinc (v := (a5 + (1 : Int32))) (lv' := [(5, .int (a5 + (1 : Int32))), (3, .int s0), (0, .ref (b0 + r0)), (1, .int a1), (2, .int a2), (4, .int a4)]) X.1.1 X.1.2.1 dX8_halves_124 hl (k := 5) rfl rfl (by decide) rfl (fun ls hl => ?_)
  refine lv_goto (tgt := 45) X.1.1 X.1.2.1 dX8_halves_127 (by decide) ?_
  exact hk45 _ _ _ _ _ _ _ _ _ hf G (lv_sub hl [2, 3, 4, 1, 5, 0] rfl)
set_option maxHeartbeats 4000000 in
set_option maxRecDepth 100000 in
theorem w_X8_halves_b122 {p : Program} {l : Launch} {e : Env} {s : State} {m : MethodId} {args : Array Value} {below : List Frame} {meth : Method} {c : Code} {D : va_G} {dA : Nat → ClassId} {b0 : Nat} {h : zH} (X : zX p s m args c cX8_halves 7 RX8 wsX8_halves D dA) (hr : meth.sig.returnType = (some .int)) (hlk : meth.locks = false) {z : Int32} (k28 : Nat → Int32 → Int32 → Int32 → Int32 → Option (Int32)) (hk28 : ∀ (r0 : Nat) (a1 : Int32) (a2 : Int32) (a3 : Int32) (a4 : Int32) (H : Heap) (locs : List Loc) (ls : Array Slot), k28 r0 a1 a2 a3 a4 = some z → zG D dA b0 s.heap h H locs → lv_has ls 7 [(0, .ref (b0 + r0)), (1, .int a1), (2, .int a2), (3, .int a3), (4, .int a4)] → W p l e rmX8_halves s m args below meth c H locs 0 0 (MQ below (zQ D dA b0 (some (.int z)) h) args s 0 0 (zA b0)) (F0 m 28 ls [])) (k45 : Nat → Int32 → Int32 → Int32 → Int32 → Int32 → Option (Int32)) (hk45 : ∀ (r0 : Nat) (a1 : Int32) (a2 : Int32) (a3 : Int32) (a4 : Int32) (a5 : Int32) (H : Heap) (locs : List Loc) (ls : Array Slot), k45 r0 a1 a2 a3 a4 a5 = some z → zG D dA b0 s.heap h H locs → lv_has ls 7 [(0, .ref (b0 + r0)), (1, .int a1), (2, .int a2), (3, .int a3), (4, .int a4), (5, .int a5)] → W p l e rmX8_halves s m args below meth c H locs 0 0 (MQ below (zQ D dA b0 (some (.int z)) h) args s 0 0 (zA b0)) (F0 m 45 ls [])) : ∀ (r0 : Nat) (a1 : Int32) (a2 : Int32) (a3 : Int32) (a4 : Int32) (a5 : Int32) (H : Heap) (locs : List Loc) (ls : Array Slot), f_X8_halves_b122 h k28 k45 r0 a1 a2 a3 a4 a5 = some z → zG D dA b0 s.heap h H locs → lv_has ls 7 [(0, .ref (b0 + r0)), (1, .int a1), (2, .int a2), (3, .int a3), (4, .int a4), (5, .int a5)] → W p l e rmX8_halves s m args below meth c H locs 0 0 (MQ below (zQ D dA b0 (some (.int z)) h) args s 0 0 (zA b0)) (F0 m 122 ls []) := by
  intro r0 a1 a2 a3 a4 a5 H locs ls hf G hl
  unfold f_X8_halves_b122 at hf
  refine lv_iload_n X.1.1 X.1.2.1 dX8_halves_122 rfl (lv_at hl 3 rfl) ?_
  exact w_X8_halves_b123 X hr hlk _ hk28 _ hk45 _ _ _ _ _ _ _ _ _ hf G (lv_sub hl [0, 1, 2, 4, 5] rfl)
set_option maxHeartbeats 4000000 in
set_option maxRecDepth 100000 in
theorem w_X8_halves_b98 {p : Program} {l : Launch} {e : Env} {s : State} {m : MethodId} {args : Array Value} {below : List Frame} {meth : Method} {c : Code} {D : va_G} {dA : Nat → ClassId} {b0 : Nat} {h : zH} (X : zX p s m args c cX8_halves 7 RX8 wsX8_halves D dA) (hr : meth.sig.returnType = (some .int)) (hlk : meth.locks = false) {z : Int32} (k28 : Nat → Int32 → Int32 → Int32 → Int32 → Option (Int32)) (hk28 : ∀ (r0 : Nat) (a1 : Int32) (a2 : Int32) (a3 : Int32) (a4 : Int32) (H : Heap) (locs : List Loc) (ls : Array Slot), k28 r0 a1 a2 a3 a4 = some z → zG D dA b0 s.heap h H locs → lv_has ls 7 [(0, .ref (b0 + r0)), (1, .int a1), (2, .int a2), (3, .int a3), (4, .int a4)] → W p l e rmX8_halves s m args below meth c H locs 0 0 (MQ below (zQ D dA b0 (some (.int z)) h) args s 0 0 (zA b0)) (F0 m 28 ls [])) (k45 : Nat → Int32 → Int32 → Int32 → Int32 → Int32 → Option (Int32)) (hk45 : ∀ (r0 : Nat) (a1 : Int32) (a2 : Int32) (a3 : Int32) (a4 : Int32) (a5 : Int32) (H : Heap) (locs : List Loc) (ls : Array Slot), k45 r0 a1 a2 a3 a4 a5 = some z → zG D dA b0 s.heap h H locs → lv_has ls 7 [(0, .ref (b0 + r0)), (1, .int a1), (2, .int a2), (3, .int a3), (4, .int a4), (5, .int a5)] → W p l e rmX8_halves s m args below meth c H locs 0 0 (MQ below (zQ D dA b0 (some (.int z)) h) args s 0 0 (zA b0)) (F0 m 45 ls [])) : ∀ (r0 : Nat) (a1 : Int32) (a3 : Int32) (a4 : Int32) (a5 : Int32) (a6 : Int32) (s0 : Int32) (s1 : Int32) (H : Heap) (locs : List Loc) (ls : Array Slot), f_X8_halves_b98 h k28 k45 r0 a1 a3 a4 a5 a6 s0 s1 = some z → zG D dA b0 s.heap h H locs → lv_has ls 7 [(0, .ref (b0 + r0)), (1, .int a1), (3, .int a3), (4, .int a4), (5, .int a5), (6, .int a6)] → W p l e rmX8_halves s m args below meth c H locs 0 0 (MQ below (zQ D dA b0 (some (.int z)) h) args s 0 0 (zA b0)) (F0 m 98 ls [.int s1, .int s0]) := by
  intro r0 a1 a3 a4 a5 a6 s0 s1 H locs ls hf G hl
  unfold f_X8_halves_b98 at hf
  refine lv_iadd X.1.1 X.1.2.1 dX8_halves_98 ?_
  refine zleti hf (fun x1 hf => ?_)
  refine lv_istore_n (lv' := [(2, .int x1), (0, .ref (b0 + r0)), (1, .int a1), (3, .int a3), (4, .int a4), (5, .int a5), (6, .int a6)]) X.1.1 X.1.2.1 dX8_halves_99 rfl hl (by decide) rfl (fun ls hl => ?_)
  refine lv_iload X.1.1 X.1.2.1 dX8_halves_100 (lv_at hl 6 rfl) ?_
  refine zif_eq (tgt := 122) X dX8_halves_102 (by decide) hf (fun hf => ?_) (fun hf => ?_)
  · exact w_X8_halves_b122 X hr hlk _ hk28 _ hk45 _ _ _ _ _ _ _ _ _ hf G (lv_sub hl [1, 2, 0, 3, 4, 5] rfl)
  · refine lv_iload_n X.1.1 X.1.2.1 dX8_halves_105 rfl (lv_at hl 3 rfl) ?_
    refine lv_ldc (v := -1000000) X.1.1 X.1.2.1 X.1.2.2.2.1 (X.1.2.2.2.2 _ coX8_halves_157) dX8_halves_106 ?_
    refine zic_ne (tgt := 122) X dX8_halves_108 (by decide) hf (fun hf => ?_) (fun hf => ?_)
    · exact w_X8_halves_b122 X hr hlk _ hk28 _ hk45 _ _ _ _ _ _ _ _ _ hf G (lv_sub hl [1, 2, 0, 3, 4, 5] rfl)
    · refine lv_bipush (v := 10) X.1.1 X.1.2.1 dX8_halves_111 (by decide) ?_
      refine lv_iload X.1.1 X.1.2.1 dX8_halves_113 (lv_at hl 4 rfl) ?_
      refine lv_imul X.1.1 X.1.2.1 dX8_halves_115 ?_
      refine lv_iload X.1.1 X.1.2.1 dX8_halves_116 (lv_at hl 5 rfl) ?_
      refine lv_iadd X.1.1 X.1.2.1 dX8_halves_118 ?_
      refine lv_goto (tgt := 123) X.1.1 X.1.2.1 dX8_halves_119 (by decide) ?_
      exact w_X8_halves_b123 X hr hlk _ hk28 _ hk45 _ _ _ _ _ _ _ _ _ hf G (lv_sub hl [1, 2, 0, 4, 5] rfl)
set_option maxHeartbeats 4000000 in
set_option maxRecDepth 100000 in
theorem w_X8_halves_b85 {p : Program} {l : Launch} {e : Env} {s : State} {m : MethodId} {args : Array Value} {below : List Frame} {meth : Method} {c : Code} {D : va_G} {dA : Nat → ClassId} {b0 : Nat} {h : zH} (X : zX p s m args c cX8_halves 7 RX8 wsX8_halves D dA) (hr : meth.sig.returnType = (some .int)) (hlk : meth.locks = false) {z : Int32} (k28 : Nat → Int32 → Int32 → Int32 → Int32 → Option (Int32)) (hk28 : ∀ (r0 : Nat) (a1 : Int32) (a2 : Int32) (a3 : Int32) (a4 : Int32) (H : Heap) (locs : List Loc) (ls : Array Slot), k28 r0 a1 a2 a3 a4 = some z → zG D dA b0 s.heap h H locs → lv_has ls 7 [(0, .ref (b0 + r0)), (1, .int a1), (2, .int a2), (3, .int a3), (4, .int a4)] → W p l e rmX8_halves s m args below meth c H locs 0 0 (MQ below (zQ D dA b0 (some (.int z)) h) args s 0 0 (zA b0)) (F0 m 28 ls [])) (k45 : Nat → Int32 → Int32 → Int32 → Int32 → Int32 → Option (Int32)) (hk45 : ∀ (r0 : Nat) (a1 : Int32) (a2 : Int32) (a3 : Int32) (a4 : Int32) (a5 : Int32) (H : Heap) (locs : List Loc) (ls : Array Slot), k45 r0 a1 a2 a3 a4 a5 = some z → zG D dA b0 s.heap h H locs → lv_has ls 7 [(0, .ref (b0 + r0)), (1, .int a1), (2, .int a2), (3, .int a3), (4, .int a4), (5, .int a5)] → W p l e rmX8_halves s m args below meth c H locs 0 0 (MQ below (zQ D dA b0 (some (.int z)) h) args s 0 0 (zA b0)) (F0 m 45 ls [])) : ∀ (r0 : Nat) (a1 : Int32) (a2 : Int32) (a3 : Int32) (a4 : Int32) (a5 : Int32) (s0 : Int32) (H : Heap) (locs : List Loc) (ls : Array Slot), f_X8_halves_b85 h k28 k45 r0 a1 a2 a3 a4 a5 s0 = some z → zG D dA b0 s.heap h H locs → lv_has ls 7 [(0, .ref (b0 + r0)), (1, .int a1), (2, .int a2), (3, .int a3), (4, .int a4), (5, .int a5)] → W p l e rmX8_halves s m args below meth c H locs 0 0 (MQ below (zQ D dA b0 (some (.int z)) h) args s 0 0 (zA b0)) (F0 m 85 ls [.int s0]) := by
  intro r0 a1 a2 a3 a4 a5 s0 H locs ls hf G hl
  unfold f_X8_halves_b85 at hf
  refine lv_istore (lv' := [(6, .int s0), (0, .ref (b0 + r0)), (1, .int a1), (2, .int a2), (3, .int a3), (4, .int a4), (5, .int a5)]) X.1.1 X.1.2.1 dX8_halves_85 hl (by decide) rfl (fun ls hl => ?_)
  refine lv_iload_n X.1.1 X.1.2.1 dX8_halves_87 rfl (lv_at hl 3 rfl) ?_
  refine lv_iload X.1.1 X.1.2.1 dX8_halves_88 (lv_at hl 0 rfl) ?_
  refine zif_eq (tgt := 97) X dX8_halves_90 (by decide) hf (fun hf => ?_) (fun hf => ?_)
  · refine lv_iconst (v := 0) X.1.1 X.1.2.1 dX8_halves_97 (by decide) ?_
    exact w_X8_halves_b98 X hr hlk _ hk28 _ hk45 _ _ _ _ _ _ _ _ _ _ _ hf G (lv_sub hl [1, 2, 4, 5, 6, 0] rfl)
  · refine lv_iconst (v := 1) X.1.1 X.1.2.1 dX8_halves_93 (by decide) ?_
    refine lv_goto (tgt := 98) X.1.1 X.1.2.1 dX8_halves_94 (by decide) ?_
    exact w_X8_halves_b98 X hr hlk _ hk28 _ hk45 _ _ _ _ _ _ _ _ _ _ _ hf G (lv_sub hl [1, 2, 4, 5, 6, 0] rfl)
set_option maxHeartbeats 4000000 in
set_option maxRecDepth 100000 in
theorem w_X8_halves_b45 {p : Program} {l : Launch} {e : Env} {s : State} {m : MethodId} {args : Array Value} {below : List Frame} {meth : Method} {c : Code} {D : va_G} {dA : Nat → ClassId} {b0 : Nat} {h : zH} (X : zX p s m args c cX8_halves 7 RX8 wsX8_halves D dA) (hr : meth.sig.returnType = (some .int)) (hlk : meth.locks = false) {z : Int32} (k28 : Nat → Int32 → Int32 → Int32 → Int32 → Option (Int32)) (hk28 : ∀ (r0 : Nat) (a1 : Int32) (a2 : Int32) (a3 : Int32) (a4 : Int32) (H : Heap) (locs : List Loc) (ls : Array Slot), k28 r0 a1 a2 a3 a4 = some z → zG D dA b0 s.heap h H locs → lv_has ls 7 [(0, .ref (b0 + r0)), (1, .int a1), (2, .int a2), (3, .int a3), (4, .int a4)] → W p l e rmX8_halves s m args below meth c H locs 0 0 (MQ below (zQ D dA b0 (some (.int z)) h) args s 0 0 (zA b0)) (F0 m 28 ls [])) : ∀ (n : Nat), ∀ (r0 : Nat) (a1 : Int32) (a2 : Int32) (a3 : Int32) (a4 : Int32) (a5 : Int32) (H : Heap) (locs : List Loc) (ls : Array Slot), f_X8_halves_b45 h k28 n r0 a1 a2 a3 a4 a5 = some z → zG D dA b0 s.heap h H locs → lv_has ls 7 [(0, .ref (b0 + r0)), (1, .int a1), (2, .int a2), (3, .int a3), (4, .int a4), (5, .int a5)] → W p l e rmX8_halves s m args below meth c H locs 0 0 (MQ below (zQ D dA b0 (some (.int z)) h) args s 0 0 (zA b0)) (F0 m 45 ls []) := by
  intro n
  induction n with
  | zero =>
    intro r0 a1 a2 a3 a4 a5 H locs ls hf
    cases hf
  | succ n ih =>
    intro r0 a1 a2 a3 a4 a5 H locs ls hf G hl
    rw [f_X8_halves_b45] at hf
    refine lv_iload X.1.1 X.1.2.1 dX8_halves_45 (lv_at hl 5 rfl) ?_
    refine lv_aload_n X.1.1 X.1.2.1 dX8_halves_47 rfl (lv_at hl 0 rfl) ?_
    refine zgetR (ci := 8) (k := 4) (C := RX8) (T := TX8) (N := 24) X G rfl inX8_halves_X8 (Nat.le_of_ble_eq_true rfl) flX8_halves_19 dX8_halves_48 hf (fun v1 hf => ?_)
    refine lv_iconst (v := 0) X.1.1 X.1.2.1 dX8_halves_51 (by decide) ?_
    refine ziald X G dX8_halves_52 hf (fun v2 hf => ?_)
    refine zic_ge (tgt := 130) X dX8_halves_53 (by decide) hf (fun hf => ?_) (fun hf => ?_)
    · refine lv_iinc (v := (a4 + (1 : Int32))) (lv' := [(4, .int (a4 + (1 : Int32))), (0, .ref (b0 + r0)), (1, .int a1), (2, .int a2), (3, .int a3), (5, .int a5)]) X.1.1 X.1.2.1 dX8_halves_130 hl (k := 4) rfl rfl (by decide) rfl (fun ls hl => ?_)
      refine lv_goto (tgt := 28) X.1.1 X.1.2.1 dX8_halves_133 (by decide) ?_
      exact hk28 _ _ _ _ _ _ _ _ hf G (lv_sub hl [1, 2, 3, 4, 0] rfl)
    · refine lv_aload_n X.1.1 X.1.2.1 dX8_halves_56 rfl (lv_at hl 0 rfl) ?_
      refine zgetR (ci := 8) (k := 4) (C := RX8) (T := TX8) (N := 24) X G rfl inX8_halves_X8 (Nat.le_of_ble_eq_true rfl) flX8_halves_19 dX8_halves_57 hf (fun v3 hf => ?_)
      refine lv_bipush (v := 23) X.1.1 X.1.2.1 dX8_halves_60 (by decide) ?_
      refine lv_iload X.1.1 X.1.2.1 dX8_halves_62 (lv_at hl 4 rfl) ?_
      refine lv_iadd X.1.1 X.1.2.1 dX8_halves_64 ?_
      refine ziald X G dX8_halves_65 hf (fun v4 hf => ?_)
      refine lv_aload_n X.1.1 X.1.2.1 dX8_halves_66 rfl (lv_at hl 0 rfl) ?_
      refine zgetR (ci := 8) (k := 4) (C := RX8) (T := TX8) (N := 24) X G rfl inX8_halves_X8 (Nat.le_of_ble_eq_true rfl) flX8_halves_19 dX8_halves_67 hf (fun v5 hf => ?_)
      refine lv_bipush (v := 23) X.1.1 X.1.2.1 dX8_halves_70 (by decide) ?_
      refine lv_iload X.1.1 X.1.2.1 dX8_halves_72 (lv_at hl 5 rfl) ?_
      refine lv_iadd X.1.1 X.1.2.1 dX8_halves_74 ?_
      refine ziald X G dX8_halves_75 hf (fun v6 hf => ?_)
      refine lv_iand X.1.1 X.1.2.1 dX8_halves_76 ?_
      refine zif_eq (tgt := 84) X dX8_halves_77 (by decide) hf (fun hf => ?_) (fun hf => ?_)
      · refine lv_iconst (v := 0) X.1.1 X.1.2.1 dX8_halves_84 (by decide) ?_
        exact w_X8_halves_b85 X hr hlk _ hk28 _ ih _ _ _ _ _ _ _ _ _ _ hf G hl
      · refine lv_iconst (v := 1) X.1.1 X.1.2.1 dX8_halves_80 (by decide) ?_
        refine lv_goto (tgt := 85) X.1.1 X.1.2.1 dX8_halves_81 (by decide) ?_
        exact w_X8_halves_b85 X hr hlk _ hk28 _ ih _ _ _ _ _ _ _ _ _ _ hf G hl
set_option maxHeartbeats 4000000 in
set_option maxRecDepth 100000 in
theorem w_X8_halves_b28 {p : Program} {l : Launch} {e : Env} {s : State} {m : MethodId} {args : Array Value} {below : List Frame} {meth : Method} {c : Code} {D : va_G} {dA : Nat → ClassId} {b0 : Nat} {h : zH} (X : zX p s m args c cX8_halves 7 RX8 wsX8_halves D dA) (hr : meth.sig.returnType = (some .int)) (hlk : meth.locks = false) {z : Int32} : ∀ (n : Nat), ∀ (r0 : Nat) (a1 : Int32) (a2 : Int32) (a3 : Int32) (a4 : Int32) (H : Heap) (locs : List Loc) (ls : Array Slot), f_X8_halves_b28 h n r0 a1 a2 a3 a4 = some z → zG D dA b0 s.heap h H locs → lv_has ls 7 [(0, .ref (b0 + r0)), (1, .int a1), (2, .int a2), (3, .int a3), (4, .int a4)] → W p l e rmX8_halves s m args below meth c H locs 0 0 (MQ below (zQ D dA b0 (some (.int z)) h) args s 0 0 (zA b0)) (F0 m 28 ls []) := by
  intro n
  induction n with
  | zero =>
    intro r0 a1 a2 a3 a4 H locs ls hf
    cases hf
  | succ n ih =>
    intro r0 a1 a2 a3 a4 H locs ls hf G hl
    rw [f_X8_halves_b28] at hf
    refine lv_iload X.1.1 X.1.2.1 dX8_halves_28 (lv_at hl 4 rfl) ?_
    refine lv_aload_n X.1.1 X.1.2.1 dX8_halves_30 rfl (lv_at hl 0 rfl) ?_
    refine zgetR (ci := 8) (k := 4) (C := RX8) (T := TX8) (N := 24) X G rfl inX8_halves_X8 (Nat.le_of_ble_eq_true rfl) flX8_halves_19 dX8_halves_31 hf (fun v1 hf => ?_)
    refine lv_iconst (v := 0) X.1.1 X.1.2.1 dX8_halves_34 (by decide) ?_
    refine ziald X G dX8_halves_35 hf (fun v2 hf => ?_)
    refine zic_ge (tgt := 136) X dX8_halves_36 (by decide) hf (fun hf => ?_) (fun hf => ?_)
    · refine lv_iload_n X.1.1 X.1.2.1 dX8_halves_136 rfl (lv_at hl 1 rfl) ?_
      refine zif_ne (tgt := 144) X dX8_halves_137 (by decide) hf (fun hf => ?_) (fun hf => ?_)
      · refine lv_iload_n X.1.1 X.1.2.1 dX8_halves_144 rfl (lv_at hl 3 rfl) ?_
        exact zretIr X hr hlk G hf dX8_halves_145
      · refine lv_iload_n X.1.1 X.1.2.1 dX8_halves_140 rfl (lv_at hl 2 rfl) ?_
        refine lv_goto (tgt := 145) X.1.1 X.1.2.1 dX8_halves_141 (by decide) ?_
        exact zretIr X hr hlk G hf dX8_halves_145
    · refine lv_iload X.1.1 X.1.2.1 dX8_halves_39 (lv_at hl 4 rfl) ?_
      refine lv_iconst (v := 1) X.1.1 X.1.2.1 dX8_halves_41 (by decide) ?_
      refine lv_iadd X.1.1 X.1.2.1 dX8_halves_42 ?_
      refine zleti hf (fun x3 hf => ?_)
      refine lv_istore (lv' := [(5, .int x3), (0, .ref (b0 + r0)), (1, .int a1), (2, .int a2), (3, .int a3), (4, .int a4)]) X.1.1 X.1.2.1 dX8_halves_43 hl (by decide) rfl (fun ls hl => ?_)
      exact w_X8_halves_b45 X hr hlk _ ih _ _ _ _ _ _ _ _ _ _ hf G (lv_sub hl [1, 2, 3, 4, 5, 0] rfl)
set_option maxHeartbeats 4000000 in
set_option maxRecDepth 100000 in
theorem m_X8_halves (l : Launch) (D : va_G) (dA : Nat → ClassId) (b0 : Nat) (r0 : Nat) (a1 : Int32) (h : zH) (z : Int32) (hf : f_X8_halves r0 a1 h = some z) : Met l yX8_halves wsX8_halves rmX8_halves (zPc D dA b0 [.ref (b0 + r0), .int a1] h) (zQ D dA b0 (some (.int z)) h) 0 0 (zA b0) := by
  refine Met.ofW (cc := cX8_halves) (maxL := 7) (ret := (some .int)) (by decide) rfl ?_
  intro p e s m args below meth c s₁ B hml hv
  obtain ⟨rfl, hP, hz, hK, hN⟩ := hv
  have hr := B.returns
  have hlk := B.notSynchronized
  have X : zX p s m _ c cX8_halves 7 RX8 wsX8_halves D dA := ⟨⟨B.exec, B.bytes, hml, findClass_of_methodNamed B.named, atoms_spec (ws := wsX8_halves) B.pre⟩, hK, hN⟩
  have G : zG D dA b0 s.heap h s.heap [] := ⟨hP, hz, va_S.rf⟩
  have hl := lv_entry ([.ref (b0 + r0), .int a1]) (n := 7) (Nat.le_of_ble_eq_true rfl)
  rw [lg_entry_eq]
  generalize (lg_sl ([.ref (b0 + r0), .int a1]) ++ List.replicate (7 - (lg_sl ([.ref (b0 + r0), .int a1])).length) Slot.unset).toArray = ls at hl ⊢
  have hl : lv_has ls 7 [(0, .ref (b0 + r0)), (1, .int a1)] := hl
  unfold f_X8_halves at hf
  refine lv_aload_n X.1.1 X.1.2.1 dX8_halves_0 rfl (lv_at hl 0 rfl) ?_
  obtain ⟨hk, hf⟩ := zck hf
  obtain ⟨q1, eq1, hf⟩ := Option.bind_eq_some_iff.mp hf
  refine zcV0 (As := []) (rest := []) (v := (some (.int q1))) (h' := h) X G (rfl : vwCl[8]? = some (RX8, TX8, 24)) hk (m_X8_isMine l D dA b0 r0 h q1 eq1) (cwV 0 X.1.2.2.2.2 gX8_halves_X8_isMine rfl rfl rfl hdV_X8_isMine ⟨(Nat.le_of_ble_eq_true rfl), (Nat.le_of_ble_eq_true rfl)⟩) rfl hl.1 rfl (Nat.le_of_ble_eq_true rfl) dX8_halves_1 ⟨Nat.zero_le _, Nat.zero_le _⟩ (fun H locs G => ?_)
  refine zif_ne (tgt := 10) X dX8_halves_4 (by decide) hf (fun hf => ?_) (fun hf => ?_)
  · refine lv_iload_n X.1.1 X.1.2.1 dX8_halves_10 rfl (lv_at hl 1 rfl) ?_
    obtain ⟨q2, eq2, hf⟩ := Option.bind_eq_some_iff.mp hf
    refine zcS0 (As := [.int a1]) (rest := []) (v := (some (.int q2))) (h' := h) X G (m_X8_isTwo l D dA b0 a1 h q2 eq2) (va_cwS 1 X.1.2.2.2.2 gX8_halves_X8_isTwo rfl rfl rfl hdS_X8_isTwo ⟨(Nat.le_of_ble_eq_true rfl), (Nat.le_of_ble_eq_true rfl)⟩) rfl hl.1 rfl (Nat.le_of_ble_eq_true rfl) dX8_halves_11 ⟨Nat.zero_le _, Nat.zero_le _⟩ (fun H locs G => ?_)
    refine zif_ne (tgt := 20) X dX8_halves_14 (by decide) hf (fun hf => ?_) (fun hf => ?_)
    · refine lv_iconst (v := 0) X.1.1 X.1.2.1 dX8_halves_20 (by decide) ?_
      refine lv_istore_n (lv' := [(2, .int (0 : Int32)), (0, .ref (b0 + r0)), (1, .int a1)]) X.1.1 X.1.2.1 dX8_halves_21 rfl hl (by decide) rfl (fun ls hl => ?_)
      refine lv_ldc (v := -1000000) X.1.1 X.1.2.1 X.1.2.2.2.1 (X.1.2.2.2.2 _ coX8_halves_157) dX8_halves_22 ?_
      refine lv_istore_n (lv' := [(3, .int (-1000000 : Int32)), (2, .int (0 : Int32)), (0, .ref (b0 + r0)), (1, .int a1)]) X.1.1 X.1.2.1 dX8_halves_24 rfl hl (by decide) rfl (fun ls hl => ?_)
      refine lv_iconst (v := 0) X.1.1 X.1.2.1 dX8_halves_25 (by decide) ?_
      refine lv_istore (lv' := [(4, .int (0 : Int32)), (3, .int (-1000000 : Int32)), (2, .int (0 : Int32)), (0, .ref (b0 + r0)), (1, .int a1)]) X.1.1 X.1.2.1 dX8_halves_26 hl (by decide) rfl (fun ls hl => ?_)
      exact w_X8_halves_b28 X hr hlk _ _ _ _ _ _ _ _ _ hf G (lv_sub hl [3, 4, 2, 1, 0] rfl)
    · refine lv_ldc (v := -1000001) X.1.1 X.1.2.1 X.1.2.2.2.1 (X.1.2.2.2.2 _ coX8_halves_70) dX8_halves_17 ?_
      exact zretIr X hr hlk G hf dX8_halves_19
  · refine lv_ldc (v := -1000002) X.1.1 X.1.2.1 X.1.2.2.2.1 (X.1.2.2.2.2 _ coX8_halves_163) dX8_halves_7 ?_
    exact zretIr X hr hlk G hf dX8_halves_9
/-! X8_comes -/
abbrev rmX8_comes : Room := { frames := 4, cells := 0, slots := 0, locals := 90 }
theorem hdV_X8_comes : yX8_comes.cls = RX8 ∧ yX8_comes.cls ≠ "java/lang/invoke/MethodHandle" ∧ yX8_comes.cls ≠ "java/lang/invoke/VarHandle" ∧ (parseMethodDescriptor yX8_comes.desc).map (fun d => d.parameters.length) = some 4 := by decide +kernel
theorem inX8_comes_X8 : ∀ w ∈ wsX80, w ∈ wsX8_comes := by decide +kernel
theorem flX8_comes_16 : Cond.fieldLink RX8 16 (TX8 2).1 (TX8 2).2.1 (TX8 2).2.2.1 ∈ wsX8_comes := by decide +kernel
theorem flX8_comes_25 : Cond.fieldLink RX8 25 (TX8 6).1 (TX8 6).2.1 (TX8 6).2.2.1 ∈ wsX8_comes := by decide +kernel
set_option maxHeartbeats 4000000 in
set_option maxRecDepth 100000 in
theorem w_X8_comes_b64 {p : Program} {l : Launch} {e : Env} {s : State} {m : MethodId} {args : Array Value} {below : List Frame} {meth : Method} {c : Code} {D : va_G} {dA : Nat → ClassId} {b0 : Nat} (X : zX p s m args c cX8_comes 7 RX8 wsX8_comes D dA) (hr : meth.sig.returnType = (some .boolean)) (hlk : meth.locks = false) {z : Int32 × zH} (k6 : Nat → Int32 → Int32 → Int32 → Int32 → Int32 → Int32 → zH → Option (Int32 × zH)) (hk6 : ∀ (r0 : Nat) (a1 : Int32) (a2 : Int32) (a3 : Int32) (a4 : Int32) (a5 : Int32) (a6 : Int32) (h : zH) (H : Heap) (locs : List Loc) (ls : Array Slot), k6 r0 a1 a2 a3 a4 a5 a6 h = some z → zG D dA b0 s.heap h H locs → lv_has ls 7 [(0, .ref (b0 + r0)), (1, .int a1), (2, .int a2), (3, .int a3), (4, .int a4), (5, .int a5), (6, .int a6)] → W p l e rmX8_comes s m args below meth c H locs 0 0 (MQ below (zQ D dA b0 (some (.int z.1)) z.2) args s 0 0 (zA b0)) (F0 m 6 ls [])) : ∀ (r0 : Nat) (a1 : Int32) (a2 : Int32) (a3 : Int32) (a4 : Int32) (a6 : Int32) (s0 : Int32) (h : zH) (H : Heap) (locs : List Loc) (ls : Array Slot), f_X8_comes_b64 k6 r0 a1 a2 a3 a4 a6 s0 h = some z → zG D dA b0 s.heap h H locs → lv_has ls 7 [(0, .ref (b0 + r0)), (1, .int a1), (2, .int a2), (3, .int a3), (4, .int a4), (6, .int a6)] → W p l e rmX8_comes s m args below meth c H locs 0 0 (MQ below (zQ D dA b0 (some (.int z.1)) z.2) args s 0 0 (zA b0)) (F0 m 64 ls [.int s0]) := by
  intro r0 a1 a2 a3 a4 a6 s0 h H locs ls hf G hl
  unfold f_X8_comes_b64 at hf
  refine lv_istore (lv' := [(5, .int s0), (0, .ref (b0 + r0)), (1, .int a1), (2, .int a2), (3, .int a3), (4, .int a4), (6, .int a6)]) X.1.1 X.1.2.1 dX8_comes_64 hl (by decide) rfl (fun ls hl => ?_)
  refine lv_iinc (v := (a6 + (1 : Int32))) (lv' := [(6, .int (a6 + (1 : Int32))), (5, .int s0), (0, .ref (b0 + r0)), (1, .int a1), (2, .int a2), (3, .int a3), (4, .int a4)]) X.1.1 X.1.2.1 dX8_comes_66 hl (k := 6) rfl rfl (by decide) rfl (fun ls hl => ?_)
  refine lv_goto (tgt := 6) X.1.1 X.1.2.1 dX8_comes_69 (by decide) ?_
  exact hk6 _ _ _ _ _ _ _ _ _ _ _ hf G (lv_sub hl [2, 3, 4, 5, 6, 1, 0] rfl)
set_option maxHeartbeats 4000000 in
set_option maxRecDepth 100000 in
theorem w_X8_comes_b63 {p : Program} {l : Launch} {e : Env} {s : State} {m : MethodId} {args : Array Value} {below : List Frame} {meth : Method} {c : Code} {D : va_G} {dA : Nat → ClassId} {b0 : Nat} (X : zX p s m args c cX8_comes 7 RX8 wsX8_comes D dA) (hr : meth.sig.returnType = (some .boolean)) (hlk : meth.locks = false) {z : Int32 × zH} (k6 : Nat → Int32 → Int32 → Int32 → Int32 → Int32 → Int32 → zH → Option (Int32 × zH)) (hk6 : ∀ (r0 : Nat) (a1 : Int32) (a2 : Int32) (a3 : Int32) (a4 : Int32) (a5 : Int32) (a6 : Int32) (h : zH) (H : Heap) (locs : List Loc) (ls : Array Slot), k6 r0 a1 a2 a3 a4 a5 a6 h = some z → zG D dA b0 s.heap h H locs → lv_has ls 7 [(0, .ref (b0 + r0)), (1, .int a1), (2, .int a2), (3, .int a3), (4, .int a4), (5, .int a5), (6, .int a6)] → W p l e rmX8_comes s m args below meth c H locs 0 0 (MQ below (zQ D dA b0 (some (.int z.1)) z.2) args s 0 0 (zA b0)) (F0 m 6 ls [])) : ∀ (r0 : Nat) (a1 : Int32) (a2 : Int32) (a3 : Int32) (a4 : Int32) (a6 : Int32) (h : zH) (H : Heap) (locs : List Loc) (ls : Array Slot), f_X8_comes_b63 k6 r0 a1 a2 a3 a4 a6 h = some z → zG D dA b0 s.heap h H locs → lv_has ls 7 [(0, .ref (b0 + r0)), (1, .int a1), (2, .int a2), (3, .int a3), (4, .int a4), (6, .int a6)] → W p l e rmX8_comes s m args below meth c H locs 0 0 (MQ below (zQ D dA b0 (some (.int z.1)) z.2) args s 0 0 (zA b0)) (F0 m 63 ls []) := by
  intro r0 a1 a2 a3 a4 a6 h H locs ls hf G hl
  unfold f_X8_comes_b63 at hf
  refine lv_iconst (v := 0) X.1.1 X.1.2.1 dX8_comes_63 (by decide) ?_
  exact w_X8_comes_b64 X hr hlk _ hk6 _ _ _ _ _ _ _ _ _ _ _ hf G hl
set_option maxHeartbeats 4000000 in
set_option maxRecDepth 100000 in
theorem w_X8_comes_b56 {p : Program} {l : Launch} {e : Env} {s : State} {m : MethodId} {args : Array Value} {below : List Frame} {meth : Method} {c : Code} {D : va_G} {dA : Nat → ClassId} {b0 : Nat} (X : zX p s m args c cX8_comes 7 RX8 wsX8_comes D dA) (hr : meth.sig.returnType = (some .boolean)) (hlk : meth.locks = false) {z : Int32 × zH} (k6 : Nat → Int32 → Int32 → Int32 → Int32 → Int32 → Int32 → zH → Option (Int32 × zH)) (hk6 : ∀ (r0 : Nat) (a1 : Int32) (a2 : Int32) (a3 : Int32) (a4 : Int32) (a5 : Int32) (a6 : Int32) (h : zH) (H : Heap) (locs : List Loc) (ls : Array Slot), k6 r0 a1 a2 a3 a4 a5 a6 h = some z → zG D dA b0 s.heap h H locs → lv_has ls 7 [(0, .ref (b0 + r0)), (1, .int a1), (2, .int a2), (3, .int a3), (4, .int a4), (5, .int a5), (6, .int a6)] → W p l e rmX8_comes s m args below meth c H locs 0 0 (MQ below (zQ D dA b0 (some (.int z.1)) z.2) args s 0 0 (zA b0)) (F0 m 6 ls [])) : ∀ (r0 : Nat) (a1 : Int32) (a2 : Int32) (a3 : Int32) (a4 : Int32) (a6 : Int32) (s0 : Int32) (s1 : Int32) (h : zH) (H : Heap) (locs : List Loc) (ls : Array Slot), f_X8_comes_b56 k6 r0 a1 a2 a3 a4 a6 s0 s1 h = some z → zG D dA b0 s.heap h H locs → lv_has ls 7 [(0, .ref (b0 + r0)), (1, .int a1), (2, .int a2), (3, .int a3), (4, .int a4), (6, .int a6)] → W p l e rmX8_comes s m args below meth c H locs 0 0 (MQ below (zQ D dA b0 (some (.int z.1)) z.2) args s 0 0 (zA b0)) (F0 m 56 ls [.int s1, .int s0]) := by
  intro r0 a1 a2 a3 a4 a6 s0 s1 h H locs ls hf G hl
  unfold f_X8_comes_b56 at hf
  refine zic_ne (tgt := 63) X dX8_comes_56 (by decide) hf (fun hf => ?_) (fun hf => ?_)
  · exact w_X8_comes_b63 X hr hlk _ hk6 _ _ _ _ _ _ _ _ _ _ hf G hl
  · refine lv_iconst (v := 1) X.1.1 X.1.2.1 dX8_comes_59 (by decide) ?_
    refine lv_goto (tgt := 64) X.1.1 X.1.2.1 dX8_comes_60 (by decide) ?_
    exact w_X8_comes_b64 X hr hlk _ hk6 _ _ _ _ _ _ _ _ _ _ _ hf G hl
set_option maxHeartbeats 4000000 in
set_option maxRecDepth 100000 in
theorem w_X8_comes_b6 {p : Program} {l : Launch} {e : Env} {s : State} {m : MethodId} {args : Array Value} {below : List Frame} {meth : Method} {c : Code} {D : va_G} {dA : Nat → ClassId} {b0 : Nat} (X : zX p s m args c cX8_comes 7 RX8 wsX8_comes D dA) (hr : meth.sig.returnType = (some .boolean)) (hlk : meth.locks = false) {z : Int32 × zH} : ∀ (n : Nat), ∀ (r0 : Nat) (a1 : Int32) (a2 : Int32) (a3 : Int32) (a4 : Int32) (a5 : Int32) (a6 : Int32) (h : zH) (H : Heap) (locs : List Loc) (ls : Array Slot), f_X8_comes_b6 n r0 a1 a2 a3 a4 a5 a6 h = some z → zG D dA b0 s.heap h H locs → lv_has ls 7 [(0, .ref (b0 + r0)), (1, .int a1), (2, .int a2), (3, .int a3), (4, .int a4), (5, .int a5), (6, .int a6)] → W p l e rmX8_comes s m args below meth c H locs 0 0 (MQ below (zQ D dA b0 (some (.int z.1)) z.2) args s 0 0 (zA b0)) (F0 m 6 ls []) := by
  intro n
  induction n with
  | zero =>
    intro r0 a1 a2 a3 a4 a5 a6 h H locs ls hf
    cases hf
  | succ n ih =>
    intro r0 a1 a2 a3 a4 a5 a6 h H locs ls hf G hl
    rw [f_X8_comes_b6] at hf
    refine lv_iload X.1.1 X.1.2.1 dX8_comes_6 (lv_at hl 6 rfl) ?_
    refine lv_iload_n X.1.1 X.1.2.1 dX8_comes_8 rfl (lv_at hl 3 rfl) ?_
    refine zic_ge (tgt := 72) X dX8_comes_9 (by decide) hf (fun hf => ?_) (fun hf => ?_)
    · refine lv_iload X.1.1 X.1.2.1 dX8_comes_72 (lv_at hl 5 rfl) ?_
      exact zretZ X hr hlk G hf dX8_comes_74
    · refine lv_aload_n X.1.1 X.1.2.1 dX8_comes_12 rfl (lv_at hl 0 rfl) ?_
      refine lv_iconst (v := 1) X.1.1 X.1.2.1 dX8_comes_13 (by decide) ?_
      obtain ⟨hk, hf⟩ := zck hf
      obtain ⟨q1, eq1, hf⟩ := Option.bind_eq_some_iff.mp hf
      refine zcV0 (As := [.int (1 : Int32)]) (rest := []) (v := none) (h' := q1) X G (rfl : vwCl[8]? = some (RX8, TX8, 24)) hk (m_X8_go l D dA b0 r0 (1 : Int32) h q1 eq1) (cwV 1 X.1.2.2.2.2 gX8_comes_X8_go rfl rfl rfl hdV_X8_go ⟨(Nat.le_of_ble_eq_true rfl), (Nat.le_of_ble_eq_true rfl)⟩) rfl hl.1 rfl (Nat.le_of_ble_eq_true rfl) dX8_comes_14 ⟨Nat.zero_le _, Nat.zero_le _⟩ (fun H locs G => ?_)
      refine lv_iload X.1.1 X.1.2.1 dX8_comes_17 (lv_at hl 5 rfl) ?_
      refine zif_eq (tgt := 63) X dX8_comes_19 (by decide) hf (fun hf => ?_) (fun hf => ?_)
      · exact w_X8_comes_b63 X hr hlk _ ih _ _ _ _ _ _ _ _ _ _ hf G (lv_sub hl [0, 1, 2, 3, 4, 6] rfl)
      · refine lv_aload_n X.1.1 X.1.2.1 dX8_comes_22 rfl (lv_at hl 0 rfl) ?_
        refine zgetR (ci := 8) (k := 2) (C := RX8) (T := TX8) (N := 24) X G rfl inX8_comes_X8 (Nat.le_of_ble_eq_true rfl) flX8_comes_16 dX8_comes_23 hf (fun v2 hf => ?_)
        refine lv_iload_n X.1.1 X.1.2.1 dX8_comes_26 rfl (lv_at hl 2 rfl) ?_
        refine lv_iload X.1.1 X.1.2.1 dX8_comes_27 (lv_at hl 6 rfl) ?_
        refine lv_iadd X.1.1 X.1.2.1 dX8_comes_29 ?_
        refine ziald X G dX8_comes_30 hf (fun v3 hf => ?_)
        refine lv_iload X.1.1 X.1.2.1 dX8_comes_31 (lv_at hl 4 rfl) ?_
        refine zif_eq (tgt := 47) X dX8_comes_33 (by decide) hf (fun hf => ?_) (fun hf => ?_)
        · refine lv_aload_n X.1.1 X.1.2.1 dX8_comes_47 rfl (lv_at hl 0 rfl) ?_
          refine zgetR (ci := 8) (k := 6) (C := RX8) (T := TX8) (N := 24) X G rfl inX8_comes_X8 (Nat.le_of_ble_eq_true rfl) flX8_comes_25 dX8_comes_48 hf (fun v4 hf => ?_)
          refine lv_bipush (v := 13) X.1.1 X.1.2.1 dX8_comes_51 (by decide) ?_
          refine lv_iload_n X.1.1 X.1.2.1 dX8_comes_53 rfl (lv_at hl 1 rfl) ?_
          refine lv_iadd X.1.1 X.1.2.1 dX8_comes_54 ?_
          refine ziald X G dX8_comes_55 hf (fun v5 hf => ?_)
          exact w_X8_comes_b56 X hr hlk _ ih _ _ _ _ _ _ _ _ _ _ _ _ hf G (lv_sub hl [0, 1, 2, 3, 4, 6] rfl)
        · refine lv_aload_n X.1.1 X.1.2.1 dX8_comes_36 rfl (lv_at hl 0 rfl) ?_
          refine zgetR (ci := 8) (k := 6) (C := RX8) (T := TX8) (N := 24) X G rfl inX8_comes_X8 (Nat.le_of_ble_eq_true rfl) flX8_comes_25 dX8_comes_37 hf (fun v6 hf => ?_)
          refine lv_iload_n X.1.1 X.1.2.1 dX8_comes_40 rfl (lv_at hl 1 rfl) ?_
          obtain ⟨q7, eq7, hf⟩ := Option.bind_eq_some_iff.mp hf
          refine zcS0 (As := [.ref (b0 + v6), .int a1]) (rest := [.int v3]) (v := (some (.int q7))) (h' := q1) X G (m_X8_nearTo l D dA b0 v6 a1 q1 q7 eq7) (va_cwS 2 X.1.2.2.2.2 gX8_comes_X8_nearTo rfl rfl rfl hdS_X8_nearTo ⟨(Nat.le_of_ble_eq_true rfl), (Nat.le_of_ble_eq_true rfl)⟩) rfl hl.1 rfl (Nat.le_of_ble_eq_true rfl) dX8_comes_41 ⟨Nat.zero_le _, Nat.zero_le _⟩ (fun H locs G => ?_)
          refine lv_goto (tgt := 56) X.1.1 X.1.2.1 dX8_comes_44 (by decide) ?_
          exact w_X8_comes_b56 X hr hlk _ ih _ _ _ _ _ _ _ _ _ _ _ _ hf G (lv_sub hl [0, 1, 2, 3, 4, 6] rfl)
set_option maxHeartbeats 4000000 in
set_option maxRecDepth 100000 in
theorem m_X8_comes (l : Launch) (D : va_G) (dA : Nat → ClassId) (b0 : Nat) (r0 : Nat) (a1 : Int32) (a2 : Int32) (a3 : Int32) (a4 : Int32) (h : zH) (z : Int32 × zH) (hf : f_X8_comes r0 a1 a2 a3 a4 h = some z) : Met l yX8_comes wsX8_comes rmX8_comes (zPc D dA b0 [.ref (b0 + r0), .int a1, .int a2, .int a3, .int a4] h) (zQ D dA b0 (some (.int z.1)) z.2) 0 0 (zA b0) := by
  refine Met.ofW (cc := cX8_comes) (maxL := 7) (ret := (some .boolean)) (by decide) rfl ?_
  intro p e s m args below meth c s₁ B hml hv
  obtain ⟨rfl, hP, hz, hK, hN⟩ := hv
  have hr := B.returns
  have hlk := B.notSynchronized
  have X : zX p s m _ c cX8_comes 7 RX8 wsX8_comes D dA := ⟨⟨B.exec, B.bytes, hml, findClass_of_methodNamed B.named, atoms_spec (ws := wsX8_comes) B.pre⟩, hK, hN⟩
  have G : zG D dA b0 s.heap h s.heap [] := ⟨hP, hz, va_S.rf⟩
  have hl := lv_entry ([.ref (b0 + r0), .int a1, .int a2, .int a3, .int a4]) (n := 7) (Nat.le_of_ble_eq_true rfl)
  rw [lg_entry_eq]
  generalize (lg_sl ([.ref (b0 + r0), .int a1, .int a2, .int a3, .int a4]) ++ List.replicate (7 - (lg_sl ([.ref (b0 + r0), .int a1, .int a2, .int a3, .int a4])).length) Slot.unset).toArray = ls at hl ⊢
  have hl : lv_has ls 7 [(0, .ref (b0 + r0)), (1, .int a1), (2, .int a2), (3, .int a3), (4, .int a4)] := hl
  unfold f_X8_comes at hf
  refine lv_iconst (v := 1) X.1.1 X.1.2.1 dX8_comes_0 (by decide) ?_
  refine lv_istore (lv' := [(5, .int (1 : Int32)), (0, .ref (b0 + r0)), (1, .int a1), (2, .int a2), (3, .int a3), (4, .int a4)]) X.1.1 X.1.2.1 dX8_comes_1 hl (by decide) rfl (fun ls hl => ?_)
  refine lv_iconst (v := 0) X.1.1 X.1.2.1 dX8_comes_3 (by decide) ?_
  refine lv_istore (lv' := [(6, .int (0 : Int32)), (5, .int (1 : Int32)), (0, .ref (b0 + r0)), (1, .int a1), (2, .int a2), (3, .int a3), (4, .int a4)]) X.1.1 X.1.2.1 dX8_comes_4 hl (by decide) rfl (fun ls hl => ?_)
  exact w_X8_comes_b6 X hr hlk _ _ _ _ _ _ _ _ _ _ _ _ hf G (lv_sub hl [2, 3, 4, 5, 6, 1, 0] rfl)
