/-! X8_tooNear -/
abbrev rmX8_tooNear : Room := { frames := 1, cells := 0, slots := 0, locals := 21 }
theorem hdS_X8_tooNear : yX8_tooNear.cls ≠ "java/lang/invoke/MethodHandle" ∧ yX8_tooNear.cls ≠ "java/lang/invoke/VarHandle" ∧ (parseMethodDescriptor yX8_tooNear.desc).map (fun d => d.parameters.length) = some 3 := by decide +kernel
set_option maxHeartbeats 4000000 in
set_option maxRecDepth 100000 in
theorem m_X8_tooNear (l : Launch) (D : va_G) (dA : Nat → ClassId) (b0 : Nat) (r0 : Nat) (a1 : Int32) (a2 : Int32) (h : zH) (z : Int32) (hf : f_X8_tooNear r0 a1 a2 h = some z) : Met l yX8_tooNear wsX8_tooNear rmX8_tooNear (zPc D dA b0 [.ref (b0 + r0), .int a1, .int a2] h) (zQ D dA b0 (some (.int z)) h) 0 0 (zA b0) := by
  refine Met.ofW (cc := cX8_tooNear) (maxL := 3) (ret := (some .boolean)) (by decide) rfl ?_
  intro p e s m args below meth c s₁ B hml hv
  obtain ⟨rfl, hP, hz, hK, hN⟩ := hv
  have hr := B.returns
  have hlk := B.notSynchronized
  have X : zX p s m _ c cX8_tooNear 3 RX8 wsX8_tooNear D dA := ⟨⟨B.exec, B.bytes, hml, findClass_of_methodNamed B.named, atoms_spec (ws := wsX8_tooNear) B.pre⟩, hK, hN⟩
  have G : zG D dA b0 s.heap h s.heap [] := ⟨hP, hz, va_S.rf⟩
  have hl := lv_entry ([.ref (b0 + r0), .int a1, .int a2]) (n := 3) (Nat.le_of_ble_eq_true rfl)
  rw [lg_entry_eq]
  generalize (lg_sl ([.ref (b0 + r0), .int a1, .int a2]) ++ List.replicate (3 - (lg_sl ([.ref (b0 + r0), .int a1, .int a2])).length) Slot.unset).toArray = ls at hl ⊢
  have hl : lv_has ls 3 [(0, .ref (b0 + r0)), (1, .int a1), (2, .int a2)] := hl
  unfold f_X8_tooNear at hf
  refine lv_iload_n X.1.1 X.1.2.1 dX8_tooNear_0 rfl (lv_at hl 1 rfl) ?_
  refine lv_iload_n X.1.1 X.1.2.1 dX8_tooNear_1 rfl (lv_at hl 2 rfl) ?_
  refine zic_eq (tgt := 67) X dX8_tooNear_2 (by decide) hf (fun hf => ?_) (fun hf => ?_)
  · refine lv_iconst (v := 0) X.1.1 X.1.2.1 dX8_tooNear_67 (by decide) ?_
    exact zretZr X hr hlk G hf dX8_tooNear_68
  · refine lv_aload_n X.1.1 X.1.2.1 dX8_tooNear_5 rfl (lv_at hl 0 rfl) ?_
    refine lv_iload_n X.1.1 X.1.2.1 dX8_tooNear_6 rfl (lv_at hl 1 rfl) ?_
    obtain ⟨q1, eq1, hf⟩ := Option.bind_eq_some_iff.mp hf
    refine zcS0 (As := [.ref (b0 + r0), .int a1]) (rest := []) (v := (some (.int q1))) (h' := h) X G (m_X8_lies l D dA b0 r0 a1 h q1 eq1) (va_cwS 2 X.1.2.2.2.2 gX8_tooNear_X8_lies rfl rfl rfl hdS_X8_lies ⟨(Nat.le_of_ble_eq_true rfl), (Nat.le_of_ble_eq_true rfl)⟩) rfl hl.1 rfl (Nat.le_of_ble_eq_true rfl) dX8_tooNear_7 ⟨Nat.zero_le _, Nat.zero_le _⟩ (fun H locs G => ?_)
    refine zif_eq (tgt := 67) X dX8_tooNear_10 (by decide) hf (fun hf => ?_) (fun hf => ?_)
    · refine lv_iconst (v := 0) X.1.1 X.1.2.1 dX8_tooNear_67 (by decide) ?_
      exact zretZr X hr hlk G hf dX8_tooNear_68
    · refine lv_aload_n X.1.1 X.1.2.1 dX8_tooNear_13 rfl (lv_at hl 0 rfl) ?_
      refine lv_iload_n X.1.1 X.1.2.1 dX8_tooNear_14 rfl (lv_at hl 2 rfl) ?_
      obtain ⟨q2, eq2, hf⟩ := Option.bind_eq_some_iff.mp hf
      refine zcS0 (As := [.ref (b0 + r0), .int a2]) (rest := []) (v := (some (.int q2))) (h' := h) X G (m_X8_lies l D dA b0 r0 a2 h q2 eq2) (va_cwS 2 X.1.2.2.2.2 gX8_tooNear_X8_lies rfl rfl rfl hdS_X8_lies ⟨(Nat.le_of_ble_eq_true rfl), (Nat.le_of_ble_eq_true rfl)⟩) rfl hl.1 rfl (Nat.le_of_ble_eq_true rfl) dX8_tooNear_15 ⟨Nat.zero_le _, Nat.zero_le _⟩ (fun H locs G => ?_)
      refine zif_eq (tgt := 67) X dX8_tooNear_18 (by decide) hf (fun hf => ?_) (fun hf => ?_)
      · refine lv_iconst (v := 0) X.1.1 X.1.2.1 dX8_tooNear_67 (by decide) ?_
        exact zretZr X hr hlk G hf dX8_tooNear_68
      · refine lv_aload_n X.1.1 X.1.2.1 dX8_tooNear_21 rfl (lv_at hl 0 rfl) ?_
        refine lv_bipush (v := 18) X.1.1 X.1.2.1 dX8_tooNear_22 (by decide) ?_
        refine lv_iload_n X.1.1 X.1.2.1 dX8_tooNear_24 rfl (lv_at hl 1 rfl) ?_
        refine lv_iadd X.1.1 X.1.2.1 dX8_tooNear_25 ?_
        refine ziald X G dX8_tooNear_26 hf (fun v3 hf => ?_)
        refine lv_aload_n X.1.1 X.1.2.1 dX8_tooNear_27 rfl (lv_at hl 0 rfl) ?_
        refine lv_bipush (v := 18) X.1.1 X.1.2.1 dX8_tooNear_28 (by decide) ?_
        refine lv_iload_n X.1.1 X.1.2.1 dX8_tooNear_30 rfl (lv_at hl 2 rfl) ?_
        refine lv_iadd X.1.1 X.1.2.1 dX8_tooNear_31 ?_
        refine ziald X G dX8_tooNear_32 hf (fun v4 hf => ?_)
        refine lv_isub X.1.1 X.1.2.1 dX8_tooNear_33 ?_
        obtain ⟨q5, eq5, hf⟩ := Option.bind_eq_some_iff.mp hf
        refine zcS0 (As := [.int (v3 - v4)]) (rest := []) (v := (some (.int q5))) (h' := h) X G (m_X8_abs l D dA b0 ((v3 - v4)) h q5 eq5) (va_cwS 1 X.1.2.2.2.2 gX8_tooNear_X8_abs rfl rfl rfl hdS_X8_abs ⟨(Nat.le_of_ble_eq_true rfl), (Nat.le_of_ble_eq_true rfl)⟩) rfl hl.1 rfl (Nat.le_of_ble_eq_true rfl) dX8_tooNear_34 ⟨Nat.zero_le _, Nat.zero_le _⟩ (fun H locs G => ?_)
        refine lv_iconst (v := 2) X.1.1 X.1.2.1 dX8_tooNear_37 (by decide) ?_
        refine zic_ge (tgt := 67) X dX8_tooNear_38 (by decide) hf (fun hf => ?_) (fun hf => ?_)
        · refine lv_iconst (v := 0) X.1.1 X.1.2.1 dX8_tooNear_67 (by decide) ?_
          exact zretZr X hr hlk G hf dX8_tooNear_68
        · refine lv_aload_n X.1.1 X.1.2.1 dX8_tooNear_41 rfl (lv_at hl 0 rfl) ?_
          refine lv_bipush (v := 13) X.1.1 X.1.2.1 dX8_tooNear_42 (by decide) ?_
          refine lv_iload_n X.1.1 X.1.2.1 dX8_tooNear_44 rfl (lv_at hl 1 rfl) ?_
          refine lv_iadd X.1.1 X.1.2.1 dX8_tooNear_45 ?_
          refine ziald X G dX8_tooNear_46 hf (fun v6 hf => ?_)
          refine lv_aload_n X.1.1 X.1.2.1 dX8_tooNear_47 rfl (lv_at hl 0 rfl) ?_
          refine lv_bipush (v := 13) X.1.1 X.1.2.1 dX8_tooNear_48 (by decide) ?_
          refine lv_iload_n X.1.1 X.1.2.1 dX8_tooNear_50 rfl (lv_at hl 2 rfl) ?_
          refine lv_iadd X.1.1 X.1.2.1 dX8_tooNear_51 ?_
          refine ziald X G dX8_tooNear_52 hf (fun v7 hf => ?_)
          refine lv_isub X.1.1 X.1.2.1 dX8_tooNear_53 ?_
          obtain ⟨q8, eq8, hf⟩ := Option.bind_eq_some_iff.mp hf
          refine zcS0 (As := [.int (v6 - v7)]) (rest := []) (v := (some (.int q8))) (h' := h) X G (m_X8_abs l D dA b0 ((v6 - v7)) h q8 eq8) (va_cwS 1 X.1.2.2.2.2 gX8_tooNear_X8_abs rfl rfl rfl hdS_X8_abs ⟨(Nat.le_of_ble_eq_true rfl), (Nat.le_of_ble_eq_true rfl)⟩) rfl hl.1 rfl (Nat.le_of_ble_eq_true rfl) dX8_tooNear_54 ⟨Nat.zero_le _, Nat.zero_le _⟩ (fun H locs G => ?_)
          refine lv_aload_n X.1.1 X.1.2.1 dX8_tooNear_57 rfl (lv_at hl 0 rfl) ?_
          refine lv_iconst (v := 1) X.1.1 X.1.2.1 dX8_tooNear_58 (by decide) ?_
          refine ziald X G dX8_tooNear_59 hf (fun v9 hf => ?_)
          refine zic_gt (tgt := 67) X dX8_tooNear_60 (by decide) hf (fun hf => ?_) (fun hf => ?_)
          · refine lv_iconst (v := 0) X.1.1 X.1.2.1 dX8_tooNear_67 (by decide) ?_
            exact zretZr X hr hlk G hf dX8_tooNear_68
          · refine lv_iconst (v := 1) X.1.1 X.1.2.1 dX8_tooNear_63 (by decide) ?_
            refine lv_goto (tgt := 68) X.1.1 X.1.2.1 dX8_tooNear_64 (by decide) ?_
            exact zretZr X hr hlk G hf dX8_tooNear_68
/-! X8_nearTo -/
abbrev rmX8_nearTo : Room := { frames := 2, cells := 0, slots := 0, locals := 43 }
theorem hdS_X8_nearTo : yX8_nearTo.cls ≠ "java/lang/invoke/MethodHandle" ∧ yX8_nearTo.cls ≠ "java/lang/invoke/VarHandle" ∧ (parseMethodDescriptor yX8_nearTo.desc).map (fun d => d.parameters.length) = some 2 := by decide +kernel
set_option maxHeartbeats 4000000 in
set_option maxRecDepth 100000 in
theorem w_X8_nearTo_b28 {p : Program} {l : Launch} {e : Env} {s : State} {m : MethodId} {args : Array Value} {below : List Frame} {meth : Method} {c : Code} {D : va_G} {dA : Nat → ClassId} {b0 : Nat} {h : zH} (X : zX p s m args c cX8_nearTo 4 RX8 wsX8_nearTo D dA) (hr : meth.sig.returnType = (some .int)) (hlk : meth.locks = false) {z : Int32} (k4 : Nat → Int32 → Int32 → Int32 → Option (Int32)) (hk4 : ∀ (r0 : Nat) (a1 : Int32) (a2 : Int32) (a3 : Int32) (H : Heap) (locs : List Loc) (ls : Array Slot), k4 r0 a1 a2 a3 = some z → zG D dA b0 s.heap h H locs → lv_has ls 4 [(0, .ref (b0 + r0)), (1, .int a1), (2, .int a2), (3, .int a3)] → W p l e rmX8_nearTo s m args below meth c H locs 0 0 (MQ below (zQ D dA b0 (some (.int z)) h) args s 0 0 (zA b0)) (F0 m 4 ls [])) : ∀ (r0 : Nat) (a1 : Int32) (a3 : Int32) (s0 : Int32) (s1 : Int32) (H : Heap) (locs : List Loc) (ls : Array Slot), f_X8_nearTo_b28 h k4 r0 a1 a3 s0 s1 = some z → zG D dA b0 s.heap h H locs → lv_has ls 4 [(0, .ref (b0 + r0)), (1, .int a1), (3, .int a3)] → W p l e rmX8_nearTo s m args below meth c H locs 0 0 (MQ below (zQ D dA b0 (some (.int z)) h) args s 0 0 (zA b0)) (F0 m 28 ls [.int s1, .int s0]) := by
  intro r0 a1 a3 s0 s1 H locs ls hf G hl
  unfold f_X8_nearTo_b28 at hf
  refine lv_ior X.1.1 X.1.2.1 dX8_nearTo_28 ?_
  refine zleti hf (fun x1 hf => ?_)
  refine lv_istore_n (lv' := [(2, .int x1), (0, .ref (b0 + r0)), (1, .int a1), (3, .int a3)]) X.1.1 X.1.2.1 dX8_nearTo_29 rfl hl (by decide) rfl (fun ls hl => ?_)
  refine lv_iinc (v := (a3 + (1 : Int32))) (lv' := [(3, .int (a3 + (1 : Int32))), (2, .int x1), (0, .ref (b0 + r0)), (1, .int a1)]) X.1.1 X.1.2.1 dX8_nearTo_30 hl (k := 3) rfl rfl (by decide) rfl (fun ls hl => ?_)
  refine lv_goto (tgt := 4) X.1.1 X.1.2.1 dX8_nearTo_33 (by decide) ?_
  exact hk4 _ _ _ _ _ _ _ hf G (lv_sub hl [2, 3, 1, 0] rfl)
set_option maxHeartbeats 4000000 in
set_option maxRecDepth 100000 in
theorem w_X8_nearTo_b4 {p : Program} {l : Launch} {e : Env} {s : State} {m : MethodId} {args : Array Value} {below : List Frame} {meth : Method} {c : Code} {D : va_G} {dA : Nat → ClassId} {b0 : Nat} {h : zH} (X : zX p s m args c cX8_nearTo 4 RX8 wsX8_nearTo D dA) (hr : meth.sig.returnType = (some .int)) (hlk : meth.locks = false) {z : Int32} : ∀ (n : Nat), ∀ (r0 : Nat) (a1 : Int32) (a2 : Int32) (a3 : Int32) (H : Heap) (locs : List Loc) (ls : Array Slot), f_X8_nearTo_b4 h n r0 a1 a2 a3 = some z → zG D dA b0 s.heap h H locs → lv_has ls 4 [(0, .ref (b0 + r0)), (1, .int a1), (2, .int a2), (3, .int a3)] → W p l e rmX8_nearTo s m args below meth c H locs 0 0 (MQ below (zQ D dA b0 (some (.int z)) h) args s 0 0 (zA b0)) (F0 m 4 ls []) := by
  intro n
  induction n with
  | zero =>
    intro r0 a1 a2 a3 H locs ls hf
    cases hf
  | succ n ih =>
    intro r0 a1 a2 a3 H locs ls hf G hl
    rw [f_X8_nearTo_b4] at hf
    refine lv_iload_n X.1.1 X.1.2.1 dX8_nearTo_4 rfl (lv_at hl 3 rfl) ?_
    refine lv_aload_n X.1.1 X.1.2.1 dX8_nearTo_5 rfl (lv_at hl 0 rfl) ?_
    refine lv_iconst (v := 0) X.1.1 X.1.2.1 dX8_nearTo_6 (by decide) ?_
    refine ziald X G dX8_nearTo_7 hf (fun v1 hf => ?_)
    refine zic_ge (tgt := 36) X dX8_nearTo_8 (by decide) hf (fun hf => ?_) (fun hf => ?_)
    · refine lv_iload_n X.1.1 X.1.2.1 dX8_nearTo_36 rfl (lv_at hl 2 rfl) ?_
      exact zretIr X hr hlk G hf dX8_nearTo_37
    · refine lv_iload_n X.1.1 X.1.2.1 dX8_nearTo_11 rfl (lv_at hl 2 rfl) ?_
      refine lv_aload_n X.1.1 X.1.2.1 dX8_nearTo_12 rfl (lv_at hl 0 rfl) ?_
      refine lv_iload_n X.1.1 X.1.2.1 dX8_nearTo_13 rfl (lv_at hl 1 rfl) ?_
      refine lv_iload_n X.1.1 X.1.2.1 dX8_nearTo_14 rfl (lv_at hl 3 rfl) ?_
      obtain ⟨q2, eq2, hf⟩ := Option.bind_eq_some_iff.mp hf
      refine zcS0 (As := [.ref (b0 + r0), .int a1, .int a3]) (rest := [.int a2]) (v := (some (.int q2))) (h' := h) X G (m_X8_tooNear l D dA b0 r0 a1 a3 h q2 eq2) (va_cwS 3 X.1.2.2.2.2 gX8_nearTo_X8_tooNear rfl rfl rfl hdS_X8_tooNear ⟨(Nat.le_of_ble_eq_true rfl), (Nat.le_of_ble_eq_true rfl)⟩) rfl hl.1 rfl (Nat.le_of_ble_eq_true rfl) dX8_nearTo_15 ⟨Nat.zero_le _, Nat.zero_le _⟩ (fun H locs G => ?_)
      refine zif_eq (tgt := 27) X dX8_nearTo_18 (by decide) hf (fun hf => ?_) (fun hf => ?_)
      · refine lv_iconst (v := 0) X.1.1 X.1.2.1 dX8_nearTo_27 (by decide) ?_
        exact w_X8_nearTo_b28 X hr hlk _ ih _ _ _ _ _ _ _ _ hf G (lv_sub hl [0, 1, 3] rfl)
      · refine lv_iconst (v := 1) X.1.1 X.1.2.1 dX8_nearTo_21 (by decide) ?_
        refine lv_iload_n X.1.1 X.1.2.1 dX8_nearTo_22 rfl (lv_at hl 3 rfl) ?_
        refine lv_ishl X.1.1 X.1.2.1 dX8_nearTo_23 ?_
        refine lv_goto (tgt := 28) X.1.1 X.1.2.1 dX8_nearTo_24 (by decide) ?_
        exact w_X8_nearTo_b28 X hr hlk _ ih _ _ _ _ _ _ _ _ hf G (lv_sub hl [0, 1, 3] rfl)
set_option maxHeartbeats 4000000 in
set_option maxRecDepth 100000 in
theorem m_X8_nearTo (l : Launch) (D : va_G) (dA : Nat → ClassId) (b0 : Nat) (r0 : Nat) (a1 : Int32) (h : zH) (z : Int32) (hf : f_X8_nearTo r0 a1 h = some z) : Met l yX8_nearTo wsX8_nearTo rmX8_nearTo (zPc D dA b0 [.ref (b0 + r0), .int a1] h) (zQ D dA b0 (some (.int z)) h) 0 0 (zA b0) := by
  refine Met.ofW (cc := cX8_nearTo) (maxL := 4) (ret := (some .int)) (by decide) rfl ?_
  intro p e s m args below meth c s₁ B hml hv
  obtain ⟨rfl, hP, hz, hK, hN⟩ := hv
  have hr := B.returns
  have hlk := B.notSynchronized
  have X : zX p s m _ c cX8_nearTo 4 RX8 wsX8_nearTo D dA := ⟨⟨B.exec, B.bytes, hml, findClass_of_methodNamed B.named, atoms_spec (ws := wsX8_nearTo) B.pre⟩, hK, hN⟩
  have G : zG D dA b0 s.heap h s.heap [] := ⟨hP, hz, va_S.rf⟩
  have hl := lv_entry ([.ref (b0 + r0), .int a1]) (n := 4) (Nat.le_of_ble_eq_true rfl)
  rw [lg_entry_eq]
  generalize (lg_sl ([.ref (b0 + r0), .int a1]) ++ List.replicate (4 - (lg_sl ([.ref (b0 + r0), .int a1])).length) Slot.unset).toArray = ls at hl ⊢
  have hl : lv_has ls 4 [(0, .ref (b0 + r0)), (1, .int a1)] := hl
  unfold f_X8_nearTo at hf
  refine lv_iconst (v := 0) X.1.1 X.1.2.1 dX8_nearTo_0 (by decide) ?_
  refine lv_istore_n (lv' := [(2, .int (0 : Int32)), (0, .ref (b0 + r0)), (1, .int a1)]) X.1.1 X.1.2.1 dX8_nearTo_1 rfl hl (by decide) rfl (fun ls hl => ?_)
  refine lv_iconst (v := 0) X.1.1 X.1.2.1 dX8_nearTo_2 (by decide) ?_
  refine lv_istore_n (lv' := [(3, .int (0 : Int32)), (2, .int (0 : Int32)), (0, .ref (b0 + r0)), (1, .int a1)]) X.1.1 X.1.2.1 dX8_nearTo_3 rfl hl (by decide) rfl (fun ls hl => ?_)
  exact w_X8_nearTo_b4 X hr hlk _ _ _ _ _ _ _ _ hf G (lv_sub hl [2, 3, 1, 0] rfl)
/-! X8_twoOf -/
abbrev rmX8_twoOf : Room := { frames := 2, cells := 0, slots := 0, locals := 43 }
theorem hdS_X8_twoOf : yX8_twoOf.cls ≠ "java/lang/invoke/MethodHandle" ∧ yX8_twoOf.cls ≠ "java/lang/invoke/VarHandle" ∧ (parseMethodDescriptor yX8_twoOf.desc).map (fun d => d.parameters.length) = some 1 := by decide +kernel
theorem coX8_twoOf_157 : Cond.constant RX8 157 (-1000000) ∈ wsX8_twoOf := by decide +kernel
set_option maxHeartbeats 4000000 in
set_option maxRecDepth 100000 in
theorem w_X8_twoOf_b13 {p : Program} {l : Launch} {e : Env} {s : State} {m : MethodId} {args : Array Value} {below : List Frame} {meth : Method} {c : Code} {D : va_G} {dA : Nat → ClassId} {b0 : Nat} {h : zH} (X : zX p s m args c cX8_twoOf 3 RX8 wsX8_twoOf D dA) (hr : meth.sig.returnType = (some .int)) (hlk : meth.locks = false) {z : Int32} (k2 : Nat → Int32 → Option (Int32)) (hk2 : ∀ (r0 : Nat) (a1 : Int32) (H : Heap) (locs : List Loc) (ls : Array Slot), k2 r0 a1 = some z → zG D dA b0 s.heap h H locs → lv_has ls 3 [(0, .ref (b0 + r0)), (1, .int a1)] → W p l e rmX8_twoOf s m args below meth c H locs 0 0 (MQ below (zQ D dA b0 (some (.int z)) h) args s 0 0 (zA b0)) (F0 m 2 ls [])) : ∀ (n : Nat), ∀ (r0 : Nat) (a1 : Int32) (a2 : Int32) (H : Heap) (locs : List Loc) (ls : Array Slot), f_X8_twoOf_b13 h k2 n r0 a1 a2 = some z → zG D dA b0 s.heap h H locs → lv_has ls 3 [(0, .ref (b0 + r0)), (1, .int a1), (2, .int a2)] → W p l e rmX8_twoOf s m args below meth c H locs 0 0 (MQ below (zQ D dA b0 (some (.int z)) h) args s 0 0 (zA b0)) (F0 m 13 ls []) := by
  intro n
  induction n with
  | zero =>
    intro r0 a1 a2 H locs ls hf
    cases hf
  | succ n ih =>
    intro r0 a1 a2 H locs ls hf G hl
    rw [f_X8_twoOf_b13] at hf
    refine lv_iload_n X.1.1 X.1.2.1 dX8_twoOf_13 rfl (lv_at hl 2 rfl) ?_
    refine lv_aload_n X.1.1 X.1.2.1 dX8_twoOf_14 rfl (lv_at hl 0 rfl) ?_
    refine lv_iconst (v := 0) X.1.1 X.1.2.1 dX8_twoOf_15 (by decide) ?_
    refine ziald X G dX8_twoOf_16 hf (fun v1 hf => ?_)
    refine zic_ge (tgt := 42) X dX8_twoOf_17 (by decide) hf (fun hf => ?_) (fun hf => ?_)
    · refine lv_iinc (v := (a1 + (1 : Int32))) (lv' := [(1, .int (a1 + (1 : Int32))), (0, .ref (b0 + r0)), (2, .int a2)]) X.1.1 X.1.2.1 dX8_twoOf_42 hl (k := 1) rfl rfl (by decide) rfl (fun ls hl => ?_)
      refine lv_goto (tgt := 2) X.1.1 X.1.2.1 dX8_twoOf_45 (by decide) ?_
      exact hk2 _ _ _ _ _ hf G (lv_sub hl [1, 0] rfl)
    · refine lv_aload_n X.1.1 X.1.2.1 dX8_twoOf_20 rfl (lv_at hl 0 rfl) ?_
      refine lv_iload_n X.1.1 X.1.2.1 dX8_twoOf_21 rfl (lv_at hl 1 rfl) ?_
      refine lv_iload_n X.1.1 X.1.2.1 dX8_twoOf_22 rfl (lv_at hl 2 rfl) ?_
      obtain ⟨q2, eq2, hf⟩ := Option.bind_eq_some_iff.mp hf
      refine zcS0 (As := [.ref (b0 + r0), .int a1, .int a2]) (rest := []) (v := (some (.int q2))) (h' := h) X G (m_X8_tooNear l D dA b0 r0 a1 a2 h q2 eq2) (va_cwS 3 X.1.2.2.2.2 gX8_twoOf_X8_tooNear rfl rfl rfl hdS_X8_tooNear ⟨(Nat.le_of_ble_eq_true rfl), (Nat.le_of_ble_eq_true rfl)⟩) rfl hl.1 rfl (Nat.le_of_ble_eq_true rfl) dX8_twoOf_23 ⟨Nat.zero_le _, Nat.zero_le _⟩ (fun H locs G => ?_)
      refine zif_eq (tgt := 36) X dX8_twoOf_26 (by decide) hf (fun hf => ?_) (fun hf => ?_)
      · refine lv_iinc (v := (a2 + (1 : Int32))) (lv' := [(2, .int (a2 + (1 : Int32))), (0, .ref (b0 + r0)), (1, .int a1)]) X.1.1 X.1.2.1 dX8_twoOf_36 hl (k := 2) rfl rfl (by decide) rfl (fun ls hl => ?_)
        refine lv_goto (tgt := 13) X.1.1 X.1.2.1 dX8_twoOf_39 (by decide) ?_
        exact ih _ _ _ _ _ _ hf G (lv_sub hl [1, 2, 0] rfl)
      · refine lv_bipush (v := 10) X.1.1 X.1.2.1 dX8_twoOf_29 (by decide) ?_
        refine lv_iload_n X.1.1 X.1.2.1 dX8_twoOf_31 rfl (lv_at hl 1 rfl) ?_
        refine lv_imul X.1.1 X.1.2.1 dX8_twoOf_32 ?_
        refine lv_iload_n X.1.1 X.1.2.1 dX8_twoOf_33 rfl (lv_at hl 2 rfl) ?_
        refine lv_iadd X.1.1 X.1.2.1 dX8_twoOf_34 ?_
        exact zretIr X hr hlk G hf dX8_twoOf_35
set_option maxHeartbeats 4000000 in
set_option maxRecDepth 100000 in
theorem w_X8_twoOf_b2 {p : Program} {l : Launch} {e : Env} {s : State} {m : MethodId} {args : Array Value} {below : List Frame} {meth : Method} {c : Code} {D : va_G} {dA : Nat → ClassId} {b0 : Nat} {h : zH} (X : zX p s m args c cX8_twoOf 3 RX8 wsX8_twoOf D dA) (hr : meth.sig.returnType = (some .int)) (hlk : meth.locks = false) {z : Int32} : ∀ (n : Nat), ∀ (r0 : Nat) (a1 : Int32) (H : Heap) (locs : List Loc) (ls : Array Slot), f_X8_twoOf_b2 h n r0 a1 = some z → zG D dA b0 s.heap h H locs → lv_has ls 3 [(0, .ref (b0 + r0)), (1, .int a1)] → W p l e rmX8_twoOf s m args below meth c H locs 0 0 (MQ below (zQ D dA b0 (some (.int z)) h) args s 0 0 (zA b0)) (F0 m 2 ls []) := by
  intro n
  induction n with
  | zero =>
    intro r0 a1 H locs ls hf
    cases hf
  | succ n ih =>
    intro r0 a1 H locs ls hf G hl
    rw [f_X8_twoOf_b2] at hf
    refine lv_iload_n X.1.1 X.1.2.1 dX8_twoOf_2 rfl (lv_at hl 1 rfl) ?_
    refine lv_aload_n X.1.1 X.1.2.1 dX8_twoOf_3 rfl (lv_at hl 0 rfl) ?_
    refine lv_iconst (v := 0) X.1.1 X.1.2.1 dX8_twoOf_4 (by decide) ?_
    refine ziald X G dX8_twoOf_5 hf (fun v1 hf => ?_)
    refine zic_ge (tgt := 48) X dX8_twoOf_6 (by decide) hf (fun hf => ?_) (fun hf => ?_)
    · refine lv_ldc (v := -1000000) X.1.1 X.1.2.1 X.1.2.2.2.1 (X.1.2.2.2.2 _ coX8_twoOf_157) dX8_twoOf_48 ?_
      exact zretIr X hr hlk G hf dX8_twoOf_50
    · refine lv_iload_n X.1.1 X.1.2.1 dX8_twoOf_9 rfl (lv_at hl 1 rfl) ?_
      refine lv_iconst (v := 1) X.1.1 X.1.2.1 dX8_twoOf_10 (by decide) ?_
      refine lv_iadd X.1.1 X.1.2.1 dX8_twoOf_11 ?_
      refine zleti hf (fun x2 hf => ?_)
      refine lv_istore_n (lv' := [(2, .int x2), (0, .ref (b0 + r0)), (1, .int a1)]) X.1.1 X.1.2.1 dX8_twoOf_12 rfl hl (by decide) rfl (fun ls hl => ?_)
      exact w_X8_twoOf_b13 X hr hlk _ ih _ _ _ _ _ _ _ hf G (lv_sub hl [1, 2, 0] rfl)
set_option maxHeartbeats 4000000 in
set_option maxRecDepth 100000 in
theorem m_X8_twoOf (l : Launch) (D : va_G) (dA : Nat → ClassId) (b0 : Nat) (r0 : Nat) (h : zH) (z : Int32) (hf : f_X8_twoOf r0 h = some z) : Met l yX8_twoOf wsX8_twoOf rmX8_twoOf (zPc D dA b0 [.ref (b0 + r0)] h) (zQ D dA b0 (some (.int z)) h) 0 0 (zA b0) := by
  refine Met.ofW (cc := cX8_twoOf) (maxL := 3) (ret := (some .int)) (by decide) rfl ?_
  intro p e s m args below meth c s₁ B hml hv
  obtain ⟨rfl, hP, hz, hK, hN⟩ := hv
  have hr := B.returns
  have hlk := B.notSynchronized
  have X : zX p s m _ c cX8_twoOf 3 RX8 wsX8_twoOf D dA := ⟨⟨B.exec, B.bytes, hml, findClass_of_methodNamed B.named, atoms_spec (ws := wsX8_twoOf) B.pre⟩, hK, hN⟩
  have G : zG D dA b0 s.heap h s.heap [] := ⟨hP, hz, va_S.rf⟩
  have hl := lv_entry ([.ref (b0 + r0)]) (n := 3) (Nat.le_of_ble_eq_true rfl)
  rw [lg_entry_eq]
  generalize (lg_sl ([.ref (b0 + r0)]) ++ List.replicate (3 - (lg_sl ([.ref (b0 + r0)])).length) Slot.unset).toArray = ls at hl ⊢
  have hl : lv_has ls 3 [(0, .ref (b0 + r0))] := hl
  unfold f_X8_twoOf at hf
  refine lv_iconst (v := 0) X.1.1 X.1.2.1 dX8_twoOf_0 (by decide) ?_
  refine lv_istore_n (lv' := [(1, .int (0 : Int32)), (0, .ref (b0 + r0))]) X.1.1 X.1.2.1 dX8_twoOf_1 rfl hl (by decide) rfl (fun ls hl => ?_)
  exact w_X8_twoOf_b2 X hr hlk _ _ _ _ _ _ hf G (lv_sub hl [1, 0] rfl)
/-! X8_isMine -/
abbrev rmX8_isMine : Room := { frames := 0, cells := 0, slots := 0, locals := 0 }
theorem hdV_X8_isMine : yX8_isMine.cls = RX8 ∧ yX8_isMine.cls ≠ "java/lang/invoke/MethodHandle" ∧ yX8_isMine.cls ≠ "java/lang/invoke/VarHandle" ∧ (parseMethodDescriptor yX8_isMine.desc).map (fun d => d.parameters.length) = some 0 := by decide +kernel
theorem inX8_isMine_X8 : ∀ w ∈ wsX80, w ∈ wsX8_isMine := by decide +kernel
theorem flX8_isMine_19 : Cond.fieldLink RX8 19 (TX8 4).1 (TX8 4).2.1 (TX8 4).2.2.1 ∈ wsX8_isMine := by decide +kernel
set_option maxHeartbeats 4000000 in
set_option maxRecDepth 100000 in
theorem m_X8_isMine (l : Launch) (D : va_G) (dA : Nat → ClassId) (b0 : Nat) (r0 : Nat) (h : zH) (z : Int32) (hf : f_X8_isMine r0 h = some z) : Met l yX8_isMine wsX8_isMine rmX8_isMine (zPc D dA b0 [.ref (b0 + r0)] h) (zQ D dA b0 (some (.int z)) h) 0 0 (zA b0) := by
  refine Met.ofW (cc := cX8_isMine) (maxL := 1) (ret := (some .boolean)) (by decide) rfl ?_
  intro p e s m args below meth c s₁ B hml hv
  obtain ⟨rfl, hP, hz, hK, hN⟩ := hv
  have hr := B.returns
  have hlk := B.notSynchronized
  have X : zX p s m _ c cX8_isMine 1 RX8 wsX8_isMine D dA := ⟨⟨B.exec, B.bytes, hml, findClass_of_methodNamed B.named, atoms_spec (ws := wsX8_isMine) B.pre⟩, hK, hN⟩
  have G : zG D dA b0 s.heap h s.heap [] := ⟨hP, hz, va_S.rf⟩
  have hl := lv_entry ([.ref (b0 + r0)]) (n := 1) (Nat.le_of_ble_eq_true rfl)
  rw [lg_entry_eq]
  generalize (lg_sl ([.ref (b0 + r0)]) ++ List.replicate (1 - (lg_sl ([.ref (b0 + r0)])).length) Slot.unset).toArray = ls at hl ⊢
  have hl : lv_has ls 1 [(0, .ref (b0 + r0))] := hl
  unfold f_X8_isMine at hf
  refine lv_aload_n X.1.1 X.1.2.1 dX8_isMine_0 rfl (lv_at hl 0 rfl) ?_
  refine zgetR (ci := 8) (k := 4) (C := RX8) (T := TX8) (N := 24) X G rfl inX8_isMine_X8 (Nat.le_of_ble_eq_true rfl) flX8_isMine_19 dX8_isMine_1 hf (fun v1 hf => ?_)
  refine lv_iconst (v := 2) X.1.1 X.1.2.1 dX8_isMine_4 (by decide) ?_
  refine ziald X G dX8_isMine_5 hf (fun v2 hf => ?_)
  refine zif_le (tgt := 13) X dX8_isMine_6 (by decide) hf (fun hf => ?_) (fun hf => ?_)
  · refine lv_iconst (v := 0) X.1.1 X.1.2.1 dX8_isMine_13 (by decide) ?_
    exact zretZr X hr hlk G hf dX8_isMine_14
  · refine lv_iconst (v := 1) X.1.1 X.1.2.1 dX8_isMine_9 (by decide) ?_
    refine lv_goto (tgt := 14) X.1.1 X.1.2.1 dX8_isMine_10 (by decide) ?_
    exact zretZr X hr hlk G hf dX8_isMine_14
/-! X8_isThing -/
abbrev rmX8_isThing : Room := { frames := 1, cells := 0, slots := 0, locals := 25 }
theorem hdV_X8_isThing : yX8_isThing.cls = RX8 ∧ yX8_isThing.cls ≠ "java/lang/invoke/MethodHandle" ∧ yX8_isThing.cls ≠ "java/lang/invoke/VarHandle" ∧ (parseMethodDescriptor yX8_isThing.desc).map (fun d => d.parameters.length) = some 1 := by decide +kernel
theorem inX8_isThing_X8 : ∀ w ∈ wsX80, w ∈ wsX8_isThing := by decide +kernel
theorem flX8_isThing_19 : Cond.fieldLink RX8 19 (TX8 4).1 (TX8 4).2.1 (TX8 4).2.2.1 ∈ wsX8_isThing := by decide +kernel
set_option maxHeartbeats 4000000 in
set_option maxRecDepth 100000 in
theorem m_X8_isThing (l : Launch) (D : va_G) (dA : Nat → ClassId) (b0 : Nat) (r0 : Nat) (a1 : Int32) (h : zH) (z : Int32) (hf : f_X8_isThing r0 a1 h = some z) : Met l yX8_isThing wsX8_isThing rmX8_isThing (zPc D dA b0 [.ref (b0 + r0), .int a1] h) (zQ D dA b0 (some (.int z)) h) 0 0 (zA b0) := by
  refine Met.ofW (cc := cX8_isThing) (maxL := 2) (ret := (some .boolean)) (by decide) rfl ?_
  intro p e s m args below meth c s₁ B hml hv
  obtain ⟨rfl, hP, hz, hK, hN⟩ := hv
  have hr := B.returns
  have hlk := B.notSynchronized
  have X : zX p s m _ c cX8_isThing 2 RX8 wsX8_isThing D dA := ⟨⟨B.exec, B.bytes, hml, findClass_of_methodNamed B.named, atoms_spec (ws := wsX8_isThing) B.pre⟩, hK, hN⟩
  have G : zG D dA b0 s.heap h s.heap [] := ⟨hP, hz, va_S.rf⟩
  have hl := lv_entry ([.ref (b0 + r0), .int a1]) (n := 2) (Nat.le_of_ble_eq_true rfl)
  rw [lg_entry_eq]
  generalize (lg_sl ([.ref (b0 + r0), .int a1]) ++ List.replicate (2 - (lg_sl ([.ref (b0 + r0), .int a1])).length) Slot.unset).toArray = ls at hl ⊢
  have hl : lv_has ls 2 [(0, .ref (b0 + r0)), (1, .int a1)] := hl
  unfold f_X8_isThing at hf
  refine lv_iload_n X.1.1 X.1.2.1 dX8_isThing_0 rfl (lv_at hl 1 rfl) ?_
  refine lv_i2l X.1.1 X.1.2.1 dX8_isThing_1 rfl ?_
  refine lv_lconst (v := 0) X.1.1 X.1.2.1 dX8_isThing_2 (by decide) ?_
  refine lv_aload_n X.1.1 X.1.2.1 dX8_isThing_3 rfl (lv_at hl 0 rfl) ?_
  refine zgetR (ci := 8) (k := 4) (C := RX8) (T := TX8) (N := 24) X G rfl inX8_isThing_X8 (Nat.le_of_ble_eq_true rfl) flX8_isThing_19 dX8_isThing_4 hf (fun v1 hf => ?_)
  refine lv_iconst (v := 0) X.1.1 X.1.2.1 dX8_isThing_7 (by decide) ?_
  refine ziald X G dX8_isThing_8 hf (fun v2 hf => ?_)
  refine lv_iconst (v := 1) X.1.1 X.1.2.1 dX8_isThing_9 (by decide) ?_
  refine lv_isub X.1.1 X.1.2.1 dX8_isThing_10 ?_
  refine lv_i2l X.1.1 X.1.2.1 dX8_isThing_11 rfl ?_
  obtain ⟨q3, eq3, hf⟩ := Option.bind_eq_some_iff.mp hf
  refine zcS0 (As := [.long (Int32.toInt64 a1), .long (0 : Int64), .long (Int32.toInt64 (v2 - (1 : Int32)))]) (rest := []) (v := (some (.int q3))) (h' := h) X G (m_X8_in l D dA b0 ((Int32.toInt64 a1)) (0 : Int64) ((Int32.toInt64 (v2 - (1 : Int32)))) h q3 eq3) (va_cwS 3 X.1.2.2.2.2 gX8_isThing_X8_in rfl rfl rfl hdS_X8_in ⟨(Nat.le_of_ble_eq_true rfl), (Nat.le_of_ble_eq_true rfl)⟩) rfl hl.1 rfl (Nat.le_of_ble_eq_true rfl) dX8_isThing_12 ⟨Nat.zero_le _, Nat.zero_le _⟩ (fun H locs G => ?_)
  exact zretZr X hr hlk G hf dX8_isThing_15
/-! X8_isTwo -/
abbrev rmX8_isTwo : Room := { frames := 1, cells := 0, slots := 0, locals := 25 }
theorem hdS_X8_isTwo : yX8_isTwo.cls ≠ "java/lang/invoke/MethodHandle" ∧ yX8_isTwo.cls ≠ "java/lang/invoke/VarHandle" ∧ (parseMethodDescriptor yX8_isTwo.desc).map (fun d => d.parameters.length) = some 1 := by decide +kernel
set_option maxHeartbeats 4000000 in
set_option maxRecDepth 100000 in
theorem m_X8_isTwo (l : Launch) (D : va_G) (dA : Nat → ClassId) (b0 : Nat) (a0 : Int32) (h : zH) (z : Int32) (hf : f_X8_isTwo a0 h = some z) : Met l yX8_isTwo wsX8_isTwo rmX8_isTwo (zPc D dA b0 [.int a0] h) (zQ D dA b0 (some (.int z)) h) 0 0 (zA b0) := by
  refine Met.ofW (cc := cX8_isTwo) (maxL := 1) (ret := (some .boolean)) (by decide) rfl ?_
  intro p e s m args below meth c s₁ B hml hv
  obtain ⟨rfl, hP, hz, hK, hN⟩ := hv
  have hr := B.returns
  have hlk := B.notSynchronized
  have X : zX p s m _ c cX8_isTwo 1 RX8 wsX8_isTwo D dA := ⟨⟨B.exec, B.bytes, hml, findClass_of_methodNamed B.named, atoms_spec (ws := wsX8_isTwo) B.pre⟩, hK, hN⟩
  have G : zG D dA b0 s.heap h s.heap [] := ⟨hP, hz, va_S.rf⟩
  have hl := lv_entry ([.int a0]) (n := 1) (Nat.le_of_ble_eq_true rfl)
  rw [lg_entry_eq]
  generalize (lg_sl ([.int a0]) ++ List.replicate (1 - (lg_sl ([.int a0])).length) Slot.unset).toArray = ls at hl ⊢
  have hl : lv_has ls 1 [(0, .int a0)] := hl
  unfold f_X8_isTwo at hf
  refine lv_iload_n X.1.1 X.1.2.1 dX8_isTwo_0 rfl (lv_at hl 0 rfl) ?_
  refine lv_i2l X.1.1 X.1.2.1 dX8_isTwo_1 rfl ?_
  refine lv_lconst (v := 0) X.1.1 X.1.2.1 dX8_isTwo_2 (by decide) ?_
  refine lv_lconst (v := 1) X.1.1 X.1.2.1 dX8_isTwo_3 (by decide) ?_
  obtain ⟨q1, eq1, hf⟩ := Option.bind_eq_some_iff.mp hf
  refine zcS0 (As := [.long (Int32.toInt64 a0), .long (0 : Int64), .long (1 : Int64)]) (rest := []) (v := (some (.int q1))) (h' := h) X G (m_X8_in l D dA b0 ((Int32.toInt64 a0)) (0 : Int64) (1 : Int64) h q1 eq1) (va_cwS 3 X.1.2.2.2.2 gX8_isTwo_X8_in rfl rfl rfl hdS_X8_in ⟨(Nat.le_of_ble_eq_true rfl), (Nat.le_of_ble_eq_true rfl)⟩) rfl hl.1 rfl (Nat.le_of_ble_eq_true rfl) dX8_isTwo_4 ⟨Nat.zero_le _, Nat.zero_le _⟩ (fun H locs G => ?_)
  exact zretZr X hr hlk G hf dX8_isTwo_7
/-! X8_isSpan -/
abbrev rmX8_isSpan : Room := { frames := 1, cells := 0, slots := 0, locals := 25 }
theorem hdS_X8_isSpan : yX8_isSpan.cls ≠ "java/lang/invoke/MethodHandle" ∧ yX8_isSpan.cls ≠ "java/lang/invoke/VarHandle" ∧ (parseMethodDescriptor yX8_isSpan.desc).map (fun d => d.parameters.length) = some 1 := by decide +kernel
theorem clX8_isSpan_158 : Cond.constantLong RX8 158 (60) ∈ wsX8_isSpan := by decide +kernel
set_option maxHeartbeats 4000000 in
set_option maxRecDepth 100000 in
theorem m_X8_isSpan (l : Launch) (D : va_G) (dA : Nat → ClassId) (b0 : Nat) (a0 : Int32) (h : zH) (z : Int32) (hf : f_X8_isSpan a0 h = some z) : Met l yX8_isSpan wsX8_isSpan rmX8_isSpan (zPc D dA b0 [.int a0] h) (zQ D dA b0 (some (.int z)) h) 0 0 (zA b0) := by
  refine Met.ofW (cc := cX8_isSpan) (maxL := 1) (ret := (some .boolean)) (by decide) rfl ?_
  intro p e s m args below meth c s₁ B hml hv
  obtain ⟨rfl, hP, hz, hK, hN⟩ := hv
  have hr := B.returns
  have hlk := B.notSynchronized
  have X : zX p s m _ c cX8_isSpan 1 RX8 wsX8_isSpan D dA := ⟨⟨B.exec, B.bytes, hml, findClass_of_methodNamed B.named, atoms_spec (ws := wsX8_isSpan) B.pre⟩, hK, hN⟩
  have G : zG D dA b0 s.heap h s.heap [] := ⟨hP, hz, va_S.rf⟩
  have hl := lv_entry ([.int a0]) (n := 1) (Nat.le_of_ble_eq_true rfl)
  rw [lg_entry_eq]
  generalize (lg_sl ([.int a0]) ++ List.replicate (1 - (lg_sl ([.int a0])).length) Slot.unset).toArray = ls at hl ⊢
  have hl : lv_has ls 1 [(0, .int a0)] := hl
  unfold f_X8_isSpan at hf
  refine lv_iload_n X.1.1 X.1.2.1 dX8_isSpan_0 rfl (lv_at hl 0 rfl) ?_
  refine lv_i2l X.1.1 X.1.2.1 dX8_isSpan_1 rfl ?_
  refine lv_lconst (v := 0) X.1.1 X.1.2.1 dX8_isSpan_2 (by decide) ?_
  refine lv_ldc2 (v := 60) X.1.1 X.1.2.1 X.1.2.2.2.1 (X.1.2.2.2.2 _ clX8_isSpan_158) dX8_isSpan_3 ?_
  obtain ⟨q1, eq1, hf⟩ := Option.bind_eq_some_iff.mp hf
  refine zcS0 (As := [.long (Int32.toInt64 a0), .long (0 : Int64), .long (60 : Int64)]) (rest := []) (v := (some (.int q1))) (h' := h) X G (m_X8_in l D dA b0 ((Int32.toInt64 a0)) (0 : Int64) (60 : Int64) h q1 eq1) (va_cwS 3 X.1.2.2.2.2 gX8_isSpan_X8_in rfl rfl rfl hdS_X8_in ⟨(Nat.le_of_ble_eq_true rfl), (Nat.le_of_ble_eq_true rfl)⟩) rfl hl.1 rfl (Nat.le_of_ble_eq_true rfl) dX8_isSpan_6 ⟨Nat.zero_le _, Nat.zero_le _⟩ (fun H locs G => ?_)
  exact zretZr X hr hlk G hf dX8_isSpan_9
/-! X8_remember -/
abbrev rmX8_remember : Room := { frames := 1, cells := 0, slots := 0, locals := 24 }
theorem hdV_X8_remember : yX8_remember.cls = RX8 ∧ yX8_remember.cls ≠ "java/lang/invoke/MethodHandle" ∧ yX8_remember.cls ≠ "java/lang/invoke/VarHandle" ∧ (parseMethodDescriptor yX8_remember.desc).map (fun d => d.parameters.length) = some 0 := by decide +kernel
theorem inX8_remember_X8 : ∀ w ∈ wsX80, w ∈ wsX8_remember := by decide +kernel
theorem flX8_remember_19 : Cond.fieldLink RX8 19 (TX8 4).1 (TX8 4).2.1 (TX8 4).2.2.1 ∈ wsX8_remember := by decide +kernel
theorem flX8_remember_28 : Cond.fieldLink RX8 28 (TX8 7).1 (TX8 7).2.1 (TX8 7).2.2.1 ∈ wsX8_remember := by decide +kernel
theorem flX8_remember_139 : Cond.fieldLink RX8 139 (TX8 8).1 (TX8 8).2.1 (TX8 8).2.2.1 ∈ wsX8_remember := by decide +kernel
set_option maxHeartbeats 4000000 in
set_option maxRecDepth 100000 in
theorem w_X8_remember_b49 {p : Program} {l : Launch} {e : Env} {s : State} {m : MethodId} {args : Array Value} {below : List Frame} {meth : Method} {c : Code} {D : va_G} {dA : Nat → ClassId} {b0 : Nat} (X : zX p s m args c cX8_remember 2 RX8 wsX8_remember D dA) (hr : meth.sig.returnType = none) (hlk : meth.locks = false) {z : zH} : ∀ (r0 : Nat) (h : zH) (H : Heap) (locs : List Loc) (ls : Array Slot), f_X8_remember_b49 r0 h = some z → zG D dA b0 s.heap h H locs → lv_has ls 2 [(0, .ref (b0 + r0))] → W p l e rmX8_remember s m args below meth c H locs 0 0 (MQ below (zQ D dA b0 none z) args s 0 0 (zA b0)) (F0 m 49 ls []) := by
  intro r0 h H locs ls hf G hl
  unfold f_X8_remember_b49 at hf
  refine lv_aload_n X.1.1 X.1.2.1 dX8_remember_49 rfl (lv_at hl 0 rfl) ?_
  refine zgetR (ci := 8) (k := 4) (C := RX8) (T := TX8) (N := 24) X G rfl inX8_remember_X8 (Nat.le_of_ble_eq_true rfl) flX8_remember_19 dX8_remember_50 hf (fun v1 hf => ?_)
  refine lv_iconst (v := 0) X.1.1 X.1.2.1 dX8_remember_53 (by decide) ?_
  refine lv_aload_n X.1.1 X.1.2.1 dX8_remember_54 rfl (lv_at hl 0 rfl) ?_
  refine zgetR (ci := 8) (k := 7) (C := RX8) (T := TX8) (N := 24) X G rfl inX8_remember_X8 (Nat.le_of_ble_eq_true rfl) flX8_remember_28 dX8_remember_55 hf (fun v2 hf => ?_)
  refine lv_bipush (v := 30) X.1.1 X.1.2.1 dX8_remember_58 (by decide) ?_
  refine lv_aload_n X.1.1 X.1.2.1 dX8_remember_60 rfl (lv_at hl 0 rfl) ?_
  refine zgetI (ci := 8) (k := 8) (C := RX8) (T := TX8) (N := 24) X G rfl inX8_remember_X8 (Nat.le_of_ble_eq_true rfl) flX8_remember_139 dX8_remember_61 hf (fun v3 hf => ?_)
  refine lv_imul X.1.1 X.1.2.1 dX8_remember_64 ?_
  obtain ⟨q4, eq4, hf⟩ := Option.bind_eq_some_iff.mp hf
  refine zcS0 (As := [.ref (b0 + v1), .int (0 : Int32), .ref (b0 + v2), .int ((30 : Int32) * v3)]) (rest := []) (v := none) (h' := q4) X G (m_X8_copies l D dA b0 v1 (0 : Int32) v2 (((30 : Int32) * v3)) h q4 eq4) (va_cwS 4 X.1.2.2.2.2 gX8_remember_X8_copies rfl rfl rfl hdS_X8_copies ⟨(Nat.le_of_ble_eq_true rfl), (Nat.le_of_ble_eq_true rfl)⟩) rfl hl.1 rfl (Nat.le_of_ble_eq_true rfl) dX8_remember_65 ⟨Nat.zero_le _, Nat.zero_le _⟩ (fun H locs G => ?_)
  refine lv_aload_n X.1.1 X.1.2.1 dX8_remember_68 rfl (lv_at hl 0 rfl) ?_
  refine lv_dup X.1.1 X.1.2.1 dX8_remember_69 rfl ?_
  refine zgetI (ci := 8) (k := 8) (C := RX8) (T := TX8) (N := 24) X G rfl inX8_remember_X8 (Nat.le_of_ble_eq_true rfl) flX8_remember_139 dX8_remember_70 hf (fun v5 hf => ?_)
  refine lv_iconst (v := 1) X.1.1 X.1.2.1 dX8_remember_73 (by decide) ?_
  refine lv_iadd X.1.1 X.1.2.1 dX8_remember_74 ?_
  refine zputI (ci := 8) (k := 8) (C := RX8) (T := TX8) (N := 24) X G rfl inX8_remember_X8 tyX8_ok nmX8 (Nat.le_of_ble_eq_true rfl) flX8_remember_139 rfl (by decide +kernel) dX8_remember_75 hf (fun h6 H locs hf G => ?_)
  exact zretV X hr hlk G hf dX8_remember_78
set_option maxHeartbeats 4000000 in
set_option maxRecDepth 100000 in
theorem w_X8_remember_b11 {p : Program} {l : Launch} {e : Env} {s : State} {m : MethodId} {args : Array Value} {below : List Frame} {meth : Method} {c : Code} {D : va_G} {dA : Nat → ClassId} {b0 : Nat} (X : zX p s m args c cX8_remember 2 RX8 wsX8_remember D dA) (hr : meth.sig.returnType = none) (hlk : meth.locks = false) {z : zH} : ∀ (n : Nat), ∀ (r0 : Nat) (a1 : Int32) (h : zH) (H : Heap) (locs : List Loc) (ls : Array Slot), f_X8_remember_b11 n r0 a1 h = some z → zG D dA b0 s.heap h H locs → lv_has ls 2 [(0, .ref (b0 + r0)), (1, .int a1)] → W p l e rmX8_remember s m args below meth c H locs 0 0 (MQ below (zQ D dA b0 none z) args s 0 0 (zA b0)) (F0 m 11 ls []) := by
  intro n
  induction n with
  | zero =>
    intro r0 a1 h H locs ls hf
    cases hf
  | succ n ih =>
    intro r0 a1 h H locs ls hf G hl
    rw [f_X8_remember_b11] at hf
    refine lv_iload_n X.1.1 X.1.2.1 dX8_remember_11 rfl (lv_at hl 1 rfl) ?_
    refine lv_sipush (v := 690) X.1.1 X.1.2.1 dX8_remember_12 (by decide) ?_
    refine zic_ge (tgt := 39) X dX8_remember_15 (by decide) hf (fun hf => ?_) (fun hf => ?_)
    · refine lv_aload_n X.1.1 X.1.2.1 dX8_remember_39 rfl (lv_at hl 0 rfl) ?_
      refine lv_dup X.1.1 X.1.2.1 dX8_remember_40 rfl ?_
      refine zgetI (ci := 8) (k := 8) (C := RX8) (T := TX8) (N := 24) X G rfl inX8_remember_X8 (Nat.le_of_ble_eq_true rfl) flX8_remember_139 dX8_remember_41 hf (fun v1 hf => ?_)
      refine lv_iconst (v := 1) X.1.1 X.1.2.1 dX8_remember_44 (by decide) ?_
      refine lv_isub X.1.1 X.1.2.1 dX8_remember_45 ?_
      refine zputI (ci := 8) (k := 8) (C := RX8) (T := TX8) (N := 24) X G rfl inX8_remember_X8 tyX8_ok nmX8 (Nat.le_of_ble_eq_true rfl) flX8_remember_139 rfl (by decide +kernel) dX8_remember_46 hf (fun h2 H locs hf G => ?_)
      exact w_X8_remember_b49 X hr hlk _ _ _ _ _ hf G (lv_sub hl [0] rfl)
    · refine lv_aload_n X.1.1 X.1.2.1 dX8_remember_18 rfl (lv_at hl 0 rfl) ?_
      refine zgetR (ci := 8) (k := 7) (C := RX8) (T := TX8) (N := 24) X G rfl inX8_remember_X8 (Nat.le_of_ble_eq_true rfl) flX8_remember_28 dX8_remember_19 hf (fun v3 hf => ?_)
      refine lv_iload_n X.1.1 X.1.2.1 dX8_remember_22 rfl (lv_at hl 1 rfl) ?_
      refine lv_aload_n X.1.1 X.1.2.1 dX8_remember_23 rfl (lv_at hl 0 rfl) ?_
      refine zgetR (ci := 8) (k := 7) (C := RX8) (T := TX8) (N := 24) X G rfl inX8_remember_X8 (Nat.le_of_ble_eq_true rfl) flX8_remember_28 dX8_remember_24 hf (fun v4 hf => ?_)
      refine lv_iload_n X.1.1 X.1.2.1 dX8_remember_27 rfl (lv_at hl 1 rfl) ?_
      refine lv_bipush (v := 30) X.1.1 X.1.2.1 dX8_remember_28 (by decide) ?_
      refine lv_iadd X.1.1 X.1.2.1 dX8_remember_30 ?_
      refine ziald X G dX8_remember_31 hf (fun v5 hf => ?_)
      refine ziast X G dX8_remember_32 hf (fun h6 H locs hf G => ?_)
      refine lv_iinc (v := (a1 + (1 : Int32))) (lv' := [(1, .int (a1 + (1 : Int32))), (0, .ref (b0 + r0))]) X.1.1 X.1.2.1 dX8_remember_33 hl (k := 1) rfl rfl (by decide) rfl (fun ls hl => ?_)
      refine lv_goto (tgt := 11) X.1.1 X.1.2.1 dX8_remember_36 (by decide) ?_
      exact ih _ _ _ _ _ _ hf G (lv_sub hl [1, 0] rfl)
set_option maxHeartbeats 4000000 in
set_option maxRecDepth 100000 in
theorem m_X8_remember (l : Launch) (D : va_G) (dA : Nat → ClassId) (b0 : Nat) (r0 : Nat) (h : zH) (z : zH) (hf : f_X8_remember r0 h = some z) : Met l yX8_remember wsX8_remember rmX8_remember (zPc D dA b0 [.ref (b0 + r0)] h) (zQ D dA b0 none z) 0 0 (zA b0) := by
  refine Met.ofW (cc := cX8_remember) (maxL := 2) (ret := none) (by decide) rfl ?_
  intro p e s m args below meth c s₁ B hml hv
  obtain ⟨rfl, hP, hz, hK, hN⟩ := hv
  have hr := B.returns
  have hlk := B.notSynchronized
  have X : zX p s m _ c cX8_remember 2 RX8 wsX8_remember D dA := ⟨⟨B.exec, B.bytes, hml, findClass_of_methodNamed B.named, atoms_spec (ws := wsX8_remember) B.pre⟩, hK, hN⟩
  have G : zG D dA b0 s.heap h s.heap [] := ⟨hP, hz, va_S.rf⟩
  have hl := lv_entry ([.ref (b0 + r0)]) (n := 2) (Nat.le_of_ble_eq_true rfl)
  rw [lg_entry_eq]
  generalize (lg_sl ([.ref (b0 + r0)]) ++ List.replicate (2 - (lg_sl ([.ref (b0 + r0)])).length) Slot.unset).toArray = ls at hl ⊢
  have hl : lv_has ls 2 [(0, .ref (b0 + r0))] := hl
  unfold f_X8_remember at hf
  refine lv_aload_n X.1.1 X.1.2.1 dX8_remember_0 rfl (lv_at hl 0 rfl) ?_
  refine zgetI (ci := 8) (k := 8) (C := RX8) (T := TX8) (N := 24) X G rfl inX8_remember_X8 (Nat.le_of_ble_eq_true rfl) flX8_remember_139 dX8_remember_1 hf (fun v1 hf => ?_)
  refine lv_bipush (v := 24) X.1.1 X.1.2.1 dX8_remember_4 (by decide) ?_
  refine zic_ne (tgt := 49) X dX8_remember_6 (by decide) hf (fun hf => ?_) (fun hf => ?_)
  · exact w_X8_remember_b49 X hr hlk _ _ _ _ _ hf G hl
  · refine lv_iconst (v := 0) X.1.1 X.1.2.1 dX8_remember_9 (by decide) ?_
    refine lv_istore_n (lv' := [(1, .int (0 : Int32)), (0, .ref (b0 + r0))]) X.1.1 X.1.2.1 dX8_remember_10 rfl hl (by decide) rfl (fun ls hl => ?_)
    exact w_X8_remember_b11 X hr hlk _ _ _ _ _ _ _ hf G (lv_sub hl [1, 0] rfl)
/-! X8_years -/
abbrev rmX8_years : Room := { frames := 3, cells := 0, slots := 0, locals := 68 }
theorem hdV_X8_years : yX8_years.cls = RX8 ∧ yX8_years.cls ≠ "java/lang/invoke/MethodHandle" ∧ yX8_years.cls ≠ "java/lang/invoke/VarHandle" ∧ (parseMethodDescriptor yX8_years.desc).map (fun d => d.parameters.length) = some 1 := by decide +kernel
theorem inX8_years_X8 : ∀ w ∈ wsX80, w ∈ wsX8_years := by decide +kernel
theorem flX8_years_19 : Cond.fieldLink RX8 19 (TX8 4).1 (TX8 4).2.1 (TX8 4).2.2.1 ∈ wsX8_years := by decide +kernel
theorem clX8_years_164 : Cond.constantLong RX8 164 (24) ∈ wsX8_years := by decide +kernel
theorem coX8_years_83 : Cond.constant RX8 83 (-1000003) ∈ wsX8_years := by decide +kernel
theorem coX8_years_70 : Cond.constant RX8 70 (-1000001) ∈ wsX8_years := by decide +kernel
theorem coX8_years_163 : Cond.constant RX8 163 (-1000002) ∈ wsX8_years := by decide +kernel
set_option maxHeartbeats 4000000 in
set_option maxRecDepth 100000 in
theorem w_X8_years_b45 {p : Program} {l : Launch} {e : Env} {s : State} {m : MethodId} {args : Array Value} {below : List Frame} {meth : Method} {c : Code} {D : va_G} {dA : Nat → ClassId} {b0 : Nat} (X : zX p s m args c cX8_years 3 RX8 wsX8_years D dA) (hr : meth.sig.returnType = (some .int)) (hlk : meth.locks = false) {z : Int32 × zH} : ∀ (n : Nat), ∀ (r0 : Nat) (a1 : Int32) (a2 : Int32) (h : zH) (H : Heap) (locs : List Loc) (ls : Array Slot), f_X8_years_b45 n r0 a1 a2 h = some z → zG D dA b0 s.heap h H locs → lv_has ls 3 [(0, .ref (b0 + r0)), (1, .int a1), (2, .int a2)] → W p l e rmX8_years s m args below meth c H locs 0 0 (MQ below (zQ D dA b0 (some (.int z.1)) z.2) args s 0 0 (zA b0)) (F0 m 45 ls []) := by
  intro n
  induction n with
  | zero =>
    intro r0 a1 a2 h H locs ls hf
    cases hf
  | succ n ih =>
    intro r0 a1 a2 h H locs ls hf G hl
    rw [f_X8_years_b45] at hf
    refine lv_iload_n X.1.1 X.1.2.1 dX8_years_45 rfl (lv_at hl 2 rfl) ?_
    refine lv_iload_n X.1.1 X.1.2.1 dX8_years_46 rfl (lv_at hl 1 rfl) ?_
    refine zic_ge (tgt := 68) X dX8_years_47 (by decide) hf (fun hf => ?_) (fun hf => ?_)
    · refine lv_aload_n X.1.1 X.1.2.1 dX8_years_68 rfl (lv_at hl 0 rfl) ?_
      refine zgetR (ci := 8) (k := 4) (C := RX8) (T := TX8) (N := 24) X G rfl inX8_years_X8 (Nat.le_of_ble_eq_true rfl) flX8_years_19 dX8_years_69 hf (fun v1 hf => ?_)
      obtain ⟨q2, eq2, hf⟩ := Option.bind_eq_some_iff.mp hf
      refine zcS0 (As := [.ref (b0 + v1)]) (rest := []) (v := (some (.int q2))) (h' := h) X G (m_X8_upOf l D dA b0 v1 h q2 eq2) (va_cwS 1 X.1.2.2.2.2 gX8_years_X8_upOf rfl rfl rfl hdS_X8_upOf ⟨(Nat.le_of_ble_eq_true rfl), (Nat.le_of_ble_eq_true rfl)⟩) rfl hl.1 rfl (Nat.le_of_ble_eq_true rfl) dX8_years_72 ⟨Nat.zero_le _, Nat.zero_le _⟩ (fun H locs G => ?_)
      exact zretI X hr hlk G hf dX8_years_75
    · refine lv_aload_n X.1.1 X.1.2.1 dX8_years_50 rfl (lv_at hl 0 rfl) ?_
      obtain ⟨hk, hf⟩ := zck hf
      obtain ⟨q3, eq3, hf⟩ := Option.bind_eq_some_iff.mp hf
      refine zcV0 (As := []) (rest := []) (v := none) (h' := q3) X G (rfl : vwCl[8]? = some (RX8, TX8, 24)) hk (m_X8_remember l D dA b0 r0 h q3 eq3) (cwV 0 X.1.2.2.2.2 gX8_years_X8_remember rfl rfl rfl hdV_X8_remember ⟨(Nat.le_of_ble_eq_true rfl), (Nat.le_of_ble_eq_true rfl)⟩) rfl hl.1 rfl (Nat.le_of_ble_eq_true rfl) dX8_years_51 ⟨Nat.zero_le _, Nat.zero_le _⟩ (fun H locs G => ?_)
      refine lv_aload_n X.1.1 X.1.2.1 dX8_years_54 rfl (lv_at hl 0 rfl) ?_
      refine lv_aload_n X.1.1 X.1.2.1 dX8_years_55 rfl (lv_at hl 0 rfl) ?_
      refine zgetR (ci := 8) (k := 4) (C := RX8) (T := TX8) (N := 24) X G rfl inX8_years_X8 (Nat.le_of_ble_eq_true rfl) flX8_years_19 dX8_years_56 hf (fun v4 hf => ?_)
      obtain ⟨hk, hf⟩ := zck hf
      obtain ⟨q5, eq5, hf⟩ := Option.bind_eq_some_iff.mp hf
      refine zcV0 (As := [.ref (b0 + v4)]) (rest := []) (v := none) (h' := q5) X G (rfl : vwCl[8]? = some (RX8, TX8, 24)) hk (m_X8_yearGoes l D dA b0 r0 v4 q3 q5 eq5) (cwV 1 X.1.2.2.2.2 gX8_years_X8_yearGoes rfl rfl rfl hdV_X8_yearGoes ⟨(Nat.le_of_ble_eq_true rfl), (Nat.le_of_ble_eq_true rfl)⟩) rfl hl.1 rfl (Nat.le_of_ble_eq_true rfl) dX8_years_59 ⟨Nat.zero_le _, Nat.zero_le _⟩ (fun H locs G => ?_)
      refine lv_iinc (v := (a2 + (1 : Int32))) (lv' := [(2, .int (a2 + (1 : Int32))), (0, .ref (b0 + r0)), (1, .int a1)]) X.1.1 X.1.2.1 dX8_years_62 hl (k := 2) rfl rfl (by decide) rfl (fun ls hl => ?_)
      refine lv_goto (tgt := 45) X.1.1 X.1.2.1 dX8_years_65 (by decide) ?_
      exact ih _ _ _ _ _ _ _ hf G (lv_sub hl [1, 2, 0] rfl)
set_option maxHeartbeats 4000000 in
set_option maxRecDepth 100000 in
theorem m_X8_years (l : Launch) (D : va_G) (dA : Nat → ClassId) (b0 : Nat) (r0 : Nat) (a1 : Int32) (h : zH) (z : Int32 × zH) (hf : f_X8_years r0 a1 h = some z) : Met l yX8_years wsX8_years rmX8_years (zPc D dA b0 [.ref (b0 + r0), .int a1] h) (zQ D dA b0 (some (.int z.1)) z.2) 0 0 (zA b0) := by
  refine Met.ofW (cc := cX8_years) (maxL := 3) (ret := (some .int)) (by decide) rfl ?_
  intro p e s m args below meth c s₁ B hml hv
  obtain ⟨rfl, hP, hz, hK, hN⟩ := hv
  have hr := B.returns
  have hlk := B.notSynchronized
  have X : zX p s m _ c cX8_years 3 RX8 wsX8_years D dA := ⟨⟨B.exec, B.bytes, hml, findClass_of_methodNamed B.named, atoms_spec (ws := wsX8_years) B.pre⟩, hK, hN⟩
  have G : zG D dA b0 s.heap h s.heap [] := ⟨hP, hz, va_S.rf⟩
  have hl := lv_entry ([.ref (b0 + r0), .int a1]) (n := 3) (Nat.le_of_ble_eq_true rfl)
  rw [lg_entry_eq]
  generalize (lg_sl ([.ref (b0 + r0), .int a1]) ++ List.replicate (3 - (lg_sl ([.ref (b0 + r0), .int a1])).length) Slot.unset).toArray = ls at hl ⊢
  have hl : lv_has ls 3 [(0, .ref (b0 + r0)), (1, .int a1)] := hl
  unfold f_X8_years at hf
  refine lv_aload_n X.1.1 X.1.2.1 dX8_years_0 rfl (lv_at hl 0 rfl) ?_
  obtain ⟨hk, hf⟩ := zck hf
  obtain ⟨q1, eq1, hf⟩ := Option.bind_eq_some_iff.mp hf
  refine zcV0 (As := []) (rest := []) (v := (some (.int q1))) (h' := h) X G (rfl : vwCl[8]? = some (RX8, TX8, 24)) hk (m_X8_isMine l D dA b0 r0 h q1 eq1) (cwV 0 X.1.2.2.2.2 gX8_years_X8_isMine rfl rfl rfl hdV_X8_isMine ⟨(Nat.le_of_ble_eq_true rfl), (Nat.le_of_ble_eq_true rfl)⟩) rfl hl.1 rfl (Nat.le_of_ble_eq_true rfl) dX8_years_1 ⟨Nat.zero_le _, Nat.zero_le _⟩ (fun H locs G => ?_)
  refine zif_ne (tgt := 10) X dX8_years_4 (by decide) hf (fun hf => ?_) (fun hf => ?_)
  · refine lv_iload_n X.1.1 X.1.2.1 dX8_years_10 rfl (lv_at hl 1 rfl) ?_
    refine lv_i2l X.1.1 X.1.2.1 dX8_years_11 rfl ?_
    refine lv_lconst (v := 1) X.1.1 X.1.2.1 dX8_years_12 (by decide) ?_
    refine lv_ldc2 (v := 24) X.1.1 X.1.2.1 X.1.2.2.2.1 (X.1.2.2.2.2 _ clX8_years_164) dX8_years_13 ?_
    obtain ⟨q2, eq2, hf⟩ := Option.bind_eq_some_iff.mp hf
    refine zcS0 (As := [.long (Int32.toInt64 a1), .long (1 : Int64), .long (24 : Int64)]) (rest := []) (v := (some (.int q2))) (h' := h) X G (m_X8_in l D dA b0 ((Int32.toInt64 a1)) (1 : Int64) (24 : Int64) h q2 eq2) (va_cwS 3 X.1.2.2.2.2 gX8_years_X8_in rfl rfl rfl hdS_X8_in ⟨(Nat.le_of_ble_eq_true rfl), (Nat.le_of_ble_eq_true rfl)⟩) rfl hl.1 rfl (Nat.le_of_ble_eq_true rfl) dX8_years_16 ⟨Nat.zero_le _, Nat.zero_le _⟩ (fun H locs G => ?_)
    refine zif_ne (tgt := 25) X dX8_years_19 (by decide) hf (fun hf => ?_) (fun hf => ?_)
    · refine lv_aload_n X.1.1 X.1.2.1 dX8_years_25 rfl (lv_at hl 0 rfl) ?_
      refine zgetR (ci := 8) (k := 4) (C := RX8) (T := TX8) (N := 24) X G rfl inX8_years_X8 (Nat.le_of_ble_eq_true rfl) flX8_years_19 dX8_years_26 hf (fun v3 hf => ?_)
      refine lv_bipush (v := 28) X.1.1 X.1.2.1 dX8_years_29 (by decide) ?_
      refine ziald X G dX8_years_31 hf (fun v4 hf => ?_)
      refine lv_iload_n X.1.1 X.1.2.1 dX8_years_32 rfl (lv_at hl 1 rfl) ?_
      refine lv_iadd X.1.1 X.1.2.1 dX8_years_33 ?_
      refine lv_sipush (v := 999) X.1.1 X.1.2.1 dX8_years_34 (by decide) ?_
      refine zic_le (tgt := 43) X dX8_years_37 (by decide) hf (fun hf => ?_) (fun hf => ?_)
      · refine lv_iconst (v := 0) X.1.1 X.1.2.1 dX8_years_43 (by decide) ?_
        refine lv_istore_n (lv' := [(2, .int (0 : Int32)), (0, .ref (b0 + r0)), (1, .int a1)]) X.1.1 X.1.2.1 dX8_years_44 rfl hl (by decide) rfl (fun ls hl => ?_)
        exact w_X8_years_b45 X hr hlk _ _ _ _ _ _ _ _ hf G (lv_sub hl [1, 2, 0] rfl)
      · refine lv_ldc (v := -1000003) X.1.1 X.1.2.1 X.1.2.2.2.1 (X.1.2.2.2.2 _ coX8_years_83) dX8_years_40 ?_
        exact zretI X hr hlk G hf dX8_years_42
    · refine lv_ldc (v := -1000001) X.1.1 X.1.2.1 X.1.2.2.2.1 (X.1.2.2.2.2 _ coX8_years_70) dX8_years_22 ?_
      exact zretI X hr hlk G hf dX8_years_24
  · refine lv_ldc (v := -1000002) X.1.1 X.1.2.1 X.1.2.2.2.1 (X.1.2.2.2.2 _ coX8_years_163) dX8_years_7 ?_
    exact zretI X hr hlk G hf dX8_years_9
/-! X8_bury -/
abbrev rmX8_bury : Room := { frames := 2, cells := 0, slots := 0, locals := 46 }
theorem hdV_X8_bury : yX8_bury.cls = RX8 ∧ yX8_bury.cls ≠ "java/lang/invoke/MethodHandle" ∧ yX8_bury.cls ≠ "java/lang/invoke/VarHandle" ∧ (parseMethodDescriptor yX8_bury.desc).map (fun d => d.parameters.length) = some 3 := by decide +kernel
theorem coX8_bury_70 : Cond.constant RX8 70 (-1000001) ∈ wsX8_bury := by decide +kernel
theorem clX8_bury_180 : Cond.constantLong RX8 180 (3) ∈ wsX8_bury := by decide +kernel
theorem clX8_bury_182 : Cond.constantLong RX8 182 (40) ∈ wsX8_bury := by decide +kernel
theorem inX8_bury_X8 : ∀ w ∈ wsX80, w ∈ wsX8_bury := by decide +kernel
theorem flX8_bury_19 : Cond.fieldLink RX8 19 (TX8 4).1 (TX8 4).2.1 (TX8 4).2.2.1 ∈ wsX8_bury := by decide +kernel
set_option maxHeartbeats 4000000 in
set_option maxRecDepth 100000 in
theorem m_X8_bury (l : Launch) (D : va_G) (dA : Nat → ClassId) (b0 : Nat) (r0 : Nat) (a1 : Int32) (a2 : Int32) (a3 : Int32) (h : zH) (z : Int32 × zH) (hf : f_X8_bury r0 a1 a2 a3 h = some z) : Met l yX8_bury wsX8_bury rmX8_bury (zPc D dA b0 [.ref (b0 + r0), .int a1, .int a2, .int a3] h) (zQ D dA b0 (some (.int z.1)) z.2) 0 0 (zA b0) := by
  refine Met.ofW (cc := cX8_bury) (maxL := 4) (ret := (some .int)) (by decide) rfl ?_
  intro p e s m args below meth c s₁ B hml hv
  obtain ⟨rfl, hP, hz, hK, hN⟩ := hv
  have hr := B.returns
  have hlk := B.notSynchronized
  have X : zX p s m _ c cX8_bury 4 RX8 wsX8_bury D dA := ⟨⟨B.exec, B.bytes, hml, findClass_of_methodNamed B.named, atoms_spec (ws := wsX8_bury) B.pre⟩, hK, hN⟩
  have G : zG D dA b0 s.heap h s.heap [] := ⟨hP, hz, va_S.rf⟩
  have hl := lv_entry ([.ref (b0 + r0), .int a1, .int a2, .int a3]) (n := 4) (Nat.le_of_ble_eq_true rfl)
  rw [lg_entry_eq]
  generalize (lg_sl ([.ref (b0 + r0), .int a1, .int a2, .int a3]) ++ List.replicate (4 - (lg_sl ([.ref (b0 + r0), .int a1, .int a2, .int a3])).length) Slot.unset).toArray = ls at hl ⊢
  have hl : lv_has ls 4 [(0, .ref (b0 + r0)), (1, .int a1), (2, .int a2), (3, .int a3)] := hl
  unfold f_X8_bury at hf
  refine lv_aload_n X.1.1 X.1.2.1 dX8_bury_0 rfl (lv_at hl 0 rfl) ?_
  refine lv_iload_n X.1.1 X.1.2.1 dX8_bury_1 rfl (lv_at hl 1 rfl) ?_
  obtain ⟨hk, hf⟩ := zck hf
  obtain ⟨q1, eq1, hf⟩ := Option.bind_eq_some_iff.mp hf
  refine zcV0 (As := [.int a1]) (rest := []) (v := (some (.int q1))) (h' := h) X G (rfl : vwCl[8]? = some (RX8, TX8, 24)) hk (m_X8_isThing l D dA b0 r0 a1 h q1 eq1) (cwV 1 X.1.2.2.2.2 gX8_bury_X8_isThing rfl rfl rfl hdV_X8_isThing ⟨(Nat.le_of_ble_eq_true rfl), (Nat.le_of_ble_eq_true rfl)⟩) rfl hl.1 rfl (Nat.le_of_ble_eq_true rfl) dX8_bury_2 ⟨Nat.zero_le _, Nat.zero_le _⟩ (fun H locs G => ?_)
  refine zif_eq (tgt := 32) X dX8_bury_5 (by decide) hf (fun hf => ?_) (fun hf => ?_)
  · refine lv_ldc (v := -1000001) X.1.1 X.1.2.1 X.1.2.2.2.1 (X.1.2.2.2.2 _ coX8_bury_70) dX8_bury_32 ?_
    exact zretI X hr hlk G hf dX8_bury_34
  · refine lv_iload_n X.1.1 X.1.2.1 dX8_bury_8 rfl (lv_at hl 2 rfl) ?_
    refine lv_i2l X.1.1 X.1.2.1 dX8_bury_9 rfl ?_
    refine lv_lconst (v := 0) X.1.1 X.1.2.1 dX8_bury_10 (by decide) ?_
    refine lv_ldc2 (v := 3) X.1.1 X.1.2.1 X.1.2.2.2.1 (X.1.2.2.2.2 _ clX8_bury_180) dX8_bury_11 ?_
    obtain ⟨q2, eq2, hf⟩ := Option.bind_eq_some_iff.mp hf
    refine zcS0 (As := [.long (Int32.toInt64 a2), .long (0 : Int64), .long (3 : Int64)]) (rest := []) (v := (some (.int q2))) (h' := h) X G (m_X8_in l D dA b0 ((Int32.toInt64 a2)) (0 : Int64) (3 : Int64) h q2 eq2) (va_cwS 3 X.1.2.2.2.2 gX8_bury_X8_in rfl rfl rfl hdS_X8_in ⟨(Nat.le_of_ble_eq_true rfl), (Nat.le_of_ble_eq_true rfl)⟩) rfl hl.1 rfl (Nat.le_of_ble_eq_true rfl) dX8_bury_14 ⟨Nat.zero_le _, Nat.zero_le _⟩ (fun H locs G => ?_)
    refine zif_eq (tgt := 32) X dX8_bury_17 (by decide) hf (fun hf => ?_) (fun hf => ?_)
    · refine lv_ldc (v := -1000001) X.1.1 X.1.2.1 X.1.2.2.2.1 (X.1.2.2.2.2 _ coX8_bury_70) dX8_bury_32 ?_
      exact zretI X hr hlk G hf dX8_bury_34
    · refine lv_iload_n X.1.1 X.1.2.1 dX8_bury_20 rfl (lv_at hl 3 rfl) ?_
      refine lv_i2l X.1.1 X.1.2.1 dX8_bury_21 rfl ?_
      refine lv_lconst (v := 1) X.1.1 X.1.2.1 dX8_bury_22 (by decide) ?_
      refine lv_ldc2 (v := 40) X.1.1 X.1.2.1 X.1.2.2.2.1 (X.1.2.2.2.2 _ clX8_bury_182) dX8_bury_23 ?_
      obtain ⟨q3, eq3, hf⟩ := Option.bind_eq_some_iff.mp hf
      refine zcS0 (As := [.long (Int32.toInt64 a3), .long (1 : Int64), .long (40 : Int64)]) (rest := []) (v := (some (.int q3))) (h' := h) X G (m_X8_in l D dA b0 ((Int32.toInt64 a3)) (1 : Int64) (40 : Int64) h q3 eq3) (va_cwS 3 X.1.2.2.2.2 gX8_bury_X8_in rfl rfl rfl hdS_X8_in ⟨(Nat.le_of_ble_eq_true rfl), (Nat.le_of_ble_eq_true rfl)⟩) rfl hl.1 rfl (Nat.le_of_ble_eq_true rfl) dX8_bury_26 ⟨Nat.zero_le _, Nat.zero_le _⟩ (fun H locs G => ?_)
      refine zif_ne (tgt := 35) X dX8_bury_29 (by decide) hf (fun hf => ?_) (fun hf => ?_)
      · refine lv_aload_n X.1.1 X.1.2.1 dX8_bury_35 rfl (lv_at hl 0 rfl) ?_
        obtain ⟨hk, hf⟩ := zck hf
        obtain ⟨q4, eq4, hf⟩ := Option.bind_eq_some_iff.mp hf
        refine zcV0 (As := []) (rest := []) (v := none) (h' := q4) X G (rfl : vwCl[8]? = some (RX8, TX8, 24)) hk (m_X8_remember l D dA b0 r0 h q4 eq4) (cwV 0 X.1.2.2.2.2 gX8_bury_X8_remember rfl rfl rfl hdV_X8_remember ⟨(Nat.le_of_ble_eq_true rfl), (Nat.le_of_ble_eq_true rfl)⟩) rfl hl.1 rfl (Nat.le_of_ble_eq_true rfl) dX8_bury_36 ⟨Nat.zero_le _, Nat.zero_le _⟩ (fun H locs G => ?_)
        refine lv_aload_n X.1.1 X.1.2.1 dX8_bury_39 rfl (lv_at hl 0 rfl) ?_
        refine zgetR (ci := 8) (k := 4) (C := RX8) (T := TX8) (N := 24) X G rfl inX8_bury_X8 (Nat.le_of_ble_eq_true rfl) flX8_bury_19 dX8_bury_40 hf (fun v5 hf => ?_)
        refine lv_bipush (v := 29) X.1.1 X.1.2.1 dX8_bury_43 (by decide) ?_
        refine lv_dup2_11 X.1.1 X.1.2.1 dX8_bury_45 rfl rfl ?_
        refine ziald X G dX8_bury_46 hf (fun v6 hf => ?_)
        refine lv_aload_n X.1.1 X.1.2.1 dX8_bury_47 rfl (lv_at hl 0 rfl) ?_
        refine zgetR (ci := 8) (k := 4) (C := RX8) (T := TX8) (N := 24) X G rfl inX8_bury_X8 (Nat.le_of_ble_eq_true rfl) flX8_bury_19 dX8_bury_48 hf (fun v7 hf => ?_)
        refine lv_bipush (v := 13) X.1.1 X.1.2.1 dX8_bury_51 (by decide) ?_
        refine lv_iload_n X.1.1 X.1.2.1 dX8_bury_53 rfl (lv_at hl 1 rfl) ?_
        refine lv_iadd X.1.1 X.1.2.1 dX8_bury_54 ?_
        refine ziald X G dX8_bury_55 hf (fun v8 hf => ?_)
        refine lv_iload_n X.1.1 X.1.2.1 dX8_bury_56 rfl (lv_at hl 3 rfl) ?_
        refine lv_iadd X.1.1 X.1.2.1 dX8_bury_57 ?_
        refine lv_iadd X.1.1 X.1.2.1 dX8_bury_58 ?_
        refine ziast X G dX8_bury_59 hf (fun h9 H locs hf G => ?_)
        refine lv_aload_n X.1.1 X.1.2.1 dX8_bury_60 rfl (lv_at hl 0 rfl) ?_
        refine zgetR (ci := 8) (k := 4) (C := RX8) (T := TX8) (N := 24) X G rfl inX8_bury_X8 (Nat.le_of_ble_eq_true rfl) flX8_bury_19 dX8_bury_61 hf (fun v10 hf => ?_)
        refine lv_bipush (v := 13) X.1.1 X.1.2.1 dX8_bury_64 (by decide) ?_
        refine lv_iload_n X.1.1 X.1.2.1 dX8_bury_66 rfl (lv_at hl 1 rfl) ?_
        refine lv_iadd X.1.1 X.1.2.1 dX8_bury_67 ?_
        refine lv_iload_n X.1.1 X.1.2.1 dX8_bury_68 rfl (lv_at hl 3 rfl) ?_
        refine ziast X G dX8_bury_69 hf (fun h11 H locs hf G => ?_)
        refine lv_aload_n X.1.1 X.1.2.1 dX8_bury_70 rfl (lv_at hl 0 rfl) ?_
        refine zgetR (ci := 8) (k := 4) (C := RX8) (T := TX8) (N := 24) X G rfl inX8_bury_X8 (Nat.le_of_ble_eq_true rfl) flX8_bury_19 dX8_bury_71 hf (fun v12 hf => ?_)
        refine lv_bipush (v := 18) X.1.1 X.1.2.1 dX8_bury_74 (by decide) ?_
        refine lv_iload_n X.1.1 X.1.2.1 dX8_bury_76 rfl (lv_at hl 1 rfl) ?_
        refine lv_iadd X.1.1 X.1.2.1 dX8_bury_77 ?_
        refine lv_iload_n X.1.1 X.1.2.1 dX8_bury_78 rfl (lv_at hl 2 rfl) ?_
        refine ziast X G dX8_bury_79 hf (fun h13 H locs hf G => ?_)
        refine lv_aload_n X.1.1 X.1.2.1 dX8_bury_80 rfl (lv_at hl 0 rfl) ?_
        refine zgetR (ci := 8) (k := 4) (C := RX8) (T := TX8) (N := 24) X G rfl inX8_bury_X8 (Nat.le_of_ble_eq_true rfl) flX8_bury_19 dX8_bury_81 hf (fun v14 hf => ?_)
        refine lv_bipush (v := 29) X.1.1 X.1.2.1 dX8_bury_84 (by decide) ?_
        refine ziald X G dX8_bury_86 hf (fun v15 hf => ?_)
        exact zretI X hr hlk G hf dX8_bury_87
      · refine lv_ldc (v := -1000001) X.1.1 X.1.2.1 X.1.2.2.2.1 (X.1.2.2.2.2 _ coX8_bury_70) dX8_bury_32 ?_
        exact zretI X hr hlk G hf dX8_bury_34
/-! X8_tell -/
abbrev rmX8_tell : Room := { frames := 2, cells := 0, slots := 0, locals := 46 }
theorem hdV_X8_tell : yX8_tell.cls = RX8 ∧ yX8_tell.cls ≠ "java/lang/invoke/MethodHandle" ∧ yX8_tell.cls ≠ "java/lang/invoke/VarHandle" ∧ (parseMethodDescriptor yX8_tell.desc).map (fun d => d.parameters.length) = some 3 := by decide +kernel
theorem inX8_tell_X8 : ∀ w ∈ wsX80, w ∈ wsX8_tell := by decide +kernel
theorem flX8_tell_19 : Cond.fieldLink RX8 19 (TX8 4).1 (TX8 4).2.1 (TX8 4).2.2.1 ∈ wsX8_tell := by decide +kernel
theorem coX8_tell_163 : Cond.constant RX8 163 (-1000002) ∈ wsX8_tell := by decide +kernel
theorem coX8_tell_70 : Cond.constant RX8 70 (-1000001) ∈ wsX8_tell := by decide +kernel
set_option maxHeartbeats 4000000 in
set_option maxRecDepth 100000 in
theorem w_X8_tell_b59 {p : Program} {l : Launch} {e : Env} {s : State} {m : MethodId} {args : Array Value} {below : List Frame} {meth : Method} {c : Code} {D : va_G} {dA : Nat → ClassId} {b0 : Nat} (X : zX p s m args c cX8_tell 4 RX8 wsX8_tell D dA) (hr : meth.sig.returnType = (some .int)) (hlk : meth.locks = false) {z : Int32 × zH} : ∀ (r0 : Nat) (a1 : Int32) (a2 : Int32) (s0 : Int32) (s1 : Int32) (h : zH) (H : Heap) (locs : List Loc) (ls : Array Slot), f_X8_tell_b59 r0 a1 a2 s0 s1 h = some z → zG D dA b0 s.heap h H locs → lv_has ls 4 [(0, .ref (b0 + r0)), (1, .int a1), (2, .int a2)] → W p l e rmX8_tell s m args below meth c H locs 0 0 (MQ below (zQ D dA b0 (some (.int z.1)) z.2) args s 0 0 (zA b0)) (F0 m 59 ls [.int s1, .int s0]) := by
  intro r0 a1 a2 s0 s1 h H locs ls hf G hl
  unfold f_X8_tell_b59 at hf
  refine zic_ne (tgt := 65) X dX8_tell_59 (by decide) hf (fun hf => ?_) (fun hf => ?_)
  · refine lv_aload_n X.1.1 X.1.2.1 dX8_tell_65 rfl (lv_at hl 0 rfl) ?_
    obtain ⟨hk, hf⟩ := zck hf
    obtain ⟨q1, eq1, hf⟩ := Option.bind_eq_some_iff.mp hf
    refine zcV0 (As := []) (rest := []) (v := none) (h' := q1) X G (rfl : vwCl[8]? = some (RX8, TX8, 24)) hk (m_X8_remember l D dA b0 r0 h q1 eq1) (cwV 0 X.1.2.2.2.2 gX8_tell_X8_remember rfl rfl rfl hdV_X8_remember ⟨(Nat.le_of_ble_eq_true rfl), (Nat.le_of_ble_eq_true rfl)⟩) rfl hl.1 rfl (Nat.le_of_ble_eq_true rfl) dX8_tell_66 ⟨Nat.zero_le _, Nat.zero_le _⟩ (fun H locs G => ?_)
    refine lv_aload_n X.1.1 X.1.2.1 dX8_tell_69 rfl (lv_at hl 0 rfl) ?_
    refine zgetR (ci := 8) (k := 4) (C := RX8) (T := TX8) (N := 24) X G rfl inX8_tell_X8 (Nat.le_of_ble_eq_true rfl) flX8_tell_19 dX8_tell_70 hf (fun v2 hf => ?_)
    refine lv_bipush (v := 23) X.1.1 X.1.2.1 dX8_tell_73 (by decide) ?_
    refine lv_iload_n X.1.1 X.1.2.1 dX8_tell_75 rfl (lv_at hl 1 rfl) ?_
    refine lv_iadd X.1.1 X.1.2.1 dX8_tell_76 ?_
    refine lv_dup2_11 X.1.1 X.1.2.1 dX8_tell_77 rfl rfl ?_
    refine ziald X G dX8_tell_78 hf (fun v3 hf => ?_)
    refine lv_iconst (v := 1) X.1.1 X.1.2.1 dX8_tell_79 (by decide) ?_
    refine lv_iload_n X.1.1 X.1.2.1 dX8_tell_80 rfl (lv_at hl 2 rfl) ?_
    refine lv_ishl X.1.1 X.1.2.1 dX8_tell_81 ?_
    refine lv_ixor X.1.1 X.1.2.1 dX8_tell_82 ?_
    refine ziast X G dX8_tell_83 hf (fun h4 H locs hf G => ?_)
    refine lv_aload_n X.1.1 X.1.2.1 dX8_tell_84 rfl (lv_at hl 0 rfl) ?_
    refine zgetR (ci := 8) (k := 4) (C := RX8) (T := TX8) (N := 24) X G rfl inX8_tell_X8 (Nat.le_of_ble_eq_true rfl) flX8_tell_19 dX8_tell_85 hf (fun v5 hf => ?_)
    refine lv_bipush (v := 23) X.1.1 X.1.2.1 dX8_tell_88 (by decide) ?_
    refine lv_iload_n X.1.1 X.1.2.1 dX8_tell_90 rfl (lv_at hl 1 rfl) ?_
    refine lv_iadd X.1.1 X.1.2.1 dX8_tell_91 ?_
    refine ziald X G dX8_tell_92 hf (fun v6 hf => ?_)
    exact zretI X hr hlk G hf dX8_tell_93
  · refine lv_ldc (v := -1000002) X.1.1 X.1.2.1 X.1.2.2.2.1 (X.1.2.2.2.2 _ coX8_tell_163) dX8_tell_62 ?_
    exact zretI X hr hlk G hf dX8_tell_64
set_option maxHeartbeats 4000000 in
set_option maxRecDepth 100000 in
theorem m_X8_tell (l : Launch) (D : va_G) (dA : Nat → ClassId) (b0 : Nat) (r0 : Nat) (a1 : Int32) (a2 : Int32) (a3 : Int32) (h : zH) (z : Int32 × zH) (hf : f_X8_tell r0 a1 a2 a3 h = some z) : Met l yX8_tell wsX8_tell rmX8_tell (zPc D dA b0 [.ref (b0 + r0), .int a1, .int a2, .int a3] h) (zQ D dA b0 (some (.int z.1)) z.2) 0 0 (zA b0) := by
  refine Met.ofW (cc := cX8_tell) (maxL := 4) (ret := (some .int)) (by decide) rfl ?_
  intro p e s m args below meth c s₁ B hml hv
  obtain ⟨rfl, hP, hz, hK, hN⟩ := hv
  have hr := B.returns
  have hlk := B.notSynchronized
  have X : zX p s m _ c cX8_tell 4 RX8 wsX8_tell D dA := ⟨⟨B.exec, B.bytes, hml, findClass_of_methodNamed B.named, atoms_spec (ws := wsX8_tell) B.pre⟩, hK, hN⟩
  have G : zG D dA b0 s.heap h s.heap [] := ⟨hP, hz, va_S.rf⟩
  have hl := lv_entry ([.ref (b0 + r0), .int a1, .int a2, .int a3]) (n := 4) (Nat.le_of_ble_eq_true rfl)
  rw [lg_entry_eq]
  generalize (lg_sl ([.ref (b0 + r0), .int a1, .int a2, .int a3]) ++ List.replicate (4 - (lg_sl ([.ref (b0 + r0), .int a1, .int a2, .int a3])).length) Slot.unset).toArray = ls at hl ⊢
  have hl : lv_has ls 4 [(0, .ref (b0 + r0)), (1, .int a1), (2, .int a2), (3, .int a3)] := hl
  unfold f_X8_tell at hf
  refine lv_aload_n X.1.1 X.1.2.1 dX8_tell_0 rfl (lv_at hl 0 rfl) ?_
  refine lv_iload_n X.1.1 X.1.2.1 dX8_tell_1 rfl (lv_at hl 1 rfl) ?_
  obtain ⟨hk, hf⟩ := zck hf
  obtain ⟨q1, eq1, hf⟩ := Option.bind_eq_some_iff.mp hf
  refine zcV0 (As := [.int a1]) (rest := []) (v := (some (.int q1))) (h' := h) X G (rfl : vwCl[8]? = some (RX8, TX8, 24)) hk (m_X8_isThing l D dA b0 r0 a1 h q1 eq1) (cwV 1 X.1.2.2.2.2 gX8_tell_X8_isThing rfl rfl rfl hdV_X8_isThing ⟨(Nat.le_of_ble_eq_true rfl), (Nat.le_of_ble_eq_true rfl)⟩) rfl hl.1 rfl (Nat.le_of_ble_eq_true rfl) dX8_tell_2 ⟨Nat.zero_le _, Nat.zero_le _⟩ (fun H locs G => ?_)
  refine zif_eq (tgt := 33) X dX8_tell_5 (by decide) hf (fun hf => ?_) (fun hf => ?_)
  · refine lv_ldc (v := -1000001) X.1.1 X.1.2.1 X.1.2.2.2.1 (X.1.2.2.2.2 _ coX8_tell_70) dX8_tell_33 ?_
    exact zretI X hr hlk G hf dX8_tell_35
  · refine lv_iload_n X.1.1 X.1.2.1 dX8_tell_8 rfl (lv_at hl 2 rfl) ?_
    refine lv_i2l X.1.1 X.1.2.1 dX8_tell_9 rfl ?_
    refine lv_lconst (v := 0) X.1.1 X.1.2.1 dX8_tell_10 (by decide) ?_
    refine lv_aload_n X.1.1 X.1.2.1 dX8_tell_11 rfl (lv_at hl 0 rfl) ?_
    refine zgetR (ci := 8) (k := 4) (C := RX8) (T := TX8) (N := 24) X G rfl inX8_tell_X8 (Nat.le_of_ble_eq_true rfl) flX8_tell_19 dX8_tell_12 hf (fun v2 hf => ?_)
    refine lv_iconst (v := 2) X.1.1 X.1.2.1 dX8_tell_15 (by decide) ?_
    refine ziald X G dX8_tell_16 hf (fun v3 hf => ?_)
    refine lv_iconst (v := 1) X.1.1 X.1.2.1 dX8_tell_17 (by decide) ?_
    refine lv_isub X.1.1 X.1.2.1 dX8_tell_18 ?_
    refine lv_i2l X.1.1 X.1.2.1 dX8_tell_19 rfl ?_
    obtain ⟨q4, eq4, hf⟩ := Option.bind_eq_some_iff.mp hf
    refine zcS0 (As := [.long (Int32.toInt64 a2), .long (0 : Int64), .long (Int32.toInt64 (v3 - (1 : Int32)))]) (rest := []) (v := (some (.int q4))) (h' := h) X G (m_X8_in l D dA b0 ((Int32.toInt64 a2)) (0 : Int64) ((Int32.toInt64 (v3 - (1 : Int32)))) h q4 eq4) (va_cwS 3 X.1.2.2.2.2 gX8_tell_X8_in rfl rfl rfl hdS_X8_in ⟨(Nat.le_of_ble_eq_true rfl), (Nat.le_of_ble_eq_true rfl)⟩) rfl hl.1 rfl (Nat.le_of_ble_eq_true rfl) dX8_tell_20 ⟨Nat.zero_le _, Nat.zero_le _⟩ (fun H locs G => ?_)
    refine zif_eq (tgt := 33) X dX8_tell_23 (by decide) hf (fun hf => ?_) (fun hf => ?_)
    · refine lv_ldc (v := -1000001) X.1.1 X.1.2.1 X.1.2.2.2.1 (X.1.2.2.2.2 _ coX8_tell_70) dX8_tell_33 ?_
      exact zretI X hr hlk G hf dX8_tell_35
    · refine lv_iload_n X.1.1 X.1.2.1 dX8_tell_26 rfl (lv_at hl 3 rfl) ?_
      obtain ⟨q5, eq5, hf⟩ := Option.bind_eq_some_iff.mp hf
      refine zcS0 (As := [.int a3]) (rest := []) (v := (some (.int q5))) (h' := h) X G (m_X8_isTwo l D dA b0 a3 h q5 eq5) (va_cwS 1 X.1.2.2.2.2 gX8_tell_X8_isTwo rfl rfl rfl hdS_X8_isTwo ⟨(Nat.le_of_ble_eq_true rfl), (Nat.le_of_ble_eq_true rfl)⟩) rfl hl.1 rfl (Nat.le_of_ble_eq_true rfl) dX8_tell_27 ⟨Nat.zero_le _, Nat.zero_le _⟩ (fun H locs G => ?_)
      refine zif_ne (tgt := 36) X dX8_tell_30 (by decide) hf (fun hf => ?_) (fun hf => ?_)
      · refine lv_aload_n X.1.1 X.1.2.1 dX8_tell_36 rfl (lv_at hl 0 rfl) ?_
        refine zgetR (ci := 8) (k := 4) (C := RX8) (T := TX8) (N := 24) X G rfl inX8_tell_X8 (Nat.le_of_ble_eq_true rfl) flX8_tell_19 dX8_tell_37 hf (fun v6 hf => ?_)
        refine lv_bipush (v := 23) X.1.1 X.1.2.1 dX8_tell_40 (by decide) ?_
        refine lv_iload_n X.1.1 X.1.2.1 dX8_tell_42 rfl (lv_at hl 1 rfl) ?_
        refine lv_iadd X.1.1 X.1.2.1 dX8_tell_43 ?_
        refine ziald X G dX8_tell_44 hf (fun v7 hf => ?_)
        refine lv_iload_n X.1.1 X.1.2.1 dX8_tell_45 rfl (lv_at hl 2 rfl) ?_
        obtain ⟨q8, eq8, hf⟩ := Option.bind_eq_some_iff.mp hf
        refine zcS0 (As := [.int v7, .int a2]) (rest := []) (v := (some (.int q8))) (h' := h) X G (m_X8_has l D dA b0 v7 a2 h q8 eq8) (va_cwS 2 X.1.2.2.2.2 gX8_tell_X8_has rfl rfl rfl hdS_X8_has ⟨(Nat.le_of_ble_eq_true rfl), (Nat.le_of_ble_eq_true rfl)⟩) rfl hl.1 rfl (Nat.le_of_ble_eq_true rfl) dX8_tell_46 ⟨Nat.zero_le _, Nat.zero_le _⟩ (fun H locs G => ?_)
        refine lv_iload_n X.1.1 X.1.2.1 dX8_tell_49 rfl (lv_at hl 3 rfl) ?_
        refine lv_iconst (v := 1) X.1.1 X.1.2.1 dX8_tell_50 (by decide) ?_
        refine zic_ne (tgt := 58) X dX8_tell_51 (by decide) hf (fun hf => ?_) (fun hf => ?_)
        · refine lv_iconst (v := 0) X.1.1 X.1.2.1 dX8_tell_58 (by decide) ?_
          exact w_X8_tell_b59 X hr hlk _ _ _ _ _ _ _ _ _ hf G (lv_sub hl [0, 1, 2] rfl)
        · refine lv_iconst (v := 1) X.1.1 X.1.2.1 dX8_tell_54 (by decide) ?_
          refine lv_goto (tgt := 59) X.1.1 X.1.2.1 dX8_tell_55 (by decide) ?_
          exact w_X8_tell_b59 X hr hlk _ _ _ _ _ _ _ _ _ hf G (lv_sub hl [0, 1, 2] rfl)
      · refine lv_ldc (v := -1000001) X.1.1 X.1.2.1 X.1.2.2.2.1 (X.1.2.2.2.2 _ coX8_tell_70) dX8_tell_33 ?_
        exact zretI X hr hlk G hf dX8_tell_35
/-! X8_undo -/
abbrev rmX8_undo : Room := { frames := 1, cells := 0, slots := 0, locals := 24 }
theorem hdV_X8_undo : yX8_undo.cls = RX8 ∧ yX8_undo.cls ≠ "java/lang/invoke/MethodHandle" ∧ yX8_undo.cls ≠ "java/lang/invoke/VarHandle" ∧ (parseMethodDescriptor yX8_undo.desc).map (fun d => d.parameters.length) = some 0 := by decide +kernel
theorem inX8_undo_X8 : ∀ w ∈ wsX80, w ∈ wsX8_undo := by decide +kernel
theorem flX8_undo_139 : Cond.fieldLink RX8 139 (TX8 8).1 (TX8 8).2.1 (TX8 8).2.2.1 ∈ wsX8_undo := by decide +kernel
theorem flX8_undo_28 : Cond.fieldLink RX8 28 (TX8 7).1 (TX8 7).2.1 (TX8 7).2.2.1 ∈ wsX8_undo := by decide +kernel
theorem flX8_undo_19 : Cond.fieldLink RX8 19 (TX8 4).1 (TX8 4).2.1 (TX8 4).2.2.1 ∈ wsX8_undo := by decide +kernel
theorem coX8_undo_163 : Cond.constant RX8 163 (-1000002) ∈ wsX8_undo := by decide +kernel
set_option maxHeartbeats 4000000 in
set_option maxRecDepth 100000 in
theorem m_X8_undo (l : Launch) (D : va_G) (dA : Nat → ClassId) (b0 : Nat) (r0 : Nat) (h : zH) (z : Int32 × zH) (hf : f_X8_undo r0 h = some z) : Met l yX8_undo wsX8_undo rmX8_undo (zPc D dA b0 [.ref (b0 + r0)] h) (zQ D dA b0 (some (.int z.1)) z.2) 0 0 (zA b0) := by
  refine Met.ofW (cc := cX8_undo) (maxL := 1) (ret := (some .int)) (by decide) rfl ?_
  intro p e s m args below meth c s₁ B hml hv
  obtain ⟨rfl, hP, hz, hK, hN⟩ := hv
  have hr := B.returns
  have hlk := B.notSynchronized
  have X : zX p s m _ c cX8_undo 1 RX8 wsX8_undo D dA := ⟨⟨B.exec, B.bytes, hml, findClass_of_methodNamed B.named, atoms_spec (ws := wsX8_undo) B.pre⟩, hK, hN⟩
  have G : zG D dA b0 s.heap h s.heap [] := ⟨hP, hz, va_S.rf⟩
  have hl := lv_entry ([.ref (b0 + r0)]) (n := 1) (Nat.le_of_ble_eq_true rfl)
  rw [lg_entry_eq]
  generalize (lg_sl ([.ref (b0 + r0)]) ++ List.replicate (1 - (lg_sl ([.ref (b0 + r0)])).length) Slot.unset).toArray = ls at hl ⊢
  have hl : lv_has ls 1 [(0, .ref (b0 + r0))] := hl
  unfold f_X8_undo at hf
  refine lv_aload_n X.1.1 X.1.2.1 dX8_undo_0 rfl (lv_at hl 0 rfl) ?_
  refine zgetI (ci := 8) (k := 8) (C := RX8) (T := TX8) (N := 24) X G rfl inX8_undo_X8 (Nat.le_of_ble_eq_true rfl) flX8_undo_139 dX8_undo_1 hf (fun v1 hf => ?_)
  refine zif_ne (tgt := 10) X dX8_undo_4 (by decide) hf (fun hf => ?_) (fun hf => ?_)
  · refine lv_aload_n X.1.1 X.1.2.1 dX8_undo_10 rfl (lv_at hl 0 rfl) ?_
    refine lv_dup X.1.1 X.1.2.1 dX8_undo_11 rfl ?_
    refine zgetI (ci := 8) (k := 8) (C := RX8) (T := TX8) (N := 24) X G rfl inX8_undo_X8 (Nat.le_of_ble_eq_true rfl) flX8_undo_139 dX8_undo_12 hf (fun v2 hf => ?_)
    refine lv_iconst (v := 1) X.1.1 X.1.2.1 dX8_undo_15 (by decide) ?_
    refine lv_isub X.1.1 X.1.2.1 dX8_undo_16 ?_
    refine zputI (ci := 8) (k := 8) (C := RX8) (T := TX8) (N := 24) X G rfl inX8_undo_X8 tyX8_ok nmX8 (Nat.le_of_ble_eq_true rfl) flX8_undo_139 rfl (by decide +kernel) dX8_undo_17 hf (fun h3 H locs hf G => ?_)
    refine lv_aload_n X.1.1 X.1.2.1 dX8_undo_20 rfl (lv_at hl 0 rfl) ?_
    refine zgetR (ci := 8) (k := 7) (C := RX8) (T := TX8) (N := 24) X G rfl inX8_undo_X8 (Nat.le_of_ble_eq_true rfl) flX8_undo_28 dX8_undo_21 hf (fun v4 hf => ?_)
    refine lv_bipush (v := 30) X.1.1 X.1.2.1 dX8_undo_24 (by decide) ?_
    refine lv_aload_n X.1.1 X.1.2.1 dX8_undo_26 rfl (lv_at hl 0 rfl) ?_
    refine zgetI (ci := 8) (k := 8) (C := RX8) (T := TX8) (N := 24) X G rfl inX8_undo_X8 (Nat.le_of_ble_eq_true rfl) flX8_undo_139 dX8_undo_27 hf (fun v5 hf => ?_)
    refine lv_imul X.1.1 X.1.2.1 dX8_undo_30 ?_
    refine lv_aload_n X.1.1 X.1.2.1 dX8_undo_31 rfl (lv_at hl 0 rfl) ?_
    refine zgetR (ci := 8) (k := 4) (C := RX8) (T := TX8) (N := 24) X G rfl inX8_undo_X8 (Nat.le_of_ble_eq_true rfl) flX8_undo_19 dX8_undo_32 hf (fun v6 hf => ?_)
    refine lv_iconst (v := 0) X.1.1 X.1.2.1 dX8_undo_35 (by decide) ?_
    obtain ⟨q7, eq7, hf⟩ := Option.bind_eq_some_iff.mp hf
    refine zcS0 (As := [.ref (b0 + v4), .int ((30 : Int32) * v5), .ref (b0 + v6), .int (0 : Int32)]) (rest := []) (v := none) (h' := q7) X G (m_X8_copies l D dA b0 v4 (((30 : Int32) * v5)) v6 (0 : Int32) h3 q7 eq7) (va_cwS 4 X.1.2.2.2.2 gX8_undo_X8_copies rfl rfl rfl hdS_X8_copies ⟨(Nat.le_of_ble_eq_true rfl), (Nat.le_of_ble_eq_true rfl)⟩) rfl hl.1 rfl (Nat.le_of_ble_eq_true rfl) dX8_undo_36 ⟨Nat.zero_le _, Nat.zero_le _⟩ (fun H locs G => ?_)
    refine lv_aload_n X.1.1 X.1.2.1 dX8_undo_39 rfl (lv_at hl 0 rfl) ?_
    refine zgetI (ci := 8) (k := 8) (C := RX8) (T := TX8) (N := 24) X G rfl inX8_undo_X8 (Nat.le_of_ble_eq_true rfl) flX8_undo_139 dX8_undo_40 hf (fun v8 hf => ?_)
    exact zretI X hr hlk G hf dX8_undo_43
  · refine lv_ldc (v := -1000002) X.1.1 X.1.2.1 X.1.2.2.2.1 (X.1.2.2.2.2 _ coX8_undo_163) dX8_undo_7 ?_
    exact zretI X hr hlk G hf dX8_undo_9
/-! X8_thing -/
abbrev rmX8_thing : Room := { frames := 3, cells := 0, slots := 0, locals := 66 }
theorem hdV_X8_thing : yX8_thing.cls = RX8 ∧ yX8_thing.cls ≠ "java/lang/invoke/MethodHandle" ∧ yX8_thing.cls ≠ "java/lang/invoke/VarHandle" ∧ (parseMethodDescriptor yX8_thing.desc).map (fun d => d.parameters.length) = some 2 := by decide +kernel
theorem inX8_thing_X8 : ∀ w ∈ wsX80, w ∈ wsX8_thing := by decide +kernel
theorem flX8_thing_19 : Cond.fieldLink RX8 19 (TX8 4).1 (TX8 4).2.1 (TX8 4).2.2.1 ∈ wsX8_thing := by decide +kernel
theorem coX8_thing_70 : Cond.constant RX8 70 (-1000001) ∈ wsX8_thing := by decide +kernel
set_option maxHeartbeats 4000000 in
set_option maxRecDepth 100000 in
theorem m_X8_thing (l : Launch) (D : va_G) (dA : Nat → ClassId) (b0 : Nat) (r0 : Nat) (a1 : Int32) (a2 : Int32) (h : zH) (z : Int32) (hf : f_X8_thing r0 a1 a2 h = some z) : Met l yX8_thing wsX8_thing rmX8_thing (zPc D dA b0 [.ref (b0 + r0), .int a1, .int a2] h) (zQ D dA b0 (some (.int z)) h) 0 0 (zA b0) := by
  refine Met.ofW (cc := cX8_thing) (maxL := 3) (ret := (some .int)) (by decide) rfl ?_
  intro p e s m args below meth c s₁ B hml hv
  obtain ⟨rfl, hP, hz, hK, hN⟩ := hv
  have hr := B.returns
  have hlk := B.notSynchronized
  have X : zX p s m _ c cX8_thing 3 RX8 wsX8_thing D dA := ⟨⟨B.exec, B.bytes, hml, findClass_of_methodNamed B.named, atoms_spec (ws := wsX8_thing) B.pre⟩, hK, hN⟩
  have G : zG D dA b0 s.heap h s.heap [] := ⟨hP, hz, va_S.rf⟩
  have hl := lv_entry ([.ref (b0 + r0), .int a1, .int a2]) (n := 3) (Nat.le_of_ble_eq_true rfl)
  rw [lg_entry_eq]
  generalize (lg_sl ([.ref (b0 + r0), .int a1, .int a2]) ++ List.replicate (3 - (lg_sl ([.ref (b0 + r0), .int a1, .int a2])).length) Slot.unset).toArray = ls at hl ⊢
  have hl : lv_has ls 3 [(0, .ref (b0 + r0)), (1, .int a1), (2, .int a2)] := hl
  unfold f_X8_thing at hf
  refine lv_aload_n X.1.1 X.1.2.1 dX8_thing_0 rfl (lv_at hl 0 rfl) ?_
  refine lv_iload_n X.1.1 X.1.2.1 dX8_thing_1 rfl (lv_at hl 1 rfl) ?_
  obtain ⟨hk, hf⟩ := zck hf
  obtain ⟨q1, eq1, hf⟩ := Option.bind_eq_some_iff.mp hf
  refine zcV0 (As := [.int a1]) (rest := []) (v := (some (.int q1))) (h' := h) X G (rfl : vwCl[8]? = some (RX8, TX8, 24)) hk (m_X8_isThing l D dA b0 r0 a1 h q1 eq1) (cwV 1 X.1.2.2.2.2 gX8_thing_X8_isThing rfl rfl rfl hdV_X8_isThing ⟨(Nat.le_of_ble_eq_true rfl), (Nat.le_of_ble_eq_true rfl)⟩) rfl hl.1 rfl (Nat.le_of_ble_eq_true rfl) dX8_thing_2 ⟨Nat.zero_le _, Nat.zero_le _⟩ (fun H locs G => ?_)
  refine zif_ne (tgt := 11) X dX8_thing_5 (by decide) hf (fun hf => ?_) (fun hf => ?_)
  · refine lv_iload_n X.1.1 X.1.2.1 dX8_thing_11 rfl (lv_at hl 2 rfl) ?_
    by_cases c0 : a2 = 0
    · rw [if_pos c0] at hf
      refine lv_tableIn (off := 40) (tgt := 52) X.1.1 X.1.2.1 dX8_thing_12 (by rw [c0]; decide) (by rw [c0]; decide) (by rw [c0]; decide) (by decide) ?_
      refine lv_aload_n X.1.1 X.1.2.1 dX8_thing_52 rfl (lv_at hl 0 rfl) ?_
      refine zgetR (ci := 8) (k := 4) (C := RX8) (T := TX8) (N := 24) X G rfl inX8_thing_X8 (Nat.le_of_ble_eq_true rfl) flX8_thing_19 dX8_thing_53 hf (fun v2 hf => ?_)
      refine lv_bipush (v := 13) X.1.1 X.1.2.1 dX8_thing_56 (by decide) ?_
      refine lv_iload_n X.1.1 X.1.2.1 dX8_thing_58 rfl (lv_at hl 1 rfl) ?_
      refine lv_iadd X.1.1 X.1.2.1 dX8_thing_59 ?_
      refine ziald X G dX8_thing_60 hf (fun v3 hf => ?_)
      exact zretIr X hr hlk G hf dX8_thing_61
    rw [if_neg c0] at hf
    by_cases c1 : a2 = 1
    · rw [if_pos c1] at hf
      refine lv_tableIn (off := 50) (tgt := 62) X.1.1 X.1.2.1 dX8_thing_12 (by rw [c1]; decide) (by rw [c1]; decide) (by rw [c1]; decide) (by decide) ?_
      refine lv_aload_n X.1.1 X.1.2.1 dX8_thing_62 rfl (lv_at hl 0 rfl) ?_
      refine zgetR (ci := 8) (k := 4) (C := RX8) (T := TX8) (N := 24) X G rfl inX8_thing_X8 (Nat.le_of_ble_eq_true rfl) flX8_thing_19 dX8_thing_63 hf (fun v4 hf => ?_)
      refine lv_bipush (v := 18) X.1.1 X.1.2.1 dX8_thing_66 (by decide) ?_
      refine lv_iload_n X.1.1 X.1.2.1 dX8_thing_68 rfl (lv_at hl 1 rfl) ?_
      refine lv_iadd X.1.1 X.1.2.1 dX8_thing_69 ?_
      refine ziald X G dX8_thing_70 hf (fun v5 hf => ?_)
      exact zretIr X hr hlk G hf dX8_thing_71
    rw [if_neg c1] at hf
    by_cases c2 : a2 = 2
    · rw [if_pos c2] at hf
      refine lv_tableIn (off := 60) (tgt := 72) X.1.1 X.1.2.1 dX8_thing_12 (by rw [c2]; decide) (by rw [c2]; decide) (by rw [c2]; decide) (by decide) ?_
      refine lv_aload_n X.1.1 X.1.2.1 dX8_thing_72 rfl (lv_at hl 0 rfl) ?_
      refine zgetR (ci := 8) (k := 4) (C := RX8) (T := TX8) (N := 24) X G rfl inX8_thing_X8 (Nat.le_of_ble_eq_true rfl) flX8_thing_19 dX8_thing_73 hf (fun v6 hf => ?_)
      refine lv_bipush (v := 8) X.1.1 X.1.2.1 dX8_thing_76 (by decide) ?_
      refine lv_iload_n X.1.1 X.1.2.1 dX8_thing_78 rfl (lv_at hl 1 rfl) ?_
      refine lv_iadd X.1.1 X.1.2.1 dX8_thing_79 ?_
      refine ziald X G dX8_thing_80 hf (fun v7 hf => ?_)
      exact zretIr X hr hlk G hf dX8_thing_81
    rw [if_neg c2] at hf
    by_cases c3 : a2 = 3
    · rw [if_pos c3] at hf
      refine lv_tableIn (off := 70) (tgt := 82) X.1.1 X.1.2.1 dX8_thing_12 (by rw [c3]; decide) (by rw [c3]; decide) (by rw [c3]; decide) (by decide) ?_
      refine lv_aload_n X.1.1 X.1.2.1 dX8_thing_82 rfl (lv_at hl 0 rfl) ?_
      refine zgetR (ci := 8) (k := 4) (C := RX8) (T := TX8) (N := 24) X G rfl inX8_thing_X8 (Nat.le_of_ble_eq_true rfl) flX8_thing_19 dX8_thing_83 hf (fun v8 hf => ?_)
      refine lv_bipush (v := 23) X.1.1 X.1.2.1 dX8_thing_86 (by decide) ?_
      refine lv_iload_n X.1.1 X.1.2.1 dX8_thing_88 rfl (lv_at hl 1 rfl) ?_
      refine lv_iadd X.1.1 X.1.2.1 dX8_thing_89 ?_
      refine ziald X G dX8_thing_90 hf (fun v9 hf => ?_)
      exact zretIr X hr hlk G hf dX8_thing_91
    rw [if_neg c3] at hf
    by_cases c4 : a2 = 4
    · rw [if_pos c4] at hf
      refine lv_tableIn (off := 80) (tgt := 92) X.1.1 X.1.2.1 dX8_thing_12 (by rw [c4]; decide) (by rw [c4]; decide) (by rw [c4]; decide) (by decide) ?_
      refine lv_aload_n X.1.1 X.1.2.1 dX8_thing_92 rfl (lv_at hl 0 rfl) ?_
      refine zgetR (ci := 8) (k := 4) (C := RX8) (T := TX8) (N := 24) X G rfl inX8_thing_X8 (Nat.le_of_ble_eq_true rfl) flX8_thing_19 dX8_thing_93 hf (fun v10 hf => ?_)
      refine lv_iload_n X.1.1 X.1.2.1 dX8_thing_96 rfl (lv_at hl 1 rfl) ?_
      obtain ⟨q11, eq11, hf⟩ := Option.bind_eq_some_iff.mp hf
      refine zcS0 (As := [.ref (b0 + v10), .int a1]) (rest := []) (v := (some (.int q11))) (h' := h) X G (m_X8_nearTo l D dA b0 v10 a1 h q11 eq11) (va_cwS 2 X.1.2.2.2.2 gX8_thing_X8_nearTo rfl rfl rfl hdS_X8_nearTo ⟨(Nat.le_of_ble_eq_true rfl), (Nat.le_of_ble_eq_true rfl)⟩) rfl hl.1 rfl (Nat.le_of_ble_eq_true rfl) dX8_thing_97 ⟨Nat.zero_le _, Nat.zero_le _⟩ (fun H locs G => ?_)
      exact zretIr X hr hlk G hf dX8_thing_100
    rw [if_neg c4] at hf
    by_cases c5 : a2 = 5
    · rw [if_pos c5] at hf
      refine lv_tableIn (off := 89) (tgt := 101) X.1.1 X.1.2.1 dX8_thing_12 (by rw [c5]; decide) (by rw [c5]; decide) (by rw [c5]; decide) (by decide) ?_
      refine lv_aload_n X.1.1 X.1.2.1 dX8_thing_101 rfl (lv_at hl 0 rfl) ?_
      refine zgetR (ci := 8) (k := 4) (C := RX8) (T := TX8) (N := 24) X G rfl inX8_thing_X8 (Nat.le_of_ble_eq_true rfl) flX8_thing_19 dX8_thing_102 hf (fun v12 hf => ?_)
      refine lv_iload_n X.1.1 X.1.2.1 dX8_thing_105 rfl (lv_at hl 1 rfl) ?_
      obtain ⟨q13, eq13, hf⟩ := Option.bind_eq_some_iff.mp hf
      refine zcS0 (As := [.ref (b0 + v12), .int a1]) (rest := []) (v := (some (.int q13))) (h' := h) X G (m_X8_rises l D dA b0 v12 a1 h q13 eq13) (va_cwS 2 X.1.2.2.2.2 gX8_thing_X8_rises rfl rfl rfl hdS_X8_rises ⟨(Nat.le_of_ble_eq_true rfl), (Nat.le_of_ble_eq_true rfl)⟩) rfl hl.1 rfl (Nat.le_of_ble_eq_true rfl) dX8_thing_106 ⟨Nat.zero_le _, Nat.zero_le _⟩ (fun H locs G => ?_)
      exact zretIr X hr hlk G hf dX8_thing_109
    rw [if_neg c5] at hf
    refine lv_tableOut (tgt := 110) X.1.1 X.1.2.1 dX8_thing_12 (by have n0 := lv_neT c0 (show ((0 : Int32)).toInt = 0 from by decide); have n1 := lv_neT c1 (show ((1 : Int32)).toInt = 1 from by decide); have n2 := lv_neT c2 (show ((2 : Int32)).toInt = 2 from by decide); have n3 := lv_neT c3 (show ((3 : Int32)).toInt = 3 from by decide); have n4 := lv_neT c4 (show ((4 : Int32)).toInt = 4 from by decide); have n5 := lv_neT c5 (show ((5 : Int32)).toInt = 5 from by decide); omega) (by decide) ?_
    refine lv_ldc (v := -1000001) X.1.1 X.1.2.1 X.1.2.2.2.1 (X.1.2.2.2.2 _ coX8_thing_70) dX8_thing_110 ?_
    exact zretIr X hr hlk G hf dX8_thing_112
  · refine lv_ldc (v := -1000001) X.1.1 X.1.2.1 X.1.2.2.2.1 (X.1.2.2.2.2 _ coX8_thing_70) dX8_thing_8 ?_
    exact zretIr X hr hlk G hf dX8_thing_10
/-! X8_knows -/
abbrev rmX8_knows : Room := { frames := 1, cells := 0, slots := 0, locals := 25 }
theorem hdV_X8_knows : yX8_knows.cls = RX8 ∧ yX8_knows.cls ≠ "java/lang/invoke/MethodHandle" ∧ yX8_knows.cls ≠ "java/lang/invoke/VarHandle" ∧ (parseMethodDescriptor yX8_knows.desc).map (fun d => d.parameters.length) = some 1 := by decide +kernel
theorem inX8_knows_X8 : ∀ w ∈ wsX80, w ∈ wsX8_knows := by decide +kernel
theorem flX8_knows_19 : Cond.fieldLink RX8 19 (TX8 4).1 (TX8 4).2.1 (TX8 4).2.2.1 ∈ wsX8_knows := by decide +kernel
theorem coX8_knows_70 : Cond.constant RX8 70 (-1000001) ∈ wsX8_knows := by decide +kernel
set_option maxHeartbeats 4000000 in
set_option maxRecDepth 100000 in
theorem w_X8_knows_b59 {p : Program} {l : Launch} {e : Env} {s : State} {m : MethodId} {args : Array Value} {below : List Frame} {meth : Method} {c : Code} {D : va_G} {dA : Nat → ClassId} {b0 : Nat} {h : zH} (X : zX p s m args c cX8_knows 4 RX8 wsX8_knows D dA) (hr : meth.sig.returnType = (some .int)) (hlk : meth.locks = false) {z : Int32} (k25 : Nat → Int32 → Int32 → Int32 → Option (Int32)) (hk25 : ∀ (r0 : Nat) (a1 : Int32) (a2 : Int32) (a3 : Int32) (H : Heap) (locs : List Loc) (ls : Array Slot), k25 r0 a1 a2 a3 = some z → zG D dA b0 s.heap h H locs → lv_has ls 4 [(0, .ref (b0 + r0)), (1, .int a1), (2, .int a2), (3, .int a3)] → W p l e rmX8_knows s m args below meth c H locs 0 0 (MQ below (zQ D dA b0 (some (.int z)) h) args s 0 0 (zA b0)) (F0 m 25 ls [])) : ∀ (r0 : Nat) (a1 : Int32) (a3 : Int32) (s0 : Int32) (s1 : Int32) (H : Heap) (locs : List Loc) (ls : Array Slot), f_X8_knows_b59 h k25 r0 a1 a3 s0 s1 = some z → zG D dA b0 s.heap h H locs → lv_has ls 4 [(0, .ref (b0 + r0)), (1, .int a1), (3, .int a3)] → W p l e rmX8_knows s m args below meth c H locs 0 0 (MQ below (zQ D dA b0 (some (.int z)) h) args s 0 0 (zA b0)) (F0 m 59 ls [.int s1, .int s0]) := by
  intro r0 a1 a3 s0 s1 H locs ls hf G hl
  unfold f_X8_knows_b59 at hf
  refine lv_ior X.1.1 X.1.2.1 dX8_knows_59 ?_
  refine zleti hf (fun x1 hf => ?_)
  refine lv_istore_n (lv' := [(2, .int x1), (0, .ref (b0 + r0)), (1, .int a1), (3, .int a3)]) X.1.1 X.1.2.1 dX8_knows_60 rfl hl (by decide) rfl (fun ls hl => ?_)
  refine lv_iinc (v := (a3 + (1 : Int32))) (lv' := [(3, .int (a3 + (1 : Int32))), (2, .int x1), (0, .ref (b0 + r0)), (1, .int a1)]) X.1.1 X.1.2.1 dX8_knows_61 hl (k := 3) rfl rfl (by decide) rfl (fun ls hl => ?_)
  refine lv_goto (tgt := 25) X.1.1 X.1.2.1 dX8_knows_64 (by decide) ?_
  exact hk25 _ _ _ _ _ _ _ hf G (lv_sub hl [2, 3, 1, 0] rfl)
set_option maxHeartbeats 4000000 in
set_option maxRecDepth 100000 in
theorem w_X8_knows_b25 {p : Program} {l : Launch} {e : Env} {s : State} {m : MethodId} {args : Array Value} {below : List Frame} {meth : Method} {c : Code} {D : va_G} {dA : Nat → ClassId} {b0 : Nat} {h : zH} (X : zX p s m args c cX8_knows 4 RX8 wsX8_knows D dA) (hr : meth.sig.returnType = (some .int)) (hlk : meth.locks = false) {z : Int32} : ∀ (n : Nat), ∀ (r0 : Nat) (a1 : Int32) (a2 : Int32) (a3 : Int32) (H : Heap) (locs : List Loc) (ls : Array Slot), f_X8_knows_b25 h n r0 a1 a2 a3 = some z → zG D dA b0 s.heap h H locs → lv_has ls 4 [(0, .ref (b0 + r0)), (1, .int a1), (2, .int a2), (3, .int a3)] → W p l e rmX8_knows s m args below meth c H locs 0 0 (MQ below (zQ D dA b0 (some (.int z)) h) args s 0 0 (zA b0)) (F0 m 25 ls []) := by
  intro n
  induction n with
  | zero =>
    intro r0 a1 a2 a3 H locs ls hf
    cases hf
  | succ n ih =>
    intro r0 a1 a2 a3 H locs ls hf G hl
    rw [f_X8_knows_b25] at hf
    refine lv_iload_n X.1.1 X.1.2.1 dX8_knows_25 rfl (lv_at hl 3 rfl) ?_
    refine lv_aload_n X.1.1 X.1.2.1 dX8_knows_26 rfl (lv_at hl 0 rfl) ?_
    refine zgetR (ci := 8) (k := 4) (C := RX8) (T := TX8) (N := 24) X G rfl inX8_knows_X8 (Nat.le_of_ble_eq_true rfl) flX8_knows_19 dX8_knows_27 hf (fun v1 hf => ?_)
    refine lv_iconst (v := 0) X.1.1 X.1.2.1 dX8_knows_30 (by decide) ?_
    refine ziald X G dX8_knows_31 hf (fun v2 hf => ?_)
    refine zic_ge (tgt := 67) X dX8_knows_32 (by decide) hf (fun hf => ?_) (fun hf => ?_)
    · refine lv_iload_n X.1.1 X.1.2.1 dX8_knows_67 rfl (lv_at hl 2 rfl) ?_
      exact zretIr X hr hlk G hf dX8_knows_68
    · refine lv_iload_n X.1.1 X.1.2.1 dX8_knows_35 rfl (lv_at hl 2 rfl) ?_
      refine lv_aload_n X.1.1 X.1.2.1 dX8_knows_36 rfl (lv_at hl 0 rfl) ?_
      refine zgetR (ci := 8) (k := 4) (C := RX8) (T := TX8) (N := 24) X G rfl inX8_knows_X8 (Nat.le_of_ble_eq_true rfl) flX8_knows_19 dX8_knows_37 hf (fun v3 hf => ?_)
      refine lv_bipush (v := 23) X.1.1 X.1.2.1 dX8_knows_40 (by decide) ?_
      refine lv_iload_n X.1.1 X.1.2.1 dX8_knows_42 rfl (lv_at hl 3 rfl) ?_
      refine lv_iadd X.1.1 X.1.2.1 dX8_knows_43 ?_
      refine ziald X G dX8_knows_44 hf (fun v4 hf => ?_)
      refine lv_iload_n X.1.1 X.1.2.1 dX8_knows_45 rfl (lv_at hl 1 rfl) ?_
      obtain ⟨q5, eq5, hf⟩ := Option.bind_eq_some_iff.mp hf
      refine zcS0 (As := [.int v4, .int a1]) (rest := [.int a2]) (v := (some (.int q5))) (h' := h) X G (m_X8_has l D dA b0 v4 a1 h q5 eq5) (va_cwS 2 X.1.2.2.2.2 gX8_knows_X8_has rfl rfl rfl hdS_X8_has ⟨(Nat.le_of_ble_eq_true rfl), (Nat.le_of_ble_eq_true rfl)⟩) rfl hl.1 rfl (Nat.le_of_ble_eq_true rfl) dX8_knows_46 ⟨Nat.zero_le _, Nat.zero_le _⟩ (fun H locs G => ?_)
      refine zif_eq (tgt := 58) X dX8_knows_49 (by decide) hf (fun hf => ?_) (fun hf => ?_)
      · refine lv_iconst (v := 0) X.1.1 X.1.2.1 dX8_knows_58 (by decide) ?_
        exact w_X8_knows_b59 X hr hlk _ ih _ _ _ _ _ _ _ _ hf G (lv_sub hl [0, 1, 3] rfl)
      · refine lv_iconst (v := 1) X.1.1 X.1.2.1 dX8_knows_52 (by decide) ?_
        refine lv_iload_n X.1.1 X.1.2.1 dX8_knows_53 rfl (lv_at hl 3 rfl) ?_
        refine lv_ishl X.1.1 X.1.2.1 dX8_knows_54 ?_
        refine lv_goto (tgt := 59) X.1.1 X.1.2.1 dX8_knows_55 (by decide) ?_
        exact w_X8_knows_b59 X hr hlk _ ih _ _ _ _ _ _ _ _ hf G (lv_sub hl [0, 1, 3] rfl)
set_option maxHeartbeats 4000000 in
set_option maxRecDepth 100000 in
theorem m_X8_knows (l : Launch) (D : va_G) (dA : Nat → ClassId) (b0 : Nat) (r0 : Nat) (a1 : Int32) (h : zH) (z : Int32) (hf : f_X8_knows r0 a1 h = some z) : Met l yX8_knows wsX8_knows rmX8_knows (zPc D dA b0 [.ref (b0 + r0), .int a1] h) (zQ D dA b0 (some (.int z)) h) 0 0 (zA b0) := by
  refine Met.ofW (cc := cX8_knows) (maxL := 4) (ret := (some .int)) (by decide) rfl ?_
  intro p e s m args below meth c s₁ B hml hv
  obtain ⟨rfl, hP, hz, hK, hN⟩ := hv
  have hr := B.returns
  have hlk := B.notSynchronized
  have X : zX p s m _ c cX8_knows 4 RX8 wsX8_knows D dA := ⟨⟨B.exec, B.bytes, hml, findClass_of_methodNamed B.named, atoms_spec (ws := wsX8_knows) B.pre⟩, hK, hN⟩
  have G : zG D dA b0 s.heap h s.heap [] := ⟨hP, hz, va_S.rf⟩
  have hl := lv_entry ([.ref (b0 + r0), .int a1]) (n := 4) (Nat.le_of_ble_eq_true rfl)
  rw [lg_entry_eq]
  generalize (lg_sl ([.ref (b0 + r0), .int a1]) ++ List.replicate (4 - (lg_sl ([.ref (b0 + r0), .int a1])).length) Slot.unset).toArray = ls at hl ⊢
  have hl : lv_has ls 4 [(0, .ref (b0 + r0)), (1, .int a1)] := hl
  unfold f_X8_knows at hf
  refine lv_iload_n X.1.1 X.1.2.1 dX8_knows_0 rfl (lv_at hl 1 rfl) ?_
  refine lv_i2l X.1.1 X.1.2.1 dX8_knows_1 rfl ?_
  refine lv_lconst (v := 0) X.1.1 X.1.2.1 dX8_knows_2 (by decide) ?_
  refine lv_aload_n X.1.1 X.1.2.1 dX8_knows_3 rfl (lv_at hl 0 rfl) ?_
  refine zgetR (ci := 8) (k := 4) (C := RX8) (T := TX8) (N := 24) X G rfl inX8_knows_X8 (Nat.le_of_ble_eq_true rfl) flX8_knows_19 dX8_knows_4 hf (fun v1 hf => ?_)
  refine lv_iconst (v := 2) X.1.1 X.1.2.1 dX8_knows_7 (by decide) ?_
  refine ziald X G dX8_knows_8 hf (fun v2 hf => ?_)
  refine lv_iconst (v := 1) X.1.1 X.1.2.1 dX8_knows_9 (by decide) ?_
  refine lv_isub X.1.1 X.1.2.1 dX8_knows_10 ?_
  refine lv_i2l X.1.1 X.1.2.1 dX8_knows_11 rfl ?_
  obtain ⟨q3, eq3, hf⟩ := Option.bind_eq_some_iff.mp hf
  refine zcS0 (As := [.long (Int32.toInt64 a1), .long (0 : Int64), .long (Int32.toInt64 (v2 - (1 : Int32)))]) (rest := []) (v := (some (.int q3))) (h' := h) X G (m_X8_in l D dA b0 ((Int32.toInt64 a1)) (0 : Int64) ((Int32.toInt64 (v2 - (1 : Int32)))) h q3 eq3) (va_cwS 3 X.1.2.2.2.2 gX8_knows_X8_in rfl rfl rfl hdS_X8_in ⟨(Nat.le_of_ble_eq_true rfl), (Nat.le_of_ble_eq_true rfl)⟩) rfl hl.1 rfl (Nat.le_of_ble_eq_true rfl) dX8_knows_12 ⟨Nat.zero_le _, Nat.zero_le _⟩ (fun H locs G => ?_)
  refine zif_ne (tgt := 21) X dX8_knows_15 (by decide) hf (fun hf => ?_) (fun hf => ?_)
  · refine lv_iconst (v := 0) X.1.1 X.1.2.1 dX8_knows_21 (by decide) ?_
    refine lv_istore_n (lv' := [(2, .int (0 : Int32)), (0, .ref (b0 + r0)), (1, .int a1)]) X.1.1 X.1.2.1 dX8_knows_22 rfl hl (by decide) rfl (fun ls hl => ?_)
    refine lv_iconst (v := 0) X.1.1 X.1.2.1 dX8_knows_23 (by decide) ?_
    refine lv_istore_n (lv' := [(3, .int (0 : Int32)), (2, .int (0 : Int32)), (0, .ref (b0 + r0)), (1, .int a1)]) X.1.1 X.1.2.1 dX8_knows_24 rfl hl (by decide) rfl (fun ls hl => ?_)
    exact w_X8_knows_b25 X hr hlk _ _ _ _ _ _ _ _ hf G (lv_sub hl [2, 3, 1, 0] rfl)
  · refine lv_ldc (v := -1000001) X.1.1 X.1.2.1 X.1.2.2.2.1 (X.1.2.2.2.2 _ coX8_knows_70) dX8_knows_18 ?_
    exact zretIr X hr hlk G hf dX8_knows_20
