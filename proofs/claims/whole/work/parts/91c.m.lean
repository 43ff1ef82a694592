/-! X3_isCovered -/
abbrev rmX3_isCovered : Room := { frames := 0, cells := 0, slots := 0, locals := 0 }
theorem hdV_X3_isCovered : yX3_isCovered.cls = RX3 ∧ yX3_isCovered.cls ≠ "java/lang/invoke/MethodHandle" ∧ yX3_isCovered.cls ≠ "java/lang/invoke/VarHandle" ∧ (parseMethodDescriptor yX3_isCovered.desc).map (fun d => d.parameters.length) = some 1 := by decide +kernel
theorem inX3_isCovered_X3 : ∀ w ∈ wsX30, w ∈ wsX3_isCovered := by decide +kernel
theorem flX3_isCovered_15 : Cond.fieldLink RX3 15 (TX3 1).1 (TX3 1).2.1 (TX3 1).2.2.1 ∈ wsX3_isCovered := by decide +kernel
theorem flX3_isCovered_35 : Cond.fieldLink RX3 35 (TX3 7).1 (TX3 7).2.1 (TX3 7).2.2.1 ∈ wsX3_isCovered := by decide +kernel
theorem flX3_isCovered_38 : Cond.fieldLink RX3 38 (TX3 8).1 (TX3 8).2.1 (TX3 8).2.2.1 ∈ wsX3_isCovered := by decide +kernel
set_option maxHeartbeats 4000000 in
set_option maxRecDepth 100000 in
theorem w_X3_isCovered_b2 {p : Program} {l : Launch} {e : Env} {s : State} {m : MethodId} {args : Array Value} {below : List Frame} {meth : Method} {c : Code} {D : va_G} {dA : Nat → ClassId} {b0 : Nat} {h : zH} (X : zX p s m args c cX3_isCovered 3 RX3 wsX3_isCovered D dA) (hr : meth.sig.returnType = (some .boolean)) (hlk : meth.locks = false) {z : Int32} : ∀ (n : Nat), ∀ (r0 : Nat) (a1 : Int32) (a2 : Int32) (H : Heap) (locs : List Loc) (ls : Array Slot), f_X3_isCovered_b2 h n r0 a1 a2 = some z → zG D dA b0 s.heap h H locs → lv_has ls 3 [(0, .ref (b0 + r0)), (1, .int a1), (2, .int a2)] → W p l e rmX3_isCovered s m args below meth c H locs 0 0 (MQ below (zQ D dA b0 (some (.int z)) h) args s 0 0 (zA b0)) (F0 m 2 ls []) := by
  intro n
  induction n with
  | zero =>
    intro r0 a1 a2 H locs ls hf
    cases hf
  | succ n ih =>
    intro r0 a1 a2 H locs ls hf G hl
    rw [f_X3_isCovered_b2] at hf
    refine lv_iload_n X.1.1 X.1.2.1 dX3_isCovered_2 rfl (lv_at hl 2 rfl) ?_
    refine lv_aload_n X.1.1 X.1.2.1 dX3_isCovered_3 rfl (lv_at hl 0 rfl) ?_
    refine zgetI (ci := 3) (k := 1) (C := RX3) (T := TX3) (N := 12) X G rfl inX3_isCovered_X3 (Nat.le_of_ble_eq_true rfl) flX3_isCovered_15 dX3_isCovered_4 hf (fun v1 hf => ?_)
    refine zic_ge (tgt := 57) X dX3_isCovered_7 (by decide) hf (fun hf => ?_) (fun hf => ?_)
    · refine lv_iconst (v := 0) X.1.1 X.1.2.1 dX3_isCovered_57 (by decide) ?_
      exact zretZr X hr hlk G hf dX3_isCovered_58
    · refine lv_aload_n X.1.1 X.1.2.1 dX3_isCovered_10 rfl (lv_at hl 0 rfl) ?_
      refine zgetR (ci := 3) (k := 7) (C := RX3) (T := TX3) (N := 12) X G rfl inX3_isCovered_X3 (Nat.le_of_ble_eq_true rfl) flX3_isCovered_35 dX3_isCovered_11 hf (fun v2 hf => ?_)
      refine lv_iload_n X.1.1 X.1.2.1 dX3_isCovered_14 rfl (lv_at hl 2 rfl) ?_
      refine ziald X G dX3_isCovered_15 hf (fun v3 hf => ?_)
      refine zif_le (tgt := 51) X dX3_isCovered_16 (by decide) hf (fun hf => ?_) (fun hf => ?_)
      · refine lv_iinc (v := (a2 + (1 : Int32))) (lv' := [(2, .int (a2 + (1 : Int32))), (0, .ref (b0 + r0)), (1, .int a1)]) X.1.1 X.1.2.1 dX3_isCovered_51 hl (k := 2) rfl rfl (by decide) rfl (fun ls hl => ?_)
        refine lv_goto (tgt := 2) X.1.1 X.1.2.1 dX3_isCovered_54 (by decide) ?_
        exact ih _ _ _ _ _ _ hf G (lv_sub hl [1, 2, 0] rfl)
      · refine lv_aload_n X.1.1 X.1.2.1 dX3_isCovered_19 rfl (lv_at hl 0 rfl) ?_
        refine zgetR (ci := 3) (k := 8) (C := RX3) (T := TX3) (N := 12) X G rfl inX3_isCovered_X3 (Nat.le_of_ble_eq_true rfl) flX3_isCovered_38 dX3_isCovered_20 hf (fun v4 hf => ?_)
        refine lv_iload_n X.1.1 X.1.2.1 dX3_isCovered_23 rfl (lv_at hl 2 rfl) ?_
        refine ziald X G dX3_isCovered_24 hf (fun v5 hf => ?_)
        refine lv_aload_n X.1.1 X.1.2.1 dX3_isCovered_25 rfl (lv_at hl 0 rfl) ?_
        refine zgetR (ci := 3) (k := 8) (C := RX3) (T := TX3) (N := 12) X G rfl inX3_isCovered_X3 (Nat.le_of_ble_eq_true rfl) flX3_isCovered_38 dX3_isCovered_26 hf (fun v6 hf => ?_)
        refine lv_iload_n X.1.1 X.1.2.1 dX3_isCovered_29 rfl (lv_at hl 1 rfl) ?_
        refine ziald X G dX3_isCovered_30 hf (fun v7 hf => ?_)
        refine zic_ne (tgt := 51) X dX3_isCovered_31 (by decide) hf (fun hf => ?_) (fun hf => ?_)
        · refine lv_iinc (v := (a2 + (1 : Int32))) (lv' := [(2, .int (a2 + (1 : Int32))), (0, .ref (b0 + r0)), (1, .int a1)]) X.1.1 X.1.2.1 dX3_isCovered_51 hl (k := 2) rfl rfl (by decide) rfl (fun ls hl => ?_)
          refine lv_goto (tgt := 2) X.1.1 X.1.2.1 dX3_isCovered_54 (by decide) ?_
          exact ih _ _ _ _ _ _ hf G (lv_sub hl [1, 2, 0] rfl)
        · refine lv_aload_n X.1.1 X.1.2.1 dX3_isCovered_34 rfl (lv_at hl 0 rfl) ?_
          refine zgetR (ci := 3) (k := 7) (C := RX3) (T := TX3) (N := 12) X G rfl inX3_isCovered_X3 (Nat.le_of_ble_eq_true rfl) flX3_isCovered_35 dX3_isCovered_35 hf (fun v8 hf => ?_)
          refine lv_iload_n X.1.1 X.1.2.1 dX3_isCovered_38 rfl (lv_at hl 2 rfl) ?_
          refine ziald X G dX3_isCovered_39 hf (fun v9 hf => ?_)
          refine lv_aload_n X.1.1 X.1.2.1 dX3_isCovered_40 rfl (lv_at hl 0 rfl) ?_
          refine zgetR (ci := 3) (k := 7) (C := RX3) (T := TX3) (N := 12) X G rfl inX3_isCovered_X3 (Nat.le_of_ble_eq_true rfl) flX3_isCovered_35 dX3_isCovered_41 hf (fun v10 hf => ?_)
          refine lv_iload_n X.1.1 X.1.2.1 dX3_isCovered_44 rfl (lv_at hl 1 rfl) ?_
          refine ziald X G dX3_isCovered_45 hf (fun v11 hf => ?_)
          refine zic_ge (tgt := 51) X dX3_isCovered_46 (by decide) hf (fun hf => ?_) (fun hf => ?_)
          · refine lv_iinc (v := (a2 + (1 : Int32))) (lv' := [(2, .int (a2 + (1 : Int32))), (0, .ref (b0 + r0)), (1, .int a1)]) X.1.1 X.1.2.1 dX3_isCovered_51 hl (k := 2) rfl rfl (by decide) rfl (fun ls hl => ?_)
            refine lv_goto (tgt := 2) X.1.1 X.1.2.1 dX3_isCovered_54 (by decide) ?_
            exact ih _ _ _ _ _ _ hf G (lv_sub hl [1, 2, 0] rfl)
          · refine lv_iconst (v := 1) X.1.1 X.1.2.1 dX3_isCovered_49 (by decide) ?_
            exact zretZr X hr hlk G hf dX3_isCovered_50
set_option maxHeartbeats 4000000 in
set_option maxRecDepth 100000 in
theorem m_X3_isCovered (l : Launch) (D : va_G) (dA : Nat → ClassId) (b0 : Nat) (r0 : Nat) (a1 : Int32) (h : zH) (z : Int32) (hf : f_X3_isCovered r0 a1 h = some z) : Met l yX3_isCovered wsX3_isCovered rmX3_isCovered (zPc D dA b0 [.ref (b0 + r0), .int a1] h) (zQ D dA b0 (some (.int z)) h) 0 0 (zA b0) := by
  refine Met.ofW (cc := cX3_isCovered) (maxL := 3) (ret := (some .boolean)) (by decide) rfl ?_
  intro p e s m args below meth c s₁ B hml hv
  obtain ⟨rfl, hP, hz, hK, hN⟩ := hv
  have hr := B.returns
  have hlk := B.notSynchronized
  have X : zX p s m _ c cX3_isCovered 3 RX3 wsX3_isCovered D dA := ⟨⟨B.exec, B.bytes, hml, findClass_of_methodNamed B.named, atoms_spec (ws := wsX3_isCovered) B.pre⟩, hK, hN⟩
  have G : zG D dA b0 s.heap h s.heap [] := ⟨hP, hz, va_S.rf⟩
  have hl := lv_entry ([.ref (b0 + r0), .int a1]) (n := 3) (Nat.le_of_ble_eq_true rfl)
  rw [lg_entry_eq]
  generalize (lg_sl ([.ref (b0 + r0), .int a1]) ++ List.replicate (3 - (lg_sl ([.ref (b0 + r0), .int a1])).length) Slot.unset).toArray = ls at hl ⊢
  have hl : lv_has ls 3 [(0, .ref (b0 + r0)), (1, .int a1)] := hl
  unfold f_X3_isCovered at hf
  refine lv_iconst (v := 0) X.1.1 X.1.2.1 dX3_isCovered_0 (by decide) ?_
  refine lv_istore_n (lv' := [(2, .int (0 : Int32)), (0, .ref (b0 + r0)), (1, .int a1)]) X.1.1 X.1.2.1 dX3_isCovered_1 rfl hl (by decide) rfl (fun ls hl => ?_)
  exact w_X3_isCovered_b2 X hr hlk _ _ _ _ _ _ _ hf G (lv_sub hl [1, 2, 0] rfl)
/-! X3_riseOf -/
abbrev rmX3_riseOf : Room := { frames := 1, cells := 0, slots := 0, locals := 40 }
theorem hdV_X3_riseOf : yX3_riseOf.cls = RX3 ∧ yX3_riseOf.cls ≠ "java/lang/invoke/MethodHandle" ∧ yX3_riseOf.cls ≠ "java/lang/invoke/VarHandle" ∧ (parseMethodDescriptor yX3_riseOf.desc).map (fun d => d.parameters.length) = some 1 := by decide +kernel
theorem inX3_riseOf_X3 : ∀ w ∈ wsX30, w ∈ wsX3_riseOf := by decide +kernel
theorem flX3_riseOf_31 : Cond.fieldLink RX3 31 (TX3 6).1 (TX3 6).2.1 (TX3 6).2.2.1 ∈ wsX3_riseOf := by decide +kernel
theorem flX3_riseOf_35 : Cond.fieldLink RX3 35 (TX3 7).1 (TX3 7).2.1 (TX3 7).2.2.1 ∈ wsX3_riseOf := by decide +kernel
theorem wdX3_riseOf_minL71 : Cond.methodLink RX3 71 Lib.Math.min.name ∈ wsX3_riseOf := by decide +kernel
theorem wdX3_riseOf_minS : Cond.static Lib.Math.min.name ∈ wsX3_riseOf := by decide +kernel
theorem wdX3_riseOf_minI : Cond.initialized "java/lang/Math" ∈ wsX3_riseOf := by decide +kernel
theorem wdX3_riseOf_minC : Cond.code Lib.Math.min.name Lib.Math.min.code 2 (some .int) ∈ wsX3_riseOf := by decide +kernel
theorem flX3_riseOf_25 : Cond.fieldLink RX3 25 (TX3 4).1 (TX3 4).2.1 (TX3 4).2.2.1 ∈ wsX3_riseOf := by decide +kernel
set_option maxHeartbeats 4000000 in
set_option maxRecDepth 100000 in
theorem w_X3_riseOf_b74 {p : Program} {l : Launch} {e : Env} {s : State} {m : MethodId} {args : Array Value} {below : List Frame} {meth : Method} {c : Code} {D : va_G} {dA : Nat → ClassId} {b0 : Nat} {h : zH} (X : zX p s m args c cX3_riseOf 2 RX3 wsX3_riseOf D dA) (hr : meth.sig.returnType = (some .int)) (hlk : meth.locks = false) {z : Int32} : ∀ (H : Heap) (locs : List Loc) (ls : Array Slot), f_X3_riseOf_b74 h = some z → zG D dA b0 s.heap h H locs → lv_has ls 2 [] → W p l e rmX3_riseOf s m args below meth c H locs 0 0 (MQ below (zQ D dA b0 (some (.int z)) h) args s 0 0 (zA b0)) (F0 m 74 ls []) := by
  intro  H locs ls hf G hl
  unfold f_X3_riseOf_b74 at hf
  refine lv_iconst (v := 0) X.1.1 X.1.2.1 dX3_riseOf_74 (by decide) ?_
  refine lv_goto (tgt := 79) X.1.1 X.1.2.1 dX3_riseOf_75 (by decide) ?_
  exact zretIr X hr hlk G hf dX3_riseOf_79
set_option maxHeartbeats 4000000 in
set_option maxRecDepth 100000 in
theorem m_X3_riseOf (l : Launch) (D : va_G) (dA : Nat → ClassId) (b0 : Nat) (r0 : Nat) (a1 : Int32) (h : zH) (z : Int32) (hf : f_X3_riseOf r0 a1 h = some z) : Met l yX3_riseOf wsX3_riseOf rmX3_riseOf (zPc D dA b0 [.ref (b0 + r0), .int a1] h) (zQ D dA b0 (some (.int z)) h) 0 0 (zA b0) := by
  refine Met.ofW (cc := cX3_riseOf) (maxL := 2) (ret := (some .int)) (by decide) rfl ?_
  intro p e s m args below meth c s₁ B hml hv
  obtain ⟨rfl, hP, hz, hK, hN⟩ := hv
  have hr := B.returns
  have hlk := B.notSynchronized
  have X : zX p s m _ c cX3_riseOf 2 RX3 wsX3_riseOf D dA := ⟨⟨B.exec, B.bytes, hml, findClass_of_methodNamed B.named, atoms_spec (ws := wsX3_riseOf) B.pre⟩, hK, hN⟩
  have G : zG D dA b0 s.heap h s.heap [] := ⟨hP, hz, va_S.rf⟩
  have hl := lv_entry ([.ref (b0 + r0), .int a1]) (n := 2) (Nat.le_of_ble_eq_true rfl)
  rw [lg_entry_eq]
  generalize (lg_sl ([.ref (b0 + r0), .int a1]) ++ List.replicate (2 - (lg_sl ([.ref (b0 + r0), .int a1])).length) Slot.unset).toArray = ls at hl ⊢
  have hl : lv_has ls 2 [(0, .ref (b0 + r0)), (1, .int a1)] := hl
  unfold f_X3_riseOf at hf
  refine lv_aload_n X.1.1 X.1.2.1 dX3_riseOf_0 rfl (lv_at hl 0 rfl) ?_
  refine lv_iload_n X.1.1 X.1.2.1 dX3_riseOf_1 rfl (lv_at hl 1 rfl) ?_
  obtain ⟨hk, hf⟩ := zck hf
  obtain ⟨q1, eq1, hf⟩ := Option.bind_eq_some_iff.mp hf
  refine zcV0 (As := [.int a1]) (rest := []) (v := (some (.int q1))) (h' := h) X G (rfl : vwCl[3]? = some (RX3, TX3, 12)) hk (m_X3_isUp l D dA b0 r0 a1 h q1 eq1) (cwV 1 X.1.2.2.2.2 gX3_riseOf_X3_isUp rfl rfl rfl hdV_X3_isUp ⟨(Nat.le_of_ble_eq_true rfl), (Nat.le_of_ble_eq_true rfl)⟩) rfl hl.1 rfl (Nat.le_of_ble_eq_true rfl) dX3_riseOf_2 ⟨Nat.zero_le _, Nat.zero_le _⟩ (fun H locs G => ?_)
  refine zif_eq (tgt := 10) X dX3_riseOf_5 (by decide) hf (fun hf => ?_) (fun hf => ?_)
  · refine lv_aload_n X.1.1 X.1.2.1 dX3_riseOf_10 rfl (lv_at hl 0 rfl) ?_
    refine zgetR (ci := 3) (k := 6) (C := RX3) (T := TX3) (N := 12) X G rfl inX3_riseOf_X3 (Nat.le_of_ble_eq_true rfl) flX3_riseOf_31 dX3_riseOf_11 hf (fun v2 hf => ?_)
    refine lv_iload_n X.1.1 X.1.2.1 dX3_riseOf_14 rfl (lv_at hl 1 rfl) ?_
    refine ziald X G dX3_riseOf_15 hf (fun v3 hf => ?_)
    by_cases c0 : v3 = 1
    · rw [if_pos c0] at hf
      refine lv_tableIn (off := 36) (tgt := 52) X.1.1 X.1.2.1 dX3_riseOf_16 (by rw [c0]; decide) (by rw [c0]; decide) (by rw [c0]; decide) (by decide) ?_
      refine lv_aload_n X.1.1 X.1.2.1 dX3_riseOf_52 rfl (lv_at hl 0 rfl) ?_
      refine lv_iload_n X.1.1 X.1.2.1 dX3_riseOf_53 rfl (lv_at hl 1 rfl) ?_
      obtain ⟨hk, hf⟩ := zck hf
      obtain ⟨q4, eq4, hf⟩ := Option.bind_eq_some_iff.mp hf
      refine zcV0 (As := [.int a1]) (rest := []) (v := (some (.int q4))) (h' := h) X G (rfl : vwCl[3]? = some (RX3, TX3, 12)) hk (m_X3_ironRise l D dA b0 r0 a1 h q4 eq4) (cwV 1 X.1.2.2.2.2 gX3_riseOf_X3_ironRise rfl rfl rfl hdV_X3_ironRise ⟨(Nat.le_of_ble_eq_true rfl), (Nat.le_of_ble_eq_true rfl)⟩) rfl hl.1 rfl (Nat.le_of_ble_eq_true rfl) dX3_riseOf_54 ⟨Nat.zero_le _, Nat.zero_le _⟩ (fun H locs G => ?_)
      exact zretIr X hr hlk G hf dX3_riseOf_57
    rw [if_neg c0] at hf
    by_cases c1 : v3 = 2
    · rw [if_pos c1] at hf
      refine lv_tableIn (off := 42) (tgt := 58) X.1.1 X.1.2.1 dX3_riseOf_16 (by rw [c1]; decide) (by rw [c1]; decide) (by rw [c1]; decide) (by decide) ?_
      refine lv_aload_n X.1.1 X.1.2.1 dX3_riseOf_58 rfl (lv_at hl 0 rfl) ?_
      refine lv_iload_n X.1.1 X.1.2.1 dX3_riseOf_59 rfl (lv_at hl 1 rfl) ?_
      obtain ⟨hk, hf⟩ := zck hf
      obtain ⟨q5, eq5, hf⟩ := Option.bind_eq_some_iff.mp hf
      refine zcV0 (As := [.int a1]) (rest := []) (v := (some (.int q5))) (h' := h) X G (rfl : vwCl[3]? = some (RX3, TX3, 12)) hk (m_X3_ironRise l D dA b0 r0 a1 h q5 eq5) (cwV 1 X.1.2.2.2.2 gX3_riseOf_X3_ironRise rfl rfl rfl hdV_X3_ironRise ⟨(Nat.le_of_ble_eq_true rfl), (Nat.le_of_ble_eq_true rfl)⟩) rfl hl.1 rfl (Nat.le_of_ble_eq_true rfl) dX3_riseOf_60 ⟨Nat.zero_le _, Nat.zero_le _⟩ (fun H locs G => ?_)
      refine zif_eq (tgt := 74) X dX3_riseOf_63 (by decide) hf (fun hf => ?_) (fun hf => ?_)
      · exact w_X3_riseOf_b74 X hr hlk _ _ _ hf G (lv_sub hl [] rfl)
      · refine lv_aload_n X.1.1 X.1.2.1 dX3_riseOf_66 rfl (lv_at hl 0 rfl) ?_
        refine lv_iload_n X.1.1 X.1.2.1 dX3_riseOf_67 rfl (lv_at hl 1 rfl) ?_
        obtain ⟨hk, hf⟩ := zck hf
        obtain ⟨q6, eq6, hf⟩ := Option.bind_eq_some_iff.mp hf
        refine zcV0 (As := [.int a1]) (rest := []) (v := (some (.int q6))) (h' := h) X G (rfl : vwCl[3]? = some (RX3, TX3, 12)) hk (m_X3_isCovered l D dA b0 r0 a1 h q6 eq6) (cwV 1 X.1.2.2.2.2 gX3_riseOf_X3_isCovered rfl rfl rfl hdV_X3_isCovered ⟨(Nat.le_of_ble_eq_true rfl), (Nat.le_of_ble_eq_true rfl)⟩) rfl hl.1 rfl (Nat.le_of_ble_eq_true rfl) dX3_riseOf_68 ⟨Nat.zero_le _, Nat.zero_le _⟩ (fun H locs G => ?_)
        refine zif_eq (tgt := 78) X dX3_riseOf_71 (by decide) hf (fun hf => ?_) (fun hf => ?_)
        · refine lv_iconst (v := 1) X.1.1 X.1.2.1 dX3_riseOf_78 (by decide) ?_
          exact zretIr X hr hlk G hf dX3_riseOf_79
        · exact w_X3_riseOf_b74 X hr hlk _ _ _ hf G (lv_sub hl [] rfl)
    rw [if_neg c1] at hf
    by_cases c2 : v3 = 3
    · rw [if_pos c2] at hf
      refine lv_tableIn (off := 64) (tgt := 80) X.1.1 X.1.2.1 dX3_riseOf_16 (by rw [c2]; decide) (by rw [c2]; decide) (by rw [c2]; decide) (by decide) ?_
      refine lv_iconst (v := 2) X.1.1 X.1.2.1 dX3_riseOf_80 (by decide) ?_
      refine lv_aload_n X.1.1 X.1.2.1 dX3_riseOf_81 rfl (lv_at hl 0 rfl) ?_
      refine lv_iload_n X.1.1 X.1.2.1 dX3_riseOf_82 rfl (lv_at hl 1 rfl) ?_
      obtain ⟨hk, hf⟩ := zck hf
      obtain ⟨q7, eq7, hf⟩ := Option.bind_eq_some_iff.mp hf
      refine zcV0 (As := [.int a1]) (rest := [.int (2 : Int32)]) (v := (some (.int q7))) (h' := h) X G (rfl : vwCl[3]? = some (RX3, TX3, 12)) hk (m_X3_ironRise l D dA b0 r0 a1 h q7 eq7) (cwV 1 X.1.2.2.2.2 gX3_riseOf_X3_ironRise rfl rfl rfl hdV_X3_ironRise ⟨(Nat.le_of_ble_eq_true rfl), (Nat.le_of_ble_eq_true rfl)⟩) rfl hl.1 rfl (Nat.le_of_ble_eq_true rfl) dX3_riseOf_83 ⟨Nat.zero_le _, Nat.zero_le _⟩ (fun H locs G => ?_)
      refine lv_imul X.1.1 X.1.2.1 dX3_riseOf_86 ?_
      refine lv_aload_n X.1.1 X.1.2.1 dX3_riseOf_87 rfl (lv_at hl 0 rfl) ?_
      refine zgetR (ci := 3) (k := 7) (C := RX3) (T := TX3) (N := 12) X G rfl inX3_riseOf_X3 (Nat.le_of_ble_eq_true rfl) flX3_riseOf_35 dX3_riseOf_88 hf (fun v8 hf => ?_)
      refine lv_iload_n X.1.1 X.1.2.1 dX3_riseOf_91 rfl (lv_at hl 1 rfl) ?_
      refine ziald X G dX3_riseOf_92 hf (fun v9 hf => ?_)
      refine zmin X hl.1 wdX3_riseOf_minL71 wdX3_riseOf_minS wdX3_riseOf_minI wdX3_riseOf_minC (Nat.le_of_ble_eq_true rfl) (Nat.le_of_ble_eq_true rfl) (Nat.zero_le _) (Nat.zero_le _) dX3_riseOf_93 ?_
      exact zretIr X hr hlk G hf dX3_riseOf_96
    rw [if_neg c2] at hf
    by_cases c3 : v3 = 4
    · rw [if_pos c3] at hf
      refine lv_tableIn (off := 97) (tgt := 113) X.1.1 X.1.2.1 dX3_riseOf_16 (by rw [c3]; decide) (by rw [c3]; decide) (by rw [c3]; decide) (by decide) ?_
      refine lv_iconst (v := 0) X.1.1 X.1.2.1 dX3_riseOf_113 (by decide) ?_
      exact zretIr X hr hlk G hf dX3_riseOf_114
    rw [if_neg c3] at hf
    by_cases c4 : v3 = 5
    · rw [if_pos c4] at hf
      refine lv_tableIn (off := 81) (tgt := 97) X.1.1 X.1.2.1 dX3_riseOf_16 (by rw [c4]; decide) (by rw [c4]; decide) (by rw [c4]; decide) (by decide) ?_
      refine lv_aload_n X.1.1 X.1.2.1 dX3_riseOf_97 rfl (lv_at hl 0 rfl) ?_
      refine zgetI (ci := 3) (k := 4) (C := RX3) (T := TX3) (N := 12) X G rfl inX3_riseOf_X3 (Nat.le_of_ble_eq_true rfl) flX3_riseOf_25 dX3_riseOf_98 hf (fun v10 hf => ?_)
      refine lv_iconst (v := 5) X.1.1 X.1.2.1 dX3_riseOf_101 (by decide) ?_
      refine zirem X dX3_riseOf_102 hf (fun hf => ?_)
      refine lv_iconst (v := 4) X.1.1 X.1.2.1 dX3_riseOf_103 (by decide) ?_
      refine zic_ne (tgt := 111) X dX3_riseOf_104 (by decide) hf (fun hf => ?_) (fun hf => ?_)
      · refine lv_iconst (v := 0) X.1.1 X.1.2.1 dX3_riseOf_111 (by decide) ?_
        exact zretIr X hr hlk G hf dX3_riseOf_112
      · refine lv_iconst (v := 1) X.1.1 X.1.2.1 dX3_riseOf_107 (by decide) ?_
        refine lv_goto (tgt := 112) X.1.1 X.1.2.1 dX3_riseOf_108 (by decide) ?_
        exact zretIr X hr hlk G hf dX3_riseOf_112
    rw [if_neg c4] at hf
    refine lv_tableOut (tgt := 113) X.1.1 X.1.2.1 dX3_riseOf_16 (by have n0 := lv_neT c0 (show ((1 : Int32)).toInt = 1 from by decide); have n1 := lv_neT c1 (show ((2 : Int32)).toInt = 2 from by decide); have n2 := lv_neT c2 (show ((3 : Int32)).toInt = 3 from by decide); have n3 := lv_neT c3 (show ((4 : Int32)).toInt = 4 from by decide); have n4 := lv_neT c4 (show ((5 : Int32)).toInt = 5 from by decide); omega) (by decide) ?_
    refine lv_iconst (v := 0) X.1.1 X.1.2.1 dX3_riseOf_113 (by decide) ?_
    exact zretIr X hr hlk G hf dX3_riseOf_114
  · refine lv_iconst (v := 0) X.1.1 X.1.2.1 dX3_riseOf_8 (by decide) ?_
    exact zretIr X hr hlk G hf dX3_riseOf_9
/-! X3_passYear -/
abbrev rmX3_passYear : Room := { frames := 2, cells := 0, slots := 0, locals := 61 }
theorem hdV_X3_passYear : yX3_passYear.cls = RX3 ∧ yX3_passYear.cls ≠ "java/lang/invoke/MethodHandle" ∧ yX3_passYear.cls ≠ "java/lang/invoke/VarHandle" ∧ (parseMethodDescriptor yX3_passYear.desc).map (fun d => d.parameters.length) = some 0 := by decide +kernel
theorem inX3_passYear_X3 : ∀ w ∈ wsX30, w ∈ wsX3_passYear := by decide +kernel
theorem flX3_passYear_15 : Cond.fieldLink RX3 15 (TX3 1).1 (TX3 1).2.1 (TX3 1).2.2.1 ∈ wsX3_passYear := by decide +kernel
theorem flX3_passYear_25 : Cond.fieldLink RX3 25 (TX3 4).1 (TX3 4).2.1 (TX3 4).2.2.1 ∈ wsX3_passYear := by decide +kernel
theorem flX3_passYear_47 : Cond.fieldLink RX3 47 (TX3 11).1 (TX3 11).2.1 (TX3 11).2.2.1 ∈ wsX3_passYear := by decide +kernel
theorem flX3_passYear_35 : Cond.fieldLink RX3 35 (TX3 7).1 (TX3 7).2.1 (TX3 7).2.2.1 ∈ wsX3_passYear := by decide +kernel
set_option maxHeartbeats 4000000 in
set_option maxRecDepth 100000 in
theorem w_X3_passYear_b31 {p : Program} {l : Launch} {e : Env} {s : State} {m : MethodId} {args : Array Value} {below : List Frame} {meth : Method} {c : Code} {D : va_G} {dA : Nat → ClassId} {b0 : Nat} (X : zX p s m args c cX3_passYear 3 RX3 wsX3_passYear D dA) (hr : meth.sig.returnType = (some .boolean)) (hlk : meth.locks = false) {z : Int32 × zH} : ∀ (n : Nat), ∀ (r0 : Nat) (a1 : Int32) (a2 : Int32) (h : zH) (H : Heap) (locs : List Loc) (ls : Array Slot), f_X3_passYear_b31 n r0 a1 a2 h = some z → zG D dA b0 s.heap h H locs → lv_has ls 3 [(0, .ref (b0 + r0)), (1, .int a1), (2, .int a2)] → W p l e rmX3_passYear s m args below meth c H locs 0 0 (MQ below (zQ D dA b0 (some (.int z.1)) z.2) args s 0 0 (zA b0)) (F0 m 31 ls []) := by
  intro n
  induction n with
  | zero =>
    intro r0 a1 a2 h H locs ls hf
    cases hf
  | succ n ih =>
    intro r0 a1 a2 h H locs ls hf G hl
    rw [f_X3_passYear_b31] at hf
    refine lv_iload_n X.1.1 X.1.2.1 dX3_passYear_31 rfl (lv_at hl 2 rfl) ?_
    refine lv_aload_n X.1.1 X.1.2.1 dX3_passYear_32 rfl (lv_at hl 0 rfl) ?_
    refine zgetI (ci := 3) (k := 1) (C := RX3) (T := TX3) (N := 12) X G rfl inX3_passYear_X3 (Nat.le_of_ble_eq_true rfl) flX3_passYear_15 dX3_passYear_33 hf (fun v1 hf => ?_)
    refine zic_ge (tgt := 71) X dX3_passYear_36 (by decide) hf (fun hf => ?_) (fun hf => ?_)
    · refine lv_aload_n X.1.1 X.1.2.1 dX3_passYear_71 rfl (lv_at hl 0 rfl) ?_
      refine lv_dup X.1.1 X.1.2.1 dX3_passYear_72 rfl ?_
      refine zgetI (ci := 3) (k := 4) (C := RX3) (T := TX3) (N := 12) X G rfl inX3_passYear_X3 (Nat.le_of_ble_eq_true rfl) flX3_passYear_25 dX3_passYear_73 hf (fun v2 hf => ?_)
      refine lv_iconst (v := 1) X.1.1 X.1.2.1 dX3_passYear_76 (by decide) ?_
      refine lv_iadd X.1.1 X.1.2.1 dX3_passYear_77 ?_
      refine zputI (ci := 3) (k := 4) (C := RX3) (T := TX3) (N := 12) X G rfl inX3_passYear_X3 tyX3_ok nmX3 (Nat.le_of_ble_eq_true rfl) flX3_passYear_25 rfl (by decide +kernel) dX3_passYear_78 hf (fun h3 H locs hf G => ?_)
      refine lv_iload_n X.1.1 X.1.2.1 dX3_passYear_81 rfl (lv_at hl 1 rfl) ?_
      exact zretZ X hr hlk G hf dX3_passYear_82
    · refine lv_aload_n X.1.1 X.1.2.1 dX3_passYear_39 rfl (lv_at hl 0 rfl) ?_
      refine zgetR (ci := 3) (k := 11) (C := RX3) (T := TX3) (N := 12) X G rfl inX3_passYear_X3 (Nat.le_of_ble_eq_true rfl) flX3_passYear_47 dX3_passYear_40 hf (fun v4 hf => ?_)
      refine lv_iload_n X.1.1 X.1.2.1 dX3_passYear_43 rfl (lv_at hl 2 rfl) ?_
      refine ziald X G dX3_passYear_44 hf (fun v5 hf => ?_)
      refine zif_le (tgt := 65) X dX3_passYear_45 (by decide) hf (fun hf => ?_) (fun hf => ?_)
      · refine lv_iinc (v := (a2 + (1 : Int32))) (lv' := [(2, .int (a2 + (1 : Int32))), (0, .ref (b0 + r0)), (1, .int a1)]) X.1.1 X.1.2.1 dX3_passYear_65 hl (k := 2) rfl rfl (by decide) rfl (fun ls hl => ?_)
        refine lv_goto (tgt := 31) X.1.1 X.1.2.1 dX3_passYear_68 (by decide) ?_
        exact ih _ _ _ _ _ _ _ hf G (lv_sub hl [1, 2, 0] rfl)
      · refine lv_aload_n X.1.1 X.1.2.1 dX3_passYear_48 rfl (lv_at hl 0 rfl) ?_
        refine zgetR (ci := 3) (k := 7) (C := RX3) (T := TX3) (N := 12) X G rfl inX3_passYear_X3 (Nat.le_of_ble_eq_true rfl) flX3_passYear_35 dX3_passYear_49 hf (fun v6 hf => ?_)
        refine lv_iload_n X.1.1 X.1.2.1 dX3_passYear_52 rfl (lv_at hl 2 rfl) ?_
        refine lv_dup2_11 X.1.1 X.1.2.1 dX3_passYear_53 rfl rfl ?_
        refine ziald X G dX3_passYear_54 hf (fun v7 hf => ?_)
        refine lv_aload_n X.1.1 X.1.2.1 dX3_passYear_55 rfl (lv_at hl 0 rfl) ?_
        refine zgetR (ci := 3) (k := 11) (C := RX3) (T := TX3) (N := 12) X G rfl inX3_passYear_X3 (Nat.le_of_ble_eq_true rfl) flX3_passYear_47 dX3_passYear_56 hf (fun v8 hf => ?_)
        refine lv_iload_n X.1.1 X.1.2.1 dX3_passYear_59 rfl (lv_at hl 2 rfl) ?_
        refine ziald X G dX3_passYear_60 hf (fun v9 hf => ?_)
        refine lv_isub X.1.1 X.1.2.1 dX3_passYear_61 ?_
        refine ziast X G dX3_passYear_62 hf (fun h10 H locs hf G => ?_)
        refine lv_iconst (v := 1) X.1.1 X.1.2.1 dX3_passYear_63 (by decide) ?_
        refine lv_istore_n (lv' := [(1, .int (1 : Int32)), (0, .ref (b0 + r0)), (2, .int a2)]) X.1.1 X.1.2.1 dX3_passYear_64 rfl hl (by decide) rfl (fun ls hl => ?_)
        refine lv_iinc (v := (a2 + (1 : Int32))) (lv' := [(2, .int (a2 + (1 : Int32))), (1, .int (1 : Int32)), (0, .ref (b0 + r0))]) X.1.1 X.1.2.1 dX3_passYear_65 hl (k := 2) rfl rfl (by decide) rfl (fun ls hl => ?_)
        refine lv_goto (tgt := 31) X.1.1 X.1.2.1 dX3_passYear_68 (by decide) ?_
        exact ih _ _ _ _ _ _ _ hf G (lv_sub hl [2, 1, 0] rfl)
set_option maxHeartbeats 4000000 in
set_option maxRecDepth 100000 in
theorem w_X3_passYear_b4 {p : Program} {l : Launch} {e : Env} {s : State} {m : MethodId} {args : Array Value} {below : List Frame} {meth : Method} {c : Code} {D : va_G} {dA : Nat → ClassId} {b0 : Nat} (X : zX p s m args c cX3_passYear 3 RX3 wsX3_passYear D dA) (hr : meth.sig.returnType = (some .boolean)) (hlk : meth.locks = false) {z : Int32 × zH} : ∀ (n : Nat), ∀ (r0 : Nat) (a1 : Int32) (a2 : Int32) (h : zH) (H : Heap) (locs : List Loc) (ls : Array Slot), f_X3_passYear_b4 n r0 a1 a2 h = some z → zG D dA b0 s.heap h H locs → lv_has ls 3 [(0, .ref (b0 + r0)), (1, .int a1), (2, .int a2)] → W p l e rmX3_passYear s m args below meth c H locs 0 0 (MQ below (zQ D dA b0 (some (.int z.1)) z.2) args s 0 0 (zA b0)) (F0 m 4 ls []) := by
  intro n
  induction n with
  | zero =>
    intro r0 a1 a2 h H locs ls hf
    cases hf
  | succ n ih =>
    intro r0 a1 a2 h H locs ls hf G hl
    rw [f_X3_passYear_b4] at hf
    refine lv_iload_n X.1.1 X.1.2.1 dX3_passYear_4 rfl (lv_at hl 2 rfl) ?_
    refine lv_aload_n X.1.1 X.1.2.1 dX3_passYear_5 rfl (lv_at hl 0 rfl) ?_
    refine zgetI (ci := 3) (k := 1) (C := RX3) (T := TX3) (N := 12) X G rfl inX3_passYear_X3 (Nat.le_of_ble_eq_true rfl) flX3_passYear_15 dX3_passYear_6 hf (fun v1 hf => ?_)
    refine zic_ge (tgt := 29) X dX3_passYear_9 (by decide) hf (fun hf => ?_) (fun hf => ?_)
    · refine lv_iconst (v := 0) X.1.1 X.1.2.1 dX3_passYear_29 (by decide) ?_
      refine lv_istore_n (lv' := [(2, .int (0 : Int32)), (0, .ref (b0 + r0)), (1, .int a1)]) X.1.1 X.1.2.1 dX3_passYear_30 rfl hl (by decide) rfl (fun ls hl => ?_)
      exact w_X3_passYear_b31 X hr hlk _ _ _ _ _ _ _ _ hf G (lv_sub hl [1, 2, 0] rfl)
    · refine lv_aload_n X.1.1 X.1.2.1 dX3_passYear_12 rfl (lv_at hl 0 rfl) ?_
      refine zgetR (ci := 3) (k := 11) (C := RX3) (T := TX3) (N := 12) X G rfl inX3_passYear_X3 (Nat.le_of_ble_eq_true rfl) flX3_passYear_47 dX3_passYear_13 hf (fun v2 hf => ?_)
      refine lv_iload_n X.1.1 X.1.2.1 dX3_passYear_16 rfl (lv_at hl 2 rfl) ?_
      refine lv_aload_n X.1.1 X.1.2.1 dX3_passYear_17 rfl (lv_at hl 0 rfl) ?_
      refine lv_iload_n X.1.1 X.1.2.1 dX3_passYear_18 rfl (lv_at hl 2 rfl) ?_
      obtain ⟨hk, hf⟩ := zck hf
      obtain ⟨q3, eq3, hf⟩ := Option.bind_eq_some_iff.mp hf
      refine zcV0 (As := [.int a2]) (rest := [.int a2, .ref (b0 + v2)]) (v := (some (.int q3))) (h' := h) X G (rfl : vwCl[3]? = some (RX3, TX3, 12)) hk (m_X3_riseOf l D dA b0 r0 a2 h q3 eq3) (cwV 1 X.1.2.2.2.2 gX3_passYear_X3_riseOf rfl rfl rfl hdV_X3_riseOf ⟨(Nat.le_of_ble_eq_true rfl), (Nat.le_of_ble_eq_true rfl)⟩) rfl hl.1 rfl (Nat.le_of_ble_eq_true rfl) dX3_passYear_19 ⟨Nat.zero_le _, Nat.zero_le _⟩ (fun H locs G => ?_)
      refine ziast X G dX3_passYear_22 hf (fun h4 H locs hf G => ?_)
      refine lv_iinc (v := (a2 + (1 : Int32))) (lv' := [(2, .int (a2 + (1 : Int32))), (0, .ref (b0 + r0)), (1, .int a1)]) X.1.1 X.1.2.1 dX3_passYear_23 hl (k := 2) rfl rfl (by decide) rfl (fun ls hl => ?_)
      refine lv_goto (tgt := 4) X.1.1 X.1.2.1 dX3_passYear_26 (by decide) ?_
      exact ih _ _ _ _ _ _ _ hf G (lv_sub hl [1, 2, 0] rfl)
set_option maxHeartbeats 4000000 in
set_option maxRecDepth 100000 in
theorem m_X3_passYear (l : Launch) (D : va_G) (dA : Nat → ClassId) (b0 : Nat) (r0 : Nat) (h : zH) (z : Int32 × zH) (hf : f_X3_passYear r0 h = some z) : Met l yX3_passYear wsX3_passYear rmX3_passYear (zPc D dA b0 [.ref (b0 + r0)] h) (zQ D dA b0 (some (.int z.1)) z.2) 0 0 (zA b0) := by
  refine Met.ofW (cc := cX3_passYear) (maxL := 3) (ret := (some .boolean)) (by decide) rfl ?_
  intro p e s m args below meth c s₁ B hml hv
  obtain ⟨rfl, hP, hz, hK, hN⟩ := hv
  have hr := B.returns
  have hlk := B.notSynchronized
  have X : zX p s m _ c cX3_passYear 3 RX3 wsX3_passYear D dA := ⟨⟨B.exec, B.bytes, hml, findClass_of_methodNamed B.named, atoms_spec (ws := wsX3_passYear) B.pre⟩, hK, hN⟩
  have G : zG D dA b0 s.heap h s.heap [] := ⟨hP, hz, va_S.rf⟩
  have hl := lv_entry ([.ref (b0 + r0)]) (n := 3) (Nat.le_of_ble_eq_true rfl)
  rw [lg_entry_eq]
  generalize (lg_sl ([.ref (b0 + r0)]) ++ List.replicate (3 - (lg_sl ([.ref (b0 + r0)])).length) Slot.unset).toArray = ls at hl ⊢
  have hl : lv_has ls 3 [(0, .ref (b0 + r0))] := hl
  unfold f_X3_passYear at hf
  refine lv_iconst (v := 0) X.1.1 X.1.2.1 dX3_passYear_0 (by decide) ?_
  refine lv_istore_n (lv' := [(1, .int (0 : Int32)), (0, .ref (b0 + r0))]) X.1.1 X.1.2.1 dX3_passYear_1 rfl hl (by decide) rfl (fun ls hl => ?_)
  refine lv_iconst (v := 0) X.1.1 X.1.2.1 dX3_passYear_2 (by decide) ?_
  refine lv_istore_n (lv' := [(2, .int (0 : Int32)), (1, .int (0 : Int32)), (0, .ref (b0 + r0))]) X.1.1 X.1.2.1 dX3_passYear_3 rfl hl (by decide) rfl (fun ls hl => ?_)
  exact w_X3_passYear_b4 X hr hlk _ _ _ _ _ _ _ _ hf G (lv_sub hl [2, 1, 0] rfl)
/-! X2_oneComesUpAnywhere -/
abbrev rmX2_oneComesUpAnywhere : Room := { frames := 3, cells := 0, slots := 0, locals := 83 }
theorem hdV_X2_oneComesUpAnywhere : yX2_oneComesUpAnywhere.cls = RX2 ∧ yX2_oneComesUpAnywhere.cls ≠ "java/lang/invoke/MethodHandle" ∧ yX2_oneComesUpAnywhere.cls ≠ "java/lang/invoke/VarHandle" ∧ (parseMethodDescriptor yX2_oneComesUpAnywhere.desc).map (fun d => d.parameters.length) = some 1 := by decide +kernel
theorem inX2_oneComesUpAnywhere_X2 : ∀ w ∈ wsX20, w ∈ wsX2_oneComesUpAnywhere := by decide +kernel
theorem flX2_oneComesUpAnywhere_18 : Cond.fieldLink RX2 18 (TX2 1).1 (TX2 1).2.1 (TX2 1).2.2.1 ∈ wsX2_oneComesUpAnywhere := by decide +kernel
theorem inX2_oneComesUpAnywhere_X3 : ∀ w ∈ wsX30, w ∈ wsX2_oneComesUpAnywhere := by decide +kernel
theorem flX2_oneComesUpAnywhere_45 : Cond.fieldLink RX2 45 (TX3 1).1 (TX3 1).2.1 (TX3 1).2.2.1 ∈ wsX2_oneComesUpAnywhere := by decide +kernel
theorem flX2_oneComesUpAnywhere_56 : Cond.fieldLink RX2 56 (TX3 6).1 (TX3 6).2.1 (TX3 6).2.2.1 ∈ wsX2_oneComesUpAnywhere := by decide +kernel
theorem flX2_oneComesUpAnywhere_12 : Cond.fieldLink RX2 12 (TX2 0).1 (TX2 0).2.1 (TX2 0).2.2.1 ∈ wsX2_oneComesUpAnywhere := by decide +kernel
set_option maxHeartbeats 4000000 in
set_option maxRecDepth 100000 in
theorem w_X2_oneComesUpAnywhere_b34 {p : Program} {l : Launch} {e : Env} {s : State} {m : MethodId} {args : Array Value} {below : List Frame} {meth : Method} {c : Code} {D : va_G} {dA : Nat → ClassId} {b0 : Nat} (X : zX p s m args c cX2_oneComesUpAnywhere 3 RX2 wsX2_oneComesUpAnywhere D dA) (hr : meth.sig.returnType = (some .boolean)) (hlk : meth.locks = false) {z : Int32 × zH} : ∀ (n : Nat), ∀ (r0 : Nat) (a2 : Int32) (h : zH) (H : Heap) (locs : List Loc) (ls : Array Slot), f_X2_oneComesUpAnywhere_b34 n r0 a2 h = some z → zG D dA b0 s.heap h H locs → lv_has ls 3 [(0, .ref (b0 + r0)), (2, .int a2)] → W p l e rmX2_oneComesUpAnywhere s m args below meth c H locs 0 0 (MQ below (zQ D dA b0 (some (.int z.1)) z.2) args s 0 0 (zA b0)) (F0 m 34 ls []) := by
  intro n
  induction n with
  | zero =>
    intro r0 a2 h H locs ls hf
    cases hf
  | succ n ih =>
    intro r0 a2 h H locs ls hf G hl
    rw [f_X2_oneComesUpAnywhere_b34] at hf
    refine lv_iload_n X.1.1 X.1.2.1 dX2_oneComesUpAnywhere_34 rfl (lv_at hl 1 rfl) ?_
    refine lv_aload_n X.1.1 X.1.2.1 dX2_oneComesUpAnywhere_35 rfl (lv_at hl 0 rfl) ?_
    refine zgetR (ci := 2) (k := 1) (C := RX2) (T := TX2) (N := 5) X G rfl inX2_oneComesUpAnywhere_X2 (Nat.le_of_ble_eq_true rfl) flX2_oneComesUpAnywhere_18 dX2_oneComesUpAnywhere_36 hf (fun v1 hf => ?_)
    refine zgetI (ci := 3) (k := 1) (C := RX3) (T := TX3) (N := 12) X G rfl inX2_oneComesUpAnywhere_X3 (Nat.le_of_ble_eq_true rfl) flX2_oneComesUpAnywhere_45 dX2_oneComesUpAnywhere_39 hf (fun v2 hf => ?_)
    refine zic_ge (tgt := 88) X dX2_oneComesUpAnywhere_42 (by decide) hf (fun hf => ?_) (fun hf => ?_)
    · refine lv_iconst (v := 0) X.1.1 X.1.2.1 dX2_oneComesUpAnywhere_88 (by decide) ?_
      exact zretZ X hr hlk G hf dX2_oneComesUpAnywhere_89
    · refine lv_aload_n X.1.1 X.1.2.1 dX2_oneComesUpAnywhere_45 rfl (lv_at hl 0 rfl) ?_
      refine zgetR (ci := 2) (k := 1) (C := RX2) (T := TX2) (N := 5) X G rfl inX2_oneComesUpAnywhere_X2 (Nat.le_of_ble_eq_true rfl) flX2_oneComesUpAnywhere_18 dX2_oneComesUpAnywhere_46 hf (fun v3 hf => ?_)
      refine zgetR (ci := 3) (k := 6) (C := RX3) (T := TX3) (N := 12) X G rfl inX2_oneComesUpAnywhere_X3 (Nat.le_of_ble_eq_true rfl) flX2_oneComesUpAnywhere_56 dX2_oneComesUpAnywhere_49 hf (fun v4 hf => ?_)
      refine lv_iload_n X.1.1 X.1.2.1 dX2_oneComesUpAnywhere_52 rfl (lv_at hl 1 rfl) ?_
      refine ziald X G dX2_oneComesUpAnywhere_53 hf (fun v5 hf => ?_)
      refine lv_iconst (v := 2) X.1.1 X.1.2.1 dX2_oneComesUpAnywhere_54 (by decide) ?_
      refine zic_eq (tgt := 82) X dX2_oneComesUpAnywhere_55 (by decide) hf (fun hf => ?_) (fun hf => ?_)
      · refine lv_iinc (v := (a2 + (1 : Int32))) (lv' := [(2, .int (a2 + (1 : Int32))), (0, .ref (b0 + r0))]) X.1.1 X.1.2.1 dX2_oneComesUpAnywhere_82 hl (k := 1) rfl rfl (by decide) rfl (fun ls hl => ?_)
        refine lv_goto (tgt := 34) X.1.1 X.1.2.1 dX2_oneComesUpAnywhere_85 (by decide) ?_
        exact ih _ _ _ _ _ _ hf G (lv_sub hl [1, 0] rfl)
      · refine lv_aload_n X.1.1 X.1.2.1 dX2_oneComesUpAnywhere_58 rfl (lv_at hl 0 rfl) ?_
        refine zgetR (ci := 2) (k := 1) (C := RX2) (T := TX2) (N := 5) X G rfl inX2_oneComesUpAnywhere_X2 (Nat.le_of_ble_eq_true rfl) flX2_oneComesUpAnywhere_18 dX2_oneComesUpAnywhere_59 hf (fun v6 hf => ?_)
        refine lv_iload_n X.1.1 X.1.2.1 dX2_oneComesUpAnywhere_62 rfl (lv_at hl 1 rfl) ?_
        obtain ⟨hk, hf⟩ := zck hf
        obtain ⟨q7, eq7, hf⟩ := Option.bind_eq_some_iff.mp hf
        refine zcV0 (As := [.int a2]) (rest := []) (v := (some (.int q7))) (h' := h) X G (rfl : vwCl[3]? = some (RX3, TX3, 12)) hk (m_X3_isUp l D dA b0 v6 a2 h q7 eq7) (cwV 1 X.1.2.2.2.2 gX2_oneComesUpAnywhere_X3_isUp rfl rfl rfl hdV_X3_isUp ⟨(Nat.le_of_ble_eq_true rfl), (Nat.le_of_ble_eq_true rfl)⟩) rfl hl.1 rfl (Nat.le_of_ble_eq_true rfl) dX2_oneComesUpAnywhere_63 ⟨Nat.zero_le _, Nat.zero_le _⟩ (fun H locs G => ?_)
        refine zif_ne (tgt := 82) X dX2_oneComesUpAnywhere_66 (by decide) hf (fun hf => ?_) (fun hf => ?_)
        · refine lv_iinc (v := (a2 + (1 : Int32))) (lv' := [(2, .int (a2 + (1 : Int32))), (0, .ref (b0 + r0))]) X.1.1 X.1.2.1 dX2_oneComesUpAnywhere_82 hl (k := 1) rfl rfl (by decide) rfl (fun ls hl => ?_)
          refine lv_goto (tgt := 34) X.1.1 X.1.2.1 dX2_oneComesUpAnywhere_85 (by decide) ?_
          exact ih _ _ _ _ _ _ hf G (lv_sub hl [1, 0] rfl)
        · refine lv_aload_n X.1.1 X.1.2.1 dX2_oneComesUpAnywhere_69 rfl (lv_at hl 0 rfl) ?_
          refine zgetR (ci := 2) (k := 0) (C := RX2) (T := TX2) (N := 5) X G rfl inX2_oneComesUpAnywhere_X2 (Nat.le_of_ble_eq_true rfl) flX2_oneComesUpAnywhere_12 dX2_oneComesUpAnywhere_70 hf (fun v8 hf => ?_)
          refine lv_iload_n X.1.1 X.1.2.1 dX2_oneComesUpAnywhere_73 rfl (lv_at hl 1 rfl) ?_
          obtain ⟨hk, hf⟩ := zck hf
          obtain ⟨q9, eq9, hf⟩ := Option.bind_eq_some_iff.mp hf
          refine zcV0 (As := [.int a2]) (rest := []) (v := (some (.int q9))) (h' := h) X G (rfl : vwCl[3]? = some (RX3, TX3, 12)) hk (m_X3_isUp l D dA b0 v8 a2 h q9 eq9) (cwV 1 X.1.2.2.2.2 gX2_oneComesUpAnywhere_X3_isUp rfl rfl rfl hdV_X3_isUp ⟨(Nat.le_of_ble_eq_true rfl), (Nat.le_of_ble_eq_true rfl)⟩) rfl hl.1 rfl (Nat.le_of_ble_eq_true rfl) dX2_oneComesUpAnywhere_74 ⟨Nat.zero_le _, Nat.zero_le _⟩ (fun H locs G => ?_)
          refine zif_eq (tgt := 82) X dX2_oneComesUpAnywhere_77 (by decide) hf (fun hf => ?_) (fun hf => ?_)
          · refine lv_iinc (v := (a2 + (1 : Int32))) (lv' := [(2, .int (a2 + (1 : Int32))), (0, .ref (b0 + r0))]) X.1.1 X.1.2.1 dX2_oneComesUpAnywhere_82 hl (k := 1) rfl rfl (by decide) rfl (fun ls hl => ?_)
            refine lv_goto (tgt := 34) X.1.1 X.1.2.1 dX2_oneComesUpAnywhere_85 (by decide) ?_
            exact ih _ _ _ _ _ _ hf G (lv_sub hl [1, 0] rfl)
          · refine lv_iconst (v := 1) X.1.1 X.1.2.1 dX2_oneComesUpAnywhere_80 (by decide) ?_
            exact zretZ X hr hlk G hf dX2_oneComesUpAnywhere_81
set_option maxHeartbeats 4000000 in
set_option maxRecDepth 100000 in
theorem w_X2_oneComesUpAnywhere_b13 {p : Program} {l : Launch} {e : Env} {s : State} {m : MethodId} {args : Array Value} {below : List Frame} {meth : Method} {c : Code} {D : va_G} {dA : Nat → ClassId} {b0 : Nat} (X : zX p s m args c cX2_oneComesUpAnywhere 3 RX2 wsX2_oneComesUpAnywhere D dA) (hr : meth.sig.returnType = (some .boolean)) (hlk : meth.locks = false) {z : Int32 × zH} : ∀ (n : Nat), ∀ (r0 : Nat) (a1 : Int32) (a2 : Int32) (h : zH) (H : Heap) (locs : List Loc) (ls : Array Slot), f_X2_oneComesUpAnywhere_b13 n r0 a1 a2 h = some z → zG D dA b0 s.heap h H locs → lv_has ls 3 [(0, .ref (b0 + r0)), (1, .int a1), (2, .int a2)] → W p l e rmX2_oneComesUpAnywhere s m args below meth c H locs 0 0 (MQ below (zQ D dA b0 (some (.int z.1)) z.2) args s 0 0 (zA b0)) (F0 m 13 ls []) := by
  intro n
  induction n with
  | zero =>
    intro r0 a1 a2 h H locs ls hf
    cases hf
  | succ n ih =>
    intro r0 a1 a2 h H locs ls hf G hl
    rw [f_X2_oneComesUpAnywhere_b13] at hf
    refine lv_iload_n X.1.1 X.1.2.1 dX2_oneComesUpAnywhere_13 rfl (lv_at hl 2 rfl) ?_
    refine lv_iload_n X.1.1 X.1.2.1 dX2_oneComesUpAnywhere_14 rfl (lv_at hl 1 rfl) ?_
    refine zic_ge (tgt := 32) X dX2_oneComesUpAnywhere_15 (by decide) hf (fun hf => ?_) (fun hf => ?_)
    · refine lv_iconst (v := 0) X.1.1 X.1.2.1 dX2_oneComesUpAnywhere_32 (by decide) ?_
      refine lv_istore_n (lv' := [(2, .int (0 : Int32)), (0, .ref (b0 + r0)), (1, .int a1)]) X.1.1 X.1.2.1 dX2_oneComesUpAnywhere_33 rfl hl (by decide) rfl (fun ls hl => ?_)
      exact w_X2_oneComesUpAnywhere_b34 X hr hlk _ _ _ _ _ _ _ hf G (lv_sub hl [1, 0] rfl)
    · refine lv_aload_n X.1.1 X.1.2.1 dX2_oneComesUpAnywhere_18 rfl (lv_at hl 0 rfl) ?_
      refine zgetR (ci := 2) (k := 0) (C := RX2) (T := TX2) (N := 5) X G rfl inX2_oneComesUpAnywhere_X2 (Nat.le_of_ble_eq_true rfl) flX2_oneComesUpAnywhere_12 dX2_oneComesUpAnywhere_19 hf (fun v1 hf => ?_)
      obtain ⟨hk, hf⟩ := zck hf
      obtain ⟨q2, eq2, hf⟩ := Option.bind_eq_some_iff.mp hf
      refine zcV0 (As := []) (rest := []) (v := (some (.int q2.1))) (h' := q2.2) X G (rfl : vwCl[3]? = some (RX3, TX3, 12)) hk (m_X3_passYear l D dA b0 v1 h q2 eq2) (cwV 0 X.1.2.2.2.2 gX2_oneComesUpAnywhere_X3_passYear rfl rfl rfl hdV_X3_passYear ⟨(Nat.le_of_ble_eq_true rfl), (Nat.le_of_ble_eq_true rfl)⟩) rfl hl.1 rfl (Nat.le_of_ble_eq_true rfl) dX2_oneComesUpAnywhere_22 ⟨Nat.zero_le _, Nat.zero_le _⟩ (fun H locs G => ?_)
      refine lv_pop X.1.1 X.1.2.1 dX2_oneComesUpAnywhere_25 rfl ?_
      refine lv_iinc (v := (a2 + (1 : Int32))) (lv' := [(2, .int (a2 + (1 : Int32))), (0, .ref (b0 + r0)), (1, .int a1)]) X.1.1 X.1.2.1 dX2_oneComesUpAnywhere_26 hl (k := 2) rfl rfl (by decide) rfl (fun ls hl => ?_)
      refine lv_goto (tgt := 13) X.1.1 X.1.2.1 dX2_oneComesUpAnywhere_29 (by decide) ?_
      exact ih _ _ _ _ _ _ _ hf G (lv_sub hl [1, 2, 0] rfl)
set_option maxHeartbeats 4000000 in
set_option maxRecDepth 100000 in
theorem m_X2_oneComesUpAnywhere (l : Launch) (D : va_G) (dA : Nat → ClassId) (b0 : Nat) (r0 : Nat) (a1 : Int32) (h : zH) (z : Int32 × zH) (hf : f_X2_oneComesUpAnywhere r0 a1 h = some z) : Met l yX2_oneComesUpAnywhere wsX2_oneComesUpAnywhere rmX2_oneComesUpAnywhere (zPc D dA b0 [.ref (b0 + r0), .int a1] h) (zQ D dA b0 (some (.int z.1)) z.2) 0 0 (zA b0) := by
  refine Met.ofW (cc := cX2_oneComesUpAnywhere) (maxL := 3) (ret := (some .boolean)) (by decide) rfl ?_
  intro p e s m args below meth c s₁ B hml hv
  obtain ⟨rfl, hP, hz, hK, hN⟩ := hv
  have hr := B.returns
  have hlk := B.notSynchronized
  have X : zX p s m _ c cX2_oneComesUpAnywhere 3 RX2 wsX2_oneComesUpAnywhere D dA := ⟨⟨B.exec, B.bytes, hml, findClass_of_methodNamed B.named, atoms_spec (ws := wsX2_oneComesUpAnywhere) B.pre⟩, hK, hN⟩
  have G : zG D dA b0 s.heap h s.heap [] := ⟨hP, hz, va_S.rf⟩
  have hl := lv_entry ([.ref (b0 + r0), .int a1]) (n := 3) (Nat.le_of_ble_eq_true rfl)
  rw [lg_entry_eq]
  generalize (lg_sl ([.ref (b0 + r0), .int a1]) ++ List.replicate (3 - (lg_sl ([.ref (b0 + r0), .int a1])).length) Slot.unset).toArray = ls at hl ⊢
  have hl : lv_has ls 3 [(0, .ref (b0 + r0)), (1, .int a1)] := hl
  unfold f_X2_oneComesUpAnywhere at hf
  refine lv_aload_n X.1.1 X.1.2.1 dX2_oneComesUpAnywhere_0 rfl (lv_at hl 0 rfl) ?_
  refine zgetR (ci := 2) (k := 0) (C := RX2) (T := TX2) (N := 5) X G rfl inX2_oneComesUpAnywhere_X2 (Nat.le_of_ble_eq_true rfl) flX2_oneComesUpAnywhere_12 dX2_oneComesUpAnywhere_1 hf (fun v1 hf => ?_)
  refine lv_aload_n X.1.1 X.1.2.1 dX2_oneComesUpAnywhere_4 rfl (lv_at hl 0 rfl) ?_
  refine zgetR (ci := 2) (k := 1) (C := RX2) (T := TX2) (N := 5) X G rfl inX2_oneComesUpAnywhere_X2 (Nat.le_of_ble_eq_true rfl) flX2_oneComesUpAnywhere_18 dX2_oneComesUpAnywhere_5 hf (fun v2 hf => ?_)
  obtain ⟨hk, hf⟩ := zck hf
  obtain ⟨q3, eq3, hf⟩ := Option.bind_eq_some_iff.mp hf
  refine zcV0 (As := [.ref (b0 + v2)]) (rest := []) (v := none) (h' := q3) X G (rfl : vwCl[3]? = some (RX3, TX3, 12)) hk (m_X3_become l D dA b0 v1 v2 h q3 eq3) (cwV 1 X.1.2.2.2.2 gX2_oneComesUpAnywhere_X3_become rfl rfl rfl hdV_X3_become ⟨(Nat.le_of_ble_eq_true rfl), (Nat.le_of_ble_eq_true rfl)⟩) rfl hl.1 rfl (Nat.le_of_ble_eq_true rfl) dX2_oneComesUpAnywhere_8 ⟨Nat.zero_le _, Nat.zero_le _⟩ (fun H locs G => ?_)
  refine lv_iconst (v := 0) X.1.1 X.1.2.1 dX2_oneComesUpAnywhere_11 (by decide) ?_
  refine lv_istore_n (lv' := [(2, .int (0 : Int32)), (0, .ref (b0 + r0)), (1, .int a1)]) X.1.1 X.1.2.1 dX2_oneComesUpAnywhere_12 rfl hl (by decide) rfl (fun ls hl => ?_)
  exact w_X2_oneComesUpAnywhere_b13 X hr hlk _ _ _ _ _ _ _ _ hf G (lv_sub hl [1, 2, 0] rfl)
/-! X2_countMoved -/
abbrev rmX2_countMoved : Room := { frames := 1, cells := 0, slots := 0, locals := 21 }
theorem hdV_X2_countMoved : yX2_countMoved.cls = RX2 ∧ yX2_countMoved.cls ≠ "java/lang/invoke/MethodHandle" ∧ yX2_countMoved.cls ≠ "java/lang/invoke/VarHandle" ∧ (parseMethodDescriptor yX2_countMoved.desc).map (fun d => d.parameters.length) = some 1 := by decide +kernel
theorem inX2_countMoved_X2 : ∀ w ∈ wsX20, w ∈ wsX2_countMoved := by decide +kernel
theorem flX2_countMoved_18 : Cond.fieldLink RX2 18 (TX2 1).1 (TX2 1).2.1 (TX2 1).2.2.1 ∈ wsX2_countMoved := by decide +kernel
theorem inX2_countMoved_X3 : ∀ w ∈ wsX30, w ∈ wsX2_countMoved := by decide +kernel
theorem flX2_countMoved_45 : Cond.fieldLink RX2 45 (TX3 1).1 (TX3 1).2.1 (TX3 1).2.2.1 ∈ wsX2_countMoved := by decide +kernel
theorem flX2_countMoved_25 : Cond.fieldLink RX2 25 (TX2 3).1 (TX2 3).2.1 (TX2 3).2.2.1 ∈ wsX2_countMoved := by decide +kernel
theorem flX2_countMoved_69 : Cond.fieldLink RX2 69 (TX3 8).1 (TX3 8).2.1 (TX3 8).2.2.1 ∈ wsX2_countMoved := by decide +kernel
theorem coX2_countMoved_29 : Cond.constant RX2 29 (-1000000) ∈ wsX2_countMoved := by decide +kernel
set_option maxHeartbeats 4000000 in
set_option maxRecDepth 100000 in
theorem w_X2_countMoved_b4 {p : Program} {l : Launch} {e : Env} {s : State} {m : MethodId} {args : Array Value} {below : List Frame} {meth : Method} {c : Code} {D : va_G} {dA : Nat → ClassId} {b0 : Nat} (X : zX p s m args c cX2_countMoved 5 RX2 wsX2_countMoved D dA) (hr : meth.sig.returnType = (some .int)) (hlk : meth.locks = false) {z : Int32 × zH} : ∀ (n : Nat), ∀ (r0 : Nat) (a1 : Int32) (a2 : Int32) (a3 : Int32) (h : zH) (H : Heap) (locs : List Loc) (ls : Array Slot), f_X2_countMoved_b4 n r0 a1 a2 a3 h = some z → zG D dA b0 s.heap h H locs → lv_has ls 5 [(0, .ref (b0 + r0)), (1, .int a1), (2, .int a2), (3, .int a3)] → W p l e rmX2_countMoved s m args below meth c H locs 0 0 (MQ below (zQ D dA b0 (some (.int z.1)) z.2) args s 0 0 (zA b0)) (F0 m 4 ls []) := by
  intro n
  induction n with
  | zero =>
    intro r0 a1 a2 a3 h H locs ls hf
    cases hf
  | succ n ih =>
    intro r0 a1 a2 a3 h H locs ls hf G hl
    rw [f_X2_countMoved_b4] at hf
    refine lv_iload_n X.1.1 X.1.2.1 dX2_countMoved_4 rfl (lv_at hl 3 rfl) ?_
    refine lv_aload_n X.1.1 X.1.2.1 dX2_countMoved_5 rfl (lv_at hl 0 rfl) ?_
    refine zgetR (ci := 2) (k := 1) (C := RX2) (T := TX2) (N := 5) X G rfl inX2_countMoved_X2 (Nat.le_of_ble_eq_true rfl) flX2_countMoved_18 dX2_countMoved_6 hf (fun v1 hf => ?_)
    refine zgetI (ci := 3) (k := 1) (C := RX3) (T := TX3) (N := 12) X G rfl inX2_countMoved_X3 (Nat.le_of_ble_eq_true rfl) flX2_countMoved_45 dX2_countMoved_9 hf (fun v2 hf => ?_)
    refine zic_ge (tgt := 79) X dX2_countMoved_12 (by decide) hf (fun hf => ?_) (fun hf => ?_)
    · refine lv_iload_n X.1.1 X.1.2.1 dX2_countMoved_79 rfl (lv_at hl 2 rfl) ?_
      exact zretI X hr hlk G hf dX2_countMoved_80
    · refine lv_iload_n X.1.1 X.1.2.1 dX2_countMoved_15 rfl (lv_at hl 1 rfl) ?_
      refine lv_iconst (v := 2) X.1.1 X.1.2.1 dX2_countMoved_16 (by decide) ?_
      refine lv_aload_n X.1.1 X.1.2.1 dX2_countMoved_17 rfl (lv_at hl 0 rfl) ?_
      refine zgetR (ci := 2) (k := 1) (C := RX2) (T := TX2) (N := 5) X G rfl inX2_countMoved_X2 (Nat.le_of_ble_eq_true rfl) flX2_countMoved_18 dX2_countMoved_18 hf (fun v3 hf => ?_)
      refine zgetI (ci := 3) (k := 1) (C := RX3) (T := TX3) (N := 12) X G rfl inX2_countMoved_X3 (Nat.le_of_ble_eq_true rfl) flX2_countMoved_45 dX2_countMoved_21 hf (fun v4 hf => ?_)
      refine lv_iconst (v := 1) X.1.1 X.1.2.1 dX2_countMoved_24 (by decide) ?_
      refine lv_isub X.1.1 X.1.2.1 dX2_countMoved_25 ?_
      refine lv_iload_n X.1.1 X.1.2.1 dX2_countMoved_26 rfl (lv_at hl 3 rfl) ?_
      refine lv_isub X.1.1 X.1.2.1 dX2_countMoved_27 ?_
      refine lv_imul X.1.1 X.1.2.1 dX2_countMoved_28 ?_
      refine lv_ishr X.1.1 X.1.2.1 dX2_countMoved_29 ?_
      refine lv_iconst (v := 3) X.1.1 X.1.2.1 dX2_countMoved_30 (by decide) ?_
      refine lv_iand X.1.1 X.1.2.1 dX2_countMoved_31 ?_
      refine zleti hf (fun x5 hf => ?_)
      refine lv_istore (lv' := [(4, .int x5), (0, .ref (b0 + r0)), (1, .int a1), (2, .int a2), (3, .int a3)]) X.1.1 X.1.2.1 dX2_countMoved_32 hl (by decide) rfl (fun ls hl => ?_)
      refine lv_aload_n X.1.1 X.1.2.1 dX2_countMoved_34 rfl (lv_at hl 1 rfl) ?_
      refine zgetR (ci := 2) (k := 3) (C := RX2) (T := TX2) (N := 5) X G rfl inX2_countMoved_X2 (Nat.le_of_ble_eq_true rfl) flX2_countMoved_25 dX2_countMoved_35 hf (fun v6 hf => ?_)
      refine lv_iload_n X.1.1 X.1.2.1 dX2_countMoved_38 rfl (lv_at hl 4 rfl) ?_
      refine lv_iload X.1.1 X.1.2.1 dX2_countMoved_39 (lv_at hl 0 rfl) ?_
      refine ziast X G dX2_countMoved_41 hf (fun h7 H locs hf G => ?_)
      refine lv_iload X.1.1 X.1.2.1 dX2_countMoved_42 (lv_at hl 0 rfl) ?_
      refine lv_aload_n X.1.1 X.1.2.1 dX2_countMoved_44 rfl (lv_at hl 1 rfl) ?_
      refine zgetR (ci := 2) (k := 1) (C := RX2) (T := TX2) (N := 5) X G rfl inX2_countMoved_X2 (Nat.le_of_ble_eq_true rfl) flX2_countMoved_18 dX2_countMoved_45 hf (fun v8 hf => ?_)
      refine zgetR (ci := 3) (k := 8) (C := RX3) (T := TX3) (N := 12) X G rfl inX2_countMoved_X3 (Nat.le_of_ble_eq_true rfl) flX2_countMoved_69 dX2_countMoved_48 hf (fun v9 hf => ?_)
      refine lv_iload_n X.1.1 X.1.2.1 dX2_countMoved_51 rfl (lv_at hl 4 rfl) ?_
      refine ziald X G dX2_countMoved_52 hf (fun v10 hf => ?_)
      refine zic_eq (tgt := 73) X dX2_countMoved_53 (by decide) hf (fun hf => ?_) (fun hf => ?_)
      · refine lv_iinc (v := (a3 + (1 : Int32))) (lv' := [(3, .int (a3 + (1 : Int32))), (4, .int x5), (0, .ref (b0 + r0)), (1, .int a1), (2, .int a2)]) X.1.1 X.1.2.1 dX2_countMoved_73 hl (k := 4) rfl rfl (by decide) rfl (fun ls hl => ?_)
        refine lv_goto (tgt := 4) X.1.1 X.1.2.1 dX2_countMoved_76 (by decide) ?_
        exact ih _ _ _ _ _ _ _ _ hf G (lv_sub hl [2, 3, 4, 0] rfl)
      · refine lv_aload_n X.1.1 X.1.2.1 dX2_countMoved_56 rfl (lv_at hl 1 rfl) ?_
        refine zgetR (ci := 2) (k := 1) (C := RX2) (T := TX2) (N := 5) X G rfl inX2_countMoved_X2 (Nat.le_of_ble_eq_true rfl) flX2_countMoved_18 dX2_countMoved_57 hf (fun v11 hf => ?_)
        refine lv_iload_n X.1.1 X.1.2.1 dX2_countMoved_60 rfl (lv_at hl 4 rfl) ?_
        obtain ⟨hk, hf⟩ := zck hf
        obtain ⟨q12, eq12, hf⟩ := Option.bind_eq_some_iff.mp hf
        refine zcV0 (As := [.int a3]) (rest := []) (v := (some (.int q12))) (h' := h7) X G (rfl : vwCl[3]? = some (RX3, TX3, 12)) hk (m_X3_isUp l D dA b0 v11 a3 h7 q12 eq12) (cwV 1 X.1.2.2.2.2 gX2_countMoved_X3_isUp rfl rfl rfl hdV_X3_isUp ⟨(Nat.le_of_ble_eq_true rfl), (Nat.le_of_ble_eq_true rfl)⟩) rfl hl.1 rfl (Nat.le_of_ble_eq_true rfl) dX2_countMoved_61 ⟨Nat.zero_le _, Nat.zero_le _⟩ (fun H locs G => ?_)
        refine zif_eq (tgt := 70) X dX2_countMoved_64 (by decide) hf (fun hf => ?_) (fun hf => ?_)
        · refine lv_iinc (v := (a2 + (1 : Int32))) (lv' := [(2, .int (a2 + (1 : Int32))), (4, .int x5), (0, .ref (b0 + r0)), (1, .int a1), (3, .int a3)]) X.1.1 X.1.2.1 dX2_countMoved_70 hl (k := 3) rfl rfl (by decide) rfl (fun ls hl => ?_)
          refine lv_iinc (v := (a3 + (1 : Int32))) (lv' := [(3, .int (a3 + (1 : Int32))), (2, .int (a2 + (1 : Int32))), (4, .int x5), (0, .ref (b0 + r0)), (1, .int a1)]) X.1.1 X.1.2.1 dX2_countMoved_73 hl (k := 4) rfl rfl (by decide) rfl (fun ls hl => ?_)
          refine lv_goto (tgt := 4) X.1.1 X.1.2.1 dX2_countMoved_76 (by decide) ?_
          exact ih _ _ _ _ _ _ _ _ hf G (lv_sub hl [3, 4, 1, 0] rfl)
        · refine lv_ldc (v := -1000000) X.1.1 X.1.2.1 X.1.2.2.2.1 (X.1.2.2.2.2 _ coX2_countMoved_29) dX2_countMoved_67 ?_
          exact zretI X hr hlk G hf dX2_countMoved_69
set_option maxHeartbeats 4000000 in
set_option maxRecDepth 100000 in
theorem m_X2_countMoved (l : Launch) (D : va_G) (dA : Nat → ClassId) (b0 : Nat) (r0 : Nat) (a1 : Int32) (h : zH) (z : Int32 × zH) (hf : f_X2_countMoved r0 a1 h = some z) : Met l yX2_countMoved wsX2_countMoved rmX2_countMoved (zPc D dA b0 [.ref (b0 + r0), .int a1] h) (zQ D dA b0 (some (.int z.1)) z.2) 0 0 (zA b0) := by
  refine Met.ofW (cc := cX2_countMoved) (maxL := 5) (ret := (some .int)) (by decide) rfl ?_
  intro p e s m args below meth c s₁ B hml hv
  obtain ⟨rfl, hP, hz, hK, hN⟩ := hv
  have hr := B.returns
  have hlk := B.notSynchronized
  have X : zX p s m _ c cX2_countMoved 5 RX2 wsX2_countMoved D dA := ⟨⟨B.exec, B.bytes, hml, findClass_of_methodNamed B.named, atoms_spec (ws := wsX2_countMoved) B.pre⟩, hK, hN⟩
  have G : zG D dA b0 s.heap h s.heap [] := ⟨hP, hz, va_S.rf⟩
  have hl := lv_entry ([.ref (b0 + r0), .int a1]) (n := 5) (Nat.le_of_ble_eq_true rfl)
  rw [lg_entry_eq]
  generalize (lg_sl ([.ref (b0 + r0), .int a1]) ++ List.replicate (5 - (lg_sl ([.ref (b0 + r0), .int a1])).length) Slot.unset).toArray = ls at hl ⊢
  have hl : lv_has ls 5 [(0, .ref (b0 + r0)), (1, .int a1)] := hl
  unfold f_X2_countMoved at hf
  refine lv_iconst (v := 0) X.1.1 X.1.2.1 dX2_countMoved_0 (by decide) ?_
  refine lv_istore_n (lv' := [(2, .int (0 : Int32)), (0, .ref (b0 + r0)), (1, .int a1)]) X.1.1 X.1.2.1 dX2_countMoved_1 rfl hl (by decide) rfl (fun ls hl => ?_)
  refine lv_iconst (v := 0) X.1.1 X.1.2.1 dX2_countMoved_2 (by decide) ?_
  refine lv_istore_n (lv' := [(3, .int (0 : Int32)), (2, .int (0 : Int32)), (0, .ref (b0 + r0)), (1, .int a1)]) X.1.1 X.1.2.1 dX2_countMoved_3 rfl hl (by decide) rfl (fun ls hl => ?_)
  exact w_X2_countMoved_b4 X hr hlk _ _ _ _ _ _ _ _ _ hf G (lv_sub hl [2, 3, 1, 0] rfl)
/-! X3_allUp -/
abbrev rmX3_allUp : Room := { frames := 1, cells := 0, slots := 0, locals := 21 }
theorem hdV_X3_allUp : yX3_allUp.cls = RX3 ∧ yX3_allUp.cls ≠ "java/lang/invoke/MethodHandle" ∧ yX3_allUp.cls ≠ "java/lang/invoke/VarHandle" ∧ (parseMethodDescriptor yX3_allUp.desc).map (fun d => d.parameters.length) = some 0 := by decide +kernel
theorem inX3_allUp_X3 : ∀ w ∈ wsX30, w ∈ wsX3_allUp := by decide +kernel
theorem flX3_allUp_15 : Cond.fieldLink RX3 15 (TX3 1).1 (TX3 1).2.1 (TX3 1).2.2.1 ∈ wsX3_allUp := by decide +kernel
set_option maxHeartbeats 4000000 in
set_option maxRecDepth 100000 in
theorem w_X3_allUp_b4 {p : Program} {l : Launch} {e : Env} {s : State} {m : MethodId} {args : Array Value} {below : List Frame} {meth : Method} {c : Code} {D : va_G} {dA : Nat → ClassId} {b0 : Nat} {h : zH} (X : zX p s m args c cX3_allUp 3 RX3 wsX3_allUp D dA) (hr : meth.sig.returnType = (some .int)) (hlk : meth.locks = false) {z : Int32} : ∀ (n : Nat), ∀ (r0 : Nat) (a1 : Int32) (a2 : Int32) (H : Heap) (locs : List Loc) (ls : Array Slot), f_X3_allUp_b4 h n r0 a1 a2 = some z → zG D dA b0 s.heap h H locs → lv_has ls 3 [(0, .ref (b0 + r0)), (1, .int a1), (2, .int a2)] → W p l e rmX3_allUp s m args below meth c H locs 0 0 (MQ below (zQ D dA b0 (some (.int z)) h) args s 0 0 (zA b0)) (F0 m 4 ls []) := by
  intro n
  induction n with
  | zero =>
    intro r0 a1 a2 H locs ls hf
    cases hf
  | succ n ih =>
    intro r0 a1 a2 H locs ls hf G hl
    rw [f_X3_allUp_b4] at hf
    refine lv_iload_n X.1.1 X.1.2.1 dX3_allUp_4 rfl (lv_at hl 2 rfl) ?_
    refine lv_aload_n X.1.1 X.1.2.1 dX3_allUp_5 rfl (lv_at hl 0 rfl) ?_
    refine zgetI (ci := 3) (k := 1) (C := RX3) (T := TX3) (N := 12) X G rfl inX3_allUp_X3 (Nat.le_of_ble_eq_true rfl) flX3_allUp_15 dX3_allUp_6 hf (fun v1 hf => ?_)
    refine zic_ge (tgt := 32) X dX3_allUp_9 (by decide) hf (fun hf => ?_) (fun hf => ?_)
    · refine lv_iload_n X.1.1 X.1.2.1 dX3_allUp_32 rfl (lv_at hl 1 rfl) ?_
      exact zretIr X hr hlk G hf dX3_allUp_33
    · refine lv_aload_n X.1.1 X.1.2.1 dX3_allUp_12 rfl (lv_at hl 0 rfl) ?_
      refine lv_iload_n X.1.1 X.1.2.1 dX3_allUp_13 rfl (lv_at hl 2 rfl) ?_
      obtain ⟨hk, hf⟩ := zck hf
      obtain ⟨q2, eq2, hf⟩ := Option.bind_eq_some_iff.mp hf
      refine zcV0 (As := [.int a2]) (rest := []) (v := (some (.int q2))) (h' := h) X G (rfl : vwCl[3]? = some (RX3, TX3, 12)) hk (m_X3_isUp l D dA b0 r0 a2 h q2 eq2) (cwV 1 X.1.2.2.2.2 gX3_allUp_X3_isUp rfl rfl rfl hdV_X3_isUp ⟨(Nat.le_of_ble_eq_true rfl), (Nat.le_of_ble_eq_true rfl)⟩) rfl hl.1 rfl (Nat.le_of_ble_eq_true rfl) dX3_allUp_14 ⟨Nat.zero_le _, Nat.zero_le _⟩ (fun H locs G => ?_)
      refine zif_eq (tgt := 26) X dX3_allUp_17 (by decide) hf (fun hf => ?_) (fun hf => ?_)
      · refine lv_iinc (v := (a2 + (1 : Int32))) (lv' := [(2, .int (a2 + (1 : Int32))), (0, .ref (b0 + r0)), (1, .int a1)]) X.1.1 X.1.2.1 dX3_allUp_26 hl (k := 2) rfl rfl (by decide) rfl (fun ls hl => ?_)
        refine lv_goto (tgt := 4) X.1.1 X.1.2.1 dX3_allUp_29 (by decide) ?_
        exact ih _ _ _ _ _ _ hf G (lv_sub hl [1, 2, 0] rfl)
      · refine lv_iload_n X.1.1 X.1.2.1 dX3_allUp_20 rfl (lv_at hl 1 rfl) ?_
        refine lv_iconst (v := 1) X.1.1 X.1.2.1 dX3_allUp_21 (by decide) ?_
        refine lv_iload_n X.1.1 X.1.2.1 dX3_allUp_22 rfl (lv_at hl 2 rfl) ?_
        refine lv_ishl X.1.1 X.1.2.1 dX3_allUp_23 ?_
        refine lv_ior X.1.1 X.1.2.1 dX3_allUp_24 ?_
        refine zleti hf (fun x3 hf => ?_)
        refine lv_istore_n (lv' := [(1, .int x3), (0, .ref (b0 + r0)), (2, .int a2)]) X.1.1 X.1.2.1 dX3_allUp_25 rfl hl (by decide) rfl (fun ls hl => ?_)
        refine lv_iinc (v := (a2 + (1 : Int32))) (lv' := [(2, .int (a2 + (1 : Int32))), (1, .int x3), (0, .ref (b0 + r0))]) X.1.1 X.1.2.1 dX3_allUp_26 hl (k := 2) rfl rfl (by decide) rfl (fun ls hl => ?_)
        refine lv_goto (tgt := 4) X.1.1 X.1.2.1 dX3_allUp_29 (by decide) ?_
        exact ih _ _ _ _ _ _ hf G (lv_sub hl [2, 1, 0] rfl)
set_option maxHeartbeats 4000000 in
set_option maxRecDepth 100000 in
theorem m_X3_allUp (l : Launch) (D : va_G) (dA : Nat → ClassId) (b0 : Nat) (r0 : Nat) (h : zH) (z : Int32) (hf : f_X3_allUp r0 h = some z) : Met l yX3_allUp wsX3_allUp rmX3_allUp (zPc D dA b0 [.ref (b0 + r0)] h) (zQ D dA b0 (some (.int z)) h) 0 0 (zA b0) := by
  refine Met.ofW (cc := cX3_allUp) (maxL := 3) (ret := (some .int)) (by decide) rfl ?_
  intro p e s m args below meth c s₁ B hml hv
  obtain ⟨rfl, hP, hz, hK, hN⟩ := hv
  have hr := B.returns
  have hlk := B.notSynchronized
  have X : zX p s m _ c cX3_allUp 3 RX3 wsX3_allUp D dA := ⟨⟨B.exec, B.bytes, hml, findClass_of_methodNamed B.named, atoms_spec (ws := wsX3_allUp) B.pre⟩, hK, hN⟩
  have G : zG D dA b0 s.heap h s.heap [] := ⟨hP, hz, va_S.rf⟩
  have hl := lv_entry ([.ref (b0 + r0)]) (n := 3) (Nat.le_of_ble_eq_true rfl)
  rw [lg_entry_eq]
  generalize (lg_sl ([.ref (b0 + r0)]) ++ List.replicate (3 - (lg_sl ([.ref (b0 + r0)])).length) Slot.unset).toArray = ls at hl ⊢
  have hl : lv_has ls 3 [(0, .ref (b0 + r0))] := hl
  unfold f_X3_allUp at hf
  refine lv_iconst (v := 0) X.1.1 X.1.2.1 dX3_allUp_0 (by decide) ?_
  refine lv_istore_n (lv' := [(1, .int (0 : Int32)), (0, .ref (b0 + r0))]) X.1.1 X.1.2.1 dX3_allUp_1 rfl hl (by decide) rfl (fun ls hl => ?_)
  refine lv_iconst (v := 0) X.1.1 X.1.2.1 dX3_allUp_2 (by decide) ?_
  refine lv_istore_n (lv' := [(2, .int (0 : Int32)), (1, .int (0 : Int32)), (0, .ref (b0 + r0))]) X.1.1 X.1.2.1 dX3_allUp_3 rfl hl (by decide) rfl (fun ls hl => ?_)
  exact w_X3_allUp_b4 X hr hlk _ _ _ _ _ _ _ hf G (lv_sub hl [2, 1, 0] rfl)
/-! X3_areTooNear -/
abbrev rmX3_areTooNear : Room := { frames := 1, cells := 0, slots := 0, locals := 40 }
theorem hdV_X3_areTooNear : yX3_areTooNear.cls = RX3 ∧ yX3_areTooNear.cls ≠ "java/lang/invoke/MethodHandle" ∧ yX3_areTooNear.cls ≠ "java/lang/invoke/VarHandle" ∧ (parseMethodDescriptor yX3_areTooNear.desc).map (fun d => d.parameters.length) = some 2 := by decide +kernel
theorem inX3_areTooNear_X3 : ∀ w ∈ wsX30, w ∈ wsX3_areTooNear := by decide +kernel
theorem flX3_areTooNear_38 : Cond.fieldLink RX3 38 (TX3 8).1 (TX3 8).2.1 (TX3 8).2.2.1 ∈ wsX3_areTooNear := by decide +kernel
theorem wdX3_areTooNear_absL54 : Cond.methodLink RX3 54 Lib.Math.abs.name ∈ wsX3_areTooNear := by decide +kernel
theorem wdX3_areTooNear_absS : Cond.static Lib.Math.abs.name ∈ wsX3_areTooNear := by decide +kernel
theorem wdX3_areTooNear_absI : Cond.initialized "java/lang/Math" ∈ wsX3_areTooNear := by decide +kernel
theorem wdX3_areTooNear_absC : Cond.code Lib.Math.abs.name Lib.Math.abs.code 1 (some .int) ∈ wsX3_areTooNear := by decide +kernel
theorem flX3_areTooNear_35 : Cond.fieldLink RX3 35 (TX3 7).1 (TX3 7).2.1 (TX3 7).2.2.1 ∈ wsX3_areTooNear := by decide +kernel
theorem flX3_areTooNear_22 : Cond.fieldLink RX3 22 (TX3 3).1 (TX3 3).2.1 (TX3 3).2.2.1 ∈ wsX3_areTooNear := by decide +kernel
set_option maxHeartbeats 4000000 in
set_option maxRecDepth 100000 in
theorem m_X3_areTooNear (l : Launch) (D : va_G) (dA : Nat → ClassId) (b0 : Nat) (r0 : Nat) (a1 : Int32) (a2 : Int32) (h : zH) (z : Int32) (hf : f_X3_areTooNear r0 a1 a2 h = some z) : Met l yX3_areTooNear wsX3_areTooNear rmX3_areTooNear (zPc D dA b0 [.ref (b0 + r0), .int a1, .int a2] h) (zQ D dA b0 (some (.int z)) h) 0 0 (zA b0) := by
  refine Met.ofW (cc := cX3_areTooNear) (maxL := 3) (ret := (some .boolean)) (by decide) rfl ?_
  intro p e s m args below meth c s₁ B hml hv
  obtain ⟨rfl, hP, hz, hK, hN⟩ := hv
  have hr := B.returns
  have hlk := B.notSynchronized
  have X : zX p s m _ c cX3_areTooNear 3 RX3 wsX3_areTooNear D dA := ⟨⟨B.exec, B.bytes, hml, findClass_of_methodNamed B.named, atoms_spec (ws := wsX3_areTooNear) B.pre⟩, hK, hN⟩
  have G : zG D dA b0 s.heap h s.heap [] := ⟨hP, hz, va_S.rf⟩
  have hl := lv_entry ([.ref (b0 + r0), .int a1, .int a2]) (n := 3) (Nat.le_of_ble_eq_true rfl)
  rw [lg_entry_eq]
  generalize (lg_sl ([.ref (b0 + r0), .int a1, .int a2]) ++ List.replicate (3 - (lg_sl ([.ref (b0 + r0), .int a1, .int a2])).length) Slot.unset).toArray = ls at hl ⊢
  have hl : lv_has ls 3 [(0, .ref (b0 + r0)), (1, .int a1), (2, .int a2)] := hl
  unfold f_X3_areTooNear at hf
  refine lv_aload_n X.1.1 X.1.2.1 dX3_areTooNear_0 rfl (lv_at hl 0 rfl) ?_
  refine lv_iload_n X.1.1 X.1.2.1 dX3_areTooNear_1 rfl (lv_at hl 1 rfl) ?_
  obtain ⟨hk, hf⟩ := zck hf
  obtain ⟨q1, eq1, hf⟩ := Option.bind_eq_some_iff.mp hf
  refine zcV0 (As := [.int a1]) (rest := []) (v := (some (.int q1))) (h' := h) X G (rfl : vwCl[3]? = some (RX3, TX3, 12)) hk (m_X3_isUp l D dA b0 r0 a1 h q1 eq1) (cwV 1 X.1.2.2.2.2 gX3_areTooNear_X3_isUp rfl rfl rfl hdV_X3_isUp ⟨(Nat.le_of_ble_eq_true rfl), (Nat.le_of_ble_eq_true rfl)⟩) rfl hl.1 rfl (Nat.le_of_ble_eq_true rfl) dX3_areTooNear_2 ⟨Nat.zero_le _, Nat.zero_le _⟩ (fun H locs G => ?_)
  refine zif_ne (tgt := 63) X dX3_areTooNear_5 (by decide) hf (fun hf => ?_) (fun hf => ?_)
  · refine lv_iconst (v := 0) X.1.1 X.1.2.1 dX3_areTooNear_63 (by decide) ?_
    exact zretZr X hr hlk G hf dX3_areTooNear_64
  · refine lv_aload_n X.1.1 X.1.2.1 dX3_areTooNear_8 rfl (lv_at hl 0 rfl) ?_
    refine lv_iload_n X.1.1 X.1.2.1 dX3_areTooNear_9 rfl (lv_at hl 2 rfl) ?_
    obtain ⟨hk, hf⟩ := zck hf
    obtain ⟨q2, eq2, hf⟩ := Option.bind_eq_some_iff.mp hf
    refine zcV0 (As := [.int a2]) (rest := []) (v := (some (.int q2))) (h' := h) X G (rfl : vwCl[3]? = some (RX3, TX3, 12)) hk (m_X3_isUp l D dA b0 r0 a2 h q2 eq2) (cwV 1 X.1.2.2.2.2 gX3_areTooNear_X3_isUp rfl rfl rfl hdV_X3_isUp ⟨(Nat.le_of_ble_eq_true rfl), (Nat.le_of_ble_eq_true rfl)⟩) rfl hl.1 rfl (Nat.le_of_ble_eq_true rfl) dX3_areTooNear_10 ⟨Nat.zero_le _, Nat.zero_le _⟩ (fun H locs G => ?_)
    refine zif_ne (tgt := 63) X dX3_areTooNear_13 (by decide) hf (fun hf => ?_) (fun hf => ?_)
    · refine lv_iconst (v := 0) X.1.1 X.1.2.1 dX3_areTooNear_63 (by decide) ?_
      exact zretZr X hr hlk G hf dX3_areTooNear_64
    · refine lv_aload_n X.1.1 X.1.2.1 dX3_areTooNear_16 rfl (lv_at hl 0 rfl) ?_
      refine zgetR (ci := 3) (k := 8) (C := RX3) (T := TX3) (N := 12) X G rfl inX3_areTooNear_X3 (Nat.le_of_ble_eq_true rfl) flX3_areTooNear_38 dX3_areTooNear_17 hf (fun v3 hf => ?_)
      refine lv_iload_n X.1.1 X.1.2.1 dX3_areTooNear_20 rfl (lv_at hl 1 rfl) ?_
      refine ziald X G dX3_areTooNear_21 hf (fun v4 hf => ?_)
      refine lv_aload_n X.1.1 X.1.2.1 dX3_areTooNear_22 rfl (lv_at hl 0 rfl) ?_
      refine zgetR (ci := 3) (k := 8) (C := RX3) (T := TX3) (N := 12) X G rfl inX3_areTooNear_X3 (Nat.le_of_ble_eq_true rfl) flX3_areTooNear_38 dX3_areTooNear_23 hf (fun v5 hf => ?_)
      refine lv_iload_n X.1.1 X.1.2.1 dX3_areTooNear_26 rfl (lv_at hl 2 rfl) ?_
      refine ziald X G dX3_areTooNear_27 hf (fun v6 hf => ?_)
      refine lv_isub X.1.1 X.1.2.1 dX3_areTooNear_28 ?_
      refine zabs X hl.1 wdX3_areTooNear_absL54 wdX3_areTooNear_absS wdX3_areTooNear_absI wdX3_areTooNear_absC (Nat.le_of_ble_eq_true rfl) (Nat.le_of_ble_eq_true rfl) (Nat.zero_le _) (Nat.zero_le _) dX3_areTooNear_29 ?_
      refine lv_iconst (v := 1) X.1.1 X.1.2.1 dX3_areTooNear_32 (by decide) ?_
      refine zic_gt (tgt := 63) X dX3_areTooNear_33 (by decide) hf (fun hf => ?_) (fun hf => ?_)
      · refine lv_iconst (v := 0) X.1.1 X.1.2.1 dX3_areTooNear_63 (by decide) ?_
        exact zretZr X hr hlk G hf dX3_areTooNear_64
      · refine lv_aload_n X.1.1 X.1.2.1 dX3_areTooNear_36 rfl (lv_at hl 0 rfl) ?_
        refine zgetR (ci := 3) (k := 7) (C := RX3) (T := TX3) (N := 12) X G rfl inX3_areTooNear_X3 (Nat.le_of_ble_eq_true rfl) flX3_areTooNear_35 dX3_areTooNear_37 hf (fun v7 hf => ?_)
        refine lv_iload_n X.1.1 X.1.2.1 dX3_areTooNear_40 rfl (lv_at hl 1 rfl) ?_
        refine ziald X G dX3_areTooNear_41 hf (fun v8 hf => ?_)
        refine lv_aload_n X.1.1 X.1.2.1 dX3_areTooNear_42 rfl (lv_at hl 0 rfl) ?_
        refine zgetR (ci := 3) (k := 7) (C := RX3) (T := TX3) (N := 12) X G rfl inX3_areTooNear_X3 (Nat.le_of_ble_eq_true rfl) flX3_areTooNear_35 dX3_areTooNear_43 hf (fun v9 hf => ?_)
        refine lv_iload_n X.1.1 X.1.2.1 dX3_areTooNear_46 rfl (lv_at hl 2 rfl) ?_
        refine ziald X G dX3_areTooNear_47 hf (fun v10 hf => ?_)
        refine lv_isub X.1.1 X.1.2.1 dX3_areTooNear_48 ?_
        refine zabs X hl.1 wdX3_areTooNear_absL54 wdX3_areTooNear_absS wdX3_areTooNear_absI wdX3_areTooNear_absC (Nat.le_of_ble_eq_true rfl) (Nat.le_of_ble_eq_true rfl) (Nat.zero_le _) (Nat.zero_le _) dX3_areTooNear_49 ?_
        refine lv_aload_n X.1.1 X.1.2.1 dX3_areTooNear_52 rfl (lv_at hl 0 rfl) ?_
        refine zgetI (ci := 3) (k := 3) (C := RX3) (T := TX3) (N := 12) X G rfl inX3_areTooNear_X3 (Nat.le_of_ble_eq_true rfl) flX3_areTooNear_22 dX3_areTooNear_53 hf (fun v11 hf => ?_)
        refine zic_gt (tgt := 63) X dX3_areTooNear_56 (by decide) hf (fun hf => ?_) (fun hf => ?_)
        · refine lv_iconst (v := 0) X.1.1 X.1.2.1 dX3_areTooNear_63 (by decide) ?_
          exact zretZr X hr hlk G hf dX3_areTooNear_64
        · refine lv_iconst (v := 1) X.1.1 X.1.2.1 dX3_areTooNear_59 (by decide) ?_
          refine lv_goto (tgt := 64) X.1.1 X.1.2.1 dX3_areTooNear_60 (by decide) ?_
          exact zretZr X hr hlk G hf dX3_areTooNear_64
/-! X3_firstTooNear -/
abbrev rmX3_firstTooNear : Room := { frames := 2, cells := 0, slots := 0, locals := 62 }
theorem hdV_X3_firstTooNear : yX3_firstTooNear.cls = RX3 ∧ yX3_firstTooNear.cls ≠ "java/lang/invoke/MethodHandle" ∧ yX3_firstTooNear.cls ≠ "java/lang/invoke/VarHandle" ∧ (parseMethodDescriptor yX3_firstTooNear.desc).map (fun d => d.parameters.length) = some 0 := by decide +kernel
theorem inX3_firstTooNear_X3 : ∀ w ∈ wsX30, w ∈ wsX3_firstTooNear := by decide +kernel
theorem flX3_firstTooNear_15 : Cond.fieldLink RX3 15 (TX3 1).1 (TX3 1).2.1 (TX3 1).2.2.1 ∈ wsX3_firstTooNear := by decide +kernel
theorem coX3_firstTooNear_64 : Cond.constant RX3 64 (-1000000) ∈ wsX3_firstTooNear := by decide +kernel
set_option maxHeartbeats 4000000 in
set_option maxRecDepth 100000 in
theorem w_X3_firstTooNear_b14 {p : Program} {l : Launch} {e : Env} {s : State} {m : MethodId} {args : Array Value} {below : List Frame} {meth : Method} {c : Code} {D : va_G} {dA : Nat → ClassId} {b0 : Nat} {h : zH} (X : zX p s m args c cX3_firstTooNear 3 RX3 wsX3_firstTooNear D dA) (hr : meth.sig.returnType = (some .int)) (hlk : meth.locks = false) {z : Int32} (k2 : Nat → Int32 → Option (Int32)) (hk2 : ∀ (r0 : Nat) (a1 : Int32) (H : Heap) (locs : List Loc) (ls : Array Slot), k2 r0 a1 = some z → zG D dA b0 s.heap h H locs → lv_has ls 3 [(0, .ref (b0 + r0)), (1, .int a1)] → W p l e rmX3_firstTooNear s m args below meth c H locs 0 0 (MQ below (zQ D dA b0 (some (.int z)) h) args s 0 0 (zA b0)) (F0 m 2 ls [])) : ∀ (n : Nat), ∀ (r0 : Nat) (a1 : Int32) (a2 : Int32) (H : Heap) (locs : List Loc) (ls : Array Slot), f_X3_firstTooNear_b14 h k2 n r0 a1 a2 = some z → zG D dA b0 s.heap h H locs → lv_has ls 3 [(0, .ref (b0 + r0)), (1, .int a1), (2, .int a2)] → W p l e rmX3_firstTooNear s m args below meth c H locs 0 0 (MQ below (zQ D dA b0 (some (.int z)) h) args s 0 0 (zA b0)) (F0 m 14 ls []) := by
  intro n
  induction n with
  | zero =>
    intro r0 a1 a2 H locs ls hf
    cases hf
  | succ n ih =>
    intro r0 a1 a2 H locs ls hf G hl
    rw [f_X3_firstTooNear_b14] at hf
    refine lv_iload_n X.1.1 X.1.2.1 dX3_firstTooNear_14 rfl (lv_at hl 2 rfl) ?_
    refine lv_aload_n X.1.1 X.1.2.1 dX3_firstTooNear_15 rfl (lv_at hl 0 rfl) ?_
    refine zgetI (ci := 3) (k := 1) (C := RX3) (T := TX3) (N := 12) X G rfl inX3_firstTooNear_X3 (Nat.le_of_ble_eq_true rfl) flX3_firstTooNear_15 dX3_firstTooNear_16 hf (fun v1 hf => ?_)
    refine zic_ge (tgt := 44) X dX3_firstTooNear_19 (by decide) hf (fun hf => ?_) (fun hf => ?_)
    · refine lv_iinc (v := (a1 + (1 : Int32))) (lv' := [(1, .int (a1 + (1 : Int32))), (0, .ref (b0 + r0)), (2, .int a2)]) X.1.1 X.1.2.1 dX3_firstTooNear_44 hl (k := 1) rfl rfl (by decide) rfl (fun ls hl => ?_)
      refine lv_goto (tgt := 2) X.1.1 X.1.2.1 dX3_firstTooNear_47 (by decide) ?_
      exact hk2 _ _ _ _ _ hf G (lv_sub hl [1, 0] rfl)
    · refine lv_aload_n X.1.1 X.1.2.1 dX3_firstTooNear_22 rfl (lv_at hl 0 rfl) ?_
      refine lv_iload_n X.1.1 X.1.2.1 dX3_firstTooNear_23 rfl (lv_at hl 1 rfl) ?_
      refine lv_iload_n X.1.1 X.1.2.1 dX3_firstTooNear_24 rfl (lv_at hl 2 rfl) ?_
      obtain ⟨hk, hf⟩ := zck hf
      obtain ⟨q2, eq2, hf⟩ := Option.bind_eq_some_iff.mp hf
      refine zcV0 (As := [.int a1, .int a2]) (rest := []) (v := (some (.int q2))) (h' := h) X G (rfl : vwCl[3]? = some (RX3, TX3, 12)) hk (m_X3_areTooNear l D dA b0 r0 a1 a2 h q2 eq2) (cwV 2 X.1.2.2.2.2 gX3_firstTooNear_X3_areTooNear rfl rfl rfl hdV_X3_areTooNear ⟨(Nat.le_of_ble_eq_true rfl), (Nat.le_of_ble_eq_true rfl)⟩) rfl hl.1 rfl (Nat.le_of_ble_eq_true rfl) dX3_firstTooNear_25 ⟨Nat.zero_le _, Nat.zero_le _⟩ (fun H locs G => ?_)
      refine zif_eq (tgt := 38) X dX3_firstTooNear_28 (by decide) hf (fun hf => ?_) (fun hf => ?_)
      · refine lv_iinc (v := (a2 + (1 : Int32))) (lv' := [(2, .int (a2 + (1 : Int32))), (0, .ref (b0 + r0)), (1, .int a1)]) X.1.1 X.1.2.1 dX3_firstTooNear_38 hl (k := 2) rfl rfl (by decide) rfl (fun ls hl => ?_)
        refine lv_goto (tgt := 14) X.1.1 X.1.2.1 dX3_firstTooNear_41 (by decide) ?_
        exact ih _ _ _ _ _ _ hf G (lv_sub hl [1, 2, 0] rfl)
      · refine lv_bipush (v := 10) X.1.1 X.1.2.1 dX3_firstTooNear_31 (by decide) ?_
        refine lv_iload_n X.1.1 X.1.2.1 dX3_firstTooNear_33 rfl (lv_at hl 1 rfl) ?_
        refine lv_imul X.1.1 X.1.2.1 dX3_firstTooNear_34 ?_
        refine lv_iload_n X.1.1 X.1.2.1 dX3_firstTooNear_35 rfl (lv_at hl 2 rfl) ?_
        refine lv_iadd X.1.1 X.1.2.1 dX3_firstTooNear_36 ?_
        exact zretIr X hr hlk G hf dX3_firstTooNear_37
set_option maxHeartbeats 4000000 in
set_option maxRecDepth 100000 in
theorem w_X3_firstTooNear_b2 {p : Program} {l : Launch} {e : Env} {s : State} {m : MethodId} {args : Array Value} {below : List Frame} {meth : Method} {c : Code} {D : va_G} {dA : Nat → ClassId} {b0 : Nat} {h : zH} (X : zX p s m args c cX3_firstTooNear 3 RX3 wsX3_firstTooNear D dA) (hr : meth.sig.returnType = (some .int)) (hlk : meth.locks = false) {z : Int32} : ∀ (n : Nat), ∀ (r0 : Nat) (a1 : Int32) (H : Heap) (locs : List Loc) (ls : Array Slot), f_X3_firstTooNear_b2 h n r0 a1 = some z → zG D dA b0 s.heap h H locs → lv_has ls 3 [(0, .ref (b0 + r0)), (1, .int a1)] → W p l e rmX3_firstTooNear s m args below meth c H locs 0 0 (MQ below (zQ D dA b0 (some (.int z)) h) args s 0 0 (zA b0)) (F0 m 2 ls []) := by
  intro n
  induction n with
  | zero =>
    intro r0 a1 H locs ls hf
    cases hf
  | succ n ih =>
    intro r0 a1 H locs ls hf G hl
    rw [f_X3_firstTooNear_b2] at hf
    refine lv_iload_n X.1.1 X.1.2.1 dX3_firstTooNear_2 rfl (lv_at hl 1 rfl) ?_
    refine lv_aload_n X.1.1 X.1.2.1 dX3_firstTooNear_3 rfl (lv_at hl 0 rfl) ?_
    refine zgetI (ci := 3) (k := 1) (C := RX3) (T := TX3) (N := 12) X G rfl inX3_firstTooNear_X3 (Nat.le_of_ble_eq_true rfl) flX3_firstTooNear_15 dX3_firstTooNear_4 hf (fun v1 hf => ?_)
    refine zic_ge (tgt := 50) X dX3_firstTooNear_7 (by decide) hf (fun hf => ?_) (fun hf => ?_)
    · refine lv_ldc (v := -1000000) X.1.1 X.1.2.1 X.1.2.2.2.1 (X.1.2.2.2.2 _ coX3_firstTooNear_64) dX3_firstTooNear_50 ?_
      exact zretIr X hr hlk G hf dX3_firstTooNear_52
    · refine lv_iload_n X.1.1 X.1.2.1 dX3_firstTooNear_10 rfl (lv_at hl 1 rfl) ?_
      refine lv_iconst (v := 1) X.1.1 X.1.2.1 dX3_firstTooNear_11 (by decide) ?_
      refine lv_iadd X.1.1 X.1.2.1 dX3_firstTooNear_12 ?_
      refine zleti hf (fun x2 hf => ?_)
      refine lv_istore_n (lv' := [(2, .int x2), (0, .ref (b0 + r0)), (1, .int a1)]) X.1.1 X.1.2.1 dX3_firstTooNear_13 rfl hl (by decide) rfl (fun ls hl => ?_)
      exact w_X3_firstTooNear_b14 X hr hlk _ ih _ _ _ _ _ _ _ hf G (lv_sub hl [1, 2, 0] rfl)
set_option maxHeartbeats 4000000 in
set_option maxRecDepth 100000 in
theorem m_X3_firstTooNear (l : Launch) (D : va_G) (dA : Nat → ClassId) (b0 : Nat) (r0 : Nat) (h : zH) (z : Int32) (hf : f_X3_firstTooNear r0 h = some z) : Met l yX3_firstTooNear wsX3_firstTooNear rmX3_firstTooNear (zPc D dA b0 [.ref (b0 + r0)] h) (zQ D dA b0 (some (.int z)) h) 0 0 (zA b0) := by
  refine Met.ofW (cc := cX3_firstTooNear) (maxL := 3) (ret := (some .int)) (by decide) rfl ?_
  intro p e s m args below meth c s₁ B hml hv
  obtain ⟨rfl, hP, hz, hK, hN⟩ := hv
  have hr := B.returns
  have hlk := B.notSynchronized
  have X : zX p s m _ c cX3_firstTooNear 3 RX3 wsX3_firstTooNear D dA := ⟨⟨B.exec, B.bytes, hml, findClass_of_methodNamed B.named, atoms_spec (ws := wsX3_firstTooNear) B.pre⟩, hK, hN⟩
  have G : zG D dA b0 s.heap h s.heap [] := ⟨hP, hz, va_S.rf⟩
  have hl := lv_entry ([.ref (b0 + r0)]) (n := 3) (Nat.le_of_ble_eq_true rfl)
  rw [lg_entry_eq]
  generalize (lg_sl ([.ref (b0 + r0)]) ++ List.replicate (3 - (lg_sl ([.ref (b0 + r0)])).length) Slot.unset).toArray = ls at hl ⊢
  have hl : lv_has ls 3 [(0, .ref (b0 + r0))] := hl
  unfold f_X3_firstTooNear at hf
  refine lv_iconst (v := 0) X.1.1 X.1.2.1 dX3_firstTooNear_0 (by decide) ?_
  refine lv_istore_n (lv' := [(1, .int (0 : Int32)), (0, .ref (b0 + r0))]) X.1.1 X.1.2.1 dX3_firstTooNear_1 rfl hl (by decide) rfl (fun ls hl => ?_)
  exact w_X3_firstTooNear_b2 X hr hlk _ _ _ _ _ _ hf G (lv_sub hl [1, 0] rfl)
/-! X2_holds -/
abbrev rmX2_holds : Room := { frames := 3, cells := 0, slots := 0, locals := 84 }
theorem hdV_X2_holds : yX2_holds.cls = RX2 ∧ yX2_holds.cls ≠ "java/lang/invoke/MethodHandle" ∧ yX2_holds.cls ≠ "java/lang/invoke/VarHandle" ∧ (parseMethodDescriptor yX2_holds.desc).map (fun d => d.parameters.length) = some 1 := by decide +kernel
theorem inX2_holds_X2 : ∀ w ∈ wsX20, w ∈ wsX2_holds := by decide +kernel
theorem flX2_holds_12 : Cond.fieldLink RX2 12 (TX2 0).1 (TX2 0).2.1 (TX2 0).2.2.1 ∈ wsX2_holds := by decide +kernel
theorem coX2_holds_29 : Cond.constant RX2 29 (-1000000) ∈ wsX2_holds := by decide +kernel
theorem flX2_holds_18 : Cond.fieldLink RX2 18 (TX2 1).1 (TX2 1).2.1 (TX2 1).2.2.1 ∈ wsX2_holds := by decide +kernel
theorem inX2_holds_X3 : ∀ w ∈ wsX30, w ∈ wsX2_holds := by decide +kernel
theorem flX2_holds_45 : Cond.fieldLink RX2 45 (TX3 1).1 (TX3 1).2.1 (TX3 1).2.2.1 ∈ wsX2_holds := by decide +kernel
theorem flX2_holds_69 : Cond.fieldLink RX2 69 (TX3 8).1 (TX3 8).2.1 (TX3 8).2.2.1 ∈ wsX2_holds := by decide +kernel
theorem flX2_holds_25 : Cond.fieldLink RX2 25 (TX2 3).1 (TX2 3).2.1 (TX2 3).2.2.1 ∈ wsX2_holds := by decide +kernel
set_option maxHeartbeats 4000000 in
set_option maxRecDepth 100000 in
theorem w_X2_holds_b69 {p : Program} {l : Launch} {e : Env} {s : State} {m : MethodId} {args : Array Value} {below : List Frame} {meth : Method} {c : Code} {D : va_G} {dA : Nat → ClassId} {b0 : Nat} (X : zX p s m args c cX2_holds 4 RX2 wsX2_holds D dA) (hr : meth.sig.returnType = (some .boolean)) (hlk : meth.locks = false) {z : Int32 × zH} : ∀ (n : Nat), ∀ (r0 : Nat) (a1 : Int32) (a2 : Int32) (a3 : Int32) (h : zH) (H : Heap) (locs : List Loc) (ls : Array Slot), f_X2_holds_b69 n r0 a1 a2 a3 h = some z → zG D dA b0 s.heap h H locs → lv_has ls 4 [(0, .ref (b0 + r0)), (1, .int a1), (2, .int a2), (3, .int a3)] → W p l e rmX2_holds s m args below meth c H locs 0 0 (MQ below (zQ D dA b0 (some (.int z.1)) z.2) args s 0 0 (zA b0)) (F0 m 69 ls []) := by
  intro n
  induction n with
  | zero =>
    intro r0 a1 a2 a3 h H locs ls hf
    cases hf
  | succ n ih =>
    intro r0 a1 a2 a3 h H locs ls hf G hl
    rw [f_X2_holds_b69] at hf
    refine lv_iload_n X.1.1 X.1.2.1 dX2_holds_69 rfl (lv_at hl 3 rfl) ?_
    refine lv_iload_n X.1.1 X.1.2.1 dX2_holds_70 rfl (lv_at hl 1 rfl) ?_
    refine zic_ge (tgt := 115) X dX2_holds_71 (by decide) hf (fun hf => ?_) (fun hf => ?_)
    · refine lv_iconst (v := 1) X.1.1 X.1.2.1 dX2_holds_115 (by decide) ?_
      exact zretZ X hr hlk G hf dX2_holds_116
    · refine lv_aload_n X.1.1 X.1.2.1 dX2_holds_74 rfl (lv_at hl 0 rfl) ?_
      refine zgetR (ci := 2) (k := 0) (C := RX2) (T := TX2) (N := 5) X G rfl inX2_holds_X2 (Nat.le_of_ble_eq_true rfl) flX2_holds_12 dX2_holds_75 hf (fun v1 hf => ?_)
      obtain ⟨hk, hf⟩ := zck hf
      obtain ⟨q2, eq2, hf⟩ := Option.bind_eq_some_iff.mp hf
      refine zcV0 (As := []) (rest := []) (v := (some (.int q2.1))) (h' := q2.2) X G (rfl : vwCl[3]? = some (RX3, TX3, 12)) hk (m_X3_passYear l D dA b0 v1 h q2 eq2) (cwV 0 X.1.2.2.2.2 gX2_holds_X3_passYear rfl rfl rfl hdV_X3_passYear ⟨(Nat.le_of_ble_eq_true rfl), (Nat.le_of_ble_eq_true rfl)⟩) rfl hl.1 rfl (Nat.le_of_ble_eq_true rfl) dX2_holds_78 ⟨Nat.zero_le _, Nat.zero_le _⟩ (fun H locs G => ?_)
      refine zif_eq (tgt := 109) X dX2_holds_81 (by decide) hf (fun hf => ?_) (fun hf => ?_)
      · refine lv_iinc (v := (a3 + (1 : Int32))) (lv' := [(3, .int (a3 + (1 : Int32))), (0, .ref (b0 + r0)), (1, .int a1), (2, .int a2)]) X.1.1 X.1.2.1 dX2_holds_109 hl (k := 3) rfl rfl (by decide) rfl (fun ls hl => ?_)
        refine lv_goto (tgt := 69) X.1.1 X.1.2.1 dX2_holds_112 (by decide) ?_
        exact ih _ _ _ _ _ _ _ _ hf G (lv_sub hl [1, 2, 3, 0] rfl)
      · refine lv_aload_n X.1.1 X.1.2.1 dX2_holds_84 rfl (lv_at hl 0 rfl) ?_
        refine zgetR (ci := 2) (k := 0) (C := RX2) (T := TX2) (N := 5) X G rfl inX2_holds_X2 (Nat.le_of_ble_eq_true rfl) flX2_holds_12 dX2_holds_85 hf (fun v3 hf => ?_)
        obtain ⟨hk, hf⟩ := zck hf
        obtain ⟨q4, eq4, hf⟩ := Option.bind_eq_some_iff.mp hf
        refine zcV0 (As := []) (rest := []) (v := (some (.int q4))) (h' := q2.2) X G (rfl : vwCl[3]? = some (RX3, TX3, 12)) hk (m_X3_allUp l D dA b0 v3 q2.2 q4 eq4) (cwV 0 X.1.2.2.2.2 gX2_holds_X3_allUp rfl rfl rfl hdV_X3_allUp ⟨(Nat.le_of_ble_eq_true rfl), (Nat.le_of_ble_eq_true rfl)⟩) rfl hl.1 rfl (Nat.le_of_ble_eq_true rfl) dX2_holds_88 ⟨Nat.zero_le _, Nat.zero_le _⟩ (fun H locs G => ?_)
        refine lv_iload_n X.1.1 X.1.2.1 dX2_holds_91 rfl (lv_at hl 2 rfl) ?_
        refine zic_ne (tgt := 107) X dX2_holds_92 (by decide) hf (fun hf => ?_) (fun hf => ?_)
        · refine lv_iconst (v := 0) X.1.1 X.1.2.1 dX2_holds_107 (by decide) ?_
          exact zretZ X hr hlk G hf dX2_holds_108
        · refine lv_aload_n X.1.1 X.1.2.1 dX2_holds_95 rfl (lv_at hl 0 rfl) ?_
          refine zgetR (ci := 2) (k := 0) (C := RX2) (T := TX2) (N := 5) X G rfl inX2_holds_X2 (Nat.le_of_ble_eq_true rfl) flX2_holds_12 dX2_holds_96 hf (fun v5 hf => ?_)
          obtain ⟨hk, hf⟩ := zck hf
          obtain ⟨q6, eq6, hf⟩ := Option.bind_eq_some_iff.mp hf
          refine zcV0 (As := []) (rest := []) (v := (some (.int q6))) (h' := q2.2) X G (rfl : vwCl[3]? = some (RX3, TX3, 12)) hk (m_X3_firstTooNear l D dA b0 v5 q2.2 q6 eq6) (cwV 0 X.1.2.2.2.2 gX2_holds_X3_firstTooNear rfl rfl rfl hdV_X3_firstTooNear ⟨(Nat.le_of_ble_eq_true rfl), (Nat.le_of_ble_eq_true rfl)⟩) rfl hl.1 rfl (Nat.le_of_ble_eq_true rfl) dX2_holds_99 ⟨Nat.zero_le _, Nat.zero_le _⟩ (fun H locs G => ?_)
          refine lv_ldc (v := -1000000) X.1.1 X.1.2.1 X.1.2.2.2.1 (X.1.2.2.2.2 _ coX2_holds_29) dX2_holds_102 ?_
          refine zic_eq (tgt := 109) X dX2_holds_104 (by decide) hf (fun hf => ?_) (fun hf => ?_)
          · refine lv_iinc (v := (a3 + (1 : Int32))) (lv' := [(3, .int (a3 + (1 : Int32))), (0, .ref (b0 + r0)), (1, .int a1), (2, .int a2)]) X.1.1 X.1.2.1 dX2_holds_109 hl (k := 3) rfl rfl (by decide) rfl (fun ls hl => ?_)
            refine lv_goto (tgt := 69) X.1.1 X.1.2.1 dX2_holds_112 (by decide) ?_
            exact ih _ _ _ _ _ _ _ _ hf G (lv_sub hl [1, 2, 3, 0] rfl)
          · refine lv_iconst (v := 0) X.1.1 X.1.2.1 dX2_holds_107 (by decide) ?_
            exact zretZ X hr hlk G hf dX2_holds_108
set_option maxHeartbeats 4000000 in
set_option maxRecDepth 100000 in
theorem w_X2_holds_b21 {p : Program} {l : Launch} {e : Env} {s : State} {m : MethodId} {args : Array Value} {below : List Frame} {meth : Method} {c : Code} {D : va_G} {dA : Nat → ClassId} {b0 : Nat} (X : zX p s m args c cX2_holds 4 RX2 wsX2_holds D dA) (hr : meth.sig.returnType = (some .boolean)) (hlk : meth.locks = false) {z : Int32 × zH} : ∀ (n : Nat), ∀ (r0 : Nat) (a1 : Int32) (a2 : Int32) (a3 : Int32) (h : zH) (H : Heap) (locs : List Loc) (ls : Array Slot), f_X2_holds_b21 n r0 a1 a2 a3 h = some z → zG D dA b0 s.heap h H locs → lv_has ls 4 [(0, .ref (b0 + r0)), (1, .int a1), (2, .int a2), (3, .int a3)] → W p l e rmX2_holds s m args below meth c H locs 0 0 (MQ below (zQ D dA b0 (some (.int z.1)) z.2) args s 0 0 (zA b0)) (F0 m 21 ls []) := by
  intro n
  induction n with
  | zero =>
    intro r0 a1 a2 a3 h H locs ls hf
    cases hf
  | succ n ih =>
    intro r0 a1 a2 a3 h H locs ls hf G hl
    rw [f_X2_holds_b21] at hf
    refine lv_iload_n X.1.1 X.1.2.1 dX2_holds_21 rfl (lv_at hl 3 rfl) ?_
    refine lv_aload_n X.1.1 X.1.2.1 dX2_holds_22 rfl (lv_at hl 0 rfl) ?_
    refine zgetR (ci := 2) (k := 1) (C := RX2) (T := TX2) (N := 5) X G rfl inX2_holds_X2 (Nat.le_of_ble_eq_true rfl) flX2_holds_18 dX2_holds_23 hf (fun v1 hf => ?_)
    refine zgetI (ci := 3) (k := 1) (C := RX3) (T := TX3) (N := 12) X G rfl inX2_holds_X3 (Nat.le_of_ble_eq_true rfl) flX2_holds_45 dX2_holds_26 hf (fun v2 hf => ?_)
    refine zic_ge (tgt := 53) X dX2_holds_29 (by decide) hf (fun hf => ?_) (fun hf => ?_)
    · refine lv_aload_n X.1.1 X.1.2.1 dX2_holds_53 rfl (lv_at hl 0 rfl) ?_
      refine zgetR (ci := 2) (k := 0) (C := RX2) (T := TX2) (N := 5) X G rfl inX2_holds_X2 (Nat.le_of_ble_eq_true rfl) flX2_holds_12 dX2_holds_54 hf (fun v3 hf => ?_)
      obtain ⟨hk, hf⟩ := zck hf
      obtain ⟨q4, eq4, hf⟩ := Option.bind_eq_some_iff.mp hf
      refine zcV0 (As := []) (rest := []) (v := (some (.int q4))) (h' := h) X G (rfl : vwCl[3]? = some (RX3, TX3, 12)) hk (m_X3_firstTooNear l D dA b0 v3 h q4 eq4) (cwV 0 X.1.2.2.2.2 gX2_holds_X3_firstTooNear rfl rfl rfl hdV_X3_firstTooNear ⟨(Nat.le_of_ble_eq_true rfl), (Nat.le_of_ble_eq_true rfl)⟩) rfl hl.1 rfl (Nat.le_of_ble_eq_true rfl) dX2_holds_57 ⟨Nat.zero_le _, Nat.zero_le _⟩ (fun H locs G => ?_)
      refine lv_ldc (v := -1000000) X.1.1 X.1.2.1 X.1.2.2.2.1 (X.1.2.2.2.2 _ coX2_holds_29) dX2_holds_60 ?_
      refine zic_eq (tgt := 67) X dX2_holds_62 (by decide) hf (fun hf => ?_) (fun hf => ?_)
      · refine lv_iconst (v := 0) X.1.1 X.1.2.1 dX2_holds_67 (by decide) ?_
        refine lv_istore_n (lv' := [(3, .int (0 : Int32)), (0, .ref (b0 + r0)), (1, .int a1), (2, .int a2)]) X.1.1 X.1.2.1 dX2_holds_68 rfl hl (by decide) rfl (fun ls hl => ?_)
        exact w_X2_holds_b69 X hr hlk _ _ _ _ _ _ _ _ _ hf G (lv_sub hl [1, 2, 3, 0] rfl)
      · refine lv_iconst (v := 0) X.1.1 X.1.2.1 dX2_holds_65 (by decide) ?_
        exact zretZ X hr hlk G hf dX2_holds_66
    · refine lv_aload_n X.1.1 X.1.2.1 dX2_holds_32 rfl (lv_at hl 0 rfl) ?_
      refine zgetR (ci := 2) (k := 0) (C := RX2) (T := TX2) (N := 5) X G rfl inX2_holds_X2 (Nat.le_of_ble_eq_true rfl) flX2_holds_12 dX2_holds_33 hf (fun v5 hf => ?_)
      refine zgetR (ci := 3) (k := 8) (C := RX3) (T := TX3) (N := 12) X G rfl inX2_holds_X3 (Nat.le_of_ble_eq_true rfl) flX2_holds_69 dX2_holds_36 hf (fun v6 hf => ?_)
      refine lv_iload_n X.1.1 X.1.2.1 dX2_holds_39 rfl (lv_at hl 3 rfl) ?_
      refine lv_aload_n X.1.1 X.1.2.1 dX2_holds_40 rfl (lv_at hl 0 rfl) ?_
      refine zgetR (ci := 2) (k := 3) (C := RX2) (T := TX2) (N := 5) X G rfl inX2_holds_X2 (Nat.le_of_ble_eq_true rfl) flX2_holds_25 dX2_holds_41 hf (fun v7 hf => ?_)
      refine lv_iload_n X.1.1 X.1.2.1 dX2_holds_44 rfl (lv_at hl 3 rfl) ?_
      refine ziald X G dX2_holds_45 hf (fun v8 hf => ?_)
      refine ziast X G dX2_holds_46 hf (fun h9 H locs hf G => ?_)
      refine lv_iinc (v := (a3 + (1 : Int32))) (lv' := [(3, .int (a3 + (1 : Int32))), (0, .ref (b0 + r0)), (1, .int a1), (2, .int a2)]) X.1.1 X.1.2.1 dX2_holds_47 hl (k := 3) rfl rfl (by decide) rfl (fun ls hl => ?_)
      refine lv_goto (tgt := 21) X.1.1 X.1.2.1 dX2_holds_50 (by decide) ?_
      exact ih _ _ _ _ _ _ _ _ hf G (lv_sub hl [1, 2, 3, 0] rfl)
set_option maxHeartbeats 4000000 in
set_option maxRecDepth 100000 in
theorem m_X2_holds (l : Launch) (D : va_G) (dA : Nat → ClassId) (b0 : Nat) (r0 : Nat) (a1 : Int32) (h : zH) (z : Int32 × zH) (hf : f_X2_holds r0 a1 h = some z) : Met l yX2_holds wsX2_holds rmX2_holds (zPc D dA b0 [.ref (b0 + r0), .int a1] h) (zQ D dA b0 (some (.int z.1)) z.2) 0 0 (zA b0) := by
  refine Met.ofW (cc := cX2_holds) (maxL := 4) (ret := (some .boolean)) (by decide) rfl ?_
  intro p e s m args below meth c s₁ B hml hv
  obtain ⟨rfl, hP, hz, hK, hN⟩ := hv
  have hr := B.returns
  have hlk := B.notSynchronized
  have X : zX p s m _ c cX2_holds 4 RX2 wsX2_holds D dA := ⟨⟨B.exec, B.bytes, hml, findClass_of_methodNamed B.named, atoms_spec (ws := wsX2_holds) B.pre⟩, hK, hN⟩
  have G : zG D dA b0 s.heap h s.heap [] := ⟨hP, hz, va_S.rf⟩
  have hl := lv_entry ([.ref (b0 + r0), .int a1]) (n := 4) (Nat.le_of_ble_eq_true rfl)
  rw [lg_entry_eq]
  generalize (lg_sl ([.ref (b0 + r0), .int a1]) ++ List.replicate (4 - (lg_sl ([.ref (b0 + r0), .int a1])).length) Slot.unset).toArray = ls at hl ⊢
  have hl : lv_has ls 4 [(0, .ref (b0 + r0)), (1, .int a1)] := hl
  unfold f_X2_holds at hf
  refine lv_aload_n X.1.1 X.1.2.1 dX2_holds_0 rfl (lv_at hl 0 rfl) ?_
  refine zgetR (ci := 2) (k := 1) (C := RX2) (T := TX2) (N := 5) X G rfl inX2_holds_X2 (Nat.le_of_ble_eq_true rfl) flX2_holds_18 dX2_holds_1 hf (fun v1 hf => ?_)
  obtain ⟨hk, hf⟩ := zck hf
  obtain ⟨q2, eq2, hf⟩ := Option.bind_eq_some_iff.mp hf
  refine zcV0 (As := []) (rest := []) (v := (some (.int q2))) (h' := h) X G (rfl : vwCl[3]? = some (RX3, TX3, 12)) hk (m_X3_allUp l D dA b0 v1 h q2 eq2) (cwV 0 X.1.2.2.2.2 gX2_holds_X3_allUp rfl rfl rfl hdV_X3_allUp ⟨(Nat.le_of_ble_eq_true rfl), (Nat.le_of_ble_eq_true rfl)⟩) rfl hl.1 rfl (Nat.le_of_ble_eq_true rfl) dX2_holds_4 ⟨Nat.zero_le _, Nat.zero_le _⟩ (fun H locs G => ?_)
  refine lv_istore_n (lv' := [(2, .int q2), (0, .ref (b0 + r0)), (1, .int a1)]) X.1.1 X.1.2.1 dX2_holds_7 rfl hl (by decide) rfl (fun ls hl => ?_)
  refine lv_aload_n X.1.1 X.1.2.1 dX2_holds_8 rfl (lv_at hl 1 rfl) ?_
  refine zgetR (ci := 2) (k := 0) (C := RX2) (T := TX2) (N := 5) X G rfl inX2_holds_X2 (Nat.le_of_ble_eq_true rfl) flX2_holds_12 dX2_holds_9 hf (fun v3 hf => ?_)
  refine lv_aload_n X.1.1 X.1.2.1 dX2_holds_12 rfl (lv_at hl 1 rfl) ?_
  refine zgetR (ci := 2) (k := 1) (C := RX2) (T := TX2) (N := 5) X G rfl inX2_holds_X2 (Nat.le_of_ble_eq_true rfl) flX2_holds_18 dX2_holds_13 hf (fun v4 hf => ?_)
  obtain ⟨hk, hf⟩ := zck hf
  obtain ⟨q5, eq5, hf⟩ := Option.bind_eq_some_iff.mp hf
  refine zcV0 (As := [.ref (b0 + v4)]) (rest := []) (v := none) (h' := q5) X G (rfl : vwCl[3]? = some (RX3, TX3, 12)) hk (m_X3_become l D dA b0 v3 v4 h q5 eq5) (cwV 1 X.1.2.2.2.2 gX2_holds_X3_become rfl rfl rfl hdV_X3_become ⟨(Nat.le_of_ble_eq_true rfl), (Nat.le_of_ble_eq_true rfl)⟩) rfl hl.1 rfl (Nat.le_of_ble_eq_true rfl) dX2_holds_16 ⟨Nat.zero_le _, Nat.zero_le _⟩ (fun H locs G => ?_)
  refine lv_iconst (v := 0) X.1.1 X.1.2.1 dX2_holds_19 (by decide) ?_
  refine lv_istore_n (lv' := [(3, .int (0 : Int32)), (2, .int q2), (0, .ref (b0 + r0)), (1, .int a1)]) X.1.1 X.1.2.1 dX2_holds_20 rfl hl (by decide) rfl (fun ls hl => ?_)
  exact w_X2_holds_b21 X hr hlk _ _ _ _ _ _ _ _ _ hf G (lv_sub hl [2, 3, 1, 0] rfl)
