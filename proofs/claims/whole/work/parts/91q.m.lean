/-! X8_as -/
abbrev rmX8_as : Room := { frames := 2, cells := 0, slots := 0, locals := 46 }
theorem hdV_X8_as : yX8_as.cls = RX8 ∧ yX8_as.cls ≠ "java/lang/invoke/MethodHandle" ∧ yX8_as.cls ≠ "java/lang/invoke/VarHandle" ∧ (parseMethodDescriptor yX8_as.desc).map (fun d => d.parameters.length) = some 2 := by decide +kernel
theorem coX8_as_70 : Cond.constant RX8 70 (-1000001) ∈ wsX8_as := by decide +kernel
theorem clX8_as_229 : Cond.constantLong RX8 229 (5) ∈ wsX8_as := by decide +kernel
theorem inX8_as_X8 : ∀ w ∈ wsX80, w ∈ wsX8_as := by decide +kernel
theorem flX8_as_19 : Cond.fieldLink RX8 19 (TX8 4).1 (TX8 4).2.1 (TX8 4).2.2.1 ∈ wsX8_as := by decide +kernel
set_option maxHeartbeats 4000000 in
set_option maxRecDepth 100000 in
theorem m_X8_as (l : Launch) (D : va_G) (dA : Nat → ClassId) (b0 : Nat) (r0 : Nat) (a1 : Int32) (a2 : Int32) (h : zH) (z : Int32 × zH) (hf : f_X8_as r0 a1 a2 h = some z) : Met l yX8_as wsX8_as rmX8_as (zPc D dA b0 [.ref (b0 + r0), .int a1, .int a2] h) (zQ D dA b0 (some (.int z.1)) z.2) 0 0 (zA b0) := by
  refine Met.ofW (cc := cX8_as) (maxL := 3) (ret := (some .int)) (by decide) rfl ?_
  intro p e s m args below meth c s₁ B hml hv
  obtain ⟨rfl, hP, hz, hK, hN⟩ := hv
  have hr := B.returns
  have hlk := B.notSynchronized
  have X : zX p s m _ c cX8_as 3 RX8 wsX8_as D dA := ⟨⟨B.exec, B.bytes, hml, findClass_of_methodNamed B.named, atoms_spec (ws := wsX8_as) B.pre⟩, hK, hN⟩
  have G : zG D dA b0 s.heap h s.heap [] := ⟨hP, hz, va_S.rf⟩
  have hl := lv_entry ([.ref (b0 + r0), .int a1, .int a2]) (n := 3) (Nat.le_of_ble_eq_true rfl)
  rw [lg_entry_eq]
  generalize (lg_sl ([.ref (b0 + r0), .int a1, .int a2]) ++ List.replicate (3 - (lg_sl ([.ref (b0 + r0), .int a1, .int a2])).length) Slot.unset).toArray = ls at hl ⊢
  have hl : lv_has ls 3 [(0, .ref (b0 + r0)), (1, .int a1), (2, .int a2)] := hl
  unfold f_X8_as at hf
  refine lv_aload_n X.1.1 X.1.2.1 dX8_as_0 rfl (lv_at hl 0 rfl) ?_
  refine lv_iload_n X.1.1 X.1.2.1 dX8_as_1 rfl (lv_at hl 1 rfl) ?_
  obtain ⟨hk, hf⟩ := zck hf
  obtain ⟨q1, eq1, hf⟩ := Option.bind_eq_some_iff.mp hf
  refine zcV0 (As := [.int a1]) (rest := []) (v := (some (.int q1))) (h' := h) X G (rfl : vwCl[8]? = some (RX8, TX8, 24)) hk (m_X8_isThing l D dA b0 r0 a1 h q1 eq1) (cwV 1 X.1.2.2.2.2 gX8_as_X8_isThing rfl rfl rfl hdV_X8_isThing ⟨(Nat.le_of_ble_eq_true rfl), (Nat.le_of_ble_eq_true rfl)⟩) rfl hl.1 rfl (Nat.le_of_ble_eq_true rfl) dX8_as_2 ⟨Nat.zero_le _, Nat.zero_le _⟩ (fun H locs G => ?_)
  refine zif_eq (tgt := 20) X dX8_as_5 (by decide) hf (fun hf => ?_) (fun hf => ?_)
  · refine lv_ldc (v := -1000001) X.1.1 X.1.2.1 X.1.2.2.2.1 (X.1.2.2.2.2 _ coX8_as_70) dX8_as_20 ?_
    exact zretI X hr hlk G hf dX8_as_22
  · refine lv_iload_n X.1.1 X.1.2.1 dX8_as_8 rfl (lv_at hl 2 rfl) ?_
    refine lv_i2l X.1.1 X.1.2.1 dX8_as_9 rfl ?_
    refine lv_lconst (v := 0) X.1.1 X.1.2.1 dX8_as_10 (by decide) ?_
    refine lv_ldc2 (v := 5) X.1.1 X.1.2.1 X.1.2.2.2.1 (X.1.2.2.2.2 _ clX8_as_229) dX8_as_11 ?_
    obtain ⟨q2, eq2, hf⟩ := Option.bind_eq_some_iff.mp hf
    refine zcS0 (As := [.long (Int32.toInt64 a2), .long (0 : Int64), .long (5 : Int64)]) (rest := []) (v := (some (.int q2))) (h' := h) X G (m_X8_in l D dA b0 ((Int32.toInt64 a2)) (0 : Int64) (5 : Int64) h q2 eq2) (va_cwS 3 X.1.2.2.2.2 gX8_as_X8_in rfl rfl rfl hdS_X8_in ⟨(Nat.le_of_ble_eq_true rfl), (Nat.le_of_ble_eq_true rfl)⟩) rfl hl.1 rfl (Nat.le_of_ble_eq_true rfl) dX8_as_14 ⟨Nat.zero_le _, Nat.zero_le _⟩ (fun H locs G => ?_)
    refine zif_ne (tgt := 23) X dX8_as_17 (by decide) hf (fun hf => ?_) (fun hf => ?_)
    · refine lv_aload_n X.1.1 X.1.2.1 dX8_as_23 rfl (lv_at hl 0 rfl) ?_
      refine zgetR (ci := 8) (k := 4) (C := RX8) (T := TX8) (N := 24) X G rfl inX8_as_X8 (Nat.le_of_ble_eq_true rfl) flX8_as_19 dX8_as_24 hf (fun v3 hf => ?_)
      refine lv_iconst (v := 3) X.1.1 X.1.2.1 dX8_as_27 (by decide) ?_
      refine lv_iload_n X.1.1 X.1.2.1 dX8_as_28 rfl (lv_at hl 1 rfl) ?_
      refine lv_iadd X.1.1 X.1.2.1 dX8_as_29 ?_
      refine ziald X G dX8_as_30 hf (fun v4 hf => ?_)
      refine lv_iload_n X.1.1 X.1.2.1 dX8_as_31 rfl (lv_at hl 2 rfl) ?_
      obtain ⟨q5, eq5, hf⟩ := Option.bind_eq_some_iff.mp hf
      refine zcS0 (As := [.int v4, .int a2]) (rest := []) (v := (some (.int q5))) (h' := h) X G (m_X8_isOf l D dA b0 v4 a2 h q5 eq5) (va_cwS 2 X.1.2.2.2.2 gX8_as_X8_isOf rfl rfl rfl hdS_X8_isOf ⟨(Nat.le_of_ble_eq_true rfl), (Nat.le_of_ble_eq_true rfl)⟩) rfl hl.1 rfl (Nat.le_of_ble_eq_true rfl) dX8_as_32 ⟨Nat.zero_le _, Nat.zero_le _⟩ (fun H locs G => ?_)
      refine zif_eq (tgt := 46) X dX8_as_35 (by decide) hf (fun hf => ?_) (fun hf => ?_)
      · refine lv_aload_n X.1.1 X.1.2.1 dX8_as_46 rfl (lv_at hl 0 rfl) ?_
        refine lv_iconst (v := 3) X.1.1 X.1.2.1 dX8_as_47 (by decide) ?_
        obtain ⟨hk, hf⟩ := zck hf
        obtain ⟨q6, eq6, hf⟩ := Option.bind_eq_some_iff.mp hf
        refine zcV0 (As := [.int (3 : Int32)]) (rest := []) (v := (some (.int q6.1))) (h' := q6.2) X G (rfl : vwCl[8]? = some (RX8, TX8, 24)) hk (m_X8_found l D dA b0 r0 (3 : Int32) h q6 eq6) (cwV 1 X.1.2.2.2.2 gX8_as_X8_found rfl rfl rfl hdV_X8_found ⟨(Nat.le_of_ble_eq_true rfl), (Nat.le_of_ble_eq_true rfl)⟩) rfl hl.1 rfl (Nat.le_of_ble_eq_true rfl) dX8_as_48 ⟨Nat.zero_le _, Nat.zero_le _⟩ (fun H locs G => ?_)
        exact zretI X hr hlk G hf dX8_as_51
      · refine lv_aload_n X.1.1 X.1.2.1 dX8_as_38 rfl (lv_at hl 0 rfl) ?_
        refine lv_iload_n X.1.1 X.1.2.1 dX8_as_39 rfl (lv_at hl 1 rfl) ?_
        obtain ⟨hk, hf⟩ := zck hf
        obtain ⟨q7, eq7, hf⟩ := Option.bind_eq_some_iff.mp hf
        refine zcV0 (As := [.int a1]) (rest := []) (v := (some (.int q7.1))) (h' := q7.2) X G (rfl : vwCl[8]? = some (RX8, TX8, 24)) hk (m_X8_well l D dA b0 r0 a1 h q7 eq7) (cwV 1 X.1.2.2.2.2 gX8_as_X8_well rfl rfl rfl hdV_X8_well ⟨(Nat.le_of_ble_eq_true rfl), (Nat.le_of_ble_eq_true rfl)⟩) rfl hl.1 rfl (Nat.le_of_ble_eq_true rfl) dX8_as_40 ⟨Nat.zero_le _, Nat.zero_le _⟩ (fun H locs G => ?_)
        refine lv_goto (tgt := 51) X.1.1 X.1.2.1 dX8_as_43 (by decide) ?_
        exact zretI X hr hlk G hf dX8_as_51
    · refine lv_ldc (v := -1000001) X.1.1 X.1.2.1 X.1.2.2.2.1 (X.1.2.2.2.2 _ coX8_as_70) dX8_as_20 ?_
      exact zretI X hr hlk G hf dX8_as_22
/-! X8_leave -/
abbrev rmX8_leave : Room := { frames := 0, cells := 0, slots := 0, locals := 0 }
theorem hdV_X8_leave : yX8_leave.cls = RX8 ∧ yX8_leave.cls ≠ "java/lang/invoke/MethodHandle" ∧ yX8_leave.cls ≠ "java/lang/invoke/VarHandle" ∧ (parseMethodDescriptor yX8_leave.desc).map (fun d => d.parameters.length) = some 1 := by decide +kernel
theorem inX8_leave_X8 : ∀ w ∈ wsX80, w ∈ wsX8_leave := by decide +kernel
theorem flX8_leave_41 : Cond.fieldLink RX8 41 (TX8 14).1 (TX8 14).2.1 (TX8 14).2.2.1 ∈ wsX8_leave := by decide +kernel
theorem flX8_leave_236 : Cond.fieldLink RX8 236 (TX8 15).1 (TX8 15).2.1 (TX8 15).2.2.1 ∈ wsX8_leave := by decide +kernel
theorem clX8_leave_234 : Cond.constantLong RX8 234 (100) ∈ wsX8_leave := by decide +kernel
set_option maxHeartbeats 4000000 in
set_option maxRecDepth 100000 in
theorem w_X8_leave_b24 {p : Program} {l : Launch} {e : Env} {s : State} {m : MethodId} {args : Array Value} {below : List Frame} {meth : Method} {c : Code} {D : va_G} {dA : Nat → ClassId} {b0 : Nat} (X : zX p s m args c cX8_leave 7 RX8 wsX8_leave D dA) (hr : meth.sig.returnType = none) (hlk : meth.locks = false) {z : zH} : ∀ (n : Nat), ∀ (r0 : Nat) (a3 : Int64) (a5 : Int64) (h : zH) (H : Heap) (locs : List Loc) (ls : Array Slot), f_X8_leave_b24 n r0 a3 a5 h = some z → zG D dA b0 s.heap h H locs → lv_has ls 7 [(0, .ref (b0 + r0)), (3, .long a3), (5, .long a5)] → W p l e rmX8_leave s m args below meth c H locs 0 0 (MQ below (zQ D dA b0 none z) args s 0 0 (zA b0)) (F0 m 24 ls []) := by
  intro n
  induction n with
  | zero =>
    intro r0 a3 a5 h H locs ls hf
    cases hf
  | succ n ih =>
    intro r0 a3 a5 h H locs ls hf G hl
    rw [f_X8_leave_b24] at hf
    refine lv_lload_n X.1.1 X.1.2.1 dX8_leave_24 rfl (lv_at hl 1 rfl) ?_
    refine lv_lconst (v := 0) X.1.1 X.1.2.1 dX8_leave_25 (by decide) ?_
    refine W.lcmp X.1.1 X.1.2.1 dX8_leave_26 ?_
    refine zif_le (tgt := 69) X dX8_leave_27 (by decide) hf (fun hf => ?_) (fun hf => ?_)
    · exact zretV X hr hlk G hf dX8_leave_69
    · refine lv_aload_n X.1.1 X.1.2.1 dX8_leave_30 rfl (lv_at hl 0 rfl) ?_
      refine zgetR (ci := 8) (k := 14) (C := RX8) (T := TX8) (N := 24) X G rfl inX8_leave_X8 (Nat.le_of_ble_eq_true rfl) flX8_leave_41 dX8_leave_31 hf (fun v1 hf => ?_)
      refine lv_aload_n X.1.1 X.1.2.1 dX8_leave_34 rfl (lv_at hl 0 rfl) ?_
      refine zgetI (ci := 8) (k := 15) (C := RX8) (T := TX8) (N := 24) X G rfl inX8_leave_X8 (Nat.le_of_ble_eq_true rfl) flX8_leave_236 dX8_leave_35 hf (fun v2 hf => ?_)
      refine lv_lload X.1.1 X.1.2.1 dX8_leave_38 (lv_at hl 2 rfl) ?_
      refine lv_lload_n X.1.1 X.1.2.1 dX8_leave_40 rfl (lv_at hl 1 rfl) ?_
      refine zldiv X dX8_leave_41 hf (fun hf => ?_)
      refine lv_l2i X.1.1 X.1.2.1 dX8_leave_42 rfl ?_
      refine ziast X G dX8_leave_43 hf (fun h3 H locs hf G => ?_)
      refine lv_lload X.1.1 X.1.2.1 dX8_leave_44 (lv_at hl 2 rfl) ?_
      refine lv_lload_n X.1.1 X.1.2.1 dX8_leave_46 rfl (lv_at hl 1 rfl) ?_
      refine zlrem X dX8_leave_47 hf (fun hf => ?_)
      refine zletl hf (fun x4 hf => ?_)
      refine lv_lstore (lv' := [(5, .long x4), (0, .ref (b0 + r0)), (3, .long a3)]) X.1.1 X.1.2.1 dX8_leave_48 hl (by decide) rfl (fun ls hl => ?_)
      refine lv_aload_n X.1.1 X.1.2.1 dX8_leave_50 rfl (lv_at hl 1 rfl) ?_
      refine lv_dup X.1.1 X.1.2.1 dX8_leave_51 rfl ?_
      refine zgetI (ci := 8) (k := 15) (C := RX8) (T := TX8) (N := 24) X G rfl inX8_leave_X8 (Nat.le_of_ble_eq_true rfl) flX8_leave_236 dX8_leave_52 hf (fun v5 hf => ?_)
      refine lv_iconst (v := 1) X.1.1 X.1.2.1 dX8_leave_55 (by decide) ?_
      refine lv_iadd X.1.1 X.1.2.1 dX8_leave_56 ?_
      refine zputI (ci := 8) (k := 15) (C := RX8) (T := TX8) (N := 24) X G rfl inX8_leave_X8 tyX8_ok nmX8 (Nat.le_of_ble_eq_true rfl) flX8_leave_236 rfl (by decide +kernel) dX8_leave_57 hf (fun h6 H locs hf G => ?_)
      refine lv_lload_n X.1.1 X.1.2.1 dX8_leave_60 rfl (lv_at hl 2 rfl) ?_
      refine lv_ldc2 (v := 100) X.1.1 X.1.2.1 X.1.2.2.2.1 (X.1.2.2.2.2 _ clX8_leave_234) dX8_leave_61 ?_
      refine zldiv X dX8_leave_64 hf (fun hf => ?_)
      refine zletl hf (fun x7 hf => ?_)
      refine lv_lstore_n (lv' := [(3, .long x7), (5, .long x4), (0, .ref (b0 + r0))]) X.1.1 X.1.2.1 dX8_leave_65 rfl hl (by decide) rfl (fun ls hl => ?_)
      refine lv_goto (tgt := 24) X.1.1 X.1.2.1 dX8_leave_66 (by decide) ?_
      exact ih _ _ _ _ _ _ _ hf G (lv_sub hl [2, 0, 1] rfl)
set_option maxHeartbeats 4000000 in
set_option maxRecDepth 100000 in
theorem w_X8_leave_b2 {p : Program} {l : Launch} {e : Env} {s : State} {m : MethodId} {args : Array Value} {below : List Frame} {meth : Method} {c : Code} {D : va_G} {dA : Nat → ClassId} {b0 : Nat} (X : zX p s m args c cX8_leave 7 RX8 wsX8_leave D dA) (hr : meth.sig.returnType = none) (hlk : meth.locks = false) {z : zH} : ∀ (n : Nat), ∀ (r0 : Nat) (a1 : Int64) (a3 : Int64) (h : zH) (H : Heap) (locs : List Loc) (ls : Array Slot), f_X8_leave_b2 n r0 a1 a3 h = some z → zG D dA b0 s.heap h H locs → lv_has ls 7 [(0, .ref (b0 + r0)), (1, .long a1), (3, .long a3)] → W p l e rmX8_leave s m args below meth c H locs 0 0 (MQ below (zQ D dA b0 none z) args s 0 0 (zA b0)) (F0 m 2 ls []) := by
  intro n
  induction n with
  | zero =>
    intro r0 a1 a3 h H locs ls hf
    cases hf
  | succ n ih =>
    intro r0 a1 a3 h H locs ls hf G hl
    rw [f_X8_leave_b2] at hf
    refine lv_lload_n X.1.1 X.1.2.1 dX8_leave_2 rfl (lv_at hl 2 rfl) ?_
    refine lv_ldc2 (v := 100) X.1.1 X.1.2.1 X.1.2.2.2.1 (X.1.2.2.2.2 _ clX8_leave_234) dX8_leave_3 ?_
    refine lv_lmul X.1.1 X.1.2.1 dX8_leave_6 ?_
    refine lv_lload_n X.1.1 X.1.2.1 dX8_leave_7 rfl (lv_at hl 1 rfl) ?_
    refine W.lcmp X.1.1 X.1.2.1 dX8_leave_8 ?_
    refine zif_gt (tgt := 21) X dX8_leave_9 (by decide) hf (fun hf => ?_) (fun hf => ?_)
    · refine lv_lload_n X.1.1 X.1.2.1 dX8_leave_21 rfl (lv_at hl 1 rfl) ?_
      refine lv_lstore (lv' := [(5, .long a1), (0, .ref (b0 + r0)), (1, .long a1), (3, .long a3)]) X.1.1 X.1.2.1 dX8_leave_22 hl (by decide) rfl (fun ls hl => ?_)
      exact w_X8_leave_b24 X hr hlk _ _ _ _ _ _ _ _ hf G (lv_sub hl [1, 3, 0] rfl)
    · refine lv_lload_n X.1.1 X.1.2.1 dX8_leave_12 rfl (lv_at hl 2 rfl) ?_
      refine lv_ldc2 (v := 100) X.1.1 X.1.2.1 X.1.2.2.2.1 (X.1.2.2.2.2 _ clX8_leave_234) dX8_leave_13 ?_
      refine lv_lmul X.1.1 X.1.2.1 dX8_leave_16 ?_
      refine zletl hf (fun x1 hf => ?_)
      refine lv_lstore_n (lv' := [(3, .long x1), (0, .ref (b0 + r0)), (1, .long a1)]) X.1.1 X.1.2.1 dX8_leave_17 rfl hl (by decide) rfl (fun ls hl => ?_)
      refine lv_goto (tgt := 2) X.1.1 X.1.2.1 dX8_leave_18 (by decide) ?_
      exact ih _ _ _ _ _ _ _ hf G (lv_sub hl [1, 2, 0] rfl)
set_option maxHeartbeats 4000000 in
set_option maxRecDepth 100000 in
theorem m_X8_leave (l : Launch) (D : va_G) (dA : Nat → ClassId) (b0 : Nat) (r0 : Nat) (a1 : Int64) (h : zH) (z : zH) (hf : f_X8_leave r0 a1 h = some z) : Met l yX8_leave wsX8_leave rmX8_leave (zPc D dA b0 [.ref (b0 + r0), .long a1] h) (zQ D dA b0 none z) 0 0 (zA b0) := by
  refine Met.ofW (cc := cX8_leave) (maxL := 7) (ret := none) (by decide) rfl ?_
  intro p e s m args below meth c s₁ B hml hv
  obtain ⟨rfl, hP, hz, hK, hN⟩ := hv
  have hr := B.returns
  have hlk := B.notSynchronized
  have X : zX p s m _ c cX8_leave 7 RX8 wsX8_leave D dA := ⟨⟨B.exec, B.bytes, hml, findClass_of_methodNamed B.named, atoms_spec (ws := wsX8_leave) B.pre⟩, hK, hN⟩
  have G : zG D dA b0 s.heap h s.heap [] := ⟨hP, hz, va_S.rf⟩
  have hl := lv_entry ([.ref (b0 + r0), .long a1]) (n := 7) (Nat.le_of_ble_eq_true rfl)
  rw [lg_entry_eq]
  generalize (lg_sl ([.ref (b0 + r0), .long a1]) ++ List.replicate (7 - (lg_sl ([.ref (b0 + r0), .long a1])).length) Slot.unset).toArray = ls at hl ⊢
  have hl : lv_has ls 7 [(0, .ref (b0 + r0)), (1, .long a1)] := hl
  unfold f_X8_leave at hf
  refine lv_lconst (v := 1) X.1.1 X.1.2.1 dX8_leave_0 (by decide) ?_
  refine lv_lstore_n (lv' := [(3, .long (1 : Int64)), (0, .ref (b0 + r0)), (1, .long a1)]) X.1.1 X.1.2.1 dX8_leave_1 rfl hl (by decide) rfl (fun ls hl => ?_)
  exact w_X8_leave_b2 X hr hlk _ _ _ _ _ _ _ _ hf G (lv_sub hl [1, 2, 0] rfl)
/-! X8_mark -/
abbrev rmX8_mark : Room := { frames := 1, cells := 0, slots := 0, locals := 26 }
theorem hdV_X8_mark : yX8_mark.cls = RX8 ∧ yX8_mark.cls ≠ "java/lang/invoke/MethodHandle" ∧ yX8_mark.cls ≠ "java/lang/invoke/VarHandle" ∧ (parseMethodDescriptor yX8_mark.desc).map (fun d => d.parameters.length) = some 1 := by decide +kernel
theorem inX8_mark_X8 : ∀ w ∈ wsX80, w ∈ wsX8_mark := by decide +kernel
theorem flX8_mark_19 : Cond.fieldLink RX8 19 (TX8 4).1 (TX8 4).2.1 (TX8 4).2.2.1 ∈ wsX8_mark := by decide +kernel
theorem clX8_mark_243 : Cond.constantLong RX8 243 (2120) ∈ wsX8_mark := by decide +kernel
theorem clX8_mark_241 : Cond.constantLong RX8 241 (222120) ∈ wsX8_mark := by decide +kernel
theorem clX8_mark_239 : Cond.constantLong RX8 239 (242120) ∈ wsX8_mark := by decide +kernel
set_option maxHeartbeats 4000000 in
set_option maxRecDepth 100000 in
theorem w_X8_mark_b47 {p : Program} {l : Launch} {e : Env} {s : State} {m : MethodId} {args : Array Value} {below : List Frame} {meth : Method} {c : Code} {D : va_G} {dA : Nat → ClassId} {b0 : Nat} (X : zX p s m args c cX8_mark 4 RX8 wsX8_mark D dA) (hr : meth.sig.returnType = (some .int)) (hlk : meth.locks = false) {z : Int32 × zH} : ∀ (a2 : Int32) (a3 : Int32) (s0 : Nat) (s1 : Int64) (h : zH) (H : Heap) (locs : List Loc) (ls : Array Slot), f_X8_mark_b47 a2 a3 s0 s1 h = some z → zG D dA b0 s.heap h H locs → lv_has ls 4 [(2, .int a2), (3, .int a3)] → W p l e rmX8_mark s m args below meth c H locs 0 0 (MQ below (zQ D dA b0 (some (.int z.1)) z.2) args s 0 0 (zA b0)) (F0 m 47 ls [.long s1, .ref (b0 + s0)]) := by
  intro a2 a3 s0 s1 h H locs ls hf G hl
  unfold f_X8_mark_b47 at hf
  obtain ⟨hk, hf⟩ := zck hf
  obtain ⟨q1, eq1, hf⟩ := Option.bind_eq_some_iff.mp hf
  refine zcV0 (As := [.long s1]) (rest := []) (v := none) (h' := q1) X G (rfl : vwCl[8]? = some (RX8, TX8, 24)) hk (m_X8_leave l D dA b0 s0 s1 h q1 eq1) (cwV 1 X.1.2.2.2.2 gX8_mark_X8_leave rfl rfl rfl hdV_X8_leave ⟨(Nat.le_of_ble_eq_true rfl), (Nat.le_of_ble_eq_true rfl)⟩) rfl hl.1 rfl (Nat.le_of_ble_eq_true rfl) dX8_mark_47 ⟨Nat.zero_le _, Nat.zero_le _⟩ (fun H locs G => ?_)
  refine lv_iload_n X.1.1 X.1.2.1 dX8_mark_50 rfl (lv_at hl 0 rfl) ?_
  refine lv_iconst (v := 2) X.1.1 X.1.2.1 dX8_mark_51 (by decide) ?_
  refine zic_ne (tgt := 61) X dX8_mark_52 (by decide) hf (fun hf => ?_) (fun hf => ?_)
  · refine lv_iload_n X.1.1 X.1.2.1 dX8_mark_61 rfl (lv_at hl 0 rfl) ?_
    refine lv_iconst (v := 3) X.1.1 X.1.2.1 dX8_mark_62 (by decide) ?_
    refine zic_ne (tgt := 74) X dX8_mark_63 (by decide) hf (fun hf => ?_) (fun hf => ?_)
    · refine lv_iload_n X.1.1 X.1.2.1 dX8_mark_74 rfl (lv_at hl 1 rfl) ?_
      exact zretI X hr hlk G hf dX8_mark_75
    · refine lv_iload_n X.1.1 X.1.2.1 dX8_mark_66 rfl (lv_at hl 1 rfl) ?_
      refine lv_sipush (v := 1000) X.1.1 X.1.2.1 dX8_mark_67 (by decide) ?_
      refine lv_isub X.1.1 X.1.2.1 dX8_mark_70 ?_
      refine lv_goto (tgt := 75) X.1.1 X.1.2.1 dX8_mark_71 (by decide) ?_
      exact zretI X hr hlk G hf dX8_mark_75
  · refine lv_iconst (v := 2) X.1.1 X.1.2.1 dX8_mark_55 (by decide) ?_
    refine lv_iload_n X.1.1 X.1.2.1 dX8_mark_56 rfl (lv_at hl 1 rfl) ?_
    refine lv_imul X.1.1 X.1.2.1 dX8_mark_57 ?_
    refine lv_goto (tgt := 75) X.1.1 X.1.2.1 dX8_mark_58 (by decide) ?_
    exact zretI X hr hlk G hf dX8_mark_75
set_option maxHeartbeats 4000000 in
set_option maxRecDepth 100000 in
theorem m_X8_mark (l : Launch) (D : va_G) (dA : Nat → ClassId) (b0 : Nat) (r0 : Nat) (a1 : Int32) (h : zH) (z : Int32 × zH) (hf : f_X8_mark r0 a1 h = some z) : Met l yX8_mark wsX8_mark rmX8_mark (zPc D dA b0 [.ref (b0 + r0), .int a1] h) (zQ D dA b0 (some (.int z.1)) z.2) 0 0 (zA b0) := by
  refine Met.ofW (cc := cX8_mark) (maxL := 4) (ret := (some .int)) (by decide) rfl ?_
  intro p e s m args below meth c s₁ B hml hv
  obtain ⟨rfl, hP, hz, hK, hN⟩ := hv
  have hr := B.returns
  have hlk := B.notSynchronized
  have X : zX p s m _ c cX8_mark 4 RX8 wsX8_mark D dA := ⟨⟨B.exec, B.bytes, hml, findClass_of_methodNamed B.named, atoms_spec (ws := wsX8_mark) B.pre⟩, hK, hN⟩
  have G : zG D dA b0 s.heap h s.heap [] := ⟨hP, hz, va_S.rf⟩
  have hl := lv_entry ([.ref (b0 + r0), .int a1]) (n := 4) (Nat.le_of_ble_eq_true rfl)
  rw [lg_entry_eq]
  generalize (lg_sl ([.ref (b0 + r0), .int a1]) ++ List.replicate (4 - (lg_sl ([.ref (b0 + r0), .int a1])).length) Slot.unset).toArray = ls at hl ⊢
  have hl : lv_has ls 4 [(0, .ref (b0 + r0)), (1, .int a1)] := hl
  unfold f_X8_mark at hf
  refine lv_aload_n X.1.1 X.1.2.1 dX8_mark_0 rfl (lv_at hl 0 rfl) ?_
  refine zgetR (ci := 8) (k := 4) (C := RX8) (T := TX8) (N := 24) X G rfl inX8_mark_X8 (Nat.le_of_ble_eq_true rfl) flX8_mark_19 dX8_mark_1 hf (fun v1 hf => ?_)
  refine lv_iconst (v := 3) X.1.1 X.1.2.1 dX8_mark_4 (by decide) ?_
  refine lv_iload_n X.1.1 X.1.2.1 dX8_mark_5 rfl (lv_at hl 1 rfl) ?_
  refine lv_iadd X.1.1 X.1.2.1 dX8_mark_6 ?_
  refine ziald X G dX8_mark_7 hf (fun v2 hf => ?_)
  refine lv_istore_n (lv' := [(2, .int v2), (0, .ref (b0 + r0)), (1, .int a1)]) X.1.1 X.1.2.1 dX8_mark_8 rfl hl (by decide) rfl (fun ls hl => ?_)
  refine lv_iload_n X.1.1 X.1.2.1 dX8_mark_9 rfl (lv_at hl 2 rfl) ?_
  refine lv_aload_n X.1.1 X.1.2.1 dX8_mark_10 rfl (lv_at hl 1 rfl) ?_
  refine zgetR (ci := 8) (k := 4) (C := RX8) (T := TX8) (N := 24) X G rfl inX8_mark_X8 (Nat.le_of_ble_eq_true rfl) flX8_mark_19 dX8_mark_11 hf (fun v3 hf => ?_)
  refine lv_bipush (v := 13) X.1.1 X.1.2.1 dX8_mark_14 (by decide) ?_
  refine lv_iload_n X.1.1 X.1.2.1 dX8_mark_16 rfl (lv_at hl 2 rfl) ?_
  refine lv_iadd X.1.1 X.1.2.1 dX8_mark_17 ?_
  refine ziald X G dX8_mark_18 hf (fun v4 hf => ?_)
  refine lv_iadd X.1.1 X.1.2.1 dX8_mark_19 ?_
  refine zleti hf (fun x5 hf => ?_)
  refine lv_istore_n (lv' := [(3, .int x5), (2, .int v2), (0, .ref (b0 + r0)), (1, .int a1)]) X.1.1 X.1.2.1 dX8_mark_20 rfl hl (by decide) rfl (fun ls hl => ?_)
  refine lv_aload_n X.1.1 X.1.2.1 dX8_mark_21 rfl (lv_at hl 2 rfl) ?_
  refine lv_iload_n X.1.1 X.1.2.1 dX8_mark_22 rfl (lv_at hl 1 rfl) ?_
  refine lv_iconst (v := 2) X.1.1 X.1.2.1 dX8_mark_23 (by decide) ?_
  refine zic_ne (tgt := 33) X dX8_mark_24 (by decide) hf (fun hf => ?_) (fun hf => ?_)
  · refine lv_iload_n X.1.1 X.1.2.1 dX8_mark_33 rfl (lv_at hl 1 rfl) ?_
    refine lv_iconst (v := 3) X.1.1 X.1.2.1 dX8_mark_34 (by decide) ?_
    refine zic_ne (tgt := 44) X dX8_mark_35 (by decide) hf (fun hf => ?_) (fun hf => ?_)
    · refine lv_ldc2 (v := 2120) X.1.1 X.1.2.1 X.1.2.2.2.1 (X.1.2.2.2.2 _ clX8_mark_243) dX8_mark_44 ?_
      exact w_X8_mark_b47 X hr hlk _ _ _ _ _ _ _ _ hf G (lv_sub hl [1, 0] rfl)
    · refine lv_ldc2 (v := 222120) X.1.1 X.1.2.1 X.1.2.2.2.1 (X.1.2.2.2.2 _ clX8_mark_241) dX8_mark_38 ?_
      refine lv_goto (tgt := 47) X.1.1 X.1.2.1 dX8_mark_41 (by decide) ?_
      exact w_X8_mark_b47 X hr hlk _ _ _ _ _ _ _ _ hf G (lv_sub hl [1, 0] rfl)
  · refine lv_ldc2 (v := 242120) X.1.1 X.1.2.1 X.1.2.2.2.1 (X.1.2.2.2.2 _ clX8_mark_239) dX8_mark_27 ?_
    refine lv_goto (tgt := 47) X.1.1 X.1.2.1 dX8_mark_30 (by decide) ?_
    exact w_X8_mark_b47 X hr hlk _ _ _ _ _ _ _ _ hf G (lv_sub hl [1, 0] rfl)
/-! X8_sizeOf -/
abbrev rmX8_sizeOf : Room := { frames := 1, cells := 0, slots := 0, locals := 26 }
theorem hdV_X8_sizeOf : yX8_sizeOf.cls = RX8 ∧ yX8_sizeOf.cls ≠ "java/lang/invoke/MethodHandle" ∧ yX8_sizeOf.cls ≠ "java/lang/invoke/VarHandle" ∧ (parseMethodDescriptor yX8_sizeOf.desc).map (fun d => d.parameters.length) = some 1 := by decide +kernel
theorem clX8_sizeOf_251 : Cond.constantLong RX8 251 (1310) ∈ wsX8_sizeOf := by decide +kernel
theorem clX8_sizeOf_249 : Cond.constantLong RX8 249 (141310) ∈ wsX8_sizeOf := by decide +kernel
theorem inX8_sizeOf_X8 : ∀ w ∈ wsX80, w ∈ wsX8_sizeOf := by decide +kernel
theorem flX8_sizeOf_19 : Cond.fieldLink RX8 19 (TX8 4).1 (TX8 4).2.1 (TX8 4).2.2.1 ∈ wsX8_sizeOf := by decide +kernel
set_option maxHeartbeats 4000000 in
set_option maxRecDepth 100000 in
theorem w_X8_sizeOf_b45 {p : Program} {l : Launch} {e : Env} {s : State} {m : MethodId} {args : Array Value} {below : List Frame} {meth : Method} {c : Code} {D : va_G} {dA : Nat → ClassId} {b0 : Nat} (X : zX p s m args c cX8_sizeOf 4 RX8 wsX8_sizeOf D dA) (hr : meth.sig.returnType = (some .int)) (hlk : meth.locks = false) {z : Int32 × zH} : ∀ (a2 : Int32) (a3 : Int32) (s0 : Nat) (s1 : Int64) (h : zH) (H : Heap) (locs : List Loc) (ls : Array Slot), f_X8_sizeOf_b45 a2 a3 s0 s1 h = some z → zG D dA b0 s.heap h H locs → lv_has ls 4 [(2, .int a2), (3, .int a3)] → W p l e rmX8_sizeOf s m args below meth c H locs 0 0 (MQ below (zQ D dA b0 (some (.int z.1)) z.2) args s 0 0 (zA b0)) (F0 m 45 ls [.long s1, .ref (b0 + s0)]) := by
  intro a2 a3 s0 s1 h H locs ls hf G hl
  unfold f_X8_sizeOf_b45 at hf
  obtain ⟨hk, hf⟩ := zck hf
  obtain ⟨q1, eq1, hf⟩ := Option.bind_eq_some_iff.mp hf
  refine zcV0 (As := [.long s1]) (rest := []) (v := none) (h' := q1) X G (rfl : vwCl[8]? = some (RX8, TX8, 24)) hk (m_X8_leave l D dA b0 s0 s1 h q1 eq1) (cwV 1 X.1.2.2.2.2 gX8_sizeOf_X8_leave rfl rfl rfl hdV_X8_leave ⟨(Nat.le_of_ble_eq_true rfl), (Nat.le_of_ble_eq_true rfl)⟩) rfl hl.1 rfl (Nat.le_of_ble_eq_true rfl) dX8_sizeOf_45 ⟨Nat.zero_le _, Nat.zero_le _⟩ (fun H locs G => ?_)
  refine lv_iload_n X.1.1 X.1.2.1 dX8_sizeOf_48 rfl (lv_at hl 1 rfl) ?_
  refine zif_eq (tgt := 58) X dX8_sizeOf_49 (by decide) hf (fun hf => ?_) (fun hf => ?_)
  · refine lv_iload_n X.1.1 X.1.2.1 dX8_sizeOf_58 rfl (lv_at hl 0 rfl) ?_
    exact zretI X hr hlk G hf dX8_sizeOf_59
  · refine lv_iconst (v := 2) X.1.1 X.1.2.1 dX8_sizeOf_52 (by decide) ?_
    refine lv_iload_n X.1.1 X.1.2.1 dX8_sizeOf_53 rfl (lv_at hl 0 rfl) ?_
    refine lv_imul X.1.1 X.1.2.1 dX8_sizeOf_54 ?_
    refine lv_goto (tgt := 59) X.1.1 X.1.2.1 dX8_sizeOf_55 (by decide) ?_
    exact zretI X hr hlk G hf dX8_sizeOf_59
set_option maxHeartbeats 4000000 in
set_option maxRecDepth 100000 in
theorem w_X8_sizeOf_b30 {p : Program} {l : Launch} {e : Env} {s : State} {m : MethodId} {args : Array Value} {below : List Frame} {meth : Method} {c : Code} {D : va_G} {dA : Nat → ClassId} {b0 : Nat} (X : zX p s m args c cX8_sizeOf 4 RX8 wsX8_sizeOf D dA) (hr : meth.sig.returnType = (some .int)) (hlk : meth.locks = false) {z : Int32 × zH} : ∀ (r0 : Nat) (a2 : Int32) (s0 : Int32) (h : zH) (H : Heap) (locs : List Loc) (ls : Array Slot), f_X8_sizeOf_b30 r0 a2 s0 h = some z → zG D dA b0 s.heap h H locs → lv_has ls 4 [(0, .ref (b0 + r0)), (2, .int a2)] → W p l e rmX8_sizeOf s m args below meth c H locs 0 0 (MQ below (zQ D dA b0 (some (.int z.1)) z.2) args s 0 0 (zA b0)) (F0 m 30 ls [.int s0]) := by
  intro r0 a2 s0 h H locs ls hf G hl
  unfold f_X8_sizeOf_b30 at hf
  refine lv_istore_n (lv' := [(3, .int s0), (0, .ref (b0 + r0)), (2, .int a2)]) X.1.1 X.1.2.1 dX8_sizeOf_30 rfl hl (by decide) rfl (fun ls hl => ?_)
  refine lv_aload_n X.1.1 X.1.2.1 dX8_sizeOf_31 rfl (lv_at hl 1 rfl) ?_
  refine lv_iload_n X.1.1 X.1.2.1 dX8_sizeOf_32 rfl (lv_at hl 0 rfl) ?_
  refine zif_eq (tgt := 42) X dX8_sizeOf_33 (by decide) hf (fun hf => ?_) (fun hf => ?_)
  · refine lv_ldc2 (v := 1310) X.1.1 X.1.2.1 X.1.2.2.2.1 (X.1.2.2.2.2 _ clX8_sizeOf_251) dX8_sizeOf_42 ?_
    exact w_X8_sizeOf_b45 X hr hlk _ _ _ _ _ _ _ _ hf G (lv_sub hl [2, 0] rfl)
  · refine lv_ldc2 (v := 141310) X.1.1 X.1.2.1 X.1.2.2.2.1 (X.1.2.2.2.2 _ clX8_sizeOf_249) dX8_sizeOf_36 ?_
    refine lv_goto (tgt := 45) X.1.1 X.1.2.1 dX8_sizeOf_39 (by decide) ?_
    exact w_X8_sizeOf_b45 X hr hlk _ _ _ _ _ _ _ _ hf G (lv_sub hl [2, 0] rfl)
set_option maxHeartbeats 4000000 in
set_option maxRecDepth 100000 in
theorem m_X8_sizeOf (l : Launch) (D : va_G) (dA : Nat → ClassId) (b0 : Nat) (r0 : Nat) (a1 : Int32) (h : zH) (z : Int32 × zH) (hf : f_X8_sizeOf r0 a1 h = some z) : Met l yX8_sizeOf wsX8_sizeOf rmX8_sizeOf (zPc D dA b0 [.ref (b0 + r0), .int a1] h) (zQ D dA b0 (some (.int z.1)) z.2) 0 0 (zA b0) := by
  refine Met.ofW (cc := cX8_sizeOf) (maxL := 4) (ret := (some .int)) (by decide) rfl ?_
  intro p e s m args below meth c s₁ B hml hv
  obtain ⟨rfl, hP, hz, hK, hN⟩ := hv
  have hr := B.returns
  have hlk := B.notSynchronized
  have X : zX p s m _ c cX8_sizeOf 4 RX8 wsX8_sizeOf D dA := ⟨⟨B.exec, B.bytes, hml, findClass_of_methodNamed B.named, atoms_spec (ws := wsX8_sizeOf) B.pre⟩, hK, hN⟩
  have G : zG D dA b0 s.heap h s.heap [] := ⟨hP, hz, va_S.rf⟩
  have hl := lv_entry ([.ref (b0 + r0), .int a1]) (n := 4) (Nat.le_of_ble_eq_true rfl)
  rw [lg_entry_eq]
  generalize (lg_sl ([.ref (b0 + r0), .int a1]) ++ List.replicate (4 - (lg_sl ([.ref (b0 + r0), .int a1])).length) Slot.unset).toArray = ls at hl ⊢
  have hl : lv_has ls 4 [(0, .ref (b0 + r0)), (1, .int a1)] := hl
  unfold f_X8_sizeOf at hf
  refine lv_aload_n X.1.1 X.1.2.1 dX8_sizeOf_0 rfl (lv_at hl 0 rfl) ?_
  refine zgetR (ci := 8) (k := 4) (C := RX8) (T := TX8) (N := 24) X G rfl inX8_sizeOf_X8 (Nat.le_of_ble_eq_true rfl) flX8_sizeOf_19 dX8_sizeOf_1 hf (fun v1 hf => ?_)
  refine lv_bipush (v := 8) X.1.1 X.1.2.1 dX8_sizeOf_4 (by decide) ?_
  refine lv_iload_n X.1.1 X.1.2.1 dX8_sizeOf_6 rfl (lv_at hl 1 rfl) ?_
  refine lv_iadd X.1.1 X.1.2.1 dX8_sizeOf_7 ?_
  refine ziald X G dX8_sizeOf_8 hf (fun v2 hf => ?_)
  refine lv_bipush (v := 100) X.1.1 X.1.2.1 dX8_sizeOf_9 (by decide) ?_
  refine lv_isub X.1.1 X.1.2.1 dX8_sizeOf_11 ?_
  refine zleti hf (fun x3 hf => ?_)
  refine lv_istore_n (lv' := [(2, .int x3), (0, .ref (b0 + r0)), (1, .int a1)]) X.1.1 X.1.2.1 dX8_sizeOf_12 rfl hl (by decide) rfl (fun ls hl => ?_)
  refine lv_aload_n X.1.1 X.1.2.1 dX8_sizeOf_13 rfl (lv_at hl 1 rfl) ?_
  refine zgetR (ci := 8) (k := 4) (C := RX8) (T := TX8) (N := 24) X G rfl inX8_sizeOf_X8 (Nat.le_of_ble_eq_true rfl) flX8_sizeOf_19 dX8_sizeOf_14 hf (fun v4 hf => ?_)
  refine lv_iconst (v := 3) X.1.1 X.1.2.1 dX8_sizeOf_17 (by decide) ?_
  refine lv_iload_n X.1.1 X.1.2.1 dX8_sizeOf_18 rfl (lv_at hl 2 rfl) ?_
  refine lv_iadd X.1.1 X.1.2.1 dX8_sizeOf_19 ?_
  refine ziald X G dX8_sizeOf_20 hf (fun v5 hf => ?_)
  refine lv_iconst (v := 5) X.1.1 X.1.2.1 dX8_sizeOf_21 (by decide) ?_
  refine zic_ne (tgt := 29) X dX8_sizeOf_22 (by decide) hf (fun hf => ?_) (fun hf => ?_)
  · refine lv_iconst (v := 0) X.1.1 X.1.2.1 dX8_sizeOf_29 (by decide) ?_
    exact w_X8_sizeOf_b30 X hr hlk _ _ _ _ _ _ _ hf G (lv_sub hl [1, 0] rfl)
  · refine lv_iconst (v := 1) X.1.1 X.1.2.1 dX8_sizeOf_25 (by decide) ?_
    refine lv_goto (tgt := 30) X.1.1 X.1.2.1 dX8_sizeOf_26 (by decide) ?_
    exact w_X8_sizeOf_b30 X hr hlk _ _ _ _ _ _ _ hf G (lv_sub hl [1, 0] rfl)
/-! X8_ask -/
abbrev rmX8_ask : Room := { frames := 2, cells := 0, slots := 0, locals := 49 }
theorem hdV_X8_ask : yX8_ask.cls = RX8 ∧ yX8_ask.cls ≠ "java/lang/invoke/MethodHandle" ∧ yX8_ask.cls ≠ "java/lang/invoke/VarHandle" ∧ (parseMethodDescriptor yX8_ask.desc).map (fun d => d.parameters.length) = some 2 := by decide +kernel
theorem inX8_ask_X8 : ∀ w ∈ wsX80, w ∈ wsX8_ask := by decide +kernel
theorem flX8_ask_19 : Cond.fieldLink RX8 19 (TX8 4).1 (TX8 4).2.1 (TX8 4).2.2.1 ∈ wsX8_ask := by decide +kernel
theorem coX8_ask_70 : Cond.constant RX8 70 (-1000001) ∈ wsX8_ask := by decide +kernel
theorem flX8_ask_236 : Cond.fieldLink RX8 236 (TX8 15).1 (TX8 15).2.1 (TX8 15).2.2.1 ∈ wsX8_ask := by decide +kernel
theorem clX8_ask_263 : Cond.constantLong RX8 263 (2320) ∈ wsX8_ask := by decide +kernel
theorem clX8_ask_258 : Cond.constantLong RX8 258 (1110) ∈ wsX8_ask := by decide +kernel
theorem clX8_ask_256 : Cond.constantLong RX8 256 (121110) ∈ wsX8_ask := by decide +kernel
set_option maxHeartbeats 4000000 in
set_option maxRecDepth 100000 in
theorem w_X8_ask_b63 {p : Program} {l : Launch} {e : Env} {s : State} {m : MethodId} {args : Array Value} {below : List Frame} {meth : Method} {c : Code} {D : va_G} {dA : Nat → ClassId} {b0 : Nat} (X : zX p s m args c cX8_ask 5 RX8 wsX8_ask D dA) (hr : meth.sig.returnType = (some .int)) (hlk : meth.locks = false) {z : Int32 × zH} : ∀ (r0 : Nat) (a1 : Int32) (a3 : Int32) (s0 : Nat) (s1 : Int64) (h : zH) (H : Heap) (locs : List Loc) (ls : Array Slot), f_X8_ask_b63 r0 a1 a3 s0 s1 h = some z → zG D dA b0 s.heap h H locs → lv_has ls 5 [(0, .ref (b0 + r0)), (1, .int a1), (3, .int a3)] → W p l e rmX8_ask s m args below meth c H locs 0 0 (MQ below (zQ D dA b0 (some (.int z.1)) z.2) args s 0 0 (zA b0)) (F0 m 63 ls [.long s1, .ref (b0 + s0)]) := by
  intro r0 a1 a3 s0 s1 h H locs ls hf G hl
  unfold f_X8_ask_b63 at hf
  obtain ⟨hk, hf⟩ := zck hf
  obtain ⟨q1, eq1, hf⟩ := Option.bind_eq_some_iff.mp hf
  refine zcV0 (As := [.long s1]) (rest := []) (v := none) (h' := q1) X G (rfl : vwCl[8]? = some (RX8, TX8, 24)) hk (m_X8_leave l D dA b0 s0 s1 h q1 eq1) (cwV 1 X.1.2.2.2.2 gX8_ask_X8_leave rfl rfl rfl hdV_X8_leave ⟨(Nat.le_of_ble_eq_true rfl), (Nat.le_of_ble_eq_true rfl)⟩) rfl hl.1 rfl (Nat.le_of_ble_eq_true rfl) dX8_ask_63 ⟨Nat.zero_le _, Nat.zero_le _⟩ (fun H locs G => ?_)
  refine lv_aload_n X.1.1 X.1.2.1 dX8_ask_66 rfl (lv_at hl 0 rfl) ?_
  refine zgetR (ci := 8) (k := 4) (C := RX8) (T := TX8) (N := 24) X G rfl inX8_ask_X8 (Nat.le_of_ble_eq_true rfl) flX8_ask_19 dX8_ask_67 hf (fun v2 hf => ?_)
  refine lv_bipush (v := 8) X.1.1 X.1.2.1 dX8_ask_70 (by decide) ?_
  refine lv_iload_n X.1.1 X.1.2.1 dX8_ask_72 rfl (lv_at hl 1 rfl) ?_
  refine lv_iadd X.1.1 X.1.2.1 dX8_ask_73 ?_
  refine ziald X G dX8_ask_74 hf (fun v3 hf => ?_)
  refine lv_aload_n X.1.1 X.1.2.1 dX8_ask_75 rfl (lv_at hl 0 rfl) ?_
  refine lv_iload_n X.1.1 X.1.2.1 dX8_ask_76 rfl (lv_at hl 1 rfl) ?_
  obtain ⟨hk, hf⟩ := zck hf
  obtain ⟨q4, eq4, hf⟩ := Option.bind_eq_some_iff.mp hf
  refine zcV0 (As := [.int a1]) (rest := [.int v3]) (v := (some (.int q4.1))) (h' := q4.2) X G (rfl : vwCl[8]? = some (RX8, TX8, 24)) hk (m_X8_mark l D dA b0 r0 a1 q1 q4 eq4) (cwV 1 X.1.2.2.2.2 gX8_ask_X8_mark rfl rfl rfl hdV_X8_mark ⟨(Nat.le_of_ble_eq_true rfl), (Nat.le_of_ble_eq_true rfl)⟩) rfl hl.1 rfl (Nat.le_of_ble_eq_true rfl) dX8_ask_77 ⟨Nat.zero_le _, Nat.zero_le _⟩ (fun H locs G => ?_)
  refine lv_iadd X.1.1 X.1.2.1 dX8_ask_80 ?_
  refine zleti hf (fun x5 hf => ?_)
  refine lv_istore (lv' := [(4, .int x5), (0, .ref (b0 + r0)), (1, .int a1), (3, .int a3)]) X.1.1 X.1.2.1 dX8_ask_81 hl (by decide) rfl (fun ls hl => ?_)
  refine lv_iload_n X.1.1 X.1.2.1 dX8_ask_83 rfl (lv_at hl 3 rfl) ?_
  refine lv_iconst (v := 2) X.1.1 X.1.2.1 dX8_ask_84 (by decide) ?_
  refine zic_ne (tgt := 94) X dX8_ask_85 (by decide) hf (fun hf => ?_) (fun hf => ?_)
  · refine lv_iload X.1.1 X.1.2.1 dX8_ask_94 (lv_at hl 0 rfl) ?_
    exact zretI X hr hlk G hf dX8_ask_96
  · refine lv_iload X.1.1 X.1.2.1 dX8_ask_88 (lv_at hl 0 rfl) ?_
    refine lv_ineg X.1.1 X.1.2.1 dX8_ask_90 ?_
    refine lv_goto (tgt := 96) X.1.1 X.1.2.1 dX8_ask_91 (by decide) ?_
    exact zretI X hr hlk G hf dX8_ask_96
set_option maxHeartbeats 4000000 in
set_option maxRecDepth 100000 in
theorem m_X8_ask (l : Launch) (D : va_G) (dA : Nat → ClassId) (b0 : Nat) (r0 : Nat) (a1 : Int32) (a2 : Int32) (h : zH) (z : Int32 × zH) (hf : f_X8_ask r0 a1 a2 h = some z) : Met l yX8_ask wsX8_ask rmX8_ask (zPc D dA b0 [.ref (b0 + r0), .int a1, .int a2] h) (zQ D dA b0 (some (.int z.1)) z.2) 0 0 (zA b0) := by
  refine Met.ofW (cc := cX8_ask) (maxL := 5) (ret := (some .int)) (by decide) rfl ?_
  intro p e s m args below meth c s₁ B hml hv
  obtain ⟨rfl, hP, hz, hK, hN⟩ := hv
  have hr := B.returns
  have hlk := B.notSynchronized
  have X : zX p s m _ c cX8_ask 5 RX8 wsX8_ask D dA := ⟨⟨B.exec, B.bytes, hml, findClass_of_methodNamed B.named, atoms_spec (ws := wsX8_ask) B.pre⟩, hK, hN⟩
  have G : zG D dA b0 s.heap h s.heap [] := ⟨hP, hz, va_S.rf⟩
  have hl := lv_entry ([.ref (b0 + r0), .int a1, .int a2]) (n := 5) (Nat.le_of_ble_eq_true rfl)
  rw [lg_entry_eq]
  generalize (lg_sl ([.ref (b0 + r0), .int a1, .int a2]) ++ List.replicate (5 - (lg_sl ([.ref (b0 + r0), .int a1, .int a2])).length) Slot.unset).toArray = ls at hl ⊢
  have hl : lv_has ls 5 [(0, .ref (b0 + r0)), (1, .int a1), (2, .int a2)] := hl
  unfold f_X8_ask at hf
  refine lv_aload_n X.1.1 X.1.2.1 dX8_ask_0 rfl (lv_at hl 0 rfl) ?_
  refine lv_iload_n X.1.1 X.1.2.1 dX8_ask_1 rfl (lv_at hl 1 rfl) ?_
  obtain ⟨hk, hf⟩ := zck hf
  obtain ⟨q1, eq1, hf⟩ := Option.bind_eq_some_iff.mp hf
  refine zcV0 (As := [.int a1]) (rest := []) (v := (some (.int q1))) (h' := h) X G (rfl : vwCl[8]? = some (RX8, TX8, 24)) hk (m_X8_isThing l D dA b0 r0 a1 h q1 eq1) (cwV 1 X.1.2.2.2.2 gX8_ask_X8_isThing rfl rfl rfl hdV_X8_isThing ⟨(Nat.le_of_ble_eq_true rfl), (Nat.le_of_ble_eq_true rfl)⟩) rfl hl.1 rfl (Nat.le_of_ble_eq_true rfl) dX8_ask_2 ⟨Nat.zero_le _, Nat.zero_le _⟩ (fun H locs G => ?_)
  refine zif_eq (tgt := 15) X dX8_ask_5 (by decide) hf (fun hf => ?_) (fun hf => ?_)
  · refine lv_ldc (v := -1000001) X.1.1 X.1.2.1 X.1.2.2.2.1 (X.1.2.2.2.2 _ coX8_ask_70) dX8_ask_15 ?_
    exact zretI X hr hlk G hf dX8_ask_17
  · refine lv_iload_n X.1.1 X.1.2.1 dX8_ask_8 rfl (lv_at hl 2 rfl) ?_
    obtain ⟨q2, eq2, hf⟩ := Option.bind_eq_some_iff.mp hf
    refine zcS0 (As := [.int a2]) (rest := []) (v := (some (.int q2))) (h' := h) X G (m_X8_isTwo l D dA b0 a2 h q2 eq2) (va_cwS 1 X.1.2.2.2.2 gX8_ask_X8_isTwo rfl rfl rfl hdS_X8_isTwo ⟨(Nat.le_of_ble_eq_true rfl), (Nat.le_of_ble_eq_true rfl)⟩) rfl hl.1 rfl (Nat.le_of_ble_eq_true rfl) dX8_ask_9 ⟨Nat.zero_le _, Nat.zero_le _⟩ (fun H locs G => ?_)
    refine zif_ne (tgt := 18) X dX8_ask_12 (by decide) hf (fun hf => ?_) (fun hf => ?_)
    · refine lv_aload_n X.1.1 X.1.2.1 dX8_ask_18 rfl (lv_at hl 0 rfl) ?_
      refine lv_iconst (v := 0) X.1.1 X.1.2.1 dX8_ask_19 (by decide) ?_
      refine zputI (ci := 8) (k := 15) (C := RX8) (T := TX8) (N := 24) X G rfl inX8_ask_X8 tyX8_ok nmX8 (Nat.le_of_ble_eq_true rfl) flX8_ask_236 rfl (by decide +kernel) dX8_ask_20 hf (fun h3 H locs hf G => ?_)
      refine lv_aload_n X.1.1 X.1.2.1 dX8_ask_23 rfl (lv_at hl 0 rfl) ?_
      refine zgetR (ci := 8) (k := 4) (C := RX8) (T := TX8) (N := 24) X G rfl inX8_ask_X8 (Nat.le_of_ble_eq_true rfl) flX8_ask_19 dX8_ask_24 hf (fun v4 hf => ?_)
      refine lv_iconst (v := 3) X.1.1 X.1.2.1 dX8_ask_27 (by decide) ?_
      refine lv_iload_n X.1.1 X.1.2.1 dX8_ask_28 rfl (lv_at hl 1 rfl) ?_
      refine lv_iadd X.1.1 X.1.2.1 dX8_ask_29 ?_
      refine ziald X G dX8_ask_30 hf (fun v5 hf => ?_)
      refine lv_istore_n (lv' := [(3, .int v5), (0, .ref (b0 + r0)), (1, .int a1), (2, .int a2)]) X.1.1 X.1.2.1 dX8_ask_31 rfl hl (by decide) rfl (fun ls hl => ?_)
      refine lv_iload_n X.1.1 X.1.2.1 dX8_ask_32 rfl (lv_at hl 0 rfl) ?_
      refine lv_iconst (v := 4) X.1.1 X.1.2.1 dX8_ask_33 (by decide) ?_
      refine zic_ge (tgt := 97) X dX8_ask_34 (by decide) hf (fun hf => ?_) (fun hf => ?_)
      · refine lv_iload_n X.1.1 X.1.2.1 dX8_ask_97 rfl (lv_at hl 3 rfl) ?_
        refine zif_ne (tgt := 107) X dX8_ask_98 (by decide) hf (fun hf => ?_) (fun hf => ?_)
        · refine lv_aload_n X.1.1 X.1.2.1 dX8_ask_107 rfl (lv_at hl 1 rfl) ?_
          refine lv_ldc2 (v := 2320) X.1.1 X.1.2.1 X.1.2.2.2.1 (X.1.2.2.2.2 _ clX8_ask_263) dX8_ask_108 ?_
          obtain ⟨hk, hf⟩ := zck hf
          obtain ⟨q6, eq6, hf⟩ := Option.bind_eq_some_iff.mp hf
          refine zcV0 (As := [.long (2320 : Int64)]) (rest := []) (v := none) (h' := q6) X G (rfl : vwCl[8]? = some (RX8, TX8, 24)) hk (m_X8_leave l D dA b0 r0 (2320 : Int64) h3 q6 eq6) (cwV 1 X.1.2.2.2.2 gX8_ask_X8_leave rfl rfl rfl hdV_X8_leave ⟨(Nat.le_of_ble_eq_true rfl), (Nat.le_of_ble_eq_true rfl)⟩) rfl hl.1 rfl (Nat.le_of_ble_eq_true rfl) dX8_ask_111 ⟨Nat.zero_le _, Nat.zero_le _⟩ (fun H locs G => ?_)
          refine lv_iload_n X.1.1 X.1.2.1 dX8_ask_114 rfl (lv_at hl 2 rfl) ?_
          refine lv_aload_n X.1.1 X.1.2.1 dX8_ask_115 rfl (lv_at hl 1 rfl) ?_
          refine lv_iload_n X.1.1 X.1.2.1 dX8_ask_116 rfl (lv_at hl 2 rfl) ?_
          obtain ⟨hk, hf⟩ := zck hf
          obtain ⟨q7, eq7, hf⟩ := Option.bind_eq_some_iff.mp hf
          refine zcV0 (As := [.int a1]) (rest := [.int a1]) (v := (some (.int q7.1))) (h' := q7.2) X G (rfl : vwCl[8]? = some (RX8, TX8, 24)) hk (m_X8_sizeOf l D dA b0 r0 a1 q6 q7 eq7) (cwV 1 X.1.2.2.2.2 gX8_ask_X8_sizeOf rfl rfl rfl hdV_X8_sizeOf ⟨(Nat.le_of_ble_eq_true rfl), (Nat.le_of_ble_eq_true rfl)⟩) rfl hl.1 rfl (Nat.le_of_ble_eq_true rfl) dX8_ask_117 ⟨Nat.zero_le _, Nat.zero_le _⟩ (fun H locs G => ?_)
          refine lv_isub X.1.1 X.1.2.1 dX8_ask_120 ?_
          exact zretI X hr hlk G hf dX8_ask_121
        · refine lv_aload_n X.1.1 X.1.2.1 dX8_ask_101 rfl (lv_at hl 1 rfl) ?_
          refine lv_iload_n X.1.1 X.1.2.1 dX8_ask_102 rfl (lv_at hl 2 rfl) ?_
          obtain ⟨hk, hf⟩ := zck hf
          obtain ⟨q8, eq8, hf⟩ := Option.bind_eq_some_iff.mp hf
          refine zcV0 (As := [.int a1]) (rest := []) (v := (some (.int q8.1))) (h' := q8.2) X G (rfl : vwCl[8]? = some (RX8, TX8, 24)) hk (m_X8_sizeOf l D dA b0 r0 a1 h3 q8 eq8) (cwV 1 X.1.2.2.2.2 gX8_ask_X8_sizeOf rfl rfl rfl hdV_X8_sizeOf ⟨(Nat.le_of_ble_eq_true rfl), (Nat.le_of_ble_eq_true rfl)⟩) rfl hl.1 rfl (Nat.le_of_ble_eq_true rfl) dX8_ask_103 ⟨Nat.zero_le _, Nat.zero_le _⟩ (fun H locs G => ?_)
          exact zretI X hr hlk G hf dX8_ask_106
      · refine lv_iload_n X.1.1 X.1.2.1 dX8_ask_37 rfl (lv_at hl 3 rfl) ?_
        refine lv_iconst (v := 1) X.1.1 X.1.2.1 dX8_ask_38 (by decide) ?_
        refine zic_ne (tgt := 48) X dX8_ask_39 (by decide) hf (fun hf => ?_) (fun hf => ?_)
        · refine lv_aload_n X.1.1 X.1.2.1 dX8_ask_48 rfl (lv_at hl 1 rfl) ?_
          refine lv_iload_n X.1.1 X.1.2.1 dX8_ask_49 rfl (lv_at hl 0 rfl) ?_
          refine lv_iconst (v := 2) X.1.1 X.1.2.1 dX8_ask_50 (by decide) ?_
          refine zic_ne (tgt := 60) X dX8_ask_51 (by decide) hf (fun hf => ?_) (fun hf => ?_)
          · refine lv_ldc2 (v := 1110) X.1.1 X.1.2.1 X.1.2.2.2.1 (X.1.2.2.2.2 _ clX8_ask_258) dX8_ask_60 ?_
            exact w_X8_ask_b63 X hr hlk _ _ _ _ _ _ _ _ _ hf G (lv_sub hl [1, 2, 0] rfl)
          · refine lv_ldc2 (v := 121110) X.1.1 X.1.2.1 X.1.2.2.2.1 (X.1.2.2.2.2 _ clX8_ask_256) dX8_ask_54 ?_
            refine lv_goto (tgt := 63) X.1.1 X.1.2.1 dX8_ask_57 (by decide) ?_
            exact w_X8_ask_b63 X hr hlk _ _ _ _ _ _ _ _ _ hf G (lv_sub hl [1, 2, 0] rfl)
        · refine lv_aload_n X.1.1 X.1.2.1 dX8_ask_42 rfl (lv_at hl 1 rfl) ?_
          refine lv_iload_n X.1.1 X.1.2.1 dX8_ask_43 rfl (lv_at hl 2 rfl) ?_
          obtain ⟨hk, hf⟩ := zck hf
          obtain ⟨q9, eq9, hf⟩ := Option.bind_eq_some_iff.mp hf
          refine zcV0 (As := [.int a1]) (rest := []) (v := (some (.int q9.1))) (h' := q9.2) X G (rfl : vwCl[8]? = some (RX8, TX8, 24)) hk (m_X8_mark l D dA b0 r0 a1 h3 q9 eq9) (cwV 1 X.1.2.2.2.2 gX8_ask_X8_mark rfl rfl rfl hdV_X8_mark ⟨(Nat.le_of_ble_eq_true rfl), (Nat.le_of_ble_eq_true rfl)⟩) rfl hl.1 rfl (Nat.le_of_ble_eq_true rfl) dX8_ask_44 ⟨Nat.zero_le _, Nat.zero_le _⟩ (fun H locs G => ?_)
          exact zretI X hr hlk G hf dX8_ask_47
    · refine lv_ldc (v := -1000001) X.1.1 X.1.2.1 X.1.2.2.2.1 (X.1.2.2.2.2 _ coX8_ask_70) dX8_ask_15 ?_
      exact zretI X hr hlk G hf dX8_ask_17
/-! X8_trace -/
abbrev rmX8_trace : Room := { frames := 1, cells := 0, slots := 0, locals := 25 }
theorem hdV_X8_trace : yX8_trace.cls = RX8 ∧ yX8_trace.cls ≠ "java/lang/invoke/MethodHandle" ∧ yX8_trace.cls ≠ "java/lang/invoke/VarHandle" ∧ (parseMethodDescriptor yX8_trace.desc).map (fun d => d.parameters.length) = some 1 := by decide +kernel
theorem inX8_trace_X8 : ∀ w ∈ wsX80, w ∈ wsX8_trace := by decide +kernel
theorem flX8_trace_236 : Cond.fieldLink RX8 236 (TX8 15).1 (TX8 15).2.1 (TX8 15).2.2.1 ∈ wsX8_trace := by decide +kernel
theorem coX8_trace_157 : Cond.constant RX8 157 (-1000000) ∈ wsX8_trace := by decide +kernel
theorem flX8_trace_41 : Cond.fieldLink RX8 41 (TX8 14).1 (TX8 14).2.1 (TX8 14).2.2.1 ∈ wsX8_trace := by decide +kernel
set_option maxHeartbeats 4000000 in
set_option maxRecDepth 100000 in
theorem m_X8_trace (l : Launch) (D : va_G) (dA : Nat → ClassId) (b0 : Nat) (r0 : Nat) (a1 : Int32) (h : zH) (z : Int32) (hf : f_X8_trace r0 a1 h = some z) : Met l yX8_trace wsX8_trace rmX8_trace (zPc D dA b0 [.ref (b0 + r0), .int a1] h) (zQ D dA b0 (some (.int z)) h) 0 0 (zA b0) := by
  refine Met.ofW (cc := cX8_trace) (maxL := 2) (ret := (some .int)) (by decide) rfl ?_
  intro p e s m args below meth c s₁ B hml hv
  obtain ⟨rfl, hP, hz, hK, hN⟩ := hv
  have hr := B.returns
  have hlk := B.notSynchronized
  have X : zX p s m _ c cX8_trace 2 RX8 wsX8_trace D dA := ⟨⟨B.exec, B.bytes, hml, findClass_of_methodNamed B.named, atoms_spec (ws := wsX8_trace) B.pre⟩, hK, hN⟩
  have G : zG D dA b0 s.heap h s.heap [] := ⟨hP, hz, va_S.rf⟩
  have hl := lv_entry ([.ref (b0 + r0), .int a1]) (n := 2) (Nat.le_of_ble_eq_true rfl)
  rw [lg_entry_eq]
  generalize (lg_sl ([.ref (b0 + r0), .int a1]) ++ List.replicate (2 - (lg_sl ([.ref (b0 + r0), .int a1])).length) Slot.unset).toArray = ls at hl ⊢
  have hl : lv_has ls 2 [(0, .ref (b0 + r0)), (1, .int a1)] := hl
  unfold f_X8_trace at hf
  refine lv_iload_n X.1.1 X.1.2.1 dX8_trace_0 rfl (lv_at hl 1 rfl) ?_
  refine lv_i2l X.1.1 X.1.2.1 dX8_trace_1 rfl ?_
  refine lv_lconst (v := 0) X.1.1 X.1.2.1 dX8_trace_2 (by decide) ?_
  refine lv_aload_n X.1.1 X.1.2.1 dX8_trace_3 rfl (lv_at hl 0 rfl) ?_
  refine zgetI (ci := 8) (k := 15) (C := RX8) (T := TX8) (N := 24) X G rfl inX8_trace_X8 (Nat.le_of_ble_eq_true rfl) flX8_trace_236 dX8_trace_4 hf (fun v1 hf => ?_)
  refine lv_iconst (v := 1) X.1.1 X.1.2.1 dX8_trace_7 (by decide) ?_
  refine lv_isub X.1.1 X.1.2.1 dX8_trace_8 ?_
  refine lv_i2l X.1.1 X.1.2.1 dX8_trace_9 rfl ?_
  obtain ⟨q2, eq2, hf⟩ := Option.bind_eq_some_iff.mp hf
  refine zcS0 (As := [.long (Int32.toInt64 a1), .long (0 : Int64), .long (Int32.toInt64 (v1 - (1 : Int32)))]) (rest := []) (v := (some (.int q2))) (h' := h) X G (m_X8_in l D dA b0 ((Int32.toInt64 a1)) (0 : Int64) ((Int32.toInt64 (v1 - (1 : Int32)))) h q2 eq2) (va_cwS 3 X.1.2.2.2.2 gX8_trace_X8_in rfl rfl rfl hdS_X8_in ⟨(Nat.le_of_ble_eq_true rfl), (Nat.le_of_ble_eq_true rfl)⟩) rfl hl.1 rfl (Nat.le_of_ble_eq_true rfl) dX8_trace_10 ⟨Nat.zero_le _, Nat.zero_le _⟩ (fun H locs G => ?_)
  refine zif_eq (tgt := 25) X dX8_trace_13 (by decide) hf (fun hf => ?_) (fun hf => ?_)
  · refine lv_ldc (v := -1000000) X.1.1 X.1.2.1 X.1.2.2.2.1 (X.1.2.2.2.2 _ coX8_trace_157) dX8_trace_25 ?_
    exact zretIr X hr hlk G hf dX8_trace_27
  · refine lv_aload_n X.1.1 X.1.2.1 dX8_trace_16 rfl (lv_at hl 0 rfl) ?_
    refine zgetR (ci := 8) (k := 14) (C := RX8) (T := TX8) (N := 24) X G rfl inX8_trace_X8 (Nat.le_of_ble_eq_true rfl) flX8_trace_41 dX8_trace_17 hf (fun v3 hf => ?_)
    refine lv_iload_n X.1.1 X.1.2.1 dX8_trace_20 rfl (lv_at hl 1 rfl) ?_
    refine ziald X G dX8_trace_21 hf (fun v4 hf => ?_)
    refine lv_goto (tgt := 27) X.1.1 X.1.2.1 dX8_trace_22 (by decide) ?_
    exact zretIr X hr hlk G hf dX8_trace_27
/-! X8_count -/
abbrev rmX8_count : Room := { frames := 0, cells := 0, slots := 0, locals := 0 }
theorem hdV_X8_count : yX8_count.cls = RX8 ∧ yX8_count.cls ≠ "java/lang/invoke/MethodHandle" ∧ yX8_count.cls ≠ "java/lang/invoke/VarHandle" ∧ (parseMethodDescriptor yX8_count.desc).map (fun d => d.parameters.length) = some 1 := by decide +kernel
theorem inX8_count_X8 : ∀ w ∈ wsX80, w ∈ wsX8_count := by decide +kernel
theorem flX8_count_19 : Cond.fieldLink RX8 19 (TX8 4).1 (TX8 4).2.1 (TX8 4).2.2.1 ∈ wsX8_count := by decide +kernel
theorem flX8_count_139 : Cond.fieldLink RX8 139 (TX8 8).1 (TX8 8).2.1 (TX8 8).2.2.1 ∈ wsX8_count := by decide +kernel
theorem flX8_count_80 : Cond.fieldLink RX8 80 (TX8 12).1 (TX8 12).2.1 (TX8 12).2.2.1 ∈ wsX8_count := by decide +kernel
theorem coX8_count_70 : Cond.constant RX8 70 (-1000001) ∈ wsX8_count := by decide +kernel
theorem flX8_count_13 : Cond.fieldLink RX8 13 (TX8 1).1 (TX8 1).2.1 (TX8 1).2.2.1 ∈ wsX8_count := by decide +kernel
set_option maxHeartbeats 4000000 in
set_option maxRecDepth 100000 in
theorem w_X8_count_b25 {p : Program} {l : Launch} {e : Env} {s : State} {m : MethodId} {args : Array Value} {below : List Frame} {meth : Method} {c : Code} {D : va_G} {dA : Nat → ClassId} {b0 : Nat} {h : zH} (X : zX p s m args c cX8_count 4 RX8 wsX8_count D dA) (hr : meth.sig.returnType = (some .int)) (hlk : meth.locks = false) {z : Int32} (k4 : Nat → Int32 → Int32 → Int32 → Option (Int32)) (hk4 : ∀ (r0 : Nat) (a1 : Int32) (a2 : Int32) (a3 : Int32) (H : Heap) (locs : List Loc) (ls : Array Slot), k4 r0 a1 a2 a3 = some z → zG D dA b0 s.heap h H locs → lv_has ls 4 [(0, .ref (b0 + r0)), (1, .int a1), (2, .int a2), (3, .int a3)] → W p l e rmX8_count s m args below meth c H locs 0 0 (MQ below (zQ D dA b0 (some (.int z)) h) args s 0 0 (zA b0)) (F0 m 4 ls [])) : ∀ (r0 : Nat) (a1 : Int32) (a3 : Int32) (s0 : Int32) (s1 : Int32) (H : Heap) (locs : List Loc) (ls : Array Slot), f_X8_count_b25 h k4 r0 a1 a3 s0 s1 = some z → zG D dA b0 s.heap h H locs → lv_has ls 4 [(0, .ref (b0 + r0)), (1, .int a1), (3, .int a3)] → W p l e rmX8_count s m args below meth c H locs 0 0 (MQ below (zQ D dA b0 (some (.int z)) h) args s 0 0 (zA b0)) (F0 m 25 ls [.int s1, .int s0]) := by
  intro r0 a1 a3 s0 s1 H locs ls hf G hl
  unfold f_X8_count_b25 at hf
  refine lv_iadd X.1.1 X.1.2.1 dX8_count_25 ?_
  refine zleti hf (fun x1 hf => ?_)
  refine lv_istore_n (lv' := [(2, .int x1), (0, .ref (b0 + r0)), (1, .int a1), (3, .int a3)]) X.1.1 X.1.2.1 dX8_count_26 rfl hl (by decide) rfl (fun ls hl => ?_)
  refine lv_iinc (v := (a3 + (1 : Int32))) (lv' := [(3, .int (a3 + (1 : Int32))), (2, .int x1), (0, .ref (b0 + r0)), (1, .int a1)]) X.1.1 X.1.2.1 dX8_count_27 hl (k := 3) rfl rfl (by decide) rfl (fun ls hl => ?_)
  refine lv_goto (tgt := 4) X.1.1 X.1.2.1 dX8_count_30 (by decide) ?_
  exact hk4 _ _ _ _ _ _ _ hf G (lv_sub hl [2, 3, 1, 0] rfl)
set_option maxHeartbeats 4000000 in
set_option maxRecDepth 100000 in
theorem w_X8_count_b4 {p : Program} {l : Launch} {e : Env} {s : State} {m : MethodId} {args : Array Value} {below : List Frame} {meth : Method} {c : Code} {D : va_G} {dA : Nat → ClassId} {b0 : Nat} {h : zH} (X : zX p s m args c cX8_count 4 RX8 wsX8_count D dA) (hr : meth.sig.returnType = (some .int)) (hlk : meth.locks = false) {z : Int32} : ∀ (n : Nat), ∀ (r0 : Nat) (a1 : Int32) (a2 : Int32) (a3 : Int32) (H : Heap) (locs : List Loc) (ls : Array Slot), f_X8_count_b4 h n r0 a1 a2 a3 = some z → zG D dA b0 s.heap h H locs → lv_has ls 4 [(0, .ref (b0 + r0)), (1, .int a1), (2, .int a2), (3, .int a3)] → W p l e rmX8_count s m args below meth c H locs 0 0 (MQ below (zQ D dA b0 (some (.int z)) h) args s 0 0 (zA b0)) (F0 m 4 ls []) := by
  intro n
  induction n with
  | zero =>
    intro r0 a1 a2 a3 H locs ls hf
    cases hf
  | succ n ih =>
    intro r0 a1 a2 a3 H locs ls hf G hl
    rw [f_X8_count_b4] at hf
    refine lv_iload_n X.1.1 X.1.2.1 dX8_count_4 rfl (lv_at hl 3 rfl) ?_
    refine lv_bipush (v := 8) X.1.1 X.1.2.1 dX8_count_5 (by decide) ?_
    refine zic_ge (tgt := 33) X dX8_count_7 (by decide) hf (fun hf => ?_) (fun hf => ?_)
    · refine lv_iload_n X.1.1 X.1.2.1 dX8_count_33 rfl (lv_at hl 1 rfl) ?_
      by_cases c0 : a1 = 0
      · rw [if_pos c0] at hf
        refine lv_tableIn (off := 46) (tgt := 80) X.1.1 X.1.2.1 dX8_count_34 (by rw [c0]; decide) (by rw [c0]; decide) (by rw [c0]; decide) (by decide) ?_
        refine lv_iload_n X.1.1 X.1.2.1 dX8_count_80 rfl (lv_at hl 2 rfl) ?_
        exact zretIr X hr hlk G hf dX8_count_81
      rw [if_neg c0] at hf
      by_cases c1 : a1 = 1
      · rw [if_pos c1] at hf
        refine lv_tableIn (off := 48) (tgt := 82) X.1.1 X.1.2.1 dX8_count_34 (by rw [c1]; decide) (by rw [c1]; decide) (by rw [c1]; decide) (by decide) ?_
        refine lv_aload_n X.1.1 X.1.2.1 dX8_count_82 rfl (lv_at hl 0 rfl) ?_
        refine zgetR (ci := 8) (k := 4) (C := RX8) (T := TX8) (N := 24) X G rfl inX8_count_X8 (Nat.le_of_ble_eq_true rfl) flX8_count_19 dX8_count_83 hf (fun v1 hf => ?_)
        refine lv_iconst (v := 0) X.1.1 X.1.2.1 dX8_count_86 (by decide) ?_
        refine ziald X G dX8_count_87 hf (fun v2 hf => ?_)
        exact zretIr X hr hlk G hf dX8_count_88
      rw [if_neg c1] at hf
      by_cases c2 : a1 = 2
      · rw [if_pos c2] at hf
        refine lv_tableIn (off := 55) (tgt := 89) X.1.1 X.1.2.1 dX8_count_34 (by rw [c2]; decide) (by rw [c2]; decide) (by rw [c2]; decide) (by decide) ?_
        refine lv_aload_n X.1.1 X.1.2.1 dX8_count_89 rfl (lv_at hl 0 rfl) ?_
        refine zgetR (ci := 8) (k := 4) (C := RX8) (T := TX8) (N := 24) X G rfl inX8_count_X8 (Nat.le_of_ble_eq_true rfl) flX8_count_19 dX8_count_90 hf (fun v3 hf => ?_)
        refine lv_iconst (v := 2) X.1.1 X.1.2.1 dX8_count_93 (by decide) ?_
        refine ziald X G dX8_count_94 hf (fun v4 hf => ?_)
        exact zretIr X hr hlk G hf dX8_count_95
      rw [if_neg c2] at hf
      by_cases c3 : a1 = 3
      · rw [if_pos c3] at hf
        refine lv_tableIn (off := 62) (tgt := 96) X.1.1 X.1.2.1 dX8_count_34 (by rw [c3]; decide) (by rw [c3]; decide) (by rw [c3]; decide) (by decide) ?_
        refine lv_aload_n X.1.1 X.1.2.1 dX8_count_96 rfl (lv_at hl 0 rfl) ?_
        refine zgetR (ci := 8) (k := 4) (C := RX8) (T := TX8) (N := 24) X G rfl inX8_count_X8 (Nat.le_of_ble_eq_true rfl) flX8_count_19 dX8_count_97 hf (fun v5 hf => ?_)
        refine lv_bipush (v := 28) X.1.1 X.1.2.1 dX8_count_100 (by decide) ?_
        refine ziald X G dX8_count_102 hf (fun v6 hf => ?_)
        exact zretIr X hr hlk G hf dX8_count_103
      rw [if_neg c3] at hf
      by_cases c4 : a1 = 4
      · rw [if_pos c4] at hf
        refine lv_tableIn (off := 70) (tgt := 104) X.1.1 X.1.2.1 dX8_count_34 (by rw [c4]; decide) (by rw [c4]; decide) (by rw [c4]; decide) (by decide) ?_
        refine lv_aload_n X.1.1 X.1.2.1 dX8_count_104 rfl (lv_at hl 0 rfl) ?_
        refine zgetR (ci := 8) (k := 4) (C := RX8) (T := TX8) (N := 24) X G rfl inX8_count_X8 (Nat.le_of_ble_eq_true rfl) flX8_count_19 dX8_count_105 hf (fun v7 hf => ?_)
        refine lv_iconst (v := 1) X.1.1 X.1.2.1 dX8_count_108 (by decide) ?_
        refine ziald X G dX8_count_109 hf (fun v8 hf => ?_)
        exact zretIr X hr hlk G hf dX8_count_110
      rw [if_neg c4] at hf
      by_cases c5 : a1 = 5
      · rw [if_pos c5] at hf
        refine lv_tableIn (off := 77) (tgt := 111) X.1.1 X.1.2.1 dX8_count_34 (by rw [c5]; decide) (by rw [c5]; decide) (by rw [c5]; decide) (by decide) ?_
        refine lv_aload_n X.1.1 X.1.2.1 dX8_count_111 rfl (lv_at hl 0 rfl) ?_
        refine zgetR (ci := 8) (k := 4) (C := RX8) (T := TX8) (N := 24) X G rfl inX8_count_X8 (Nat.le_of_ble_eq_true rfl) flX8_count_19 dX8_count_112 hf (fun v9 hf => ?_)
        refine lv_bipush (v := 29) X.1.1 X.1.2.1 dX8_count_115 (by decide) ?_
        refine ziald X G dX8_count_117 hf (fun v10 hf => ?_)
        exact zretIr X hr hlk G hf dX8_count_118
      rw [if_neg c5] at hf
      by_cases c6 : a1 = 6
      · rw [if_pos c6] at hf
        refine lv_tableIn (off := 85) (tgt := 119) X.1.1 X.1.2.1 dX8_count_34 (by rw [c6]; decide) (by rw [c6]; decide) (by rw [c6]; decide) (by decide) ?_
        refine lv_aload_n X.1.1 X.1.2.1 dX8_count_119 rfl (lv_at hl 0 rfl) ?_
        refine zgetI (ci := 8) (k := 8) (C := RX8) (T := TX8) (N := 24) X G rfl inX8_count_X8 (Nat.le_of_ble_eq_true rfl) flX8_count_139 dX8_count_120 hf (fun v11 hf => ?_)
        exact zretIr X hr hlk G hf dX8_count_123
      rw [if_neg c6] at hf
      by_cases c7 : a1 = 7
      · rw [if_pos c7] at hf
        refine lv_tableIn (off := 90) (tgt := 124) X.1.1 X.1.2.1 dX8_count_34 (by rw [c7]; decide) (by rw [c7]; decide) (by rw [c7]; decide) (by decide) ?_
        refine lv_aload_n X.1.1 X.1.2.1 dX8_count_124 rfl (lv_at hl 0 rfl) ?_
        refine zgetI (ci := 8) (k := 12) (C := RX8) (T := TX8) (N := 24) X G rfl inX8_count_X8 (Nat.le_of_ble_eq_true rfl) flX8_count_80 dX8_count_125 hf (fun v12 hf => ?_)
        exact zretIr X hr hlk G hf dX8_count_128
      rw [if_neg c7] at hf
      refine lv_tableOut (tgt := 129) X.1.1 X.1.2.1 dX8_count_34 (by have n0 := lv_neT c0 (show ((0 : Int32)).toInt = 0 from by decide); have n1 := lv_neT c1 (show ((1 : Int32)).toInt = 1 from by decide); have n2 := lv_neT c2 (show ((2 : Int32)).toInt = 2 from by decide); have n3 := lv_neT c3 (show ((3 : Int32)).toInt = 3 from by decide); have n4 := lv_neT c4 (show ((4 : Int32)).toInt = 4 from by decide); have n5 := lv_neT c5 (show ((5 : Int32)).toInt = 5 from by decide); have n6 := lv_neT c6 (show ((6 : Int32)).toInt = 6 from by decide); have n7 := lv_neT c7 (show ((7 : Int32)).toInt = 7 from by decide); omega) (by decide) ?_
      refine lv_ldc (v := -1000001) X.1.1 X.1.2.1 X.1.2.2.2.1 (X.1.2.2.2.2 _ coX8_count_70) dX8_count_129 ?_
      exact zretIr X hr hlk G hf dX8_count_131
    · refine lv_iload_n X.1.1 X.1.2.1 dX8_count_10 rfl (lv_at hl 2 rfl) ?_
      refine lv_aload_n X.1.1 X.1.2.1 dX8_count_11 rfl (lv_at hl 0 rfl) ?_
      refine zgetR (ci := 8) (k := 1) (C := RX8) (T := TX8) (N := 24) X G rfl inX8_count_X8 (Nat.le_of_ble_eq_true rfl) flX8_count_13 dX8_count_12 hf (fun v13 hf => ?_)
      refine lv_iload_n X.1.1 X.1.2.1 dX8_count_15 rfl (lv_at hl 3 rfl) ?_
      refine ziald X G dX8_count_16 hf (fun v14 hf => ?_)
      refine zif_ge (tgt := 24) X dX8_count_17 (by decide) hf (fun hf => ?_) (fun hf => ?_)
      · refine lv_iconst (v := 1) X.1.1 X.1.2.1 dX8_count_24 (by decide) ?_
        exact w_X8_count_b25 X hr hlk _ ih _ _ _ _ _ _ _ _ hf G (lv_sub hl [0, 1, 3] rfl)
      · refine lv_iconst (v := 0) X.1.1 X.1.2.1 dX8_count_20 (by decide) ?_
        refine lv_goto (tgt := 25) X.1.1 X.1.2.1 dX8_count_21 (by decide) ?_
        exact w_X8_count_b25 X hr hlk _ ih _ _ _ _ _ _ _ _ hf G (lv_sub hl [0, 1, 3] rfl)
set_option maxHeartbeats 4000000 in
set_option maxRecDepth 100000 in
theorem m_X8_count (l : Launch) (D : va_G) (dA : Nat → ClassId) (b0 : Nat) (r0 : Nat) (a1 : Int32) (h : zH) (z : Int32) (hf : f_X8_count r0 a1 h = some z) : Met l yX8_count wsX8_count rmX8_count (zPc D dA b0 [.ref (b0 + r0), .int a1] h) (zQ D dA b0 (some (.int z)) h) 0 0 (zA b0) := by
  refine Met.ofW (cc := cX8_count) (maxL := 4) (ret := (some .int)) (by decide) rfl ?_
  intro p e s m args below meth c s₁ B hml hv
  obtain ⟨rfl, hP, hz, hK, hN⟩ := hv
  have hr := B.returns
  have hlk := B.notSynchronized
  have X : zX p s m _ c cX8_count 4 RX8 wsX8_count D dA := ⟨⟨B.exec, B.bytes, hml, findClass_of_methodNamed B.named, atoms_spec (ws := wsX8_count) B.pre⟩, hK, hN⟩
  have G : zG D dA b0 s.heap h s.heap [] := ⟨hP, hz, va_S.rf⟩
  have hl := lv_entry ([.ref (b0 + r0), .int a1]) (n := 4) (Nat.le_of_ble_eq_true rfl)
  rw [lg_entry_eq]
  generalize (lg_sl ([.ref (b0 + r0), .int a1]) ++ List.replicate (4 - (lg_sl ([.ref (b0 + r0), .int a1])).length) Slot.unset).toArray = ls at hl ⊢
  have hl : lv_has ls 4 [(0, .ref (b0 + r0)), (1, .int a1)] := hl
  unfold f_X8_count at hf
  refine lv_iconst (v := 0) X.1.1 X.1.2.1 dX8_count_0 (by decide) ?_
  refine lv_istore_n (lv' := [(2, .int (0 : Int32)), (0, .ref (b0 + r0)), (1, .int a1)]) X.1.1 X.1.2.1 dX8_count_1 rfl hl (by decide) rfl (fun ls hl => ?_)
  refine lv_iconst (v := 0) X.1.1 X.1.2.1 dX8_count_2 (by decide) ?_
  refine lv_istore_n (lv' := [(3, .int (0 : Int32)), (2, .int (0 : Int32)), (0, .ref (b0 + r0)), (1, .int a1)]) X.1.1 X.1.2.1 dX8_count_3 rfl hl (by decide) rfl (fun ls hl => ?_)
  exact w_X8_count_b4 X hr hlk _ _ _ _ _ _ _ _ hf G (lv_sub hl [2, 3, 1, 0] rfl)
/-! X8_status -/
abbrev rmX8_status : Room := { frames := 0, cells := 0, slots := 0, locals := 0 }
theorem hdV_X8_status : yX8_status.cls = RX8 ∧ yX8_status.cls ≠ "java/lang/invoke/MethodHandle" ∧ yX8_status.cls ≠ "java/lang/invoke/VarHandle" ∧ (parseMethodDescriptor yX8_status.desc).map (fun d => d.parameters.length) = some 0 := by decide +kernel
theorem inX8_status_X8 : ∀ w ∈ wsX80, w ∈ wsX8_status := by decide +kernel
theorem flX8_status_53 : Cond.fieldLink RX8 53 (TX8 3).1 (TX8 3).2.1 (TX8 3).2.2.1 ∈ wsX8_status := by decide +kernel
set_option maxHeartbeats 4000000 in
set_option maxRecDepth 100000 in
theorem m_X8_status (l : Launch) (D : va_G) (dA : Nat → ClassId) (b0 : Nat) (r0 : Nat) (h : zH) (z : Int32) (hf : f_X8_status r0 h = some z) : Met l yX8_status wsX8_status rmX8_status (zPc D dA b0 [.ref (b0 + r0)] h) (zQ D dA b0 (some (.int z)) h) 0 0 (zA b0) := by
  refine Met.ofW (cc := cX8_status) (maxL := 1) (ret := (some .int)) (by decide) rfl ?_
  intro p e s m args below meth c s₁ B hml hv
  obtain ⟨rfl, hP, hz, hK, hN⟩ := hv
  have hr := B.returns
  have hlk := B.notSynchronized
  have X : zX p s m _ c cX8_status 1 RX8 wsX8_status D dA := ⟨⟨B.exec, B.bytes, hml, findClass_of_methodNamed B.named, atoms_spec (ws := wsX8_status) B.pre⟩, hK, hN⟩
  have G : zG D dA b0 s.heap h s.heap [] := ⟨hP, hz, va_S.rf⟩
  have hl := lv_entry ([.ref (b0 + r0)]) (n := 1) (Nat.le_of_ble_eq_true rfl)
  rw [lg_entry_eq]
  generalize (lg_sl ([.ref (b0 + r0)]) ++ List.replicate (1 - (lg_sl ([.ref (b0 + r0)])).length) Slot.unset).toArray = ls at hl ⊢
  have hl : lv_has ls 1 [(0, .ref (b0 + r0))] := hl
  unfold f_X8_status at hf
  refine lv_aload_n X.1.1 X.1.2.1 dX8_status_0 rfl (lv_at hl 0 rfl) ?_
  refine zgetI (ci := 8) (k := 3) (C := RX8) (T := TX8) (N := 24) X G rfl inX8_status_X8 (Nat.le_of_ble_eq_true rfl) flX8_status_53 dX8_status_1 hf (fun v1 hf => ?_)
  exact zretIr X hr hlk G hf dX8_status_4
