/-! X8_set -/
abbrev rmX8_set : Room := { frames := 2, cells := 0, slots := 0, locals := 45 }
theorem hdV_X8_set : yX8_set.cls = RX8 ∧ yX8_set.cls ≠ "java/lang/invoke/MethodHandle" ∧ yX8_set.cls ≠ "java/lang/invoke/VarHandle" ∧ (parseMethodDescriptor yX8_set.desc).map (fun d => d.parameters.length) = some 3 := by decide +kernel
theorem inX8_set_X8 : ∀ w ∈ wsX80, w ∈ wsX8_set := by decide +kernel
theorem flX8_set_16 : Cond.fieldLink RX8 16 (TX8 2).1 (TX8 2).2.1 (TX8 2).2.2.1 ∈ wsX8_set := by decide +kernel
theorem flX8_set_13 : Cond.fieldLink RX8 13 (TX8 1).1 (TX8 1).2.1 (TX8 1).2.2.1 ∈ wsX8_set := by decide +kernel
theorem flX8_set_7 : Cond.fieldLink RX8 7 (TX8 0).1 (TX8 0).2.1 (TX8 0).2.2.1 ∈ wsX8_set := by decide +kernel
theorem coX8_set_70 : Cond.constant RX8 70 (-1000001) ∈ wsX8_set := by decide +kernel
set_option maxHeartbeats 4000000 in
set_option maxRecDepth 100000 in
theorem w_X8_set_b89 {p : Program} {l : Launch} {e : Env} {s : State} {m : MethodId} {args : Array Value} {below : List Frame} {meth : Method} {c : Code} {D : va_G} {dA : Nat → ClassId} {b0 : Nat} (X : zX p s m args c cX8_set 4 RX8 wsX8_set D dA) (hr : meth.sig.returnType = (some .int)) (hlk : meth.locks = false) {z : Int32 × zH} : ∀ (r0 : Nat) (a1 : Int32) (a2 : Int32) (s0 : Nat) (s1 : Int32) (s2 : Int32) (h : zH) (H : Heap) (locs : List Loc) (ls : Array Slot), f_X8_set_b89 r0 a1 a2 s0 s1 s2 h = some z → zG D dA b0 s.heap h H locs → lv_has ls 4 [(0, .ref (b0 + r0)), (1, .int a1), (2, .int a2)] → W p l e rmX8_set s m args below meth c H locs 0 0 (MQ below (zQ D dA b0 (some (.int z.1)) z.2) args s 0 0 (zA b0)) (F0 m 89 ls [.int s2, .int s1, .ref (b0 + s0)]) := by
  intro r0 a1 a2 s0 s1 s2 h H locs ls hf G hl
  unfold f_X8_set_b89 at hf
  refine ziast X G dX8_set_89 hf (fun h1 H locs hf G => ?_)
  refine lv_aload_n X.1.1 X.1.2.1 dX8_set_90 rfl (lv_at hl 0 rfl) ?_
  refine lv_aload_n X.1.1 X.1.2.1 dX8_set_91 rfl (lv_at hl 0 rfl) ?_
  refine zgetR (ci := 8) (k := 2) (C := RX8) (T := TX8) (N := 24) X G rfl inX8_set_X8 (Nat.le_of_ble_eq_true rfl) flX8_set_16 dX8_set_92 hf (fun v2 hf => ?_)
  refine lv_bipush (v := 40) X.1.1 X.1.2.1 dX8_set_95 (by decide) ?_
  refine lv_iload_n X.1.1 X.1.2.1 dX8_set_97 rfl (lv_at hl 1 rfl) ?_
  refine lv_imul X.1.1 X.1.2.1 dX8_set_98 ?_
  refine lv_iload_n X.1.1 X.1.2.1 dX8_set_99 rfl (lv_at hl 2 rfl) ?_
  refine lv_iadd X.1.1 X.1.2.1 dX8_set_100 ?_
  refine ziald X G dX8_set_101 hf (fun v3 hf => ?_)
  obtain ⟨hk, hf⟩ := zck hf
  obtain ⟨q4, eq4, hf⟩ := Option.bind_eq_some_iff.mp hf
  refine zcV0 (As := [.int v3]) (rest := []) (v := (some (.int q4.1))) (h' := q4.2) X G (rfl : vwCl[8]? = some (RX8, TX8, 24)) hk (m_X8_well l D dA b0 r0 v3 h1 q4 eq4) (cwV 1 X.1.2.2.2.2 gX8_set_X8_well rfl rfl rfl hdV_X8_well ⟨(Nat.le_of_ble_eq_true rfl), (Nat.le_of_ble_eq_true rfl)⟩) rfl hl.1 rfl (Nat.le_of_ble_eq_true rfl) dX8_set_102 ⟨Nat.zero_le _, Nat.zero_le _⟩ (fun H locs G => ?_)
  exact zretI X hr hlk G hf dX8_set_105
set_option maxHeartbeats 4000000 in
set_option maxRecDepth 100000 in
theorem m_X8_set (l : Launch) (D : va_G) (dA : Nat → ClassId) (b0 : Nat) (r0 : Nat) (a1 : Int32) (a2 : Int32) (a3 : Int32) (h : zH) (z : Int32 × zH) (hf : f_X8_set r0 a1 a2 a3 h = some z) : Met l yX8_set wsX8_set rmX8_set (zPc D dA b0 [.ref (b0 + r0), .int a1, .int a2, .int a3] h) (zQ D dA b0 (some (.int z.1)) z.2) 0 0 (zA b0) := by
  refine Met.ofW (cc := cX8_set) (maxL := 4) (ret := (some .int)) (by decide) rfl ?_
  intro p e s m args below meth c s₁ B hml hv
  obtain ⟨rfl, hP, hz, hK, hN⟩ := hv
  have hr := B.returns
  have hlk := B.notSynchronized
  have X : zX p s m _ c cX8_set 4 RX8 wsX8_set D dA := ⟨⟨B.exec, B.bytes, hml, findClass_of_methodNamed B.named, atoms_spec (ws := wsX8_set) B.pre⟩, hK, hN⟩
  have G : zG D dA b0 s.heap h s.heap [] := ⟨hP, hz, va_S.rf⟩
  have hl := lv_entry ([.ref (b0 + r0), .int a1, .int a2, .int a3]) (n := 4) (Nat.le_of_ble_eq_true rfl)
  rw [lg_entry_eq]
  generalize (lg_sl ([.ref (b0 + r0), .int a1, .int a2, .int a3]) ++ List.replicate (4 - (lg_sl ([.ref (b0 + r0), .int a1, .int a2, .int a3])).length) Slot.unset).toArray = ls at hl ⊢
  have hl : lv_has ls 4 [(0, .ref (b0 + r0)), (1, .int a1), (2, .int a2), (3, .int a3)] := hl
  unfold f_X8_set at hf
  refine lv_iload_n X.1.1 X.1.2.1 dX8_set_0 rfl (lv_at hl 1 rfl) ?_
  obtain ⟨q1, eq1, hf⟩ := Option.bind_eq_some_iff.mp hf
  refine zcS0 (As := [.int a1]) (rest := []) (v := (some (.int q1))) (h' := h) X G (m_X8_isRow l D dA b0 a1 h q1 eq1) (va_cwS 1 X.1.2.2.2.2 gX8_set_X8_isRow rfl rfl rfl hdS_X8_isRow ⟨(Nat.le_of_ble_eq_true rfl), (Nat.le_of_ble_eq_true rfl)⟩) rfl hl.1 rfl (Nat.le_of_ble_eq_true rfl) dX8_set_1 ⟨Nat.zero_le _, Nat.zero_le _⟩ (fun H locs G => ?_)
  refine zif_ne (tgt := 10) X dX8_set_4 (by decide) hf (fun hf => ?_) (fun hf => ?_)
  · refine lv_aload_n X.1.1 X.1.2.1 dX8_set_10 rfl (lv_at hl 0 rfl) ?_
    refine zgetR (ci := 8) (k := 1) (C := RX8) (T := TX8) (N := 24) X G rfl inX8_set_X8 (Nat.le_of_ble_eq_true rfl) flX8_set_13 dX8_set_11 hf (fun v2 hf => ?_)
    refine lv_iload_n X.1.1 X.1.2.1 dX8_set_14 rfl (lv_at hl 1 rfl) ?_
    refine ziald X G dX8_set_15 hf (fun v3 hf => ?_)
    refine zif_ge (tgt := 25) X dX8_set_16 (by decide) hf (fun hf => ?_) (fun hf => ?_)
    · refine lv_iload_n X.1.1 X.1.2.1 dX8_set_25 rfl (lv_at hl 2 rfl) ?_
      refine lv_i2l X.1.1 X.1.2.1 dX8_set_26 rfl ?_
      refine lv_lconst (v := 0) X.1.1 X.1.2.1 dX8_set_27 (by decide) ?_
      refine lv_aload_n X.1.1 X.1.2.1 dX8_set_28 rfl (lv_at hl 0 rfl) ?_
      refine zgetR (ci := 8) (k := 1) (C := RX8) (T := TX8) (N := 24) X G rfl inX8_set_X8 (Nat.le_of_ble_eq_true rfl) flX8_set_13 dX8_set_29 hf (fun v4 hf => ?_)
      refine lv_iload_n X.1.1 X.1.2.1 dX8_set_32 rfl (lv_at hl 1 rfl) ?_
      refine ziald X G dX8_set_33 hf (fun v5 hf => ?_)
      refine lv_iconst (v := 1) X.1.1 X.1.2.1 dX8_set_34 (by decide) ?_
      refine lv_isub X.1.1 X.1.2.1 dX8_set_35 ?_
      refine lv_i2l X.1.1 X.1.2.1 dX8_set_36 rfl ?_
      obtain ⟨q6, eq6, hf⟩ := Option.bind_eq_some_iff.mp hf
      refine zcS0 (As := [.long (Int32.toInt64 a2), .long (0 : Int64), .long (Int32.toInt64 (v5 - (1 : Int32)))]) (rest := []) (v := (some (.int q6))) (h' := h) X G (m_X8_in l D dA b0 ((Int32.toInt64 a2)) (0 : Int64) ((Int32.toInt64 (v5 - (1 : Int32)))) h q6 eq6) (va_cwS 3 X.1.2.2.2.2 gX8_set_X8_in rfl rfl rfl hdS_X8_in ⟨(Nat.le_of_ble_eq_true rfl), (Nat.le_of_ble_eq_true rfl)⟩) rfl hl.1 rfl (Nat.le_of_ble_eq_true rfl) dX8_set_37 ⟨Nat.zero_le _, Nat.zero_le _⟩ (fun H locs G => ?_)
      refine zif_ne (tgt := 49) X dX8_set_40 (by decide) hf (fun hf => ?_) (fun hf => ?_)
      · refine lv_aload_n X.1.1 X.1.2.1 dX8_set_49 rfl (lv_at hl 0 rfl) ?_
        refine zgetR (ci := 8) (k := 2) (C := RX8) (T := TX8) (N := 24) X G rfl inX8_set_X8 (Nat.le_of_ble_eq_true rfl) flX8_set_16 dX8_set_50 hf (fun v7 hf => ?_)
        refine lv_bipush (v := 40) X.1.1 X.1.2.1 dX8_set_53 (by decide) ?_
        refine lv_iload_n X.1.1 X.1.2.1 dX8_set_55 rfl (lv_at hl 1 rfl) ?_
        refine lv_imul X.1.1 X.1.2.1 dX8_set_56 ?_
        refine lv_iload_n X.1.1 X.1.2.1 dX8_set_57 rfl (lv_at hl 2 rfl) ?_
        refine lv_iadd X.1.1 X.1.2.1 dX8_set_58 ?_
        refine lv_aload_n X.1.1 X.1.2.1 dX8_set_59 rfl (lv_at hl 0 rfl) ?_
        refine zgetR (ci := 8) (k := 0) (C := RX8) (T := TX8) (N := 24) X G rfl inX8_set_X8 (Nat.le_of_ble_eq_true rfl) flX8_set_7 dX8_set_60 hf (fun v8 hf => ?_)
        refine lv_iload_n X.1.1 X.1.2.1 dX8_set_63 rfl (lv_at hl 1 rfl) ?_
        refine ziald X G dX8_set_64 hf (fun v9 hf => ?_)
        refine zif_ne (tgt := 73) X dX8_set_65 (by decide) hf (fun hf => ?_) (fun hf => ?_)
        · refine lv_aload_n X.1.1 X.1.2.1 dX8_set_73 rfl (lv_at hl 0 rfl) ?_
          refine zgetR (ci := 8) (k := 0) (C := RX8) (T := TX8) (N := 24) X G rfl inX8_set_X8 (Nat.le_of_ble_eq_true rfl) flX8_set_7 dX8_set_74 hf (fun v10 hf => ?_)
          refine lv_iload_n X.1.1 X.1.2.1 dX8_set_77 rfl (lv_at hl 1 rfl) ?_
          refine ziald X G dX8_set_78 hf (fun v11 hf => ?_)
          refine lv_iconst (v := 1) X.1.1 X.1.2.1 dX8_set_79 (by decide) ?_
          refine zic_ne (tgt := 88) X dX8_set_80 (by decide) hf (fun hf => ?_) (fun hf => ?_)
          · refine lv_iload_n X.1.1 X.1.2.1 dX8_set_88 rfl (lv_at hl 3 rfl) ?_
            exact w_X8_set_b89 X hr hlk _ _ _ _ _ _ _ _ _ _ hf G (lv_sub hl [0, 1, 2] rfl)
          · refine lv_iload_n X.1.1 X.1.2.1 dX8_set_83 rfl (lv_at hl 3 rfl) ?_
            refine lv_i2s X.1.1 X.1.2.1 dX8_set_84 rfl ?_
            refine lv_goto (tgt := 89) X.1.1 X.1.2.1 dX8_set_85 (by decide) ?_
            exact w_X8_set_b89 X hr hlk _ _ _ _ _ _ _ _ _ _ hf G (lv_sub hl [0, 1, 2] rfl)
        · refine lv_iload_n X.1.1 X.1.2.1 dX8_set_68 rfl (lv_at hl 3 rfl) ?_
          refine lv_i2b X.1.1 X.1.2.1 dX8_set_69 rfl ?_
          refine lv_goto (tgt := 89) X.1.1 X.1.2.1 dX8_set_70 (by decide) ?_
          exact w_X8_set_b89 X hr hlk _ _ _ _ _ _ _ _ _ _ hf G (lv_sub hl [0, 1, 2] rfl)
      · refine lv_aload_n X.1.1 X.1.2.1 dX8_set_43 rfl (lv_at hl 0 rfl) ?_
        refine lv_iconst (v := 2) X.1.1 X.1.2.1 dX8_set_44 (by decide) ?_
        obtain ⟨hk, hf⟩ := zck hf
        obtain ⟨q12, eq12, hf⟩ := Option.bind_eq_some_iff.mp hf
        refine zcV0 (As := [.int (2 : Int32)]) (rest := []) (v := (some (.int q12.1))) (h' := q12.2) X G (rfl : vwCl[8]? = some (RX8, TX8, 24)) hk (m_X8_found l D dA b0 r0 (2 : Int32) h q12 eq12) (cwV 1 X.1.2.2.2.2 gX8_set_X8_found rfl rfl rfl hdV_X8_found ⟨(Nat.le_of_ble_eq_true rfl), (Nat.le_of_ble_eq_true rfl)⟩) rfl hl.1 rfl (Nat.le_of_ble_eq_true rfl) dX8_set_45 ⟨Nat.zero_le _, Nat.zero_le _⟩ (fun H locs G => ?_)
        exact zretI X hr hlk G hf dX8_set_48
    · refine lv_aload_n X.1.1 X.1.2.1 dX8_set_19 rfl (lv_at hl 0 rfl) ?_
      refine lv_iconst (v := 1) X.1.1 X.1.2.1 dX8_set_20 (by decide) ?_
      obtain ⟨hk, hf⟩ := zck hf
      obtain ⟨q13, eq13, hf⟩ := Option.bind_eq_some_iff.mp hf
      refine zcV0 (As := [.int (1 : Int32)]) (rest := []) (v := (some (.int q13.1))) (h' := q13.2) X G (rfl : vwCl[8]? = some (RX8, TX8, 24)) hk (m_X8_found l D dA b0 r0 (1 : Int32) h q13 eq13) (cwV 1 X.1.2.2.2.2 gX8_set_X8_found rfl rfl rfl hdV_X8_found ⟨(Nat.le_of_ble_eq_true rfl), (Nat.le_of_ble_eq_true rfl)⟩) rfl hl.1 rfl (Nat.le_of_ble_eq_true rfl) dX8_set_21 ⟨Nat.zero_le _, Nat.zero_le _⟩ (fun H locs G => ?_)
      exact zretI X hr hlk G hf dX8_set_24
  · refine lv_ldc (v := -1000001) X.1.1 X.1.2.1 X.1.2.2.2.1 (X.1.2.2.2.2 _ coX8_set_70) dX8_set_7 ?_
    exact zretI X hr hlk G hf dX8_set_9
/-! X8_copy -/
abbrev rmX8_copy : Room := { frames := 2, cells := 0, slots := 0, locals := 45 }
theorem hdV_X8_copy : yX8_copy.cls = RX8 ∧ yX8_copy.cls ≠ "java/lang/invoke/MethodHandle" ∧ yX8_copy.cls ≠ "java/lang/invoke/VarHandle" ∧ (parseMethodDescriptor yX8_copy.desc).map (fun d => d.parameters.length) = some 5 := by decide +kernel
theorem inX8_copy_X8 : ∀ w ∈ wsX80, w ∈ wsX8_copy := by decide +kernel
theorem flX8_copy_16 : Cond.fieldLink RX8 16 (TX8 2).1 (TX8 2).2.1 (TX8 2).2.2.1 ∈ wsX8_copy := by decide +kernel
theorem coX8_copy_70 : Cond.constant RX8 70 (-1000001) ∈ wsX8_copy := by decide +kernel
theorem flX8_copy_13 : Cond.fieldLink RX8 13 (TX8 1).1 (TX8 1).2.1 (TX8 1).2.2.1 ∈ wsX8_copy := by decide +kernel
theorem flX8_copy_7 : Cond.fieldLink RX8 7 (TX8 0).1 (TX8 0).2.1 (TX8 0).2.2.1 ∈ wsX8_copy := by decide +kernel
set_option maxHeartbeats 4000000 in
set_option maxRecDepth 100000 in
theorem w_X8_copy_b35 {p : Program} {l : Launch} {e : Env} {s : State} {m : MethodId} {args : Array Value} {below : List Frame} {meth : Method} {c : Code} {D : va_G} {dA : Nat → ClassId} {b0 : Nat} (X : zX p s m args c cX8_copy 8 RX8 wsX8_copy D dA) (hr : meth.sig.returnType = (some .int)) (hlk : meth.locks = false) {z : Int32 × zH} : ∀ (r0 : Nat) (h : zH) (H : Heap) (locs : List Loc) (ls : Array Slot), f_X8_copy_b35 r0 h = some z → zG D dA b0 s.heap h H locs → lv_has ls 8 [(0, .ref (b0 + r0))] → W p l e rmX8_copy s m args below meth c H locs 0 0 (MQ below (zQ D dA b0 (some (.int z.1)) z.2) args s 0 0 (zA b0)) (F0 m 35 ls []) := by
  intro r0 h H locs ls hf G hl
  unfold f_X8_copy_b35 at hf
  refine lv_aload_n X.1.1 X.1.2.1 dX8_copy_35 rfl (lv_at hl 0 rfl) ?_
  refine lv_iconst (v := 1) X.1.1 X.1.2.1 dX8_copy_36 (by decide) ?_
  obtain ⟨hk, hf⟩ := zck hf
  obtain ⟨q1, eq1, hf⟩ := Option.bind_eq_some_iff.mp hf
  refine zcV0 (As := [.int (1 : Int32)]) (rest := []) (v := (some (.int q1.1))) (h' := q1.2) X G (rfl : vwCl[8]? = some (RX8, TX8, 24)) hk (m_X8_found l D dA b0 r0 (1 : Int32) h q1 eq1) (cwV 1 X.1.2.2.2.2 gX8_copy_X8_found rfl rfl rfl hdV_X8_found ⟨(Nat.le_of_ble_eq_true rfl), (Nat.le_of_ble_eq_true rfl)⟩) rfl hl.1 rfl (Nat.le_of_ble_eq_true rfl) dX8_copy_37 ⟨Nat.zero_le _, Nat.zero_le _⟩ (fun H locs G => ?_)
  exact zretI X hr hlk G hf dX8_copy_40
set_option maxHeartbeats 4000000 in
set_option maxRecDepth 100000 in
theorem w_X8_copy_b111 {p : Program} {l : Launch} {e : Env} {s : State} {m : MethodId} {args : Array Value} {below : List Frame} {meth : Method} {c : Code} {D : va_G} {dA : Nat → ClassId} {b0 : Nat} (X : zX p s m args c cX8_copy 8 RX8 wsX8_copy D dA) (hr : meth.sig.returnType = (some .int)) (hlk : meth.locks = false) {z : Int32 × zH} : ∀ (r0 : Nat) (h : zH) (H : Heap) (locs : List Loc) (ls : Array Slot), f_X8_copy_b111 r0 h = some z → zG D dA b0 s.heap h H locs → lv_has ls 8 [(0, .ref (b0 + r0))] → W p l e rmX8_copy s m args below meth c H locs 0 0 (MQ below (zQ D dA b0 (some (.int z.1)) z.2) args s 0 0 (zA b0)) (F0 m 111 ls []) := by
  intro r0 h H locs ls hf G hl
  unfold f_X8_copy_b111 at hf
  refine lv_aload_n X.1.1 X.1.2.1 dX8_copy_111 rfl (lv_at hl 0 rfl) ?_
  refine lv_iconst (v := 2) X.1.1 X.1.2.1 dX8_copy_112 (by decide) ?_
  obtain ⟨hk, hf⟩ := zck hf
  obtain ⟨q1, eq1, hf⟩ := Option.bind_eq_some_iff.mp hf
  refine zcV0 (As := [.int (2 : Int32)]) (rest := []) (v := (some (.int q1.1))) (h' := q1.2) X G (rfl : vwCl[8]? = some (RX8, TX8, 24)) hk (m_X8_found l D dA b0 r0 (2 : Int32) h q1 eq1) (cwV 1 X.1.2.2.2.2 gX8_copy_X8_found rfl rfl rfl hdV_X8_found ⟨(Nat.le_of_ble_eq_true rfl), (Nat.le_of_ble_eq_true rfl)⟩) rfl hl.1 rfl (Nat.le_of_ble_eq_true rfl) dX8_copy_113 ⟨Nat.zero_le _, Nat.zero_le _⟩ (fun H locs G => ?_)
  exact zretI X hr hlk G hf dX8_copy_116
set_option maxHeartbeats 4000000 in
set_option maxRecDepth 100000 in
theorem w_X8_copy_b145 {p : Program} {l : Launch} {e : Env} {s : State} {m : MethodId} {args : Array Value} {below : List Frame} {meth : Method} {c : Code} {D : va_G} {dA : Nat → ClassId} {b0 : Nat} (X : zX p s m args c cX8_copy 8 RX8 wsX8_copy D dA) (hr : meth.sig.returnType = (some .int)) (hlk : meth.locks = false) {z : Int32 × zH} (k120 : Nat → Int32 → Int32 → Int32 → Int32 → Int32 → Int32 → zH → Option (Int32 × zH)) (hk120 : ∀ (r0 : Nat) (a1 : Int32) (a2 : Int32) (a3 : Int32) (a4 : Int32) (a5 : Int32) (a6 : Int32) (h : zH) (H : Heap) (locs : List Loc) (ls : Array Slot), k120 r0 a1 a2 a3 a4 a5 a6 h = some z → zG D dA b0 s.heap h H locs → lv_has ls 8 [(0, .ref (b0 + r0)), (1, .int a1), (2, .int a2), (3, .int a3), (4, .int a4), (5, .int a5), (6, .int a6)] → W p l e rmX8_copy s m args below meth c H locs 0 0 (MQ below (zQ D dA b0 (some (.int z.1)) z.2) args s 0 0 (zA b0)) (F0 m 120 ls [])) : ∀ (r0 : Nat) (a1 : Int32) (a2 : Int32) (a3 : Int32) (a4 : Int32) (a5 : Int32) (a6 : Int32) (s0 : Int32) (h : zH) (H : Heap) (locs : List Loc) (ls : Array Slot), f_X8_copy_b145 k120 r0 a1 a2 a3 a4 a5 a6 s0 h = some z → zG D dA b0 s.heap h H locs → lv_has ls 8 [(0, .ref (b0 + r0)), (1, .int a1), (2, .int a2), (3, .int a3), (4, .int a4), (5, .int a5), (6, .int a6)] → W p l e rmX8_copy s m args below meth c H locs 0 0 (MQ below (zQ D dA b0 (some (.int z.1)) z.2) args s 0 0 (zA b0)) (F0 m 145 ls [.int s0]) := by
  intro r0 a1 a2 a3 a4 a5 a6 s0 h H locs ls hf G hl
  unfold f_X8_copy_b145 at hf
  refine lv_istore (lv' := [(7, .int s0), (0, .ref (b0 + r0)), (1, .int a1), (2, .int a2), (3, .int a3), (4, .int a4), (5, .int a5), (6, .int a6)]) X.1.1 X.1.2.1 dX8_copy_145 hl (by decide) rfl (fun ls hl => ?_)
  refine lv_aload_n X.1.1 X.1.2.1 dX8_copy_147 rfl (lv_at hl 1 rfl) ?_
  refine zgetR (ci := 8) (k := 2) (C := RX8) (T := TX8) (N := 24) X G rfl inX8_copy_X8 (Nat.le_of_ble_eq_true rfl) flX8_copy_16 dX8_copy_148 hf (fun v1 hf => ?_)
  refine lv_bipush (v := 40) X.1.1 X.1.2.1 dX8_copy_151 (by decide) ?_
  refine lv_iload_n X.1.1 X.1.2.1 dX8_copy_153 rfl (lv_at hl 4 rfl) ?_
  refine lv_imul X.1.1 X.1.2.1 dX8_copy_154 ?_
  refine lv_iload X.1.1 X.1.2.1 dX8_copy_155 (lv_at hl 5 rfl) ?_
  refine lv_iadd X.1.1 X.1.2.1 dX8_copy_157 ?_
  refine lv_iload X.1.1 X.1.2.1 dX8_copy_158 (lv_at hl 0 rfl) ?_
  refine lv_iadd X.1.1 X.1.2.1 dX8_copy_160 ?_
  refine lv_aload_n X.1.1 X.1.2.1 dX8_copy_161 rfl (lv_at hl 1 rfl) ?_
  refine zgetR (ci := 8) (k := 2) (C := RX8) (T := TX8) (N := 24) X G rfl inX8_copy_X8 (Nat.le_of_ble_eq_true rfl) flX8_copy_16 dX8_copy_162 hf (fun v2 hf => ?_)
  refine lv_bipush (v := 40) X.1.1 X.1.2.1 dX8_copy_165 (by decide) ?_
  refine lv_iload_n X.1.1 X.1.2.1 dX8_copy_167 rfl (lv_at hl 2 rfl) ?_
  refine lv_imul X.1.1 X.1.2.1 dX8_copy_168 ?_
  refine lv_iload_n X.1.1 X.1.2.1 dX8_copy_169 rfl (lv_at hl 3 rfl) ?_
  refine lv_iadd X.1.1 X.1.2.1 dX8_copy_170 ?_
  refine lv_iload X.1.1 X.1.2.1 dX8_copy_171 (lv_at hl 0 rfl) ?_
  refine lv_iadd X.1.1 X.1.2.1 dX8_copy_173 ?_
  refine ziald X G dX8_copy_174 hf (fun v3 hf => ?_)
  refine ziast X G dX8_copy_175 hf (fun h4 H locs hf G => ?_)
  refine lv_iinc (v := (a6 + (1 : Int32))) (lv' := [(6, .int (a6 + (1 : Int32))), (7, .int s0), (0, .ref (b0 + r0)), (1, .int a1), (2, .int a2), (3, .int a3), (4, .int a4), (5, .int a5)]) X.1.1 X.1.2.1 dX8_copy_176 hl (k := 7) rfl rfl (by decide) rfl (fun ls hl => ?_)
  refine lv_goto (tgt := 120) X.1.1 X.1.2.1 dX8_copy_179 (by decide) ?_
  exact hk120 _ _ _ _ _ _ _ _ _ _ _ hf G (lv_sub hl [2, 3, 4, 5, 6, 7, 0] rfl)
set_option maxHeartbeats 4000000 in
set_option maxRecDepth 100000 in
theorem w_X8_copy_b120 {p : Program} {l : Launch} {e : Env} {s : State} {m : MethodId} {args : Array Value} {below : List Frame} {meth : Method} {c : Code} {D : va_G} {dA : Nat → ClassId} {b0 : Nat} (X : zX p s m args c cX8_copy 8 RX8 wsX8_copy D dA) (hr : meth.sig.returnType = (some .int)) (hlk : meth.locks = false) {z : Int32 × zH} : ∀ (n : Nat), ∀ (r0 : Nat) (a1 : Int32) (a2 : Int32) (a3 : Int32) (a4 : Int32) (a5 : Int32) (a6 : Int32) (h : zH) (H : Heap) (locs : List Loc) (ls : Array Slot), f_X8_copy_b120 n r0 a1 a2 a3 a4 a5 a6 h = some z → zG D dA b0 s.heap h H locs → lv_has ls 8 [(0, .ref (b0 + r0)), (1, .int a1), (2, .int a2), (3, .int a3), (4, .int a4), (5, .int a5), (6, .int a6)] → W p l e rmX8_copy s m args below meth c H locs 0 0 (MQ below (zQ D dA b0 (some (.int z.1)) z.2) args s 0 0 (zA b0)) (F0 m 120 ls []) := by
  intro n
  induction n with
  | zero =>
    intro r0 a1 a2 a3 a4 a5 a6 h H locs ls hf
    cases hf
  | succ n ih =>
    intro r0 a1 a2 a3 a4 a5 a6 h H locs ls hf G hl
    rw [f_X8_copy_b120] at hf
    refine lv_iload X.1.1 X.1.2.1 dX8_copy_120 (lv_at hl 6 rfl) ?_
    refine lv_iload X.1.1 X.1.2.1 dX8_copy_122 (lv_at hl 5 rfl) ?_
    refine zic_ge (tgt := 182) X dX8_copy_124 (by decide) hf (fun hf => ?_) (fun hf => ?_)
    · refine lv_aload_n X.1.1 X.1.2.1 dX8_copy_182 rfl (lv_at hl 0 rfl) ?_
      refine lv_iload X.1.1 X.1.2.1 dX8_copy_183 (lv_at hl 5 rfl) ?_
      obtain ⟨hk, hf⟩ := zck hf
      obtain ⟨q1, eq1, hf⟩ := Option.bind_eq_some_iff.mp hf
      refine zcV0 (As := [.int a5]) (rest := []) (v := (some (.int q1.1))) (h' := q1.2) X G (rfl : vwCl[8]? = some (RX8, TX8, 24)) hk (m_X8_well l D dA b0 r0 a5 h q1 eq1) (cwV 1 X.1.2.2.2.2 gX8_copy_X8_well rfl rfl rfl hdV_X8_well ⟨(Nat.le_of_ble_eq_true rfl), (Nat.le_of_ble_eq_true rfl)⟩) rfl hl.1 rfl (Nat.le_of_ble_eq_true rfl) dX8_copy_185 ⟨Nat.zero_le _, Nat.zero_le _⟩ (fun H locs G => ?_)
      exact zretI X hr hlk G hf dX8_copy_188
    · refine lv_iload X.1.1 X.1.2.1 dX8_copy_127 (lv_at hl 4 rfl) ?_
      refine lv_iload_n X.1.1 X.1.2.1 dX8_copy_129 rfl (lv_at hl 2 rfl) ?_
      refine zic_le (tgt := 143) X dX8_copy_130 (by decide) hf (fun hf => ?_) (fun hf => ?_)
      · refine lv_iload X.1.1 X.1.2.1 dX8_copy_143 (lv_at hl 6 rfl) ?_
        exact w_X8_copy_b145 X hr hlk _ ih _ _ _ _ _ _ _ _ _ _ _ _ hf G hl
      · refine lv_iload X.1.1 X.1.2.1 dX8_copy_133 (lv_at hl 5 rfl) ?_
        refine lv_iconst (v := 1) X.1.1 X.1.2.1 dX8_copy_135 (by decide) ?_
        refine lv_isub X.1.1 X.1.2.1 dX8_copy_136 ?_
        refine lv_iload X.1.1 X.1.2.1 dX8_copy_137 (lv_at hl 6 rfl) ?_
        refine lv_isub X.1.1 X.1.2.1 dX8_copy_139 ?_
        refine lv_goto (tgt := 145) X.1.1 X.1.2.1 dX8_copy_140 (by decide) ?_
        exact w_X8_copy_b145 X hr hlk _ ih _ _ _ _ _ _ _ _ _ _ _ _ hf G hl
set_option maxHeartbeats 4000000 in
set_option maxRecDepth 100000 in
theorem m_X8_copy (l : Launch) (D : va_G) (dA : Nat → ClassId) (b0 : Nat) (r0 : Nat) (a1 : Int32) (a2 : Int32) (a3 : Int32) (a4 : Int32) (a5 : Int32) (h : zH) (z : Int32 × zH) (hf : f_X8_copy r0 a1 a2 a3 a4 a5 h = some z) : Met l yX8_copy wsX8_copy rmX8_copy (zPc D dA b0 [.ref (b0 + r0), .int a1, .int a2, .int a3, .int a4, .int a5] h) (zQ D dA b0 (some (.int z.1)) z.2) 0 0 (zA b0) := by
  refine Met.ofW (cc := cX8_copy) (maxL := 8) (ret := (some .int)) (by decide) rfl ?_
  intro p e s m args below meth c s₁ B hml hv
  obtain ⟨rfl, hP, hz, hK, hN⟩ := hv
  have hr := B.returns
  have hlk := B.notSynchronized
  have X : zX p s m _ c cX8_copy 8 RX8 wsX8_copy D dA := ⟨⟨B.exec, B.bytes, hml, findClass_of_methodNamed B.named, atoms_spec (ws := wsX8_copy) B.pre⟩, hK, hN⟩
  have G : zG D dA b0 s.heap h s.heap [] := ⟨hP, hz, va_S.rf⟩
  have hl := lv_entry ([.ref (b0 + r0), .int a1, .int a2, .int a3, .int a4, .int a5]) (n := 8) (Nat.le_of_ble_eq_true rfl)
  rw [lg_entry_eq]
  generalize (lg_sl ([.ref (b0 + r0), .int a1, .int a2, .int a3, .int a4, .int a5]) ++ List.replicate (8 - (lg_sl ([.ref (b0 + r0), .int a1, .int a2, .int a3, .int a4, .int a5])).length) Slot.unset).toArray = ls at hl ⊢
  have hl : lv_has ls 8 [(0, .ref (b0 + r0)), (1, .int a1), (2, .int a2), (3, .int a3), (4, .int a4), (5, .int a5)] := hl
  unfold f_X8_copy at hf
  refine lv_iload_n X.1.1 X.1.2.1 dX8_copy_0 rfl (lv_at hl 1 rfl) ?_
  obtain ⟨q1, eq1, hf⟩ := Option.bind_eq_some_iff.mp hf
  refine zcS0 (As := [.int a1]) (rest := []) (v := (some (.int q1))) (h' := h) X G (m_X8_isRow l D dA b0 a1 h q1 eq1) (va_cwS 1 X.1.2.2.2.2 gX8_copy_X8_isRow rfl rfl rfl hdS_X8_isRow ⟨(Nat.le_of_ble_eq_true rfl), (Nat.le_of_ble_eq_true rfl)⟩) rfl hl.1 rfl (Nat.le_of_ble_eq_true rfl) dX8_copy_1 ⟨Nat.zero_le _, Nat.zero_le _⟩ (fun H locs G => ?_)
  refine zif_eq (tgt := 14) X dX8_copy_4 (by decide) hf (fun hf => ?_) (fun hf => ?_)
  · refine lv_ldc (v := -1000001) X.1.1 X.1.2.1 X.1.2.2.2.1 (X.1.2.2.2.2 _ coX8_copy_70) dX8_copy_14 ?_
    exact zretI X hr hlk G hf dX8_copy_16
  · refine lv_iload_n X.1.1 X.1.2.1 dX8_copy_7 rfl (lv_at hl 3 rfl) ?_
    obtain ⟨q2, eq2, hf⟩ := Option.bind_eq_some_iff.mp hf
    refine zcS0 (As := [.int a3]) (rest := []) (v := (some (.int q2))) (h' := h) X G (m_X8_isRow l D dA b0 a3 h q2 eq2) (va_cwS 1 X.1.2.2.2.2 gX8_copy_X8_isRow rfl rfl rfl hdS_X8_isRow ⟨(Nat.le_of_ble_eq_true rfl), (Nat.le_of_ble_eq_true rfl)⟩) rfl hl.1 rfl (Nat.le_of_ble_eq_true rfl) dX8_copy_8 ⟨Nat.zero_le _, Nat.zero_le _⟩ (fun H locs G => ?_)
    refine zif_ne (tgt := 17) X dX8_copy_11 (by decide) hf (fun hf => ?_) (fun hf => ?_)
    · refine lv_aload_n X.1.1 X.1.2.1 dX8_copy_17 rfl (lv_at hl 0 rfl) ?_
      refine zgetR (ci := 8) (k := 1) (C := RX8) (T := TX8) (N := 24) X G rfl inX8_copy_X8 (Nat.le_of_ble_eq_true rfl) flX8_copy_13 dX8_copy_18 hf (fun v3 hf => ?_)
      refine lv_iload_n X.1.1 X.1.2.1 dX8_copy_21 rfl (lv_at hl 1 rfl) ?_
      refine ziald X G dX8_copy_22 hf (fun v4 hf => ?_)
      refine zif_lt (tgt := 35) X dX8_copy_23 (by decide) hf (fun hf => ?_) (fun hf => ?_)
      · exact w_X8_copy_b35 X hr hlk _ _ _ _ _ hf G (lv_sub hl [0] rfl)
      · refine lv_aload_n X.1.1 X.1.2.1 dX8_copy_26 rfl (lv_at hl 0 rfl) ?_
        refine zgetR (ci := 8) (k := 1) (C := RX8) (T := TX8) (N := 24) X G rfl inX8_copy_X8 (Nat.le_of_ble_eq_true rfl) flX8_copy_13 dX8_copy_27 hf (fun v5 hf => ?_)
        refine lv_iload_n X.1.1 X.1.2.1 dX8_copy_30 rfl (lv_at hl 3 rfl) ?_
        refine ziald X G dX8_copy_31 hf (fun v6 hf => ?_)
        refine zif_ge (tgt := 41) X dX8_copy_32 (by decide) hf (fun hf => ?_) (fun hf => ?_)
        · refine lv_aload_n X.1.1 X.1.2.1 dX8_copy_41 rfl (lv_at hl 0 rfl) ?_
          refine zgetR (ci := 8) (k := 0) (C := RX8) (T := TX8) (N := 24) X G rfl inX8_copy_X8 (Nat.le_of_ble_eq_true rfl) flX8_copy_7 dX8_copy_42 hf (fun v7 hf => ?_)
          refine lv_iload_n X.1.1 X.1.2.1 dX8_copy_45 rfl (lv_at hl 1 rfl) ?_
          refine ziald X G dX8_copy_46 hf (fun v8 hf => ?_)
          refine lv_aload_n X.1.1 X.1.2.1 dX8_copy_47 rfl (lv_at hl 0 rfl) ?_
          refine zgetR (ci := 8) (k := 0) (C := RX8) (T := TX8) (N := 24) X G rfl inX8_copy_X8 (Nat.le_of_ble_eq_true rfl) flX8_copy_7 dX8_copy_48 hf (fun v9 hf => ?_)
          refine lv_iload_n X.1.1 X.1.2.1 dX8_copy_51 rfl (lv_at hl 3 rfl) ?_
          refine ziald X G dX8_copy_52 hf (fun v10 hf => ?_)
          refine zic_eq (tgt := 62) X dX8_copy_53 (by decide) hf (fun hf => ?_) (fun hf => ?_)
          · refine lv_iload_n X.1.1 X.1.2.1 dX8_copy_62 rfl (lv_at hl 2 rfl) ?_
            refine zif_lt (tgt := 111) X dX8_copy_63 (by decide) hf (fun hf => ?_) (fun hf => ?_)
            · exact w_X8_copy_b111 X hr hlk _ _ _ _ _ hf G (lv_sub hl [0] rfl)
            · refine lv_iload X.1.1 X.1.2.1 dX8_copy_66 (lv_at hl 4 rfl) ?_
              refine zif_lt (tgt := 111) X dX8_copy_68 (by decide) hf (fun hf => ?_) (fun hf => ?_)
              · exact w_X8_copy_b111 X hr hlk _ _ _ _ _ hf G (lv_sub hl [0] rfl)
              · refine lv_iload X.1.1 X.1.2.1 dX8_copy_71 (lv_at hl 5 rfl) ?_
                refine zif_lt (tgt := 111) X dX8_copy_73 (by decide) hf (fun hf => ?_) (fun hf => ?_)
                · exact w_X8_copy_b111 X hr hlk _ _ _ _ _ hf G (lv_sub hl [0] rfl)
                · refine lv_iload_n X.1.1 X.1.2.1 dX8_copy_76 rfl (lv_at hl 2 rfl) ?_
                  refine lv_i2l X.1.1 X.1.2.1 dX8_copy_77 rfl ?_
                  refine lv_iload X.1.1 X.1.2.1 dX8_copy_78 (lv_at hl 5 rfl) ?_
                  refine lv_i2l X.1.1 X.1.2.1 dX8_copy_80 rfl ?_
                  refine lv_ladd X.1.1 X.1.2.1 dX8_copy_81 ?_
                  refine lv_aload_n X.1.1 X.1.2.1 dX8_copy_82 rfl (lv_at hl 0 rfl) ?_
                  refine zgetR (ci := 8) (k := 1) (C := RX8) (T := TX8) (N := 24) X G rfl inX8_copy_X8 (Nat.le_of_ble_eq_true rfl) flX8_copy_13 dX8_copy_83 hf (fun v11 hf => ?_)
                  refine lv_iload_n X.1.1 X.1.2.1 dX8_copy_86 rfl (lv_at hl 1 rfl) ?_
                  refine ziald X G dX8_copy_87 hf (fun v12 hf => ?_)
                  refine lv_i2l X.1.1 X.1.2.1 dX8_copy_88 rfl ?_
                  refine W.lcmp X.1.1 X.1.2.1 dX8_copy_89 ?_
                  refine zif_gt (tgt := 111) X dX8_copy_90 (by decide) hf (fun hf => ?_) (fun hf => ?_)
                  · exact w_X8_copy_b111 X hr hlk _ _ _ _ _ hf G (lv_sub hl [0] rfl)
                  · refine lv_iload X.1.1 X.1.2.1 dX8_copy_93 (lv_at hl 4 rfl) ?_
                    refine lv_i2l X.1.1 X.1.2.1 dX8_copy_95 rfl ?_
                    refine lv_iload X.1.1 X.1.2.1 dX8_copy_96 (lv_at hl 5 rfl) ?_
                    refine lv_i2l X.1.1 X.1.2.1 dX8_copy_98 rfl ?_
                    refine lv_ladd X.1.1 X.1.2.1 dX8_copy_99 ?_
                    refine lv_aload_n X.1.1 X.1.2.1 dX8_copy_100 rfl (lv_at hl 0 rfl) ?_
                    refine zgetR (ci := 8) (k := 1) (C := RX8) (T := TX8) (N := 24) X G rfl inX8_copy_X8 (Nat.le_of_ble_eq_true rfl) flX8_copy_13 dX8_copy_101 hf (fun v13 hf => ?_)
                    refine lv_iload_n X.1.1 X.1.2.1 dX8_copy_104 rfl (lv_at hl 3 rfl) ?_
                    refine ziald X G dX8_copy_105 hf (fun v14 hf => ?_)
                    refine lv_i2l X.1.1 X.1.2.1 dX8_copy_106 rfl ?_
                    refine W.lcmp X.1.1 X.1.2.1 dX8_copy_107 ?_
                    refine zif_le (tgt := 117) X dX8_copy_108 (by decide) hf (fun hf => ?_) (fun hf => ?_)
                    · refine lv_iconst (v := 0) X.1.1 X.1.2.1 dX8_copy_117 (by decide) ?_
                      refine lv_istore (lv' := [(6, .int (0 : Int32)), (0, .ref (b0 + r0)), (1, .int a1), (2, .int a2), (3, .int a3), (4, .int a4), (5, .int a5)]) X.1.1 X.1.2.1 dX8_copy_118 hl (by decide) rfl (fun ls hl => ?_)
                      exact w_X8_copy_b120 X hr hlk _ _ _ _ _ _ _ _ _ _ _ _ hf G (lv_sub hl [1, 2, 3, 4, 5, 6, 0] rfl)
                    · exact w_X8_copy_b111 X hr hlk _ _ _ _ _ hf G (lv_sub hl [0] rfl)
          · refine lv_aload_n X.1.1 X.1.2.1 dX8_copy_56 rfl (lv_at hl 0 rfl) ?_
            refine lv_iconst (v := 5) X.1.1 X.1.2.1 dX8_copy_57 (by decide) ?_
            obtain ⟨hk, hf⟩ := zck hf
            obtain ⟨q15, eq15, hf⟩ := Option.bind_eq_some_iff.mp hf
            refine zcV0 (As := [.int (5 : Int32)]) (rest := []) (v := (some (.int q15.1))) (h' := q15.2) X G (rfl : vwCl[8]? = some (RX8, TX8, 24)) hk (m_X8_found l D dA b0 r0 (5 : Int32) h q15 eq15) (cwV 1 X.1.2.2.2.2 gX8_copy_X8_found rfl rfl rfl hdV_X8_found ⟨(Nat.le_of_ble_eq_true rfl), (Nat.le_of_ble_eq_true rfl)⟩) rfl hl.1 rfl (Nat.le_of_ble_eq_true rfl) dX8_copy_58 ⟨Nat.zero_le _, Nat.zero_le _⟩ (fun H locs G => ?_)
            exact zretI X hr hlk G hf dX8_copy_61
        · exact w_X8_copy_b35 X hr hlk _ _ _ _ _ hf G (lv_sub hl [0] rfl)
    · refine lv_ldc (v := -1000001) X.1.1 X.1.2.1 X.1.2.2.2.1 (X.1.2.2.2.2 _ coX8_copy_70) dX8_copy_14 ?_
      exact zretI X hr hlk G hf dX8_copy_16
/-! X8_drop -/
abbrev rmX8_drop : Room := { frames := 2, cells := 0, slots := 0, locals := 45 }
theorem hdV_X8_drop : yX8_drop.cls = RX8 ∧ yX8_drop.cls ≠ "java/lang/invoke/MethodHandle" ∧ yX8_drop.cls ≠ "java/lang/invoke/VarHandle" ∧ (parseMethodDescriptor yX8_drop.desc).map (fun d => d.parameters.length) = some 1 := by decide +kernel
theorem inX8_drop_X8 : ∀ w ∈ wsX80, w ∈ wsX8_drop := by decide +kernel
theorem flX8_drop_13 : Cond.fieldLink RX8 13 (TX8 1).1 (TX8 1).2.1 (TX8 1).2.2.1 ∈ wsX8_drop := by decide +kernel
theorem coX8_drop_70 : Cond.constant RX8 70 (-1000001) ∈ wsX8_drop := by decide +kernel
set_option maxHeartbeats 4000000 in
set_option maxRecDepth 100000 in
theorem m_X8_drop (l : Launch) (D : va_G) (dA : Nat → ClassId) (b0 : Nat) (r0 : Nat) (a1 : Int32) (h : zH) (z : Int32 × zH) (hf : f_X8_drop r0 a1 h = some z) : Met l yX8_drop wsX8_drop rmX8_drop (zPc D dA b0 [.ref (b0 + r0), .int a1] h) (zQ D dA b0 (some (.int z.1)) z.2) 0 0 (zA b0) := by
  refine Met.ofW (cc := cX8_drop) (maxL := 3) (ret := (some .int)) (by decide) rfl ?_
  intro p e s m args below meth c s₁ B hml hv
  obtain ⟨rfl, hP, hz, hK, hN⟩ := hv
  have hr := B.returns
  have hlk := B.notSynchronized
  have X : zX p s m _ c cX8_drop 3 RX8 wsX8_drop D dA := ⟨⟨B.exec, B.bytes, hml, findClass_of_methodNamed B.named, atoms_spec (ws := wsX8_drop) B.pre⟩, hK, hN⟩
  have G : zG D dA b0 s.heap h s.heap [] := ⟨hP, hz, va_S.rf⟩
  have hl := lv_entry ([.ref (b0 + r0), .int a1]) (n := 3) (Nat.le_of_ble_eq_true rfl)
  rw [lg_entry_eq]
  generalize (lg_sl ([.ref (b0 + r0), .int a1]) ++ List.replicate (3 - (lg_sl ([.ref (b0 + r0), .int a1])).length) Slot.unset).toArray = ls at hl ⊢
  have hl : lv_has ls 3 [(0, .ref (b0 + r0)), (1, .int a1)] := hl
  unfold f_X8_drop at hf
  refine lv_iload_n X.1.1 X.1.2.1 dX8_drop_0 rfl (lv_at hl 1 rfl) ?_
  obtain ⟨q1, eq1, hf⟩ := Option.bind_eq_some_iff.mp hf
  refine zcS0 (As := [.int a1]) (rest := []) (v := (some (.int q1))) (h' := h) X G (m_X8_isRow l D dA b0 a1 h q1 eq1) (va_cwS 1 X.1.2.2.2.2 gX8_drop_X8_isRow rfl rfl rfl hdS_X8_isRow ⟨(Nat.le_of_ble_eq_true rfl), (Nat.le_of_ble_eq_true rfl)⟩) rfl hl.1 rfl (Nat.le_of_ble_eq_true rfl) dX8_drop_1 ⟨Nat.zero_le _, Nat.zero_le _⟩ (fun H locs G => ?_)
  refine zif_ne (tgt := 10) X dX8_drop_4 (by decide) hf (fun hf => ?_) (fun hf => ?_)
  · refine lv_aload_n X.1.1 X.1.2.1 dX8_drop_10 rfl (lv_at hl 0 rfl) ?_
    refine zgetR (ci := 8) (k := 1) (C := RX8) (T := TX8) (N := 24) X G rfl inX8_drop_X8 (Nat.le_of_ble_eq_true rfl) flX8_drop_13 dX8_drop_11 hf (fun v2 hf => ?_)
    refine lv_iload_n X.1.1 X.1.2.1 dX8_drop_14 rfl (lv_at hl 1 rfl) ?_
    refine ziald X G dX8_drop_15 hf (fun v3 hf => ?_)
    refine zif_ge (tgt := 25) X dX8_drop_16 (by decide) hf (fun hf => ?_) (fun hf => ?_)
    · refine lv_aload_n X.1.1 X.1.2.1 dX8_drop_25 rfl (lv_at hl 0 rfl) ?_
      refine zgetR (ci := 8) (k := 1) (C := RX8) (T := TX8) (N := 24) X G rfl inX8_drop_X8 (Nat.le_of_ble_eq_true rfl) flX8_drop_13 dX8_drop_26 hf (fun v4 hf => ?_)
      refine lv_iload_n X.1.1 X.1.2.1 dX8_drop_29 rfl (lv_at hl 1 rfl) ?_
      refine ziald X G dX8_drop_30 hf (fun v5 hf => ?_)
      refine lv_istore_n (lv' := [(2, .int v5), (0, .ref (b0 + r0)), (1, .int a1)]) X.1.1 X.1.2.1 dX8_drop_31 rfl hl (by decide) rfl (fun ls hl => ?_)
      refine lv_aload_n X.1.1 X.1.2.1 dX8_drop_32 rfl (lv_at hl 1 rfl) ?_
      refine zgetR (ci := 8) (k := 1) (C := RX8) (T := TX8) (N := 24) X G rfl inX8_drop_X8 (Nat.le_of_ble_eq_true rfl) flX8_drop_13 dX8_drop_33 hf (fun v6 hf => ?_)
      refine lv_iload_n X.1.1 X.1.2.1 dX8_drop_36 rfl (lv_at hl 2 rfl) ?_
      refine lv_iconst (v := -1) X.1.1 X.1.2.1 dX8_drop_37 (by decide) ?_
      refine ziast X G dX8_drop_38 hf (fun h7 H locs hf G => ?_)
      refine lv_aload_n X.1.1 X.1.2.1 dX8_drop_39 rfl (lv_at hl 1 rfl) ?_
      refine lv_iload_n X.1.1 X.1.2.1 dX8_drop_40 rfl (lv_at hl 0 rfl) ?_
      obtain ⟨hk, hf⟩ := zck hf
      obtain ⟨q8, eq8, hf⟩ := Option.bind_eq_some_iff.mp hf
      refine zcV0 (As := [.int v5]) (rest := []) (v := (some (.int q8.1))) (h' := q8.2) X G (rfl : vwCl[8]? = some (RX8, TX8, 24)) hk (m_X8_well l D dA b0 r0 v5 h7 q8 eq8) (cwV 1 X.1.2.2.2.2 gX8_drop_X8_well rfl rfl rfl hdV_X8_well ⟨(Nat.le_of_ble_eq_true rfl), (Nat.le_of_ble_eq_true rfl)⟩) rfl hl.1 rfl (Nat.le_of_ble_eq_true rfl) dX8_drop_41 ⟨Nat.zero_le _, Nat.zero_le _⟩ (fun H locs G => ?_)
      exact zretI X hr hlk G hf dX8_drop_44
    · refine lv_aload_n X.1.1 X.1.2.1 dX8_drop_19 rfl (lv_at hl 0 rfl) ?_
      refine lv_iconst (v := 1) X.1.1 X.1.2.1 dX8_drop_20 (by decide) ?_
      obtain ⟨hk, hf⟩ := zck hf
      obtain ⟨q9, eq9, hf⟩ := Option.bind_eq_some_iff.mp hf
      refine zcV0 (As := [.int (1 : Int32)]) (rest := []) (v := (some (.int q9.1))) (h' := q9.2) X G (rfl : vwCl[8]? = some (RX8, TX8, 24)) hk (m_X8_found l D dA b0 r0 (1 : Int32) h q9 eq9) (cwV 1 X.1.2.2.2.2 gX8_drop_X8_found rfl rfl rfl hdV_X8_found ⟨(Nat.le_of_ble_eq_true rfl), (Nat.le_of_ble_eq_true rfl)⟩) rfl hl.1 rfl (Nat.le_of_ble_eq_true rfl) dX8_drop_21 ⟨Nat.zero_le _, Nat.zero_le _⟩ (fun H locs G => ?_)
      exact zretI X hr hlk G hf dX8_drop_24
  · refine lv_ldc (v := -1000001) X.1.1 X.1.2.1 X.1.2.2.2.1 (X.1.2.2.2.2 _ coX8_drop_70) dX8_drop_7 ?_
    exact zretI X hr hlk G hf dX8_drop_9
/-! X8_feed -/
abbrev rmX8_feed : Room := { frames := 1, cells := 0, slots := 0, locals := 25 }
theorem hdV_X8_feed : yX8_feed.cls = RX8 ∧ yX8_feed.cls ≠ "java/lang/invoke/MethodHandle" ∧ yX8_feed.cls ≠ "java/lang/invoke/VarHandle" ∧ (parseMethodDescriptor yX8_feed.desc).map (fun d => d.parameters.length) = some 1 := by decide +kernel
theorem clX8_feed_78 : Cond.constantLong RX8 78 (255) ∈ wsX8_feed := by decide +kernel
theorem inX8_feed_X8 : ∀ w ∈ wsX80, w ∈ wsX8_feed := by decide +kernel
theorem flX8_feed_80 : Cond.fieldLink RX8 80 (TX8 12).1 (TX8 12).2.1 (TX8 12).2.2.1 ∈ wsX8_feed := by decide +kernel
theorem flX8_feed_38 : Cond.fieldLink RX8 38 (TX8 11).1 (TX8 11).2.1 (TX8 11).2.2.1 ∈ wsX8_feed := by decide +kernel
theorem coX8_feed_83 : Cond.constant RX8 83 (-1000003) ∈ wsX8_feed := by decide +kernel
theorem coX8_feed_70 : Cond.constant RX8 70 (-1000001) ∈ wsX8_feed := by decide +kernel
set_option maxHeartbeats 4000000 in
set_option maxRecDepth 100000 in
theorem m_X8_feed (l : Launch) (D : va_G) (dA : Nat → ClassId) (b0 : Nat) (r0 : Nat) (a1 : Int32) (h : zH) (z : Int32 × zH) (hf : f_X8_feed r0 a1 h = some z) : Met l yX8_feed wsX8_feed rmX8_feed (zPc D dA b0 [.ref (b0 + r0), .int a1] h) (zQ D dA b0 (some (.int z.1)) z.2) 0 0 (zA b0) := by
  refine Met.ofW (cc := cX8_feed) (maxL := 2) (ret := (some .int)) (by decide) rfl ?_
  intro p e s m args below meth c s₁ B hml hv
  obtain ⟨rfl, hP, hz, hK, hN⟩ := hv
  have hr := B.returns
  have hlk := B.notSynchronized
  have X : zX p s m _ c cX8_feed 2 RX8 wsX8_feed D dA := ⟨⟨B.exec, B.bytes, hml, findClass_of_methodNamed B.named, atoms_spec (ws := wsX8_feed) B.pre⟩, hK, hN⟩
  have G : zG D dA b0 s.heap h s.heap [] := ⟨hP, hz, va_S.rf⟩
  have hl := lv_entry ([.ref (b0 + r0), .int a1]) (n := 2) (Nat.le_of_ble_eq_true rfl)
  rw [lg_entry_eq]
  generalize (lg_sl ([.ref (b0 + r0), .int a1]) ++ List.replicate (2 - (lg_sl ([.ref (b0 + r0), .int a1])).length) Slot.unset).toArray = ls at hl ⊢
  have hl : lv_has ls 2 [(0, .ref (b0 + r0)), (1, .int a1)] := hl
  unfold f_X8_feed at hf
  refine lv_iload_n X.1.1 X.1.2.1 dX8_feed_0 rfl (lv_at hl 1 rfl) ?_
  refine lv_i2l X.1.1 X.1.2.1 dX8_feed_1 rfl ?_
  refine lv_lconst (v := 0) X.1.1 X.1.2.1 dX8_feed_2 (by decide) ?_
  refine lv_ldc2 (v := 255) X.1.1 X.1.2.1 X.1.2.2.2.1 (X.1.2.2.2.2 _ clX8_feed_78) dX8_feed_3 ?_
  obtain ⟨q1, eq1, hf⟩ := Option.bind_eq_some_iff.mp hf
  refine zcS0 (As := [.long (Int32.toInt64 a1), .long (0 : Int64), .long (255 : Int64)]) (rest := []) (v := (some (.int q1))) (h' := h) X G (m_X8_in l D dA b0 ((Int32.toInt64 a1)) (0 : Int64) (255 : Int64) h q1 eq1) (va_cwS 3 X.1.2.2.2.2 gX8_feed_X8_in rfl rfl rfl hdS_X8_in ⟨(Nat.le_of_ble_eq_true rfl), (Nat.le_of_ble_eq_true rfl)⟩) rfl hl.1 rfl (Nat.le_of_ble_eq_true rfl) dX8_feed_6 ⟨Nat.zero_le _, Nat.zero_le _⟩ (fun H locs G => ?_)
  refine zif_ne (tgt := 15) X dX8_feed_9 (by decide) hf (fun hf => ?_) (fun hf => ?_)
  · refine lv_aload_n X.1.1 X.1.2.1 dX8_feed_15 rfl (lv_at hl 0 rfl) ?_
    refine zgetI (ci := 8) (k := 12) (C := RX8) (T := TX8) (N := 24) X G rfl inX8_feed_X8 (Nat.le_of_ble_eq_true rfl) flX8_feed_80 dX8_feed_16 hf (fun v2 hf => ?_)
    refine lv_bipush (v := 100) X.1.1 X.1.2.1 dX8_feed_19 (by decide) ?_
    refine zic_ne (tgt := 27) X dX8_feed_21 (by decide) hf (fun hf => ?_) (fun hf => ?_)
    · refine lv_aload_n X.1.1 X.1.2.1 dX8_feed_27 rfl (lv_at hl 0 rfl) ?_
      refine zgetR (ci := 8) (k := 11) (C := RX8) (T := TX8) (N := 24) X G rfl inX8_feed_X8 (Nat.le_of_ble_eq_true rfl) flX8_feed_38 dX8_feed_28 hf (fun v3 hf => ?_)
      refine lv_aload_n X.1.1 X.1.2.1 dX8_feed_31 rfl (lv_at hl 0 rfl) ?_
      refine zgetI (ci := 8) (k := 12) (C := RX8) (T := TX8) (N := 24) X G rfl inX8_feed_X8 (Nat.le_of_ble_eq_true rfl) flX8_feed_80 dX8_feed_32 hf (fun v4 hf => ?_)
      refine lv_iload_n X.1.1 X.1.2.1 dX8_feed_35 rfl (lv_at hl 1 rfl) ?_
      refine ziast X G dX8_feed_36 hf (fun h5 H locs hf G => ?_)
      refine lv_aload_n X.1.1 X.1.2.1 dX8_feed_37 rfl (lv_at hl 0 rfl) ?_
      refine lv_dup X.1.1 X.1.2.1 dX8_feed_38 rfl ?_
      refine zgetI (ci := 8) (k := 12) (C := RX8) (T := TX8) (N := 24) X G rfl inX8_feed_X8 (Nat.le_of_ble_eq_true rfl) flX8_feed_80 dX8_feed_39 hf (fun v6 hf => ?_)
      refine lv_iconst (v := 1) X.1.1 X.1.2.1 dX8_feed_42 (by decide) ?_
      refine lv_iadd X.1.1 X.1.2.1 dX8_feed_43 ?_
      refine zputI (ci := 8) (k := 12) (C := RX8) (T := TX8) (N := 24) X G rfl inX8_feed_X8 tyX8_ok nmX8 (Nat.le_of_ble_eq_true rfl) flX8_feed_80 rfl (by decide +kernel) dX8_feed_44 hf (fun h7 H locs hf G => ?_)
      refine lv_aload_n X.1.1 X.1.2.1 dX8_feed_47 rfl (lv_at hl 0 rfl) ?_
      refine zgetI (ci := 8) (k := 12) (C := RX8) (T := TX8) (N := 24) X G rfl inX8_feed_X8 (Nat.le_of_ble_eq_true rfl) flX8_feed_80 dX8_feed_48 hf (fun v8 hf => ?_)
      exact zretI X hr hlk G hf dX8_feed_51
    · refine lv_ldc (v := -1000003) X.1.1 X.1.2.1 X.1.2.2.2.1 (X.1.2.2.2.2 _ coX8_feed_83) dX8_feed_24 ?_
      exact zretI X hr hlk G hf dX8_feed_26
  · refine lv_ldc (v := -1000001) X.1.1 X.1.2.1 X.1.2.2.2.1 (X.1.2.2.2.2 _ coX8_feed_70) dX8_feed_12 ?_
    exact zretI X hr hlk G hf dX8_feed_14
/-! X8_here -/
abbrev rmX8_here : Room := { frames := 0, cells := 0, slots := 0, locals := 0 }
theorem hdV_X8_here : yX8_here.cls = RX8 ∧ yX8_here.cls ≠ "java/lang/invoke/MethodHandle" ∧ yX8_here.cls ≠ "java/lang/invoke/VarHandle" ∧ (parseMethodDescriptor yX8_here.desc).map (fun d => d.parameters.length) = some 0 := by decide +kernel
theorem inX8_here_X8 : ∀ w ∈ wsX80, w ∈ wsX8_here := by decide +kernel
theorem flX8_here_84 : Cond.fieldLink RX8 84 (TX8 16).1 (TX8 16).2.1 (TX8 16).2.2.1 ∈ wsX8_here := by decide +kernel
theorem flX8_here_80 : Cond.fieldLink RX8 80 (TX8 12).1 (TX8 12).2.1 (TX8 12).2.2.1 ∈ wsX8_here := by decide +kernel
theorem flX8_here_38 : Cond.fieldLink RX8 38 (TX8 11).1 (TX8 11).2.1 (TX8 11).2.2.1 ∈ wsX8_here := by decide +kernel
set_option maxHeartbeats 4000000 in
set_option maxRecDepth 100000 in
theorem m_X8_here (l : Launch) (D : va_G) (dA : Nat → ClassId) (b0 : Nat) (r0 : Nat) (h : zH) (z : Int32) (hf : f_X8_here r0 h = some z) : Met l yX8_here wsX8_here rmX8_here (zPc D dA b0 [.ref (b0 + r0)] h) (zQ D dA b0 (some (.int z)) h) 0 0 (zA b0) := by
  refine Met.ofW (cc := cX8_here) (maxL := 1) (ret := (some .int)) (by decide) rfl ?_
  intro p e s m args below meth c s₁ B hml hv
  obtain ⟨rfl, hP, hz, hK, hN⟩ := hv
  have hr := B.returns
  have hlk := B.notSynchronized
  have X : zX p s m _ c cX8_here 1 RX8 wsX8_here D dA := ⟨⟨B.exec, B.bytes, hml, findClass_of_methodNamed B.named, atoms_spec (ws := wsX8_here) B.pre⟩, hK, hN⟩
  have G : zG D dA b0 s.heap h s.heap [] := ⟨hP, hz, va_S.rf⟩
  have hl := lv_entry ([.ref (b0 + r0)]) (n := 1) (Nat.le_of_ble_eq_true rfl)
  rw [lg_entry_eq]
  generalize (lg_sl ([.ref (b0 + r0)]) ++ List.replicate (1 - (lg_sl ([.ref (b0 + r0)])).length) Slot.unset).toArray = ls at hl ⊢
  have hl : lv_has ls 1 [(0, .ref (b0 + r0))] := hl
  unfold f_X8_here at hf
  refine lv_aload_n X.1.1 X.1.2.1 dX8_here_0 rfl (lv_at hl 0 rfl) ?_
  refine zgetI (ci := 8) (k := 16) (C := RX8) (T := TX8) (N := 24) X G rfl inX8_here_X8 (Nat.le_of_ble_eq_true rfl) flX8_here_84 dX8_here_1 hf (fun v1 hf => ?_)
  refine lv_aload_n X.1.1 X.1.2.1 dX8_here_4 rfl (lv_at hl 0 rfl) ?_
  refine zgetI (ci := 8) (k := 12) (C := RX8) (T := TX8) (N := 24) X G rfl inX8_here_X8 (Nat.le_of_ble_eq_true rfl) flX8_here_80 dX8_here_5 hf (fun v2 hf => ?_)
  refine zic_ge (tgt := 23) X dX8_here_8 (by decide) hf (fun hf => ?_) (fun hf => ?_)
  · refine lv_iconst (v := -1) X.1.1 X.1.2.1 dX8_here_23 (by decide) ?_
    exact zretIr X hr hlk G hf dX8_here_24
  · refine lv_aload_n X.1.1 X.1.2.1 dX8_here_11 rfl (lv_at hl 0 rfl) ?_
    refine zgetR (ci := 8) (k := 11) (C := RX8) (T := TX8) (N := 24) X G rfl inX8_here_X8 (Nat.le_of_ble_eq_true rfl) flX8_here_38 dX8_here_12 hf (fun v3 hf => ?_)
    refine lv_aload_n X.1.1 X.1.2.1 dX8_here_15 rfl (lv_at hl 0 rfl) ?_
    refine zgetI (ci := 8) (k := 16) (C := RX8) (T := TX8) (N := 24) X G rfl inX8_here_X8 (Nat.le_of_ble_eq_true rfl) flX8_here_84 dX8_here_16 hf (fun v4 hf => ?_)
    refine ziald X G dX8_here_19 hf (fun v5 hf => ?_)
    refine lv_goto (tgt := 24) X.1.1 X.1.2.1 dX8_here_20 (by decide) ?_
    exact zretIr X hr hlk G hf dX8_here_24
/-! X8_step -/
abbrev rmX8_step : Room := { frames := 1, cells := 0, slots := 0, locals := 25 }
theorem hdV_X8_step : yX8_step.cls = RX8 ∧ yX8_step.cls ≠ "java/lang/invoke/MethodHandle" ∧ yX8_step.cls ≠ "java/lang/invoke/VarHandle" ∧ (parseMethodDescriptor yX8_step.desc).map (fun d => d.parameters.length) = some 0 := by decide +kernel
theorem inX8_step_X8 : ∀ w ∈ wsX80, w ∈ wsX8_step := by decide +kernel
theorem flX8_step_105 : Cond.fieldLink RX8 105 (TX8 18).1 (TX8 18).2.1 (TX8 18).2.2.1 ∈ wsX8_step := by decide +kernel
theorem flX8_step_94 : Cond.fieldLink RX8 94 (TX8 19).1 (TX8 19).2.1 (TX8 19).2.2.1 ∈ wsX8_step := by decide +kernel
theorem flX8_step_84 : Cond.fieldLink RX8 84 (TX8 16).1 (TX8 16).2.1 (TX8 16).2.2.1 ∈ wsX8_step := by decide +kernel
theorem clX8_step_101 : Cond.constantLong RX8 101 (48) ∈ wsX8_step := by decide +kernel
theorem clX8_step_103 : Cond.constantLong RX8 103 (57) ∈ wsX8_step := by decide +kernel
theorem flX8_step_87 : Cond.fieldLink RX8 87 (TX8 17).1 (TX8 17).2.1 (TX8 17).2.2.1 ∈ wsX8_step := by decide +kernel
theorem clX8_step_97 : Cond.constantLong RX8 97 (97) ∈ wsX8_step := by decide +kernel
theorem clX8_step_99 : Cond.constantLong RX8 99 (122) ∈ wsX8_step := by decide +kernel
set_option maxHeartbeats 4000000 in
set_option maxRecDepth 100000 in
theorem w_X8_step_b219 {p : Program} {l : Launch} {e : Env} {s : State} {m : MethodId} {args : Array Value} {below : List Frame} {meth : Method} {c : Code} {D : va_G} {dA : Nat → ClassId} {b0 : Nat} (X : zX p s m args c cX8_step 1 RX8 wsX8_step D dA) (hr : meth.sig.returnType = none) (hlk : meth.locks = false) {z : zH} : ∀ (s0 : Nat) (s1 : Int32) (h : zH) (H : Heap) (locs : List Loc) (ls : Array Slot), f_X8_step_b219 s0 s1 h = some z → zG D dA b0 s.heap h H locs → lv_has ls 1 [] → W p l e rmX8_step s m args below meth c H locs 0 0 (MQ below (zQ D dA b0 none z) args s 0 0 (zA b0)) (F0 m 219 ls [.int s1, .ref (b0 + s0)]) := by
  intro s0 s1 h H locs ls hf G hl
  unfold f_X8_step_b219 at hf
  refine zputI (ci := 8) (k := 18) (C := RX8) (T := TX8) (N := 24) X G rfl inX8_step_X8 tyX8_ok nmX8 (Nat.le_of_ble_eq_true rfl) flX8_step_105 rfl (by decide +kernel) dX8_step_219 hf (fun h1 H locs hf G => ?_)
  exact zretV X hr hlk G hf dX8_step_222
set_option maxHeartbeats 4000000 in
set_option maxRecDepth 100000 in
theorem w_X8_step_b184 {p : Program} {l : Launch} {e : Env} {s : State} {m : MethodId} {args : Array Value} {below : List Frame} {meth : Method} {c : Code} {D : va_G} {dA : Nat → ClassId} {b0 : Nat} (X : zX p s m args c cX8_step 1 RX8 wsX8_step D dA) (hr : meth.sig.returnType = none) (hlk : meth.locks = false) {z : zH} (k131 : Nat → zH → Option (zH)) (hk131 : ∀ (r0 : Nat) (h : zH) (H : Heap) (locs : List Loc) (ls : Array Slot), k131 r0 h = some z → zG D dA b0 s.heap h H locs → lv_has ls 1 [(0, .ref (b0 + r0))] → W p l e rmX8_step s m args below meth c H locs 0 0 (MQ below (zQ D dA b0 none z) args s 0 0 (zA b0)) (F0 m 131 ls [])) : ∀ (r0 : Nat) (s0 : Nat) (s1 : Int32) (h : zH) (H : Heap) (locs : List Loc) (ls : Array Slot), f_X8_step_b184 k131 r0 s0 s1 h = some z → zG D dA b0 s.heap h H locs → lv_has ls 1 [(0, .ref (b0 + r0))] → W p l e rmX8_step s m args below meth c H locs 0 0 (MQ below (zQ D dA b0 none z) args s 0 0 (zA b0)) (F0 m 184 ls [.int s1, .ref (b0 + s0)]) := by
  intro r0 s0 s1 h H locs ls hf G hl
  unfold f_X8_step_b184 at hf
  refine zputI (ci := 8) (k := 19) (C := RX8) (T := TX8) (N := 24) X G rfl inX8_step_X8 tyX8_ok nmX8 (Nat.le_of_ble_eq_true rfl) flX8_step_94 rfl (by decide +kernel) dX8_step_184 hf (fun h1 H locs hf G => ?_)
  refine lv_aload_n X.1.1 X.1.2.1 dX8_step_187 rfl (lv_at hl 0 rfl) ?_
  refine lv_dup X.1.1 X.1.2.1 dX8_step_188 rfl ?_
  refine zgetI (ci := 8) (k := 16) (C := RX8) (T := TX8) (N := 24) X G rfl inX8_step_X8 (Nat.le_of_ble_eq_true rfl) flX8_step_84 dX8_step_189 hf (fun v2 hf => ?_)
  refine lv_iconst (v := 1) X.1.1 X.1.2.1 dX8_step_192 (by decide) ?_
  refine lv_iadd X.1.1 X.1.2.1 dX8_step_193 ?_
  refine zputI (ci := 8) (k := 16) (C := RX8) (T := TX8) (N := 24) X G rfl inX8_step_X8 tyX8_ok nmX8 (Nat.le_of_ble_eq_true rfl) flX8_step_84 rfl (by decide +kernel) dX8_step_194 hf (fun h3 H locs hf G => ?_)
  refine lv_goto (tgt := 131) X.1.1 X.1.2.1 dX8_step_197 (by decide) ?_
  exact hk131 _ _ _ _ _ hf G hl
set_option maxHeartbeats 4000000 in
set_option maxRecDepth 100000 in
theorem w_X8_step_b131 {p : Program} {l : Launch} {e : Env} {s : State} {m : MethodId} {args : Array Value} {below : List Frame} {meth : Method} {c : Code} {D : va_G} {dA : Nat → ClassId} {b0 : Nat} (X : zX p s m args c cX8_step 1 RX8 wsX8_step D dA) (hr : meth.sig.returnType = none) (hlk : meth.locks = false) {z : zH} : ∀ (n : Nat), ∀ (r0 : Nat) (h : zH) (H : Heap) (locs : List Loc) (ls : Array Slot), f_X8_step_b131 n r0 h = some z → zG D dA b0 s.heap h H locs → lv_has ls 1 [(0, .ref (b0 + r0))] → W p l e rmX8_step s m args below meth c H locs 0 0 (MQ below (zQ D dA b0 none z) args s 0 0 (zA b0)) (F0 m 131 ls []) := by
  intro n
  induction n with
  | zero =>
    intro r0 h H locs ls hf
    cases hf
  | succ n ih =>
    intro r0 h H locs ls hf G hl
    rw [f_X8_step_b131] at hf
    refine lv_aload_n X.1.1 X.1.2.1 dX8_step_131 rfl (lv_at hl 0 rfl) ?_
    obtain ⟨hk, hf⟩ := zck hf
    obtain ⟨q1, eq1, hf⟩ := Option.bind_eq_some_iff.mp hf
    refine zcV0 (As := []) (rest := []) (v := (some (.int q1))) (h' := h) X G (rfl : vwCl[8]? = some (RX8, TX8, 24)) hk (m_X8_here l D dA b0 r0 h q1 eq1) (cwV 0 X.1.2.2.2.2 gX8_step_X8_here rfl rfl rfl hdV_X8_here ⟨(Nat.le_of_ble_eq_true rfl), (Nat.le_of_ble_eq_true rfl)⟩) rfl hl.1 rfl (Nat.le_of_ble_eq_true rfl) dX8_step_132 ⟨Nat.zero_le _, Nat.zero_le _⟩ (fun H locs G => ?_)
    refine lv_i2l X.1.1 X.1.2.1 dX8_step_135 rfl ?_
    refine lv_ldc2 (v := 48) X.1.1 X.1.2.1 X.1.2.2.2.1 (X.1.2.2.2.2 _ clX8_step_101) dX8_step_136 ?_
    refine lv_ldc2 (v := 57) X.1.1 X.1.2.1 X.1.2.2.2.1 (X.1.2.2.2.2 _ clX8_step_103) dX8_step_139 ?_
    obtain ⟨q2, eq2, hf⟩ := Option.bind_eq_some_iff.mp hf
    refine zcS0 (As := [.long (Int32.toInt64 q1), .long (48 : Int64), .long (57 : Int64)]) (rest := []) (v := (some (.int q2))) (h' := h) X G (m_X8_in l D dA b0 ((Int32.toInt64 q1)) (48 : Int64) (57 : Int64) h q2 eq2) (va_cwS 3 X.1.2.2.2.2 gX8_step_X8_in rfl rfl rfl hdS_X8_in ⟨(Nat.le_of_ble_eq_true rfl), (Nat.le_of_ble_eq_true rfl)⟩) rfl hl.1 rfl (Nat.le_of_ble_eq_true rfl) dX8_step_142 ⟨Nat.zero_le _, Nat.zero_le _⟩ (fun H locs G => ?_)
    refine zif_eq (tgt := 200) X dX8_step_145 (by decide) hf (fun hf => ?_) (fun hf => ?_)
    · refine lv_aload_n X.1.1 X.1.2.1 dX8_step_200 rfl (lv_at hl 0 rfl) ?_
      refine lv_aload_n X.1.1 X.1.2.1 dX8_step_201 rfl (lv_at hl 0 rfl) ?_
      refine zgetI (ci := 8) (k := 16) (C := RX8) (T := TX8) (N := 24) X G rfl inX8_step_X8 (Nat.le_of_ble_eq_true rfl) flX8_step_84 dX8_step_202 hf (fun v3 hf => ?_)
      refine lv_aload_n X.1.1 X.1.2.1 dX8_step_205 rfl (lv_at hl 0 rfl) ?_
      refine zgetI (ci := 8) (k := 17) (C := RX8) (T := TX8) (N := 24) X G rfl inX8_step_X8 (Nat.le_of_ble_eq_true rfl) flX8_step_87 dX8_step_206 hf (fun v4 hf => ?_)
      refine lv_isub X.1.1 X.1.2.1 dX8_step_209 ?_
      refine lv_iconst (v := 2) X.1.1 X.1.2.1 dX8_step_210 (by decide) ?_
      refine zic_le (tgt := 218) X dX8_step_211 (by decide) hf (fun hf => ?_) (fun hf => ?_)
      · refine lv_iconst (v := 2) X.1.1 X.1.2.1 dX8_step_218 (by decide) ?_
        exact w_X8_step_b219 X hr hlk _ _ _ _ _ _ hf G (lv_sub hl [] rfl)
      · refine lv_iconst (v := 4) X.1.1 X.1.2.1 dX8_step_214 (by decide) ?_
        refine lv_goto (tgt := 219) X.1.1 X.1.2.1 dX8_step_215 (by decide) ?_
        exact w_X8_step_b219 X hr hlk _ _ _ _ _ _ hf G (lv_sub hl [] rfl)
    · refine lv_aload_n X.1.1 X.1.2.1 dX8_step_148 rfl (lv_at hl 0 rfl) ?_
      refine lv_aload_n X.1.1 X.1.2.1 dX8_step_149 rfl (lv_at hl 0 rfl) ?_
      refine zgetI (ci := 8) (k := 16) (C := RX8) (T := TX8) (N := 24) X G rfl inX8_step_X8 (Nat.le_of_ble_eq_true rfl) flX8_step_84 dX8_step_150 hf (fun v5 hf => ?_)
      refine lv_aload_n X.1.1 X.1.2.1 dX8_step_153 rfl (lv_at hl 0 rfl) ?_
      refine zgetI (ci := 8) (k := 17) (C := RX8) (T := TX8) (N := 24) X G rfl inX8_step_X8 (Nat.le_of_ble_eq_true rfl) flX8_step_87 dX8_step_154 hf (fun v6 hf => ?_)
      refine lv_isub X.1.1 X.1.2.1 dX8_step_157 ?_
      refine lv_iconst (v := 2) X.1.1 X.1.2.1 dX8_step_158 (by decide) ?_
      refine zic_ge (tgt := 180) X dX8_step_159 (by decide) hf (fun hf => ?_) (fun hf => ?_)
      · refine lv_aload_n X.1.1 X.1.2.1 dX8_step_180 rfl (lv_at hl 0 rfl) ?_
        refine zgetI (ci := 8) (k := 19) (C := RX8) (T := TX8) (N := 24) X G rfl inX8_step_X8 (Nat.le_of_ble_eq_true rfl) flX8_step_94 dX8_step_181 hf (fun v7 hf => ?_)
        exact w_X8_step_b184 X hr hlk _ ih _ _ _ _ _ _ _ hf G hl
      · refine lv_bipush (v := 10) X.1.1 X.1.2.1 dX8_step_162 (by decide) ?_
        refine lv_aload_n X.1.1 X.1.2.1 dX8_step_164 rfl (lv_at hl 0 rfl) ?_
        refine zgetI (ci := 8) (k := 19) (C := RX8) (T := TX8) (N := 24) X G rfl inX8_step_X8 (Nat.le_of_ble_eq_true rfl) flX8_step_94 dX8_step_165 hf (fun v8 hf => ?_)
        refine lv_imul X.1.1 X.1.2.1 dX8_step_168 ?_
        refine lv_aload_n X.1.1 X.1.2.1 dX8_step_169 rfl (lv_at hl 0 rfl) ?_
        obtain ⟨hk, hf⟩ := zck hf
        obtain ⟨q9, eq9, hf⟩ := Option.bind_eq_some_iff.mp hf
        refine zcV0 (As := []) (rest := [.int ((10 : Int32) * v8), .ref (b0 + r0)]) (v := (some (.int q9))) (h' := h) X G (rfl : vwCl[8]? = some (RX8, TX8, 24)) hk (m_X8_here l D dA b0 r0 h q9 eq9) (cwV 0 X.1.2.2.2.2 gX8_step_X8_here rfl rfl rfl hdV_X8_here ⟨(Nat.le_of_ble_eq_true rfl), (Nat.le_of_ble_eq_true rfl)⟩) rfl hl.1 rfl (Nat.le_of_ble_eq_true rfl) dX8_step_170 ⟨Nat.zero_le _, Nat.zero_le _⟩ (fun H locs G => ?_)
        refine lv_iadd X.1.1 X.1.2.1 dX8_step_173 ?_
        refine lv_bipush (v := 48) X.1.1 X.1.2.1 dX8_step_174 (by decide) ?_
        refine lv_isub X.1.1 X.1.2.1 dX8_step_176 ?_
        refine lv_goto (tgt := 184) X.1.1 X.1.2.1 dX8_step_177 (by decide) ?_
        exact w_X8_step_b184 X hr hlk _ ih _ _ _ _ _ _ _ hf G hl
set_option maxHeartbeats 4000000 in
set_option maxRecDepth 100000 in
theorem w_X8_step_b121 {p : Program} {l : Launch} {e : Env} {s : State} {m : MethodId} {args : Array Value} {below : List Frame} {meth : Method} {c : Code} {D : va_G} {dA : Nat → ClassId} {b0 : Nat} (X : zX p s m args c cX8_step 1 RX8 wsX8_step D dA) (hr : meth.sig.returnType = none) (hlk : meth.locks = false) {z : zH} : ∀ (s0 : Nat) (s1 : Int32) (s2 : Int32) (h : zH) (H : Heap) (locs : List Loc) (ls : Array Slot), f_X8_step_b121 s0 s1 s2 h = some z → zG D dA b0 s.heap h H locs → lv_has ls 1 [] → W p l e rmX8_step s m args below meth c H locs 0 0 (MQ below (zQ D dA b0 none z) args s 0 0 (zA b0)) (F0 m 121 ls [.int s2, .int s1, .ref (b0 + s0)]) := by
  intro s0 s1 s2 h H locs ls hf G hl
  unfold f_X8_step_b121 at hf
  refine lv_iadd X.1.1 X.1.2.1 dX8_step_121 ?_
  refine zputI (ci := 8) (k := 16) (C := RX8) (T := TX8) (N := 24) X G rfl inX8_step_X8 tyX8_ok nmX8 (Nat.le_of_ble_eq_true rfl) flX8_step_84 rfl (by decide +kernel) dX8_step_122 hf (fun h1 H locs hf G => ?_)
  exact zretV X hr hlk G hf dX8_step_125
set_option maxHeartbeats 4000000 in
set_option maxRecDepth 100000 in
theorem w_X8_step_b93 {p : Program} {l : Launch} {e : Env} {s : State} {m : MethodId} {args : Array Value} {below : List Frame} {meth : Method} {c : Code} {D : va_G} {dA : Nat → ClassId} {b0 : Nat} (X : zX p s m args c cX8_step 1 RX8 wsX8_step D dA) (hr : meth.sig.returnType = none) (hlk : meth.locks = false) {z : zH} : ∀ (r0 : Nat) (s0 : Nat) (s1 : Int32) (h : zH) (H : Heap) (locs : List Loc) (ls : Array Slot), f_X8_step_b93 r0 s0 s1 h = some z → zG D dA b0 s.heap h H locs → lv_has ls 1 [(0, .ref (b0 + r0))] → W p l e rmX8_step s m args below meth c H locs 0 0 (MQ below (zQ D dA b0 none z) args s 0 0 (zA b0)) (F0 m 93 ls [.int s1, .ref (b0 + s0)]) := by
  intro r0 s0 s1 h H locs ls hf G hl
  unfold f_X8_step_b93 at hf
  refine zputI (ci := 8) (k := 18) (C := RX8) (T := TX8) (N := 24) X G rfl inX8_step_X8 tyX8_ok nmX8 (Nat.le_of_ble_eq_true rfl) flX8_step_105 rfl (by decide +kernel) dX8_step_93 hf (fun h1 H locs hf G => ?_)
  refine lv_aload_n X.1.1 X.1.2.1 dX8_step_96 rfl (lv_at hl 0 rfl) ?_
  refine zgetI (ci := 8) (k := 18) (C := RX8) (T := TX8) (N := 24) X G rfl inX8_step_X8 (Nat.le_of_ble_eq_true rfl) flX8_step_105 dX8_step_97 hf (fun v2 hf => ?_)
  refine lv_iconst (v := 2) X.1.1 X.1.2.1 dX8_step_100 (by decide) ?_
  refine zic_eq (tgt := 126) X dX8_step_101 (by decide) hf (fun hf => ?_) (fun hf => ?_)
  · refine lv_aload_n X.1.1 X.1.2.1 dX8_step_126 rfl (lv_at hl 0 rfl) ?_
    refine lv_iconst (v := 0) X.1.1 X.1.2.1 dX8_step_127 (by decide) ?_
    refine zputI (ci := 8) (k := 19) (C := RX8) (T := TX8) (N := 24) X G rfl inX8_step_X8 tyX8_ok nmX8 (Nat.le_of_ble_eq_true rfl) flX8_step_94 rfl (by decide +kernel) dX8_step_128 hf (fun h3 H locs hf G => ?_)
    exact w_X8_step_b131 X hr hlk _ _ _ _ _ _ hf G hl
  · refine lv_aload_n X.1.1 X.1.2.1 dX8_step_104 rfl (lv_at hl 0 rfl) ?_
    refine lv_dup X.1.1 X.1.2.1 dX8_step_105 rfl ?_
    refine zgetI (ci := 8) (k := 16) (C := RX8) (T := TX8) (N := 24) X G rfl inX8_step_X8 (Nat.le_of_ble_eq_true rfl) flX8_step_84 dX8_step_106 hf (fun v4 hf => ?_)
    refine lv_aload_n X.1.1 X.1.2.1 dX8_step_109 rfl (lv_at hl 0 rfl) ?_
    refine zgetI (ci := 8) (k := 18) (C := RX8) (T := TX8) (N := 24) X G rfl inX8_step_X8 (Nat.le_of_ble_eq_true rfl) flX8_step_105 dX8_step_110 hf (fun v5 hf => ?_)
    refine zif_ne (tgt := 120) X dX8_step_113 (by decide) hf (fun hf => ?_) (fun hf => ?_)
    · refine lv_iconst (v := 1) X.1.1 X.1.2.1 dX8_step_120 (by decide) ?_
      exact w_X8_step_b121 X hr hlk _ _ _ _ _ _ _ hf G (lv_sub hl [] rfl)
    · refine lv_iconst (v := 0) X.1.1 X.1.2.1 dX8_step_116 (by decide) ?_
      refine lv_goto (tgt := 121) X.1.1 X.1.2.1 dX8_step_117 (by decide) ?_
      exact w_X8_step_b121 X hr hlk _ _ _ _ _ _ _ hf G (lv_sub hl [] rfl)
set_option maxHeartbeats 4000000 in
set_option maxRecDepth 100000 in
theorem w_X8_step_b88 {p : Program} {l : Launch} {e : Env} {s : State} {m : MethodId} {args : Array Value} {below : List Frame} {meth : Method} {c : Code} {D : va_G} {dA : Nat → ClassId} {b0 : Nat} (X : zX p s m args c cX8_step 1 RX8 wsX8_step D dA) (hr : meth.sig.returnType = none) (hlk : meth.locks = false) {z : zH} : ∀ (r0 : Nat) (s0 : Nat) (h : zH) (H : Heap) (locs : List Loc) (ls : Array Slot), f_X8_step_b88 r0 s0 h = some z → zG D dA b0 s.heap h H locs → lv_has ls 1 [(0, .ref (b0 + r0))] → W p l e rmX8_step s m args below meth c H locs 0 0 (MQ below (zQ D dA b0 none z) args s 0 0 (zA b0)) (F0 m 88 ls [.ref (b0 + s0)]) := by
  intro r0 s0 h H locs ls hf G hl
  unfold f_X8_step_b88 at hf
  refine lv_iconst (v := 3) X.1.1 X.1.2.1 dX8_step_88 (by decide) ?_
  refine lv_goto (tgt := 93) X.1.1 X.1.2.1 dX8_step_89 (by decide) ?_
  exact w_X8_step_b93 X hr hlk _ _ _ _ _ _ _ hf G hl
set_option maxHeartbeats 4000000 in
set_option maxRecDepth 100000 in
theorem m_X8_step (l : Launch) (D : va_G) (dA : Nat → ClassId) (b0 : Nat) (r0 : Nat) (h : zH) (z : zH) (hf : f_X8_step r0 h = some z) : Met l yX8_step wsX8_step rmX8_step (zPc D dA b0 [.ref (b0 + r0)] h) (zQ D dA b0 none z) 0 0 (zA b0) := by
  refine Met.ofW (cc := cX8_step) (maxL := 1) (ret := none) (by decide) rfl ?_
  intro p e s m args below meth c s₁ B hml hv
  obtain ⟨rfl, hP, hz, hK, hN⟩ := hv
  have hr := B.returns
  have hlk := B.notSynchronized
  have X : zX p s m _ c cX8_step 1 RX8 wsX8_step D dA := ⟨⟨B.exec, B.bytes, hml, findClass_of_methodNamed B.named, atoms_spec (ws := wsX8_step) B.pre⟩, hK, hN⟩
  have G : zG D dA b0 s.heap h s.heap [] := ⟨hP, hz, va_S.rf⟩
  have hl := lv_entry ([.ref (b0 + r0)]) (n := 1) (Nat.le_of_ble_eq_true rfl)
  rw [lg_entry_eq]
  generalize (lg_sl ([.ref (b0 + r0)]) ++ List.replicate (1 - (lg_sl ([.ref (b0 + r0)])).length) Slot.unset).toArray = ls at hl ⊢
  have hl : lv_has ls 1 [(0, .ref (b0 + r0))] := hl
  unfold f_X8_step at hf
  refine lv_aload_n X.1.1 X.1.2.1 dX8_step_0 rfl (lv_at hl 0 rfl) ?_
  refine lv_aload_n X.1.1 X.1.2.1 dX8_step_1 rfl (lv_at hl 0 rfl) ?_
  refine zgetI (ci := 8) (k := 16) (C := RX8) (T := TX8) (N := 24) X G rfl inX8_step_X8 (Nat.le_of_ble_eq_true rfl) flX8_step_84 dX8_step_2 hf (fun v1 hf => ?_)
  refine zputI (ci := 8) (k := 17) (C := RX8) (T := TX8) (N := 24) X G rfl inX8_step_X8 tyX8_ok nmX8 (Nat.le_of_ble_eq_true rfl) flX8_step_87 rfl (by decide +kernel) dX8_step_5 hf (fun h2 H locs hf G => ?_)
  refine lv_aload_n X.1.1 X.1.2.1 dX8_step_8 rfl (lv_at hl 0 rfl) ?_
  refine lv_aload_n X.1.1 X.1.2.1 dX8_step_9 rfl (lv_at hl 0 rfl) ?_
  obtain ⟨hk, hf⟩ := zck hf
  obtain ⟨q3, eq3, hf⟩ := Option.bind_eq_some_iff.mp hf
  refine zcV0 (As := []) (rest := [.ref (b0 + r0)]) (v := (some (.int q3))) (h' := h2) X G (rfl : vwCl[8]? = some (RX8, TX8, 24)) hk (m_X8_here l D dA b0 r0 h2 q3 eq3) (cwV 0 X.1.2.2.2.2 gX8_step_X8_here rfl rfl rfl hdV_X8_here ⟨(Nat.le_of_ble_eq_true rfl), (Nat.le_of_ble_eq_true rfl)⟩) rfl hl.1 rfl (Nat.le_of_ble_eq_true rfl) dX8_step_10 ⟨Nat.zero_le _, Nat.zero_le _⟩ (fun H locs G => ?_)
  refine zputI (ci := 8) (k := 19) (C := RX8) (T := TX8) (N := 24) X G rfl inX8_step_X8 tyX8_ok nmX8 (Nat.le_of_ble_eq_true rfl) flX8_step_94 rfl (by decide +kernel) dX8_step_13 hf (fun h4 H locs hf G => ?_)
  refine lv_aload_n X.1.1 X.1.2.1 dX8_step_16 rfl (lv_at hl 0 rfl) ?_
  refine lv_aload_n X.1.1 X.1.2.1 dX8_step_17 rfl (lv_at hl 0 rfl) ?_
  refine zgetI (ci := 8) (k := 19) (C := RX8) (T := TX8) (N := 24) X G rfl inX8_step_X8 (Nat.le_of_ble_eq_true rfl) flX8_step_94 dX8_step_18 hf (fun v5 hf => ?_)
  refine zif_ge (tgt := 28) X dX8_step_21 (by decide) hf (fun hf => ?_) (fun hf => ?_)
  · refine lv_aload_n X.1.1 X.1.2.1 dX8_step_28 rfl (lv_at hl 0 rfl) ?_
    refine zgetI (ci := 8) (k := 19) (C := RX8) (T := TX8) (N := 24) X G rfl inX8_step_X8 (Nat.le_of_ble_eq_true rfl) flX8_step_94 dX8_step_29 hf (fun v6 hf => ?_)
    refine lv_i2l X.1.1 X.1.2.1 dX8_step_32 rfl ?_
    refine lv_ldc2 (v := 97) X.1.1 X.1.2.1 X.1.2.2.2.1 (X.1.2.2.2.2 _ clX8_step_97) dX8_step_33 ?_
    refine lv_ldc2 (v := 122) X.1.1 X.1.2.1 X.1.2.2.2.1 (X.1.2.2.2.2 _ clX8_step_99) dX8_step_36 ?_
    obtain ⟨q7, eq7, hf⟩ := Option.bind_eq_some_iff.mp hf
    refine zcS0 (As := [.long (Int32.toInt64 v6), .long (97 : Int64), .long (122 : Int64)]) (rest := [.ref (b0 + r0)]) (v := (some (.int q7))) (h' := h4) X G (m_X8_in l D dA b0 ((Int32.toInt64 v6)) (97 : Int64) (122 : Int64) h4 q7 eq7) (va_cwS 3 X.1.2.2.2.2 gX8_step_X8_in rfl rfl rfl hdS_X8_in ⟨(Nat.le_of_ble_eq_true rfl), (Nat.le_of_ble_eq_true rfl)⟩) rfl hl.1 rfl (Nat.le_of_ble_eq_true rfl) dX8_step_39 ⟨Nat.zero_le _, Nat.zero_le _⟩ (fun H locs G => ?_)
    refine zif_eq (tgt := 49) X dX8_step_42 (by decide) hf (fun hf => ?_) (fun hf => ?_)
    · refine lv_aload_n X.1.1 X.1.2.1 dX8_step_49 rfl (lv_at hl 0 rfl) ?_
      refine zgetI (ci := 8) (k := 19) (C := RX8) (T := TX8) (N := 24) X G rfl inX8_step_X8 (Nat.le_of_ble_eq_true rfl) flX8_step_94 dX8_step_50 hf (fun v8 hf => ?_)
      refine lv_i2l X.1.1 X.1.2.1 dX8_step_53 rfl ?_
      refine lv_ldc2 (v := 48) X.1.1 X.1.2.1 X.1.2.2.2.1 (X.1.2.2.2.2 _ clX8_step_101) dX8_step_54 ?_
      refine lv_ldc2 (v := 57) X.1.1 X.1.2.1 X.1.2.2.2.1 (X.1.2.2.2.2 _ clX8_step_103) dX8_step_57 ?_
      obtain ⟨q9, eq9, hf⟩ := Option.bind_eq_some_iff.mp hf
      refine zcS0 (As := [.long (Int32.toInt64 v8), .long (48 : Int64), .long (57 : Int64)]) (rest := [.ref (b0 + r0)]) (v := (some (.int q9))) (h' := h4) X G (m_X8_in l D dA b0 ((Int32.toInt64 v8)) (48 : Int64) (57 : Int64) h4 q9 eq9) (va_cwS 3 X.1.2.2.2.2 gX8_step_X8_in rfl rfl rfl hdS_X8_in ⟨(Nat.le_of_ble_eq_true rfl), (Nat.le_of_ble_eq_true rfl)⟩) rfl hl.1 rfl (Nat.le_of_ble_eq_true rfl) dX8_step_60 ⟨Nat.zero_le _, Nat.zero_le _⟩ (fun H locs G => ?_)
      refine zif_eq (tgt := 70) X dX8_step_63 (by decide) hf (fun hf => ?_) (fun hf => ?_)
      · refine lv_aload_n X.1.1 X.1.2.1 dX8_step_70 rfl (lv_at hl 0 rfl) ?_
        refine zgetI (ci := 8) (k := 19) (C := RX8) (T := TX8) (N := 24) X G rfl inX8_step_X8 (Nat.le_of_ble_eq_true rfl) flX8_step_94 dX8_step_71 hf (fun v10 hf => ?_)
        refine lv_bipush (v := 44) X.1.1 X.1.2.1 dX8_step_74 (by decide) ?_
        refine zic_eq (tgt := 88) X dX8_step_76 (by decide) hf (fun hf => ?_) (fun hf => ?_)
        · exact w_X8_step_b88 X hr hlk _ _ _ _ _ _ hf G hl
        · refine lv_aload_n X.1.1 X.1.2.1 dX8_step_79 rfl (lv_at hl 0 rfl) ?_
          refine zgetI (ci := 8) (k := 19) (C := RX8) (T := TX8) (N := 24) X G rfl inX8_step_X8 (Nat.le_of_ble_eq_true rfl) flX8_step_94 dX8_step_80 hf (fun v11 hf => ?_)
          refine lv_bipush (v := 59) X.1.1 X.1.2.1 dX8_step_83 (by decide) ?_
          refine zic_ne (tgt := 92) X dX8_step_85 (by decide) hf (fun hf => ?_) (fun hf => ?_)
          · refine lv_iconst (v := 4) X.1.1 X.1.2.1 dX8_step_92 (by decide) ?_
            exact w_X8_step_b93 X hr hlk _ _ _ _ _ _ _ hf G hl
          · exact w_X8_step_b88 X hr hlk _ _ _ _ _ _ hf G hl
      · refine lv_iconst (v := 2) X.1.1 X.1.2.1 dX8_step_66 (by decide) ?_
        refine lv_goto (tgt := 93) X.1.1 X.1.2.1 dX8_step_67 (by decide) ?_
        exact w_X8_step_b93 X hr hlk _ _ _ _ _ _ _ hf G hl
    · refine lv_iconst (v := 1) X.1.1 X.1.2.1 dX8_step_45 (by decide) ?_
      refine lv_goto (tgt := 93) X.1.1 X.1.2.1 dX8_step_46 (by decide) ?_
      exact w_X8_step_b93 X hr hlk _ _ _ _ _ _ _ hf G hl
  · refine lv_iconst (v := 0) X.1.1 X.1.2.1 dX8_step_24 (by decide) ?_
    refine lv_goto (tgt := 93) X.1.1 X.1.2.1 dX8_step_25 (by decide) ?_
    exact w_X8_step_b93 X hr hlk _ _ _ _ _ _ _ hf G hl
/-! X8_fails -/
abbrev rmX8_fails : Room := { frames := 0, cells := 0, slots := 0, locals := 0 }
theorem hdV_X8_fails : yX8_fails.cls = RX8 ∧ yX8_fails.cls ≠ "java/lang/invoke/MethodHandle" ∧ yX8_fails.cls ≠ "java/lang/invoke/VarHandle" ∧ (parseMethodDescriptor yX8_fails.desc).map (fun d => d.parameters.length) = some 1 := by decide +kernel
theorem inX8_fails_X8 : ∀ w ∈ wsX80, w ∈ wsX8_fails := by decide +kernel
theorem flX8_fails_108 : Cond.fieldLink RX8 108 (TX8 20).1 (TX8 20).2.1 (TX8 20).2.2.1 ∈ wsX8_fails := by decide +kernel
set_option maxHeartbeats 4000000 in
set_option maxRecDepth 100000 in
theorem m_X8_fails (l : Launch) (D : va_G) (dA : Nat → ClassId) (b0 : Nat) (r0 : Nat) (a1 : Int32) (h : zH) (z : Int32 × zH) (hf : f_X8_fails r0 a1 h = some z) : Met l yX8_fails wsX8_fails rmX8_fails (zPc D dA b0 [.ref (b0 + r0), .int a1] h) (zQ D dA b0 (some (.int z.1)) z.2) 0 0 (zA b0) := by
  refine Met.ofW (cc := cX8_fails) (maxL := 2) (ret := (some .boolean)) (by decide) rfl ?_
  intro p e s m args below meth c s₁ B hml hv
  obtain ⟨rfl, hP, hz, hK, hN⟩ := hv
  have hr := B.returns
  have hlk := B.notSynchronized
  have X : zX p s m _ c cX8_fails 2 RX8 wsX8_fails D dA := ⟨⟨B.exec, B.bytes, hml, findClass_of_methodNamed B.named, atoms_spec (ws := wsX8_fails) B.pre⟩, hK, hN⟩
  have G : zG D dA b0 s.heap h s.heap [] := ⟨hP, hz, va_S.rf⟩
  have hl := lv_entry ([.ref (b0 + r0), .int a1]) (n := 2) (Nat.le_of_ble_eq_true rfl)
  rw [lg_entry_eq]
  generalize (lg_sl ([.ref (b0 + r0), .int a1]) ++ List.replicate (2 - (lg_sl ([.ref (b0 + r0), .int a1])).length) Slot.unset).toArray = ls at hl ⊢
  have hl : lv_has ls 2 [(0, .ref (b0 + r0)), (1, .int a1)] := hl
  unfold f_X8_fails at hf
  refine lv_aload_n X.1.1 X.1.2.1 dX8_fails_0 rfl (lv_at hl 0 rfl) ?_
  refine lv_iload_n X.1.1 X.1.2.1 dX8_fails_1 rfl (lv_at hl 1 rfl) ?_
  refine zputI (ci := 8) (k := 20) (C := RX8) (T := TX8) (N := 24) X G rfl inX8_fails_X8 tyX8_ok nmX8 (Nat.le_of_ble_eq_true rfl) flX8_fails_108 rfl (by decide +kernel) dX8_fails_2 hf (fun h1 H locs hf G => ?_)
  refine lv_iconst (v := 0) X.1.1 X.1.2.1 dX8_fails_5 (by decide) ?_
  exact zretZ X hr hlk G hf dX8_fails_6
/-! X8_number -/
abbrev rmX8_number : Room := { frames := 2, cells := 0, slots := 0, locals := 45 }
theorem hdV_X8_number : yX8_number.cls = RX8 ∧ yX8_number.cls ≠ "java/lang/invoke/MethodHandle" ∧ yX8_number.cls ≠ "java/lang/invoke/VarHandle" ∧ (parseMethodDescriptor yX8_number.desc).map (fun d => d.parameters.length) = some 4 := by decide +kernel
theorem inX8_number_X8 : ∀ w ∈ wsX80, w ∈ wsX8_number := by decide +kernel
theorem flX8_number_105 : Cond.fieldLink RX8 105 (TX8 18).1 (TX8 18).2.1 (TX8 18).2.2.1 ∈ wsX8_number := by decide +kernel
theorem flX8_number_94 : Cond.fieldLink RX8 94 (TX8 19).1 (TX8 19).2.1 (TX8 19).2.2.1 ∈ wsX8_number := by decide +kernel
theorem flX8_number_22 : Cond.fieldLink RX8 22 (TX8 5).1 (TX8 5).2.1 (TX8 5).2.2.1 ∈ wsX8_number := by decide +kernel
set_option maxHeartbeats 4000000 in
set_option maxRecDepth 100000 in
theorem w_X8_number_b78 {p : Program} {l : Launch} {e : Env} {s : State} {m : MethodId} {args : Array Value} {below : List Frame} {meth : Method} {c : Code} {D : va_G} {dA : Nat → ClassId} {b0 : Nat} (X : zX p s m args c cX8_number 5 RX8 wsX8_number D dA) (hr : meth.sig.returnType = (some .boolean)) (hlk : meth.locks = false) {z : Int32 × zH} : ∀ (h : zH) (H : Heap) (locs : List Loc) (ls : Array Slot), f_X8_number_b78 h = some z → zG D dA b0 s.heap h H locs → lv_has ls 5 [] → W p l e rmX8_number s m args below meth c H locs 0 0 (MQ below (zQ D dA b0 (some (.int z.1)) z.2) args s 0 0 (zA b0)) (F0 m 78 ls []) := by
  intro h H locs ls hf G hl
  unfold f_X8_number_b78 at hf
  refine lv_iconst (v := 1) X.1.1 X.1.2.1 dX8_number_78 (by decide) ?_
  refine lv_goto (tgt := 83) X.1.1 X.1.2.1 dX8_number_79 (by decide) ?_
  exact zretZ X hr hlk G hf dX8_number_83
set_option maxHeartbeats 4000000 in
set_option maxRecDepth 100000 in
theorem w_X8_number_b70 {p : Program} {l : Launch} {e : Env} {s : State} {m : MethodId} {args : Array Value} {below : List Frame} {meth : Method} {c : Code} {D : va_G} {dA : Nat → ClassId} {b0 : Nat} (X : zX p s m args c cX8_number 5 RX8 wsX8_number D dA) (hr : meth.sig.returnType = (some .boolean)) (hlk : meth.locks = false) {z : Int32 × zH} : ∀ (r0 : Nat) (h : zH) (H : Heap) (locs : List Loc) (ls : Array Slot), f_X8_number_b70 r0 h = some z → zG D dA b0 s.heap h H locs → lv_has ls 5 [(0, .ref (b0 + r0))] → W p l e rmX8_number s m args below meth c H locs 0 0 (MQ below (zQ D dA b0 (some (.int z.1)) z.2) args s 0 0 (zA b0)) (F0 m 70 ls []) := by
  intro r0 h H locs ls hf G hl
  unfold f_X8_number_b70 at hf
  refine lv_aload_n X.1.1 X.1.2.1 dX8_number_70 rfl (lv_at hl 0 rfl) ?_
  refine lv_iconst (v := 1) X.1.1 X.1.2.1 dX8_number_71 (by decide) ?_
  obtain ⟨hk, hf⟩ := zck hf
  obtain ⟨q1, eq1, hf⟩ := Option.bind_eq_some_iff.mp hf
  refine zcV0 (As := [.int (1 : Int32)]) (rest := []) (v := (some (.int q1.1))) (h' := q1.2) X G (rfl : vwCl[8]? = some (RX8, TX8, 24)) hk (m_X8_fails l D dA b0 r0 (1 : Int32) h q1 eq1) (cwV 1 X.1.2.2.2.2 gX8_number_X8_fails rfl rfl rfl hdV_X8_fails ⟨(Nat.le_of_ble_eq_true rfl), (Nat.le_of_ble_eq_true rfl)⟩) rfl hl.1 rfl (Nat.le_of_ble_eq_true rfl) dX8_number_72 ⟨Nat.zero_le _, Nat.zero_le _⟩ (fun H locs G => ?_)
  refine zif_eq (tgt := 82) X dX8_number_75 (by decide) hf (fun hf => ?_) (fun hf => ?_)
  · refine lv_iconst (v := 0) X.1.1 X.1.2.1 dX8_number_82 (by decide) ?_
    exact zretZ X hr hlk G hf dX8_number_83
  · exact w_X8_number_b78 X hr hlk _ _ _ _ hf G (lv_sub hl [] rfl)
set_option maxHeartbeats 4000000 in
set_option maxRecDepth 100000 in
theorem m_X8_number (l : Launch) (D : va_G) (dA : Nat → ClassId) (b0 : Nat) (r0 : Nat) (a1 : Int32) (a2 : Int32) (a3 : Int32) (a4 : Int32) (h : zH) (z : Int32 × zH) (hf : f_X8_number r0 a1 a2 a3 a4 h = some z) : Met l yX8_number wsX8_number rmX8_number (zPc D dA b0 [.ref (b0 + r0), .int a1, .int a2, .int a3, .int a4] h) (zQ D dA b0 (some (.int z.1)) z.2) 0 0 (zA b0) := by
  refine Met.ofW (cc := cX8_number) (maxL := 5) (ret := (some .boolean)) (by decide) rfl ?_
  intro p e s m args below meth c s₁ B hml hv
  obtain ⟨rfl, hP, hz, hK, hN⟩ := hv
  have hr := B.returns
  have hlk := B.notSynchronized
  have X : zX p s m _ c cX8_number 5 RX8 wsX8_number D dA := ⟨⟨B.exec, B.bytes, hml, findClass_of_methodNamed B.named, atoms_spec (ws := wsX8_number) B.pre⟩, hK, hN⟩
  have G : zG D dA b0 s.heap h s.heap [] := ⟨hP, hz, va_S.rf⟩
  have hl := lv_entry ([.ref (b0 + r0), .int a1, .int a2, .int a3, .int a4]) (n := 5) (Nat.le_of_ble_eq_true rfl)
  rw [lg_entry_eq]
  generalize (lg_sl ([.ref (b0 + r0), .int a1, .int a2, .int a3, .int a4]) ++ List.replicate (5 - (lg_sl ([.ref (b0 + r0), .int a1, .int a2, .int a3, .int a4])).length) Slot.unset).toArray = ls at hl ⊢
  have hl : lv_has ls 5 [(0, .ref (b0 + r0)), (1, .int a1), (2, .int a2), (3, .int a3), (4, .int a4)] := hl
  unfold f_X8_number at hf
  refine lv_aload_n X.1.1 X.1.2.1 dX8_number_0 rfl (lv_at hl 0 rfl) ?_
  obtain ⟨hk, hf⟩ := zck hf
  obtain ⟨q1, eq1, hf⟩ := Option.bind_eq_some_iff.mp hf
  refine zcV0 (As := []) (rest := []) (v := none) (h' := q1) X G (rfl : vwCl[8]? = some (RX8, TX8, 24)) hk (m_X8_step l D dA b0 r0 h q1 eq1) (cwV 0 X.1.2.2.2.2 gX8_number_X8_step rfl rfl rfl hdV_X8_step ⟨(Nat.le_of_ble_eq_true rfl), (Nat.le_of_ble_eq_true rfl)⟩) rfl hl.1 rfl (Nat.le_of_ble_eq_true rfl) dX8_number_1 ⟨Nat.zero_le _, Nat.zero_le _⟩ (fun H locs G => ?_)
  refine lv_aload_n X.1.1 X.1.2.1 dX8_number_4 rfl (lv_at hl 0 rfl) ?_
  refine zgetI (ci := 8) (k := 18) (C := RX8) (T := TX8) (N := 24) X G rfl inX8_number_X8 (Nat.le_of_ble_eq_true rfl) flX8_number_105 dX8_number_5 hf (fun v2 hf => ?_)
  refine lv_iconst (v := 2) X.1.1 X.1.2.1 dX8_number_8 (by decide) ?_
  refine zic_eq (tgt := 18) X dX8_number_9 (by decide) hf (fun hf => ?_) (fun hf => ?_)
  · refine lv_aload_n X.1.1 X.1.2.1 dX8_number_18 rfl (lv_at hl 0 rfl) ?_
    refine zgetI (ci := 8) (k := 19) (C := RX8) (T := TX8) (N := 24) X G rfl inX8_number_X8 (Nat.le_of_ble_eq_true rfl) flX8_number_94 dX8_number_19 hf (fun v3 hf => ?_)
    refine lv_i2l X.1.1 X.1.2.1 dX8_number_22 rfl ?_
    refine lv_iload_n X.1.1 X.1.2.1 dX8_number_23 rfl (lv_at hl 2 rfl) ?_
    refine lv_i2l X.1.1 X.1.2.1 dX8_number_24 rfl ?_
    refine lv_iload_n X.1.1 X.1.2.1 dX8_number_25 rfl (lv_at hl 3 rfl) ?_
    refine lv_i2l X.1.1 X.1.2.1 dX8_number_26 rfl ?_
    obtain ⟨q4, eq4, hf⟩ := Option.bind_eq_some_iff.mp hf
    refine zcS0 (As := [.long (Int32.toInt64 v3), .long (Int32.toInt64 a2), .long (Int32.toInt64 a3)]) (rest := []) (v := (some (.int q4))) (h' := q1) X G (m_X8_in l D dA b0 ((Int32.toInt64 v3)) ((Int32.toInt64 a2)) ((Int32.toInt64 a3)) q1 q4 eq4) (va_cwS 3 X.1.2.2.2.2 gX8_number_X8_in rfl rfl rfl hdS_X8_in ⟨(Nat.le_of_ble_eq_true rfl), (Nat.le_of_ble_eq_true rfl)⟩) rfl hl.1 rfl (Nat.le_of_ble_eq_true rfl) dX8_number_27 ⟨Nat.zero_le _, Nat.zero_le _⟩ (fun H locs G => ?_)
    refine zif_ne (tgt := 39) X dX8_number_30 (by decide) hf (fun hf => ?_) (fun hf => ?_)
    · refine lv_aload_n X.1.1 X.1.2.1 dX8_number_39 rfl (lv_at hl 0 rfl) ?_
      refine zgetR (ci := 8) (k := 5) (C := RX8) (T := TX8) (N := 24) X G rfl inX8_number_X8 (Nat.le_of_ble_eq_true rfl) flX8_number_22 dX8_number_40 hf (fun v5 hf => ?_)
      refine lv_iload_n X.1.1 X.1.2.1 dX8_number_43 rfl (lv_at hl 1 rfl) ?_
      refine lv_aload_n X.1.1 X.1.2.1 dX8_number_44 rfl (lv_at hl 0 rfl) ?_
      refine zgetI (ci := 8) (k := 19) (C := RX8) (T := TX8) (N := 24) X G rfl inX8_number_X8 (Nat.le_of_ble_eq_true rfl) flX8_number_94 dX8_number_45 hf (fun v6 hf => ?_)
      refine ziast X G dX8_number_48 hf (fun h7 H locs hf G => ?_)
      refine lv_aload_n X.1.1 X.1.2.1 dX8_number_49 rfl (lv_at hl 0 rfl) ?_
      obtain ⟨hk, hf⟩ := zck hf
      obtain ⟨q8, eq8, hf⟩ := Option.bind_eq_some_iff.mp hf
      refine zcV0 (As := []) (rest := []) (v := none) (h' := q8) X G (rfl : vwCl[8]? = some (RX8, TX8, 24)) hk (m_X8_step l D dA b0 r0 h7 q8 eq8) (cwV 0 X.1.2.2.2.2 gX8_number_X8_step rfl rfl rfl hdV_X8_step ⟨(Nat.le_of_ble_eq_true rfl), (Nat.le_of_ble_eq_true rfl)⟩) rfl hl.1 rfl (Nat.le_of_ble_eq_true rfl) dX8_number_50 ⟨Nat.zero_le _, Nat.zero_le _⟩ (fun H locs G => ?_)
      refine lv_aload_n X.1.1 X.1.2.1 dX8_number_53 rfl (lv_at hl 0 rfl) ?_
      refine zgetI (ci := 8) (k := 18) (C := RX8) (T := TX8) (N := 24) X G rfl inX8_number_X8 (Nat.le_of_ble_eq_true rfl) flX8_number_105 dX8_number_54 hf (fun v9 hf => ?_)
      refine lv_iconst (v := 3) X.1.1 X.1.2.1 dX8_number_57 (by decide) ?_
      refine zic_ne (tgt := 70) X dX8_number_58 (by decide) hf (fun hf => ?_) (fun hf => ?_)
      · exact w_X8_number_b70 X hr hlk _ _ _ _ _ hf G (lv_sub hl [0] rfl)
      · refine lv_aload_n X.1.1 X.1.2.1 dX8_number_61 rfl (lv_at hl 0 rfl) ?_
        refine zgetI (ci := 8) (k := 19) (C := RX8) (T := TX8) (N := 24) X G rfl inX8_number_X8 (Nat.le_of_ble_eq_true rfl) flX8_number_94 dX8_number_62 hf (fun v10 hf => ?_)
        refine lv_iload X.1.1 X.1.2.1 dX8_number_65 (lv_at hl 4 rfl) ?_
        refine zic_eq (tgt := 78) X dX8_number_67 (by decide) hf (fun hf => ?_) (fun hf => ?_)
        · exact w_X8_number_b78 X hr hlk _ _ _ _ hf G (lv_sub hl [] rfl)
        · exact w_X8_number_b70 X hr hlk _ _ _ _ _ hf G (lv_sub hl [0] rfl)
    · refine lv_aload_n X.1.1 X.1.2.1 dX8_number_33 rfl (lv_at hl 0 rfl) ?_
      refine lv_iconst (v := 2) X.1.1 X.1.2.1 dX8_number_34 (by decide) ?_
      obtain ⟨hk, hf⟩ := zck hf
      obtain ⟨q11, eq11, hf⟩ := Option.bind_eq_some_iff.mp hf
      refine zcV0 (As := [.int (2 : Int32)]) (rest := []) (v := (some (.int q11.1))) (h' := q11.2) X G (rfl : vwCl[8]? = some (RX8, TX8, 24)) hk (m_X8_fails l D dA b0 r0 (2 : Int32) q1 q11 eq11) (cwV 1 X.1.2.2.2.2 gX8_number_X8_fails rfl rfl rfl hdV_X8_fails ⟨(Nat.le_of_ble_eq_true rfl), (Nat.le_of_ble_eq_true rfl)⟩) rfl hl.1 rfl (Nat.le_of_ble_eq_true rfl) dX8_number_35 ⟨Nat.zero_le _, Nat.zero_le _⟩ (fun H locs G => ?_)
      exact zretZ X hr hlk G hf dX8_number_38
  · refine lv_aload_n X.1.1 X.1.2.1 dX8_number_12 rfl (lv_at hl 0 rfl) ?_
    refine lv_iconst (v := 1) X.1.1 X.1.2.1 dX8_number_13 (by decide) ?_
    obtain ⟨hk, hf⟩ := zck hf
    obtain ⟨q12, eq12, hf⟩ := Option.bind_eq_some_iff.mp hf
    refine zcV0 (As := [.int (1 : Int32)]) (rest := []) (v := (some (.int q12.1))) (h' := q12.2) X G (rfl : vwCl[8]? = some (RX8, TX8, 24)) hk (m_X8_fails l D dA b0 r0 (1 : Int32) q1 q12 eq12) (cwV 1 X.1.2.2.2.2 gX8_number_X8_fails rfl rfl rfl hdV_X8_fails ⟨(Nat.le_of_ble_eq_true rfl), (Nat.le_of_ble_eq_true rfl)⟩) rfl hl.1 rfl (Nat.le_of_ble_eq_true rfl) dX8_number_14 ⟨Nat.zero_le _, Nat.zero_le _⟩ (fun H locs G => ?_)
    exact zretZ X hr hlk G hf dX8_number_17
/-! X8_sortOf -/
abbrev rmX8_sortOf : Room := { frames := 0, cells := 0, slots := 0, locals := 0 }
theorem hdS_X8_sortOf : yX8_sortOf.cls ≠ "java/lang/invoke/MethodHandle" ∧ yX8_sortOf.cls ≠ "java/lang/invoke/VarHandle" ∧ (parseMethodDescriptor yX8_sortOf.desc).map (fun d => d.parameters.length) = some 1 := by decide +kernel
set_option maxHeartbeats 4000000 in
set_option maxRecDepth 100000 in
theorem m_X8_sortOf (l : Launch) (D : va_G) (dA : Nat → ClassId) (b0 : Nat) (a0 : Int32) (h : zH) (z : Int32) (hf : f_X8_sortOf a0 h = some z) : Met l yX8_sortOf wsX8_sortOf rmX8_sortOf (zPc D dA b0 [.int a0] h) (zQ D dA b0 (some (.int z)) h) 0 0 (zA b0) := by
  refine Met.ofW (cc := cX8_sortOf) (maxL := 1) (ret := (some .int)) (by decide) rfl ?_
  intro p e s m args below meth c s₁ B hml hv
  obtain ⟨rfl, hP, hz, hK, hN⟩ := hv
  have hr := B.returns
  have hlk := B.notSynchronized
  have X : zX p s m _ c cX8_sortOf 1 RX8 wsX8_sortOf D dA := ⟨⟨B.exec, B.bytes, hml, findClass_of_methodNamed B.named, atoms_spec (ws := wsX8_sortOf) B.pre⟩, hK, hN⟩
  have G : zG D dA b0 s.heap h s.heap [] := ⟨hP, hz, va_S.rf⟩
  have hl := lv_entry ([.int a0]) (n := 1) (Nat.le_of_ble_eq_true rfl)
  rw [lg_entry_eq]
  generalize (lg_sl ([.int a0]) ++ List.replicate (1 - (lg_sl ([.int a0])).length) Slot.unset).toArray = ls at hl ⊢
  have hl : lv_has ls 1 [(0, .int a0)] := hl
  unfold f_X8_sortOf at hf
  refine lv_iload_n X.1.1 X.1.2.1 dX8_sortOf_0 rfl (lv_at hl 0 rfl) ?_
  refine lv_bipush (v := 105) X.1.1 X.1.2.1 dX8_sortOf_1 (by decide) ?_
  refine zic_ne (tgt := 10) X dX8_sortOf_3 (by decide) hf (fun hf => ?_) (fun hf => ?_)
  · refine lv_iload_n X.1.1 X.1.2.1 dX8_sortOf_10 rfl (lv_at hl 0 rfl) ?_
    refine lv_bipush (v := 99) X.1.1 X.1.2.1 dX8_sortOf_11 (by decide) ?_
    refine zic_ne (tgt := 20) X dX8_sortOf_13 (by decide) hf (fun hf => ?_) (fun hf => ?_)
    · refine lv_iload_n X.1.1 X.1.2.1 dX8_sortOf_20 rfl (lv_at hl 0 rfl) ?_
      refine lv_bipush (v := 119) X.1.1 X.1.2.1 dX8_sortOf_21 (by decide) ?_
      refine zic_ne (tgt := 30) X dX8_sortOf_23 (by decide) hf (fun hf => ?_) (fun hf => ?_)
      · refine lv_iload_n X.1.1 X.1.2.1 dX8_sortOf_30 rfl (lv_at hl 0 rfl) ?_
        refine lv_bipush (v := 115) X.1.1 X.1.2.1 dX8_sortOf_31 (by decide) ?_
        refine zic_ne (tgt := 40) X dX8_sortOf_33 (by decide) hf (fun hf => ?_) (fun hf => ?_)
        · refine lv_iload_n X.1.1 X.1.2.1 dX8_sortOf_40 rfl (lv_at hl 0 rfl) ?_
          refine lv_bipush (v := 103) X.1.1 X.1.2.1 dX8_sortOf_41 (by decide) ?_
          refine zic_ne (tgt := 50) X dX8_sortOf_43 (by decide) hf (fun hf => ?_) (fun hf => ?_)
          · refine lv_iconst (v := 0) X.1.1 X.1.2.1 dX8_sortOf_50 (by decide) ?_
            exact zretIr X hr hlk G hf dX8_sortOf_51
          · refine lv_iconst (v := 5) X.1.1 X.1.2.1 dX8_sortOf_46 (by decide) ?_
            refine lv_goto (tgt := 51) X.1.1 X.1.2.1 dX8_sortOf_47 (by decide) ?_
            exact zretIr X hr hlk G hf dX8_sortOf_51
        · refine lv_iconst (v := 4) X.1.1 X.1.2.1 dX8_sortOf_36 (by decide) ?_
          refine lv_goto (tgt := 51) X.1.1 X.1.2.1 dX8_sortOf_37 (by decide) ?_
          exact zretIr X hr hlk G hf dX8_sortOf_51
      · refine lv_iconst (v := 3) X.1.1 X.1.2.1 dX8_sortOf_26 (by decide) ?_
        refine lv_goto (tgt := 51) X.1.1 X.1.2.1 dX8_sortOf_27 (by decide) ?_
        exact zretIr X hr hlk G hf dX8_sortOf_51
    · refine lv_iconst (v := 2) X.1.1 X.1.2.1 dX8_sortOf_16 (by decide) ?_
      refine lv_goto (tgt := 51) X.1.1 X.1.2.1 dX8_sortOf_17 (by decide) ?_
      exact zretIr X hr hlk G hf dX8_sortOf_51
  · refine lv_iconst (v := 1) X.1.1 X.1.2.1 dX8_sortOf_6 (by decide) ?_
    refine lv_goto (tgt := 51) X.1.1 X.1.2.1 dX8_sortOf_7 (by decide) ?_
    exact zretIr X hr hlk G hf dX8_sortOf_51
