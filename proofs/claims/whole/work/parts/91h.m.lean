/-! X7_copy -/
abbrev rmX7_copy : Room := { frames := 1, cells := 0, slots := 0, locals := 60 }
theorem hdV_X7_copy : yX7_copy.cls = RX7 ∧ yX7_copy.cls ≠ "java/lang/invoke/MethodHandle" ∧ yX7_copy.cls ≠ "java/lang/invoke/VarHandle" ∧ (parseMethodDescriptor yX7_copy.desc).map (fun d => d.parameters.length) = some 5 := by decide +kernel
theorem coX7_copy_76 : Cond.constant RX7 76 (-1000001) ∈ wsX7_copy := by decide +kernel
theorem inX7_copy_X7 : ∀ w ∈ wsX70, w ∈ wsX7_copy := by decide +kernel
theorem flX7_copy_10 : Cond.fieldLink RX7 10 (TX7 0).1 (TX7 0).2.1 (TX7 0).2.2.1 ∈ wsX7_copy := by decide +kernel
theorem inX7_copy_X4 : ∀ w ∈ wsX40, w ∈ wsX7_copy := by decide +kernel
theorem flX7_copy_99 : Cond.fieldLink RX7 99 (TX4 1).1 (TX4 1).2.1 (TX4 1).2.2.1 ∈ wsX7_copy := by decide +kernel
theorem flX7_copy_103 : Cond.fieldLink RX7 103 (TX4 0).1 (TX4 0).2.1 (TX4 0).2.2.1 ∈ wsX7_copy := by decide +kernel
theorem wdX7_copy_acL107 : Cond.methodLink RX7 107 arraycopyName ∈ wsX7_copy := by decide +kernel
theorem wdX7_copy_acN : Cond.native arraycopyName ∈ wsX7_copy := by decide +kernel
theorem wdX7_copy_acS : Cond.static arraycopyName ∈ wsX7_copy := by decide +kernel
theorem wdX7_copy_acI : Cond.initialized "java/lang/System" ∈ wsX7_copy := by decide +kernel
set_option maxHeartbeats 4000000 in
set_option maxRecDepth 100000 in
theorem w_X7_copy_b39 {p : Program} {l : Launch} {e : Env} {s : State} {m : MethodId} {args : Array Value} {below : List Frame} {meth : Method} {c : Code} {D : va_G} {dA : Nat → ClassId} {b0 : Nat} (X : zX p s m args c cX7_copy 6 RX7 wsX7_copy D dA) (hr : meth.sig.returnType = (some .int)) (hlk : meth.locks = false) {z : Int32 × zH} : ∀ (r0 : Nat) (h : zH) (H : Heap) (locs : List Loc) (ls : Array Slot), f_X7_copy_b39 r0 h = some z → zG D dA b0 s.heap h H locs → lv_has ls 6 [(0, .ref (b0 + r0))] → W p l e rmX7_copy s m args below meth c H locs 0 0 (MQ below (zQ D dA b0 (some (.int z.1)) z.2) args s 0 0 (zA b0)) (F0 m 39 ls []) := by
  intro r0 h H locs ls hf G hl
  unfold f_X7_copy_b39 at hf
  refine lv_aload_n X.1.1 X.1.2.1 dX7_copy_39 rfl (lv_at hl 0 rfl) ?_
  refine lv_iconst (v := 1) X.1.1 X.1.2.1 dX7_copy_40 (by decide) ?_
  obtain ⟨hk, hf⟩ := zck hf
  obtain ⟨q1, eq1, hf⟩ := Option.bind_eq_some_iff.mp hf
  refine zcV0 (As := [.int (1 : Int32)]) (rest := []) (v := (some (.int q1.1))) (h' := q1.2) X G (rfl : vwCl[7]? = some (RX7, TX7, 11)) hk (m_X7_found l D dA b0 r0 (1 : Int32) h q1 eq1) (cwV 1 X.1.2.2.2.2 gX7_copy_X7_found rfl rfl rfl hdV_X7_found ⟨(Nat.le_of_ble_eq_true rfl), (Nat.le_of_ble_eq_true rfl)⟩) rfl hl.1 rfl (Nat.le_of_ble_eq_true rfl) dX7_copy_41 ⟨Nat.zero_le _, Nat.zero_le _⟩ (fun H locs G => ?_)
  exact zretI X hr hlk G hf dX7_copy_44
set_option maxHeartbeats 4000000 in
set_option maxRecDepth 100000 in
theorem w_X7_copy_b101 {p : Program} {l : Launch} {e : Env} {s : State} {m : MethodId} {args : Array Value} {below : List Frame} {meth : Method} {c : Code} {D : va_G} {dA : Nat → ClassId} {b0 : Nat} (X : zX p s m args c cX7_copy 6 RX7 wsX7_copy D dA) (hr : meth.sig.returnType = (some .int)) (hlk : meth.locks = false) {z : Int32 × zH} : ∀ (r0 : Nat) (h : zH) (H : Heap) (locs : List Loc) (ls : Array Slot), f_X7_copy_b101 r0 h = some z → zG D dA b0 s.heap h H locs → lv_has ls 6 [(0, .ref (b0 + r0))] → W p l e rmX7_copy s m args below meth c H locs 0 0 (MQ below (zQ D dA b0 (some (.int z.1)) z.2) args s 0 0 (zA b0)) (F0 m 101 ls []) := by
  intro r0 h H locs ls hf G hl
  unfold f_X7_copy_b101 at hf
  refine lv_aload_n X.1.1 X.1.2.1 dX7_copy_101 rfl (lv_at hl 0 rfl) ?_
  refine lv_iconst (v := 2) X.1.1 X.1.2.1 dX7_copy_102 (by decide) ?_
  obtain ⟨hk, hf⟩ := zck hf
  obtain ⟨q1, eq1, hf⟩ := Option.bind_eq_some_iff.mp hf
  refine zcV0 (As := [.int (2 : Int32)]) (rest := []) (v := (some (.int q1.1))) (h' := q1.2) X G (rfl : vwCl[7]? = some (RX7, TX7, 11)) hk (m_X7_found l D dA b0 r0 (2 : Int32) h q1 eq1) (cwV 1 X.1.2.2.2.2 gX7_copy_X7_found rfl rfl rfl hdV_X7_found ⟨(Nat.le_of_ble_eq_true rfl), (Nat.le_of_ble_eq_true rfl)⟩) rfl hl.1 rfl (Nat.le_of_ble_eq_true rfl) dX7_copy_103 ⟨Nat.zero_le _, Nat.zero_le _⟩ (fun H locs G => ?_)
  exact zretI X hr hlk G hf dX7_copy_106
set_option maxHeartbeats 4000000 in
set_option maxRecDepth 100000 in
theorem m_X7_copy (l : Launch) (D : va_G) (dA : Nat → ClassId) (b0 : Nat) (r0 : Nat) (a1 : Int32) (a2 : Int32) (a3 : Int32) (a4 : Int32) (a5 : Int32) (h : zH) (z : Int32 × zH) (hf : f_X7_copy r0 a1 a2 a3 a4 a5 h = some z) : Met l yX7_copy wsX7_copy rmX7_copy (zPc D dA b0 [.ref (b0 + r0), .int a1, .int a2, .int a3, .int a4, .int a5] h) (zQ D dA b0 (some (.int z.1)) z.2) 0 0 (zA b0) := by
  refine Met.ofW (cc := cX7_copy) (maxL := 6) (ret := (some .int)) (by decide) rfl ?_
  intro p e s m args below meth c s₁ B hml hv
  obtain ⟨rfl, hP, hz, hK, hN⟩ := hv
  have hr := B.returns
  have hlk := B.notSynchronized
  have X : zX p s m _ c cX7_copy 6 RX7 wsX7_copy D dA := ⟨⟨B.exec, B.bytes, hml, findClass_of_methodNamed B.named, atoms_spec (ws := wsX7_copy) B.pre⟩, hK, hN⟩
  have G : zG D dA b0 s.heap h s.heap [] := ⟨hP, hz, va_S.rf⟩
  have hl := lv_entry ([.ref (b0 + r0), .int a1, .int a2, .int a3, .int a4, .int a5]) (n := 6) (Nat.le_of_ble_eq_true rfl)
  rw [lg_entry_eq]
  generalize (lg_sl ([.ref (b0 + r0), .int a1, .int a2, .int a3, .int a4, .int a5]) ++ List.replicate (6 - (lg_sl ([.ref (b0 + r0), .int a1, .int a2, .int a3, .int a4, .int a5])).length) Slot.unset).toArray = ls at hl ⊢
  have hl : lv_has ls 6 [(0, .ref (b0 + r0)), (1, .int a1), (2, .int a2), (3, .int a3), (4, .int a4), (5, .int a5)] := hl
  unfold f_X7_copy at hf
  refine lv_iload_n X.1.1 X.1.2.1 dX7_copy_0 rfl (lv_at hl 1 rfl) ?_
  obtain ⟨q1, eq1, hf⟩ := Option.bind_eq_some_iff.mp hf
  refine zcS0 (As := [.int a1]) (rest := []) (v := (some (.int q1))) (h' := h) X G (m_X7_isRow l D dA b0 a1 h q1 eq1) (va_cwS 1 X.1.2.2.2.2 gX7_copy_X7_isRow rfl rfl rfl hdS_X7_isRow ⟨(Nat.le_of_ble_eq_true rfl), (Nat.le_of_ble_eq_true rfl)⟩) rfl hl.1 rfl (Nat.le_of_ble_eq_true rfl) dX7_copy_1 ⟨Nat.zero_le _, Nat.zero_le _⟩ (fun H locs G => ?_)
  refine zif_eq (tgt := 14) X dX7_copy_4 (by decide) hf (fun hf => ?_) (fun hf => ?_)
  · refine lv_ldc (v := -1000001) X.1.1 X.1.2.1 X.1.2.2.2.1 (X.1.2.2.2.2 _ coX7_copy_76) dX7_copy_14 ?_
    exact zretI X hr hlk G hf dX7_copy_16
  · refine lv_iload_n X.1.1 X.1.2.1 dX7_copy_7 rfl (lv_at hl 3 rfl) ?_
    obtain ⟨q2, eq2, hf⟩ := Option.bind_eq_some_iff.mp hf
    refine zcS0 (As := [.int a3]) (rest := []) (v := (some (.int q2))) (h' := h) X G (m_X7_isRow l D dA b0 a3 h q2 eq2) (va_cwS 1 X.1.2.2.2.2 gX7_copy_X7_isRow rfl rfl rfl hdS_X7_isRow ⟨(Nat.le_of_ble_eq_true rfl), (Nat.le_of_ble_eq_true rfl)⟩) rfl hl.1 rfl (Nat.le_of_ble_eq_true rfl) dX7_copy_8 ⟨Nat.zero_le _, Nat.zero_le _⟩ (fun H locs G => ?_)
    refine zif_ne (tgt := 17) X dX7_copy_11 (by decide) hf (fun hf => ?_) (fun hf => ?_)
    · refine lv_aload_n X.1.1 X.1.2.1 dX7_copy_17 rfl (lv_at hl 0 rfl) ?_
      refine zgetR (ci := 7) (k := 0) (C := RX7) (T := TX7) (N := 11) X G rfl inX7_copy_X7 (Nat.le_of_ble_eq_true rfl) flX7_copy_10 dX7_copy_18 hf (fun v3 hf => ?_)
      refine lv_iload_n X.1.1 X.1.2.1 dX7_copy_21 rfl (lv_at hl 1 rfl) ?_
      obtain ⟨hk, hf⟩ := zck hf
      obtain ⟨q4, eq4, hf⟩ := Option.bind_eq_some_iff.mp hf
      refine zcV0 (As := [.int a1]) (rest := []) (v := (some (.int q4))) (h' := h) X G (rfl : vwCl[4]? = some (RX4, TX4, 3)) hk (m_X4_isMissing l D dA b0 v3 a1 h q4 eq4) (cwV 1 X.1.2.2.2.2 gX7_copy_X4_isMissing rfl rfl rfl hdV_X4_isMissing ⟨(Nat.le_of_ble_eq_true rfl), (Nat.le_of_ble_eq_true rfl)⟩) rfl hl.1 rfl (Nat.le_of_ble_eq_true rfl) dX7_copy_22 ⟨Nat.zero_le _, Nat.zero_le _⟩ (fun H locs G => ?_)
      refine zif_ne (tgt := 39) X dX7_copy_25 (by decide) hf (fun hf => ?_) (fun hf => ?_)
      · exact w_X7_copy_b39 X hr hlk _ _ _ _ _ hf G (lv_sub hl [0] rfl)
      · refine lv_aload_n X.1.1 X.1.2.1 dX7_copy_28 rfl (lv_at hl 0 rfl) ?_
        refine zgetR (ci := 7) (k := 0) (C := RX7) (T := TX7) (N := 11) X G rfl inX7_copy_X7 (Nat.le_of_ble_eq_true rfl) flX7_copy_10 dX7_copy_29 hf (fun v5 hf => ?_)
        refine lv_iload_n X.1.1 X.1.2.1 dX7_copy_32 rfl (lv_at hl 3 rfl) ?_
        obtain ⟨hk, hf⟩ := zck hf
        obtain ⟨q6, eq6, hf⟩ := Option.bind_eq_some_iff.mp hf
        refine zcV0 (As := [.int a3]) (rest := []) (v := (some (.int q6))) (h' := h) X G (rfl : vwCl[4]? = some (RX4, TX4, 3)) hk (m_X4_isMissing l D dA b0 v5 a3 h q6 eq6) (cwV 1 X.1.2.2.2.2 gX7_copy_X4_isMissing rfl rfl rfl hdV_X4_isMissing ⟨(Nat.le_of_ble_eq_true rfl), (Nat.le_of_ble_eq_true rfl)⟩) rfl hl.1 rfl (Nat.le_of_ble_eq_true rfl) dX7_copy_33 ⟨Nat.zero_le _, Nat.zero_le _⟩ (fun H locs G => ?_)
        refine zif_eq (tgt := 45) X dX7_copy_36 (by decide) hf (fun hf => ?_) (fun hf => ?_)
        · refine lv_aload_n X.1.1 X.1.2.1 dX7_copy_45 rfl (lv_at hl 0 rfl) ?_
          refine zgetR (ci := 7) (k := 0) (C := RX7) (T := TX7) (N := 11) X G rfl inX7_copy_X7 (Nat.le_of_ble_eq_true rfl) flX7_copy_10 dX7_copy_46 hf (fun v7 hf => ?_)
          refine zgetR (ci := 4) (k := 1) (C := RX4) (T := TX4) (N := 3) X G rfl inX7_copy_X4 (Nat.le_of_ble_eq_true rfl) flX7_copy_99 dX7_copy_49 hf (fun v8 hf => ?_)
          refine lv_iload_n X.1.1 X.1.2.1 dX7_copy_52 rfl (lv_at hl 1 rfl) ?_
          refine ziald X G dX7_copy_53 hf (fun v9 hf => ?_)
          refine lv_aload_n X.1.1 X.1.2.1 dX7_copy_54 rfl (lv_at hl 0 rfl) ?_
          refine zgetR (ci := 7) (k := 0) (C := RX7) (T := TX7) (N := 11) X G rfl inX7_copy_X7 (Nat.le_of_ble_eq_true rfl) flX7_copy_10 dX7_copy_55 hf (fun v10 hf => ?_)
          refine zgetR (ci := 4) (k := 1) (C := RX4) (T := TX4) (N := 3) X G rfl inX7_copy_X4 (Nat.le_of_ble_eq_true rfl) flX7_copy_99 dX7_copy_58 hf (fun v11 hf => ?_)
          refine lv_iload_n X.1.1 X.1.2.1 dX7_copy_61 rfl (lv_at hl 3 rfl) ?_
          refine ziald X G dX7_copy_62 hf (fun v12 hf => ?_)
          refine zic_eq (tgt := 72) X dX7_copy_63 (by decide) hf (fun hf => ?_) (fun hf => ?_)
          · refine lv_aload_n X.1.1 X.1.2.1 dX7_copy_72 rfl (lv_at hl 0 rfl) ?_
            refine zgetR (ci := 7) (k := 0) (C := RX7) (T := TX7) (N := 11) X G rfl inX7_copy_X7 (Nat.le_of_ble_eq_true rfl) flX7_copy_10 dX7_copy_73 hf (fun v13 hf => ?_)
            refine lv_iload_n X.1.1 X.1.2.1 dX7_copy_76 rfl (lv_at hl 1 rfl) ?_
            refine lv_iload_n X.1.1 X.1.2.1 dX7_copy_77 rfl (lv_at hl 2 rfl) ?_
            refine lv_iload X.1.1 X.1.2.1 dX7_copy_78 (lv_at hl 5 rfl) ?_
            obtain ⟨hk, hf⟩ := zck hf
            obtain ⟨q14, eq14, hf⟩ := Option.bind_eq_some_iff.mp hf
            refine zcV0 (As := [.int a1, .int a2, .int a5]) (rest := []) (v := (some (.int q14))) (h' := h) X G (rfl : vwCl[4]? = some (RX4, TX4, 3)) hk (m_X4_hasRun l D dA b0 v13 a1 a2 a5 h q14 eq14) (cwV 3 X.1.2.2.2.2 gX7_copy_X4_hasRun rfl rfl rfl hdV_X4_hasRun ⟨(Nat.le_of_ble_eq_true rfl), (Nat.le_of_ble_eq_true rfl)⟩) rfl hl.1 rfl (Nat.le_of_ble_eq_true rfl) dX7_copy_80 ⟨Nat.zero_le _, Nat.zero_le _⟩ (fun H locs G => ?_)
            refine zif_eq (tgt := 101) X dX7_copy_83 (by decide) hf (fun hf => ?_) (fun hf => ?_)
            · exact w_X7_copy_b101 X hr hlk _ _ _ _ _ hf G (lv_sub hl [0] rfl)
            · refine lv_aload_n X.1.1 X.1.2.1 dX7_copy_86 rfl (lv_at hl 0 rfl) ?_
              refine zgetR (ci := 7) (k := 0) (C := RX7) (T := TX7) (N := 11) X G rfl inX7_copy_X7 (Nat.le_of_ble_eq_true rfl) flX7_copy_10 dX7_copy_87 hf (fun v15 hf => ?_)
              refine lv_iload_n X.1.1 X.1.2.1 dX7_copy_90 rfl (lv_at hl 3 rfl) ?_
              refine lv_iload X.1.1 X.1.2.1 dX7_copy_91 (lv_at hl 4 rfl) ?_
              refine lv_iload X.1.1 X.1.2.1 dX7_copy_93 (lv_at hl 5 rfl) ?_
              obtain ⟨hk, hf⟩ := zck hf
              obtain ⟨q16, eq16, hf⟩ := Option.bind_eq_some_iff.mp hf
              refine zcV0 (As := [.int a3, .int a4, .int a5]) (rest := []) (v := (some (.int q16))) (h' := h) X G (rfl : vwCl[4]? = some (RX4, TX4, 3)) hk (m_X4_hasRun l D dA b0 v15 a3 a4 a5 h q16 eq16) (cwV 3 X.1.2.2.2.2 gX7_copy_X4_hasRun rfl rfl rfl hdV_X4_hasRun ⟨(Nat.le_of_ble_eq_true rfl), (Nat.le_of_ble_eq_true rfl)⟩) rfl hl.1 rfl (Nat.le_of_ble_eq_true rfl) dX7_copy_95 ⟨Nat.zero_le _, Nat.zero_le _⟩ (fun H locs G => ?_)
              refine zif_ne (tgt := 107) X dX7_copy_98 (by decide) hf (fun hf => ?_) (fun hf => ?_)
              · refine lv_aload_n X.1.1 X.1.2.1 dX7_copy_107 rfl (lv_at hl 0 rfl) ?_
                refine zgetR (ci := 7) (k := 0) (C := RX7) (T := TX7) (N := 11) X G rfl inX7_copy_X7 (Nat.le_of_ble_eq_true rfl) flX7_copy_10 dX7_copy_108 hf (fun v17 hf => ?_)
                refine zgetR (ci := 4) (k := 0) (C := RX4) (T := TX4) (N := 3) X G rfl inX7_copy_X4 (Nat.le_of_ble_eq_true rfl) flX7_copy_103 dX7_copy_111 hf (fun v18 hf => ?_)
                refine lv_iload_n X.1.1 X.1.2.1 dX7_copy_114 rfl (lv_at hl 1 rfl) ?_
                refine zaald 3 X G rfl rfl dX7_copy_115 hf (fun v19 hf => ?_)
                refine lv_iload_n X.1.1 X.1.2.1 dX7_copy_116 rfl (lv_at hl 2 rfl) ?_
                refine lv_aload_n X.1.1 X.1.2.1 dX7_copy_117 rfl (lv_at hl 0 rfl) ?_
                refine zgetR (ci := 7) (k := 0) (C := RX7) (T := TX7) (N := 11) X G rfl inX7_copy_X7 (Nat.le_of_ble_eq_true rfl) flX7_copy_10 dX7_copy_118 hf (fun v20 hf => ?_)
                refine zgetR (ci := 4) (k := 0) (C := RX4) (T := TX4) (N := 3) X G rfl inX7_copy_X4 (Nat.le_of_ble_eq_true rfl) flX7_copy_103 dX7_copy_121 hf (fun v21 hf => ?_)
                refine lv_iload_n X.1.1 X.1.2.1 dX7_copy_124 rfl (lv_at hl 3 rfl) ?_
                refine zaald 3 X G rfl rfl dX7_copy_125 hf (fun v22 hf => ?_)
                refine lv_iload X.1.1 X.1.2.1 dX7_copy_126 (lv_at hl 4 rfl) ?_
                refine lv_iload X.1.1 X.1.2.1 dX7_copy_128 (lv_at hl 5 rfl) ?_
                refine zcp X G hl.1 wdX7_copy_acL107 wdX7_copy_acN wdX7_copy_acS wdX7_copy_acI (Nat.le_of_ble_eq_true rfl) (by decide +kernel) dX7_copy_130 hf (fun h23 H locs hf G => ?_)
                refine lv_aload_n X.1.1 X.1.2.1 dX7_copy_133 rfl (lv_at hl 0 rfl) ?_
                refine lv_iload X.1.1 X.1.2.1 dX7_copy_134 (lv_at hl 5 rfl) ?_
                obtain ⟨hk, hf⟩ := zck hf
                obtain ⟨q24, eq24, hf⟩ := Option.bind_eq_some_iff.mp hf
                refine zcV0 (As := [.int a5]) (rest := []) (v := (some (.int q24.1))) (h' := q24.2) X G (rfl : vwCl[7]? = some (RX7, TX7, 11)) hk (m_X7_fine l D dA b0 r0 a5 h23 q24 eq24) (cwV 1 X.1.2.2.2.2 gX7_copy_X7_fine rfl rfl rfl hdV_X7_fine ⟨(Nat.le_of_ble_eq_true rfl), (Nat.le_of_ble_eq_true rfl)⟩) rfl hl.1 rfl (Nat.le_of_ble_eq_true rfl) dX7_copy_136 ⟨Nat.zero_le _, Nat.zero_le _⟩ (fun H locs G => ?_)
                exact zretI X hr hlk G hf dX7_copy_139
              · exact w_X7_copy_b101 X hr hlk _ _ _ _ _ hf G (lv_sub hl [0] rfl)
          · refine lv_aload_n X.1.1 X.1.2.1 dX7_copy_66 rfl (lv_at hl 0 rfl) ?_
            refine lv_iconst (v := 5) X.1.1 X.1.2.1 dX7_copy_67 (by decide) ?_
            obtain ⟨hk, hf⟩ := zck hf
            obtain ⟨q25, eq25, hf⟩ := Option.bind_eq_some_iff.mp hf
            refine zcV0 (As := [.int (5 : Int32)]) (rest := []) (v := (some (.int q25.1))) (h' := q25.2) X G (rfl : vwCl[7]? = some (RX7, TX7, 11)) hk (m_X7_found l D dA b0 r0 (5 : Int32) h q25 eq25) (cwV 1 X.1.2.2.2.2 gX7_copy_X7_found rfl rfl rfl hdV_X7_found ⟨(Nat.le_of_ble_eq_true rfl), (Nat.le_of_ble_eq_true rfl)⟩) rfl hl.1 rfl (Nat.le_of_ble_eq_true rfl) dX7_copy_68 ⟨Nat.zero_le _, Nat.zero_le _⟩ (fun H locs G => ?_)
            exact zretI X hr hlk G hf dX7_copy_71
        · exact w_X7_copy_b39 X hr hlk _ _ _ _ _ hf G (lv_sub hl [0] rfl)
    · refine lv_ldc (v := -1000001) X.1.1 X.1.2.1 X.1.2.2.2.1 (X.1.2.2.2.2 _ coX7_copy_76) dX7_copy_14 ?_
      exact zretI X hr hlk G hf dX7_copy_16
/-! X7_drop -/
abbrev rmX7_drop : Room := { frames := 1, cells := 0, slots := 0, locals := 21 }
theorem hdV_X7_drop : yX7_drop.cls = RX7 ∧ yX7_drop.cls ≠ "java/lang/invoke/MethodHandle" ∧ yX7_drop.cls ≠ "java/lang/invoke/VarHandle" ∧ (parseMethodDescriptor yX7_drop.desc).map (fun d => d.parameters.length) = some 1 := by decide +kernel
theorem inX7_drop_X7 : ∀ w ∈ wsX70, w ∈ wsX7_drop := by decide +kernel
theorem flX7_drop_10 : Cond.fieldLink RX7 10 (TX7 0).1 (TX7 0).2.1 (TX7 0).2.2.1 ∈ wsX7_drop := by decide +kernel
theorem inX7_drop_X4 : ∀ w ∈ wsX40, w ∈ wsX7_drop := by decide +kernel
theorem flX7_drop_113 : Cond.fieldLink RX7 113 (TX4 2).1 (TX4 2).2.1 (TX4 2).2.2.1 ∈ wsX7_drop := by decide +kernel
theorem coX7_drop_76 : Cond.constant RX7 76 (-1000001) ∈ wsX7_drop := by decide +kernel
set_option maxHeartbeats 4000000 in
set_option maxRecDepth 100000 in
theorem m_X7_drop (l : Launch) (D : va_G) (dA : Nat → ClassId) (b0 : Nat) (r0 : Nat) (a1 : Int32) (h : zH) (z : Int32 × zH) (hf : f_X7_drop r0 a1 h = some z) : Met l yX7_drop wsX7_drop rmX7_drop (zPc D dA b0 [.ref (b0 + r0), .int a1] h) (zQ D dA b0 (some (.int z.1)) z.2) 0 0 (zA b0) := by
  refine Met.ofW (cc := cX7_drop) (maxL := 3) (ret := (some .int)) (by decide) rfl ?_
  intro p e s m args below meth c s₁ B hml hv
  obtain ⟨rfl, hP, hz, hK, hN⟩ := hv
  have hr := B.returns
  have hlk := B.notSynchronized
  have X : zX p s m _ c cX7_drop 3 RX7 wsX7_drop D dA := ⟨⟨B.exec, B.bytes, hml, findClass_of_methodNamed B.named, atoms_spec (ws := wsX7_drop) B.pre⟩, hK, hN⟩
  have G : zG D dA b0 s.heap h s.heap [] := ⟨hP, hz, va_S.rf⟩
  have hl := lv_entry ([.ref (b0 + r0), .int a1]) (n := 3) (Nat.le_of_ble_eq_true rfl)
  rw [lg_entry_eq]
  generalize (lg_sl ([.ref (b0 + r0), .int a1]) ++ List.replicate (3 - (lg_sl ([.ref (b0 + r0), .int a1])).length) Slot.unset).toArray = ls at hl ⊢
  have hl : lv_has ls 3 [(0, .ref (b0 + r0)), (1, .int a1)] := hl
  unfold f_X7_drop at hf
  refine lv_iload_n X.1.1 X.1.2.1 dX7_drop_0 rfl (lv_at hl 1 rfl) ?_
  obtain ⟨q1, eq1, hf⟩ := Option.bind_eq_some_iff.mp hf
  refine zcS0 (As := [.int a1]) (rest := []) (v := (some (.int q1))) (h' := h) X G (m_X7_isRow l D dA b0 a1 h q1 eq1) (va_cwS 1 X.1.2.2.2.2 gX7_drop_X7_isRow rfl rfl rfl hdS_X7_isRow ⟨(Nat.le_of_ble_eq_true rfl), (Nat.le_of_ble_eq_true rfl)⟩) rfl hl.1 rfl (Nat.le_of_ble_eq_true rfl) dX7_drop_1 ⟨Nat.zero_le _, Nat.zero_le _⟩ (fun H locs G => ?_)
  refine zif_ne (tgt := 10) X dX7_drop_4 (by decide) hf (fun hf => ?_) (fun hf => ?_)
  · refine lv_aload_n X.1.1 X.1.2.1 dX7_drop_10 rfl (lv_at hl 0 rfl) ?_
    refine zgetR (ci := 7) (k := 0) (C := RX7) (T := TX7) (N := 11) X G rfl inX7_drop_X7 (Nat.le_of_ble_eq_true rfl) flX7_drop_10 dX7_drop_11 hf (fun v2 hf => ?_)
    refine lv_iload_n X.1.1 X.1.2.1 dX7_drop_14 rfl (lv_at hl 1 rfl) ?_
    obtain ⟨hk, hf⟩ := zck hf
    obtain ⟨q3, eq3, hf⟩ := Option.bind_eq_some_iff.mp hf
    refine zcV0 (As := [.int a1]) (rest := []) (v := (some (.int q3))) (h' := h) X G (rfl : vwCl[4]? = some (RX4, TX4, 3)) hk (m_X4_isMissing l D dA b0 v2 a1 h q3 eq3) (cwV 1 X.1.2.2.2.2 gX7_drop_X4_isMissing rfl rfl rfl hdV_X4_isMissing ⟨(Nat.le_of_ble_eq_true rfl), (Nat.le_of_ble_eq_true rfl)⟩) rfl hl.1 rfl (Nat.le_of_ble_eq_true rfl) dX7_drop_15 ⟨Nat.zero_le _, Nat.zero_le _⟩ (fun H locs G => ?_)
    refine zif_eq (tgt := 27) X dX7_drop_18 (by decide) hf (fun hf => ?_) (fun hf => ?_)
    · refine lv_aload_n X.1.1 X.1.2.1 dX7_drop_27 rfl (lv_at hl 0 rfl) ?_
      refine zgetR (ci := 7) (k := 0) (C := RX7) (T := TX7) (N := 11) X G rfl inX7_drop_X7 (Nat.le_of_ble_eq_true rfl) flX7_drop_10 dX7_drop_28 hf (fun v4 hf => ?_)
      refine zgetR (ci := 4) (k := 2) (C := RX4) (T := TX4) (N := 3) X G rfl inX7_drop_X4 (Nat.le_of_ble_eq_true rfl) flX7_drop_113 dX7_drop_31 hf (fun v5 hf => ?_)
      refine lv_iload_n X.1.1 X.1.2.1 dX7_drop_34 rfl (lv_at hl 1 rfl) ?_
      refine ziald X G dX7_drop_35 hf (fun v6 hf => ?_)
      refine lv_istore_n (lv' := [(2, .int v6), (0, .ref (b0 + r0)), (1, .int a1)]) X.1.1 X.1.2.1 dX7_drop_36 rfl hl (by decide) rfl (fun ls hl => ?_)
      refine lv_aload_n X.1.1 X.1.2.1 dX7_drop_37 rfl (lv_at hl 1 rfl) ?_
      refine zgetR (ci := 7) (k := 0) (C := RX7) (T := TX7) (N := 11) X G rfl inX7_drop_X7 (Nat.le_of_ble_eq_true rfl) flX7_drop_10 dX7_drop_38 hf (fun v7 hf => ?_)
      refine zgetR (ci := 4) (k := 2) (C := RX4) (T := TX4) (N := 3) X G rfl inX7_drop_X4 (Nat.le_of_ble_eq_true rfl) flX7_drop_113 dX7_drop_41 hf (fun v8 hf => ?_)
      refine lv_iload_n X.1.1 X.1.2.1 dX7_drop_44 rfl (lv_at hl 2 rfl) ?_
      refine lv_iconst (v := -1) X.1.1 X.1.2.1 dX7_drop_45 (by decide) ?_
      refine ziast X G dX7_drop_46 hf (fun h9 H locs hf G => ?_)
      refine lv_aload_n X.1.1 X.1.2.1 dX7_drop_47 rfl (lv_at hl 1 rfl) ?_
      refine lv_iload_n X.1.1 X.1.2.1 dX7_drop_48 rfl (lv_at hl 0 rfl) ?_
      obtain ⟨hk, hf⟩ := zck hf
      obtain ⟨q10, eq10, hf⟩ := Option.bind_eq_some_iff.mp hf
      refine zcV0 (As := [.int v6]) (rest := []) (v := (some (.int q10.1))) (h' := q10.2) X G (rfl : vwCl[7]? = some (RX7, TX7, 11)) hk (m_X7_fine l D dA b0 r0 v6 h9 q10 eq10) (cwV 1 X.1.2.2.2.2 gX7_drop_X7_fine rfl rfl rfl hdV_X7_fine ⟨(Nat.le_of_ble_eq_true rfl), (Nat.le_of_ble_eq_true rfl)⟩) rfl hl.1 rfl (Nat.le_of_ble_eq_true rfl) dX7_drop_49 ⟨Nat.zero_le _, Nat.zero_le _⟩ (fun H locs G => ?_)
      exact zretI X hr hlk G hf dX7_drop_52
    · refine lv_aload_n X.1.1 X.1.2.1 dX7_drop_21 rfl (lv_at hl 0 rfl) ?_
      refine lv_iconst (v := 1) X.1.1 X.1.2.1 dX7_drop_22 (by decide) ?_
      obtain ⟨hk, hf⟩ := zck hf
      obtain ⟨q11, eq11, hf⟩ := Option.bind_eq_some_iff.mp hf
      refine zcV0 (As := [.int (1 : Int32)]) (rest := []) (v := (some (.int q11.1))) (h' := q11.2) X G (rfl : vwCl[7]? = some (RX7, TX7, 11)) hk (m_X7_found l D dA b0 r0 (1 : Int32) h q11 eq11) (cwV 1 X.1.2.2.2.2 gX7_drop_X7_found rfl rfl rfl hdV_X7_found ⟨(Nat.le_of_ble_eq_true rfl), (Nat.le_of_ble_eq_true rfl)⟩) rfl hl.1 rfl (Nat.le_of_ble_eq_true rfl) dX7_drop_23 ⟨Nat.zero_le _, Nat.zero_le _⟩ (fun H locs G => ?_)
      exact zretI X hr hlk G hf dX7_drop_26
  · refine lv_ldc (v := -1000001) X.1.1 X.1.2.1 X.1.2.2.2.1 (X.1.2.2.2.2 _ coX7_drop_76) dX7_drop_7 ?_
    exact zretI X hr hlk G hf dX7_drop_9
/-! X7_feed -/
abbrev rmX7_feed : Room := { frames := 1, cells := 0, slots := 0, locals := 21 }
theorem hdV_X7_feed : yX7_feed.cls = RX7 ∧ yX7_feed.cls ≠ "java/lang/invoke/MethodHandle" ∧ yX7_feed.cls ≠ "java/lang/invoke/VarHandle" ∧ (parseMethodDescriptor yX7_feed.desc).map (fun d => d.parameters.length) = some 1 := by decide +kernel
theorem coX7_feed_76 : Cond.constant RX7 76 (-1000001) ∈ wsX7_feed := by decide +kernel
theorem inX7_feed_X7 : ∀ w ∈ wsX70, w ∈ wsX7_feed := by decide +kernel
theorem flX7_feed_19 : Cond.fieldLink RX7 19 (TX7 1).1 (TX7 1).2.1 (TX7 1).2.2.1 ∈ wsX7_feed := by decide +kernel
theorem inX7_feed_X6 : ∀ w ∈ wsX60, w ∈ wsX7_feed := by decide +kernel
theorem flX7_feed_116 : Cond.fieldLink RX7 116 (TX6 1).1 (TX6 1).2.1 (TX6 1).2.2.1 ∈ wsX7_feed := by decide +kernel
theorem coX7_feed_118 : Cond.constant RX7 118 (-1000003) ∈ wsX7_feed := by decide +kernel
set_option maxHeartbeats 4000000 in
set_option maxRecDepth 100000 in
theorem m_X7_feed (l : Launch) (D : va_G) (dA : Nat → ClassId) (b0 : Nat) (r0 : Nat) (a1 : Int32) (h : zH) (z : Int32 × zH) (hf : f_X7_feed r0 a1 h = some z) : Met l yX7_feed wsX7_feed rmX7_feed (zPc D dA b0 [.ref (b0 + r0), .int a1] h) (zQ D dA b0 (some (.int z.1)) z.2) 0 0 (zA b0) := by
  refine Met.ofW (cc := cX7_feed) (maxL := 2) (ret := (some .int)) (by decide) rfl ?_
  intro p e s m args below meth c s₁ B hml hv
  obtain ⟨rfl, hP, hz, hK, hN⟩ := hv
  have hr := B.returns
  have hlk := B.notSynchronized
  have X : zX p s m _ c cX7_feed 2 RX7 wsX7_feed D dA := ⟨⟨B.exec, B.bytes, hml, findClass_of_methodNamed B.named, atoms_spec (ws := wsX7_feed) B.pre⟩, hK, hN⟩
  have G : zG D dA b0 s.heap h s.heap [] := ⟨hP, hz, va_S.rf⟩
  have hl := lv_entry ([.ref (b0 + r0), .int a1]) (n := 2) (Nat.le_of_ble_eq_true rfl)
  rw [lg_entry_eq]
  generalize (lg_sl ([.ref (b0 + r0), .int a1]) ++ List.replicate (2 - (lg_sl ([.ref (b0 + r0), .int a1])).length) Slot.unset).toArray = ls at hl ⊢
  have hl : lv_has ls 2 [(0, .ref (b0 + r0)), (1, .int a1)] := hl
  unfold f_X7_feed at hf
  refine lv_iload_n X.1.1 X.1.2.1 dX7_feed_0 rfl (lv_at hl 1 rfl) ?_
  refine zif_lt (tgt := 11) X dX7_feed_1 (by decide) hf (fun hf => ?_) (fun hf => ?_)
  · refine lv_ldc (v := -1000001) X.1.1 X.1.2.1 X.1.2.2.2.1 (X.1.2.2.2.2 _ coX7_feed_76) dX7_feed_11 ?_
    exact zretI X hr hlk G hf dX7_feed_13
  · refine lv_iload_n X.1.1 X.1.2.1 dX7_feed_4 rfl (lv_at hl 1 rfl) ?_
    refine lv_sipush (v := 255) X.1.1 X.1.2.1 dX7_feed_5 (by decide) ?_
    refine zic_le (tgt := 14) X dX7_feed_8 (by decide) hf (fun hf => ?_) (fun hf => ?_)
    · refine lv_aload_n X.1.1 X.1.2.1 dX7_feed_14 rfl (lv_at hl 0 rfl) ?_
      refine zgetR (ci := 7) (k := 1) (C := RX7) (T := TX7) (N := 11) X G rfl inX7_feed_X7 (Nat.le_of_ble_eq_true rfl) flX7_feed_19 dX7_feed_15 hf (fun v1 hf => ?_)
      refine zgetI (ci := 6) (k := 1) (C := RX6) (T := TX6) (N := 4) X G rfl inX7_feed_X6 (Nat.le_of_ble_eq_true rfl) flX7_feed_116 dX7_feed_18 hf (fun v2 hf => ?_)
      refine lv_bipush (v := 100) X.1.1 X.1.2.1 dX7_feed_21 (by decide) ?_
      refine zic_lt (tgt := 29) X dX7_feed_23 (by decide) hf (fun hf => ?_) (fun hf => ?_)
      · refine lv_aload_n X.1.1 X.1.2.1 dX7_feed_29 rfl (lv_at hl 0 rfl) ?_
        refine zgetR (ci := 7) (k := 1) (C := RX7) (T := TX7) (N := 11) X G rfl inX7_feed_X7 (Nat.le_of_ble_eq_true rfl) flX7_feed_19 dX7_feed_30 hf (fun v3 hf => ?_)
        refine lv_iload_n X.1.1 X.1.2.1 dX7_feed_33 rfl (lv_at hl 1 rfl) ?_
        obtain ⟨hk, hf⟩ := zck hf
        obtain ⟨q4, eq4, hf⟩ := Option.bind_eq_some_iff.mp hf
        refine zcV0 (As := [.int a1]) (rest := []) (v := none) (h' := q4) X G (rfl : vwCl[6]? = some (RX6, TX6, 4)) hk (m_X6_append l D dA b0 v3 a1 h q4 eq4) (cwV 1 X.1.2.2.2.2 gX7_feed_X6_append rfl rfl rfl hdV_X6_append ⟨(Nat.le_of_ble_eq_true rfl), (Nat.le_of_ble_eq_true rfl)⟩) rfl hl.1 rfl (Nat.le_of_ble_eq_true rfl) dX7_feed_34 ⟨Nat.zero_le _, Nat.zero_le _⟩ (fun H locs G => ?_)
        refine lv_aload_n X.1.1 X.1.2.1 dX7_feed_37 rfl (lv_at hl 0 rfl) ?_
        refine zgetR (ci := 7) (k := 1) (C := RX7) (T := TX7) (N := 11) X G rfl inX7_feed_X7 (Nat.le_of_ble_eq_true rfl) flX7_feed_19 dX7_feed_38 hf (fun v5 hf => ?_)
        refine zgetI (ci := 6) (k := 1) (C := RX6) (T := TX6) (N := 4) X G rfl inX7_feed_X6 (Nat.le_of_ble_eq_true rfl) flX7_feed_116 dX7_feed_41 hf (fun v6 hf => ?_)
        exact zretI X hr hlk G hf dX7_feed_44
      · refine lv_ldc (v := -1000003) X.1.1 X.1.2.1 X.1.2.2.2.1 (X.1.2.2.2.2 _ coX7_feed_118) dX7_feed_26 ?_
        exact zretI X hr hlk G hf dX7_feed_28
    · refine lv_ldc (v := -1000001) X.1.1 X.1.2.1 X.1.2.2.2.1 (X.1.2.2.2.2 _ coX7_feed_76) dX7_feed_11 ?_
      exact zretI X hr hlk G hf dX7_feed_13
/-! X7_mine -/
abbrev rmX7_mine : Room := { frames := 5, cells := 0, slots := 0, locals := 107 }
theorem hdV_X7_mine : yX7_mine.cls = RX7 ∧ yX7_mine.cls ≠ "java/lang/invoke/MethodHandle" ∧ yX7_mine.cls ≠ "java/lang/invoke/VarHandle" ∧ (parseMethodDescriptor yX7_mine.desc).map (fun d => d.parameters.length) = some 0 := by decide +kernel
theorem inX7_mine_X7 : ∀ w ∈ wsX70, w ∈ wsX7_mine := by decide +kernel
theorem flX7_mine_19 : Cond.fieldLink RX7 19 (TX7 1).1 (TX7 1).2.1 (TX7 1).2.2.1 ∈ wsX7_mine := by decide +kernel
theorem flX7_mine_30 : Cond.fieldLink RX7 30 (TX7 3).1 (TX7 3).2.1 (TX7 3).2.2.1 ∈ wsX7_mine := by decide +kernel
theorem inX7_mine_X6 : ∀ w ∈ wsX60, w ∈ wsX7_mine := by decide +kernel
theorem flX7_mine_116 : Cond.fieldLink RX7 116 (TX6 1).1 (TX6 1).2.1 (TX6 1).2.2.1 ∈ wsX7_mine := by decide +kernel
theorem flX7_mine_26 : Cond.fieldLink RX7 26 (TX7 2).1 (TX7 2).2.1 (TX7 2).2.2.1 ∈ wsX7_mine := by decide +kernel
theorem flX7_mine_36 : Cond.fieldLink RX7 36 (TX7 4).1 (TX7 4).2.1 (TX7 4).2.2.1 ∈ wsX7_mine := by decide +kernel
theorem inX7_mine_X3 : ∀ w ∈ wsX30, w ∈ wsX7_mine := by decide +kernel
theorem flX7_mine_138 : Cond.fieldLink RX7 138 (TX3 1).1 (TX3 1).2.1 (TX3 1).2.2.1 ∈ wsX7_mine := by decide +kernel
theorem flX7_mine_65 : Cond.fieldLink RX7 65 (TX7 9).1 (TX7 9).2.1 (TX7 9).2.2.1 ∈ wsX7_mine := by decide +kernel
theorem coX7_mine_127 : Cond.constant RX7 127 (-1000100) ∈ wsX7_mine := by decide +kernel
theorem flX7_mine_128 : Cond.fieldLink RX7 128 (TX6 2).1 (TX6 2).2.1 (TX6 2).2.2.1 ∈ wsX7_mine := by decide +kernel
set_option maxHeartbeats 4000000 in
set_option maxRecDepth 100000 in
theorem m_X7_mine (l : Launch) (D : va_G) (dA : Nat → ClassId) (b0 : Nat) (r0 : Nat) (h : zH) (z : Int32 × zH) (hf : f_X7_mine r0 h = some z) : Met l yX7_mine wsX7_mine rmX7_mine (zPc D dA b0 [.ref (b0 + r0)] h) (zQ D dA b0 (some (.int z.1)) z.2) 0 0 (zA b0) := by
  refine Met.ofW (cc := cX7_mine) (maxL := 2) (ret := (some .int)) (by decide) rfl ?_
  intro p e s m args below meth c s₁ B hml hv
  obtain ⟨rfl, hP, hz, hK, hN⟩ := hv
  have hr := B.returns
  have hlk := B.notSynchronized
  have X : zX p s m _ c cX7_mine 2 RX7 wsX7_mine D dA := ⟨⟨B.exec, B.bytes, hml, findClass_of_methodNamed B.named, atoms_spec (ws := wsX7_mine) B.pre⟩, hK, hN⟩
  have G : zG D dA b0 s.heap h s.heap [] := ⟨hP, hz, va_S.rf⟩
  have hl := lv_entry ([.ref (b0 + r0)]) (n := 2) (Nat.le_of_ble_eq_true rfl)
  rw [lg_entry_eq]
  generalize (lg_sl ([.ref (b0 + r0)]) ++ List.replicate (2 - (lg_sl ([.ref (b0 + r0)])).length) Slot.unset).toArray = ls at hl ⊢
  have hl : lv_has ls 2 [(0, .ref (b0 + r0))] := hl
  unfold f_X7_mine at hf
  refine lv_aload_n X.1.1 X.1.2.1 dX7_mine_0 rfl (lv_at hl 0 rfl) ?_
  refine zgetR (ci := 7) (k := 1) (C := RX7) (T := TX7) (N := 11) X G rfl inX7_mine_X7 (Nat.le_of_ble_eq_true rfl) flX7_mine_19 dX7_mine_1 hf (fun v1 hf => ?_)
  refine lv_aload_n X.1.1 X.1.2.1 dX7_mine_4 rfl (lv_at hl 0 rfl) ?_
  refine zgetR (ci := 7) (k := 3) (C := RX7) (T := TX7) (N := 11) X G rfl inX7_mine_X7 (Nat.le_of_ble_eq_true rfl) flX7_mine_30 dX7_mine_5 hf (fun v2 hf => ?_)
  obtain ⟨hk, hf⟩ := zck hf
  obtain ⟨q3, eq3, hf⟩ := Option.bind_eq_some_iff.mp hf
  refine zcV0 (As := [.ref (b0 + v2)]) (rest := []) (v := (some (.int q3.1))) (h' := q3.2) X G (rfl : vwCl[6]? = some (RX6, TX6, 4)) hk (m_X6_readInto l D dA b0 v1 v2 h q3 eq3) (cwV 1 X.1.2.2.2.2 gX7_mine_X6_readInto rfl rfl rfl hdV_X6_readInto ⟨(Nat.le_of_ble_eq_true rfl), (Nat.le_of_ble_eq_true rfl)⟩) rfl hl.1 rfl (Nat.le_of_ble_eq_true rfl) dX7_mine_8 ⟨Nat.zero_le _, Nat.zero_le _⟩ (fun H locs G => ?_)
  refine lv_istore_n (lv' := [(1, .int q3.1), (0, .ref (b0 + r0))]) X.1.1 X.1.2.1 dX7_mine_11 rfl hl (by decide) rfl (fun ls hl => ?_)
  refine lv_aload_n X.1.1 X.1.2.1 dX7_mine_12 rfl (lv_at hl 1 rfl) ?_
  refine zgetR (ci := 7) (k := 1) (C := RX7) (T := TX7) (N := 11) X G rfl inX7_mine_X7 (Nat.le_of_ble_eq_true rfl) flX7_mine_19 dX7_mine_13 hf (fun v4 hf => ?_)
  refine lv_iconst (v := 0) X.1.1 X.1.2.1 dX7_mine_16 (by decide) ?_
  refine zputI (ci := 6) (k := 1) (C := RX6) (T := TX6) (N := 4) X G rfl inX7_mine_X6 tyX6_ok nmX6 (Nat.le_of_ble_eq_true rfl) flX7_mine_116 rfl (by decide +kernel) dX7_mine_17 hf (fun h5 H locs hf G => ?_)
  refine lv_iload_n X.1.1 X.1.2.1 dX7_mine_20 rfl (lv_at hl 0 rfl) ?_
  refine zif_eq (tgt := 40) X dX7_mine_21 (by decide) hf (fun hf => ?_) (fun hf => ?_)
  · refine lv_aload_n X.1.1 X.1.2.1 dX7_mine_40 rfl (lv_at hl 1 rfl) ?_
    refine zgetR (ci := 7) (k := 2) (C := RX7) (T := TX7) (N := 11) X G rfl inX7_mine_X7 (Nat.le_of_ble_eq_true rfl) flX7_mine_26 dX7_mine_41 hf (fun v6 hf => ?_)
    refine lv_aload_n X.1.1 X.1.2.1 dX7_mine_44 rfl (lv_at hl 1 rfl) ?_
    refine zgetR (ci := 7) (k := 3) (C := RX7) (T := TX7) (N := 11) X G rfl inX7_mine_X7 (Nat.le_of_ble_eq_true rfl) flX7_mine_30 dX7_mine_45 hf (fun v7 hf => ?_)
    obtain ⟨hk, hf⟩ := zck hf
    obtain ⟨q8, eq8, hf⟩ := Option.bind_eq_some_iff.mp hf
    refine zcV0 (As := [.ref (b0 + v7)]) (rest := []) (v := none) (h' := q8) X G (rfl : vwCl[3]? = some (RX3, TX3, 12)) hk (m_X3_become l D dA b0 v6 v7 h5 q8 eq8) (cwV 1 X.1.2.2.2.2 gX7_mine_X3_become rfl rfl rfl hdV_X3_become ⟨(Nat.le_of_ble_eq_true rfl), (Nat.le_of_ble_eq_true rfl)⟩) rfl hl.1 rfl (Nat.le_of_ble_eq_true rfl) dX7_mine_48 ⟨Nat.zero_le _, Nat.zero_le _⟩ (fun H locs G => ?_)
    refine lv_aload_n X.1.1 X.1.2.1 dX7_mine_51 rfl (lv_at hl 1 rfl) ?_
    refine zgetR (ci := 7) (k := 4) (C := RX7) (T := TX7) (N := 11) X G rfl inX7_mine_X7 (Nat.le_of_ble_eq_true rfl) flX7_mine_36 dX7_mine_52 hf (fun v9 hf => ?_)
    obtain ⟨hk, hf⟩ := zck hf
    obtain ⟨q10, eq10, hf⟩ := Option.bind_eq_some_iff.mp hf
    refine zcV0 (As := []) (rest := []) (v := none) (h' := q10) X G (rfl : vwCl[0]? = some (RX0, TX0, 3)) hk (m_X0_forgetAll l D dA b0 v9 q8 q10 eq10) (cwV 0 X.1.2.2.2.2 gX7_mine_X0_forgetAll rfl rfl rfl hdV_X0_forgetAll ⟨(Nat.le_of_ble_eq_true rfl), (Nat.le_of_ble_eq_true rfl)⟩) rfl hl.1 rfl (Nat.le_of_ble_eq_true rfl) dX7_mine_55 ⟨Nat.zero_le _, Nat.zero_le _⟩ (fun H locs G => ?_)
    refine lv_aload_n X.1.1 X.1.2.1 dX7_mine_58 rfl (lv_at hl 1 rfl) ?_
    refine zgetR (ci := 7) (k := 2) (C := RX7) (T := TX7) (N := 11) X G rfl inX7_mine_X7 (Nat.le_of_ble_eq_true rfl) flX7_mine_26 dX7_mine_59 hf (fun v11 hf => ?_)
    refine zgetI (ci := 3) (k := 1) (C := RX3) (T := TX3) (N := 12) X G rfl inX7_mine_X3 (Nat.le_of_ble_eq_true rfl) flX7_mine_138 dX7_mine_62 hf (fun v12 hf => ?_)
    exact zretI X hr hlk G hf dX7_mine_65
  · refine lv_aload_n X.1.1 X.1.2.1 dX7_mine_24 rfl (lv_at hl 1 rfl) ?_
    refine lv_iload_n X.1.1 X.1.2.1 dX7_mine_25 rfl (lv_at hl 0 rfl) ?_
    refine zputI (ci := 7) (k := 9) (C := RX7) (T := TX7) (N := 11) X G rfl inX7_mine_X7 tyX7_ok nmX7 (Nat.le_of_ble_eq_true rfl) flX7_mine_65 rfl (by decide +kernel) dX7_mine_26 hf (fun h13 H locs hf G => ?_)
    refine lv_ldc (v := -1000100) X.1.1 X.1.2.1 X.1.2.2.2.1 (X.1.2.2.2.2 _ coX7_mine_127) dX7_mine_29 ?_
    refine lv_aload_n X.1.1 X.1.2.1 dX7_mine_31 rfl (lv_at hl 1 rfl) ?_
    refine zgetR (ci := 7) (k := 1) (C := RX7) (T := TX7) (N := 11) X G rfl inX7_mine_X7 (Nat.le_of_ble_eq_true rfl) flX7_mine_19 dX7_mine_32 hf (fun v14 hf => ?_)
    refine zgetI (ci := 6) (k := 2) (C := RX6) (T := TX6) (N := 4) X G rfl inX7_mine_X6 (Nat.le_of_ble_eq_true rfl) flX7_mine_128 dX7_mine_35 hf (fun v15 hf => ?_)
    refine lv_isub X.1.1 X.1.2.1 dX7_mine_38 ?_
    exact zretI X hr hlk G hf dX7_mine_39
/-! X7_fault -/
abbrev rmX7_fault : Room := { frames := 0, cells := 0, slots := 0, locals := 0 }
theorem hdV_X7_fault : yX7_fault.cls = RX7 ∧ yX7_fault.cls ≠ "java/lang/invoke/MethodHandle" ∧ yX7_fault.cls ≠ "java/lang/invoke/VarHandle" ∧ (parseMethodDescriptor yX7_fault.desc).map (fun d => d.parameters.length) = some 0 := by decide +kernel
theorem inX7_fault_X7 : ∀ w ∈ wsX70, w ∈ wsX7_fault := by decide +kernel
theorem flX7_fault_65 : Cond.fieldLink RX7 65 (TX7 9).1 (TX7 9).2.1 (TX7 9).2.2.1 ∈ wsX7_fault := by decide +kernel
set_option maxHeartbeats 4000000 in
set_option maxRecDepth 100000 in
theorem m_X7_fault (l : Launch) (D : va_G) (dA : Nat → ClassId) (b0 : Nat) (r0 : Nat) (h : zH) (z : Int32) (hf : f_X7_fault r0 h = some z) : Met l yX7_fault wsX7_fault rmX7_fault (zPc D dA b0 [.ref (b0 + r0)] h) (zQ D dA b0 (some (.int z)) h) 0 0 (zA b0) := by
  refine Met.ofW (cc := cX7_fault) (maxL := 1) (ret := (some .int)) (by decide) rfl ?_
  intro p e s m args below meth c s₁ B hml hv
  obtain ⟨rfl, hP, hz, hK, hN⟩ := hv
  have hr := B.returns
  have hlk := B.notSynchronized
  have X : zX p s m _ c cX7_fault 1 RX7 wsX7_fault D dA := ⟨⟨B.exec, B.bytes, hml, findClass_of_methodNamed B.named, atoms_spec (ws := wsX7_fault) B.pre⟩, hK, hN⟩
  have G : zG D dA b0 s.heap h s.heap [] := ⟨hP, hz, va_S.rf⟩
  have hl := lv_entry ([.ref (b0 + r0)]) (n := 1) (Nat.le_of_ble_eq_true rfl)
  rw [lg_entry_eq]
  generalize (lg_sl ([.ref (b0 + r0)]) ++ List.replicate (1 - (lg_sl ([.ref (b0 + r0)])).length) Slot.unset).toArray = ls at hl ⊢
  have hl : lv_has ls 1 [(0, .ref (b0 + r0))] := hl
  unfold f_X7_fault at hf
  refine lv_aload_n X.1.1 X.1.2.1 dX7_fault_0 rfl (lv_at hl 0 rfl) ?_
  refine zgetI (ci := 7) (k := 9) (C := RX7) (T := TX7) (N := 11) X G rfl inX7_fault_X7 (Nat.le_of_ble_eq_true rfl) flX7_fault_65 dX7_fault_1 hf (fun v1 hf => ?_)
  exact zretIr X hr hlk G hf dX7_fault_4
/-! X7_years -/
abbrev rmX7_years : Room := { frames := 3, cells := 0, slots := 0, locals := 83 }
theorem hdV_X7_years : yX7_years.cls = RX7 ∧ yX7_years.cls ≠ "java/lang/invoke/MethodHandle" ∧ yX7_years.cls ≠ "java/lang/invoke/VarHandle" ∧ (parseMethodDescriptor yX7_years.desc).map (fun d => d.parameters.length) = some 1 := by decide +kernel
theorem inX7_years_X7 : ∀ w ∈ wsX70, w ∈ wsX7_years := by decide +kernel
theorem flX7_years_26 : Cond.fieldLink RX7 26 (TX7 2).1 (TX7 2).2.1 (TX7 2).2.2.1 ∈ wsX7_years := by decide +kernel
theorem flX7_years_36 : Cond.fieldLink RX7 36 (TX7 4).1 (TX7 4).2.1 (TX7 4).2.2.1 ∈ wsX7_years := by decide +kernel
theorem inX7_years_X3 : ∀ w ∈ wsX30, w ∈ wsX7_years := by decide +kernel
theorem flX7_years_141 : Cond.fieldLink RX7 141 (TX3 0).1 (TX3 0).2.1 (TX3 0).2.2.1 ∈ wsX7_years := by decide +kernel
theorem coX7_years_76 : Cond.constant RX7 76 (-1000001) ∈ wsX7_years := by decide +kernel
theorem flX7_years_146 : Cond.fieldLink RX7 146 (TX3 4).1 (TX3 4).2.1 (TX3 4).2.2.1 ∈ wsX7_years := by decide +kernel
theorem coX7_years_118 : Cond.constant RX7 118 (-1000003) ∈ wsX7_years := by decide +kernel
theorem coX7_years_145 : Cond.constant RX7 145 (-1000002) ∈ wsX7_years := by decide +kernel
set_option maxHeartbeats 4000000 in
set_option maxRecDepth 100000 in
theorem w_X7_years_b47 {p : Program} {l : Launch} {e : Env} {s : State} {m : MethodId} {args : Array Value} {below : List Frame} {meth : Method} {c : Code} {D : va_G} {dA : Nat → ClassId} {b0 : Nat} (X : zX p s m args c cX7_years 3 RX7 wsX7_years D dA) (hr : meth.sig.returnType = (some .int)) (hlk : meth.locks = false) {z : Int32 × zH} : ∀ (n : Nat), ∀ (r0 : Nat) (a1 : Int32) (a2 : Int32) (h : zH) (H : Heap) (locs : List Loc) (ls : Array Slot), f_X7_years_b47 n r0 a1 a2 h = some z → zG D dA b0 s.heap h H locs → lv_has ls 3 [(0, .ref (b0 + r0)), (1, .int a1), (2, .int a2)] → W p l e rmX7_years s m args below meth c H locs 0 0 (MQ below (zQ D dA b0 (some (.int z.1)) z.2) args s 0 0 (zA b0)) (F0 m 47 ls []) := by
  intro n
  induction n with
  | zero =>
    intro r0 a1 a2 h H locs ls hf
    cases hf
  | succ n ih =>
    intro r0 a1 a2 h H locs ls hf G hl
    rw [f_X7_years_b47] at hf
    refine lv_iload_n X.1.1 X.1.2.1 dX7_years_47 rfl (lv_at hl 2 rfl) ?_
    refine lv_iload_n X.1.1 X.1.2.1 dX7_years_48 rfl (lv_at hl 1 rfl) ?_
    refine zic_ge (tgt := 77) X dX7_years_49 (by decide) hf (fun hf => ?_) (fun hf => ?_)
    · refine lv_aload_n X.1.1 X.1.2.1 dX7_years_77 rfl (lv_at hl 0 rfl) ?_
      refine zgetR (ci := 7) (k := 2) (C := RX7) (T := TX7) (N := 11) X G rfl inX7_years_X7 (Nat.le_of_ble_eq_true rfl) flX7_years_26 dX7_years_78 hf (fun v1 hf => ?_)
      obtain ⟨hk, hf⟩ := zck hf
      obtain ⟨q2, eq2, hf⟩ := Option.bind_eq_some_iff.mp hf
      refine zcV0 (As := []) (rest := []) (v := (some (.int q2))) (h' := h) X G (rfl : vwCl[3]? = some (RX3, TX3, 12)) hk (m_X3_allUp l D dA b0 v1 h q2 eq2) (cwV 0 X.1.2.2.2.2 gX7_years_X3_allUp rfl rfl rfl hdV_X3_allUp ⟨(Nat.le_of_ble_eq_true rfl), (Nat.le_of_ble_eq_true rfl)⟩) rfl hl.1 rfl (Nat.le_of_ble_eq_true rfl) dX7_years_81 ⟨Nat.zero_le _, Nat.zero_le _⟩ (fun H locs G => ?_)
      exact zretI X hr hlk G hf dX7_years_84
    · refine lv_aload_n X.1.1 X.1.2.1 dX7_years_52 rfl (lv_at hl 0 rfl) ?_
      refine zgetR (ci := 7) (k := 4) (C := RX7) (T := TX7) (N := 11) X G rfl inX7_years_X7 (Nat.le_of_ble_eq_true rfl) flX7_years_36 dX7_years_53 hf (fun v3 hf => ?_)
      refine lv_aload_n X.1.1 X.1.2.1 dX7_years_56 rfl (lv_at hl 0 rfl) ?_
      refine zgetR (ci := 7) (k := 2) (C := RX7) (T := TX7) (N := 11) X G rfl inX7_years_X7 (Nat.le_of_ble_eq_true rfl) flX7_years_26 dX7_years_57 hf (fun v4 hf => ?_)
      obtain ⟨hk, hf⟩ := zck hf
      obtain ⟨q5, eq5, hf⟩ := Option.bind_eq_some_iff.mp hf
      refine zcV0 (As := [.ref (b0 + v4)]) (rest := []) (v := none) (h' := q5) X G (rfl : vwCl[0]? = some (RX0, TX0, 3)) hk (m_X0_keep l D dA b0 v3 v4 h q5 eq5) (cwV 1 X.1.2.2.2.2 gX7_years_X0_keep rfl rfl rfl hdV_X0_keep ⟨(Nat.le_of_ble_eq_true rfl), (Nat.le_of_ble_eq_true rfl)⟩) rfl hl.1 rfl (Nat.le_of_ble_eq_true rfl) dX7_years_60 ⟨Nat.zero_le _, Nat.zero_le _⟩ (fun H locs G => ?_)
      refine lv_aload_n X.1.1 X.1.2.1 dX7_years_63 rfl (lv_at hl 0 rfl) ?_
      refine zgetR (ci := 7) (k := 2) (C := RX7) (T := TX7) (N := 11) X G rfl inX7_years_X7 (Nat.le_of_ble_eq_true rfl) flX7_years_26 dX7_years_64 hf (fun v6 hf => ?_)
      obtain ⟨hk, hf⟩ := zck hf
      obtain ⟨q7, eq7, hf⟩ := Option.bind_eq_some_iff.mp hf
      refine zcV0 (As := []) (rest := []) (v := (some (.int q7.1))) (h' := q7.2) X G (rfl : vwCl[3]? = some (RX3, TX3, 12)) hk (m_X3_passYear l D dA b0 v6 q5 q7 eq7) (cwV 0 X.1.2.2.2.2 gX7_years_X3_passYear rfl rfl rfl hdV_X3_passYear ⟨(Nat.le_of_ble_eq_true rfl), (Nat.le_of_ble_eq_true rfl)⟩) rfl hl.1 rfl (Nat.le_of_ble_eq_true rfl) dX7_years_67 ⟨Nat.zero_le _, Nat.zero_le _⟩ (fun H locs G => ?_)
      refine lv_pop X.1.1 X.1.2.1 dX7_years_70 rfl ?_
      refine lv_iinc (v := (a2 + (1 : Int32))) (lv' := [(2, .int (a2 + (1 : Int32))), (0, .ref (b0 + r0)), (1, .int a1)]) X.1.1 X.1.2.1 dX7_years_71 hl (k := 2) rfl rfl (by decide) rfl (fun ls hl => ?_)
      refine lv_goto (tgt := 47) X.1.1 X.1.2.1 dX7_years_74 (by decide) ?_
      exact ih _ _ _ _ _ _ _ hf G (lv_sub hl [1, 2, 0] rfl)
set_option maxHeartbeats 4000000 in
set_option maxRecDepth 100000 in
theorem m_X7_years (l : Launch) (D : va_G) (dA : Nat → ClassId) (b0 : Nat) (r0 : Nat) (a1 : Int32) (h : zH) (z : Int32 × zH) (hf : f_X7_years r0 a1 h = some z) : Met l yX7_years wsX7_years rmX7_years (zPc D dA b0 [.ref (b0 + r0), .int a1] h) (zQ D dA b0 (some (.int z.1)) z.2) 0 0 (zA b0) := by
  refine Met.ofW (cc := cX7_years) (maxL := 3) (ret := (some .int)) (by decide) rfl ?_
  intro p e s m args below meth c s₁ B hml hv
  obtain ⟨rfl, hP, hz, hK, hN⟩ := hv
  have hr := B.returns
  have hlk := B.notSynchronized
  have X : zX p s m _ c cX7_years 3 RX7 wsX7_years D dA := ⟨⟨B.exec, B.bytes, hml, findClass_of_methodNamed B.named, atoms_spec (ws := wsX7_years) B.pre⟩, hK, hN⟩
  have G : zG D dA b0 s.heap h s.heap [] := ⟨hP, hz, va_S.rf⟩
  have hl := lv_entry ([.ref (b0 + r0), .int a1]) (n := 3) (Nat.le_of_ble_eq_true rfl)
  rw [lg_entry_eq]
  generalize (lg_sl ([.ref (b0 + r0), .int a1]) ++ List.replicate (3 - (lg_sl ([.ref (b0 + r0), .int a1])).length) Slot.unset).toArray = ls at hl ⊢
  have hl : lv_has ls 3 [(0, .ref (b0 + r0)), (1, .int a1)] := hl
  unfold f_X7_years at hf
  refine lv_aload_n X.1.1 X.1.2.1 dX7_years_0 rfl (lv_at hl 0 rfl) ?_
  refine zgetR (ci := 7) (k := 2) (C := RX7) (T := TX7) (N := 11) X G rfl inX7_years_X7 (Nat.le_of_ble_eq_true rfl) flX7_years_26 dX7_years_1 hf (fun v1 hf => ?_)
  refine zgetI (ci := 3) (k := 0) (C := RX3) (T := TX3) (N := 12) X G rfl inX7_years_X3 (Nat.le_of_ble_eq_true rfl) flX7_years_141 dX7_years_4 hf (fun v2 hf => ?_)
  refine zif_ne (tgt := 13) X dX7_years_7 (by decide) hf (fun hf => ?_) (fun hf => ?_)
  · refine lv_iload_n X.1.1 X.1.2.1 dX7_years_13 rfl (lv_at hl 1 rfl) ?_
    refine lv_iconst (v := 1) X.1.1 X.1.2.1 dX7_years_14 (by decide) ?_
    refine zic_lt (tgt := 24) X dX7_years_15 (by decide) hf (fun hf => ?_) (fun hf => ?_)
    · refine lv_ldc (v := -1000001) X.1.1 X.1.2.1 X.1.2.2.2.1 (X.1.2.2.2.2 _ coX7_years_76) dX7_years_24 ?_
      exact zretI X hr hlk G hf dX7_years_26
    · refine lv_iload_n X.1.1 X.1.2.1 dX7_years_18 rfl (lv_at hl 1 rfl) ?_
      refine lv_bipush (v := 24) X.1.1 X.1.2.1 dX7_years_19 (by decide) ?_
      refine zic_le (tgt := 27) X dX7_years_21 (by decide) hf (fun hf => ?_) (fun hf => ?_)
      · refine lv_aload_n X.1.1 X.1.2.1 dX7_years_27 rfl (lv_at hl 0 rfl) ?_
        refine zgetR (ci := 7) (k := 2) (C := RX7) (T := TX7) (N := 11) X G rfl inX7_years_X7 (Nat.le_of_ble_eq_true rfl) flX7_years_26 dX7_years_28 hf (fun v3 hf => ?_)
        refine zgetI (ci := 3) (k := 4) (C := RX3) (T := TX3) (N := 12) X G rfl inX7_years_X3 (Nat.le_of_ble_eq_true rfl) flX7_years_146 dX7_years_31 hf (fun v4 hf => ?_)
        refine lv_iload_n X.1.1 X.1.2.1 dX7_years_34 rfl (lv_at hl 1 rfl) ?_
        refine lv_iadd X.1.1 X.1.2.1 dX7_years_35 ?_
        refine lv_sipush (v := 999) X.1.1 X.1.2.1 dX7_years_36 (by decide) ?_
        refine zic_le (tgt := 45) X dX7_years_39 (by decide) hf (fun hf => ?_) (fun hf => ?_)
        · refine lv_iconst (v := 0) X.1.1 X.1.2.1 dX7_years_45 (by decide) ?_
          refine lv_istore_n (lv' := [(2, .int (0 : Int32)), (0, .ref (b0 + r0)), (1, .int a1)]) X.1.1 X.1.2.1 dX7_years_46 rfl hl (by decide) rfl (fun ls hl => ?_)
          exact w_X7_years_b47 X hr hlk _ _ _ _ _ _ _ _ hf G (lv_sub hl [1, 2, 0] rfl)
        · refine lv_ldc (v := -1000003) X.1.1 X.1.2.1 X.1.2.2.2.1 (X.1.2.2.2.2 _ coX7_years_118) dX7_years_42 ?_
          exact zretI X hr hlk G hf dX7_years_44
      · refine lv_ldc (v := -1000001) X.1.1 X.1.2.1 X.1.2.2.2.1 (X.1.2.2.2.2 _ coX7_years_76) dX7_years_24 ?_
        exact zretI X hr hlk G hf dX7_years_26
  · refine lv_ldc (v := -1000002) X.1.1 X.1.2.1 X.1.2.2.2.1 (X.1.2.2.2.2 _ coX7_years_145) dX7_years_10 ?_
    exact zretI X hr hlk G hf dX7_years_12
/-! X7_isThing -/
abbrev rmX7_isThing : Room := { frames := 0, cells := 0, slots := 0, locals := 0 }
theorem hdV_X7_isThing : yX7_isThing.cls = RX7 ∧ yX7_isThing.cls ≠ "java/lang/invoke/MethodHandle" ∧ yX7_isThing.cls ≠ "java/lang/invoke/VarHandle" ∧ (parseMethodDescriptor yX7_isThing.desc).map (fun d => d.parameters.length) = some 1 := by decide +kernel
theorem inX7_isThing_X7 : ∀ w ∈ wsX70, w ∈ wsX7_isThing := by decide +kernel
theorem flX7_isThing_26 : Cond.fieldLink RX7 26 (TX7 2).1 (TX7 2).2.1 (TX7 2).2.2.1 ∈ wsX7_isThing := by decide +kernel
theorem inX7_isThing_X3 : ∀ w ∈ wsX30, w ∈ wsX7_isThing := by decide +kernel
theorem flX7_isThing_138 : Cond.fieldLink RX7 138 (TX3 1).1 (TX3 1).2.1 (TX3 1).2.2.1 ∈ wsX7_isThing := by decide +kernel
set_option maxHeartbeats 4000000 in
set_option maxRecDepth 100000 in
theorem m_X7_isThing (l : Launch) (D : va_G) (dA : Nat → ClassId) (b0 : Nat) (r0 : Nat) (a1 : Int32) (h : zH) (z : Int32) (hf : f_X7_isThing r0 a1 h = some z) : Met l yX7_isThing wsX7_isThing rmX7_isThing (zPc D dA b0 [.ref (b0 + r0), .int a1] h) (zQ D dA b0 (some (.int z)) h) 0 0 (zA b0) := by
  refine Met.ofW (cc := cX7_isThing) (maxL := 2) (ret := (some .boolean)) (by decide) rfl ?_
  intro p e s m args below meth c s₁ B hml hv
  obtain ⟨rfl, hP, hz, hK, hN⟩ := hv
  have hr := B.returns
  have hlk := B.notSynchronized
  have X : zX p s m _ c cX7_isThing 2 RX7 wsX7_isThing D dA := ⟨⟨B.exec, B.bytes, hml, findClass_of_methodNamed B.named, atoms_spec (ws := wsX7_isThing) B.pre⟩, hK, hN⟩
  have G : zG D dA b0 s.heap h s.heap [] := ⟨hP, hz, va_S.rf⟩
  have hl := lv_entry ([.ref (b0 + r0), .int a1]) (n := 2) (Nat.le_of_ble_eq_true rfl)
  rw [lg_entry_eq]
  generalize (lg_sl ([.ref (b0 + r0), .int a1]) ++ List.replicate (2 - (lg_sl ([.ref (b0 + r0), .int a1])).length) Slot.unset).toArray = ls at hl ⊢
  have hl : lv_has ls 2 [(0, .ref (b0 + r0)), (1, .int a1)] := hl
  unfold f_X7_isThing at hf
  refine lv_iload_n X.1.1 X.1.2.1 dX7_isThing_0 rfl (lv_at hl 1 rfl) ?_
  refine zif_lt (tgt := 19) X dX7_isThing_1 (by decide) hf (fun hf => ?_) (fun hf => ?_)
  · refine lv_iconst (v := 0) X.1.1 X.1.2.1 dX7_isThing_19 (by decide) ?_
    exact zretZr X hr hlk G hf dX7_isThing_20
  · refine lv_iload_n X.1.1 X.1.2.1 dX7_isThing_4 rfl (lv_at hl 1 rfl) ?_
    refine lv_aload_n X.1.1 X.1.2.1 dX7_isThing_5 rfl (lv_at hl 0 rfl) ?_
    refine zgetR (ci := 7) (k := 2) (C := RX7) (T := TX7) (N := 11) X G rfl inX7_isThing_X7 (Nat.le_of_ble_eq_true rfl) flX7_isThing_26 dX7_isThing_6 hf (fun v1 hf => ?_)
    refine zgetI (ci := 3) (k := 1) (C := RX3) (T := TX3) (N := 12) X G rfl inX7_isThing_X3 (Nat.le_of_ble_eq_true rfl) flX7_isThing_138 dX7_isThing_9 hf (fun v2 hf => ?_)
    refine zic_ge (tgt := 19) X dX7_isThing_12 (by decide) hf (fun hf => ?_) (fun hf => ?_)
    · refine lv_iconst (v := 0) X.1.1 X.1.2.1 dX7_isThing_19 (by decide) ?_
      exact zretZr X hr hlk G hf dX7_isThing_20
    · refine lv_iconst (v := 1) X.1.1 X.1.2.1 dX7_isThing_15 (by decide) ?_
      refine lv_goto (tgt := 20) X.1.1 X.1.2.1 dX7_isThing_16 (by decide) ?_
      exact zretZr X hr hlk G hf dX7_isThing_20
/-! X7_bury -/
abbrev rmX7_bury : Room := { frames := 2, cells := 0, slots := 0, locals := 61 }
theorem hdV_X7_bury : yX7_bury.cls = RX7 ∧ yX7_bury.cls ≠ "java/lang/invoke/MethodHandle" ∧ yX7_bury.cls ≠ "java/lang/invoke/VarHandle" ∧ (parseMethodDescriptor yX7_bury.desc).map (fun d => d.parameters.length) = some 3 := by decide +kernel
theorem coX7_bury_76 : Cond.constant RX7 76 (-1000001) ∈ wsX7_bury := by decide +kernel
theorem inX7_bury_X7 : ∀ w ∈ wsX70, w ∈ wsX7_bury := by decide +kernel
theorem flX7_bury_36 : Cond.fieldLink RX7 36 (TX7 4).1 (TX7 4).2.1 (TX7 4).2.2.1 ∈ wsX7_bury := by decide +kernel
theorem flX7_bury_26 : Cond.fieldLink RX7 26 (TX7 2).1 (TX7 2).2.1 (TX7 2).2.2.1 ∈ wsX7_bury := by decide +kernel
theorem inX7_bury_X3 : ∀ w ∈ wsX30, w ∈ wsX7_bury := by decide +kernel
theorem flX7_bury_163 : Cond.fieldLink RX7 163 (TX3 5).1 (TX3 5).2.1 (TX3 5).2.2.1 ∈ wsX7_bury := by decide +kernel
theorem flX7_bury_166 : Cond.fieldLink RX7 166 (TX3 7).1 (TX3 7).2.1 (TX3 7).2.2.1 ∈ wsX7_bury := by decide +kernel
theorem flX7_bury_169 : Cond.fieldLink RX7 169 (TX3 8).1 (TX3 8).2.1 (TX3 8).2.2.1 ∈ wsX7_bury := by decide +kernel
set_option maxHeartbeats 4000000 in
set_option maxRecDepth 100000 in
theorem m_X7_bury (l : Launch) (D : va_G) (dA : Nat → ClassId) (b0 : Nat) (r0 : Nat) (a1 : Int32) (a2 : Int32) (a3 : Int32) (h : zH) (z : Int32 × zH) (hf : f_X7_bury r0 a1 a2 a3 h = some z) : Met l yX7_bury wsX7_bury rmX7_bury (zPc D dA b0 [.ref (b0 + r0), .int a1, .int a2, .int a3] h) (zQ D dA b0 (some (.int z.1)) z.2) 0 0 (zA b0) := by
  refine Met.ofW (cc := cX7_bury) (maxL := 4) (ret := (some .int)) (by decide) rfl ?_
  intro p e s m args below meth c s₁ B hml hv
  obtain ⟨rfl, hP, hz, hK, hN⟩ := hv
  have hr := B.returns
  have hlk := B.notSynchronized
  have X : zX p s m _ c cX7_bury 4 RX7 wsX7_bury D dA := ⟨⟨B.exec, B.bytes, hml, findClass_of_methodNamed B.named, atoms_spec (ws := wsX7_bury) B.pre⟩, hK, hN⟩
  have G : zG D dA b0 s.heap h s.heap [] := ⟨hP, hz, va_S.rf⟩
  have hl := lv_entry ([.ref (b0 + r0), .int a1, .int a2, .int a3]) (n := 4) (Nat.le_of_ble_eq_true rfl)
  rw [lg_entry_eq]
  generalize (lg_sl ([.ref (b0 + r0), .int a1, .int a2, .int a3]) ++ List.replicate (4 - (lg_sl ([.ref (b0 + r0), .int a1, .int a2, .int a3])).length) Slot.unset).toArray = ls at hl ⊢
  have hl : lv_has ls 4 [(0, .ref (b0 + r0)), (1, .int a1), (2, .int a2), (3, .int a3)] := hl
  unfold f_X7_bury at hf
  refine lv_aload_n X.1.1 X.1.2.1 dX7_bury_0 rfl (lv_at hl 0 rfl) ?_
  refine lv_iload_n X.1.1 X.1.2.1 dX7_bury_1 rfl (lv_at hl 1 rfl) ?_
  obtain ⟨hk, hf⟩ := zck hf
  obtain ⟨q1, eq1, hf⟩ := Option.bind_eq_some_iff.mp hf
  refine zcV0 (As := [.int a1]) (rest := []) (v := (some (.int q1))) (h' := h) X G (rfl : vwCl[7]? = some (RX7, TX7, 11)) hk (m_X7_isThing l D dA b0 r0 a1 h q1 eq1) (cwV 1 X.1.2.2.2.2 gX7_bury_X7_isThing rfl rfl rfl hdV_X7_isThing ⟨(Nat.le_of_ble_eq_true rfl), (Nat.le_of_ble_eq_true rfl)⟩) rfl hl.1 rfl (Nat.le_of_ble_eq_true rfl) dX7_bury_2 ⟨Nat.zero_le _, Nat.zero_le _⟩ (fun H locs G => ?_)
  refine zif_eq (tgt := 28) X dX7_bury_5 (by decide) hf (fun hf => ?_) (fun hf => ?_)
  · refine lv_ldc (v := -1000001) X.1.1 X.1.2.1 X.1.2.2.2.1 (X.1.2.2.2.2 _ coX7_bury_76) dX7_bury_28 ?_
    exact zretI X hr hlk G hf dX7_bury_30
  · refine lv_iload_n X.1.1 X.1.2.1 dX7_bury_8 rfl (lv_at hl 2 rfl) ?_
    refine zif_lt (tgt := 28) X dX7_bury_9 (by decide) hf (fun hf => ?_) (fun hf => ?_)
    · refine lv_ldc (v := -1000001) X.1.1 X.1.2.1 X.1.2.2.2.1 (X.1.2.2.2.2 _ coX7_bury_76) dX7_bury_28 ?_
      exact zretI X hr hlk G hf dX7_bury_30
    · refine lv_iload_n X.1.1 X.1.2.1 dX7_bury_12 rfl (lv_at hl 2 rfl) ?_
      refine lv_iconst (v := 4) X.1.1 X.1.2.1 dX7_bury_13 (by decide) ?_
      refine zic_ge (tgt := 28) X dX7_bury_14 (by decide) hf (fun hf => ?_) (fun hf => ?_)
      · refine lv_ldc (v := -1000001) X.1.1 X.1.2.1 X.1.2.2.2.1 (X.1.2.2.2.2 _ coX7_bury_76) dX7_bury_28 ?_
        exact zretI X hr hlk G hf dX7_bury_30
      · refine lv_iload_n X.1.1 X.1.2.1 dX7_bury_17 rfl (lv_at hl 3 rfl) ?_
        refine lv_iconst (v := 1) X.1.1 X.1.2.1 dX7_bury_18 (by decide) ?_
        refine zic_lt (tgt := 28) X dX7_bury_19 (by decide) hf (fun hf => ?_) (fun hf => ?_)
        · refine lv_ldc (v := -1000001) X.1.1 X.1.2.1 X.1.2.2.2.1 (X.1.2.2.2.2 _ coX7_bury_76) dX7_bury_28 ?_
          exact zretI X hr hlk G hf dX7_bury_30
        · refine lv_iload_n X.1.1 X.1.2.1 dX7_bury_22 rfl (lv_at hl 3 rfl) ?_
          refine lv_bipush (v := 40) X.1.1 X.1.2.1 dX7_bury_23 (by decide) ?_
          refine zic_le (tgt := 31) X dX7_bury_25 (by decide) hf (fun hf => ?_) (fun hf => ?_)
          · refine lv_aload_n X.1.1 X.1.2.1 dX7_bury_31 rfl (lv_at hl 0 rfl) ?_
            refine zgetR (ci := 7) (k := 4) (C := RX7) (T := TX7) (N := 11) X G rfl inX7_bury_X7 (Nat.le_of_ble_eq_true rfl) flX7_bury_36 dX7_bury_32 hf (fun v2 hf => ?_)
            refine lv_aload_n X.1.1 X.1.2.1 dX7_bury_35 rfl (lv_at hl 0 rfl) ?_
            refine zgetR (ci := 7) (k := 2) (C := RX7) (T := TX7) (N := 11) X G rfl inX7_bury_X7 (Nat.le_of_ble_eq_true rfl) flX7_bury_26 dX7_bury_36 hf (fun v3 hf => ?_)
            obtain ⟨hk, hf⟩ := zck hf
            obtain ⟨q4, eq4, hf⟩ := Option.bind_eq_some_iff.mp hf
            refine zcV0 (As := [.ref (b0 + v3)]) (rest := []) (v := none) (h' := q4) X G (rfl : vwCl[0]? = some (RX0, TX0, 3)) hk (m_X0_keep l D dA b0 v2 v3 h q4 eq4) (cwV 1 X.1.2.2.2.2 gX7_bury_X0_keep rfl rfl rfl hdV_X0_keep ⟨(Nat.le_of_ble_eq_true rfl), (Nat.le_of_ble_eq_true rfl)⟩) rfl hl.1 rfl (Nat.le_of_ble_eq_true rfl) dX7_bury_39 ⟨Nat.zero_le _, Nat.zero_le _⟩ (fun H locs G => ?_)
            refine lv_aload_n X.1.1 X.1.2.1 dX7_bury_42 rfl (lv_at hl 0 rfl) ?_
            refine zgetR (ci := 7) (k := 2) (C := RX7) (T := TX7) (N := 11) X G rfl inX7_bury_X7 (Nat.le_of_ble_eq_true rfl) flX7_bury_26 dX7_bury_43 hf (fun v5 hf => ?_)
            refine lv_dup X.1.1 X.1.2.1 dX7_bury_46 rfl ?_
            refine zgetI (ci := 3) (k := 5) (C := RX3) (T := TX3) (N := 12) X G rfl inX7_bury_X3 (Nat.le_of_ble_eq_true rfl) flX7_bury_163 dX7_bury_47 hf (fun v6 hf => ?_)
            refine lv_aload_n X.1.1 X.1.2.1 dX7_bury_50 rfl (lv_at hl 0 rfl) ?_
            refine zgetR (ci := 7) (k := 2) (C := RX7) (T := TX7) (N := 11) X G rfl inX7_bury_X7 (Nat.le_of_ble_eq_true rfl) flX7_bury_26 dX7_bury_51 hf (fun v7 hf => ?_)
            refine zgetR (ci := 3) (k := 7) (C := RX3) (T := TX3) (N := 12) X G rfl inX7_bury_X3 (Nat.le_of_ble_eq_true rfl) flX7_bury_166 dX7_bury_54 hf (fun v8 hf => ?_)
            refine lv_iload_n X.1.1 X.1.2.1 dX7_bury_57 rfl (lv_at hl 1 rfl) ?_
            refine ziald X G dX7_bury_58 hf (fun v9 hf => ?_)
            refine lv_iload_n X.1.1 X.1.2.1 dX7_bury_59 rfl (lv_at hl 3 rfl) ?_
            refine lv_iadd X.1.1 X.1.2.1 dX7_bury_60 ?_
            refine lv_iadd X.1.1 X.1.2.1 dX7_bury_61 ?_
            refine zputI (ci := 3) (k := 5) (C := RX3) (T := TX3) (N := 12) X G rfl inX7_bury_X3 tyX3_ok nmX3 (Nat.le_of_ble_eq_true rfl) flX7_bury_163 rfl (by decide +kernel) dX7_bury_62 hf (fun h10 H locs hf G => ?_)
            refine lv_aload_n X.1.1 X.1.2.1 dX7_bury_65 rfl (lv_at hl 0 rfl) ?_
            refine zgetR (ci := 7) (k := 2) (C := RX7) (T := TX7) (N := 11) X G rfl inX7_bury_X7 (Nat.le_of_ble_eq_true rfl) flX7_bury_26 dX7_bury_66 hf (fun v11 hf => ?_)
            refine zgetR (ci := 3) (k := 8) (C := RX3) (T := TX3) (N := 12) X G rfl inX7_bury_X3 (Nat.le_of_ble_eq_true rfl) flX7_bury_169 dX7_bury_69 hf (fun v12 hf => ?_)
            refine lv_iload_n X.1.1 X.1.2.1 dX7_bury_72 rfl (lv_at hl 1 rfl) ?_
            refine lv_iload_n X.1.1 X.1.2.1 dX7_bury_73 rfl (lv_at hl 2 rfl) ?_
            refine ziast X G dX7_bury_74 hf (fun h13 H locs hf G => ?_)
            refine lv_aload_n X.1.1 X.1.2.1 dX7_bury_75 rfl (lv_at hl 0 rfl) ?_
            refine zgetR (ci := 7) (k := 2) (C := RX7) (T := TX7) (N := 11) X G rfl inX7_bury_X7 (Nat.le_of_ble_eq_true rfl) flX7_bury_26 dX7_bury_76 hf (fun v14 hf => ?_)
            refine zgetR (ci := 3) (k := 7) (C := RX3) (T := TX3) (N := 12) X G rfl inX7_bury_X3 (Nat.le_of_ble_eq_true rfl) flX7_bury_166 dX7_bury_79 hf (fun v15 hf => ?_)
            refine lv_iload_n X.1.1 X.1.2.1 dX7_bury_82 rfl (lv_at hl 1 rfl) ?_
            refine lv_iload_n X.1.1 X.1.2.1 dX7_bury_83 rfl (lv_at hl 3 rfl) ?_
            refine ziast X G dX7_bury_84 hf (fun h16 H locs hf G => ?_)
            refine lv_aload_n X.1.1 X.1.2.1 dX7_bury_85 rfl (lv_at hl 0 rfl) ?_
            refine zgetR (ci := 7) (k := 2) (C := RX7) (T := TX7) (N := 11) X G rfl inX7_bury_X7 (Nat.le_of_ble_eq_true rfl) flX7_bury_26 dX7_bury_86 hf (fun v17 hf => ?_)
            refine zgetI (ci := 3) (k := 5) (C := RX3) (T := TX3) (N := 12) X G rfl inX7_bury_X3 (Nat.le_of_ble_eq_true rfl) flX7_bury_163 dX7_bury_89 hf (fun v18 hf => ?_)
            exact zretI X hr hlk G hf dX7_bury_92
          · refine lv_ldc (v := -1000001) X.1.1 X.1.2.1 X.1.2.2.2.1 (X.1.2.2.2.2 _ coX7_bury_76) dX7_bury_28 ?_
            exact zretI X hr hlk G hf dX7_bury_30
/-! X7_isMan -/
abbrev rmX7_isMan : Room := { frames := 0, cells := 0, slots := 0, locals := 0 }
theorem hdV_X7_isMan : yX7_isMan.cls = RX7 ∧ yX7_isMan.cls ≠ "java/lang/invoke/MethodHandle" ∧ yX7_isMan.cls ≠ "java/lang/invoke/VarHandle" ∧ (parseMethodDescriptor yX7_isMan.desc).map (fun d => d.parameters.length) = some 1 := by decide +kernel
theorem inX7_isMan_X7 : ∀ w ∈ wsX70, w ∈ wsX7_isMan := by decide +kernel
theorem flX7_isMan_26 : Cond.fieldLink RX7 26 (TX7 2).1 (TX7 2).2.1 (TX7 2).2.2.1 ∈ wsX7_isMan := by decide +kernel
theorem inX7_isMan_X3 : ∀ w ∈ wsX30, w ∈ wsX7_isMan := by decide +kernel
theorem flX7_isMan_289 : Cond.fieldLink RX7 289 (TX3 2).1 (TX3 2).2.1 (TX3 2).2.2.1 ∈ wsX7_isMan := by decide +kernel
set_option maxHeartbeats 4000000 in
set_option maxRecDepth 100000 in
theorem m_X7_isMan (l : Launch) (D : va_G) (dA : Nat → ClassId) (b0 : Nat) (r0 : Nat) (a1 : Int32) (h : zH) (z : Int32) (hf : f_X7_isMan r0 a1 h = some z) : Met l yX7_isMan wsX7_isMan rmX7_isMan (zPc D dA b0 [.ref (b0 + r0), .int a1] h) (zQ D dA b0 (some (.int z)) h) 0 0 (zA b0) := by
  refine Met.ofW (cc := cX7_isMan) (maxL := 2) (ret := (some .boolean)) (by decide) rfl ?_
  intro p e s m args below meth c s₁ B hml hv
  obtain ⟨rfl, hP, hz, hK, hN⟩ := hv
  have hr := B.returns
  have hlk := B.notSynchronized
  have X : zX p s m _ c cX7_isMan 2 RX7 wsX7_isMan D dA := ⟨⟨B.exec, B.bytes, hml, findClass_of_methodNamed B.named, atoms_spec (ws := wsX7_isMan) B.pre⟩, hK, hN⟩
  have G : zG D dA b0 s.heap h s.heap [] := ⟨hP, hz, va_S.rf⟩
  have hl := lv_entry ([.ref (b0 + r0), .int a1]) (n := 2) (Nat.le_of_ble_eq_true rfl)
  rw [lg_entry_eq]
  generalize (lg_sl ([.ref (b0 + r0), .int a1]) ++ List.replicate (2 - (lg_sl ([.ref (b0 + r0), .int a1])).length) Slot.unset).toArray = ls at hl ⊢
  have hl : lv_has ls 2 [(0, .ref (b0 + r0)), (1, .int a1)] := hl
  unfold f_X7_isMan at hf
  refine lv_iload_n X.1.1 X.1.2.1 dX7_isMan_0 rfl (lv_at hl 1 rfl) ?_
  refine zif_lt (tgt := 19) X dX7_isMan_1 (by decide) hf (fun hf => ?_) (fun hf => ?_)
  · refine lv_iconst (v := 0) X.1.1 X.1.2.1 dX7_isMan_19 (by decide) ?_
    exact zretZr X hr hlk G hf dX7_isMan_20
  · refine lv_iload_n X.1.1 X.1.2.1 dX7_isMan_4 rfl (lv_at hl 1 rfl) ?_
    refine lv_aload_n X.1.1 X.1.2.1 dX7_isMan_5 rfl (lv_at hl 0 rfl) ?_
    refine zgetR (ci := 7) (k := 2) (C := RX7) (T := TX7) (N := 11) X G rfl inX7_isMan_X7 (Nat.le_of_ble_eq_true rfl) flX7_isMan_26 dX7_isMan_6 hf (fun v1 hf => ?_)
    refine zgetI (ci := 3) (k := 2) (C := RX3) (T := TX3) (N := 12) X G rfl inX7_isMan_X3 (Nat.le_of_ble_eq_true rfl) flX7_isMan_289 dX7_isMan_9 hf (fun v2 hf => ?_)
    refine zic_ge (tgt := 19) X dX7_isMan_12 (by decide) hf (fun hf => ?_) (fun hf => ?_)
    · refine lv_iconst (v := 0) X.1.1 X.1.2.1 dX7_isMan_19 (by decide) ?_
      exact zretZr X hr hlk G hf dX7_isMan_20
    · refine lv_iconst (v := 1) X.1.1 X.1.2.1 dX7_isMan_15 (by decide) ?_
      refine lv_goto (tgt := 20) X.1.1 X.1.2.1 dX7_isMan_16 (by decide) ?_
      exact zretZr X hr hlk G hf dX7_isMan_20
/-! X7_tell -/
abbrev rmX7_tell : Room := { frames := 2, cells := 0, slots := 0, locals := 61 }
theorem hdV_X7_tell : yX7_tell.cls = RX7 ∧ yX7_tell.cls ≠ "java/lang/invoke/MethodHandle" ∧ yX7_tell.cls ≠ "java/lang/invoke/VarHandle" ∧ (parseMethodDescriptor yX7_tell.desc).map (fun d => d.parameters.length) = some 3 := by decide +kernel
theorem coX7_tell_76 : Cond.constant RX7 76 (-1000001) ∈ wsX7_tell := by decide +kernel
theorem inX7_tell_X7 : ∀ w ∈ wsX70, w ∈ wsX7_tell := by decide +kernel
theorem flX7_tell_26 : Cond.fieldLink RX7 26 (TX7 2).1 (TX7 2).2.1 (TX7 2).2.2.1 ∈ wsX7_tell := by decide +kernel
theorem inX7_tell_X3 : ∀ w ∈ wsX30, w ∈ wsX7_tell := by decide +kernel
theorem flX7_tell_175 : Cond.fieldLink RX7 175 (TX3 10).1 (TX3 10).2.1 (TX3 10).2.2.1 ∈ wsX7_tell := by decide +kernel
theorem flX7_tell_36 : Cond.fieldLink RX7 36 (TX7 4).1 (TX7 4).2.1 (TX7 4).2.2.1 ∈ wsX7_tell := by decide +kernel
theorem coX7_tell_145 : Cond.constant RX7 145 (-1000002) ∈ wsX7_tell := by decide +kernel
set_option maxHeartbeats 4000000 in
set_option maxRecDepth 100000 in
theorem m_X7_tell (l : Launch) (D : va_G) (dA : Nat → ClassId) (b0 : Nat) (r0 : Nat) (a1 : Int32) (a2 : Int32) (a3 : Int32) (h : zH) (z : Int32 × zH) (hf : f_X7_tell r0 a1 a2 a3 h = some z) : Met l yX7_tell wsX7_tell rmX7_tell (zPc D dA b0 [.ref (b0 + r0), .int a1, .int a2, .int a3] h) (zQ D dA b0 (some (.int z.1)) z.2) 0 0 (zA b0) := by
  refine Met.ofW (cc := cX7_tell) (maxL := 4) (ret := (some .int)) (by decide) rfl ?_
  intro p e s m args below meth c s₁ B hml hv
  obtain ⟨rfl, hP, hz, hK, hN⟩ := hv
  have hr := B.returns
  have hlk := B.notSynchronized
  have X : zX p s m _ c cX7_tell 4 RX7 wsX7_tell D dA := ⟨⟨B.exec, B.bytes, hml, findClass_of_methodNamed B.named, atoms_spec (ws := wsX7_tell) B.pre⟩, hK, hN⟩
  have G : zG D dA b0 s.heap h s.heap [] := ⟨hP, hz, va_S.rf⟩
  have hl := lv_entry ([.ref (b0 + r0), .int a1, .int a2, .int a3]) (n := 4) (Nat.le_of_ble_eq_true rfl)
  rw [lg_entry_eq]
  generalize (lg_sl ([.ref (b0 + r0), .int a1, .int a2, .int a3]) ++ List.replicate (4 - (lg_sl ([.ref (b0 + r0), .int a1, .int a2, .int a3])).length) Slot.unset).toArray = ls at hl ⊢
  have hl : lv_has ls 4 [(0, .ref (b0 + r0)), (1, .int a1), (2, .int a2), (3, .int a3)] := hl
  unfold f_X7_tell at hf
  refine lv_aload_n X.1.1 X.1.2.1 dX7_tell_0 rfl (lv_at hl 0 rfl) ?_
  refine lv_iload_n X.1.1 X.1.2.1 dX7_tell_1 rfl (lv_at hl 1 rfl) ?_
  obtain ⟨hk, hf⟩ := zck hf
  obtain ⟨q1, eq1, hf⟩ := Option.bind_eq_some_iff.mp hf
  refine zcV0 (As := [.int a1]) (rest := []) (v := (some (.int q1))) (h' := h) X G (rfl : vwCl[7]? = some (RX7, TX7, 11)) hk (m_X7_isThing l D dA b0 r0 a1 h q1 eq1) (cwV 1 X.1.2.2.2.2 gX7_tell_X7_isThing rfl rfl rfl hdV_X7_isThing ⟨(Nat.le_of_ble_eq_true rfl), (Nat.le_of_ble_eq_true rfl)⟩) rfl hl.1 rfl (Nat.le_of_ble_eq_true rfl) dX7_tell_2 ⟨Nat.zero_le _, Nat.zero_le _⟩ (fun H locs G => ?_)
  refine zif_eq (tgt := 25) X dX7_tell_5 (by decide) hf (fun hf => ?_) (fun hf => ?_)
  · refine lv_ldc (v := -1000001) X.1.1 X.1.2.1 X.1.2.2.2.1 (X.1.2.2.2.2 _ coX7_tell_76) dX7_tell_25 ?_
    exact zretI X hr hlk G hf dX7_tell_27
  · refine lv_aload_n X.1.1 X.1.2.1 dX7_tell_8 rfl (lv_at hl 0 rfl) ?_
    refine lv_iload_n X.1.1 X.1.2.1 dX7_tell_9 rfl (lv_at hl 2 rfl) ?_
    obtain ⟨hk, hf⟩ := zck hf
    obtain ⟨q2, eq2, hf⟩ := Option.bind_eq_some_iff.mp hf
    refine zcV0 (As := [.int a2]) (rest := []) (v := (some (.int q2))) (h' := h) X G (rfl : vwCl[7]? = some (RX7, TX7, 11)) hk (m_X7_isMan l D dA b0 r0 a2 h q2 eq2) (cwV 1 X.1.2.2.2.2 gX7_tell_X7_isMan rfl rfl rfl hdV_X7_isMan ⟨(Nat.le_of_ble_eq_true rfl), (Nat.le_of_ble_eq_true rfl)⟩) rfl hl.1 rfl (Nat.le_of_ble_eq_true rfl) dX7_tell_10 ⟨Nat.zero_le _, Nat.zero_le _⟩ (fun H locs G => ?_)
    refine zif_eq (tgt := 25) X dX7_tell_13 (by decide) hf (fun hf => ?_) (fun hf => ?_)
    · refine lv_ldc (v := -1000001) X.1.1 X.1.2.1 X.1.2.2.2.1 (X.1.2.2.2.2 _ coX7_tell_76) dX7_tell_25 ?_
      exact zretI X hr hlk G hf dX7_tell_27
    · refine lv_iload_n X.1.1 X.1.2.1 dX7_tell_16 rfl (lv_at hl 3 rfl) ?_
      refine zif_lt (tgt := 25) X dX7_tell_17 (by decide) hf (fun hf => ?_) (fun hf => ?_)
      · refine lv_ldc (v := -1000001) X.1.1 X.1.2.1 X.1.2.2.2.1 (X.1.2.2.2.2 _ coX7_tell_76) dX7_tell_25 ?_
        exact zretI X hr hlk G hf dX7_tell_27
      · refine lv_iload_n X.1.1 X.1.2.1 dX7_tell_20 rfl (lv_at hl 3 rfl) ?_
        refine lv_iconst (v := 1) X.1.1 X.1.2.1 dX7_tell_21 (by decide) ?_
        refine zic_le (tgt := 28) X dX7_tell_22 (by decide) hf (fun hf => ?_) (fun hf => ?_)
        · refine lv_aload_n X.1.1 X.1.2.1 dX7_tell_28 rfl (lv_at hl 0 rfl) ?_
          refine zgetR (ci := 7) (k := 2) (C := RX7) (T := TX7) (N := 11) X G rfl inX7_tell_X7 (Nat.le_of_ble_eq_true rfl) flX7_tell_26 dX7_tell_29 hf (fun v3 hf => ?_)
          refine zgetR (ci := 3) (k := 10) (C := RX3) (T := TX3) (N := 12) X G rfl inX7_tell_X3 (Nat.le_of_ble_eq_true rfl) flX7_tell_175 dX7_tell_32 hf (fun v4 hf => ?_)
          refine lv_iload_n X.1.1 X.1.2.1 dX7_tell_35 rfl (lv_at hl 1 rfl) ?_
          refine ziald X G dX7_tell_36 hf (fun v5 hf => ?_)
          refine lv_iload_n X.1.1 X.1.2.1 dX7_tell_37 rfl (lv_at hl 2 rfl) ?_
          refine lv_ishr X.1.1 X.1.2.1 dX7_tell_38 ?_
          refine lv_iconst (v := 1) X.1.1 X.1.2.1 dX7_tell_39 (by decide) ?_
          refine lv_iand X.1.1 X.1.2.1 dX7_tell_40 ?_
          refine lv_iload_n X.1.1 X.1.2.1 dX7_tell_41 rfl (lv_at hl 3 rfl) ?_
          refine zic_ne (tgt := 48) X dX7_tell_42 (by decide) hf (fun hf => ?_) (fun hf => ?_)
          · refine lv_aload_n X.1.1 X.1.2.1 dX7_tell_48 rfl (lv_at hl 0 rfl) ?_
            refine zgetR (ci := 7) (k := 4) (C := RX7) (T := TX7) (N := 11) X G rfl inX7_tell_X7 (Nat.le_of_ble_eq_true rfl) flX7_tell_36 dX7_tell_49 hf (fun v6 hf => ?_)
            refine lv_aload_n X.1.1 X.1.2.1 dX7_tell_52 rfl (lv_at hl 0 rfl) ?_
            refine zgetR (ci := 7) (k := 2) (C := RX7) (T := TX7) (N := 11) X G rfl inX7_tell_X7 (Nat.le_of_ble_eq_true rfl) flX7_tell_26 dX7_tell_53 hf (fun v7 hf => ?_)
            obtain ⟨hk, hf⟩ := zck hf
            obtain ⟨q8, eq8, hf⟩ := Option.bind_eq_some_iff.mp hf
            refine zcV0 (As := [.ref (b0 + v7)]) (rest := []) (v := none) (h' := q8) X G (rfl : vwCl[0]? = some (RX0, TX0, 3)) hk (m_X0_keep l D dA b0 v6 v7 h q8 eq8) (cwV 1 X.1.2.2.2.2 gX7_tell_X0_keep rfl rfl rfl hdV_X0_keep ⟨(Nat.le_of_ble_eq_true rfl), (Nat.le_of_ble_eq_true rfl)⟩) rfl hl.1 rfl (Nat.le_of_ble_eq_true rfl) dX7_tell_56 ⟨Nat.zero_le _, Nat.zero_le _⟩ (fun H locs G => ?_)
            refine lv_aload_n X.1.1 X.1.2.1 dX7_tell_59 rfl (lv_at hl 0 rfl) ?_
            refine zgetR (ci := 7) (k := 2) (C := RX7) (T := TX7) (N := 11) X G rfl inX7_tell_X7 (Nat.le_of_ble_eq_true rfl) flX7_tell_26 dX7_tell_60 hf (fun v9 hf => ?_)
            refine zgetR (ci := 3) (k := 10) (C := RX3) (T := TX3) (N := 12) X G rfl inX7_tell_X3 (Nat.le_of_ble_eq_true rfl) flX7_tell_175 dX7_tell_63 hf (fun v10 hf => ?_)
            refine lv_iload_n X.1.1 X.1.2.1 dX7_tell_66 rfl (lv_at hl 1 rfl) ?_
            refine lv_dup2_11 X.1.1 X.1.2.1 dX7_tell_67 rfl rfl ?_
            refine ziald X G dX7_tell_68 hf (fun v11 hf => ?_)
            refine lv_iconst (v := 1) X.1.1 X.1.2.1 dX7_tell_69 (by decide) ?_
            refine lv_iload_n X.1.1 X.1.2.1 dX7_tell_70 rfl (lv_at hl 2 rfl) ?_
            refine lv_ishl X.1.1 X.1.2.1 dX7_tell_71 ?_
            refine lv_ixor X.1.1 X.1.2.1 dX7_tell_72 ?_
            refine ziast X G dX7_tell_73 hf (fun h12 H locs hf G => ?_)
            refine lv_aload_n X.1.1 X.1.2.1 dX7_tell_74 rfl (lv_at hl 0 rfl) ?_
            refine zgetR (ci := 7) (k := 2) (C := RX7) (T := TX7) (N := 11) X G rfl inX7_tell_X7 (Nat.le_of_ble_eq_true rfl) flX7_tell_26 dX7_tell_75 hf (fun v13 hf => ?_)
            refine zgetR (ci := 3) (k := 10) (C := RX3) (T := TX3) (N := 12) X G rfl inX7_tell_X3 (Nat.le_of_ble_eq_true rfl) flX7_tell_175 dX7_tell_78 hf (fun v14 hf => ?_)
            refine lv_iload_n X.1.1 X.1.2.1 dX7_tell_81 rfl (lv_at hl 1 rfl) ?_
            refine ziald X G dX7_tell_82 hf (fun v15 hf => ?_)
            exact zretI X hr hlk G hf dX7_tell_83
          · refine lv_ldc (v := -1000002) X.1.1 X.1.2.1 X.1.2.2.2.1 (X.1.2.2.2.2 _ coX7_tell_145) dX7_tell_45 ?_
            exact zretI X hr hlk G hf dX7_tell_47
        · refine lv_ldc (v := -1000001) X.1.1 X.1.2.1 X.1.2.2.2.1 (X.1.2.2.2.2 _ coX7_tell_76) dX7_tell_25 ?_
          exact zretI X hr hlk G hf dX7_tell_27
/-! X7_undo -/
abbrev rmX7_undo : Room := { frames := 2, cells := 0, slots := 0, locals := 43 }
theorem hdV_X7_undo : yX7_undo.cls = RX7 ∧ yX7_undo.cls ≠ "java/lang/invoke/MethodHandle" ∧ yX7_undo.cls ≠ "java/lang/invoke/VarHandle" ∧ (parseMethodDescriptor yX7_undo.desc).map (fun d => d.parameters.length) = some 0 := by decide +kernel
theorem inX7_undo_X7 : ∀ w ∈ wsX70, w ∈ wsX7_undo := by decide +kernel
theorem flX7_undo_36 : Cond.fieldLink RX7 36 (TX7 4).1 (TX7 4).2.1 (TX7 4).2.2.1 ∈ wsX7_undo := by decide +kernel
theorem inX7_undo_X0 : ∀ w ∈ wsX00, w ∈ wsX7_undo := by decide +kernel
theorem flX7_undo_178 : Cond.fieldLink RX7 178 (TX0 2).1 (TX0 2).2.1 (TX0 2).2.2.1 ∈ wsX7_undo := by decide +kernel
theorem flX7_undo_26 : Cond.fieldLink RX7 26 (TX7 2).1 (TX7 2).2.1 (TX7 2).2.2.1 ∈ wsX7_undo := by decide +kernel
theorem coX7_undo_145 : Cond.constant RX7 145 (-1000002) ∈ wsX7_undo := by decide +kernel
set_option maxHeartbeats 4000000 in
set_option maxRecDepth 100000 in
theorem m_X7_undo (l : Launch) (D : va_G) (dA : Nat → ClassId) (b0 : Nat) (r0 : Nat) (h : zH) (z : Int32 × zH) (hf : f_X7_undo r0 h = some z) : Met l yX7_undo wsX7_undo rmX7_undo (zPc D dA b0 [.ref (b0 + r0)] h) (zQ D dA b0 (some (.int z.1)) z.2) 0 0 (zA b0) := by
  refine Met.ofW (cc := cX7_undo) (maxL := 1) (ret := (some .int)) (by decide) rfl ?_
  intro p e s m args below meth c s₁ B hml hv
  obtain ⟨rfl, hP, hz, hK, hN⟩ := hv
  have hr := B.returns
  have hlk := B.notSynchronized
  have X : zX p s m _ c cX7_undo 1 RX7 wsX7_undo D dA := ⟨⟨B.exec, B.bytes, hml, findClass_of_methodNamed B.named, atoms_spec (ws := wsX7_undo) B.pre⟩, hK, hN⟩
  have G : zG D dA b0 s.heap h s.heap [] := ⟨hP, hz, va_S.rf⟩
  have hl := lv_entry ([.ref (b0 + r0)]) (n := 1) (Nat.le_of_ble_eq_true rfl)
  rw [lg_entry_eq]
  generalize (lg_sl ([.ref (b0 + r0)]) ++ List.replicate (1 - (lg_sl ([.ref (b0 + r0)])).length) Slot.unset).toArray = ls at hl ⊢
  have hl : lv_has ls 1 [(0, .ref (b0 + r0))] := hl
  unfold f_X7_undo at hf
  refine lv_aload_n X.1.1 X.1.2.1 dX7_undo_0 rfl (lv_at hl 0 rfl) ?_
  refine zgetR (ci := 7) (k := 4) (C := RX7) (T := TX7) (N := 11) X G rfl inX7_undo_X7 (Nat.le_of_ble_eq_true rfl) flX7_undo_36 dX7_undo_1 hf (fun v1 hf => ?_)
  refine zgetI (ci := 0) (k := 2) (C := RX0) (T := TX0) (N := 3) X G rfl inX7_undo_X0 (Nat.le_of_ble_eq_true rfl) flX7_undo_178 dX7_undo_4 hf (fun v2 hf => ?_)
  refine zif_ne (tgt := 13) X dX7_undo_7 (by decide) hf (fun hf => ?_) (fun hf => ?_)
  · refine lv_aload_n X.1.1 X.1.2.1 dX7_undo_13 rfl (lv_at hl 0 rfl) ?_
    refine zgetR (ci := 7) (k := 4) (C := RX7) (T := TX7) (N := 11) X G rfl inX7_undo_X7 (Nat.le_of_ble_eq_true rfl) flX7_undo_36 dX7_undo_14 hf (fun v3 hf => ?_)
    refine lv_aload_n X.1.1 X.1.2.1 dX7_undo_17 rfl (lv_at hl 0 rfl) ?_
    refine zgetR (ci := 7) (k := 2) (C := RX7) (T := TX7) (N := 11) X G rfl inX7_undo_X7 (Nat.le_of_ble_eq_true rfl) flX7_undo_26 dX7_undo_18 hf (fun v4 hf => ?_)
    obtain ⟨hk, hf⟩ := zck hf
    obtain ⟨q5, eq5, hf⟩ := Option.bind_eq_some_iff.mp hf
    refine zcV0 (As := [.ref (b0 + v4)]) (rest := []) (v := none) (h' := q5) X G (rfl : vwCl[0]? = some (RX0, TX0, 3)) hk (m_X0_takeBack l D dA b0 v3 v4 h q5 eq5) (cwV 1 X.1.2.2.2.2 gX7_undo_X0_takeBack rfl rfl rfl hdV_X0_takeBack ⟨(Nat.le_of_ble_eq_true rfl), (Nat.le_of_ble_eq_true rfl)⟩) rfl hl.1 rfl (Nat.le_of_ble_eq_true rfl) dX7_undo_21 ⟨Nat.zero_le _, Nat.zero_le _⟩ (fun H locs G => ?_)
    refine lv_aload_n X.1.1 X.1.2.1 dX7_undo_24 rfl (lv_at hl 0 rfl) ?_
    refine zgetR (ci := 7) (k := 4) (C := RX7) (T := TX7) (N := 11) X G rfl inX7_undo_X7 (Nat.le_of_ble_eq_true rfl) flX7_undo_36 dX7_undo_25 hf (fun v6 hf => ?_)
    refine zgetI (ci := 0) (k := 2) (C := RX0) (T := TX0) (N := 3) X G rfl inX7_undo_X0 (Nat.le_of_ble_eq_true rfl) flX7_undo_178 dX7_undo_28 hf (fun v7 hf => ?_)
    exact zretI X hr hlk G hf dX7_undo_31
  · refine lv_ldc (v := -1000002) X.1.1 X.1.2.1 X.1.2.2.2.1 (X.1.2.2.2.2 _ coX7_undo_145) dX7_undo_10 ?_
    exact zretI X hr hlk G hf dX7_undo_12
/-! X7_thing -/
abbrev rmX7_thing : Room := { frames := 3, cells := 0, slots := 0, locals := 85 }
theorem hdV_X7_thing : yX7_thing.cls = RX7 ∧ yX7_thing.cls ≠ "java/lang/invoke/MethodHandle" ∧ yX7_thing.cls ≠ "java/lang/invoke/VarHandle" ∧ (parseMethodDescriptor yX7_thing.desc).map (fun d => d.parameters.length) = some 2 := by decide +kernel
theorem inX7_thing_X7 : ∀ w ∈ wsX70, w ∈ wsX7_thing := by decide +kernel
theorem flX7_thing_26 : Cond.fieldLink RX7 26 (TX7 2).1 (TX7 2).2.1 (TX7 2).2.2.1 ∈ wsX7_thing := by decide +kernel
theorem inX7_thing_X3 : ∀ w ∈ wsX30, w ∈ wsX7_thing := by decide +kernel
theorem flX7_thing_166 : Cond.fieldLink RX7 166 (TX3 7).1 (TX3 7).2.1 (TX3 7).2.2.1 ∈ wsX7_thing := by decide +kernel
theorem flX7_thing_169 : Cond.fieldLink RX7 169 (TX3 8).1 (TX3 8).2.1 (TX3 8).2.2.1 ∈ wsX7_thing := by decide +kernel
theorem flX7_thing_184 : Cond.fieldLink RX7 184 (TX3 9).1 (TX3 9).2.1 (TX3 9).2.2.1 ∈ wsX7_thing := by decide +kernel
theorem flX7_thing_175 : Cond.fieldLink RX7 175 (TX3 10).1 (TX3 10).2.1 (TX3 10).2.2.1 ∈ wsX7_thing := by decide +kernel
theorem coX7_thing_76 : Cond.constant RX7 76 (-1000001) ∈ wsX7_thing := by decide +kernel
set_option maxHeartbeats 4000000 in
set_option maxRecDepth 100000 in
theorem m_X7_thing (l : Launch) (D : va_G) (dA : Nat → ClassId) (b0 : Nat) (r0 : Nat) (a1 : Int32) (a2 : Int32) (h : zH) (z : Int32) (hf : f_X7_thing r0 a1 a2 h = some z) : Met l yX7_thing wsX7_thing rmX7_thing (zPc D dA b0 [.ref (b0 + r0), .int a1, .int a2] h) (zQ D dA b0 (some (.int z)) h) 0 0 (zA b0) := by
  refine Met.ofW (cc := cX7_thing) (maxL := 3) (ret := (some .int)) (by decide) rfl ?_
  intro p e s m args below meth c s₁ B hml hv
  obtain ⟨rfl, hP, hz, hK, hN⟩ := hv
  have hr := B.returns
  have hlk := B.notSynchronized
  have X : zX p s m _ c cX7_thing 3 RX7 wsX7_thing D dA := ⟨⟨B.exec, B.bytes, hml, findClass_of_methodNamed B.named, atoms_spec (ws := wsX7_thing) B.pre⟩, hK, hN⟩
  have G : zG D dA b0 s.heap h s.heap [] := ⟨hP, hz, va_S.rf⟩
  have hl := lv_entry ([.ref (b0 + r0), .int a1, .int a2]) (n := 3) (Nat.le_of_ble_eq_true rfl)
  rw [lg_entry_eq]
  generalize (lg_sl ([.ref (b0 + r0), .int a1, .int a2]) ++ List.replicate (3 - (lg_sl ([.ref (b0 + r0), .int a1, .int a2])).length) Slot.unset).toArray = ls at hl ⊢
  have hl : lv_has ls 3 [(0, .ref (b0 + r0)), (1, .int a1), (2, .int a2)] := hl
  unfold f_X7_thing at hf
  refine lv_aload_n X.1.1 X.1.2.1 dX7_thing_0 rfl (lv_at hl 0 rfl) ?_
  refine lv_iload_n X.1.1 X.1.2.1 dX7_thing_1 rfl (lv_at hl 1 rfl) ?_
  obtain ⟨hk, hf⟩ := zck hf
  obtain ⟨q1, eq1, hf⟩ := Option.bind_eq_some_iff.mp hf
  refine zcV0 (As := [.int a1]) (rest := []) (v := (some (.int q1))) (h' := h) X G (rfl : vwCl[7]? = some (RX7, TX7, 11)) hk (m_X7_isThing l D dA b0 r0 a1 h q1 eq1) (cwV 1 X.1.2.2.2.2 gX7_thing_X7_isThing rfl rfl rfl hdV_X7_isThing ⟨(Nat.le_of_ble_eq_true rfl), (Nat.le_of_ble_eq_true rfl)⟩) rfl hl.1 rfl (Nat.le_of_ble_eq_true rfl) dX7_thing_2 ⟨Nat.zero_le _, Nat.zero_le _⟩ (fun H locs G => ?_)
  refine zif_ne (tgt := 11) X dX7_thing_5 (by decide) hf (fun hf => ?_) (fun hf => ?_)
  · refine lv_iload_n X.1.1 X.1.2.1 dX7_thing_11 rfl (lv_at hl 2 rfl) ?_
    by_cases c0 : a2 = 0
    · rw [if_pos c0] at hf
      refine lv_tableIn (off := 40) (tgt := 52) X.1.1 X.1.2.1 dX7_thing_12 (by rw [c0]; decide) (by rw [c0]; decide) (by rw [c0]; decide) (by decide) ?_
      refine lv_aload_n X.1.1 X.1.2.1 dX7_thing_52 rfl (lv_at hl 0 rfl) ?_
      refine zgetR (ci := 7) (k := 2) (C := RX7) (T := TX7) (N := 11) X G rfl inX7_thing_X7 (Nat.le_of_ble_eq_true rfl) flX7_thing_26 dX7_thing_53 hf (fun v2 hf => ?_)
      refine zgetR (ci := 3) (k := 7) (C := RX3) (T := TX3) (N := 12) X G rfl inX7_thing_X3 (Nat.le_of_ble_eq_true rfl) flX7_thing_166 dX7_thing_56 hf (fun v3 hf => ?_)
      refine lv_iload_n X.1.1 X.1.2.1 dX7_thing_59 rfl (lv_at hl 1 rfl) ?_
      refine ziald X G dX7_thing_60 hf (fun v4 hf => ?_)
      exact zretIr X hr hlk G hf dX7_thing_61
    rw [if_neg c0] at hf
    by_cases c1 : a2 = 1
    · rw [if_pos c1] at hf
      refine lv_tableIn (off := 50) (tgt := 62) X.1.1 X.1.2.1 dX7_thing_12 (by rw [c1]; decide) (by rw [c1]; decide) (by rw [c1]; decide) (by decide) ?_
      refine lv_aload_n X.1.1 X.1.2.1 dX7_thing_62 rfl (lv_at hl 0 rfl) ?_
      refine zgetR (ci := 7) (k := 2) (C := RX7) (T := TX7) (N := 11) X G rfl inX7_thing_X7 (Nat.le_of_ble_eq_true rfl) flX7_thing_26 dX7_thing_63 hf (fun v5 hf => ?_)
      refine zgetR (ci := 3) (k := 8) (C := RX3) (T := TX3) (N := 12) X G rfl inX7_thing_X3 (Nat.le_of_ble_eq_true rfl) flX7_thing_169 dX7_thing_66 hf (fun v6 hf => ?_)
      refine lv_iload_n X.1.1 X.1.2.1 dX7_thing_69 rfl (lv_at hl 1 rfl) ?_
      refine ziald X G dX7_thing_70 hf (fun v7 hf => ?_)
      exact zretIr X hr hlk G hf dX7_thing_71
    rw [if_neg c1] at hf
    by_cases c2 : a2 = 2
    · rw [if_pos c2] at hf
      refine lv_tableIn (off := 60) (tgt := 72) X.1.1 X.1.2.1 dX7_thing_12 (by rw [c2]; decide) (by rw [c2]; decide) (by rw [c2]; decide) (by decide) ?_
      refine lv_aload_n X.1.1 X.1.2.1 dX7_thing_72 rfl (lv_at hl 0 rfl) ?_
      refine zgetR (ci := 7) (k := 2) (C := RX7) (T := TX7) (N := 11) X G rfl inX7_thing_X7 (Nat.le_of_ble_eq_true rfl) flX7_thing_26 dX7_thing_73 hf (fun v8 hf => ?_)
      refine zgetR (ci := 3) (k := 9) (C := RX3) (T := TX3) (N := 12) X G rfl inX7_thing_X3 (Nat.le_of_ble_eq_true rfl) flX7_thing_184 dX7_thing_76 hf (fun v9 hf => ?_)
      refine lv_iload_n X.1.1 X.1.2.1 dX7_thing_79 rfl (lv_at hl 1 rfl) ?_
      refine ziald X G dX7_thing_80 hf (fun v10 hf => ?_)
      exact zretIr X hr hlk G hf dX7_thing_81
    rw [if_neg c2] at hf
    by_cases c3 : a2 = 3
    · rw [if_pos c3] at hf
      refine lv_tableIn (off := 70) (tgt := 82) X.1.1 X.1.2.1 dX7_thing_12 (by rw [c3]; decide) (by rw [c3]; decide) (by rw [c3]; decide) (by decide) ?_
      refine lv_aload_n X.1.1 X.1.2.1 dX7_thing_82 rfl (lv_at hl 0 rfl) ?_
      refine zgetR (ci := 7) (k := 2) (C := RX7) (T := TX7) (N := 11) X G rfl inX7_thing_X7 (Nat.le_of_ble_eq_true rfl) flX7_thing_26 dX7_thing_83 hf (fun v11 hf => ?_)
      refine zgetR (ci := 3) (k := 10) (C := RX3) (T := TX3) (N := 12) X G rfl inX7_thing_X3 (Nat.le_of_ble_eq_true rfl) flX7_thing_175 dX7_thing_86 hf (fun v12 hf => ?_)
      refine lv_iload_n X.1.1 X.1.2.1 dX7_thing_89 rfl (lv_at hl 1 rfl) ?_
      refine ziald X G dX7_thing_90 hf (fun v13 hf => ?_)
      exact zretIr X hr hlk G hf dX7_thing_91
    rw [if_neg c3] at hf
    by_cases c4 : a2 = 4
    · rw [if_pos c4] at hf
      refine lv_tableIn (off := 80) (tgt := 92) X.1.1 X.1.2.1 dX7_thing_12 (by rw [c4]; decide) (by rw [c4]; decide) (by rw [c4]; decide) (by decide) ?_
      refine lv_aload_n X.1.1 X.1.2.1 dX7_thing_92 rfl (lv_at hl 0 rfl) ?_
      refine zgetR (ci := 7) (k := 2) (C := RX7) (T := TX7) (N := 11) X G rfl inX7_thing_X7 (Nat.le_of_ble_eq_true rfl) flX7_thing_26 dX7_thing_93 hf (fun v14 hf => ?_)
      refine lv_iload_n X.1.1 X.1.2.1 dX7_thing_96 rfl (lv_at hl 1 rfl) ?_
      obtain ⟨hk, hf⟩ := zck hf
      obtain ⟨q15, eq15, hf⟩ := Option.bind_eq_some_iff.mp hf
      refine zcV0 (As := [.int a1]) (rest := []) (v := (some (.int q15))) (h' := h) X G (rfl : vwCl[3]? = some (RX3, TX3, 12)) hk (m_X3_nearTo l D dA b0 v14 a1 h q15 eq15) (cwV 1 X.1.2.2.2.2 gX7_thing_X3_nearTo rfl rfl rfl hdV_X3_nearTo ⟨(Nat.le_of_ble_eq_true rfl), (Nat.le_of_ble_eq_true rfl)⟩) rfl hl.1 rfl (Nat.le_of_ble_eq_true rfl) dX7_thing_97 ⟨Nat.zero_le _, Nat.zero_le _⟩ (fun H locs G => ?_)
      exact zretIr X hr hlk G hf dX7_thing_100
    rw [if_neg c4] at hf
    by_cases c5 : a2 = 5
    · rw [if_pos c5] at hf
      refine lv_tableIn (off := 89) (tgt := 101) X.1.1 X.1.2.1 dX7_thing_12 (by rw [c5]; decide) (by rw [c5]; decide) (by rw [c5]; decide) (by decide) ?_
      refine lv_aload_n X.1.1 X.1.2.1 dX7_thing_101 rfl (lv_at hl 0 rfl) ?_
      refine zgetR (ci := 7) (k := 2) (C := RX7) (T := TX7) (N := 11) X G rfl inX7_thing_X7 (Nat.le_of_ble_eq_true rfl) flX7_thing_26 dX7_thing_102 hf (fun v16 hf => ?_)
      refine lv_iload_n X.1.1 X.1.2.1 dX7_thing_105 rfl (lv_at hl 1 rfl) ?_
      obtain ⟨hk, hf⟩ := zck hf
      obtain ⟨q17, eq17, hf⟩ := Option.bind_eq_some_iff.mp hf
      refine zcV0 (As := [.int a1]) (rest := []) (v := (some (.int q17))) (h' := h) X G (rfl : vwCl[3]? = some (RX3, TX3, 12)) hk (m_X3_riseOf l D dA b0 v16 a1 h q17 eq17) (cwV 1 X.1.2.2.2.2 gX7_thing_X3_riseOf rfl rfl rfl hdV_X3_riseOf ⟨(Nat.le_of_ble_eq_true rfl), (Nat.le_of_ble_eq_true rfl)⟩) rfl hl.1 rfl (Nat.le_of_ble_eq_true rfl) dX7_thing_106 ⟨Nat.zero_le _, Nat.zero_le _⟩ (fun H locs G => ?_)
      exact zretIr X hr hlk G hf dX7_thing_109
    rw [if_neg c5] at hf
    refine lv_tableOut (tgt := 110) X.1.1 X.1.2.1 dX7_thing_12 (by have n0 := lv_neT c0 (show ((0 : Int32)).toInt = 0 from by decide); have n1 := lv_neT c1 (show ((1 : Int32)).toInt = 1 from by decide); have n2 := lv_neT c2 (show ((2 : Int32)).toInt = 2 from by decide); have n3 := lv_neT c3 (show ((3 : Int32)).toInt = 3 from by decide); have n4 := lv_neT c4 (show ((4 : Int32)).toInt = 4 from by decide); have n5 := lv_neT c5 (show ((5 : Int32)).toInt = 5 from by decide); omega) (by decide) ?_
    refine lv_ldc (v := -1000001) X.1.1 X.1.2.1 X.1.2.2.2.1 (X.1.2.2.2.2 _ coX7_thing_76) dX7_thing_110 ?_
    exact zretIr X hr hlk G hf dX7_thing_112
  · refine lv_ldc (v := -1000001) X.1.1 X.1.2.1 X.1.2.2.2.1 (X.1.2.2.2.2 _ coX7_thing_76) dX7_thing_8 ?_
    exact zretIr X hr hlk G hf dX7_thing_10
/-! X7_knows -/
abbrev rmX7_knows : Room := { frames := 1, cells := 0, slots := 0, locals := 23 }
theorem hdV_X7_knows : yX7_knows.cls = RX7 ∧ yX7_knows.cls ≠ "java/lang/invoke/MethodHandle" ∧ yX7_knows.cls ≠ "java/lang/invoke/VarHandle" ∧ (parseMethodDescriptor yX7_knows.desc).map (fun d => d.parameters.length) = some 1 := by decide +kernel
theorem coX7_knows_76 : Cond.constant RX7 76 (-1000001) ∈ wsX7_knows := by decide +kernel
theorem inX7_knows_X7 : ∀ w ∈ wsX70, w ∈ wsX7_knows := by decide +kernel
theorem flX7_knows_26 : Cond.fieldLink RX7 26 (TX7 2).1 (TX7 2).2.1 (TX7 2).2.2.1 ∈ wsX7_knows := by decide +kernel
set_option maxHeartbeats 4000000 in
set_option maxRecDepth 100000 in
theorem m_X7_knows (l : Launch) (D : va_G) (dA : Nat → ClassId) (b0 : Nat) (r0 : Nat) (a1 : Int32) (h : zH) (z : Int32) (hf : f_X7_knows r0 a1 h = some z) : Met l yX7_knows wsX7_knows rmX7_knows (zPc D dA b0 [.ref (b0 + r0), .int a1] h) (zQ D dA b0 (some (.int z)) h) 0 0 (zA b0) := by
  refine Met.ofW (cc := cX7_knows) (maxL := 2) (ret := (some .int)) (by decide) rfl ?_
  intro p e s m args below meth c s₁ B hml hv
  obtain ⟨rfl, hP, hz, hK, hN⟩ := hv
  have hr := B.returns
  have hlk := B.notSynchronized
  have X : zX p s m _ c cX7_knows 2 RX7 wsX7_knows D dA := ⟨⟨B.exec, B.bytes, hml, findClass_of_methodNamed B.named, atoms_spec (ws := wsX7_knows) B.pre⟩, hK, hN⟩
  have G : zG D dA b0 s.heap h s.heap [] := ⟨hP, hz, va_S.rf⟩
  have hl := lv_entry ([.ref (b0 + r0), .int a1]) (n := 2) (Nat.le_of_ble_eq_true rfl)
  rw [lg_entry_eq]
  generalize (lg_sl ([.ref (b0 + r0), .int a1]) ++ List.replicate (2 - (lg_sl ([.ref (b0 + r0), .int a1])).length) Slot.unset).toArray = ls at hl ⊢
  have hl : lv_has ls 2 [(0, .ref (b0 + r0)), (1, .int a1)] := hl
  unfold f_X7_knows at hf
  refine lv_aload_n X.1.1 X.1.2.1 dX7_knows_0 rfl (lv_at hl 0 rfl) ?_
  refine lv_iload_n X.1.1 X.1.2.1 dX7_knows_1 rfl (lv_at hl 1 rfl) ?_
  obtain ⟨hk, hf⟩ := zck hf
  obtain ⟨q1, eq1, hf⟩ := Option.bind_eq_some_iff.mp hf
  refine zcV0 (As := [.int a1]) (rest := []) (v := (some (.int q1))) (h' := h) X G (rfl : vwCl[7]? = some (RX7, TX7, 11)) hk (m_X7_isMan l D dA b0 r0 a1 h q1 eq1) (cwV 1 X.1.2.2.2.2 gX7_knows_X7_isMan rfl rfl rfl hdV_X7_isMan ⟨(Nat.le_of_ble_eq_true rfl), (Nat.le_of_ble_eq_true rfl)⟩) rfl hl.1 rfl (Nat.le_of_ble_eq_true rfl) dX7_knows_2 ⟨Nat.zero_le _, Nat.zero_le _⟩ (fun H locs G => ?_)
  refine zif_eq (tgt := 19) X dX7_knows_5 (by decide) hf (fun hf => ?_) (fun hf => ?_)
  · refine lv_ldc (v := -1000001) X.1.1 X.1.2.1 X.1.2.2.2.1 (X.1.2.2.2.2 _ coX7_knows_76) dX7_knows_19 ?_
    exact zretIr X hr hlk G hf dX7_knows_21
  · refine lv_aload_n X.1.1 X.1.2.1 dX7_knows_8 rfl (lv_at hl 0 rfl) ?_
    refine zgetR (ci := 7) (k := 2) (C := RX7) (T := TX7) (N := 11) X G rfl inX7_knows_X7 (Nat.le_of_ble_eq_true rfl) flX7_knows_26 dX7_knows_9 hf (fun v2 hf => ?_)
    refine lv_iload_n X.1.1 X.1.2.1 dX7_knows_12 rfl (lv_at hl 1 rfl) ?_
    obtain ⟨hk, hf⟩ := zck hf
    obtain ⟨q3, eq3, hf⟩ := Option.bind_eq_some_iff.mp hf
    refine zcV0 (As := [.int a1]) (rest := []) (v := (some (.int q3))) (h' := h) X G (rfl : vwCl[3]? = some (RX3, TX3, 12)) hk (m_X3_knownTo l D dA b0 v2 a1 h q3 eq3) (cwV 1 X.1.2.2.2.2 gX7_knows_X3_knownTo rfl rfl rfl hdV_X3_knownTo ⟨(Nat.le_of_ble_eq_true rfl), (Nat.le_of_ble_eq_true rfl)⟩) rfl hl.1 rfl (Nat.le_of_ble_eq_true rfl) dX7_knows_13 ⟨Nat.zero_le _, Nat.zero_le _⟩ (fun H locs G => ?_)
    refine lv_goto (tgt := 21) X.1.1 X.1.2.1 dX7_knows_16 (by decide) ?_
    exact zretIr X hr hlk G hf dX7_knows_21
/-! X7_isForetold -/
abbrev rmX7_isForetold : Room := { frames := 0, cells := 0, slots := 0, locals := 0 }
theorem hdS_X7_isForetold : yX7_isForetold.cls ≠ "java/lang/invoke/MethodHandle" ∧ yX7_isForetold.cls ≠ "java/lang/invoke/VarHandle" ∧ (parseMethodDescriptor yX7_isForetold.desc).map (fun d => d.parameters.length) = some 1 := by decide +kernel
set_option maxHeartbeats 4000000 in
set_option maxRecDepth 100000 in
theorem m_X7_isForetold (l : Launch) (D : va_G) (dA : Nat → ClassId) (b0 : Nat) (a0 : Int32) (h : zH) (z : Int32) (hf : f_X7_isForetold a0 h = some z) : Met l yX7_isForetold wsX7_isForetold rmX7_isForetold (zPc D dA b0 [.int a0] h) (zQ D dA b0 (some (.int z)) h) 0 0 (zA b0) := by
  refine Met.ofW (cc := cX7_isForetold) (maxL := 1) (ret := (some .boolean)) (by decide) rfl ?_
  intro p e s m args below meth c s₁ B hml hv
  obtain ⟨rfl, hP, hz, hK, hN⟩ := hv
  have hr := B.returns
  have hlk := B.notSynchronized
  have X : zX p s m _ c cX7_isForetold 1 RX7 wsX7_isForetold D dA := ⟨⟨B.exec, B.bytes, hml, findClass_of_methodNamed B.named, atoms_spec (ws := wsX7_isForetold) B.pre⟩, hK, hN⟩
  have G : zG D dA b0 s.heap h s.heap [] := ⟨hP, hz, va_S.rf⟩
  have hl := lv_entry ([.int a0]) (n := 1) (Nat.le_of_ble_eq_true rfl)
  rw [lg_entry_eq]
  generalize (lg_sl ([.int a0]) ++ List.replicate (1 - (lg_sl ([.int a0])).length) Slot.unset).toArray = ls at hl ⊢
  have hl : lv_has ls 1 [(0, .int a0)] := hl
  unfold f_X7_isForetold at hf
  refine lv_iload_n X.1.1 X.1.2.1 dX7_isForetold_0 rfl (lv_at hl 0 rfl) ?_
  refine zif_lt (tgt := 14) X dX7_isForetold_1 (by decide) hf (fun hf => ?_) (fun hf => ?_)
  · refine lv_iconst (v := 0) X.1.1 X.1.2.1 dX7_isForetold_14 (by decide) ?_
    exact zretZr X hr hlk G hf dX7_isForetold_15
  · refine lv_iload_n X.1.1 X.1.2.1 dX7_isForetold_4 rfl (lv_at hl 0 rfl) ?_
    refine lv_bipush (v := 60) X.1.1 X.1.2.1 dX7_isForetold_5 (by decide) ?_
    refine zic_gt (tgt := 14) X dX7_isForetold_7 (by decide) hf (fun hf => ?_) (fun hf => ?_)
    · refine lv_iconst (v := 0) X.1.1 X.1.2.1 dX7_isForetold_14 (by decide) ?_
      exact zretZr X hr hlk G hf dX7_isForetold_15
    · refine lv_iconst (v := 1) X.1.1 X.1.2.1 dX7_isForetold_10 (by decide) ?_
      refine lv_goto (tgt := 15) X.1.1 X.1.2.1 dX7_isForetold_11 (by decide) ?_
      exact zretZr X hr hlk G hf dX7_isForetold_15
