/-! X8_readsThing -/
abbrev rmX8_readsThing : Room := { frames := 3, cells := 0, slots := 0, locals := 69 }
theorem hdV_X8_readsThing : yX8_readsThing.cls = RX8 ∧ yX8_readsThing.cls ≠ "java/lang/invoke/MethodHandle" ∧ yX8_readsThing.cls ≠ "java/lang/invoke/VarHandle" ∧ (parseMethodDescriptor yX8_readsThing.desc).map (fun d => d.parameters.length) = some 0 := by decide +kernel
theorem inX8_readsThing_X8 : ∀ w ∈ wsX80, w ∈ wsX8_readsThing := by decide +kernel
theorem flX8_readsThing_22 : Cond.fieldLink RX8 22 (TX8 5).1 (TX8 5).2.1 (TX8 5).2.2.1 ∈ wsX8_readsThing := by decide +kernel
theorem flX8_readsThing_105 : Cond.fieldLink RX8 105 (TX8 18).1 (TX8 18).2.1 (TX8 18).2.2.1 ∈ wsX8_readsThing := by decide +kernel
theorem flX8_readsThing_94 : Cond.fieldLink RX8 94 (TX8 19).1 (TX8 19).2.1 (TX8 19).2.2.1 ∈ wsX8_readsThing := by decide +kernel
set_option maxHeartbeats 4000000 in
set_option maxRecDepth 100000 in
theorem w_X8_readsThing_b26 {p : Program} {l : Launch} {e : Env} {s : State} {m : MethodId} {args : Array Value} {below : List Frame} {meth : Method} {c : Code} {D : va_G} {dA : Nat → ClassId} {b0 : Nat} (X : zX p s m args c cX8_readsThing 3 RX8 wsX8_readsThing D dA) (hr : meth.sig.returnType = (some .boolean)) (hlk : meth.locks = false) {z : Int32 × zH} : ∀ (r0 : Nat) (a1 : Int32) (s0 : Int32) (h : zH) (H : Heap) (locs : List Loc) (ls : Array Slot), f_X8_readsThing_b26 r0 a1 s0 h = some z → zG D dA b0 s.heap h H locs → lv_has ls 3 [(0, .ref (b0 + r0)), (1, .int a1)] → W p l e rmX8_readsThing s m args below meth c H locs 0 0 (MQ below (zQ D dA b0 (some (.int z.1)) z.2) args s 0 0 (zA b0)) (F0 m 26 ls [.int s0]) := by
  intro r0 a1 s0 h H locs ls hf G hl
  unfold f_X8_readsThing_b26 at hf
  refine lv_istore_n (lv' := [(2, .int s0), (0, .ref (b0 + r0)), (1, .int a1)]) X.1.1 X.1.2.1 dX8_readsThing_26 rfl hl (by decide) rfl (fun ls hl => ?_)
  refine lv_iload_n X.1.1 X.1.2.1 dX8_readsThing_27 rfl (lv_at hl 0 rfl) ?_
  refine zif_ne (tgt := 37) X dX8_readsThing_28 (by decide) hf (fun hf => ?_) (fun hf => ?_)
  · refine lv_iload_n X.1.1 X.1.2.1 dX8_readsThing_37 rfl (lv_at hl 2 rfl) ?_
    refine lv_iconst (v := 5) X.1.1 X.1.2.1 dX8_readsThing_38 (by decide) ?_
    refine zic_ne (tgt := 48) X dX8_readsThing_39 (by decide) hf (fun hf => ?_) (fun hf => ?_)
    · refine lv_aload_n X.1.1 X.1.2.1 dX8_readsThing_48 rfl (lv_at hl 1 rfl) ?_
      refine zgetR (ci := 8) (k := 5) (C := RX8) (T := TX8) (N := 24) X G rfl inX8_readsThing_X8 (Nat.le_of_ble_eq_true rfl) flX8_readsThing_22 dX8_readsThing_49 hf (fun v1 hf => ?_)
      refine lv_iconst (v := 3) X.1.1 X.1.2.1 dX8_readsThing_52 (by decide) ?_
      refine lv_iload_n X.1.1 X.1.2.1 dX8_readsThing_53 rfl (lv_at hl 2 rfl) ?_
      refine lv_iadd X.1.1 X.1.2.1 dX8_readsThing_54 ?_
      refine lv_iload_n X.1.1 X.1.2.1 dX8_readsThing_55 rfl (lv_at hl 0 rfl) ?_
      refine ziast X G dX8_readsThing_56 hf (fun h2 H locs hf G => ?_)
      refine lv_aload_n X.1.1 X.1.2.1 dX8_readsThing_57 rfl (lv_at hl 1 rfl) ?_
      refine zgetR (ci := 8) (k := 5) (C := RX8) (T := TX8) (N := 24) X G rfl inX8_readsThing_X8 (Nat.le_of_ble_eq_true rfl) flX8_readsThing_22 dX8_readsThing_58 hf (fun v3 hf => ?_)
      refine lv_iconst (v := 0) X.1.1 X.1.2.1 dX8_readsThing_61 (by decide) ?_
      refine lv_dup2_11 X.1.1 X.1.2.1 dX8_readsThing_62 rfl rfl ?_
      refine ziald X G dX8_readsThing_63 hf (fun v4 hf => ?_)
      refine lv_iconst (v := 1) X.1.1 X.1.2.1 dX8_readsThing_64 (by decide) ?_
      refine lv_iadd X.1.1 X.1.2.1 dX8_readsThing_65 ?_
      refine ziast X G dX8_readsThing_66 hf (fun h5 H locs hf G => ?_)
      refine lv_aload_n X.1.1 X.1.2.1 dX8_readsThing_67 rfl (lv_at hl 1 rfl) ?_
      refine lv_bipush (v := 13) X.1.1 X.1.2.1 dX8_readsThing_68 (by decide) ?_
      refine lv_iload_n X.1.1 X.1.2.1 dX8_readsThing_70 rfl (lv_at hl 2 rfl) ?_
      refine lv_iadd X.1.1 X.1.2.1 dX8_readsThing_71 ?_
      refine lv_iconst (v := 0) X.1.1 X.1.2.1 dX8_readsThing_72 (by decide) ?_
      refine lv_bipush (v := 40) X.1.1 X.1.2.1 dX8_readsThing_73 (by decide) ?_
      refine lv_bipush (v := 44) X.1.1 X.1.2.1 dX8_readsThing_75 (by decide) ?_
      obtain ⟨hk, hf⟩ := zck hf
      obtain ⟨q6, eq6, hf⟩ := Option.bind_eq_some_iff.mp hf
      refine zcV0 (As := [.int ((13 : Int32) + a1), .int (0 : Int32), .int (40 : Int32), .int (44 : Int32)]) (rest := []) (v := (some (.int q6.1))) (h' := q6.2) X G (rfl : vwCl[8]? = some (RX8, TX8, 24)) hk (m_X8_number l D dA b0 r0 (((13 : Int32) + a1)) (0 : Int32) (40 : Int32) (44 : Int32) h5 q6 eq6) (cwV 4 X.1.2.2.2.2 gX8_readsThing_X8_number rfl rfl rfl hdV_X8_number ⟨(Nat.le_of_ble_eq_true rfl), (Nat.le_of_ble_eq_true rfl)⟩) rfl hl.1 rfl (Nat.le_of_ble_eq_true rfl) dX8_readsThing_77 ⟨Nat.zero_le _, Nat.zero_le _⟩ (fun H locs G => ?_)
      refine zif_eq (tgt := 142) X dX8_readsThing_80 (by decide) hf (fun hf => ?_) (fun hf => ?_)
      · refine lv_iconst (v := 0) X.1.1 X.1.2.1 dX8_readsThing_142 (by decide) ?_
        exact zretZ X hr hlk G hf dX8_readsThing_143
      · refine lv_aload_n X.1.1 X.1.2.1 dX8_readsThing_83 rfl (lv_at hl 1 rfl) ?_
        refine lv_bipush (v := 18) X.1.1 X.1.2.1 dX8_readsThing_84 (by decide) ?_
        refine lv_iload_n X.1.1 X.1.2.1 dX8_readsThing_86 rfl (lv_at hl 2 rfl) ?_
        refine lv_iadd X.1.1 X.1.2.1 dX8_readsThing_87 ?_
        refine lv_iconst (v := 0) X.1.1 X.1.2.1 dX8_readsThing_88 (by decide) ?_
        refine lv_iconst (v := 3) X.1.1 X.1.2.1 dX8_readsThing_89 (by decide) ?_
        refine lv_bipush (v := 44) X.1.1 X.1.2.1 dX8_readsThing_90 (by decide) ?_
        obtain ⟨hk, hf⟩ := zck hf
        obtain ⟨q7, eq7, hf⟩ := Option.bind_eq_some_iff.mp hf
        refine zcV0 (As := [.int ((18 : Int32) + a1), .int (0 : Int32), .int (3 : Int32), .int (44 : Int32)]) (rest := []) (v := (some (.int q7.1))) (h' := q7.2) X G (rfl : vwCl[8]? = some (RX8, TX8, 24)) hk (m_X8_number l D dA b0 r0 (((18 : Int32) + a1)) (0 : Int32) (3 : Int32) (44 : Int32) q6.2 q7 eq7) (cwV 4 X.1.2.2.2.2 gX8_readsThing_X8_number rfl rfl rfl hdV_X8_number ⟨(Nat.le_of_ble_eq_true rfl), (Nat.le_of_ble_eq_true rfl)⟩) rfl hl.1 rfl (Nat.le_of_ble_eq_true rfl) dX8_readsThing_92 ⟨Nat.zero_le _, Nat.zero_le _⟩ (fun H locs G => ?_)
        refine zif_eq (tgt := 142) X dX8_readsThing_95 (by decide) hf (fun hf => ?_) (fun hf => ?_)
        · refine lv_iconst (v := 0) X.1.1 X.1.2.1 dX8_readsThing_142 (by decide) ?_
          exact zretZ X hr hlk G hf dX8_readsThing_143
        · refine lv_aload_n X.1.1 X.1.2.1 dX8_readsThing_98 rfl (lv_at hl 1 rfl) ?_
          refine lv_bipush (v := 8) X.1.1 X.1.2.1 dX8_readsThing_99 (by decide) ?_
          refine lv_iload_n X.1.1 X.1.2.1 dX8_readsThing_101 rfl (lv_at hl 2 rfl) ?_
          refine lv_iadd X.1.1 X.1.2.1 dX8_readsThing_102 ?_
          refine lv_iconst (v := 1) X.1.1 X.1.2.1 dX8_readsThing_103 (by decide) ?_
          refine lv_bipush (v := 9) X.1.1 X.1.2.1 dX8_readsThing_104 (by decide) ?_
          refine lv_bipush (v := 44) X.1.1 X.1.2.1 dX8_readsThing_106 (by decide) ?_
          obtain ⟨hk, hf⟩ := zck hf
          obtain ⟨q8, eq8, hf⟩ := Option.bind_eq_some_iff.mp hf
          refine zcV0 (As := [.int ((8 : Int32) + a1), .int (1 : Int32), .int (9 : Int32), .int (44 : Int32)]) (rest := []) (v := (some (.int q8.1))) (h' := q8.2) X G (rfl : vwCl[8]? = some (RX8, TX8, 24)) hk (m_X8_number l D dA b0 r0 (((8 : Int32) + a1)) (1 : Int32) (9 : Int32) (44 : Int32) q7.2 q8 eq8) (cwV 4 X.1.2.2.2.2 gX8_readsThing_X8_number rfl rfl rfl hdV_X8_number ⟨(Nat.le_of_ble_eq_true rfl), (Nat.le_of_ble_eq_true rfl)⟩) rfl hl.1 rfl (Nat.le_of_ble_eq_true rfl) dX8_readsThing_108 ⟨Nat.zero_le _, Nat.zero_le _⟩ (fun H locs G => ?_)
          refine zif_eq (tgt := 142) X dX8_readsThing_111 (by decide) hf (fun hf => ?_) (fun hf => ?_)
          · refine lv_iconst (v := 0) X.1.1 X.1.2.1 dX8_readsThing_142 (by decide) ?_
            exact zretZ X hr hlk G hf dX8_readsThing_143
          · refine lv_aload_n X.1.1 X.1.2.1 dX8_readsThing_114 rfl (lv_at hl 1 rfl) ?_
            refine lv_bipush (v := 23) X.1.1 X.1.2.1 dX8_readsThing_115 (by decide) ?_
            refine lv_iload_n X.1.1 X.1.2.1 dX8_readsThing_117 rfl (lv_at hl 2 rfl) ?_
            refine lv_iadd X.1.1 X.1.2.1 dX8_readsThing_118 ?_
            refine lv_iconst (v := 0) X.1.1 X.1.2.1 dX8_readsThing_119 (by decide) ?_
            refine lv_iconst (v := 1) X.1.1 X.1.2.1 dX8_readsThing_120 (by decide) ?_
            refine lv_aload_n X.1.1 X.1.2.1 dX8_readsThing_121 rfl (lv_at hl 1 rfl) ?_
            refine zgetR (ci := 8) (k := 5) (C := RX8) (T := TX8) (N := 24) X G rfl inX8_readsThing_X8 (Nat.le_of_ble_eq_true rfl) flX8_readsThing_22 dX8_readsThing_122 hf (fun v9 hf => ?_)
            refine lv_iconst (v := 2) X.1.1 X.1.2.1 dX8_readsThing_125 (by decide) ?_
            refine ziald X G dX8_readsThing_126 hf (fun v10 hf => ?_)
            refine lv_ishl X.1.1 X.1.2.1 dX8_readsThing_127 ?_
            refine lv_iconst (v := 1) X.1.1 X.1.2.1 dX8_readsThing_128 (by decide) ?_
            refine lv_isub X.1.1 X.1.2.1 dX8_readsThing_129 ?_
            refine lv_bipush (v := 59) X.1.1 X.1.2.1 dX8_readsThing_130 (by decide) ?_
            obtain ⟨hk, hf⟩ := zck hf
            obtain ⟨q11, eq11, hf⟩ := Option.bind_eq_some_iff.mp hf
            refine zcV0 (As := [.int ((23 : Int32) + a1), .int (0 : Int32), .int (((1 : Int32) <<< (v10 &&& 31)) - (1 : Int32)), .int (59 : Int32)]) (rest := []) (v := (some (.int q11.1))) (h' := q11.2) X G (rfl : vwCl[8]? = some (RX8, TX8, 24)) hk (m_X8_number l D dA b0 r0 (((23 : Int32) + a1)) (0 : Int32) ((((1 : Int32) <<< (v10 &&& 31)) - (1 : Int32))) (59 : Int32) q8.2 q11 eq11) (cwV 4 X.1.2.2.2.2 gX8_readsThing_X8_number rfl rfl rfl hdV_X8_number ⟨(Nat.le_of_ble_eq_true rfl), (Nat.le_of_ble_eq_true rfl)⟩) rfl hl.1 rfl (Nat.le_of_ble_eq_true rfl) dX8_readsThing_132 ⟨Nat.zero_le _, Nat.zero_le _⟩ (fun H locs G => ?_)
            refine zif_eq (tgt := 142) X dX8_readsThing_135 (by decide) hf (fun hf => ?_) (fun hf => ?_)
            · refine lv_iconst (v := 0) X.1.1 X.1.2.1 dX8_readsThing_142 (by decide) ?_
              exact zretZ X hr hlk G hf dX8_readsThing_143
            · refine lv_iconst (v := 1) X.1.1 X.1.2.1 dX8_readsThing_138 (by decide) ?_
              refine lv_goto (tgt := 143) X.1.1 X.1.2.1 dX8_readsThing_139 (by decide) ?_
              exact zretZ X hr hlk G hf dX8_readsThing_143
    · refine lv_aload_n X.1.1 X.1.2.1 dX8_readsThing_42 rfl (lv_at hl 1 rfl) ?_
      refine lv_iconst (v := 3) X.1.1 X.1.2.1 dX8_readsThing_43 (by decide) ?_
      obtain ⟨hk, hf⟩ := zck hf
      obtain ⟨q12, eq12, hf⟩ := Option.bind_eq_some_iff.mp hf
      refine zcV0 (As := [.int (3 : Int32)]) (rest := []) (v := (some (.int q12.1))) (h' := q12.2) X G (rfl : vwCl[8]? = some (RX8, TX8, 24)) hk (m_X8_fails l D dA b0 r0 (3 : Int32) h q12 eq12) (cwV 1 X.1.2.2.2.2 gX8_readsThing_X8_fails rfl rfl rfl hdV_X8_fails ⟨(Nat.le_of_ble_eq_true rfl), (Nat.le_of_ble_eq_true rfl)⟩) rfl hl.1 rfl (Nat.le_of_ble_eq_true rfl) dX8_readsThing_44 ⟨Nat.zero_le _, Nat.zero_le _⟩ (fun H locs G => ?_)
      exact zretZ X hr hlk G hf dX8_readsThing_47
  · refine lv_aload_n X.1.1 X.1.2.1 dX8_readsThing_31 rfl (lv_at hl 1 rfl) ?_
    refine lv_iconst (v := 1) X.1.1 X.1.2.1 dX8_readsThing_32 (by decide) ?_
    obtain ⟨hk, hf⟩ := zck hf
    obtain ⟨q13, eq13, hf⟩ := Option.bind_eq_some_iff.mp hf
    refine zcV0 (As := [.int (1 : Int32)]) (rest := []) (v := (some (.int q13.1))) (h' := q13.2) X G (rfl : vwCl[8]? = some (RX8, TX8, 24)) hk (m_X8_fails l D dA b0 r0 (1 : Int32) h q13 eq13) (cwV 1 X.1.2.2.2.2 gX8_readsThing_X8_fails rfl rfl rfl hdV_X8_fails ⟨(Nat.le_of_ble_eq_true rfl), (Nat.le_of_ble_eq_true rfl)⟩) rfl hl.1 rfl (Nat.le_of_ble_eq_true rfl) dX8_readsThing_33 ⟨Nat.zero_le _, Nat.zero_le _⟩ (fun H locs G => ?_)
    exact zretZ X hr hlk G hf dX8_readsThing_36
set_option maxHeartbeats 4000000 in
set_option maxRecDepth 100000 in
theorem m_X8_readsThing (l : Launch) (D : va_G) (dA : Nat → ClassId) (b0 : Nat) (r0 : Nat) (h : zH) (z : Int32 × zH) (hf : f_X8_readsThing r0 h = some z) : Met l yX8_readsThing wsX8_readsThing rmX8_readsThing (zPc D dA b0 [.ref (b0 + r0)] h) (zQ D dA b0 (some (.int z.1)) z.2) 0 0 (zA b0) := by
  refine Met.ofW (cc := cX8_readsThing) (maxL := 3) (ret := (some .boolean)) (by decide) rfl ?_
  intro p e s m args below meth c s₁ B hml hv
  obtain ⟨rfl, hP, hz, hK, hN⟩ := hv
  have hr := B.returns
  have hlk := B.notSynchronized
  have X : zX p s m _ c cX8_readsThing 3 RX8 wsX8_readsThing D dA := ⟨⟨B.exec, B.bytes, hml, findClass_of_methodNamed B.named, atoms_spec (ws := wsX8_readsThing) B.pre⟩, hK, hN⟩
  have G : zG D dA b0 s.heap h s.heap [] := ⟨hP, hz, va_S.rf⟩
  have hl := lv_entry ([.ref (b0 + r0)]) (n := 3) (Nat.le_of_ble_eq_true rfl)
  rw [lg_entry_eq]
  generalize (lg_sl ([.ref (b0 + r0)]) ++ List.replicate (3 - (lg_sl ([.ref (b0 + r0)])).length) Slot.unset).toArray = ls at hl ⊢
  have hl : lv_has ls 3 [(0, .ref (b0 + r0))] := hl
  unfold f_X8_readsThing at hf
  refine lv_aload_n X.1.1 X.1.2.1 dX8_readsThing_0 rfl (lv_at hl 0 rfl) ?_
  refine zgetR (ci := 8) (k := 5) (C := RX8) (T := TX8) (N := 24) X G rfl inX8_readsThing_X8 (Nat.le_of_ble_eq_true rfl) flX8_readsThing_22 dX8_readsThing_1 hf (fun v1 hf => ?_)
  refine lv_iconst (v := 0) X.1.1 X.1.2.1 dX8_readsThing_4 (by decide) ?_
  refine ziald X G dX8_readsThing_5 hf (fun v2 hf => ?_)
  refine lv_istore_n (lv' := [(1, .int v2), (0, .ref (b0 + r0))]) X.1.1 X.1.2.1 dX8_readsThing_6 rfl hl (by decide) rfl (fun ls hl => ?_)
  refine lv_aload_n X.1.1 X.1.2.1 dX8_readsThing_7 rfl (lv_at hl 1 rfl) ?_
  refine zgetI (ci := 8) (k := 18) (C := RX8) (T := TX8) (N := 24) X G rfl inX8_readsThing_X8 (Nat.le_of_ble_eq_true rfl) flX8_readsThing_105 dX8_readsThing_8 hf (fun v3 hf => ?_)
  refine lv_iconst (v := 1) X.1.1 X.1.2.1 dX8_readsThing_11 (by decide) ?_
  refine zic_ne (tgt := 25) X dX8_readsThing_12 (by decide) hf (fun hf => ?_) (fun hf => ?_)
  · refine lv_iconst (v := 0) X.1.1 X.1.2.1 dX8_readsThing_25 (by decide) ?_
    exact w_X8_readsThing_b26 X hr hlk _ _ _ _ _ _ _ hf G (lv_sub hl [1, 0] rfl)
  · refine lv_aload_n X.1.1 X.1.2.1 dX8_readsThing_15 rfl (lv_at hl 1 rfl) ?_
    refine zgetI (ci := 8) (k := 19) (C := RX8) (T := TX8) (N := 24) X G rfl inX8_readsThing_X8 (Nat.le_of_ble_eq_true rfl) flX8_readsThing_94 dX8_readsThing_16 hf (fun v4 hf => ?_)
    obtain ⟨q5, eq5, hf⟩ := Option.bind_eq_some_iff.mp hf
    refine zcS0 (As := [.int v4]) (rest := []) (v := (some (.int q5))) (h' := h) X G (m_X8_sortOf l D dA b0 v4 h q5 eq5) (va_cwS 1 X.1.2.2.2.2 gX8_readsThing_X8_sortOf rfl rfl rfl hdS_X8_sortOf ⟨(Nat.le_of_ble_eq_true rfl), (Nat.le_of_ble_eq_true rfl)⟩) rfl hl.1 rfl (Nat.le_of_ble_eq_true rfl) dX8_readsThing_19 ⟨Nat.zero_le _, Nat.zero_le _⟩ (fun H locs G => ?_)
    refine lv_goto (tgt := 26) X.1.1 X.1.2.1 dX8_readsThing_22 (by decide) ?_
    exact w_X8_readsThing_b26 X hr hlk _ _ _ _ _ _ _ hf G (lv_sub hl [1, 0] rfl)
/-! X8_reads -/
abbrev rmX8_reads : Room := { frames := 4, cells := 0, slots := 0, locals := 91 }
theorem hdV_X8_reads : yX8_reads.cls = RX8 ∧ yX8_reads.cls ≠ "java/lang/invoke/MethodHandle" ∧ yX8_reads.cls ≠ "java/lang/invoke/VarHandle" ∧ (parseMethodDescriptor yX8_reads.desc).map (fun d => d.parameters.length) = some 0 := by decide +kernel
theorem inX8_reads_X8 : ∀ w ∈ wsX80, w ∈ wsX8_reads := by decide +kernel
theorem flX8_reads_105 : Cond.fieldLink RX8 105 (TX8 18).1 (TX8 18).2.1 (TX8 18).2.2.1 ∈ wsX8_reads := by decide +kernel
theorem flX8_reads_84 : Cond.fieldLink RX8 84 (TX8 16).1 (TX8 16).2.1 (TX8 16).2.2.1 ∈ wsX8_reads := by decide +kernel
theorem flX8_reads_94 : Cond.fieldLink RX8 94 (TX8 19).1 (TX8 19).2.1 (TX8 19).2.2.1 ∈ wsX8_reads := by decide +kernel
theorem flX8_reads_22 : Cond.fieldLink RX8 22 (TX8 5).1 (TX8 5).2.1 (TX8 5).2.2.1 ∈ wsX8_reads := by decide +kernel
set_option maxHeartbeats 4000000 in
set_option maxRecDepth 100000 in
theorem w_X8_reads_b47 {p : Program} {l : Launch} {e : Env} {s : State} {m : MethodId} {args : Array Value} {below : List Frame} {meth : Method} {c : Code} {D : va_G} {dA : Nat → ClassId} {b0 : Nat} (X : zX p s m args c cX8_reads 2 RX8 wsX8_reads D dA) (hr : meth.sig.returnType = (some .boolean)) (hlk : meth.locks = false) {z : Int32 × zH} : ∀ (r0 : Nat) (h : zH) (H : Heap) (locs : List Loc) (ls : Array Slot), f_X8_reads_b47 r0 h = some z → zG D dA b0 s.heap h H locs → lv_has ls 2 [(0, .ref (b0 + r0))] → W p l e rmX8_reads s m args below meth c H locs 0 0 (MQ below (zQ D dA b0 (some (.int z.1)) z.2) args s 0 0 (zA b0)) (F0 m 47 ls []) := by
  intro r0 h H locs ls hf G hl
  unfold f_X8_reads_b47 at hf
  refine lv_aload_n X.1.1 X.1.2.1 dX8_reads_47 rfl (lv_at hl 0 rfl) ?_
  refine lv_iconst (v := 1) X.1.1 X.1.2.1 dX8_reads_48 (by decide) ?_
  obtain ⟨hk, hf⟩ := zck hf
  obtain ⟨q1, eq1, hf⟩ := Option.bind_eq_some_iff.mp hf
  refine zcV0 (As := [.int (1 : Int32)]) (rest := []) (v := (some (.int q1.1))) (h' := q1.2) X G (rfl : vwCl[8]? = some (RX8, TX8, 24)) hk (m_X8_fails l D dA b0 r0 (1 : Int32) h q1 eq1) (cwV 1 X.1.2.2.2.2 gX8_reads_X8_fails rfl rfl rfl hdV_X8_fails ⟨(Nat.le_of_ble_eq_true rfl), (Nat.le_of_ble_eq_true rfl)⟩) rfl hl.1 rfl (Nat.le_of_ble_eq_true rfl) dX8_reads_49 ⟨Nat.zero_le _, Nat.zero_le _⟩ (fun H locs G => ?_)
  exact zretZ X hr hlk G hf dX8_reads_52
set_option maxHeartbeats 4000000 in
set_option maxRecDepth 100000 in
theorem w_X8_reads_b85 {p : Program} {l : Launch} {e : Env} {s : State} {m : MethodId} {args : Array Value} {below : List Frame} {meth : Method} {c : Code} {D : va_G} {dA : Nat → ClassId} {b0 : Nat} (X : zX p s m args c cX8_reads 2 RX8 wsX8_reads D dA) (hr : meth.sig.returnType = (some .boolean)) (hlk : meth.locks = false) {z : Int32 × zH} : ∀ (n : Nat), ∀ (r0 : Nat) (h : zH) (H : Heap) (locs : List Loc) (ls : Array Slot), f_X8_reads_b85 n r0 h = some z → zG D dA b0 s.heap h H locs → lv_has ls 2 [(0, .ref (b0 + r0))] → W p l e rmX8_reads s m args below meth c H locs 0 0 (MQ below (zQ D dA b0 (some (.int z.1)) z.2) args s 0 0 (zA b0)) (F0 m 85 ls []) := by
  intro n
  induction n with
  | zero =>
    intro r0 h H locs ls hf
    cases hf
  | succ n ih =>
    intro r0 h H locs ls hf G hl
    rw [f_X8_reads_b85] at hf
    refine lv_aload_n X.1.1 X.1.2.1 dX8_reads_85 rfl (lv_at hl 0 rfl) ?_
    refine zgetI (ci := 8) (k := 18) (C := RX8) (T := TX8) (N := 24) X G rfl inX8_reads_X8 (Nat.le_of_ble_eq_true rfl) flX8_reads_105 dX8_reads_86 hf (fun v1 hf => ?_)
    refine zif_eq (tgt := 108) X dX8_reads_89 (by decide) hf (fun hf => ?_) (fun hf => ?_)
    · refine lv_iconst (v := 1) X.1.1 X.1.2.1 dX8_reads_108 (by decide) ?_
      exact zretZ X hr hlk G hf dX8_reads_109
    · refine lv_aload_n X.1.1 X.1.2.1 dX8_reads_92 rfl (lv_at hl 0 rfl) ?_
      obtain ⟨hk, hf⟩ := zck hf
      obtain ⟨q2, eq2, hf⟩ := Option.bind_eq_some_iff.mp hf
      refine zcV0 (As := []) (rest := []) (v := (some (.int q2.1))) (h' := q2.2) X G (rfl : vwCl[8]? = some (RX8, TX8, 24)) hk (m_X8_readsThing l D dA b0 r0 h q2 eq2) (cwV 0 X.1.2.2.2.2 gX8_reads_X8_readsThing rfl rfl rfl hdV_X8_readsThing ⟨(Nat.le_of_ble_eq_true rfl), (Nat.le_of_ble_eq_true rfl)⟩) rfl hl.1 rfl (Nat.le_of_ble_eq_true rfl) dX8_reads_93 ⟨Nat.zero_le _, Nat.zero_le _⟩ (fun H locs G => ?_)
      refine zif_ne (tgt := 101) X dX8_reads_96 (by decide) hf (fun hf => ?_) (fun hf => ?_)
      · refine lv_aload_n X.1.1 X.1.2.1 dX8_reads_101 rfl (lv_at hl 0 rfl) ?_
        obtain ⟨hk, hf⟩ := zck hf
        obtain ⟨q3, eq3, hf⟩ := Option.bind_eq_some_iff.mp hf
        refine zcV0 (As := []) (rest := []) (v := none) (h' := q3) X G (rfl : vwCl[8]? = some (RX8, TX8, 24)) hk (m_X8_step l D dA b0 r0 q2.2 q3 eq3) (cwV 0 X.1.2.2.2.2 gX8_reads_X8_step rfl rfl rfl hdV_X8_step ⟨(Nat.le_of_ble_eq_true rfl), (Nat.le_of_ble_eq_true rfl)⟩) rfl hl.1 rfl (Nat.le_of_ble_eq_true rfl) dX8_reads_102 ⟨Nat.zero_le _, Nat.zero_le _⟩ (fun H locs G => ?_)
        refine lv_goto (tgt := 85) X.1.1 X.1.2.1 dX8_reads_105 (by decide) ?_
        exact ih _ _ _ _ _ hf G hl
      · refine lv_iconst (v := 0) X.1.1 X.1.2.1 dX8_reads_99 (by decide) ?_
        exact zretZ X hr hlk G hf dX8_reads_100
set_option maxHeartbeats 4000000 in
set_option maxRecDepth 100000 in
theorem w_X8_reads_b2 {p : Program} {l : Launch} {e : Env} {s : State} {m : MethodId} {args : Array Value} {below : List Frame} {meth : Method} {c : Code} {D : va_G} {dA : Nat → ClassId} {b0 : Nat} (X : zX p s m args c cX8_reads 2 RX8 wsX8_reads D dA) (hr : meth.sig.returnType = (some .boolean)) (hlk : meth.locks = false) {z : Int32 × zH} : ∀ (n : Nat), ∀ (r0 : Nat) (a1 : Int32) (h : zH) (H : Heap) (locs : List Loc) (ls : Array Slot), f_X8_reads_b2 n r0 a1 h = some z → zG D dA b0 s.heap h H locs → lv_has ls 2 [(0, .ref (b0 + r0)), (1, .int a1)] → W p l e rmX8_reads s m args below meth c H locs 0 0 (MQ below (zQ D dA b0 (some (.int z.1)) z.2) args s 0 0 (zA b0)) (F0 m 2 ls []) := by
  intro n
  induction n with
  | zero =>
    intro r0 a1 h H locs ls hf
    cases hf
  | succ n ih =>
    intro r0 a1 h H locs ls hf G hl
    rw [f_X8_reads_b2] at hf
    refine lv_iload_n X.1.1 X.1.2.1 dX8_reads_2 rfl (lv_at hl 1 rfl) ?_
    refine lv_bipush (v := 30) X.1.1 X.1.2.1 dX8_reads_3 (by decide) ?_
    refine zic_ge (tgt := 21) X dX8_reads_5 (by decide) hf (fun hf => ?_) (fun hf => ?_)
    · refine lv_aload_n X.1.1 X.1.2.1 dX8_reads_21 rfl (lv_at hl 0 rfl) ?_
      refine lv_iconst (v := 0) X.1.1 X.1.2.1 dX8_reads_22 (by decide) ?_
      refine zputI (ci := 8) (k := 16) (C := RX8) (T := TX8) (N := 24) X G rfl inX8_reads_X8 tyX8_ok nmX8 (Nat.le_of_ble_eq_true rfl) flX8_reads_84 rfl (by decide +kernel) dX8_reads_23 hf (fun h1 H locs hf G => ?_)
      refine lv_aload_n X.1.1 X.1.2.1 dX8_reads_26 rfl (lv_at hl 0 rfl) ?_
      obtain ⟨hk, hf⟩ := zck hf
      obtain ⟨q2, eq2, hf⟩ := Option.bind_eq_some_iff.mp hf
      refine zcV0 (As := []) (rest := []) (v := none) (h' := q2) X G (rfl : vwCl[8]? = some (RX8, TX8, 24)) hk (m_X8_step l D dA b0 r0 h1 q2 eq2) (cwV 0 X.1.2.2.2.2 gX8_reads_X8_step rfl rfl rfl hdV_X8_step ⟨(Nat.le_of_ble_eq_true rfl), (Nat.le_of_ble_eq_true rfl)⟩) rfl hl.1 rfl (Nat.le_of_ble_eq_true rfl) dX8_reads_27 ⟨Nat.zero_le _, Nat.zero_le _⟩ (fun H locs G => ?_)
      refine lv_aload_n X.1.1 X.1.2.1 dX8_reads_30 rfl (lv_at hl 0 rfl) ?_
      refine zgetI (ci := 8) (k := 18) (C := RX8) (T := TX8) (N := 24) X G rfl inX8_reads_X8 (Nat.le_of_ble_eq_true rfl) flX8_reads_105 dX8_reads_31 hf (fun v3 hf => ?_)
      refine lv_iconst (v := 1) X.1.1 X.1.2.1 dX8_reads_34 (by decide) ?_
      refine zic_ne (tgt := 47) X dX8_reads_35 (by decide) hf (fun hf => ?_) (fun hf => ?_)
      · exact w_X8_reads_b47 X hr hlk _ _ _ _ _ hf G (lv_sub hl [0] rfl)
      · refine lv_aload_n X.1.1 X.1.2.1 dX8_reads_38 rfl (lv_at hl 0 rfl) ?_
        refine zgetI (ci := 8) (k := 19) (C := RX8) (T := TX8) (N := 24) X G rfl inX8_reads_X8 (Nat.le_of_ble_eq_true rfl) flX8_reads_94 dX8_reads_39 hf (fun v4 hf => ?_)
        refine lv_bipush (v := 109) X.1.1 X.1.2.1 dX8_reads_42 (by decide) ?_
        refine zic_eq (tgt := 53) X dX8_reads_44 (by decide) hf (fun hf => ?_) (fun hf => ?_)
        · refine lv_aload_n X.1.1 X.1.2.1 dX8_reads_53 rfl (lv_at hl 0 rfl) ?_
          refine lv_iconst (v := 1) X.1.1 X.1.2.1 dX8_reads_54 (by decide) ?_
          refine lv_iconst (v := 0) X.1.1 X.1.2.1 dX8_reads_55 (by decide) ?_
          refine lv_bipush (v := 9) X.1.1 X.1.2.1 dX8_reads_56 (by decide) ?_
          refine lv_bipush (v := 44) X.1.1 X.1.2.1 dX8_reads_58 (by decide) ?_
          obtain ⟨hk, hf⟩ := zck hf
          obtain ⟨q5, eq5, hf⟩ := Option.bind_eq_some_iff.mp hf
          refine zcV0 (As := [.int (1 : Int32), .int (0 : Int32), .int (9 : Int32), .int (44 : Int32)]) (rest := []) (v := (some (.int q5.1))) (h' := q5.2) X G (rfl : vwCl[8]? = some (RX8, TX8, 24)) hk (m_X8_number l D dA b0 r0 (1 : Int32) (0 : Int32) (9 : Int32) (44 : Int32) q2 q5 eq5) (cwV 4 X.1.2.2.2.2 gX8_reads_X8_number rfl rfl rfl hdV_X8_number ⟨(Nat.le_of_ble_eq_true rfl), (Nat.le_of_ble_eq_true rfl)⟩) rfl hl.1 rfl (Nat.le_of_ble_eq_true rfl) dX8_reads_60 ⟨Nat.zero_le _, Nat.zero_le _⟩ (fun H locs G => ?_)
          refine zif_eq (tgt := 79) X dX8_reads_63 (by decide) hf (fun hf => ?_) (fun hf => ?_)
          · refine lv_iconst (v := 0) X.1.1 X.1.2.1 dX8_reads_79 (by decide) ?_
            exact zretZ X hr hlk G hf dX8_reads_80
          · refine lv_aload_n X.1.1 X.1.2.1 dX8_reads_66 rfl (lv_at hl 0 rfl) ?_
            refine lv_iconst (v := 2) X.1.1 X.1.2.1 dX8_reads_67 (by decide) ?_
            refine lv_iconst (v := 1) X.1.1 X.1.2.1 dX8_reads_68 (by decide) ?_
            refine lv_bipush (v := 6) X.1.1 X.1.2.1 dX8_reads_69 (by decide) ?_
            refine lv_bipush (v := 59) X.1.1 X.1.2.1 dX8_reads_71 (by decide) ?_
            obtain ⟨hk, hf⟩ := zck hf
            obtain ⟨q6, eq6, hf⟩ := Option.bind_eq_some_iff.mp hf
            refine zcV0 (As := [.int (2 : Int32), .int (1 : Int32), .int (6 : Int32), .int (59 : Int32)]) (rest := []) (v := (some (.int q6.1))) (h' := q6.2) X G (rfl : vwCl[8]? = some (RX8, TX8, 24)) hk (m_X8_number l D dA b0 r0 (2 : Int32) (1 : Int32) (6 : Int32) (59 : Int32) q5.2 q6 eq6) (cwV 4 X.1.2.2.2.2 gX8_reads_X8_number rfl rfl rfl hdV_X8_number ⟨(Nat.le_of_ble_eq_true rfl), (Nat.le_of_ble_eq_true rfl)⟩) rfl hl.1 rfl (Nat.le_of_ble_eq_true rfl) dX8_reads_73 ⟨Nat.zero_le _, Nat.zero_le _⟩ (fun H locs G => ?_)
            refine zif_ne (tgt := 81) X dX8_reads_76 (by decide) hf (fun hf => ?_) (fun hf => ?_)
            · refine lv_aload_n X.1.1 X.1.2.1 dX8_reads_81 rfl (lv_at hl 0 rfl) ?_
              obtain ⟨hk, hf⟩ := zck hf
              obtain ⟨q7, eq7, hf⟩ := Option.bind_eq_some_iff.mp hf
              refine zcV0 (As := []) (rest := []) (v := none) (h' := q7) X G (rfl : vwCl[8]? = some (RX8, TX8, 24)) hk (m_X8_step l D dA b0 r0 q6.2 q7 eq7) (cwV 0 X.1.2.2.2.2 gX8_reads_X8_step rfl rfl rfl hdV_X8_step ⟨(Nat.le_of_ble_eq_true rfl), (Nat.le_of_ble_eq_true rfl)⟩) rfl hl.1 rfl (Nat.le_of_ble_eq_true rfl) dX8_reads_82 ⟨Nat.zero_le _, Nat.zero_le _⟩ (fun H locs G => ?_)
              exact w_X8_reads_b85 X hr hlk _ _ _ _ _ _ hf G (lv_sub hl [0] rfl)
            · refine lv_iconst (v := 0) X.1.1 X.1.2.1 dX8_reads_79 (by decide) ?_
              exact zretZ X hr hlk G hf dX8_reads_80
        · exact w_X8_reads_b47 X hr hlk _ _ _ _ _ hf G (lv_sub hl [0] rfl)
    · refine lv_aload_n X.1.1 X.1.2.1 dX8_reads_8 rfl (lv_at hl 0 rfl) ?_
      refine zgetR (ci := 8) (k := 5) (C := RX8) (T := TX8) (N := 24) X G rfl inX8_reads_X8 (Nat.le_of_ble_eq_true rfl) flX8_reads_22 dX8_reads_9 hf (fun v8 hf => ?_)
      refine lv_iload_n X.1.1 X.1.2.1 dX8_reads_12 rfl (lv_at hl 1 rfl) ?_
      refine lv_iconst (v := 0) X.1.1 X.1.2.1 dX8_reads_13 (by decide) ?_
      refine ziast X G dX8_reads_14 hf (fun h9 H locs hf G => ?_)
      refine lv_iinc (v := (a1 + (1 : Int32))) (lv' := [(1, .int (a1 + (1 : Int32))), (0, .ref (b0 + r0))]) X.1.1 X.1.2.1 dX8_reads_15 hl (k := 1) rfl rfl (by decide) rfl (fun ls hl => ?_)
      refine lv_goto (tgt := 2) X.1.1 X.1.2.1 dX8_reads_18 (by decide) ?_
      exact ih _ _ _ _ _ _ hf G (lv_sub hl [1, 0] rfl)
set_option maxHeartbeats 4000000 in
set_option maxRecDepth 100000 in
theorem m_X8_reads (l : Launch) (D : va_G) (dA : Nat → ClassId) (b0 : Nat) (r0 : Nat) (h : zH) (z : Int32 × zH) (hf : f_X8_reads r0 h = some z) : Met l yX8_reads wsX8_reads rmX8_reads (zPc D dA b0 [.ref (b0 + r0)] h) (zQ D dA b0 (some (.int z.1)) z.2) 0 0 (zA b0) := by
  refine Met.ofW (cc := cX8_reads) (maxL := 2) (ret := (some .boolean)) (by decide) rfl ?_
  intro p e s m args below meth c s₁ B hml hv
  obtain ⟨rfl, hP, hz, hK, hN⟩ := hv
  have hr := B.returns
  have hlk := B.notSynchronized
  have X : zX p s m _ c cX8_reads 2 RX8 wsX8_reads D dA := ⟨⟨B.exec, B.bytes, hml, findClass_of_methodNamed B.named, atoms_spec (ws := wsX8_reads) B.pre⟩, hK, hN⟩
  have G : zG D dA b0 s.heap h s.heap [] := ⟨hP, hz, va_S.rf⟩
  have hl := lv_entry ([.ref (b0 + r0)]) (n := 2) (Nat.le_of_ble_eq_true rfl)
  rw [lg_entry_eq]
  generalize (lg_sl ([.ref (b0 + r0)]) ++ List.replicate (2 - (lg_sl ([.ref (b0 + r0)])).length) Slot.unset).toArray = ls at hl ⊢
  have hl : lv_has ls 2 [(0, .ref (b0 + r0))] := hl
  unfold f_X8_reads at hf
  refine lv_iconst (v := 0) X.1.1 X.1.2.1 dX8_reads_0 (by decide) ?_
  refine lv_istore_n (lv' := [(1, .int (0 : Int32)), (0, .ref (b0 + r0))]) X.1.1 X.1.2.1 dX8_reads_1 rfl hl (by decide) rfl (fun ls hl => ?_)
  exact w_X8_reads_b2 X hr hlk _ _ _ _ _ _ _ hf G (lv_sub hl [1, 0] rfl)
/-! X8_copies -/
abbrev rmX8_copies : Room := { frames := 0, cells := 0, slots := 0, locals := 0 }
theorem hdS_X8_copies : yX8_copies.cls ≠ "java/lang/invoke/MethodHandle" ∧ yX8_copies.cls ≠ "java/lang/invoke/VarHandle" ∧ (parseMethodDescriptor yX8_copies.desc).map (fun d => d.parameters.length) = some 4 := by decide +kernel
set_option maxHeartbeats 4000000 in
set_option maxRecDepth 100000 in
theorem w_X8_copies_b3 {p : Program} {l : Launch} {e : Env} {s : State} {m : MethodId} {args : Array Value} {below : List Frame} {meth : Method} {c : Code} {D : va_G} {dA : Nat → ClassId} {b0 : Nat} (X : zX p s m args c cX8_copies 5 RX8 wsX8_copies D dA) (hr : meth.sig.returnType = none) (hlk : meth.locks = false) {z : zH} : ∀ (n : Nat), ∀ (r0 : Nat) (a1 : Int32) (r2 : Nat) (a3 : Int32) (a4 : Int32) (h : zH) (H : Heap) (locs : List Loc) (ls : Array Slot), f_X8_copies_b3 n r0 a1 r2 a3 a4 h = some z → zG D dA b0 s.heap h H locs → lv_has ls 5 [(0, .ref (b0 + r0)), (1, .int a1), (2, .ref (b0 + r2)), (3, .int a3), (4, .int a4)] → W p l e rmX8_copies s m args below meth c H locs 0 0 (MQ below (zQ D dA b0 none z) args s 0 0 (zA b0)) (F0 m 3 ls []) := by
  intro n
  induction n with
  | zero =>
    intro r0 a1 r2 a3 a4 h H locs ls hf
    cases hf
  | succ n ih =>
    intro r0 a1 r2 a3 a4 h H locs ls hf G hl
    rw [f_X8_copies_b3] at hf
    refine lv_iload X.1.1 X.1.2.1 dX8_copies_3 (lv_at hl 4 rfl) ?_
    refine lv_bipush (v := 30) X.1.1 X.1.2.1 dX8_copies_5 (by decide) ?_
    refine zic_ge (tgt := 28) X dX8_copies_7 (by decide) hf (fun hf => ?_) (fun hf => ?_)
    · exact zretV X hr hlk G hf dX8_copies_28
    · refine lv_aload_n X.1.1 X.1.2.1 dX8_copies_10 rfl (lv_at hl 2 rfl) ?_
      refine lv_iload_n X.1.1 X.1.2.1 dX8_copies_11 rfl (lv_at hl 3 rfl) ?_
      refine lv_iload X.1.1 X.1.2.1 dX8_copies_12 (lv_at hl 4 rfl) ?_
      refine lv_iadd X.1.1 X.1.2.1 dX8_copies_14 ?_
      refine lv_aload_n X.1.1 X.1.2.1 dX8_copies_15 rfl (lv_at hl 0 rfl) ?_
      refine lv_iload_n X.1.1 X.1.2.1 dX8_copies_16 rfl (lv_at hl 1 rfl) ?_
      refine lv_iload X.1.1 X.1.2.1 dX8_copies_17 (lv_at hl 4 rfl) ?_
      refine lv_iadd X.1.1 X.1.2.1 dX8_copies_19 ?_
      refine ziald X G dX8_copies_20 hf (fun v1 hf => ?_)
      refine ziast X G dX8_copies_21 hf (fun h2 H locs hf G => ?_)
      refine lv_iinc (v := (a4 + (1 : Int32))) (lv' := [(4, .int (a4 + (1 : Int32))), (0, .ref (b0 + r0)), (1, .int a1), (2, .ref (b0 + r2)), (3, .int a3)]) X.1.1 X.1.2.1 dX8_copies_22 hl (k := 4) rfl rfl (by decide) rfl (fun ls hl => ?_)
      refine lv_goto (tgt := 3) X.1.1 X.1.2.1 dX8_copies_25 (by decide) ?_
      exact ih _ _ _ _ _ _ _ _ _ hf G (lv_sub hl [1, 2, 3, 4, 0] rfl)
set_option maxHeartbeats 4000000 in
set_option maxRecDepth 100000 in
theorem m_X8_copies (l : Launch) (D : va_G) (dA : Nat → ClassId) (b0 : Nat) (r0 : Nat) (a1 : Int32) (r2 : Nat) (a3 : Int32) (h : zH) (z : zH) (hf : f_X8_copies r0 a1 r2 a3 h = some z) : Met l yX8_copies wsX8_copies rmX8_copies (zPc D dA b0 [.ref (b0 + r0), .int a1, .ref (b0 + r2), .int a3] h) (zQ D dA b0 none z) 0 0 (zA b0) := by
  refine Met.ofW (cc := cX8_copies) (maxL := 5) (ret := none) (by decide) rfl ?_
  intro p e s m args below meth c s₁ B hml hv
  obtain ⟨rfl, hP, hz, hK, hN⟩ := hv
  have hr := B.returns
  have hlk := B.notSynchronized
  have X : zX p s m _ c cX8_copies 5 RX8 wsX8_copies D dA := ⟨⟨B.exec, B.bytes, hml, findClass_of_methodNamed B.named, atoms_spec (ws := wsX8_copies) B.pre⟩, hK, hN⟩
  have G : zG D dA b0 s.heap h s.heap [] := ⟨hP, hz, va_S.rf⟩
  have hl := lv_entry ([.ref (b0 + r0), .int a1, .ref (b0 + r2), .int a3]) (n := 5) (Nat.le_of_ble_eq_true rfl)
  rw [lg_entry_eq]
  generalize (lg_sl ([.ref (b0 + r0), .int a1, .ref (b0 + r2), .int a3]) ++ List.replicate (5 - (lg_sl ([.ref (b0 + r0), .int a1, .ref (b0 + r2), .int a3])).length) Slot.unset).toArray = ls at hl ⊢
  have hl : lv_has ls 5 [(0, .ref (b0 + r0)), (1, .int a1), (2, .ref (b0 + r2)), (3, .int a3)] := hl
  unfold f_X8_copies at hf
  refine lv_iconst (v := 0) X.1.1 X.1.2.1 dX8_copies_0 (by decide) ?_
  refine lv_istore (lv' := [(4, .int (0 : Int32)), (0, .ref (b0 + r0)), (1, .int a1), (2, .ref (b0 + r2)), (3, .int a3)]) X.1.1 X.1.2.1 dX8_copies_1 hl (by decide) rfl (fun ls hl => ?_)
  exact w_X8_copies_b3 X hr hlk _ _ _ _ _ _ _ _ _ _ hf G (lv_sub hl [1, 2, 3, 4, 0] rfl)
/-! X8_mine -/
abbrev rmX8_mine : Room := { frames := 5, cells := 0, slots := 0, locals := 112 }
theorem hdV_X8_mine : yX8_mine.cls = RX8 ∧ yX8_mine.cls ≠ "java/lang/invoke/MethodHandle" ∧ yX8_mine.cls ≠ "java/lang/invoke/VarHandle" ∧ (parseMethodDescriptor yX8_mine.desc).map (fun d => d.parameters.length) = some 0 := by decide +kernel
theorem inX8_mine_X8 : ∀ w ∈ wsX80, w ∈ wsX8_mine := by decide +kernel
theorem flX8_mine_80 : Cond.fieldLink RX8 80 (TX8 12).1 (TX8 12).2.1 (TX8 12).2.2.1 ∈ wsX8_mine := by decide +kernel
theorem flX8_mine_22 : Cond.fieldLink RX8 22 (TX8 5).1 (TX8 5).2.1 (TX8 5).2.2.1 ∈ wsX8_mine := by decide +kernel
theorem flX8_mine_19 : Cond.fieldLink RX8 19 (TX8 4).1 (TX8 4).2.1 (TX8 4).2.2.1 ∈ wsX8_mine := by decide +kernel
theorem flX8_mine_139 : Cond.fieldLink RX8 139 (TX8 8).1 (TX8 8).2.1 (TX8 8).2.2.1 ∈ wsX8_mine := by decide +kernel
theorem flX8_mine_108 : Cond.fieldLink RX8 108 (TX8 20).1 (TX8 20).2.1 (TX8 20).2.2.1 ∈ wsX8_mine := by decide +kernel
theorem flX8_mine_131 : Cond.fieldLink RX8 131 (TX8 13).1 (TX8 13).2.1 (TX8 13).2.2.1 ∈ wsX8_mine := by decide +kernel
theorem coX8_mine_134 : Cond.constant RX8 134 (-1000100) ∈ wsX8_mine := by decide +kernel
theorem flX8_mine_87 : Cond.fieldLink RX8 87 (TX8 17).1 (TX8 17).2.1 (TX8 17).2.2.1 ∈ wsX8_mine := by decide +kernel
set_option maxHeartbeats 4000000 in
set_option maxRecDepth 100000 in
theorem m_X8_mine (l : Launch) (D : va_G) (dA : Nat → ClassId) (b0 : Nat) (r0 : Nat) (h : zH) (z : Int32 × zH) (hf : f_X8_mine r0 h = some z) : Met l yX8_mine wsX8_mine rmX8_mine (zPc D dA b0 [.ref (b0 + r0)] h) (zQ D dA b0 (some (.int z.1)) z.2) 0 0 (zA b0) := by
  refine Met.ofW (cc := cX8_mine) (maxL := 2) (ret := (some .int)) (by decide) rfl ?_
  intro p e s m args below meth c s₁ B hml hv
  obtain ⟨rfl, hP, hz, hK, hN⟩ := hv
  have hr := B.returns
  have hlk := B.notSynchronized
  have X : zX p s m _ c cX8_mine 2 RX8 wsX8_mine D dA := ⟨⟨B.exec, B.bytes, hml, findClass_of_methodNamed B.named, atoms_spec (ws := wsX8_mine) B.pre⟩, hK, hN⟩
  have G : zG D dA b0 s.heap h s.heap [] := ⟨hP, hz, va_S.rf⟩
  have hl := lv_entry ([.ref (b0 + r0)]) (n := 2) (Nat.le_of_ble_eq_true rfl)
  rw [lg_entry_eq]
  generalize (lg_sl ([.ref (b0 + r0)]) ++ List.replicate (2 - (lg_sl ([.ref (b0 + r0)])).length) Slot.unset).toArray = ls at hl ⊢
  have hl : lv_has ls 2 [(0, .ref (b0 + r0))] := hl
  unfold f_X8_mine at hf
  refine lv_aload_n X.1.1 X.1.2.1 dX8_mine_0 rfl (lv_at hl 0 rfl) ?_
  obtain ⟨hk, hf⟩ := zck hf
  obtain ⟨q1, eq1, hf⟩ := Option.bind_eq_some_iff.mp hf
  refine zcV0 (As := []) (rest := []) (v := (some (.int q1.1))) (h' := q1.2) X G (rfl : vwCl[8]? = some (RX8, TX8, 24)) hk (m_X8_reads l D dA b0 r0 h q1 eq1) (cwV 0 X.1.2.2.2.2 gX8_mine_X8_reads rfl rfl rfl hdV_X8_reads ⟨(Nat.le_of_ble_eq_true rfl), (Nat.le_of_ble_eq_true rfl)⟩) rfl hl.1 rfl (Nat.le_of_ble_eq_true rfl) dX8_mine_1 ⟨Nat.zero_le _, Nat.zero_le _⟩ (fun H locs G => ?_)
  refine lv_istore_n (lv' := [(1, .int q1.1), (0, .ref (b0 + r0))]) X.1.1 X.1.2.1 dX8_mine_4 rfl hl (by decide) rfl (fun ls hl => ?_)
  refine lv_aload_n X.1.1 X.1.2.1 dX8_mine_5 rfl (lv_at hl 1 rfl) ?_
  refine lv_iconst (v := 0) X.1.1 X.1.2.1 dX8_mine_6 (by decide) ?_
  refine zputI (ci := 8) (k := 12) (C := RX8) (T := TX8) (N := 24) X G rfl inX8_mine_X8 tyX8_ok nmX8 (Nat.le_of_ble_eq_true rfl) flX8_mine_80 rfl (by decide +kernel) dX8_mine_7 hf (fun h2 H locs hf G => ?_)
  refine lv_iload_n X.1.1 X.1.2.1 dX8_mine_10 rfl (lv_at hl 0 rfl) ?_
  refine zif_ne (tgt := 30) X dX8_mine_11 (by decide) hf (fun hf => ?_) (fun hf => ?_)
  · refine lv_aload_n X.1.1 X.1.2.1 dX8_mine_30 rfl (lv_at hl 1 rfl) ?_
    refine zgetR (ci := 8) (k := 5) (C := RX8) (T := TX8) (N := 24) X G rfl inX8_mine_X8 (Nat.le_of_ble_eq_true rfl) flX8_mine_22 dX8_mine_31 hf (fun v3 hf => ?_)
    refine lv_iconst (v := 0) X.1.1 X.1.2.1 dX8_mine_34 (by decide) ?_
    refine lv_aload_n X.1.1 X.1.2.1 dX8_mine_35 rfl (lv_at hl 1 rfl) ?_
    refine zgetR (ci := 8) (k := 4) (C := RX8) (T := TX8) (N := 24) X G rfl inX8_mine_X8 (Nat.le_of_ble_eq_true rfl) flX8_mine_19 dX8_mine_36 hf (fun v4 hf => ?_)
    refine lv_iconst (v := 0) X.1.1 X.1.2.1 dX8_mine_39 (by decide) ?_
    obtain ⟨q5, eq5, hf⟩ := Option.bind_eq_some_iff.mp hf
    refine zcS0 (As := [.ref (b0 + v3), .int (0 : Int32), .ref (b0 + v4), .int (0 : Int32)]) (rest := []) (v := none) (h' := q5) X G (m_X8_copies l D dA b0 v3 (0 : Int32) v4 (0 : Int32) h2 q5 eq5) (va_cwS 4 X.1.2.2.2.2 gX8_mine_X8_copies rfl rfl rfl hdS_X8_copies ⟨(Nat.le_of_ble_eq_true rfl), (Nat.le_of_ble_eq_true rfl)⟩) rfl hl.1 rfl (Nat.le_of_ble_eq_true rfl) dX8_mine_40 ⟨Nat.zero_le _, Nat.zero_le _⟩ (fun H locs G => ?_)
    refine lv_aload_n X.1.1 X.1.2.1 dX8_mine_43 rfl (lv_at hl 1 rfl) ?_
    refine lv_iconst (v := 0) X.1.1 X.1.2.1 dX8_mine_44 (by decide) ?_
    refine zputI (ci := 8) (k := 8) (C := RX8) (T := TX8) (N := 24) X G rfl inX8_mine_X8 tyX8_ok nmX8 (Nat.le_of_ble_eq_true rfl) flX8_mine_139 rfl (by decide +kernel) dX8_mine_45 hf (fun h6 H locs hf G => ?_)
    refine lv_aload_n X.1.1 X.1.2.1 dX8_mine_48 rfl (lv_at hl 1 rfl) ?_
    refine zgetR (ci := 8) (k := 4) (C := RX8) (T := TX8) (N := 24) X G rfl inX8_mine_X8 (Nat.le_of_ble_eq_true rfl) flX8_mine_19 dX8_mine_49 hf (fun v7 hf => ?_)
    refine lv_iconst (v := 0) X.1.1 X.1.2.1 dX8_mine_52 (by decide) ?_
    refine ziald X G dX8_mine_53 hf (fun v8 hf => ?_)
    exact zretI X hr hlk G hf dX8_mine_54
  · refine lv_aload_n X.1.1 X.1.2.1 dX8_mine_14 rfl (lv_at hl 1 rfl) ?_
    refine lv_aload_n X.1.1 X.1.2.1 dX8_mine_15 rfl (lv_at hl 1 rfl) ?_
    refine zgetI (ci := 8) (k := 20) (C := RX8) (T := TX8) (N := 24) X G rfl inX8_mine_X8 (Nat.le_of_ble_eq_true rfl) flX8_mine_108 dX8_mine_16 hf (fun v9 hf => ?_)
    refine zputI (ci := 8) (k := 13) (C := RX8) (T := TX8) (N := 24) X G rfl inX8_mine_X8 tyX8_ok nmX8 (Nat.le_of_ble_eq_true rfl) flX8_mine_131 rfl (by decide +kernel) dX8_mine_19 hf (fun h10 H locs hf G => ?_)
    refine lv_ldc (v := -1000100) X.1.1 X.1.2.1 X.1.2.2.2.1 (X.1.2.2.2.2 _ coX8_mine_134) dX8_mine_22 ?_
    refine lv_aload_n X.1.1 X.1.2.1 dX8_mine_24 rfl (lv_at hl 1 rfl) ?_
    refine zgetI (ci := 8) (k := 17) (C := RX8) (T := TX8) (N := 24) X G rfl inX8_mine_X8 (Nat.le_of_ble_eq_true rfl) flX8_mine_87 dX8_mine_25 hf (fun v11 hf => ?_)
    refine lv_isub X.1.1 X.1.2.1 dX8_mine_28 ?_
    exact zretI X hr hlk G hf dX8_mine_29
/-! X8_fault -/
abbrev rmX8_fault : Room := { frames := 0, cells := 0, slots := 0, locals := 0 }
theorem hdV_X8_fault : yX8_fault.cls = RX8 ∧ yX8_fault.cls ≠ "java/lang/invoke/MethodHandle" ∧ yX8_fault.cls ≠ "java/lang/invoke/VarHandle" ∧ (parseMethodDescriptor yX8_fault.desc).map (fun d => d.parameters.length) = some 0 := by decide +kernel
theorem inX8_fault_X8 : ∀ w ∈ wsX80, w ∈ wsX8_fault := by decide +kernel
theorem flX8_fault_131 : Cond.fieldLink RX8 131 (TX8 13).1 (TX8 13).2.1 (TX8 13).2.2.1 ∈ wsX8_fault := by decide +kernel
set_option maxHeartbeats 4000000 in
set_option maxRecDepth 100000 in
theorem m_X8_fault (l : Launch) (D : va_G) (dA : Nat → ClassId) (b0 : Nat) (r0 : Nat) (h : zH) (z : Int32) (hf : f_X8_fault r0 h = some z) : Met l yX8_fault wsX8_fault rmX8_fault (zPc D dA b0 [.ref (b0 + r0)] h) (zQ D dA b0 (some (.int z)) h) 0 0 (zA b0) := by
  refine Met.ofW (cc := cX8_fault) (maxL := 1) (ret := (some .int)) (by decide) rfl ?_
  intro p e s m args below meth c s₁ B hml hv
  obtain ⟨rfl, hP, hz, hK, hN⟩ := hv
  have hr := B.returns
  have hlk := B.notSynchronized
  have X : zX p s m _ c cX8_fault 1 RX8 wsX8_fault D dA := ⟨⟨B.exec, B.bytes, hml, findClass_of_methodNamed B.named, atoms_spec (ws := wsX8_fault) B.pre⟩, hK, hN⟩
  have G : zG D dA b0 s.heap h s.heap [] := ⟨hP, hz, va_S.rf⟩
  have hl := lv_entry ([.ref (b0 + r0)]) (n := 1) (Nat.le_of_ble_eq_true rfl)
  rw [lg_entry_eq]
  generalize (lg_sl ([.ref (b0 + r0)]) ++ List.replicate (1 - (lg_sl ([.ref (b0 + r0)])).length) Slot.unset).toArray = ls at hl ⊢
  have hl : lv_has ls 1 [(0, .ref (b0 + r0))] := hl
  unfold f_X8_fault at hf
  refine lv_aload_n X.1.1 X.1.2.1 dX8_fault_0 rfl (lv_at hl 0 rfl) ?_
  refine zgetI (ci := 8) (k := 13) (C := RX8) (T := TX8) (N := 24) X G rfl inX8_fault_X8 (Nat.le_of_ble_eq_true rfl) flX8_fault_131 dX8_fault_1 hf (fun v1 hf => ?_)
  exact zretIr X hr hlk G hf dX8_fault_4
/-! X8_has -/
abbrev rmX8_has : Room := { frames := 0, cells := 0, slots := 0, locals := 0 }
theorem hdS_X8_has : yX8_has.cls ≠ "java/lang/invoke/MethodHandle" ∧ yX8_has.cls ≠ "java/lang/invoke/VarHandle" ∧ (parseMethodDescriptor yX8_has.desc).map (fun d => d.parameters.length) = some 2 := by decide +kernel
set_option maxHeartbeats 4000000 in
set_option maxRecDepth 100000 in
theorem m_X8_has (l : Launch) (D : va_G) (dA : Nat → ClassId) (b0 : Nat) (a0 : Int32) (a1 : Int32) (h : zH) (z : Int32) (hf : f_X8_has a0 a1 h = some z) : Met l yX8_has wsX8_has rmX8_has (zPc D dA b0 [.int a0, .int a1] h) (zQ D dA b0 (some (.int z)) h) 0 0 (zA b0) := by
  refine Met.ofW (cc := cX8_has) (maxL := 2) (ret := (some .boolean)) (by decide) rfl ?_
  intro p e s m args below meth c s₁ B hml hv
  obtain ⟨rfl, hP, hz, hK, hN⟩ := hv
  have hr := B.returns
  have hlk := B.notSynchronized
  have X : zX p s m _ c cX8_has 2 RX8 wsX8_has D dA := ⟨⟨B.exec, B.bytes, hml, findClass_of_methodNamed B.named, atoms_spec (ws := wsX8_has) B.pre⟩, hK, hN⟩
  have G : zG D dA b0 s.heap h s.heap [] := ⟨hP, hz, va_S.rf⟩
  have hl := lv_entry ([.int a0, .int a1]) (n := 2) (Nat.le_of_ble_eq_true rfl)
  rw [lg_entry_eq]
  generalize (lg_sl ([.int a0, .int a1]) ++ List.replicate (2 - (lg_sl ([.int a0, .int a1])).length) Slot.unset).toArray = ls at hl ⊢
  have hl : lv_has ls 2 [(0, .int a0), (1, .int a1)] := hl
  unfold f_X8_has at hf
  refine lv_iload_n X.1.1 X.1.2.1 dX8_has_0 rfl (lv_at hl 0 rfl) ?_
  refine lv_iload_n X.1.1 X.1.2.1 dX8_has_1 rfl (lv_at hl 1 rfl) ?_
  refine lv_ishr X.1.1 X.1.2.1 dX8_has_2 ?_
  refine lv_iconst (v := 1) X.1.1 X.1.2.1 dX8_has_3 (by decide) ?_
  refine lv_iand X.1.1 X.1.2.1 dX8_has_4 ?_
  refine lv_iconst (v := 1) X.1.1 X.1.2.1 dX8_has_5 (by decide) ?_
  refine zic_ne (tgt := 13) X dX8_has_6 (by decide) hf (fun hf => ?_) (fun hf => ?_)
  · refine lv_iconst (v := 0) X.1.1 X.1.2.1 dX8_has_13 (by decide) ?_
    exact zretZr X hr hlk G hf dX8_has_14
  · refine lv_iconst (v := 1) X.1.1 X.1.2.1 dX8_has_9 (by decide) ?_
    refine lv_goto (tgt := 14) X.1.1 X.1.2.1 dX8_has_10 (by decide) ?_
    exact zretZr X hr hlk G hf dX8_has_14
/-! X8_bits -/
abbrev rmX8_bits : Room := { frames := 0, cells := 0, slots := 0, locals := 0 }
theorem hdS_X8_bits : yX8_bits.cls ≠ "java/lang/invoke/MethodHandle" ∧ yX8_bits.cls ≠ "java/lang/invoke/VarHandle" ∧ (parseMethodDescriptor yX8_bits.desc).map (fun d => d.parameters.length) = some 1 := by decide +kernel
set_option maxHeartbeats 4000000 in
set_option maxRecDepth 100000 in
theorem w_X8_bits_b4 {p : Program} {l : Launch} {e : Env} {s : State} {m : MethodId} {args : Array Value} {below : List Frame} {meth : Method} {c : Code} {D : va_G} {dA : Nat → ClassId} {b0 : Nat} {h : zH} (X : zX p s m args c cX8_bits 3 RX8 wsX8_bits D dA) (hr : meth.sig.returnType = (some .int)) (hlk : meth.locks = false) {z : Int32} : ∀ (n : Nat), ∀ (a1 : Int32) (a2 : Int32) (H : Heap) (locs : List Loc) (ls : Array Slot), f_X8_bits_b4 h n a1 a2 = some z → zG D dA b0 s.heap h H locs → lv_has ls 3 [(1, .int a1), (2, .int a2)] → W p l e rmX8_bits s m args below meth c H locs 0 0 (MQ below (zQ D dA b0 (some (.int z)) h) args s 0 0 (zA b0)) (F0 m 4 ls []) := by
  intro n
  induction n with
  | zero =>
    intro a1 a2 H locs ls hf
    cases hf
  | succ n ih =>
    intro a1 a2 H locs ls hf G hl
    rw [f_X8_bits_b4] at hf
    refine lv_iload_n X.1.1 X.1.2.1 dX8_bits_4 rfl (lv_at hl 1 rfl) ?_
    refine zif_eq (tgt := 20) X dX8_bits_5 (by decide) hf (fun hf => ?_) (fun hf => ?_)
    · refine lv_iload_n X.1.1 X.1.2.1 dX8_bits_20 rfl (lv_at hl 0 rfl) ?_
      exact zretIr X hr hlk G hf dX8_bits_21
    · refine lv_iinc (v := (a1 + (1 : Int32))) (lv' := [(1, .int (a1 + (1 : Int32))), (2, .int a2)]) X.1.1 X.1.2.1 dX8_bits_8 hl (k := 0) rfl rfl (by decide) rfl (fun ls hl => ?_)
      refine lv_iload_n X.1.1 X.1.2.1 dX8_bits_11 rfl (lv_at hl 1 rfl) ?_
      refine lv_iload_n X.1.1 X.1.2.1 dX8_bits_12 rfl (lv_at hl 1 rfl) ?_
      refine lv_iconst (v := 1) X.1.1 X.1.2.1 dX8_bits_13 (by decide) ?_
      refine lv_isub X.1.1 X.1.2.1 dX8_bits_14 ?_
      refine lv_iand X.1.1 X.1.2.1 dX8_bits_15 ?_
      refine zleti hf (fun x1 hf => ?_)
      refine lv_istore_n (lv' := [(2, .int x1), (1, .int (a1 + (1 : Int32)))]) X.1.1 X.1.2.1 dX8_bits_16 rfl hl (by decide) rfl (fun ls hl => ?_)
      refine lv_goto (tgt := 4) X.1.1 X.1.2.1 dX8_bits_17 (by decide) ?_
      exact ih _ _ _ _ _ hf G (lv_sub hl [1, 0] rfl)
set_option maxHeartbeats 4000000 in
set_option maxRecDepth 100000 in
theorem m_X8_bits (l : Launch) (D : va_G) (dA : Nat → ClassId) (b0 : Nat) (a0 : Int32) (h : zH) (z : Int32) (hf : f_X8_bits a0 h = some z) : Met l yX8_bits wsX8_bits rmX8_bits (zPc D dA b0 [.int a0] h) (zQ D dA b0 (some (.int z)) h) 0 0 (zA b0) := by
  refine Met.ofW (cc := cX8_bits) (maxL := 3) (ret := (some .int)) (by decide) rfl ?_
  intro p e s m args below meth c s₁ B hml hv
  obtain ⟨rfl, hP, hz, hK, hN⟩ := hv
  have hr := B.returns
  have hlk := B.notSynchronized
  have X : zX p s m _ c cX8_bits 3 RX8 wsX8_bits D dA := ⟨⟨B.exec, B.bytes, hml, findClass_of_methodNamed B.named, atoms_spec (ws := wsX8_bits) B.pre⟩, hK, hN⟩
  have G : zG D dA b0 s.heap h s.heap [] := ⟨hP, hz, va_S.rf⟩
  have hl := lv_entry ([.int a0]) (n := 3) (Nat.le_of_ble_eq_true rfl)
  rw [lg_entry_eq]
  generalize (lg_sl ([.int a0]) ++ List.replicate (3 - (lg_sl ([.int a0])).length) Slot.unset).toArray = ls at hl ⊢
  have hl : lv_has ls 3 [(0, .int a0)] := hl
  unfold f_X8_bits at hf
  refine lv_iconst (v := 0) X.1.1 X.1.2.1 dX8_bits_0 (by decide) ?_
  refine lv_istore_n (lv' := [(1, .int (0 : Int32)), (0, .int a0)]) X.1.1 X.1.2.1 dX8_bits_1 rfl hl (by decide) rfl (fun ls hl => ?_)
  refine lv_iload_n X.1.1 X.1.2.1 dX8_bits_2 rfl (lv_at hl 1 rfl) ?_
  refine lv_istore_n (lv' := [(2, .int a0), (1, .int (0 : Int32)), (0, .int a0)]) X.1.1 X.1.2.1 dX8_bits_3 rfl hl (by decide) rfl (fun ls hl => ?_)
  exact w_X8_bits_b4 X hr hlk _ _ _ _ _ _ hf G (lv_sub hl [1, 0] rfl)
/-! X8_lies -/
abbrev rmX8_lies : Room := { frames := 0, cells := 0, slots := 0, locals := 0 }
theorem hdS_X8_lies : yX8_lies.cls ≠ "java/lang/invoke/MethodHandle" ∧ yX8_lies.cls ≠ "java/lang/invoke/VarHandle" ∧ (parseMethodDescriptor yX8_lies.desc).map (fun d => d.parameters.length) = some 2 := by decide +kernel
set_option maxHeartbeats 4000000 in
set_option maxRecDepth 100000 in
theorem m_X8_lies (l : Launch) (D : va_G) (dA : Nat → ClassId) (b0 : Nat) (r0 : Nat) (a1 : Int32) (h : zH) (z : Int32) (hf : f_X8_lies r0 a1 h = some z) : Met l yX8_lies wsX8_lies rmX8_lies (zPc D dA b0 [.ref (b0 + r0), .int a1] h) (zQ D dA b0 (some (.int z)) h) 0 0 (zA b0) := by
  refine Met.ofW (cc := cX8_lies) (maxL := 2) (ret := (some .boolean)) (by decide) rfl ?_
  intro p e s m args below meth c s₁ B hml hv
  obtain ⟨rfl, hP, hz, hK, hN⟩ := hv
  have hr := B.returns
  have hlk := B.notSynchronized
  have X : zX p s m _ c cX8_lies 2 RX8 wsX8_lies D dA := ⟨⟨B.exec, B.bytes, hml, findClass_of_methodNamed B.named, atoms_spec (ws := wsX8_lies) B.pre⟩, hK, hN⟩
  have G : zG D dA b0 s.heap h s.heap [] := ⟨hP, hz, va_S.rf⟩
  have hl := lv_entry ([.ref (b0 + r0), .int a1]) (n := 2) (Nat.le_of_ble_eq_true rfl)
  rw [lg_entry_eq]
  generalize (lg_sl ([.ref (b0 + r0), .int a1]) ++ List.replicate (2 - (lg_sl ([.ref (b0 + r0), .int a1])).length) Slot.unset).toArray = ls at hl ⊢
  have hl : lv_has ls 2 [(0, .ref (b0 + r0)), (1, .int a1)] := hl
  unfold f_X8_lies at hf
  refine lv_aload_n X.1.1 X.1.2.1 dX8_lies_0 rfl (lv_at hl 0 rfl) ?_
  refine lv_bipush (v := 13) X.1.1 X.1.2.1 dX8_lies_1 (by decide) ?_
  refine lv_iload_n X.1.1 X.1.2.1 dX8_lies_3 rfl (lv_at hl 1 rfl) ?_
  refine lv_iadd X.1.1 X.1.2.1 dX8_lies_4 ?_
  refine ziald X G dX8_lies_5 hf (fun v1 hf => ?_)
  refine zif_le (tgt := 13) X dX8_lies_6 (by decide) hf (fun hf => ?_) (fun hf => ?_)
  · refine lv_iconst (v := 0) X.1.1 X.1.2.1 dX8_lies_13 (by decide) ?_
    exact zretZr X hr hlk G hf dX8_lies_14
  · refine lv_iconst (v := 1) X.1.1 X.1.2.1 dX8_lies_9 (by decide) ?_
    refine lv_goto (tgt := 14) X.1.1 X.1.2.1 dX8_lies_10 (by decide) ?_
    exact zretZr X hr hlk G hf dX8_lies_14
/-! X8_rises -/
abbrev rmX8_rises : Room := { frames := 1, cells := 0, slots := 0, locals := 21 }
theorem hdS_X8_rises : yX8_rises.cls ≠ "java/lang/invoke/MethodHandle" ∧ yX8_rises.cls ≠ "java/lang/invoke/VarHandle" ∧ (parseMethodDescriptor yX8_rises.desc).map (fun d => d.parameters.length) = some 2 := by decide +kernel
set_option maxHeartbeats 4000000 in
set_option maxRecDepth 100000 in
theorem w_X8_rises_b177 {p : Program} {l : Launch} {e : Env} {s : State} {m : MethodId} {args : Array Value} {below : List Frame} {meth : Method} {c : Code} {D : va_G} {dA : Nat → ClassId} {b0 : Nat} {h : zH} (X : zX p s m args c cX8_rises 6 RX8 wsX8_rises D dA) (hr : meth.sig.returnType = (some .int)) (hlk : meth.locks = false) {z : Int32} : ∀ (r0 : Nat) (a1 : Int32) (s0 : Int32) (H : Heap) (locs : List Loc) (ls : Array Slot), f_X8_rises_b177 h r0 a1 s0 = some z → zG D dA b0 s.heap h H locs → lv_has ls 6 [(0, .ref (b0 + r0)), (1, .int a1)] → W p l e rmX8_rises s m args below meth c H locs 0 0 (MQ below (zQ D dA b0 (some (.int z)) h) args s 0 0 (zA b0)) (F0 m 177 ls [.int s0]) := by
  intro r0 a1 s0 H locs ls hf G hl
  unfold f_X8_rises_b177 at hf
  refine lv_istore (lv' := [(5, .int s0), (0, .ref (b0 + r0)), (1, .int a1)]) X.1.1 X.1.2.1 dX8_rises_177 hl (by decide) rfl (fun ls hl => ?_)
  refine lv_iload X.1.1 X.1.2.1 dX8_rises_179 (lv_at hl 0 rfl) ?_
  refine lv_aload_n X.1.1 X.1.2.1 dX8_rises_181 rfl (lv_at hl 1 rfl) ?_
  refine lv_bipush (v := 13) X.1.1 X.1.2.1 dX8_rises_182 (by decide) ?_
  refine lv_iload_n X.1.1 X.1.2.1 dX8_rises_184 rfl (lv_at hl 2 rfl) ?_
  refine lv_iadd X.1.1 X.1.2.1 dX8_rises_185 ?_
  refine ziald X G dX8_rises_186 hf (fun v1 hf => ?_)
  refine zic_le (tgt := 199) X dX8_rises_187 (by decide) hf (fun hf => ?_) (fun hf => ?_)
  · refine lv_iload X.1.1 X.1.2.1 dX8_rises_199 (lv_at hl 0 rfl) ?_
    exact zretIr X hr hlk G hf dX8_rises_201
  · refine lv_aload_n X.1.1 X.1.2.1 dX8_rises_190 rfl (lv_at hl 1 rfl) ?_
    refine lv_bipush (v := 13) X.1.1 X.1.2.1 dX8_rises_191 (by decide) ?_
    refine lv_iload_n X.1.1 X.1.2.1 dX8_rises_193 rfl (lv_at hl 2 rfl) ?_
    refine lv_iadd X.1.1 X.1.2.1 dX8_rises_194 ?_
    refine ziald X G dX8_rises_195 hf (fun v2 hf => ?_)
    refine lv_goto (tgt := 201) X.1.1 X.1.2.1 dX8_rises_196 (by decide) ?_
    exact zretIr X hr hlk G hf dX8_rises_201
set_option maxHeartbeats 4000000 in
set_option maxRecDepth 100000 in
theorem w_X8_rises_b107 {p : Program} {l : Launch} {e : Env} {s : State} {m : MethodId} {args : Array Value} {below : List Frame} {meth : Method} {c : Code} {D : va_G} {dA : Nat → ClassId} {b0 : Nat} {h : zH} (X : zX p s m args c cX8_rises 6 RX8 wsX8_rises D dA) (hr : meth.sig.returnType = (some .int)) (hlk : meth.locks = false) {z : Int32} (k42 : Nat → Int32 → Int32 → Int32 → Int32 → Int32 → Option (Int32)) (hk42 : ∀ (r0 : Nat) (a1 : Int32) (a2 : Int32) (a3 : Int32) (a4 : Int32) (a5 : Int32) (H : Heap) (locs : List Loc) (ls : Array Slot), k42 r0 a1 a2 a3 a4 a5 = some z → zG D dA b0 s.heap h H locs → lv_has ls 6 [(0, .ref (b0 + r0)), (1, .int a1), (2, .int a2), (3, .int a3), (4, .int a4), (5, .int a5)] → W p l e rmX8_rises s m args below meth c H locs 0 0 (MQ below (zQ D dA b0 (some (.int z)) h) args s 0 0 (zA b0)) (F0 m 42 ls [])) : ∀ (r0 : Nat) (a1 : Int32) (a2 : Int32) (a3 : Int32) (a5 : Int32) (s0 : Int32) (H : Heap) (locs : List Loc) (ls : Array Slot), f_X8_rises_b107 h k42 r0 a1 a2 a3 a5 s0 = some z → zG D dA b0 s.heap h H locs → lv_has ls 6 [(0, .ref (b0 + r0)), (1, .int a1), (2, .int a2), (3, .int a3), (5, .int a5)] → W p l e rmX8_rises s m args below meth c H locs 0 0 (MQ below (zQ D dA b0 (some (.int z)) h) args s 0 0 (zA b0)) (F0 m 107 ls [.int s0]) := by
  intro r0 a1 a2 a3 a5 s0 H locs ls hf G hl
  unfold f_X8_rises_b107 at hf
  refine lv_istore (lv' := [(4, .int s0), (0, .ref (b0 + r0)), (1, .int a1), (2, .int a2), (3, .int a3), (5, .int a5)]) X.1.1 X.1.2.1 dX8_rises_107 hl (by decide) rfl (fun ls hl => ?_)
  refine lv_iinc (v := (a5 + (1 : Int32))) (lv' := [(5, .int (a5 + (1 : Int32))), (4, .int s0), (0, .ref (b0 + r0)), (1, .int a1), (2, .int a2), (3, .int a3)]) X.1.1 X.1.2.1 dX8_rises_109 hl (k := 5) rfl rfl (by decide) rfl (fun ls hl => ?_)
  refine lv_goto (tgt := 42) X.1.1 X.1.2.1 dX8_rises_112 (by decide) ?_
  exact hk42 _ _ _ _ _ _ _ _ _ hf G (lv_sub hl [2, 3, 4, 5, 1, 0] rfl)
set_option maxHeartbeats 4000000 in
set_option maxRecDepth 100000 in
theorem w_X8_rises_b102 {p : Program} {l : Launch} {e : Env} {s : State} {m : MethodId} {args : Array Value} {below : List Frame} {meth : Method} {c : Code} {D : va_G} {dA : Nat → ClassId} {b0 : Nat} {h : zH} (X : zX p s m args c cX8_rises 6 RX8 wsX8_rises D dA) (hr : meth.sig.returnType = (some .int)) (hlk : meth.locks = false) {z : Int32} (k42 : Nat → Int32 → Int32 → Int32 → Int32 → Int32 → Option (Int32)) (hk42 : ∀ (r0 : Nat) (a1 : Int32) (a2 : Int32) (a3 : Int32) (a4 : Int32) (a5 : Int32) (H : Heap) (locs : List Loc) (ls : Array Slot), k42 r0 a1 a2 a3 a4 a5 = some z → zG D dA b0 s.heap h H locs → lv_has ls 6 [(0, .ref (b0 + r0)), (1, .int a1), (2, .int a2), (3, .int a3), (4, .int a4), (5, .int a5)] → W p l e rmX8_rises s m args below meth c H locs 0 0 (MQ below (zQ D dA b0 (some (.int z)) h) args s 0 0 (zA b0)) (F0 m 42 ls [])) : ∀ (r0 : Nat) (a1 : Int32) (a2 : Int32) (a3 : Int32) (a5 : Int32) (H : Heap) (locs : List Loc) (ls : Array Slot), f_X8_rises_b102 h k42 r0 a1 a2 a3 a5 = some z → zG D dA b0 s.heap h H locs → lv_has ls 6 [(0, .ref (b0 + r0)), (1, .int a1), (2, .int a2), (3, .int a3), (5, .int a5)] → W p l e rmX8_rises s m args below meth c H locs 0 0 (MQ below (zQ D dA b0 (some (.int z)) h) args s 0 0 (zA b0)) (F0 m 102 ls []) := by
  intro r0 a1 a2 a3 a5 H locs ls hf G hl
  unfold f_X8_rises_b102 at hf
  refine lv_iconst (v := 1) X.1.1 X.1.2.1 dX8_rises_102 (by decide) ?_
  refine lv_goto (tgt := 107) X.1.1 X.1.2.1 dX8_rises_103 (by decide) ?_
  exact w_X8_rises_b107 X hr hlk _ hk42 _ _ _ _ _ _ _ _ _ hf G hl
set_option maxHeartbeats 4000000 in
set_option maxRecDepth 100000 in
theorem w_X8_rises_b106 {p : Program} {l : Launch} {e : Env} {s : State} {m : MethodId} {args : Array Value} {below : List Frame} {meth : Method} {c : Code} {D : va_G} {dA : Nat → ClassId} {b0 : Nat} {h : zH} (X : zX p s m args c cX8_rises 6 RX8 wsX8_rises D dA) (hr : meth.sig.returnType = (some .int)) (hlk : meth.locks = false) {z : Int32} (k42 : Nat → Int32 → Int32 → Int32 → Int32 → Int32 → Option (Int32)) (hk42 : ∀ (r0 : Nat) (a1 : Int32) (a2 : Int32) (a3 : Int32) (a4 : Int32) (a5 : Int32) (H : Heap) (locs : List Loc) (ls : Array Slot), k42 r0 a1 a2 a3 a4 a5 = some z → zG D dA b0 s.heap h H locs → lv_has ls 6 [(0, .ref (b0 + r0)), (1, .int a1), (2, .int a2), (3, .int a3), (4, .int a4), (5, .int a5)] → W p l e rmX8_rises s m args below meth c H locs 0 0 (MQ below (zQ D dA b0 (some (.int z)) h) args s 0 0 (zA b0)) (F0 m 42 ls [])) : ∀ (r0 : Nat) (a1 : Int32) (a2 : Int32) (a3 : Int32) (a5 : Int32) (H : Heap) (locs : List Loc) (ls : Array Slot), f_X8_rises_b106 h k42 r0 a1 a2 a3 a5 = some z → zG D dA b0 s.heap h H locs → lv_has ls 6 [(0, .ref (b0 + r0)), (1, .int a1), (2, .int a2), (3, .int a3), (5, .int a5)] → W p l e rmX8_rises s m args below meth c H locs 0 0 (MQ below (zQ D dA b0 (some (.int z)) h) args s 0 0 (zA b0)) (F0 m 106 ls []) := by
  intro r0 a1 a2 a3 a5 H locs ls hf G hl
  unfold f_X8_rises_b106 at hf
  refine lv_iconst (v := 0) X.1.1 X.1.2.1 dX8_rises_106 (by decide) ?_
  exact w_X8_rises_b107 X hr hlk _ hk42 _ _ _ _ _ _ _ _ _ hf G hl
set_option maxHeartbeats 4000000 in
set_option maxRecDepth 100000 in
theorem w_X8_rises_b42 {p : Program} {l : Launch} {e : Env} {s : State} {m : MethodId} {args : Array Value} {below : List Frame} {meth : Method} {c : Code} {D : va_G} {dA : Nat → ClassId} {b0 : Nat} {h : zH} (X : zX p s m args c cX8_rises 6 RX8 wsX8_rises D dA) (hr : meth.sig.returnType = (some .int)) (hlk : meth.locks = false) {z : Int32} : ∀ (n : Nat), ∀ (r0 : Nat) (a1 : Int32) (a2 : Int32) (a3 : Int32) (a4 : Int32) (a5 : Int32) (H : Heap) (locs : List Loc) (ls : Array Slot), f_X8_rises_b42 h n r0 a1 a2 a3 a4 a5 = some z → zG D dA b0 s.heap h H locs → lv_has ls 6 [(0, .ref (b0 + r0)), (1, .int a1), (2, .int a2), (3, .int a3), (4, .int a4), (5, .int a5)] → W p l e rmX8_rises s m args below meth c H locs 0 0 (MQ below (zQ D dA b0 (some (.int z)) h) args s 0 0 (zA b0)) (F0 m 42 ls []) := by
  intro n
  induction n with
  | zero =>
    intro r0 a1 a2 a3 a4 a5 H locs ls hf
    cases hf
  | succ n ih =>
    intro r0 a1 a2 a3 a4 a5 H locs ls hf G hl
    rw [f_X8_rises_b42] at hf
    refine lv_iload X.1.1 X.1.2.1 dX8_rises_42 (lv_at hl 5 rfl) ?_
    refine lv_aload_n X.1.1 X.1.2.1 dX8_rises_44 rfl (lv_at hl 0 rfl) ?_
    refine lv_iconst (v := 0) X.1.1 X.1.2.1 dX8_rises_45 (by decide) ?_
    refine ziald X G dX8_rises_46 hf (fun v1 hf => ?_)
    refine zic_ge (tgt := 115) X dX8_rises_47 (by decide) hf (fun hf => ?_) (fun hf => ?_)
    · refine lv_iload_n X.1.1 X.1.2.1 dX8_rises_115 rfl (lv_at hl 2 rfl) ?_
      refine lv_iconst (v := 1) X.1.1 X.1.2.1 dX8_rises_116 (by decide) ?_
      refine zic_ne (tgt := 124) X dX8_rises_117 (by decide) hf (fun hf => ?_) (fun hf => ?_)
      · refine lv_iload_n X.1.1 X.1.2.1 dX8_rises_124 rfl (lv_at hl 2 rfl) ?_
        refine lv_iconst (v := 2) X.1.1 X.1.2.1 dX8_rises_125 (by decide) ?_
        refine zic_ne (tgt := 142) X dX8_rises_126 (by decide) hf (fun hf => ?_) (fun hf => ?_)
        · refine lv_iload_n X.1.1 X.1.2.1 dX8_rises_142 rfl (lv_at hl 2 rfl) ?_
          refine lv_iconst (v := 3) X.1.1 X.1.2.1 dX8_rises_143 (by decide) ?_
          refine zic_ne (tgt := 153) X dX8_rises_144 (by decide) hf (fun hf => ?_) (fun hf => ?_)
          · refine lv_iload_n X.1.1 X.1.2.1 dX8_rises_153 rfl (lv_at hl 2 rfl) ?_
            refine lv_iconst (v := 4) X.1.1 X.1.2.1 dX8_rises_154 (by decide) ?_
            refine zic_ne (tgt := 162) X dX8_rises_155 (by decide) hf (fun hf => ?_) (fun hf => ?_)
            · refine lv_aload_n X.1.1 X.1.2.1 dX8_rises_162 rfl (lv_at hl 0 rfl) ?_
              refine lv_bipush (v := 28) X.1.1 X.1.2.1 dX8_rises_163 (by decide) ?_
              refine ziald X G dX8_rises_165 hf (fun v2 hf => ?_)
              refine lv_iconst (v := 5) X.1.1 X.1.2.1 dX8_rises_166 (by decide) ?_
              refine zirem X dX8_rises_167 hf (fun hf => ?_)
              refine lv_iconst (v := 4) X.1.1 X.1.2.1 dX8_rises_168 (by decide) ?_
              refine zic_ne (tgt := 176) X dX8_rises_169 (by decide) hf (fun hf => ?_) (fun hf => ?_)
              · refine lv_iconst (v := 0) X.1.1 X.1.2.1 dX8_rises_176 (by decide) ?_
                exact w_X8_rises_b177 X hr hlk _ _ _ _ _ _ hf G (lv_sub hl [0, 1] rfl)
              · refine lv_iconst (v := 1) X.1.1 X.1.2.1 dX8_rises_172 (by decide) ?_
                refine lv_goto (tgt := 177) X.1.1 X.1.2.1 dX8_rises_173 (by decide) ?_
                exact w_X8_rises_b177 X hr hlk _ _ _ _ _ _ hf G (lv_sub hl [0, 1] rfl)
            · refine lv_iconst (v := 0) X.1.1 X.1.2.1 dX8_rises_158 (by decide) ?_
              refine lv_goto (tgt := 177) X.1.1 X.1.2.1 dX8_rises_159 (by decide) ?_
              exact w_X8_rises_b177 X hr hlk _ _ _ _ _ _ hf G (lv_sub hl [0, 1] rfl)
          · refine lv_iconst (v := 2) X.1.1 X.1.2.1 dX8_rises_147 (by decide) ?_
            refine lv_iload_n X.1.1 X.1.2.1 dX8_rises_148 rfl (lv_at hl 3 rfl) ?_
            refine lv_imul X.1.1 X.1.2.1 dX8_rises_149 ?_
            refine lv_goto (tgt := 177) X.1.1 X.1.2.1 dX8_rises_150 (by decide) ?_
            exact w_X8_rises_b177 X hr hlk _ _ _ _ _ _ hf G (lv_sub hl [0, 1] rfl)
        · refine lv_iload X.1.1 X.1.2.1 dX8_rises_129 (lv_at hl 4 rfl) ?_
          refine zif_eq (tgt := 138) X dX8_rises_131 (by decide) hf (fun hf => ?_) (fun hf => ?_)
          · refine lv_iload_n X.1.1 X.1.2.1 dX8_rises_138 rfl (lv_at hl 3 rfl) ?_
            refine lv_goto (tgt := 177) X.1.1 X.1.2.1 dX8_rises_139 (by decide) ?_
            exact w_X8_rises_b177 X hr hlk _ _ _ _ _ _ hf G (lv_sub hl [0, 1] rfl)
          · refine lv_iconst (v := 0) X.1.1 X.1.2.1 dX8_rises_134 (by decide) ?_
            refine lv_goto (tgt := 177) X.1.1 X.1.2.1 dX8_rises_135 (by decide) ?_
            exact w_X8_rises_b177 X hr hlk _ _ _ _ _ _ hf G (lv_sub hl [0, 1] rfl)
      · refine lv_iload_n X.1.1 X.1.2.1 dX8_rises_120 rfl (lv_at hl 3 rfl) ?_
        refine lv_goto (tgt := 177) X.1.1 X.1.2.1 dX8_rises_121 (by decide) ?_
        exact w_X8_rises_b177 X hr hlk _ _ _ _ _ _ hf G (lv_sub hl [0, 1] rfl)
    · refine lv_iload X.1.1 X.1.2.1 dX8_rises_50 (lv_at hl 4 rfl) ?_
      refine zif_ne (tgt := 102) X dX8_rises_52 (by decide) hf (fun hf => ?_) (fun hf => ?_)
      · exact w_X8_rises_b102 X hr hlk _ ih _ _ _ _ _ _ _ _ hf G (lv_sub hl [0, 1, 2, 3, 5] rfl)
      · refine lv_iload X.1.1 X.1.2.1 dX8_rises_55 (lv_at hl 5 rfl) ?_
        refine lv_iload_n X.1.1 X.1.2.1 dX8_rises_57 rfl (lv_at hl 1 rfl) ?_
        refine zic_eq (tgt := 106) X dX8_rises_58 (by decide) hf (fun hf => ?_) (fun hf => ?_)
        · exact w_X8_rises_b106 X hr hlk _ ih _ _ _ _ _ _ _ _ hf G (lv_sub hl [0, 1, 2, 3, 5] rfl)
        · refine lv_aload_n X.1.1 X.1.2.1 dX8_rises_61 rfl (lv_at hl 0 rfl) ?_
          refine lv_iload X.1.1 X.1.2.1 dX8_rises_62 (lv_at hl 5 rfl) ?_
          obtain ⟨q3, eq3, hf⟩ := Option.bind_eq_some_iff.mp hf
          refine zcS0 (As := [.ref (b0 + r0), .int a5]) (rest := []) (v := (some (.int q3))) (h' := h) X G (m_X8_lies l D dA b0 r0 a5 h q3 eq3) (va_cwS 2 X.1.2.2.2.2 gX8_rises_X8_lies rfl rfl rfl hdS_X8_lies ⟨(Nat.le_of_ble_eq_true rfl), (Nat.le_of_ble_eq_true rfl)⟩) rfl hl.1 rfl (Nat.le_of_ble_eq_true rfl) dX8_rises_64 ⟨Nat.zero_le _, Nat.zero_le _⟩ (fun H locs G => ?_)
          refine zif_eq (tgt := 106) X dX8_rises_67 (by decide) hf (fun hf => ?_) (fun hf => ?_)
          · exact w_X8_rises_b106 X hr hlk _ ih _ _ _ _ _ _ _ _ hf G (lv_sub hl [0, 1, 2, 3, 5] rfl)
          · refine lv_aload_n X.1.1 X.1.2.1 dX8_rises_70 rfl (lv_at hl 0 rfl) ?_
            refine lv_bipush (v := 18) X.1.1 X.1.2.1 dX8_rises_71 (by decide) ?_
            refine lv_iload X.1.1 X.1.2.1 dX8_rises_73 (lv_at hl 5 rfl) ?_
            refine lv_iadd X.1.1 X.1.2.1 dX8_rises_75 ?_
            refine ziald X G dX8_rises_76 hf (fun v4 hf => ?_)
            refine lv_aload_n X.1.1 X.1.2.1 dX8_rises_77 rfl (lv_at hl 0 rfl) ?_
            refine lv_bipush (v := 18) X.1.1 X.1.2.1 dX8_rises_78 (by decide) ?_
            refine lv_iload_n X.1.1 X.1.2.1 dX8_rises_80 rfl (lv_at hl 1 rfl) ?_
            refine lv_iadd X.1.1 X.1.2.1 dX8_rises_81 ?_
            refine ziald X G dX8_rises_82 hf (fun v5 hf => ?_)
            refine zic_ne (tgt := 106) X dX8_rises_83 (by decide) hf (fun hf => ?_) (fun hf => ?_)
            · exact w_X8_rises_b106 X hr hlk _ ih _ _ _ _ _ _ _ _ hf G (lv_sub hl [0, 1, 2, 3, 5] rfl)
            · refine lv_aload_n X.1.1 X.1.2.1 dX8_rises_86 rfl (lv_at hl 0 rfl) ?_
              refine lv_bipush (v := 13) X.1.1 X.1.2.1 dX8_rises_87 (by decide) ?_
              refine lv_iload X.1.1 X.1.2.1 dX8_rises_89 (lv_at hl 5 rfl) ?_
              refine lv_iadd X.1.1 X.1.2.1 dX8_rises_91 ?_
              refine ziald X G dX8_rises_92 hf (fun v6 hf => ?_)
              refine lv_aload_n X.1.1 X.1.2.1 dX8_rises_93 rfl (lv_at hl 0 rfl) ?_
              refine lv_bipush (v := 13) X.1.1 X.1.2.1 dX8_rises_94 (by decide) ?_
              refine lv_iload_n X.1.1 X.1.2.1 dX8_rises_96 rfl (lv_at hl 1 rfl) ?_
              refine lv_iadd X.1.1 X.1.2.1 dX8_rises_97 ?_
              refine ziald X G dX8_rises_98 hf (fun v7 hf => ?_)
              refine zic_ge (tgt := 106) X dX8_rises_99 (by decide) hf (fun hf => ?_) (fun hf => ?_)
              · exact w_X8_rises_b106 X hr hlk _ ih _ _ _ _ _ _ _ _ hf G (lv_sub hl [0, 1, 2, 3, 5] rfl)
              · exact w_X8_rises_b102 X hr hlk _ ih _ _ _ _ _ _ _ _ hf G (lv_sub hl [0, 1, 2, 3, 5] rfl)
set_option maxHeartbeats 4000000 in
set_option maxRecDepth 100000 in
theorem w_X8_rises_b35 {p : Program} {l : Launch} {e : Env} {s : State} {m : MethodId} {args : Array Value} {below : List Frame} {meth : Method} {c : Code} {D : va_G} {dA : Nat → ClassId} {b0 : Nat} {h : zH} (X : zX p s m args c cX8_rises 6 RX8 wsX8_rises D dA) (hr : meth.sig.returnType = (some .int)) (hlk : meth.locks = false) {z : Int32} : ∀ (r0 : Nat) (a1 : Int32) (a2 : Int32) (s0 : Int32) (H : Heap) (locs : List Loc) (ls : Array Slot), f_X8_rises_b35 h r0 a1 a2 s0 = some z → zG D dA b0 s.heap h H locs → lv_has ls 6 [(0, .ref (b0 + r0)), (1, .int a1), (2, .int a2)] → W p l e rmX8_rises s m args below meth c H locs 0 0 (MQ below (zQ D dA b0 (some (.int z)) h) args s 0 0 (zA b0)) (F0 m 35 ls [.int s0]) := by
  intro r0 a1 a2 s0 H locs ls hf G hl
  unfold f_X8_rises_b35 at hf
  refine lv_istore_n (lv' := [(3, .int s0), (0, .ref (b0 + r0)), (1, .int a1), (2, .int a2)]) X.1.1 X.1.2.1 dX8_rises_35 rfl hl (by decide) rfl (fun ls hl => ?_)
  refine lv_iconst (v := 0) X.1.1 X.1.2.1 dX8_rises_36 (by decide) ?_
  refine lv_istore (lv' := [(4, .int (0 : Int32)), (3, .int s0), (0, .ref (b0 + r0)), (1, .int a1), (2, .int a2)]) X.1.1 X.1.2.1 dX8_rises_37 hl (by decide) rfl (fun ls hl => ?_)
  refine lv_iconst (v := 0) X.1.1 X.1.2.1 dX8_rises_39 (by decide) ?_
  refine lv_istore (lv' := [(5, .int (0 : Int32)), (4, .int (0 : Int32)), (3, .int s0), (0, .ref (b0 + r0)), (1, .int a1), (2, .int a2)]) X.1.1 X.1.2.1 dX8_rises_40 hl (by decide) rfl (fun ls hl => ?_)
  exact w_X8_rises_b42 X hr hlk _ _ _ _ _ _ _ _ _ _ hf G (lv_sub hl [3, 4, 5, 2, 1, 0] rfl)
set_option maxHeartbeats 4000000 in
set_option maxRecDepth 100000 in
theorem m_X8_rises (l : Launch) (D : va_G) (dA : Nat → ClassId) (b0 : Nat) (r0 : Nat) (a1 : Int32) (h : zH) (z : Int32) (hf : f_X8_rises r0 a1 h = some z) : Met l yX8_rises wsX8_rises rmX8_rises (zPc D dA b0 [.ref (b0 + r0), .int a1] h) (zQ D dA b0 (some (.int z)) h) 0 0 (zA b0) := by
  refine Met.ofW (cc := cX8_rises) (maxL := 6) (ret := (some .int)) (by decide) rfl ?_
  intro p e s m args below meth c s₁ B hml hv
  obtain ⟨rfl, hP, hz, hK, hN⟩ := hv
  have hr := B.returns
  have hlk := B.notSynchronized
  have X : zX p s m _ c cX8_rises 6 RX8 wsX8_rises D dA := ⟨⟨B.exec, B.bytes, hml, findClass_of_methodNamed B.named, atoms_spec (ws := wsX8_rises) B.pre⟩, hK, hN⟩
  have G : zG D dA b0 s.heap h s.heap [] := ⟨hP, hz, va_S.rf⟩
  have hl := lv_entry ([.ref (b0 + r0), .int a1]) (n := 6) (Nat.le_of_ble_eq_true rfl)
  rw [lg_entry_eq]
  generalize (lg_sl ([.ref (b0 + r0), .int a1]) ++ List.replicate (6 - (lg_sl ([.ref (b0 + r0), .int a1])).length) Slot.unset).toArray = ls at hl ⊢
  have hl : lv_has ls 6 [(0, .ref (b0 + r0)), (1, .int a1)] := hl
  unfold f_X8_rises at hf
  refine lv_aload_n X.1.1 X.1.2.1 dX8_rises_0 rfl (lv_at hl 0 rfl) ?_
  refine lv_iload_n X.1.1 X.1.2.1 dX8_rises_1 rfl (lv_at hl 1 rfl) ?_
  obtain ⟨q1, eq1, hf⟩ := Option.bind_eq_some_iff.mp hf
  refine zcS0 (As := [.ref (b0 + r0), .int a1]) (rest := []) (v := (some (.int q1))) (h' := h) X G (m_X8_lies l D dA b0 r0 a1 h q1 eq1) (va_cwS 2 X.1.2.2.2.2 gX8_rises_X8_lies rfl rfl rfl hdS_X8_lies ⟨(Nat.le_of_ble_eq_true rfl), (Nat.le_of_ble_eq_true rfl)⟩) rfl hl.1 rfl (Nat.le_of_ble_eq_true rfl) dX8_rises_2 ⟨Nat.zero_le _, Nat.zero_le _⟩ (fun H locs G => ?_)
  refine zif_ne (tgt := 10) X dX8_rises_5 (by decide) hf (fun hf => ?_) (fun hf => ?_)
  · refine lv_aload_n X.1.1 X.1.2.1 dX8_rises_10 rfl (lv_at hl 0 rfl) ?_
    refine lv_iconst (v := 3) X.1.1 X.1.2.1 dX8_rises_11 (by decide) ?_
    refine lv_iload_n X.1.1 X.1.2.1 dX8_rises_12 rfl (lv_at hl 1 rfl) ?_
    refine lv_iadd X.1.1 X.1.2.1 dX8_rises_13 ?_
    refine ziald X G dX8_rises_14 hf (fun v2 hf => ?_)
    refine lv_istore_n (lv' := [(2, .int v2), (0, .ref (b0 + r0)), (1, .int a1)]) X.1.1 X.1.2.1 dX8_rises_15 rfl hl (by decide) rfl (fun ls hl => ?_)
    refine lv_aload_n X.1.1 X.1.2.1 dX8_rises_16 rfl (lv_at hl 1 rfl) ?_
    refine lv_bipush (v := 28) X.1.1 X.1.2.1 dX8_rises_17 (by decide) ?_
    refine ziald X G dX8_rises_19 hf (fun v3 hf => ?_)
    refine lv_aload_n X.1.1 X.1.2.1 dX8_rises_20 rfl (lv_at hl 1 rfl) ?_
    refine lv_bipush (v := 8) X.1.1 X.1.2.1 dX8_rises_21 (by decide) ?_
    refine lv_iload_n X.1.1 X.1.2.1 dX8_rises_23 rfl (lv_at hl 2 rfl) ?_
    refine lv_iadd X.1.1 X.1.2.1 dX8_rises_24 ?_
    refine ziald X G dX8_rises_25 hf (fun v4 hf => ?_)
    refine zirem X dX8_rises_26 hf (fun hf => ?_)
    refine zif_ne (tgt := 34) X dX8_rises_27 (by decide) hf (fun hf => ?_) (fun hf => ?_)
    · refine lv_iconst (v := 0) X.1.1 X.1.2.1 dX8_rises_34 (by decide) ?_
      exact w_X8_rises_b35 X hr hlk _ _ _ _ _ _ _ hf G (lv_sub hl [1, 2, 0] rfl)
    · refine lv_iconst (v := 1) X.1.1 X.1.2.1 dX8_rises_30 (by decide) ?_
      refine lv_goto (tgt := 35) X.1.1 X.1.2.1 dX8_rises_31 (by decide) ?_
      exact w_X8_rises_b35 X hr hlk _ _ _ _ _ _ _ hf G (lv_sub hl [1, 2, 0] rfl)
  · refine lv_iconst (v := 0) X.1.1 X.1.2.1 dX8_rises_8 (by decide) ?_
    exact zretIr X hr hlk G hf dX8_rises_9
/-! X8_yearGoes -/
abbrev rmX8_yearGoes : Room := { frames := 2, cells := 0, slots := 0, locals := 46 }
theorem hdV_X8_yearGoes : yX8_yearGoes.cls = RX8 ∧ yX8_yearGoes.cls ≠ "java/lang/invoke/MethodHandle" ∧ yX8_yearGoes.cls ≠ "java/lang/invoke/VarHandle" ∧ (parseMethodDescriptor yX8_yearGoes.desc).map (fun d => d.parameters.length) = some 1 := by decide +kernel
theorem inX8_yearGoes_X8 : ∀ w ∈ wsX80, w ∈ wsX8_yearGoes := by decide +kernel
theorem flX8_yearGoes_44 : Cond.fieldLink RX8 44 (TX8 21).1 (TX8 21).2.1 (TX8 21).2.2.1 ∈ wsX8_yearGoes := by decide +kernel
set_option maxHeartbeats 4000000 in
set_option maxRecDepth 100000 in
theorem w_X8_yearGoes_b28 {p : Program} {l : Launch} {e : Env} {s : State} {m : MethodId} {args : Array Value} {below : List Frame} {meth : Method} {c : Code} {D : va_G} {dA : Nat → ClassId} {b0 : Nat} (X : zX p s m args c cX8_yearGoes 3 RX8 wsX8_yearGoes D dA) (hr : meth.sig.returnType = none) (hlk : meth.locks = false) {z : zH} : ∀ (n : Nat), ∀ (r0 : Nat) (r1 : Nat) (a2 : Int32) (h : zH) (H : Heap) (locs : List Loc) (ls : Array Slot), f_X8_yearGoes_b28 n r0 r1 a2 h = some z → zG D dA b0 s.heap h H locs → lv_has ls 3 [(0, .ref (b0 + r0)), (1, .ref (b0 + r1)), (2, .int a2)] → W p l e rmX8_yearGoes s m args below meth c H locs 0 0 (MQ below (zQ D dA b0 none z) args s 0 0 (zA b0)) (F0 m 28 ls []) := by
  intro n
  induction n with
  | zero =>
    intro r0 r1 a2 h H locs ls hf
    cases hf
  | succ n ih =>
    intro r0 r1 a2 h H locs ls hf G hl
    rw [f_X8_yearGoes_b28] at hf
    refine lv_iload_n X.1.1 X.1.2.1 dX8_yearGoes_28 rfl (lv_at hl 2 rfl) ?_
    refine lv_aload_n X.1.1 X.1.2.1 dX8_yearGoes_29 rfl (lv_at hl 1 rfl) ?_
    refine lv_iconst (v := 0) X.1.1 X.1.2.1 dX8_yearGoes_30 (by decide) ?_
    refine ziald X G dX8_yearGoes_31 hf (fun v1 hf => ?_)
    refine zic_ge (tgt := 56) X dX8_yearGoes_32 (by decide) hf (fun hf => ?_) (fun hf => ?_)
    · refine lv_aload_n X.1.1 X.1.2.1 dX8_yearGoes_56 rfl (lv_at hl 1 rfl) ?_
      refine lv_bipush (v := 28) X.1.1 X.1.2.1 dX8_yearGoes_57 (by decide) ?_
      refine lv_dup2_11 X.1.1 X.1.2.1 dX8_yearGoes_59 rfl rfl ?_
      refine ziald X G dX8_yearGoes_60 hf (fun v2 hf => ?_)
      refine lv_iconst (v := 1) X.1.1 X.1.2.1 dX8_yearGoes_61 (by decide) ?_
      refine lv_iadd X.1.1 X.1.2.1 dX8_yearGoes_62 ?_
      refine ziast X G dX8_yearGoes_63 hf (fun h3 H locs hf G => ?_)
      exact zretV X hr hlk G hf dX8_yearGoes_64
    · refine lv_aload_n X.1.1 X.1.2.1 dX8_yearGoes_35 rfl (lv_at hl 1 rfl) ?_
      refine lv_bipush (v := 13) X.1.1 X.1.2.1 dX8_yearGoes_36 (by decide) ?_
      refine lv_iload_n X.1.1 X.1.2.1 dX8_yearGoes_38 rfl (lv_at hl 2 rfl) ?_
      refine lv_iadd X.1.1 X.1.2.1 dX8_yearGoes_39 ?_
      refine lv_dup2_11 X.1.1 X.1.2.1 dX8_yearGoes_40 rfl rfl ?_
      refine ziald X G dX8_yearGoes_41 hf (fun v4 hf => ?_)
      refine lv_aload_n X.1.1 X.1.2.1 dX8_yearGoes_42 rfl (lv_at hl 0 rfl) ?_
      refine zgetR (ci := 8) (k := 21) (C := RX8) (T := TX8) (N := 24) X G rfl inX8_yearGoes_X8 (Nat.le_of_ble_eq_true rfl) flX8_yearGoes_44 dX8_yearGoes_43 hf (fun v5 hf => ?_)
      refine lv_iload_n X.1.1 X.1.2.1 dX8_yearGoes_46 rfl (lv_at hl 2 rfl) ?_
      refine ziald X G dX8_yearGoes_47 hf (fun v6 hf => ?_)
      refine lv_isub X.1.1 X.1.2.1 dX8_yearGoes_48 ?_
      refine ziast X G dX8_yearGoes_49 hf (fun h7 H locs hf G => ?_)
      refine lv_iinc (v := (a2 + (1 : Int32))) (lv' := [(2, .int (a2 + (1 : Int32))), (0, .ref (b0 + r0)), (1, .ref (b0 + r1))]) X.1.1 X.1.2.1 dX8_yearGoes_50 hl (k := 2) rfl rfl (by decide) rfl (fun ls hl => ?_)
      refine lv_goto (tgt := 28) X.1.1 X.1.2.1 dX8_yearGoes_53 (by decide) ?_
      exact ih _ _ _ _ _ _ _ hf G (lv_sub hl [1, 2, 0] rfl)
set_option maxHeartbeats 4000000 in
set_option maxRecDepth 100000 in
theorem w_X8_yearGoes_b2 {p : Program} {l : Launch} {e : Env} {s : State} {m : MethodId} {args : Array Value} {below : List Frame} {meth : Method} {c : Code} {D : va_G} {dA : Nat → ClassId} {b0 : Nat} (X : zX p s m args c cX8_yearGoes 3 RX8 wsX8_yearGoes D dA) (hr : meth.sig.returnType = none) (hlk : meth.locks = false) {z : zH} : ∀ (n : Nat), ∀ (r0 : Nat) (r1 : Nat) (a2 : Int32) (h : zH) (H : Heap) (locs : List Loc) (ls : Array Slot), f_X8_yearGoes_b2 n r0 r1 a2 h = some z → zG D dA b0 s.heap h H locs → lv_has ls 3 [(0, .ref (b0 + r0)), (1, .ref (b0 + r1)), (2, .int a2)] → W p l e rmX8_yearGoes s m args below meth c H locs 0 0 (MQ below (zQ D dA b0 none z) args s 0 0 (zA b0)) (F0 m 2 ls []) := by
  intro n
  induction n with
  | zero =>
    intro r0 r1 a2 h H locs ls hf
    cases hf
  | succ n ih =>
    intro r0 r1 a2 h H locs ls hf G hl
    rw [f_X8_yearGoes_b2] at hf
    refine lv_iload_n X.1.1 X.1.2.1 dX8_yearGoes_2 rfl (lv_at hl 2 rfl) ?_
    refine lv_aload_n X.1.1 X.1.2.1 dX8_yearGoes_3 rfl (lv_at hl 1 rfl) ?_
    refine lv_iconst (v := 0) X.1.1 X.1.2.1 dX8_yearGoes_4 (by decide) ?_
    refine ziald X G dX8_yearGoes_5 hf (fun v1 hf => ?_)
    refine zic_ge (tgt := 26) X dX8_yearGoes_6 (by decide) hf (fun hf => ?_) (fun hf => ?_)
    · refine lv_iconst (v := 0) X.1.1 X.1.2.1 dX8_yearGoes_26 (by decide) ?_
      refine lv_istore_n (lv' := [(2, .int (0 : Int32)), (0, .ref (b0 + r0)), (1, .ref (b0 + r1))]) X.1.1 X.1.2.1 dX8_yearGoes_27 rfl hl (by decide) rfl (fun ls hl => ?_)
      exact w_X8_yearGoes_b28 X hr hlk _ _ _ _ _ _ _ _ hf G (lv_sub hl [1, 2, 0] rfl)
    · refine lv_aload_n X.1.1 X.1.2.1 dX8_yearGoes_9 rfl (lv_at hl 0 rfl) ?_
      refine zgetR (ci := 8) (k := 21) (C := RX8) (T := TX8) (N := 24) X G rfl inX8_yearGoes_X8 (Nat.le_of_ble_eq_true rfl) flX8_yearGoes_44 dX8_yearGoes_10 hf (fun v2 hf => ?_)
      refine lv_iload_n X.1.1 X.1.2.1 dX8_yearGoes_13 rfl (lv_at hl 2 rfl) ?_
      refine lv_aload_n X.1.1 X.1.2.1 dX8_yearGoes_14 rfl (lv_at hl 1 rfl) ?_
      refine lv_iload_n X.1.1 X.1.2.1 dX8_yearGoes_15 rfl (lv_at hl 2 rfl) ?_
      obtain ⟨q3, eq3, hf⟩ := Option.bind_eq_some_iff.mp hf
      refine zcS0 (As := [.ref (b0 + r1), .int a2]) (rest := [.int a2, .ref (b0 + v2)]) (v := (some (.int q3))) (h' := h) X G (m_X8_rises l D dA b0 r1 a2 h q3 eq3) (va_cwS 2 X.1.2.2.2.2 gX8_yearGoes_X8_rises rfl rfl rfl hdS_X8_rises ⟨(Nat.le_of_ble_eq_true rfl), (Nat.le_of_ble_eq_true rfl)⟩) rfl hl.1 rfl (Nat.le_of_ble_eq_true rfl) dX8_yearGoes_16 ⟨Nat.zero_le _, Nat.zero_le _⟩ (fun H locs G => ?_)
      refine ziast X G dX8_yearGoes_19 hf (fun h4 H locs hf G => ?_)
      refine lv_iinc (v := (a2 + (1 : Int32))) (lv' := [(2, .int (a2 + (1 : Int32))), (0, .ref (b0 + r0)), (1, .ref (b0 + r1))]) X.1.1 X.1.2.1 dX8_yearGoes_20 hl (k := 2) rfl rfl (by decide) rfl (fun ls hl => ?_)
      refine lv_goto (tgt := 2) X.1.1 X.1.2.1 dX8_yearGoes_23 (by decide) ?_
      exact ih _ _ _ _ _ _ _ hf G (lv_sub hl [1, 2, 0] rfl)
set_option maxHeartbeats 4000000 in
set_option maxRecDepth 100000 in
theorem m_X8_yearGoes (l : Launch) (D : va_G) (dA : Nat → ClassId) (b0 : Nat) (r0 : Nat) (r1 : Nat) (h : zH) (z : zH) (hf : f_X8_yearGoes r0 r1 h = some z) : Met l yX8_yearGoes wsX8_yearGoes rmX8_yearGoes (zPc D dA b0 [.ref (b0 + r0), .ref (b0 + r1)] h) (zQ D dA b0 none z) 0 0 (zA b0) := by
  refine Met.ofW (cc := cX8_yearGoes) (maxL := 3) (ret := none) (by decide) rfl ?_
  intro p e s m args below meth c s₁ B hml hv
  obtain ⟨rfl, hP, hz, hK, hN⟩ := hv
  have hr := B.returns
  have hlk := B.notSynchronized
  have X : zX p s m _ c cX8_yearGoes 3 RX8 wsX8_yearGoes D dA := ⟨⟨B.exec, B.bytes, hml, findClass_of_methodNamed B.named, atoms_spec (ws := wsX8_yearGoes) B.pre⟩, hK, hN⟩
  have G : zG D dA b0 s.heap h s.heap [] := ⟨hP, hz, va_S.rf⟩
  have hl := lv_entry ([.ref (b0 + r0), .ref (b0 + r1)]) (n := 3) (Nat.le_of_ble_eq_true rfl)
  rw [lg_entry_eq]
  generalize (lg_sl ([.ref (b0 + r0), .ref (b0 + r1)]) ++ List.replicate (3 - (lg_sl ([.ref (b0 + r0), .ref (b0 + r1)])).length) Slot.unset).toArray = ls at hl ⊢
  have hl : lv_has ls 3 [(0, .ref (b0 + r0)), (1, .ref (b0 + r1))] := hl
  unfold f_X8_yearGoes at hf
  refine lv_iconst (v := 0) X.1.1 X.1.2.1 dX8_yearGoes_0 (by decide) ?_
  refine lv_istore_n (lv' := [(2, .int (0 : Int32)), (0, .ref (b0 + r0)), (1, .ref (b0 + r1))]) X.1.1 X.1.2.1 dX8_yearGoes_1 rfl hl (by decide) rfl (fun ls hl => ?_)
  exact w_X8_yearGoes_b2 X hr hlk _ _ _ _ _ _ _ _ hf G (lv_sub hl [1, 2, 0] rfl)
/-! X8_upOf -/
abbrev rmX8_upOf : Room := { frames := 1, cells := 0, slots := 0, locals := 21 }
theorem hdS_X8_upOf : yX8_upOf.cls ≠ "java/lang/invoke/MethodHandle" ∧ yX8_upOf.cls ≠ "java/lang/invoke/VarHandle" ∧ (parseMethodDescriptor yX8_upOf.desc).map (fun d => d.parameters.length) = some 1 := by decide +kernel
set_option maxHeartbeats 4000000 in
set_option maxRecDepth 100000 in
theorem w_X8_upOf_b27 {p : Program} {l : Launch} {e : Env} {s : State} {m : MethodId} {args : Array Value} {below : List Frame} {meth : Method} {c : Code} {D : va_G} {dA : Nat → ClassId} {b0 : Nat} {h : zH} (X : zX p s m args c cX8_upOf 3 RX8 wsX8_upOf D dA) (hr : meth.sig.returnType = (some .int)) (hlk : meth.locks = false) {z : Int32} (k4 : Nat → Int32 → Int32 → Option (Int32)) (hk4 : ∀ (r0 : Nat) (a1 : Int32) (a2 : Int32) (H : Heap) (locs : List Loc) (ls : Array Slot), k4 r0 a1 a2 = some z → zG D dA b0 s.heap h H locs → lv_has ls 3 [(0, .ref (b0 + r0)), (1, .int a1), (2, .int a2)] → W p l e rmX8_upOf s m args below meth c H locs 0 0 (MQ below (zQ D dA b0 (some (.int z)) h) args s 0 0 (zA b0)) (F0 m 4 ls [])) : ∀ (r0 : Nat) (a2 : Int32) (s0 : Int32) (s1 : Int32) (H : Heap) (locs : List Loc) (ls : Array Slot), f_X8_upOf_b27 h k4 r0 a2 s0 s1 = some z → zG D dA b0 s.heap h H locs → lv_has ls 3 [(0, .ref (b0 + r0)), (2, .int a2)] → W p l e rmX8_upOf s m args below meth c H locs 0 0 (MQ below (zQ D dA b0 (some (.int z)) h) args s 0 0 (zA b0)) (F0 m 27 ls [.int s1, .int s0]) := by
  intro r0 a2 s0 s1 H locs ls hf G hl
  unfold f_X8_upOf_b27 at hf
  refine lv_ior X.1.1 X.1.2.1 dX8_upOf_27 ?_
  refine zleti hf (fun x1 hf => ?_)
  refine lv_istore_n (lv' := [(1, .int x1), (0, .ref (b0 + r0)), (2, .int a2)]) X.1.1 X.1.2.1 dX8_upOf_28 rfl hl (by decide) rfl (fun ls hl => ?_)
  refine lv_iinc (v := (a2 + (1 : Int32))) (lv' := [(2, .int (a2 + (1 : Int32))), (1, .int x1), (0, .ref (b0 + r0))]) X.1.1 X.1.2.1 dX8_upOf_29 hl (k := 2) rfl rfl (by decide) rfl (fun ls hl => ?_)
  refine lv_goto (tgt := 4) X.1.1 X.1.2.1 dX8_upOf_32 (by decide) ?_
  exact hk4 _ _ _ _ _ _ hf G (lv_sub hl [2, 1, 0] rfl)
set_option maxHeartbeats 4000000 in
set_option maxRecDepth 100000 in
theorem w_X8_upOf_b4 {p : Program} {l : Launch} {e : Env} {s : State} {m : MethodId} {args : Array Value} {below : List Frame} {meth : Method} {c : Code} {D : va_G} {dA : Nat → ClassId} {b0 : Nat} {h : zH} (X : zX p s m args c cX8_upOf 3 RX8 wsX8_upOf D dA) (hr : meth.sig.returnType = (some .int)) (hlk : meth.locks = false) {z : Int32} : ∀ (n : Nat), ∀ (r0 : Nat) (a1 : Int32) (a2 : Int32) (H : Heap) (locs : List Loc) (ls : Array Slot), f_X8_upOf_b4 h n r0 a1 a2 = some z → zG D dA b0 s.heap h H locs → lv_has ls 3 [(0, .ref (b0 + r0)), (1, .int a1), (2, .int a2)] → W p l e rmX8_upOf s m args below meth c H locs 0 0 (MQ below (zQ D dA b0 (some (.int z)) h) args s 0 0 (zA b0)) (F0 m 4 ls []) := by
  intro n
  induction n with
  | zero =>
    intro r0 a1 a2 H locs ls hf
    cases hf
  | succ n ih =>
    intro r0 a1 a2 H locs ls hf G hl
    rw [f_X8_upOf_b4] at hf
    refine lv_iload_n X.1.1 X.1.2.1 dX8_upOf_4 rfl (lv_at hl 2 rfl) ?_
    refine lv_aload_n X.1.1 X.1.2.1 dX8_upOf_5 rfl (lv_at hl 0 rfl) ?_
    refine lv_iconst (v := 0) X.1.1 X.1.2.1 dX8_upOf_6 (by decide) ?_
    refine ziald X G dX8_upOf_7 hf (fun v1 hf => ?_)
    refine zic_ge (tgt := 35) X dX8_upOf_8 (by decide) hf (fun hf => ?_) (fun hf => ?_)
    · refine lv_iload_n X.1.1 X.1.2.1 dX8_upOf_35 rfl (lv_at hl 1 rfl) ?_
      exact zretIr X hr hlk G hf dX8_upOf_36
    · refine lv_iload_n X.1.1 X.1.2.1 dX8_upOf_11 rfl (lv_at hl 1 rfl) ?_
      refine lv_aload_n X.1.1 X.1.2.1 dX8_upOf_12 rfl (lv_at hl 0 rfl) ?_
      refine lv_iload_n X.1.1 X.1.2.1 dX8_upOf_13 rfl (lv_at hl 2 rfl) ?_
      obtain ⟨q2, eq2, hf⟩ := Option.bind_eq_some_iff.mp hf
      refine zcS0 (As := [.ref (b0 + r0), .int a2]) (rest := [.int a1]) (v := (some (.int q2))) (h' := h) X G (m_X8_lies l D dA b0 r0 a2 h q2 eq2) (va_cwS 2 X.1.2.2.2.2 gX8_upOf_X8_lies rfl rfl rfl hdS_X8_lies ⟨(Nat.le_of_ble_eq_true rfl), (Nat.le_of_ble_eq_true rfl)⟩) rfl hl.1 rfl (Nat.le_of_ble_eq_true rfl) dX8_upOf_14 ⟨Nat.zero_le _, Nat.zero_le _⟩ (fun H locs G => ?_)
      refine zif_eq (tgt := 24) X dX8_upOf_17 (by decide) hf (fun hf => ?_) (fun hf => ?_)
      · refine lv_iconst (v := 1) X.1.1 X.1.2.1 dX8_upOf_24 (by decide) ?_
        refine lv_iload_n X.1.1 X.1.2.1 dX8_upOf_25 rfl (lv_at hl 2 rfl) ?_
        refine lv_ishl X.1.1 X.1.2.1 dX8_upOf_26 ?_
        exact w_X8_upOf_b27 X hr hlk _ ih _ _ _ _ _ _ _ hf G (lv_sub hl [0, 2] rfl)
      · refine lv_iconst (v := 0) X.1.1 X.1.2.1 dX8_upOf_20 (by decide) ?_
        refine lv_goto (tgt := 27) X.1.1 X.1.2.1 dX8_upOf_21 (by decide) ?_
        exact w_X8_upOf_b27 X hr hlk _ ih _ _ _ _ _ _ _ hf G (lv_sub hl [0, 2] rfl)
set_option maxHeartbeats 4000000 in
set_option maxRecDepth 100000 in
theorem m_X8_upOf (l : Launch) (D : va_G) (dA : Nat → ClassId) (b0 : Nat) (r0 : Nat) (h : zH) (z : Int32) (hf : f_X8_upOf r0 h = some z) : Met l yX8_upOf wsX8_upOf rmX8_upOf (zPc D dA b0 [.ref (b0 + r0)] h) (zQ D dA b0 (some (.int z)) h) 0 0 (zA b0) := by
  refine Met.ofW (cc := cX8_upOf) (maxL := 3) (ret := (some .int)) (by decide) rfl ?_
  intro p e s m args below meth c s₁ B hml hv
  obtain ⟨rfl, hP, hz, hK, hN⟩ := hv
  have hr := B.returns
  have hlk := B.notSynchronized
  have X : zX p s m _ c cX8_upOf 3 RX8 wsX8_upOf D dA := ⟨⟨B.exec, B.bytes, hml, findClass_of_methodNamed B.named, atoms_spec (ws := wsX8_upOf) B.pre⟩, hK, hN⟩
  have G : zG D dA b0 s.heap h s.heap [] := ⟨hP, hz, va_S.rf⟩
  have hl := lv_entry ([.ref (b0 + r0)]) (n := 3) (Nat.le_of_ble_eq_true rfl)
  rw [lg_entry_eq]
  generalize (lg_sl ([.ref (b0 + r0)]) ++ List.replicate (3 - (lg_sl ([.ref (b0 + r0)])).length) Slot.unset).toArray = ls at hl ⊢
  have hl : lv_has ls 3 [(0, .ref (b0 + r0))] := hl
  unfold f_X8_upOf at hf
  refine lv_iconst (v := 0) X.1.1 X.1.2.1 dX8_upOf_0 (by decide) ?_
  refine lv_istore_n (lv' := [(1, .int (0 : Int32)), (0, .ref (b0 + r0))]) X.1.1 X.1.2.1 dX8_upOf_1 rfl hl (by decide) rfl (fun ls hl => ?_)
  refine lv_iconst (v := 0) X.1.1 X.1.2.1 dX8_upOf_2 (by decide) ?_
  refine lv_istore_n (lv' := [(2, .int (0 : Int32)), (1, .int (0 : Int32)), (0, .ref (b0 + r0))]) X.1.1 X.1.2.1 dX8_upOf_3 rfl hl (by decide) rfl (fun ls hl => ?_)
  exact w_X8_upOf_b4 X hr hlk _ _ _ _ _ _ _ hf G (lv_sub hl [2, 1, 0] rfl)
/-! X8_abs -/
abbrev rmX8_abs : Room := { frames := 0, cells := 0, slots := 0, locals := 0 }
theorem hdS_X8_abs : yX8_abs.cls ≠ "java/lang/invoke/MethodHandle" ∧ yX8_abs.cls ≠ "java/lang/invoke/VarHandle" ∧ (parseMethodDescriptor yX8_abs.desc).map (fun d => d.parameters.length) = some 1 := by decide +kernel
set_option maxHeartbeats 4000000 in
set_option maxRecDepth 100000 in
theorem m_X8_abs (l : Launch) (D : va_G) (dA : Nat → ClassId) (b0 : Nat) (a0 : Int32) (h : zH) (z : Int32) (hf : f_X8_abs a0 h = some z) : Met l yX8_abs wsX8_abs rmX8_abs (zPc D dA b0 [.int a0] h) (zQ D dA b0 (some (.int z)) h) 0 0 (zA b0) := by
  refine Met.ofW (cc := cX8_abs) (maxL := 1) (ret := (some .int)) (by decide) rfl ?_
  intro p e s m args below meth c s₁ B hml hv
  obtain ⟨rfl, hP, hz, hK, hN⟩ := hv
  have hr := B.returns
  have hlk := B.notSynchronized
  have X : zX p s m _ c cX8_abs 1 RX8 wsX8_abs D dA := ⟨⟨B.exec, B.bytes, hml, findClass_of_methodNamed B.named, atoms_spec (ws := wsX8_abs) B.pre⟩, hK, hN⟩
  have G : zG D dA b0 s.heap h s.heap [] := ⟨hP, hz, va_S.rf⟩
  have hl := lv_entry ([.int a0]) (n := 1) (Nat.le_of_ble_eq_true rfl)
  rw [lg_entry_eq]
  generalize (lg_sl ([.int a0]) ++ List.replicate (1 - (lg_sl ([.int a0])).length) Slot.unset).toArray = ls at hl ⊢
  have hl : lv_has ls 1 [(0, .int a0)] := hl
  unfold f_X8_abs at hf
  refine lv_iload_n X.1.1 X.1.2.1 dX8_abs_0 rfl (lv_at hl 0 rfl) ?_
  refine zif_ge (tgt := 9) X dX8_abs_1 (by decide) hf (fun hf => ?_) (fun hf => ?_)
  · refine lv_iload_n X.1.1 X.1.2.1 dX8_abs_9 rfl (lv_at hl 0 rfl) ?_
    exact zretIr X hr hlk G hf dX8_abs_10
  · refine lv_iload_n X.1.1 X.1.2.1 dX8_abs_4 rfl (lv_at hl 0 rfl) ?_
    refine lv_ineg X.1.1 X.1.2.1 dX8_abs_5 ?_
    refine lv_goto (tgt := 10) X.1.1 X.1.2.1 dX8_abs_6 (by decide) ?_
    exact zretIr X hr hlk G hf dX8_abs_10
