/-! X5_thatFit -/
abbrev rmX5_thatFit : Room := { frames := 4, cells := 0, slots := 0, locals := 110 }
theorem hdV_X5_thatFit : yX5_thatFit.cls = RX5 ∧ yX5_thatFit.cls ≠ "java/lang/invoke/MethodHandle" ∧ yX5_thatFit.cls ≠ "java/lang/invoke/VarHandle" ∧ (parseMethodDescriptor yX5_thatFit.desc).map (fun d => d.parameters.length) = some 4 := by decide +kernel
theorem inX5_thatFit_X5 : ∀ w ∈ wsX50, w ∈ wsX5_thatFit := by decide +kernel
theorem flX5_thatFit_12 : Cond.fieldLink RX5 12 (TX5 0).1 (TX5 0).2.1 (TX5 0).2.2.1 ∈ wsX5_thatFit := by decide +kernel
theorem inX5_thatFit_X3 : ∀ w ∈ wsX30, w ∈ wsX5_thatFit := by decide +kernel
theorem flX5_thatFit_59 : Cond.fieldLink RX5 59 (TX3 8).1 (TX3 8).2.1 (TX3 8).2.2.1 ∈ wsX5_thatFit := by decide +kernel
theorem flX5_thatFit_56 : Cond.fieldLink RX5 56 (TX3 9).1 (TX3 9).2.1 (TX3 9).2.2.1 ∈ wsX5_thatFit := by decide +kernel
theorem flX5_thatFit_53 : Cond.fieldLink RX5 53 (TX3 6).1 (TX3 6).2.1 (TX3 6).2.2.1 ∈ wsX5_thatFit := by decide +kernel
set_option maxHeartbeats 4000000 in
set_option maxRecDepth 100000 in
theorem w_X5_thatFit_b108 {p : Program} {l : Launch} {e : Env} {s : State} {m : MethodId} {args : Array Value} {below : List Frame} {meth : Method} {c : Code} {D : va_G} {dA : Nat → ClassId} {b0 : Nat} (X : zX p s m args c cX5_thatFit 9 RX5 wsX5_thatFit D dA) (hr : meth.sig.returnType = (some .int)) (hlk : meth.locks = false) {z : Int32 × zH} (k43 : Nat → Nat → Int32 → Int32 → Int32 → Int32 → Int32 → Int32 → zH → Option (Int32 × zH)) (hk43 : ∀ (r0 : Nat) (r1 : Nat) (a2 : Int32) (a3 : Int32) (a4 : Int32) (a6 : Int32) (a7 : Int32) (a8 : Int32) (h : zH) (H : Heap) (locs : List Loc) (ls : Array Slot), k43 r0 r1 a2 a3 a4 a6 a7 a8 h = some z → zG D dA b0 s.heap h H locs → lv_has ls 9 [(0, .ref (b0 + r0)), (1, .ref (b0 + r1)), (2, .int a2), (3, .int a3), (4, .int a4), (6, .int a6), (7, .int a7), (8, .int a8)] → W p l e rmX5_thatFit s m args below meth c H locs 0 0 (MQ below (zQ D dA b0 (some (.int z.1)) z.2) args s 0 0 (zA b0)) (F0 m 43 ls [])) : ∀ (r0 : Nat) (r1 : Nat) (a2 : Int32) (a3 : Int32) (a4 : Int32) (a6 : Int32) (a7 : Int32) (a8 : Int32) (h : zH) (H : Heap) (locs : List Loc) (ls : Array Slot), f_X5_thatFit_b108 k43 r0 r1 a2 a3 a4 a6 a7 a8 h = some z → zG D dA b0 s.heap h H locs → lv_has ls 9 [(0, .ref (b0 + r0)), (1, .ref (b0 + r1)), (2, .int a2), (3, .int a3), (4, .int a4), (6, .int a6), (7, .int a7), (8, .int a8)] → W p l e rmX5_thatFit s m args below meth c H locs 0 0 (MQ below (zQ D dA b0 (some (.int z.1)) z.2) args s 0 0 (zA b0)) (F0 m 108 ls []) := by
  intro r0 r1 a2 a3 a4 a6 a7 a8 h H locs ls hf G hl
  unfold f_X5_thatFit_b108 at hf
  refine lv_aload_n X.1.1 X.1.2.1 dX5_thatFit_108 rfl (lv_at hl 0 rfl) ?_
  refine lv_iload_n X.1.1 X.1.2.1 dX5_thatFit_109 rfl (lv_at hl 2 rfl) ?_
  refine lv_iload_n X.1.1 X.1.2.1 dX5_thatFit_110 rfl (lv_at hl 3 rfl) ?_
  refine lv_iload X.1.1 X.1.2.1 dX5_thatFit_111 (lv_at hl 4 rfl) ?_
  obtain ⟨hk, hf⟩ := zck hf
  obtain ⟨q1, eq1, hf⟩ := Option.bind_eq_some_iff.mp hf
  refine zcV0 (As := [.int a2, .int a3, .int a4]) (rest := []) (v := (some (.int q1.1))) (h' := q1.2) X G (rfl : vwCl[5]? = some (RX5, TX5, 2)) hk (m_X5_goesAsTold l D dA b0 r0 a2 a3 a4 h q1 eq1) (cwV 3 X.1.2.2.2.2 gX5_thatFit_X5_goesAsTold rfl rfl rfl hdV_X5_goesAsTold ⟨(Nat.le_of_ble_eq_true rfl), (Nat.le_of_ble_eq_true rfl)⟩) rfl hl.1 rfl (Nat.le_of_ble_eq_true rfl) dX5_thatFit_113 ⟨Nat.zero_le _, Nat.zero_le _⟩ (fun H locs G => ?_)
  refine zif_eq (tgt := 128) X dX5_thatFit_116 (by decide) hf (fun hf => ?_) (fun hf => ?_)
  · refine lv_iinc (v := (a8 + (1 : Int32))) (lv' := [(8, .int (a8 + (1 : Int32))), (0, .ref (b0 + r0)), (1, .ref (b0 + r1)), (2, .int a2), (3, .int a3), (4, .int a4), (6, .int a6), (7, .int a7)]) X.1.1 X.1.2.1 dX5_thatFit_128 hl (k := 7) rfl rfl (by decide) rfl (fun ls hl => ?_)
    refine lv_goto (tgt := 43) X.1.1 X.1.2.1 dX5_thatFit_131 (by decide) ?_
    exact hk43 _ _ _ _ _ _ _ _ _ _ _ _ hf G (lv_sub hl [1, 2, 3, 4, 5, 6, 7, 0] rfl)
  · refine lv_iload X.1.1 X.1.2.1 dX5_thatFit_119 (lv_at hl 6 rfl) ?_
    refine lv_iconst (v := 1) X.1.1 X.1.2.1 dX5_thatFit_121 (by decide) ?_
    refine lv_iload X.1.1 X.1.2.1 dX5_thatFit_122 (lv_at hl 7 rfl) ?_
    refine lv_ishl X.1.1 X.1.2.1 dX5_thatFit_124 ?_
    refine lv_ior X.1.1 X.1.2.1 dX5_thatFit_125 ?_
    refine zleti hf (fun x2 hf => ?_)
    refine lv_istore (lv' := [(7, .int x2), (0, .ref (b0 + r0)), (1, .ref (b0 + r1)), (2, .int a2), (3, .int a3), (4, .int a4), (6, .int a6), (8, .int a8)]) X.1.1 X.1.2.1 dX5_thatFit_126 hl (by decide) rfl (fun ls hl => ?_)
    refine lv_iinc (v := (a8 + (1 : Int32))) (lv' := [(8, .int (a8 + (1 : Int32))), (7, .int x2), (0, .ref (b0 + r0)), (1, .ref (b0 + r1)), (2, .int a2), (3, .int a3), (4, .int a4), (6, .int a6)]) X.1.1 X.1.2.1 dX5_thatFit_128 hl (k := 7) rfl rfl (by decide) rfl (fun ls hl => ?_)
    refine lv_goto (tgt := 43) X.1.1 X.1.2.1 dX5_thatFit_131 (by decide) ?_
    exact hk43 _ _ _ _ _ _ _ _ _ _ _ _ hf G (lv_sub hl [2, 3, 4, 5, 6, 7, 1, 0] rfl)
set_option maxHeartbeats 4000000 in
set_option maxRecDepth 100000 in
theorem w_X5_thatFit_b43 {p : Program} {l : Launch} {e : Env} {s : State} {m : MethodId} {args : Array Value} {below : List Frame} {meth : Method} {c : Code} {D : va_G} {dA : Nat → ClassId} {b0 : Nat} (X : zX p s m args c cX5_thatFit 9 RX5 wsX5_thatFit D dA) (hr : meth.sig.returnType = (some .int)) (hlk : meth.locks = false) {z : Int32 × zH} : ∀ (n : Nat), ∀ (r0 : Nat) (r1 : Nat) (a2 : Int32) (a3 : Int32) (a4 : Int32) (a6 : Int32) (a7 : Int32) (a8 : Int32) (h : zH) (H : Heap) (locs : List Loc) (ls : Array Slot), f_X5_thatFit_b43 n r0 r1 a2 a3 a4 a6 a7 a8 h = some z → zG D dA b0 s.heap h H locs → lv_has ls 9 [(0, .ref (b0 + r0)), (1, .ref (b0 + r1)), (2, .int a2), (3, .int a3), (4, .int a4), (6, .int a6), (7, .int a7), (8, .int a8)] → W p l e rmX5_thatFit s m args below meth c H locs 0 0 (MQ below (zQ D dA b0 (some (.int z.1)) z.2) args s 0 0 (zA b0)) (F0 m 43 ls []) := by
  intro n
  induction n with
  | zero =>
    intro r0 r1 a2 a3 a4 a6 a7 a8 h H locs ls hf
    cases hf
  | succ n ih =>
    intro r0 r1 a2 a3 a4 a6 a7 a8 h H locs ls hf G hl
    rw [f_X5_thatFit_b43] at hf
    refine lv_iload X.1.1 X.1.2.1 dX5_thatFit_43 (lv_at hl 7 rfl) ?_
    refine lv_iload X.1.1 X.1.2.1 dX5_thatFit_45 (lv_at hl 5 rfl) ?_
    refine zic_gt (tgt := 134) X dX5_thatFit_47 (by decide) hf (fun hf => ?_) (fun hf => ?_)
    · refine lv_iload X.1.1 X.1.2.1 dX5_thatFit_134 (lv_at hl 6 rfl) ?_
      exact zretI X hr hlk G hf dX5_thatFit_136
    · refine lv_aload_n X.1.1 X.1.2.1 dX5_thatFit_50 rfl (lv_at hl 0 rfl) ?_
      refine zgetR (ci := 5) (k := 0) (C := RX5) (T := TX5) (N := 2) X G rfl inX5_thatFit_X5 (Nat.le_of_ble_eq_true rfl) flX5_thatFit_12 dX5_thatFit_51 hf (fun v1 hf => ?_)
      refine lv_aload_n X.1.1 X.1.2.1 dX5_thatFit_54 rfl (lv_at hl 1 rfl) ?_
      obtain ⟨hk, hf⟩ := zck hf
      obtain ⟨q2, eq2, hf⟩ := Option.bind_eq_some_iff.mp hf
      refine zcV0 (As := [.ref (b0 + r1)]) (rest := []) (v := none) (h' := q2) X G (rfl : vwCl[3]? = some (RX3, TX3, 12)) hk (m_X3_become l D dA b0 v1 r1 h q2 eq2) (cwV 1 X.1.2.2.2.2 gX5_thatFit_X3_become rfl rfl rfl hdV_X3_become ⟨(Nat.le_of_ble_eq_true rfl), (Nat.le_of_ble_eq_true rfl)⟩) rfl hl.1 rfl (Nat.le_of_ble_eq_true rfl) dX5_thatFit_55 ⟨Nat.zero_le _, Nat.zero_le _⟩ (fun H locs G => ?_)
      refine lv_iload X.1.1 X.1.2.1 dX5_thatFit_58 (lv_at hl 4 rfl) ?_
      refine zif_ne (tgt := 77) X dX5_thatFit_60 (by decide) hf (fun hf => ?_) (fun hf => ?_)
      · refine lv_iload X.1.1 X.1.2.1 dX5_thatFit_77 (lv_at hl 4 rfl) ?_
        refine lv_iconst (v := 1) X.1.1 X.1.2.1 dX5_thatFit_79 (by decide) ?_
        refine zic_ne (tgt := 97) X dX5_thatFit_80 (by decide) hf (fun hf => ?_) (fun hf => ?_)
        · refine lv_aload_n X.1.1 X.1.2.1 dX5_thatFit_97 rfl (lv_at hl 0 rfl) ?_
          refine zgetR (ci := 5) (k := 0) (C := RX5) (T := TX5) (N := 2) X G rfl inX5_thatFit_X5 (Nat.le_of_ble_eq_true rfl) flX5_thatFit_12 dX5_thatFit_98 hf (fun v3 hf => ?_)
          refine zgetR (ci := 3) (k := 8) (C := RX3) (T := TX3) (N := 12) X G rfl inX5_thatFit_X3 (Nat.le_of_ble_eq_true rfl) flX5_thatFit_59 dX5_thatFit_101 hf (fun v4 hf => ?_)
          refine lv_iload_n X.1.1 X.1.2.1 dX5_thatFit_104 rfl (lv_at hl 2 rfl) ?_
          refine lv_iload X.1.1 X.1.2.1 dX5_thatFit_105 (lv_at hl 7 rfl) ?_
          refine ziast X G dX5_thatFit_107 hf (fun h5 H locs hf G => ?_)
          exact w_X5_thatFit_b108 X hr hlk _ ih _ _ _ _ _ _ _ _ _ _ _ _ hf G hl
        · refine lv_aload_n X.1.1 X.1.2.1 dX5_thatFit_83 rfl (lv_at hl 0 rfl) ?_
          refine zgetR (ci := 5) (k := 0) (C := RX5) (T := TX5) (N := 2) X G rfl inX5_thatFit_X5 (Nat.le_of_ble_eq_true rfl) flX5_thatFit_12 dX5_thatFit_84 hf (fun v6 hf => ?_)
          refine zgetR (ci := 3) (k := 9) (C := RX3) (T := TX3) (N := 12) X G rfl inX5_thatFit_X3 (Nat.le_of_ble_eq_true rfl) flX5_thatFit_56 dX5_thatFit_87 hf (fun v7 hf => ?_)
          refine lv_iload_n X.1.1 X.1.2.1 dX5_thatFit_90 rfl (lv_at hl 2 rfl) ?_
          refine lv_iload X.1.1 X.1.2.1 dX5_thatFit_91 (lv_at hl 7 rfl) ?_
          refine ziast X G dX5_thatFit_93 hf (fun h8 H locs hf G => ?_)
          refine lv_goto (tgt := 108) X.1.1 X.1.2.1 dX5_thatFit_94 (by decide) ?_
          exact w_X5_thatFit_b108 X hr hlk _ ih _ _ _ _ _ _ _ _ _ _ _ _ hf G hl
      · refine lv_aload_n X.1.1 X.1.2.1 dX5_thatFit_63 rfl (lv_at hl 0 rfl) ?_
        refine zgetR (ci := 5) (k := 0) (C := RX5) (T := TX5) (N := 2) X G rfl inX5_thatFit_X5 (Nat.le_of_ble_eq_true rfl) flX5_thatFit_12 dX5_thatFit_64 hf (fun v9 hf => ?_)
        refine zgetR (ci := 3) (k := 6) (C := RX3) (T := TX3) (N := 12) X G rfl inX5_thatFit_X3 (Nat.le_of_ble_eq_true rfl) flX5_thatFit_53 dX5_thatFit_67 hf (fun v10 hf => ?_)
        refine lv_iload_n X.1.1 X.1.2.1 dX5_thatFit_70 rfl (lv_at hl 2 rfl) ?_
        refine lv_iload X.1.1 X.1.2.1 dX5_thatFit_71 (lv_at hl 7 rfl) ?_
        refine ziast X G dX5_thatFit_73 hf (fun h11 H locs hf G => ?_)
        refine lv_goto (tgt := 108) X.1.1 X.1.2.1 dX5_thatFit_74 (by decide) ?_
        exact w_X5_thatFit_b108 X hr hlk _ ih _ _ _ _ _ _ _ _ _ _ _ _ hf G hl
set_option maxHeartbeats 4000000 in
set_option maxRecDepth 100000 in
theorem w_X5_thatFit_b34 {p : Program} {l : Launch} {e : Env} {s : State} {m : MethodId} {args : Array Value} {below : List Frame} {meth : Method} {c : Code} {D : va_G} {dA : Nat → ClassId} {b0 : Nat} (X : zX p s m args c cX5_thatFit 9 RX5 wsX5_thatFit D dA) (hr : meth.sig.returnType = (some .int)) (hlk : meth.locks = false) {z : Int32 × zH} : ∀ (r0 : Nat) (r1 : Nat) (a2 : Int32) (a3 : Int32) (a4 : Int32) (a5 : Int32) (s0 : Int32) (h : zH) (H : Heap) (locs : List Loc) (ls : Array Slot), f_X5_thatFit_b34 r0 r1 a2 a3 a4 a5 s0 h = some z → zG D dA b0 s.heap h H locs → lv_has ls 9 [(0, .ref (b0 + r0)), (1, .ref (b0 + r1)), (2, .int a2), (3, .int a3), (4, .int a4), (5, .int a5)] → W p l e rmX5_thatFit s m args below meth c H locs 0 0 (MQ below (zQ D dA b0 (some (.int z.1)) z.2) args s 0 0 (zA b0)) (F0 m 34 ls [.int s0]) := by
  intro r0 r1 a2 a3 a4 a5 s0 h H locs ls hf G hl
  unfold f_X5_thatFit_b34 at hf
  refine lv_istore (lv' := [(6, .int s0), (0, .ref (b0 + r0)), (1, .ref (b0 + r1)), (2, .int a2), (3, .int a3), (4, .int a4), (5, .int a5)]) X.1.1 X.1.2.1 dX5_thatFit_34 hl (by decide) rfl (fun ls hl => ?_)
  refine lv_iconst (v := 0) X.1.1 X.1.2.1 dX5_thatFit_36 (by decide) ?_
  refine lv_istore (lv' := [(7, .int (0 : Int32)), (6, .int s0), (0, .ref (b0 + r0)), (1, .ref (b0 + r1)), (2, .int a2), (3, .int a3), (4, .int a4), (5, .int a5)]) X.1.1 X.1.2.1 dX5_thatFit_37 hl (by decide) rfl (fun ls hl => ?_)
  refine lv_iload X.1.1 X.1.2.1 dX5_thatFit_39 (lv_at hl 7 rfl) ?_
  refine lv_istore (lv' := [(8, .int a5), (7, .int (0 : Int32)), (6, .int s0), (0, .ref (b0 + r0)), (1, .ref (b0 + r1)), (2, .int a2), (3, .int a3), (4, .int a4), (5, .int a5)]) X.1.1 X.1.2.1 dX5_thatFit_41 hl (by decide) rfl (fun ls hl => ?_)
  exact w_X5_thatFit_b43 X hr hlk _ _ _ _ _ _ _ _ _ _ _ _ _ hf G (lv_sub hl [3, 4, 5, 6, 7, 2, 1, 0] rfl)
set_option maxHeartbeats 4000000 in
set_option maxRecDepth 100000 in
theorem w_X5_thatFit_b11 {p : Program} {l : Launch} {e : Env} {s : State} {m : MethodId} {args : Array Value} {below : List Frame} {meth : Method} {c : Code} {D : va_G} {dA : Nat → ClassId} {b0 : Nat} (X : zX p s m args c cX5_thatFit 9 RX5 wsX5_thatFit D dA) (hr : meth.sig.returnType = (some .int)) (hlk : meth.locks = false) {z : Int32 × zH} : ∀ (r0 : Nat) (r1 : Nat) (a2 : Int32) (a3 : Int32) (a4 : Int32) (s0 : Int32) (h : zH) (H : Heap) (locs : List Loc) (ls : Array Slot), f_X5_thatFit_b11 r0 r1 a2 a3 a4 s0 h = some z → zG D dA b0 s.heap h H locs → lv_has ls 9 [(0, .ref (b0 + r0)), (1, .ref (b0 + r1)), (2, .int a2), (3, .int a3), (4, .int a4)] → W p l e rmX5_thatFit s m args below meth c H locs 0 0 (MQ below (zQ D dA b0 (some (.int z.1)) z.2) args s 0 0 (zA b0)) (F0 m 11 ls [.int s0]) := by
  intro r0 r1 a2 a3 a4 s0 h H locs ls hf G hl
  unfold f_X5_thatFit_b11 at hf
  refine lv_istore (lv' := [(5, .int s0), (0, .ref (b0 + r0)), (1, .ref (b0 + r1)), (2, .int a2), (3, .int a3), (4, .int a4)]) X.1.1 X.1.2.1 dX5_thatFit_11 hl (by decide) rfl (fun ls hl => ?_)
  refine lv_iload X.1.1 X.1.2.1 dX5_thatFit_13 (lv_at hl 5 rfl) ?_
  refine zif_ne (tgt := 22) X dX5_thatFit_15 (by decide) hf (fun hf => ?_) (fun hf => ?_)
  · refine lv_iload X.1.1 X.1.2.1 dX5_thatFit_22 (lv_at hl 5 rfl) ?_
    refine lv_iconst (v := 1) X.1.1 X.1.2.1 dX5_thatFit_24 (by decide) ?_
    refine zic_ne (tgt := 33) X dX5_thatFit_25 (by decide) hf (fun hf => ?_) (fun hf => ?_)
    · refine lv_iconst (v := 3) X.1.1 X.1.2.1 dX5_thatFit_33 (by decide) ?_
      exact w_X5_thatFit_b34 X hr hlk _ _ _ _ _ _ _ _ _ _ _ hf G (lv_sub hl [1, 2, 3, 4, 5, 0] rfl)
    · refine lv_bipush (v := 9) X.1.1 X.1.2.1 dX5_thatFit_28 (by decide) ?_
      refine lv_goto (tgt := 34) X.1.1 X.1.2.1 dX5_thatFit_30 (by decide) ?_
      exact w_X5_thatFit_b34 X hr hlk _ _ _ _ _ _ _ _ _ _ _ hf G (lv_sub hl [1, 2, 3, 4, 5, 0] rfl)
  · refine lv_iconst (v := 5) X.1.1 X.1.2.1 dX5_thatFit_18 (by decide) ?_
    refine lv_goto (tgt := 34) X.1.1 X.1.2.1 dX5_thatFit_19 (by decide) ?_
    exact w_X5_thatFit_b34 X hr hlk _ _ _ _ _ _ _ _ _ _ _ hf G (lv_sub hl [1, 2, 3, 4, 5, 0] rfl)
set_option maxHeartbeats 4000000 in
set_option maxRecDepth 100000 in
theorem m_X5_thatFit (l : Launch) (D : va_G) (dA : Nat → ClassId) (b0 : Nat) (r0 : Nat) (r1 : Nat) (a2 : Int32) (a3 : Int32) (a4 : Int32) (h : zH) (z : Int32 × zH) (hf : f_X5_thatFit r0 r1 a2 a3 a4 h = some z) : Met l yX5_thatFit wsX5_thatFit rmX5_thatFit (zPc D dA b0 [.ref (b0 + r0), .ref (b0 + r1), .int a2, .int a3, .int a4] h) (zQ D dA b0 (some (.int z.1)) z.2) 0 0 (zA b0) := by
  refine Met.ofW (cc := cX5_thatFit) (maxL := 9) (ret := (some .int)) (by decide) rfl ?_
  intro p e s m args below meth c s₁ B hml hv
  obtain ⟨rfl, hP, hz, hK, hN⟩ := hv
  have hr := B.returns
  have hlk := B.notSynchronized
  have X : zX p s m _ c cX5_thatFit 9 RX5 wsX5_thatFit D dA := ⟨⟨B.exec, B.bytes, hml, findClass_of_methodNamed B.named, atoms_spec (ws := wsX5_thatFit) B.pre⟩, hK, hN⟩
  have G : zG D dA b0 s.heap h s.heap [] := ⟨hP, hz, va_S.rf⟩
  have hl := lv_entry ([.ref (b0 + r0), .ref (b0 + r1), .int a2, .int a3, .int a4]) (n := 9) (Nat.le_of_ble_eq_true rfl)
  rw [lg_entry_eq]
  generalize (lg_sl ([.ref (b0 + r0), .ref (b0 + r1), .int a2, .int a3, .int a4]) ++ List.replicate (9 - (lg_sl ([.ref (b0 + r0), .ref (b0 + r1), .int a2, .int a3, .int a4])).length) Slot.unset).toArray = ls at hl ⊢
  have hl : lv_has ls 9 [(0, .ref (b0 + r0)), (1, .ref (b0 + r1)), (2, .int a2), (3, .int a3), (4, .int a4)] := hl
  unfold f_X5_thatFit at hf
  refine lv_iload X.1.1 X.1.2.1 dX5_thatFit_0 (lv_at hl 4 rfl) ?_
  refine lv_iconst (v := 2) X.1.1 X.1.2.1 dX5_thatFit_2 (by decide) ?_
  refine zic_ne (tgt := 10) X dX5_thatFit_3 (by decide) hf (fun hf => ?_) (fun hf => ?_)
  · refine lv_iconst (v := 1) X.1.1 X.1.2.1 dX5_thatFit_10 (by decide) ?_
    exact w_X5_thatFit_b11 X hr hlk _ _ _ _ _ _ _ _ _ _ hf G hl
  · refine lv_iconst (v := 0) X.1.1 X.1.2.1 dX5_thatFit_6 (by decide) ?_
    refine lv_goto (tgt := 11) X.1.1 X.1.2.1 dX5_thatFit_7 (by decide) ?_
    exact w_X5_thatFit_b11 X hr hlk _ _ _ _ _ _ _ _ _ _ hf G hl
/-! X5_weightOfAll -/
abbrev rmX5_weightOfAll : Room := { frames := 1, cells := 0, slots := 0, locals := 21 }
theorem hdV_X5_weightOfAll : yX5_weightOfAll.cls = RX5 ∧ yX5_weightOfAll.cls ≠ "java/lang/invoke/MethodHandle" ∧ yX5_weightOfAll.cls ≠ "java/lang/invoke/VarHandle" ∧ (parseMethodDescriptor yX5_weightOfAll.desc).map (fun d => d.parameters.length) = some 1 := by decide +kernel
theorem inX5_weightOfAll_X3 : ∀ w ∈ wsX30, w ∈ wsX5_weightOfAll := by decide +kernel
theorem flX5_weightOfAll_69 : Cond.fieldLink RX5 69 (TX3 1).1 (TX3 1).2.1 (TX3 1).2.2.1 ∈ wsX5_weightOfAll := by decide +kernel
set_option maxHeartbeats 4000000 in
set_option maxRecDepth 100000 in
theorem w_X5_weightOfAll_b4 {p : Program} {l : Launch} {e : Env} {s : State} {m : MethodId} {args : Array Value} {below : List Frame} {meth : Method} {c : Code} {D : va_G} {dA : Nat → ClassId} {b0 : Nat} {h : zH} (X : zX p s m args c cX5_weightOfAll 4 RX5 wsX5_weightOfAll D dA) (hr : meth.sig.returnType = (some .int)) (hlk : meth.locks = false) {z : Int32} : ∀ (n : Nat), ∀ (r1 : Nat) (a2 : Int32) (a3 : Int32) (H : Heap) (locs : List Loc) (ls : Array Slot), f_X5_weightOfAll_b4 h n r1 a2 a3 = some z → zG D dA b0 s.heap h H locs → lv_has ls 4 [(1, .ref (b0 + r1)), (2, .int a2), (3, .int a3)] → W p l e rmX5_weightOfAll s m args below meth c H locs 0 0 (MQ below (zQ D dA b0 (some (.int z)) h) args s 0 0 (zA b0)) (F0 m 4 ls []) := by
  intro n
  induction n with
  | zero =>
    intro r1 a2 a3 H locs ls hf
    cases hf
  | succ n ih =>
    intro r1 a2 a3 H locs ls hf G hl
    rw [f_X5_weightOfAll_b4] at hf
    refine lv_iload_n X.1.1 X.1.2.1 dX5_weightOfAll_4 rfl (lv_at hl 2 rfl) ?_
    refine lv_aload_n X.1.1 X.1.2.1 dX5_weightOfAll_5 rfl (lv_at hl 0 rfl) ?_
    refine zgetI (ci := 3) (k := 1) (C := RX3) (T := TX3) (N := 12) X G rfl inX5_weightOfAll_X3 (Nat.le_of_ble_eq_true rfl) flX5_weightOfAll_69 dX5_weightOfAll_6 hf (fun v1 hf => ?_)
    refine zic_ge (tgt := 31) X dX5_weightOfAll_9 (by decide) hf (fun hf => ?_) (fun hf => ?_)
    · refine lv_iload_n X.1.1 X.1.2.1 dX5_weightOfAll_31 rfl (lv_at hl 1 rfl) ?_
      exact zretIr X hr hlk G hf dX5_weightOfAll_32
    · refine lv_aload_n X.1.1 X.1.2.1 dX5_weightOfAll_12 rfl (lv_at hl 0 rfl) ?_
      refine lv_iload_n X.1.1 X.1.2.1 dX5_weightOfAll_13 rfl (lv_at hl 2 rfl) ?_
      obtain ⟨hk, hf⟩ := zck hf
      obtain ⟨q2, eq2, hf⟩ := Option.bind_eq_some_iff.mp hf
      refine zcV0 (As := [.int a3]) (rest := []) (v := (some (.int q2))) (h' := h) X G (rfl : vwCl[3]? = some (RX3, TX3, 12)) hk (m_X3_isUp l D dA b0 r1 a3 h q2 eq2) (cwV 1 X.1.2.2.2.2 gX5_weightOfAll_X3_isUp rfl rfl rfl hdV_X3_isUp ⟨(Nat.le_of_ble_eq_true rfl), (Nat.le_of_ble_eq_true rfl)⟩) rfl hl.1 rfl (Nat.le_of_ble_eq_true rfl) dX5_weightOfAll_14 ⟨Nat.zero_le _, Nat.zero_le _⟩ (fun H locs G => ?_)
      refine zif_ne (tgt := 25) X dX5_weightOfAll_17 (by decide) hf (fun hf => ?_) (fun hf => ?_)
      · refine lv_iinc (v := (a3 + (1 : Int32))) (lv' := [(3, .int (a3 + (1 : Int32))), (1, .ref (b0 + r1)), (2, .int a2)]) X.1.1 X.1.2.1 dX5_weightOfAll_25 hl (k := 2) rfl rfl (by decide) rfl (fun ls hl => ?_)
        refine lv_goto (tgt := 4) X.1.1 X.1.2.1 dX5_weightOfAll_28 (by decide) ?_
        exact ih _ _ _ _ _ _ hf G (lv_sub hl [1, 2, 0] rfl)
      · refine lv_iload_n X.1.1 X.1.2.1 dX5_weightOfAll_20 rfl (lv_at hl 1 rfl) ?_
        refine lv_bipush (v := 10) X.1.1 X.1.2.1 dX5_weightOfAll_21 (by decide) ?_
        refine lv_imul X.1.1 X.1.2.1 dX5_weightOfAll_23 ?_
        refine zleti hf (fun x3 hf => ?_)
        refine lv_istore_n (lv' := [(2, .int x3), (1, .ref (b0 + r1)), (3, .int a3)]) X.1.1 X.1.2.1 dX5_weightOfAll_24 rfl hl (by decide) rfl (fun ls hl => ?_)
        refine lv_iinc (v := (a3 + (1 : Int32))) (lv' := [(3, .int (a3 + (1 : Int32))), (2, .int x3), (1, .ref (b0 + r1))]) X.1.1 X.1.2.1 dX5_weightOfAll_25 hl (k := 2) rfl rfl (by decide) rfl (fun ls hl => ?_)
        refine lv_goto (tgt := 4) X.1.1 X.1.2.1 dX5_weightOfAll_28 (by decide) ?_
        exact ih _ _ _ _ _ _ hf G (lv_sub hl [2, 1, 0] rfl)
set_option maxHeartbeats 4000000 in
set_option maxRecDepth 100000 in
theorem m_X5_weightOfAll (l : Launch) (D : va_G) (dA : Nat → ClassId) (b0 : Nat) (r0 : Nat) (r1 : Nat) (h : zH) (z : Int32) (hf : f_X5_weightOfAll r0 r1 h = some z) : Met l yX5_weightOfAll wsX5_weightOfAll rmX5_weightOfAll (zPc D dA b0 [.ref (b0 + r0), .ref (b0 + r1)] h) (zQ D dA b0 (some (.int z)) h) 0 0 (zA b0) := by
  refine Met.ofW (cc := cX5_weightOfAll) (maxL := 4) (ret := (some .int)) (by decide) rfl ?_
  intro p e s m args below meth c s₁ B hml hv
  obtain ⟨rfl, hP, hz, hK, hN⟩ := hv
  have hr := B.returns
  have hlk := B.notSynchronized
  have X : zX p s m _ c cX5_weightOfAll 4 RX5 wsX5_weightOfAll D dA := ⟨⟨B.exec, B.bytes, hml, findClass_of_methodNamed B.named, atoms_spec (ws := wsX5_weightOfAll) B.pre⟩, hK, hN⟩
  have G : zG D dA b0 s.heap h s.heap [] := ⟨hP, hz, va_S.rf⟩
  have hl := lv_entry ([.ref (b0 + r0), .ref (b0 + r1)]) (n := 4) (Nat.le_of_ble_eq_true rfl)
  rw [lg_entry_eq]
  generalize (lg_sl ([.ref (b0 + r0), .ref (b0 + r1)]) ++ List.replicate (4 - (lg_sl ([.ref (b0 + r0), .ref (b0 + r1)])).length) Slot.unset).toArray = ls at hl ⊢
  have hl : lv_has ls 4 [(0, .ref (b0 + r0)), (1, .ref (b0 + r1))] := hl
  unfold f_X5_weightOfAll at hf
  refine lv_iconst (v := 1) X.1.1 X.1.2.1 dX5_weightOfAll_0 (by decide) ?_
  refine lv_istore_n (lv' := [(2, .int (1 : Int32)), (0, .ref (b0 + r0)), (1, .ref (b0 + r1))]) X.1.1 X.1.2.1 dX5_weightOfAll_1 rfl hl (by decide) rfl (fun ls hl => ?_)
  refine lv_iconst (v := 0) X.1.1 X.1.2.1 dX5_weightOfAll_2 (by decide) ?_
  refine lv_istore_n (lv' := [(3, .int (0 : Int32)), (2, .int (1 : Int32)), (0, .ref (b0 + r0)), (1, .ref (b0 + r1))]) X.1.1 X.1.2.1 dX5_weightOfAll_3 rfl hl (by decide) rfl (fun ls hl => ?_)
  exact w_X5_weightOfAll_b4 X hr hlk _ _ _ _ _ _ _ hf G (lv_sub hl [3, 1, 0] rfl)
/-! X5_weightOf -/
abbrev rmX5_weightOf : Room := { frames := 2, cells := 0, slots := 0, locals := 43 }
theorem hdV_X5_weightOf : yX5_weightOf.cls = RX5 ∧ yX5_weightOf.cls ≠ "java/lang/invoke/MethodHandle" ∧ yX5_weightOf.cls ≠ "java/lang/invoke/VarHandle" ∧ (parseMethodDescriptor yX5_weightOf.desc).map (fun d => d.parameters.length) = some 3 := by decide +kernel
theorem inX5_weightOf_X3 : ∀ w ∈ wsX30, w ∈ wsX5_weightOf := by decide +kernel
theorem flX5_weightOf_69 : Cond.fieldLink RX5 69 (TX3 1).1 (TX3 1).2.1 (TX3 1).2.2.1 ∈ wsX5_weightOf := by decide +kernel
set_option maxHeartbeats 4000000 in
set_option maxRecDepth 100000 in
theorem w_X5_weightOf_b55 {p : Program} {l : Launch} {e : Env} {s : State} {m : MethodId} {args : Array Value} {below : List Frame} {meth : Method} {c : Code} {D : va_G} {dA : Nat → ClassId} {b0 : Nat} {h : zH} (X : zX p s m args c cX5_weightOf 6 RX5 wsX5_weightOf D dA) (hr : meth.sig.returnType = (some .int)) (hlk : meth.locks = false) {z : Int32} (k17 : Nat → Int32 → Int32 → Int32 → Int32 → Option (Int32)) (hk17 : ∀ (r1 : Nat) (a2 : Int32) (a3 : Int32) (a4 : Int32) (a5 : Int32) (H : Heap) (locs : List Loc) (ls : Array Slot), k17 r1 a2 a3 a4 a5 = some z → zG D dA b0 s.heap h H locs → lv_has ls 6 [(1, .ref (b0 + r1)), (2, .int a2), (3, .int a3), (4, .int a4), (5, .int a5)] → W p l e rmX5_weightOf s m args below meth c H locs 0 0 (MQ below (zQ D dA b0 (some (.int z)) h) args s 0 0 (zA b0)) (F0 m 17 ls [])) : ∀ (r1 : Nat) (a2 : Int32) (a3 : Int32) (a5 : Int32) (s0 : Int32) (s1 : Int32) (H : Heap) (locs : List Loc) (ls : Array Slot), f_X5_weightOf_b55 h k17 r1 a2 a3 a5 s0 s1 = some z → zG D dA b0 s.heap h H locs → lv_has ls 6 [(1, .ref (b0 + r1)), (2, .int a2), (3, .int a3), (5, .int a5)] → W p l e rmX5_weightOf s m args below meth c H locs 0 0 (MQ below (zQ D dA b0 (some (.int z)) h) args s 0 0 (zA b0)) (F0 m 55 ls [.int s1, .int s0]) := by
  intro r1 a2 a3 a5 s0 s1 H locs ls hf G hl
  unfold f_X5_weightOf_b55 at hf
  refine lv_imul X.1.1 X.1.2.1 dX5_weightOf_55 ?_
  refine zleti hf (fun x1 hf => ?_)
  refine lv_istore (lv' := [(4, .int x1), (1, .ref (b0 + r1)), (2, .int a2), (3, .int a3), (5, .int a5)]) X.1.1 X.1.2.1 dX5_weightOf_56 hl (by decide) rfl (fun ls hl => ?_)
  refine lv_iinc (v := (a5 + (1 : Int32))) (lv' := [(5, .int (a5 + (1 : Int32))), (4, .int x1), (1, .ref (b0 + r1)), (2, .int a2), (3, .int a3)]) X.1.1 X.1.2.1 dX5_weightOf_58 hl (k := 4) rfl rfl (by decide) rfl (fun ls hl => ?_)
  refine lv_goto (tgt := 17) X.1.1 X.1.2.1 dX5_weightOf_61 (by decide) ?_
  exact hk17 _ _ _ _ _ _ _ _ hf G (lv_sub hl [2, 3, 4, 1, 0] rfl)
set_option maxHeartbeats 4000000 in
set_option maxRecDepth 100000 in
theorem w_X5_weightOf_b17 {p : Program} {l : Launch} {e : Env} {s : State} {m : MethodId} {args : Array Value} {below : List Frame} {meth : Method} {c : Code} {D : va_G} {dA : Nat → ClassId} {b0 : Nat} {h : zH} (X : zX p s m args c cX5_weightOf 6 RX5 wsX5_weightOf D dA) (hr : meth.sig.returnType = (some .int)) (hlk : meth.locks = false) {z : Int32} : ∀ (n : Nat), ∀ (r1 : Nat) (a2 : Int32) (a3 : Int32) (a4 : Int32) (a5 : Int32) (H : Heap) (locs : List Loc) (ls : Array Slot), f_X5_weightOf_b17 h n r1 a2 a3 a4 a5 = some z → zG D dA b0 s.heap h H locs → lv_has ls 6 [(1, .ref (b0 + r1)), (2, .int a2), (3, .int a3), (4, .int a4), (5, .int a5)] → W p l e rmX5_weightOf s m args below meth c H locs 0 0 (MQ below (zQ D dA b0 (some (.int z)) h) args s 0 0 (zA b0)) (F0 m 17 ls []) := by
  intro n
  induction n with
  | zero =>
    intro r1 a2 a3 a4 a5 H locs ls hf
    cases hf
  | succ n ih =>
    intro r1 a2 a3 a4 a5 H locs ls hf G hl
    rw [f_X5_weightOf_b17] at hf
    refine lv_iload X.1.1 X.1.2.1 dX5_weightOf_17 (lv_at hl 4 rfl) ?_
    refine lv_aload_n X.1.1 X.1.2.1 dX5_weightOf_19 rfl (lv_at hl 0 rfl) ?_
    refine zgetI (ci := 3) (k := 1) (C := RX3) (T := TX3) (N := 12) X G rfl inX5_weightOf_X3 (Nat.le_of_ble_eq_true rfl) flX5_weightOf_69 dX5_weightOf_20 hf (fun v1 hf => ?_)
    refine zic_ge (tgt := 64) X dX5_weightOf_23 (by decide) hf (fun hf => ?_) (fun hf => ?_)
    · refine lv_iload X.1.1 X.1.2.1 dX5_weightOf_64 (lv_at hl 3 rfl) ?_
      exact zretIr X hr hlk G hf dX5_weightOf_66
    · refine lv_aload_n X.1.1 X.1.2.1 dX5_weightOf_26 rfl (lv_at hl 0 rfl) ?_
      refine lv_iload X.1.1 X.1.2.1 dX5_weightOf_27 (lv_at hl 4 rfl) ?_
      obtain ⟨hk, hf⟩ := zck hf
      obtain ⟨q2, eq2, hf⟩ := Option.bind_eq_some_iff.mp hf
      refine zcV0 (As := [.int a5]) (rest := []) (v := (some (.int q2))) (h' := h) X G (rfl : vwCl[3]? = some (RX3, TX3, 12)) hk (m_X3_isUp l D dA b0 r1 a5 h q2 eq2) (cwV 1 X.1.2.2.2.2 gX5_weightOf_X3_isUp rfl rfl rfl hdV_X3_isUp ⟨(Nat.le_of_ble_eq_true rfl), (Nat.le_of_ble_eq_true rfl)⟩) rfl hl.1 rfl (Nat.le_of_ble_eq_true rfl) dX5_weightOf_29 ⟨Nat.zero_le _, Nat.zero_le _⟩ (fun H locs G => ?_)
      refine zif_ne (tgt := 58) X dX5_weightOf_32 (by decide) hf (fun hf => ?_) (fun hf => ?_)
      · refine lv_iinc (v := (a5 + (1 : Int32))) (lv' := [(5, .int (a5 + (1 : Int32))), (1, .ref (b0 + r1)), (2, .int a2), (3, .int a3), (4, .int a4)]) X.1.1 X.1.2.1 dX5_weightOf_58 hl (k := 4) rfl rfl (by decide) rfl (fun ls hl => ?_)
        refine lv_goto (tgt := 17) X.1.1 X.1.2.1 dX5_weightOf_61 (by decide) ?_
        exact ih _ _ _ _ _ _ _ _ hf G (lv_sub hl [1, 2, 3, 4, 0] rfl)
      · refine lv_iload X.1.1 X.1.2.1 dX5_weightOf_35 (lv_at hl 3 rfl) ?_
        refine lv_iload_n X.1.1 X.1.2.1 dX5_weightOf_37 rfl (lv_at hl 1 rfl) ?_
        refine lv_iload X.1.1 X.1.2.1 dX5_weightOf_38 (lv_at hl 4 rfl) ?_
        refine lv_ishr X.1.1 X.1.2.1 dX5_weightOf_40 ?_
        refine lv_iconst (v := 1) X.1.1 X.1.2.1 dX5_weightOf_41 (by decide) ?_
        refine lv_iand X.1.1 X.1.2.1 dX5_weightOf_42 ?_
        refine lv_iconst (v := 1) X.1.1 X.1.2.1 dX5_weightOf_43 (by decide) ?_
        refine zic_ne (tgt := 51) X dX5_weightOf_44 (by decide) hf (fun hf => ?_) (fun hf => ?_)
        · refine lv_bipush (v := 10) X.1.1 X.1.2.1 dX5_weightOf_51 (by decide) ?_
          refine lv_iload_n X.1.1 X.1.2.1 dX5_weightOf_53 rfl (lv_at hl 2 rfl) ?_
          refine lv_isub X.1.1 X.1.2.1 dX5_weightOf_54 ?_
          exact w_X5_weightOf_b55 X hr hlk _ ih _ _ _ _ _ _ _ _ _ hf G (lv_sub hl [0, 1, 2, 4] rfl)
        · refine lv_iload_n X.1.1 X.1.2.1 dX5_weightOf_47 rfl (lv_at hl 2 rfl) ?_
          refine lv_goto (tgt := 55) X.1.1 X.1.2.1 dX5_weightOf_48 (by decide) ?_
          exact w_X5_weightOf_b55 X hr hlk _ ih _ _ _ _ _ _ _ _ _ hf G (lv_sub hl [0, 1, 2, 4] rfl)
set_option maxHeartbeats 4000000 in
set_option maxRecDepth 100000 in
theorem m_X5_weightOf (l : Launch) (D : va_G) (dA : Nat → ClassId) (b0 : Nat) (r0 : Nat) (r1 : Nat) (a2 : Int32) (a3 : Int32) (h : zH) (z : Int32) (hf : f_X5_weightOf r0 r1 a2 a3 h = some z) : Met l yX5_weightOf wsX5_weightOf rmX5_weightOf (zPc D dA b0 [.ref (b0 + r0), .ref (b0 + r1), .int a2, .int a3] h) (zQ D dA b0 (some (.int z)) h) 0 0 (zA b0) := by
  refine Met.ofW (cc := cX5_weightOf) (maxL := 6) (ret := (some .int)) (by decide) rfl ?_
  intro p e s m args below meth c s₁ B hml hv
  obtain ⟨rfl, hP, hz, hK, hN⟩ := hv
  have hr := B.returns
  have hlk := B.notSynchronized
  have X : zX p s m _ c cX5_weightOf 6 RX5 wsX5_weightOf D dA := ⟨⟨B.exec, B.bytes, hml, findClass_of_methodNamed B.named, atoms_spec (ws := wsX5_weightOf) B.pre⟩, hK, hN⟩
  have G : zG D dA b0 s.heap h s.heap [] := ⟨hP, hz, va_S.rf⟩
  have hl := lv_entry ([.ref (b0 + r0), .ref (b0 + r1), .int a2, .int a3]) (n := 6) (Nat.le_of_ble_eq_true rfl)
  rw [lg_entry_eq]
  generalize (lg_sl ([.ref (b0 + r0), .ref (b0 + r1), .int a2, .int a3]) ++ List.replicate (6 - (lg_sl ([.ref (b0 + r0), .ref (b0 + r1), .int a2, .int a3])).length) Slot.unset).toArray = ls at hl ⊢
  have hl : lv_has ls 6 [(0, .ref (b0 + r0)), (1, .ref (b0 + r1)), (2, .int a2), (3, .int a3)] := hl
  unfold f_X5_weightOf at hf
  refine lv_iload_n X.1.1 X.1.2.1 dX5_weightOf_0 rfl (lv_at hl 2 rfl) ?_
  refine lv_aload_n X.1.1 X.1.2.1 dX5_weightOf_1 rfl (lv_at hl 1 rfl) ?_
  obtain ⟨hk, hf⟩ := zck hf
  obtain ⟨q1, eq1, hf⟩ := Option.bind_eq_some_iff.mp hf
  refine zcV0 (As := []) (rest := [.int a2]) (v := (some (.int q1))) (h' := h) X G (rfl : vwCl[3]? = some (RX3, TX3, 12)) hk (m_X3_allUp l D dA b0 r1 h q1 eq1) (cwV 0 X.1.2.2.2.2 gX5_weightOf_X3_allUp rfl rfl rfl hdV_X3_allUp ⟨(Nat.le_of_ble_eq_true rfl), (Nat.le_of_ble_eq_true rfl)⟩) rfl hl.1 rfl (Nat.le_of_ble_eq_true rfl) dX5_weightOf_2 ⟨Nat.zero_le _, Nat.zero_le _⟩ (fun H locs G => ?_)
  refine lv_iand X.1.1 X.1.2.1 dX5_weightOf_5 ?_
  refine zif_eq (tgt := 11) X dX5_weightOf_6 (by decide) hf (fun hf => ?_) (fun hf => ?_)
  · refine lv_iconst (v := 1) X.1.1 X.1.2.1 dX5_weightOf_11 (by decide) ?_
    refine lv_istore (lv' := [(4, .int (1 : Int32)), (0, .ref (b0 + r0)), (1, .ref (b0 + r1)), (2, .int a2), (3, .int a3)]) X.1.1 X.1.2.1 dX5_weightOf_12 hl (by decide) rfl (fun ls hl => ?_)
    refine lv_iconst (v := 0) X.1.1 X.1.2.1 dX5_weightOf_14 (by decide) ?_
    refine lv_istore (lv' := [(5, .int (0 : Int32)), (4, .int (1 : Int32)), (0, .ref (b0 + r0)), (1, .ref (b0 + r1)), (2, .int a2), (3, .int a3)]) X.1.1 X.1.2.1 dX5_weightOf_15 hl (by decide) rfl (fun ls hl => ?_)
    exact w_X5_weightOf_b17 X hr hlk _ _ _ _ _ _ _ _ _ hf G (lv_sub hl [3, 4, 5, 1, 0] rfl)
  · refine lv_iconst (v := 0) X.1.1 X.1.2.1 dX5_weightOf_9 (by decide) ?_
    exact zretIr X hr hlk G hf dX5_weightOf_10
/-! X5_letDig -/
abbrev rmX5_letDig : Room := { frames := 0, cells := 0, slots := 0, locals := 0 }
theorem hdV_X5_letDig : yX5_letDig.cls = RX5 ∧ yX5_letDig.cls ≠ "java/lang/invoke/MethodHandle" ∧ yX5_letDig.cls ≠ "java/lang/invoke/VarHandle" ∧ (parseMethodDescriptor yX5_letDig.desc).map (fun d => d.parameters.length) = some 1 := by decide +kernel
theorem inX5_letDig_X5 : ∀ w ∈ wsX50, w ∈ wsX5_letDig := by decide +kernel
theorem flX5_letDig_12 : Cond.fieldLink RX5 12 (TX5 0).1 (TX5 0).2.1 (TX5 0).2.2.1 ∈ wsX5_letDig := by decide +kernel
theorem inX5_letDig_X3 : ∀ w ∈ wsX30, w ∈ wsX5_letDig := by decide +kernel
theorem flX5_letDig_69 : Cond.fieldLink RX5 69 (TX3 1).1 (TX3 1).2.1 (TX3 1).2.2.1 ∈ wsX5_letDig := by decide +kernel
theorem flX5_letDig_50 : Cond.fieldLink RX5 50 (TX3 7).1 (TX3 7).2.1 (TX3 7).2.2.1 ∈ wsX5_letDig := by decide +kernel
set_option maxHeartbeats 4000000 in
set_option maxRecDepth 100000 in
theorem w_X5_letDig_b2 {p : Program} {l : Launch} {e : Env} {s : State} {m : MethodId} {args : Array Value} {below : List Frame} {meth : Method} {c : Code} {D : va_G} {dA : Nat → ClassId} {b0 : Nat} (X : zX p s m args c cX5_letDig 3 RX5 wsX5_letDig D dA) (hr : meth.sig.returnType = none) (hlk : meth.locks = false) {z : zH} : ∀ (n : Nat), ∀ (r0 : Nat) (a1 : Int32) (a2 : Int32) (h : zH) (H : Heap) (locs : List Loc) (ls : Array Slot), f_X5_letDig_b2 n r0 a1 a2 h = some z → zG D dA b0 s.heap h H locs → lv_has ls 3 [(0, .ref (b0 + r0)), (1, .int a1), (2, .int a2)] → W p l e rmX5_letDig s m args below meth c H locs 0 0 (MQ below (zQ D dA b0 none z) args s 0 0 (zA b0)) (F0 m 2 ls []) := by
  intro n
  induction n with
  | zero =>
    intro r0 a1 a2 h H locs ls hf
    cases hf
  | succ n ih =>
    intro r0 a1 a2 h H locs ls hf G hl
    rw [f_X5_letDig_b2] at hf
    refine lv_iload_n X.1.1 X.1.2.1 dX5_letDig_2 rfl (lv_at hl 2 rfl) ?_
    refine lv_aload_n X.1.1 X.1.2.1 dX5_letDig_3 rfl (lv_at hl 0 rfl) ?_
    refine zgetR (ci := 5) (k := 0) (C := RX5) (T := TX5) (N := 2) X G rfl inX5_letDig_X5 (Nat.le_of_ble_eq_true rfl) flX5_letDig_12 dX5_letDig_4 hf (fun v1 hf => ?_)
    refine zgetI (ci := 3) (k := 1) (C := RX3) (T := TX3) (N := 12) X G rfl inX5_letDig_X3 (Nat.le_of_ble_eq_true rfl) flX5_letDig_69 dX5_letDig_7 hf (fun v2 hf => ?_)
    refine zic_ge (tgt := 36) X dX5_letDig_10 (by decide) hf (fun hf => ?_) (fun hf => ?_)
    · exact zretV X hr hlk G hf dX5_letDig_36
    · refine lv_aload_n X.1.1 X.1.2.1 dX5_letDig_13 rfl (lv_at hl 0 rfl) ?_
      refine zgetR (ci := 5) (k := 0) (C := RX5) (T := TX5) (N := 2) X G rfl inX5_letDig_X5 (Nat.le_of_ble_eq_true rfl) flX5_letDig_12 dX5_letDig_14 hf (fun v3 hf => ?_)
      refine zgetR (ci := 3) (k := 7) (C := RX3) (T := TX3) (N := 12) X G rfl inX5_letDig_X3 (Nat.le_of_ble_eq_true rfl) flX5_letDig_50 dX5_letDig_17 hf (fun v4 hf => ?_)
      refine lv_iload_n X.1.1 X.1.2.1 dX5_letDig_20 rfl (lv_at hl 2 rfl) ?_
      refine lv_dup2_11 X.1.1 X.1.2.1 dX5_letDig_21 rfl rfl ?_
      refine ziald X G dX5_letDig_22 hf (fun v5 hf => ?_)
      refine lv_iload_n X.1.1 X.1.2.1 dX5_letDig_23 rfl (lv_at hl 1 rfl) ?_
      refine lv_iload_n X.1.1 X.1.2.1 dX5_letDig_24 rfl (lv_at hl 2 rfl) ?_
      refine lv_ishr X.1.1 X.1.2.1 dX5_letDig_25 ?_
      refine lv_iconst (v := 1) X.1.1 X.1.2.1 dX5_letDig_26 (by decide) ?_
      refine lv_iand X.1.1 X.1.2.1 dX5_letDig_27 ?_
      refine lv_isub X.1.1 X.1.2.1 dX5_letDig_28 ?_
      refine ziast X G dX5_letDig_29 hf (fun h6 H locs hf G => ?_)
      refine lv_iinc (v := (a2 + (1 : Int32))) (lv' := [(2, .int (a2 + (1 : Int32))), (0, .ref (b0 + r0)), (1, .int a1)]) X.1.1 X.1.2.1 dX5_letDig_30 hl (k := 2) rfl rfl (by decide) rfl (fun ls hl => ?_)
      refine lv_goto (tgt := 2) X.1.1 X.1.2.1 dX5_letDig_33 (by decide) ?_
      exact ih _ _ _ _ _ _ _ hf G (lv_sub hl [1, 2, 0] rfl)
set_option maxHeartbeats 4000000 in
set_option maxRecDepth 100000 in
theorem m_X5_letDig (l : Launch) (D : va_G) (dA : Nat → ClassId) (b0 : Nat) (r0 : Nat) (a1 : Int32) (h : zH) (z : zH) (hf : f_X5_letDig r0 a1 h = some z) : Met l yX5_letDig wsX5_letDig rmX5_letDig (zPc D dA b0 [.ref (b0 + r0), .int a1] h) (zQ D dA b0 none z) 0 0 (zA b0) := by
  refine Met.ofW (cc := cX5_letDig) (maxL := 3) (ret := none) (by decide) rfl ?_
  intro p e s m args below meth c s₁ B hml hv
  obtain ⟨rfl, hP, hz, hK, hN⟩ := hv
  have hr := B.returns
  have hlk := B.notSynchronized
  have X : zX p s m _ c cX5_letDig 3 RX5 wsX5_letDig D dA := ⟨⟨B.exec, B.bytes, hml, findClass_of_methodNamed B.named, atoms_spec (ws := wsX5_letDig) B.pre⟩, hK, hN⟩
  have G : zG D dA b0 s.heap h s.heap [] := ⟨hP, hz, va_S.rf⟩
  have hl := lv_entry ([.ref (b0 + r0), .int a1]) (n := 3) (Nat.le_of_ble_eq_true rfl)
  rw [lg_entry_eq]
  generalize (lg_sl ([.ref (b0 + r0), .int a1]) ++ List.replicate (3 - (lg_sl ([.ref (b0 + r0), .int a1])).length) Slot.unset).toArray = ls at hl ⊢
  have hl : lv_has ls 3 [(0, .ref (b0 + r0)), (1, .int a1)] := hl
  unfold f_X5_letDig at hf
  refine lv_iconst (v := 0) X.1.1 X.1.2.1 dX5_letDig_0 (by decide) ?_
  refine lv_istore_n (lv' := [(2, .int (0 : Int32)), (0, .ref (b0 + r0)), (1, .int a1)]) X.1.1 X.1.2.1 dX5_letDig_1 rfl hl (by decide) rfl (fun ls hl => ?_)
  exact w_X5_letDig_b2 X hr hlk _ _ _ _ _ _ _ _ hf G (lv_sub hl [1, 2, 0] rfl)
/-! X5_weightOfNoneUp -/
abbrev rmX5_weightOfNoneUp : Room := { frames := 4, cells := 0, slots := 0, locals := 105 }
theorem hdV_X5_weightOfNoneUp : yX5_weightOfNoneUp.cls = RX5 ∧ yX5_weightOfNoneUp.cls ≠ "java/lang/invoke/MethodHandle" ∧ yX5_weightOfNoneUp.cls ≠ "java/lang/invoke/VarHandle" ∧ (parseMethodDescriptor yX5_weightOfNoneUp.desc).map (fun d => d.parameters.length) = some 3 := by decide +kernel
theorem inX5_weightOfNoneUp_X3 : ∀ w ∈ wsX30, w ∈ wsX5_weightOfNoneUp := by decide +kernel
theorem flX5_weightOfNoneUp_69 : Cond.fieldLink RX5 69 (TX3 1).1 (TX3 1).2.1 (TX3 1).2.2.1 ∈ wsX5_weightOfNoneUp := by decide +kernel
theorem inX5_weightOfNoneUp_X5 : ∀ w ∈ wsX50, w ∈ wsX5_weightOfNoneUp := by decide +kernel
theorem flX5_weightOfNoneUp_12 : Cond.fieldLink RX5 12 (TX5 0).1 (TX5 0).2.1 (TX5 0).2.2.1 ∈ wsX5_weightOfNoneUp := by decide +kernel
set_option maxHeartbeats 4000000 in
set_option maxRecDepth 100000 in
theorem w_X5_weightOfNoneUp_b77 {p : Program} {l : Launch} {e : Env} {s : State} {m : MethodId} {args : Array Value} {below : List Frame} {meth : Method} {c : Code} {D : va_G} {dA : Nat → ClassId} {b0 : Nat} (X : zX p s m args c cX5_weightOfNoneUp 8 RX5 wsX5_weightOfNoneUp D dA) (hr : meth.sig.returnType = (some .int)) (hlk : meth.locks = false) {z : Int32 × zH} (k12 : Nat → Nat → Int32 → Int32 → Int32 → Int32 → Int32 → zH → Option (Int32 × zH)) (hk12 : ∀ (r0 : Nat) (r1 : Nat) (a2 : Int32) (a3 : Int32) (a4 : Int32) (a5 : Int32) (a6 : Int32) (h : zH) (H : Heap) (locs : List Loc) (ls : Array Slot), k12 r0 r1 a2 a3 a4 a5 a6 h = some z → zG D dA b0 s.heap h H locs → lv_has ls 8 [(0, .ref (b0 + r0)), (1, .ref (b0 + r1)), (2, .int a2), (3, .int a3), (4, .int a4), (5, .int a5), (6, .int a6)] → W p l e rmX5_weightOfNoneUp s m args below meth c H locs 0 0 (MQ below (zQ D dA b0 (some (.int z.1)) z.2) args s 0 0 (zA b0)) (F0 m 12 ls [])) : ∀ (r0 : Nat) (r1 : Nat) (a2 : Int32) (a3 : Int32) (a4 : Int32) (a6 : Int32) (s0 : Int32) (s1 : Int32) (h : zH) (H : Heap) (locs : List Loc) (ls : Array Slot), f_X5_weightOfNoneUp_b77 k12 r0 r1 a2 a3 a4 a6 s0 s1 h = some z → zG D dA b0 s.heap h H locs → lv_has ls 8 [(0, .ref (b0 + r0)), (1, .ref (b0 + r1)), (2, .int a2), (3, .int a3), (4, .int a4), (6, .int a6)] → W p l e rmX5_weightOfNoneUp s m args below meth c H locs 0 0 (MQ below (zQ D dA b0 (some (.int z.1)) z.2) args s 0 0 (zA b0)) (F0 m 77 ls [.int s1, .int s0]) := by
  intro r0 r1 a2 a3 a4 a6 s0 s1 h H locs ls hf G hl
  unfold f_X5_weightOfNoneUp_b77 at hf
  refine lv_iadd X.1.1 X.1.2.1 dX5_weightOfNoneUp_77 ?_
  refine zleti hf (fun x1 hf => ?_)
  refine lv_istore (lv' := [(5, .int x1), (0, .ref (b0 + r0)), (1, .ref (b0 + r1)), (2, .int a2), (3, .int a3), (4, .int a4), (6, .int a6)]) X.1.1 X.1.2.1 dX5_weightOfNoneUp_78 hl (by decide) rfl (fun ls hl => ?_)
  refine lv_iinc (v := (a6 + (1 : Int32))) (lv' := [(6, .int (a6 + (1 : Int32))), (5, .int x1), (0, .ref (b0 + r0)), (1, .ref (b0 + r1)), (2, .int a2), (3, .int a3), (4, .int a4)]) X.1.1 X.1.2.1 dX5_weightOfNoneUp_80 hl (k := 6) rfl rfl (by decide) rfl (fun ls hl => ?_)
  refine lv_goto (tgt := 12) X.1.1 X.1.2.1 dX5_weightOfNoneUp_83 (by decide) ?_
  exact hk12 _ _ _ _ _ _ _ _ _ _ _ hf G (lv_sub hl [2, 3, 4, 5, 6, 1, 0] rfl)
set_option maxHeartbeats 4000000 in
set_option maxRecDepth 100000 in
theorem w_X5_weightOfNoneUp_b12 {p : Program} {l : Launch} {e : Env} {s : State} {m : MethodId} {args : Array Value} {below : List Frame} {meth : Method} {c : Code} {D : va_G} {dA : Nat → ClassId} {b0 : Nat} (X : zX p s m args c cX5_weightOfNoneUp 8 RX5 wsX5_weightOfNoneUp D dA) (hr : meth.sig.returnType = (some .int)) (hlk : meth.locks = false) {z : Int32 × zH} : ∀ (n : Nat), ∀ (r0 : Nat) (r1 : Nat) (a2 : Int32) (a3 : Int32) (a4 : Int32) (a5 : Int32) (a6 : Int32) (h : zH) (H : Heap) (locs : List Loc) (ls : Array Slot), f_X5_weightOfNoneUp_b12 n r0 r1 a2 a3 a4 a5 a6 h = some z → zG D dA b0 s.heap h H locs → lv_has ls 8 [(0, .ref (b0 + r0)), (1, .ref (b0 + r1)), (2, .int a2), (3, .int a3), (4, .int a4), (5, .int a5), (6, .int a6)] → W p l e rmX5_weightOfNoneUp s m args below meth c H locs 0 0 (MQ below (zQ D dA b0 (some (.int z.1)) z.2) args s 0 0 (zA b0)) (F0 m 12 ls []) := by
  intro n
  induction n with
  | zero =>
    intro r0 r1 a2 a3 a4 a5 a6 h H locs ls hf
    cases hf
  | succ n ih =>
    intro r0 r1 a2 a3 a4 a5 a6 h H locs ls hf G hl
    rw [f_X5_weightOfNoneUp_b12] at hf
    refine lv_iload X.1.1 X.1.2.1 dX5_weightOfNoneUp_12 (lv_at hl 6 rfl) ?_
    refine lv_iconst (v := 1) X.1.1 X.1.2.1 dX5_weightOfNoneUp_14 (by decide) ?_
    refine lv_aload_n X.1.1 X.1.2.1 dX5_weightOfNoneUp_15 rfl (lv_at hl 1 rfl) ?_
    refine zgetI (ci := 3) (k := 1) (C := RX3) (T := TX3) (N := 12) X G rfl inX5_weightOfNoneUp_X3 (Nat.le_of_ble_eq_true rfl) flX5_weightOfNoneUp_69 dX5_weightOfNoneUp_16 hf (fun v1 hf => ?_)
    refine lv_ishl X.1.1 X.1.2.1 dX5_weightOfNoneUp_19 ?_
    refine zic_ge (tgt := 86) X dX5_weightOfNoneUp_20 (by decide) hf (fun hf => ?_) (fun hf => ?_)
    · refine lv_iload X.1.1 X.1.2.1 dX5_weightOfNoneUp_86 (lv_at hl 5 rfl) ?_
      exact zretI X hr hlk G hf dX5_weightOfNoneUp_88
    · refine lv_aload_n X.1.1 X.1.2.1 dX5_weightOfNoneUp_23 rfl (lv_at hl 0 rfl) ?_
      refine lv_aload_n X.1.1 X.1.2.1 dX5_weightOfNoneUp_24 rfl (lv_at hl 1 rfl) ?_
      refine lv_iload X.1.1 X.1.2.1 dX5_weightOfNoneUp_25 (lv_at hl 6 rfl) ?_
      refine lv_iload_n X.1.1 X.1.2.1 dX5_weightOfNoneUp_27 rfl (lv_at hl 3 rfl) ?_
      obtain ⟨hk, hf⟩ := zck hf
      obtain ⟨q2, eq2, hf⟩ := Option.bind_eq_some_iff.mp hf
      refine zcV0 (As := [.ref (b0 + r1), .int a6, .int a3]) (rest := []) (v := (some (.int q2))) (h' := h) X G (rfl : vwCl[5]? = some (RX5, TX5, 2)) hk (m_X5_weightOf l D dA b0 r0 r1 a6 a3 h q2 eq2) (cwV 3 X.1.2.2.2.2 gX5_weightOfNoneUp_X5_weightOf rfl rfl rfl hdV_X5_weightOf ⟨(Nat.le_of_ble_eq_true rfl), (Nat.le_of_ble_eq_true rfl)⟩) rfl hl.1 rfl (Nat.le_of_ble_eq_true rfl) dX5_weightOfNoneUp_28 ⟨Nat.zero_le _, Nat.zero_le _⟩ (fun H locs G => ?_)
      refine lv_istore (lv' := [(7, .int q2), (0, .ref (b0 + r0)), (1, .ref (b0 + r1)), (2, .int a2), (3, .int a3), (4, .int a4), (5, .int a5), (6, .int a6)]) X.1.1 X.1.2.1 dX5_weightOfNoneUp_31 hl (by decide) rfl (fun ls hl => ?_)
      refine lv_iload X.1.1 X.1.2.1 dX5_weightOfNoneUp_33 (lv_at hl 0 rfl) ?_
      refine zif_le (tgt := 80) X dX5_weightOfNoneUp_35 (by decide) hf (fun hf => ?_) (fun hf => ?_)
      · refine lv_iinc (v := (a6 + (1 : Int32))) (lv' := [(6, .int (a6 + (1 : Int32))), (7, .int q2), (0, .ref (b0 + r0)), (1, .ref (b0 + r1)), (2, .int a2), (3, .int a3), (4, .int a4), (5, .int a5)]) X.1.1 X.1.2.1 dX5_weightOfNoneUp_80 hl (k := 7) rfl rfl (by decide) rfl (fun ls hl => ?_)
        refine lv_goto (tgt := 12) X.1.1 X.1.2.1 dX5_weightOfNoneUp_83 (by decide) ?_
        exact ih _ _ _ _ _ _ _ _ _ _ _ hf G (lv_sub hl [2, 3, 4, 5, 6, 7, 0] rfl)
      · refine lv_aload_n X.1.1 X.1.2.1 dX5_weightOfNoneUp_38 rfl (lv_at hl 1 rfl) ?_
        refine zgetR (ci := 5) (k := 0) (C := RX5) (T := TX5) (N := 2) X G rfl inX5_weightOfNoneUp_X5 (Nat.le_of_ble_eq_true rfl) flX5_weightOfNoneUp_12 dX5_weightOfNoneUp_39 hf (fun v3 hf => ?_)
        refine lv_aload_n X.1.1 X.1.2.1 dX5_weightOfNoneUp_42 rfl (lv_at hl 2 rfl) ?_
        obtain ⟨hk, hf⟩ := zck hf
        obtain ⟨q4, eq4, hf⟩ := Option.bind_eq_some_iff.mp hf
        refine zcV0 (As := [.ref (b0 + r1)]) (rest := []) (v := none) (h' := q4) X G (rfl : vwCl[3]? = some (RX3, TX3, 12)) hk (m_X3_become l D dA b0 v3 r1 h q4 eq4) (cwV 1 X.1.2.2.2.2 gX5_weightOfNoneUp_X3_become rfl rfl rfl hdV_X3_become ⟨(Nat.le_of_ble_eq_true rfl), (Nat.le_of_ble_eq_true rfl)⟩) rfl hl.1 rfl (Nat.le_of_ble_eq_true rfl) dX5_weightOfNoneUp_43 ⟨Nat.zero_le _, Nat.zero_le _⟩ (fun H locs G => ?_)
        refine lv_aload_n X.1.1 X.1.2.1 dX5_weightOfNoneUp_46 rfl (lv_at hl 1 rfl) ?_
        refine lv_iload X.1.1 X.1.2.1 dX5_weightOfNoneUp_47 (lv_at hl 7 rfl) ?_
        obtain ⟨hk, hf⟩ := zck hf
        obtain ⟨q5, eq5, hf⟩ := Option.bind_eq_some_iff.mp hf
        refine zcV0 (As := [.int a6]) (rest := []) (v := none) (h' := q5) X G (rfl : vwCl[5]? = some (RX5, TX5, 2)) hk (m_X5_letDig l D dA b0 r0 a6 q4 q5 eq5) (cwV 1 X.1.2.2.2.2 gX5_weightOfNoneUp_X5_letDig rfl rfl rfl hdV_X5_letDig ⟨(Nat.le_of_ble_eq_true rfl), (Nat.le_of_ble_eq_true rfl)⟩) rfl hl.1 rfl (Nat.le_of_ble_eq_true rfl) dX5_weightOfNoneUp_49 ⟨Nat.zero_le _, Nat.zero_le _⟩ (fun H locs G => ?_)
        refine lv_aload_n X.1.1 X.1.2.1 dX5_weightOfNoneUp_52 rfl (lv_at hl 1 rfl) ?_
        refine lv_iload_n X.1.1 X.1.2.1 dX5_weightOfNoneUp_53 rfl (lv_at hl 3 rfl) ?_
        obtain ⟨hk, hf⟩ := zck hf
        obtain ⟨q6, eq6, hf⟩ := Option.bind_eq_some_iff.mp hf
        refine zcV0 (As := [.int a2]) (rest := []) (v := none) (h' := q6) X G (rfl : vwCl[5]? = some (RX5, TX5, 2)) hk (m_X5_passYears l D dA b0 r0 a2 q5 q6 eq6) (cwV 1 X.1.2.2.2.2 gX5_weightOfNoneUp_X5_passYears rfl rfl rfl hdV_X5_passYears ⟨(Nat.le_of_ble_eq_true rfl), (Nat.le_of_ble_eq_true rfl)⟩) rfl hl.1 rfl (Nat.le_of_ble_eq_true rfl) dX5_weightOfNoneUp_54 ⟨Nat.zero_le _, Nat.zero_le _⟩ (fun H locs G => ?_)
        refine lv_iload X.1.1 X.1.2.1 dX5_weightOfNoneUp_57 (lv_at hl 6 rfl) ?_
        refine lv_aload_n X.1.1 X.1.2.1 dX5_weightOfNoneUp_59 rfl (lv_at hl 1 rfl) ?_
        refine zgetR (ci := 5) (k := 0) (C := RX5) (T := TX5) (N := 2) X G rfl inX5_weightOfNoneUp_X5 (Nat.le_of_ble_eq_true rfl) flX5_weightOfNoneUp_12 dX5_weightOfNoneUp_60 hf (fun v7 hf => ?_)
        obtain ⟨hk, hf⟩ := zck hf
        obtain ⟨q8, eq8, hf⟩ := Option.bind_eq_some_iff.mp hf
        refine zcV0 (As := []) (rest := [.int a5]) (v := (some (.int q8))) (h' := q6) X G (rfl : vwCl[3]? = some (RX3, TX3, 12)) hk (m_X3_allUp l D dA b0 v7 q6 q8 eq8) (cwV 0 X.1.2.2.2.2 gX5_weightOfNoneUp_X3_allUp rfl rfl rfl hdV_X3_allUp ⟨(Nat.le_of_ble_eq_true rfl), (Nat.le_of_ble_eq_true rfl)⟩) rfl hl.1 rfl (Nat.le_of_ble_eq_true rfl) dX5_weightOfNoneUp_63 ⟨Nat.zero_le _, Nat.zero_le _⟩ (fun H locs G => ?_)
        refine lv_iload X.1.1 X.1.2.1 dX5_weightOfNoneUp_66 (lv_at hl 5 rfl) ?_
        refine zic_ne (tgt := 76) X dX5_weightOfNoneUp_68 (by decide) hf (fun hf => ?_) (fun hf => ?_)
        · refine lv_iconst (v := 0) X.1.1 X.1.2.1 dX5_weightOfNoneUp_76 (by decide) ?_
          exact w_X5_weightOfNoneUp_b77 X hr hlk _ ih _ _ _ _ _ _ _ _ _ _ _ _ hf G (lv_sub hl [1, 2, 3, 4, 5, 7] rfl)
        · refine lv_iload X.1.1 X.1.2.1 dX5_weightOfNoneUp_71 (lv_at hl 0 rfl) ?_
          refine lv_goto (tgt := 77) X.1.1 X.1.2.1 dX5_weightOfNoneUp_73 (by decide) ?_
          exact w_X5_weightOfNoneUp_b77 X hr hlk _ ih _ _ _ _ _ _ _ _ _ _ _ _ hf G (lv_sub hl [1, 2, 3, 4, 5, 7] rfl)
set_option maxHeartbeats 4000000 in
set_option maxRecDepth 100000 in
theorem m_X5_weightOfNoneUp (l : Launch) (D : va_G) (dA : Nat → ClassId) (b0 : Nat) (r0 : Nat) (r1 : Nat) (a2 : Int32) (a3 : Int32) (h : zH) (z : Int32 × zH) (hf : f_X5_weightOfNoneUp r0 r1 a2 a3 h = some z) : Met l yX5_weightOfNoneUp wsX5_weightOfNoneUp rmX5_weightOfNoneUp (zPc D dA b0 [.ref (b0 + r0), .ref (b0 + r1), .int a2, .int a3] h) (zQ D dA b0 (some (.int z.1)) z.2) 0 0 (zA b0) := by
  refine Met.ofW (cc := cX5_weightOfNoneUp) (maxL := 8) (ret := (some .int)) (by decide) rfl ?_
  intro p e s m args below meth c s₁ B hml hv
  obtain ⟨rfl, hP, hz, hK, hN⟩ := hv
  have hr := B.returns
  have hlk := B.notSynchronized
  have X : zX p s m _ c cX5_weightOfNoneUp 8 RX5 wsX5_weightOfNoneUp D dA := ⟨⟨B.exec, B.bytes, hml, findClass_of_methodNamed B.named, atoms_spec (ws := wsX5_weightOfNoneUp) B.pre⟩, hK, hN⟩
  have G : zG D dA b0 s.heap h s.heap [] := ⟨hP, hz, va_S.rf⟩
  have hl := lv_entry ([.ref (b0 + r0), .ref (b0 + r1), .int a2, .int a3]) (n := 8) (Nat.le_of_ble_eq_true rfl)
  rw [lg_entry_eq]
  generalize (lg_sl ([.ref (b0 + r0), .ref (b0 + r1), .int a2, .int a3]) ++ List.replicate (8 - (lg_sl ([.ref (b0 + r0), .ref (b0 + r1), .int a2, .int a3])).length) Slot.unset).toArray = ls at hl ⊢
  have hl : lv_has ls 8 [(0, .ref (b0 + r0)), (1, .ref (b0 + r1)), (2, .int a2), (3, .int a3)] := hl
  unfold f_X5_weightOfNoneUp at hf
  refine lv_aload_n X.1.1 X.1.2.1 dX5_weightOfNoneUp_0 rfl (lv_at hl 1 rfl) ?_
  obtain ⟨hk, hf⟩ := zck hf
  obtain ⟨q1, eq1, hf⟩ := Option.bind_eq_some_iff.mp hf
  refine zcV0 (As := []) (rest := []) (v := (some (.int q1))) (h' := h) X G (rfl : vwCl[3]? = some (RX3, TX3, 12)) hk (m_X3_allUp l D dA b0 r1 h q1 eq1) (cwV 0 X.1.2.2.2.2 gX5_weightOfNoneUp_X3_allUp rfl rfl rfl hdV_X3_allUp ⟨(Nat.le_of_ble_eq_true rfl), (Nat.le_of_ble_eq_true rfl)⟩) rfl hl.1 rfl (Nat.le_of_ble_eq_true rfl) dX5_weightOfNoneUp_1 ⟨Nat.zero_le _, Nat.zero_le _⟩ (fun H locs G => ?_)
  refine lv_istore (lv' := [(4, .int q1), (0, .ref (b0 + r0)), (1, .ref (b0 + r1)), (2, .int a2), (3, .int a3)]) X.1.1 X.1.2.1 dX5_weightOfNoneUp_4 hl (by decide) rfl (fun ls hl => ?_)
  refine lv_iconst (v := 0) X.1.1 X.1.2.1 dX5_weightOfNoneUp_6 (by decide) ?_
  refine lv_istore (lv' := [(5, .int (0 : Int32)), (4, .int q1), (0, .ref (b0 + r0)), (1, .ref (b0 + r1)), (2, .int a2), (3, .int a3)]) X.1.1 X.1.2.1 dX5_weightOfNoneUp_7 hl (by decide) rfl (fun ls hl => ?_)
  refine lv_iconst (v := 0) X.1.1 X.1.2.1 dX5_weightOfNoneUp_9 (by decide) ?_
  refine lv_istore (lv' := [(6, .int (0 : Int32)), (5, .int (0 : Int32)), (4, .int q1), (0, .ref (b0 + r0)), (1, .ref (b0 + r1)), (2, .int a2), (3, .int a3)]) X.1.1 X.1.2.1 dX5_weightOfNoneUp_10 hl (by decide) rfl (fun ls hl => ?_)
  exact w_X5_weightOfNoneUp_b12 X hr hlk _ _ _ _ _ _ _ _ _ _ _ _ hf G (lv_sub hl [3, 4, 5, 6, 2, 1, 0] rfl)
/-! X6_init -/
abbrev rmX6_init : Room := { frames := 1, cells := 1, slots := 100, locals := 40 }
theorem hdS_X6_init : yX6_init.cls ≠ "java/lang/invoke/MethodHandle" ∧ yX6_init.cls ≠ "java/lang/invoke/VarHandle" ∧ (parseMethodDescriptor yX6_init.desc).map (fun d => d.parameters.length) = some 0 := by decide +kernel
theorem wdX6_init_oL3 : Cond.methodLink RX6 3 objectInit ∈ wsX6_init := by decide +kernel
theorem wdX6_init_oI : Cond.instanceMethod objectInit ∈ wsX6_init := by decide +kernel
theorem wdX6_init_oC : Cond.code objectInit ⟨#[0xb1]⟩ 1 none ∈ wsX6_init := by decide +kernel
theorem wdX6_init_ac_int : Cond.arrayClass .int ∈ wsX6_init := by decide +kernel
theorem inX6_init_X6 : ∀ w ∈ wsX60, w ∈ wsX6_init := by decide +kernel
theorem flX6_init_9 : Cond.fieldLink RX6 9 (TX6 0).1 (TX6 0).2.1 (TX6 0).2.2.1 ∈ wsX6_init := by decide +kernel
theorem flX6_init_15 : Cond.fieldLink RX6 15 (TX6 1).1 (TX6 1).2.1 (TX6 1).2.2.1 ∈ wsX6_init := by decide +kernel
theorem flX6_init_19 : Cond.fieldLink RX6 19 (TX6 2).1 (TX6 2).2.1 (TX6 2).2.2.1 ∈ wsX6_init := by decide +kernel
theorem flX6_init_22 : Cond.fieldLink RX6 22 (TX6 3).1 (TX6 3).2.1 (TX6 3).2.2.1 ∈ wsX6_init := by decide +kernel
set_option maxHeartbeats 8000000 in
set_option maxRecDepth 100000 in
theorem m_X6_init (l : Launch) (D : va_G) (dA : Nat → ClassId) (b0 : Nat) (r0 : Nat) (h : zH) (z : zH) (hf : f_X6_init r0 h = some z) : Met l yX6_init wsX6_init rmX6_init (zPc D dA b0 [.ref (b0 + r0)] h) (zQ D dA b0 none z) 1 100 (zA b0) := by
  refine Met.ofW (cc := cX6_init) (maxL := 1) (ret := none) (by decide) rfl ?_
  intro p e s m args below meth c s₁ B hml hv
  obtain ⟨rfl, hP, hz, hK, hN⟩ := hv
  have hr := B.returns
  have hlk := B.notSynchronized
  have hin : meth.name = "<init>" := (name_of_methodNamed B.named B.method).1
  have hb0 : b0 ≤ s.heap.size := by rw [hz]; exact Nat.le_add_right _ _
  have X : zX p s m _ c cX6_init 1 RX6 wsX6_init D dA := ⟨⟨B.exec, B.bytes, hml, findClass_of_methodNamed B.named, atoms_spec (ws := wsX6_init) B.pre⟩, hK, hN⟩
  have G : zG D dA b0 s.heap h s.heap [] := ⟨hP, hz, va_S.rf⟩
  have hl := lv_entry ([.ref (b0 + r0)]) (n := 1) (Nat.le_of_ble_eq_true rfl)
  rw [lg_entry_eq]
  generalize (lg_sl ([.ref (b0 + r0)]) ++ List.replicate (1 - (lg_sl ([.ref (b0 + r0)])).length) Slot.unset).toArray = ls at hl ⊢
  have hl : lv_has ls 1 [(0, .ref (b0 + r0))] := hl
  unfold f_X6_init at hf
  refine lv_aload_n X.1.1 X.1.2.1 dX6_init_0 rfl (lv_at hl 0 rfl) ?_
  refine W.objInit X.1.1 X.1.2.1 X.1.2.2.2.1 (X.1.2.2.2.2 _ wdX6_init_oL3) (X.1.2.2.2.2 _ wdX6_init_oI) (X.1.2.2.2.2 _ wdX6_init_oC) rfl (hl.1.trans X.1.2.2.1.symm) rfl dX6_init_1 (Nat.le_of_ble_eq_true rfl) (Nat.le_of_ble_eq_true rfl) ?_
  refine W.eq (g2 := F0 m 4 ls []) rfl ?_
  refine lv_aload_n X.1.1 X.1.2.1 dX6_init_4 rfl (lv_at hl 0 rfl) ?_
  refine lv_bipush (v := 100) X.1.1 X.1.2.1 dX6_init_5 (by decide) ?_
  refine znewI (N := 100) X hb0 G wdX6_init_ac_int (by decide) (by decide) (Nat.le_of_ble_eq_true rfl) (Nat.le_of_ble_eq_true rfl) (Nat.le_of_ble_eq_true rfl) dX6_init_7 hf (fun q1 H hf G => ?_)
  refine W.widen (k := 1) (n := 100) (Nat.le_refl _) (Nat.le_refl _) ?_
  refine zputF (ty := (.array .int)) (ci := 6) (k := 0) (C := RX6) (T := TX6) (N := 4) X G rfl inX6_init_X6 tyX6_ok nmX6 (Nat.le_of_ble_eq_true rfl) flX6_init_9 rfl hin rfl (by decide +kernel) (fun _ => rfl) (fun _ => rfl) dX6_init_9 hf (fun h2 H locs hf G => ?_)
  refine lv_aload_n X.1.1 X.1.2.1 dX6_init_12 rfl (lv_at hl 0 rfl) ?_
  refine lv_iconst (v := 0) X.1.1 X.1.2.1 dX6_init_13 (by decide) ?_
  refine zputI (ci := 6) (k := 1) (C := RX6) (T := TX6) (N := 4) X G rfl inX6_init_X6 tyX6_ok nmX6 (Nat.le_of_ble_eq_true rfl) flX6_init_15 rfl (by decide +kernel) dX6_init_14 hf (fun h3 H locs hf G => ?_)
  refine lv_aload_n X.1.1 X.1.2.1 dX6_init_17 rfl (lv_at hl 0 rfl) ?_
  refine lv_iconst (v := 0) X.1.1 X.1.2.1 dX6_init_18 (by decide) ?_
  refine zputI (ci := 6) (k := 2) (C := RX6) (T := TX6) (N := 4) X G rfl inX6_init_X6 tyX6_ok nmX6 (Nat.le_of_ble_eq_true rfl) flX6_init_19 rfl (by decide +kernel) dX6_init_19 hf (fun h4 H locs hf G => ?_)
  refine lv_aload_n X.1.1 X.1.2.1 dX6_init_22 rfl (lv_at hl 0 rfl) ?_
  refine lv_iconst (v := 0) X.1.1 X.1.2.1 dX6_init_23 (by decide) ?_
  refine zputI (ci := 6) (k := 3) (C := RX6) (T := TX6) (N := 4) X G rfl inX6_init_X6 tyX6_ok nmX6 (Nat.le_of_ble_eq_true rfl) flX6_init_22 rfl (by decide +kernel) dX6_init_24 hf (fun h5 H locs hf G => ?_)
  exact zretV X hr hlk G hf dX6_init_27
/-! X6_append -/
abbrev rmX6_append : Room := { frames := 0, cells := 0, slots := 0, locals := 0 }
theorem hdV_X6_append : yX6_append.cls = RX6 ∧ yX6_append.cls ≠ "java/lang/invoke/MethodHandle" ∧ yX6_append.cls ≠ "java/lang/invoke/VarHandle" ∧ (parseMethodDescriptor yX6_append.desc).map (fun d => d.parameters.length) = some 1 := by decide +kernel
theorem inX6_append_X6 : ∀ w ∈ wsX60, w ∈ wsX6_append := by decide +kernel
theorem flX6_append_15 : Cond.fieldLink RX6 15 (TX6 1).1 (TX6 1).2.1 (TX6 1).2.2.1 ∈ wsX6_append := by decide +kernel
theorem flX6_append_9 : Cond.fieldLink RX6 9 (TX6 0).1 (TX6 0).2.1 (TX6 0).2.2.1 ∈ wsX6_append := by decide +kernel
set_option maxHeartbeats 4000000 in
set_option maxRecDepth 100000 in
theorem m_X6_append (l : Launch) (D : va_G) (dA : Nat → ClassId) (b0 : Nat) (r0 : Nat) (a1 : Int32) (h : zH) (z : zH) (hf : f_X6_append r0 a1 h = some z) : Met l yX6_append wsX6_append rmX6_append (zPc D dA b0 [.ref (b0 + r0), .int a1] h) (zQ D dA b0 none z) 0 0 (zA b0) := by
  refine Met.ofW (cc := cX6_append) (maxL := 2) (ret := none) (by decide) rfl ?_
  intro p e s m args below meth c s₁ B hml hv
  obtain ⟨rfl, hP, hz, hK, hN⟩ := hv
  have hr := B.returns
  have hlk := B.notSynchronized
  have X : zX p s m _ c cX6_append 2 RX6 wsX6_append D dA := ⟨⟨B.exec, B.bytes, hml, findClass_of_methodNamed B.named, atoms_spec (ws := wsX6_append) B.pre⟩, hK, hN⟩
  have G : zG D dA b0 s.heap h s.heap [] := ⟨hP, hz, va_S.rf⟩
  have hl := lv_entry ([.ref (b0 + r0), .int a1]) (n := 2) (Nat.le_of_ble_eq_true rfl)
  rw [lg_entry_eq]
  generalize (lg_sl ([.ref (b0 + r0), .int a1]) ++ List.replicate (2 - (lg_sl ([.ref (b0 + r0), .int a1])).length) Slot.unset).toArray = ls at hl ⊢
  have hl : lv_has ls 2 [(0, .ref (b0 + r0)), (1, .int a1)] := hl
  unfold f_X6_append at hf
  refine lv_aload_n X.1.1 X.1.2.1 dX6_append_0 rfl (lv_at hl 0 rfl) ?_
  refine zgetI (ci := 6) (k := 1) (C := RX6) (T := TX6) (N := 4) X G rfl inX6_append_X6 (Nat.le_of_ble_eq_true rfl) flX6_append_15 dX6_append_1 hf (fun v1 hf => ?_)
  refine lv_bipush (v := 100) X.1.1 X.1.2.1 dX6_append_4 (by decide) ?_
  refine zic_ge (tgt := 29) X dX6_append_6 (by decide) hf (fun hf => ?_) (fun hf => ?_)
  · exact zretV X hr hlk G hf dX6_append_29
  · refine lv_aload_n X.1.1 X.1.2.1 dX6_append_9 rfl (lv_at hl 0 rfl) ?_
    refine zgetR (ci := 6) (k := 0) (C := RX6) (T := TX6) (N := 4) X G rfl inX6_append_X6 (Nat.le_of_ble_eq_true rfl) flX6_append_9 dX6_append_10 hf (fun v2 hf => ?_)
    refine lv_aload_n X.1.1 X.1.2.1 dX6_append_13 rfl (lv_at hl 0 rfl) ?_
    refine zgetI (ci := 6) (k := 1) (C := RX6) (T := TX6) (N := 4) X G rfl inX6_append_X6 (Nat.le_of_ble_eq_true rfl) flX6_append_15 dX6_append_14 hf (fun v3 hf => ?_)
    refine lv_iload_n X.1.1 X.1.2.1 dX6_append_17 rfl (lv_at hl 1 rfl) ?_
    refine ziast X G dX6_append_18 hf (fun h4 H locs hf G => ?_)
    refine lv_aload_n X.1.1 X.1.2.1 dX6_append_19 rfl (lv_at hl 0 rfl) ?_
    refine lv_dup X.1.1 X.1.2.1 dX6_append_20 rfl ?_
    refine zgetI (ci := 6) (k := 1) (C := RX6) (T := TX6) (N := 4) X G rfl inX6_append_X6 (Nat.le_of_ble_eq_true rfl) flX6_append_15 dX6_append_21 hf (fun v5 hf => ?_)
    refine lv_iconst (v := 1) X.1.1 X.1.2.1 dX6_append_24 (by decide) ?_
    refine lv_iadd X.1.1 X.1.2.1 dX6_append_25 ?_
    refine zputI (ci := 6) (k := 1) (C := RX6) (T := TX6) (N := 4) X G rfl inX6_append_X6 tyX6_ok nmX6 (Nat.le_of_ble_eq_true rfl) flX6_append_15 rfl (by decide +kernel) dX6_append_26 hf (fun h6 H locs hf G => ?_)
    exact zretV X hr hlk G hf dX6_append_29
/-! X6_byteAt -/
abbrev rmX6_byteAt : Room := { frames := 0, cells := 0, slots := 0, locals := 0 }
theorem hdV_X6_byteAt : yX6_byteAt.cls = RX6 ∧ yX6_byteAt.cls ≠ "java/lang/invoke/MethodHandle" ∧ yX6_byteAt.cls ≠ "java/lang/invoke/VarHandle" ∧ (parseMethodDescriptor yX6_byteAt.desc).map (fun d => d.parameters.length) = some 1 := by decide +kernel
theorem inX6_byteAt_X6 : ∀ w ∈ wsX60, w ∈ wsX6_byteAt := by decide +kernel
theorem flX6_byteAt_15 : Cond.fieldLink RX6 15 (TX6 1).1 (TX6 1).2.1 (TX6 1).2.2.1 ∈ wsX6_byteAt := by decide +kernel
theorem flX6_byteAt_9 : Cond.fieldLink RX6 9 (TX6 0).1 (TX6 0).2.1 (TX6 0).2.2.1 ∈ wsX6_byteAt := by decide +kernel
set_option maxHeartbeats 4000000 in
set_option maxRecDepth 100000 in
theorem m_X6_byteAt (l : Launch) (D : va_G) (dA : Nat → ClassId) (b0 : Nat) (r0 : Nat) (a1 : Int32) (h : zH) (z : Int32) (hf : f_X6_byteAt r0 a1 h = some z) : Met l yX6_byteAt wsX6_byteAt rmX6_byteAt (zPc D dA b0 [.ref (b0 + r0), .int a1] h) (zQ D dA b0 (some (.int z)) h) 0 0 (zA b0) := by
  refine Met.ofW (cc := cX6_byteAt) (maxL := 2) (ret := (some .int)) (by decide) rfl ?_
  intro p e s m args below meth c s₁ B hml hv
  obtain ⟨rfl, hP, hz, hK, hN⟩ := hv
  have hr := B.returns
  have hlk := B.notSynchronized
  have X : zX p s m _ c cX6_byteAt 2 RX6 wsX6_byteAt D dA := ⟨⟨B.exec, B.bytes, hml, findClass_of_methodNamed B.named, atoms_spec (ws := wsX6_byteAt) B.pre⟩, hK, hN⟩
  have G : zG D dA b0 s.heap h s.heap [] := ⟨hP, hz, va_S.rf⟩
  have hl := lv_entry ([.ref (b0 + r0), .int a1]) (n := 2) (Nat.le_of_ble_eq_true rfl)
  rw [lg_entry_eq]
  generalize (lg_sl ([.ref (b0 + r0), .int a1]) ++ List.replicate (2 - (lg_sl ([.ref (b0 + r0), .int a1])).length) Slot.unset).toArray = ls at hl ⊢
  have hl : lv_has ls 2 [(0, .ref (b0 + r0)), (1, .int a1)] := hl
  unfold f_X6_byteAt at hf
  refine lv_iload_n X.1.1 X.1.2.1 dX6_byteAt_0 rfl (lv_at hl 1 rfl) ?_
  refine zif_lt (tgt := 27) X dX6_byteAt_1 (by decide) hf (fun hf => ?_) (fun hf => ?_)
  · refine lv_iconst (v := -1) X.1.1 X.1.2.1 dX6_byteAt_27 (by decide) ?_
    exact zretIr X hr hlk G hf dX6_byteAt_28
  · refine lv_iload_n X.1.1 X.1.2.1 dX6_byteAt_4 rfl (lv_at hl 1 rfl) ?_
    refine lv_aload_n X.1.1 X.1.2.1 dX6_byteAt_5 rfl (lv_at hl 0 rfl) ?_
    refine zgetI (ci := 6) (k := 1) (C := RX6) (T := TX6) (N := 4) X G rfl inX6_byteAt_X6 (Nat.le_of_ble_eq_true rfl) flX6_byteAt_15 dX6_byteAt_6 hf (fun v1 hf => ?_)
    refine zic_ge (tgt := 27) X dX6_byteAt_9 (by decide) hf (fun hf => ?_) (fun hf => ?_)
    · refine lv_iconst (v := -1) X.1.1 X.1.2.1 dX6_byteAt_27 (by decide) ?_
      exact zretIr X hr hlk G hf dX6_byteAt_28
    · refine lv_iload_n X.1.1 X.1.2.1 dX6_byteAt_12 rfl (lv_at hl 1 rfl) ?_
      refine lv_bipush (v := 100) X.1.1 X.1.2.1 dX6_byteAt_13 (by decide) ?_
      refine zic_ge (tgt := 27) X dX6_byteAt_15 (by decide) hf (fun hf => ?_) (fun hf => ?_)
      · refine lv_iconst (v := -1) X.1.1 X.1.2.1 dX6_byteAt_27 (by decide) ?_
        exact zretIr X hr hlk G hf dX6_byteAt_28
      · refine lv_aload_n X.1.1 X.1.2.1 dX6_byteAt_18 rfl (lv_at hl 0 rfl) ?_
        refine zgetR (ci := 6) (k := 0) (C := RX6) (T := TX6) (N := 4) X G rfl inX6_byteAt_X6 (Nat.le_of_ble_eq_true rfl) flX6_byteAt_9 dX6_byteAt_19 hf (fun v2 hf => ?_)
        refine lv_iload_n X.1.1 X.1.2.1 dX6_byteAt_22 rfl (lv_at hl 1 rfl) ?_
        refine ziald X G dX6_byteAt_23 hf (fun v3 hf => ?_)
        refine lv_goto (tgt := 28) X.1.1 X.1.2.1 dX6_byteAt_24 (by decide) ?_
        exact zretIr X hr hlk G hf dX6_byteAt_28
/-! X6_next -/
abbrev rmX6_next : Room := { frames := 1, cells := 0, slots := 0, locals := 21 }
theorem hdV_X6_next : yX6_next.cls = RX6 ∧ yX6_next.cls ≠ "java/lang/invoke/MethodHandle" ∧ yX6_next.cls ≠ "java/lang/invoke/VarHandle" ∧ (parseMethodDescriptor yX6_next.desc).map (fun d => d.parameters.length) = some 0 := by decide +kernel
theorem inX6_next_X6 : ∀ w ∈ wsX60, w ∈ wsX6_next := by decide +kernel
theorem flX6_next_19 : Cond.fieldLink RX6 19 (TX6 2).1 (TX6 2).2.1 (TX6 2).2.2.1 ∈ wsX6_next := by decide +kernel
set_option maxHeartbeats 4000000 in
set_option maxRecDepth 100000 in
theorem m_X6_next (l : Launch) (D : va_G) (dA : Nat → ClassId) (b0 : Nat) (r0 : Nat) (h : zH) (z : Int32) (hf : f_X6_next r0 h = some z) : Met l yX6_next wsX6_next rmX6_next (zPc D dA b0 [.ref (b0 + r0)] h) (zQ D dA b0 (some (.int z)) h) 0 0 (zA b0) := by
  refine Met.ofW (cc := cX6_next) (maxL := 1) (ret := (some .int)) (by decide) rfl ?_
  intro p e s m args below meth c s₁ B hml hv
  obtain ⟨rfl, hP, hz, hK, hN⟩ := hv
  have hr := B.returns
  have hlk := B.notSynchronized
  have X : zX p s m _ c cX6_next 1 RX6 wsX6_next D dA := ⟨⟨B.exec, B.bytes, hml, findClass_of_methodNamed B.named, atoms_spec (ws := wsX6_next) B.pre⟩, hK, hN⟩
  have G : zG D dA b0 s.heap h s.heap [] := ⟨hP, hz, va_S.rf⟩
  have hl := lv_entry ([.ref (b0 + r0)]) (n := 1) (Nat.le_of_ble_eq_true rfl)
  rw [lg_entry_eq]
  generalize (lg_sl ([.ref (b0 + r0)]) ++ List.replicate (1 - (lg_sl ([.ref (b0 + r0)])).length) Slot.unset).toArray = ls at hl ⊢
  have hl : lv_has ls 1 [(0, .ref (b0 + r0))] := hl
  unfold f_X6_next at hf
  refine lv_aload_n X.1.1 X.1.2.1 dX6_next_0 rfl (lv_at hl 0 rfl) ?_
  refine lv_aload_n X.1.1 X.1.2.1 dX6_next_1 rfl (lv_at hl 0 rfl) ?_
  refine zgetI (ci := 6) (k := 2) (C := RX6) (T := TX6) (N := 4) X G rfl inX6_next_X6 (Nat.le_of_ble_eq_true rfl) flX6_next_19 dX6_next_2 hf (fun v1 hf => ?_)
  obtain ⟨hk, hf⟩ := zck hf
  obtain ⟨q2, eq2, hf⟩ := Option.bind_eq_some_iff.mp hf
  refine zcV0 (As := [.int v1]) (rest := []) (v := (some (.int q2))) (h' := h) X G (rfl : vwCl[6]? = some (RX6, TX6, 4)) hk (m_X6_byteAt l D dA b0 r0 v1 h q2 eq2) (cwV 1 X.1.2.2.2.2 gX6_next_X6_byteAt rfl rfl rfl hdV_X6_byteAt ⟨(Nat.le_of_ble_eq_true rfl), (Nat.le_of_ble_eq_true rfl)⟩) rfl hl.1 rfl (Nat.le_of_ble_eq_true rfl) dX6_next_5 ⟨Nat.zero_le _, Nat.zero_le _⟩ (fun H locs G => ?_)
  exact zretIr X hr hlk G hf dX6_next_8
/-! X6_fail -/
abbrev rmX6_fail : Room := { frames := 0, cells := 0, slots := 0, locals := 0 }
theorem hdV_X6_fail : yX6_fail.cls = RX6 ∧ yX6_fail.cls ≠ "java/lang/invoke/MethodHandle" ∧ yX6_fail.cls ≠ "java/lang/invoke/VarHandle" ∧ (parseMethodDescriptor yX6_fail.desc).map (fun d => d.parameters.length) = some 1 := by decide +kernel
theorem inX6_fail_X6 : ∀ w ∈ wsX60, w ∈ wsX6_fail := by decide +kernel
theorem flX6_fail_22 : Cond.fieldLink RX6 22 (TX6 3).1 (TX6 3).2.1 (TX6 3).2.2.1 ∈ wsX6_fail := by decide +kernel
set_option maxHeartbeats 4000000 in
set_option maxRecDepth 100000 in
theorem m_X6_fail (l : Launch) (D : va_G) (dA : Nat → ClassId) (b0 : Nat) (r0 : Nat) (a1 : Int32) (h : zH) (z : zH) (hf : f_X6_fail r0 a1 h = some z) : Met l yX6_fail wsX6_fail rmX6_fail (zPc D dA b0 [.ref (b0 + r0), .int a1] h) (zQ D dA b0 none z) 0 0 (zA b0) := by
  refine Met.ofW (cc := cX6_fail) (maxL := 2) (ret := none) (by decide) rfl ?_
  intro p e s m args below meth c s₁ B hml hv
  obtain ⟨rfl, hP, hz, hK, hN⟩ := hv
  have hr := B.returns
  have hlk := B.notSynchronized
  have X : zX p s m _ c cX6_fail 2 RX6 wsX6_fail D dA := ⟨⟨B.exec, B.bytes, hml, findClass_of_methodNamed B.named, atoms_spec (ws := wsX6_fail) B.pre⟩, hK, hN⟩
  have G : zG D dA b0 s.heap h s.heap [] := ⟨hP, hz, va_S.rf⟩
  have hl := lv_entry ([.ref (b0 + r0), .int a1]) (n := 2) (Nat.le_of_ble_eq_true rfl)
  rw [lg_entry_eq]
  generalize (lg_sl ([.ref (b0 + r0), .int a1]) ++ List.replicate (2 - (lg_sl ([.ref (b0 + r0), .int a1])).length) Slot.unset).toArray = ls at hl ⊢
  have hl : lv_has ls 2 [(0, .ref (b0 + r0)), (1, .int a1)] := hl
  unfold f_X6_fail at hf
  refine lv_aload_n X.1.1 X.1.2.1 dX6_fail_0 rfl (lv_at hl 0 rfl) ?_
  refine zgetI (ci := 6) (k := 3) (C := RX6) (T := TX6) (N := 4) X G rfl inX6_fail_X6 (Nat.le_of_ble_eq_true rfl) flX6_fail_22 dX6_fail_1 hf (fun v1 hf => ?_)
  refine zif_ne (tgt := 12) X dX6_fail_4 (by decide) hf (fun hf => ?_) (fun hf => ?_)
  · exact zretV X hr hlk G hf dX6_fail_12
  · refine lv_aload_n X.1.1 X.1.2.1 dX6_fail_7 rfl (lv_at hl 0 rfl) ?_
    refine lv_iload_n X.1.1 X.1.2.1 dX6_fail_8 rfl (lv_at hl 1 rfl) ?_
    refine zputI (ci := 6) (k := 3) (C := RX6) (T := TX6) (N := 4) X G rfl inX6_fail_X6 tyX6_ok nmX6 (Nat.le_of_ble_eq_true rfl) flX6_fail_22 rfl (by decide +kernel) dX6_fail_9 hf (fun h2 H locs hf G => ?_)
    exact zretV X hr hlk G hf dX6_fail_12
/-! X6_pass -/
abbrev rmX6_pass : Room := { frames := 2, cells := 0, slots := 0, locals := 41 }
theorem hdV_X6_pass : yX6_pass.cls = RX6 ∧ yX6_pass.cls ≠ "java/lang/invoke/MethodHandle" ∧ yX6_pass.cls ≠ "java/lang/invoke/VarHandle" ∧ (parseMethodDescriptor yX6_pass.desc).map (fun d => d.parameters.length) = some 1 := by decide +kernel
theorem inX6_pass_X6 : ∀ w ∈ wsX60, w ∈ wsX6_pass := by decide +kernel
theorem flX6_pass_22 : Cond.fieldLink RX6 22 (TX6 3).1 (TX6 3).2.1 (TX6 3).2.2.1 ∈ wsX6_pass := by decide +kernel
theorem flX6_pass_19 : Cond.fieldLink RX6 19 (TX6 2).1 (TX6 2).2.1 (TX6 2).2.2.1 ∈ wsX6_pass := by decide +kernel
set_option maxHeartbeats 4000000 in
set_option maxRecDepth 100000 in
theorem m_X6_pass (l : Launch) (D : va_G) (dA : Nat → ClassId) (b0 : Nat) (r0 : Nat) (a1 : Int32) (h : zH) (z : zH) (hf : f_X6_pass r0 a1 h = some z) : Met l yX6_pass wsX6_pass rmX6_pass (zPc D dA b0 [.ref (b0 + r0), .int a1] h) (zQ D dA b0 none z) 0 0 (zA b0) := by
  refine Met.ofW (cc := cX6_pass) (maxL := 2) (ret := none) (by decide) rfl ?_
  intro p e s m args below meth c s₁ B hml hv
  obtain ⟨rfl, hP, hz, hK, hN⟩ := hv
  have hr := B.returns
  have hlk := B.notSynchronized
  have X : zX p s m _ c cX6_pass 2 RX6 wsX6_pass D dA := ⟨⟨B.exec, B.bytes, hml, findClass_of_methodNamed B.named, atoms_spec (ws := wsX6_pass) B.pre⟩, hK, hN⟩
  have G : zG D dA b0 s.heap h s.heap [] := ⟨hP, hz, va_S.rf⟩
  have hl := lv_entry ([.ref (b0 + r0), .int a1]) (n := 2) (Nat.le_of_ble_eq_true rfl)
  rw [lg_entry_eq]
  generalize (lg_sl ([.ref (b0 + r0), .int a1]) ++ List.replicate (2 - (lg_sl ([.ref (b0 + r0), .int a1])).length) Slot.unset).toArray = ls at hl ⊢
  have hl : lv_has ls 2 [(0, .ref (b0 + r0)), (1, .int a1)] := hl
  unfold f_X6_pass at hf
  refine lv_aload_n X.1.1 X.1.2.1 dX6_pass_0 rfl (lv_at hl 0 rfl) ?_
  refine zgetI (ci := 6) (k := 3) (C := RX6) (T := TX6) (N := 4) X G rfl inX6_pass_X6 (Nat.le_of_ble_eq_true rfl) flX6_pass_22 dX6_pass_1 hf (fun v1 hf => ?_)
  refine zif_eq (tgt := 8) X dX6_pass_4 (by decide) hf (fun hf => ?_) (fun hf => ?_)
  · refine lv_aload_n X.1.1 X.1.2.1 dX6_pass_8 rfl (lv_at hl 0 rfl) ?_
    obtain ⟨hk, hf⟩ := zck hf
    obtain ⟨q2, eq2, hf⟩ := Option.bind_eq_some_iff.mp hf
    refine zcV0 (As := []) (rest := []) (v := (some (.int q2))) (h' := h) X G (rfl : vwCl[6]? = some (RX6, TX6, 4)) hk (m_X6_next l D dA b0 r0 h q2 eq2) (cwV 0 X.1.2.2.2.2 gX6_pass_X6_next rfl rfl rfl hdV_X6_next ⟨(Nat.le_of_ble_eq_true rfl), (Nat.le_of_ble_eq_true rfl)⟩) rfl hl.1 rfl (Nat.le_of_ble_eq_true rfl) dX6_pass_9 ⟨Nat.zero_le _, Nat.zero_le _⟩ (fun H locs G => ?_)
    refine lv_iload_n X.1.1 X.1.2.1 dX6_pass_12 rfl (lv_at hl 1 rfl) ?_
    refine zic_ne (tgt := 29) X dX6_pass_13 (by decide) hf (fun hf => ?_) (fun hf => ?_)
    · refine lv_aload_n X.1.1 X.1.2.1 dX6_pass_29 rfl (lv_at hl 0 rfl) ?_
      refine lv_iconst (v := 1) X.1.1 X.1.2.1 dX6_pass_30 (by decide) ?_
      obtain ⟨hk, hf⟩ := zck hf
      obtain ⟨q3, eq3, hf⟩ := Option.bind_eq_some_iff.mp hf
      refine zcV0 (As := [.int (1 : Int32)]) (rest := []) (v := none) (h' := q3) X G (rfl : vwCl[6]? = some (RX6, TX6, 4)) hk (m_X6_fail l D dA b0 r0 (1 : Int32) h q3 eq3) (cwV 1 X.1.2.2.2.2 gX6_pass_X6_fail rfl rfl rfl hdV_X6_fail ⟨(Nat.le_of_ble_eq_true rfl), (Nat.le_of_ble_eq_true rfl)⟩) rfl hl.1 rfl (Nat.le_of_ble_eq_true rfl) dX6_pass_31 ⟨Nat.zero_le _, Nat.zero_le _⟩ (fun H locs G => ?_)
      exact zretV X hr hlk G hf dX6_pass_34
    · refine lv_aload_n X.1.1 X.1.2.1 dX6_pass_16 rfl (lv_at hl 0 rfl) ?_
      refine lv_dup X.1.1 X.1.2.1 dX6_pass_17 rfl ?_
      refine zgetI (ci := 6) (k := 2) (C := RX6) (T := TX6) (N := 4) X G rfl inX6_pass_X6 (Nat.le_of_ble_eq_true rfl) flX6_pass_19 dX6_pass_18 hf (fun v4 hf => ?_)
      refine lv_iconst (v := 1) X.1.1 X.1.2.1 dX6_pass_21 (by decide) ?_
      refine lv_iadd X.1.1 X.1.2.1 dX6_pass_22 ?_
      refine zputI (ci := 6) (k := 2) (C := RX6) (T := TX6) (N := 4) X G rfl inX6_pass_X6 tyX6_ok nmX6 (Nat.le_of_ble_eq_true rfl) flX6_pass_19 rfl (by decide +kernel) dX6_pass_23 hf (fun h5 H locs hf G => ?_)
      refine lv_goto (tgt := 34) X.1.1 X.1.2.1 dX6_pass_26 (by decide) ?_
      exact zretV X hr hlk G hf dX6_pass_34
  · exact zretV X hr hlk G hf dX6_pass_7
/-! X6_isFigure -/
abbrev rmX6_isFigure : Room := { frames := 0, cells := 0, slots := 0, locals := 0 }
theorem hdV_X6_isFigure : yX6_isFigure.cls = RX6 ∧ yX6_isFigure.cls ≠ "java/lang/invoke/MethodHandle" ∧ yX6_isFigure.cls ≠ "java/lang/invoke/VarHandle" ∧ (parseMethodDescriptor yX6_isFigure.desc).map (fun d => d.parameters.length) = some 1 := by decide +kernel
set_option maxHeartbeats 4000000 in
set_option maxRecDepth 100000 in
theorem m_X6_isFigure (l : Launch) (D : va_G) (dA : Nat → ClassId) (b0 : Nat) (r0 : Nat) (a1 : Int32) (h : zH) (z : Int32) (hf : f_X6_isFigure r0 a1 h = some z) : Met l yX6_isFigure wsX6_isFigure rmX6_isFigure (zPc D dA b0 [.ref (b0 + r0), .int a1] h) (zQ D dA b0 (some (.int z)) h) 0 0 (zA b0) := by
  refine Met.ofW (cc := cX6_isFigure) (maxL := 2) (ret := (some .boolean)) (by decide) rfl ?_
  intro p e s m args below meth c s₁ B hml hv
  obtain ⟨rfl, hP, hz, hK, hN⟩ := hv
  have hr := B.returns
  have hlk := B.notSynchronized
  have X : zX p s m _ c cX6_isFigure 2 RX6 wsX6_isFigure D dA := ⟨⟨B.exec, B.bytes, hml, findClass_of_methodNamed B.named, atoms_spec (ws := wsX6_isFigure) B.pre⟩, hK, hN⟩
  have G : zG D dA b0 s.heap h s.heap [] := ⟨hP, hz, va_S.rf⟩
  have hl := lv_entry ([.ref (b0 + r0), .int a1]) (n := 2) (Nat.le_of_ble_eq_true rfl)
  rw [lg_entry_eq]
  generalize (lg_sl ([.ref (b0 + r0), .int a1]) ++ List.replicate (2 - (lg_sl ([.ref (b0 + r0), .int a1])).length) Slot.unset).toArray = ls at hl ⊢
  have hl : lv_has ls 2 [(0, .ref (b0 + r0)), (1, .int a1)] := hl
  unfold f_X6_isFigure at hf
  refine lv_iload_n X.1.1 X.1.2.1 dX6_isFigure_0 rfl (lv_at hl 1 rfl) ?_
  refine lv_bipush (v := 48) X.1.1 X.1.2.1 dX6_isFigure_1 (by decide) ?_
  refine zic_lt (tgt := 16) X dX6_isFigure_3 (by decide) hf (fun hf => ?_) (fun hf => ?_)
  · refine lv_iconst (v := 0) X.1.1 X.1.2.1 dX6_isFigure_16 (by decide) ?_
    exact zretZr X hr hlk G hf dX6_isFigure_17
  · refine lv_iload_n X.1.1 X.1.2.1 dX6_isFigure_6 rfl (lv_at hl 1 rfl) ?_
    refine lv_bipush (v := 57) X.1.1 X.1.2.1 dX6_isFigure_7 (by decide) ?_
    refine zic_gt (tgt := 16) X dX6_isFigure_9 (by decide) hf (fun hf => ?_) (fun hf => ?_)
    · refine lv_iconst (v := 0) X.1.1 X.1.2.1 dX6_isFigure_16 (by decide) ?_
      exact zretZr X hr hlk G hf dX6_isFigure_17
    · refine lv_iconst (v := 1) X.1.1 X.1.2.1 dX6_isFigure_12 (by decide) ?_
      refine lv_goto (tgt := 17) X.1.1 X.1.2.1 dX6_isFigure_13 (by decide) ?_
      exact zretZr X hr hlk G hf dX6_isFigure_17
/-! X6_number -/
abbrev rmX6_number : Room := { frames := 1, cells := 0, slots := 0, locals := 21 }
theorem hdV_X6_number : yX6_number.cls = RX6 ∧ yX6_number.cls ≠ "java/lang/invoke/MethodHandle" ∧ yX6_number.cls ≠ "java/lang/invoke/VarHandle" ∧ (parseMethodDescriptor yX6_number.desc).map (fun d => d.parameters.length) = some 2 := by decide +kernel
theorem inX6_number_X6 : ∀ w ∈ wsX60, w ∈ wsX6_number := by decide +kernel
theorem flX6_number_19 : Cond.fieldLink RX6 19 (TX6 2).1 (TX6 2).2.1 (TX6 2).2.2.1 ∈ wsX6_number := by decide +kernel
theorem flX6_number_22 : Cond.fieldLink RX6 22 (TX6 3).1 (TX6 3).2.1 (TX6 3).2.2.1 ∈ wsX6_number := by decide +kernel
set_option maxHeartbeats 4000000 in
set_option maxRecDepth 100000 in
theorem w_X6_number_b82 {p : Program} {l : Launch} {e : Env} {s : State} {m : MethodId} {args : Array Value} {below : List Frame} {meth : Method} {c : Code} {D : va_G} {dA : Nat → ClassId} {b0 : Nat} (X : zX p s m args c cX6_number 6 RX6 wsX6_number D dA) (hr : meth.sig.returnType = (some .int)) (hlk : meth.locks = false) {z : Int32 × zH} : ∀ (r0 : Nat) (a1 : Int32) (h : zH) (H : Heap) (locs : List Loc) (ls : Array Slot), f_X6_number_b82 r0 a1 h = some z → zG D dA b0 s.heap h H locs → lv_has ls 6 [(0, .ref (b0 + r0)), (1, .int a1)] → W p l e rmX6_number s m args below meth c H locs 0 0 (MQ below (zQ D dA b0 (some (.int z.1)) z.2) args s 0 0 (zA b0)) (F0 m 82 ls []) := by
  intro r0 a1 h H locs ls hf G hl
  unfold f_X6_number_b82 at hf
  refine lv_aload_n X.1.1 X.1.2.1 dX6_number_82 rfl (lv_at hl 0 rfl) ?_
  refine lv_iconst (v := 1) X.1.1 X.1.2.1 dX6_number_83 (by decide) ?_
  obtain ⟨hk, hf⟩ := zck hf
  obtain ⟨q1, eq1, hf⟩ := Option.bind_eq_some_iff.mp hf
  refine zcV0 (As := [.int (1 : Int32)]) (rest := []) (v := none) (h' := q1) X G (rfl : vwCl[6]? = some (RX6, TX6, 4)) hk (m_X6_fail l D dA b0 r0 (1 : Int32) h q1 eq1) (cwV 1 X.1.2.2.2.2 gX6_number_X6_fail rfl rfl rfl hdV_X6_fail ⟨(Nat.le_of_ble_eq_true rfl), (Nat.le_of_ble_eq_true rfl)⟩) rfl hl.1 rfl (Nat.le_of_ble_eq_true rfl) dX6_number_84 ⟨Nat.zero_le _, Nat.zero_le _⟩ (fun H locs G => ?_)
  refine lv_iload_n X.1.1 X.1.2.1 dX6_number_87 rfl (lv_at hl 1 rfl) ?_
  exact zretI X hr hlk G hf dX6_number_88
set_option maxHeartbeats 4000000 in
set_option maxRecDepth 100000 in
theorem w_X6_number_b101 {p : Program} {l : Launch} {e : Env} {s : State} {m : MethodId} {args : Array Value} {below : List Frame} {meth : Method} {c : Code} {D : va_G} {dA : Nat → ClassId} {b0 : Nat} (X : zX p s m args c cX6_number 6 RX6 wsX6_number D dA) (hr : meth.sig.returnType = (some .int)) (hlk : meth.locks = false) {z : Int32 × zH} : ∀ (r0 : Nat) (a1 : Int32) (h : zH) (H : Heap) (locs : List Loc) (ls : Array Slot), f_X6_number_b101 r0 a1 h = some z → zG D dA b0 s.heap h H locs → lv_has ls 6 [(0, .ref (b0 + r0)), (1, .int a1)] → W p l e rmX6_number s m args below meth c H locs 0 0 (MQ below (zQ D dA b0 (some (.int z.1)) z.2) args s 0 0 (zA b0)) (F0 m 101 ls []) := by
  intro r0 a1 h H locs ls hf G hl
  unfold f_X6_number_b101 at hf
  refine lv_aload_n X.1.1 X.1.2.1 dX6_number_101 rfl (lv_at hl 0 rfl) ?_
  refine lv_iconst (v := 2) X.1.1 X.1.2.1 dX6_number_102 (by decide) ?_
  obtain ⟨hk, hf⟩ := zck hf
  obtain ⟨q1, eq1, hf⟩ := Option.bind_eq_some_iff.mp hf
  refine zcV0 (As := [.int (2 : Int32)]) (rest := []) (v := none) (h' := q1) X G (rfl : vwCl[6]? = some (RX6, TX6, 4)) hk (m_X6_fail l D dA b0 r0 (2 : Int32) h q1 eq1) (cwV 1 X.1.2.2.2.2 gX6_number_X6_fail rfl rfl rfl hdV_X6_fail ⟨(Nat.le_of_ble_eq_true rfl), (Nat.le_of_ble_eq_true rfl)⟩) rfl hl.1 rfl (Nat.le_of_ble_eq_true rfl) dX6_number_103 ⟨Nat.zero_le _, Nat.zero_le _⟩ (fun H locs G => ?_)
  refine lv_iload_n X.1.1 X.1.2.1 dX6_number_106 rfl (lv_at hl 1 rfl) ?_
  exact zretI X hr hlk G hf dX6_number_107
set_option maxHeartbeats 4000000 in
set_option maxRecDepth 100000 in
theorem w_X6_number_b72 {p : Program} {l : Launch} {e : Env} {s : State} {m : MethodId} {args : Array Value} {below : List Frame} {meth : Method} {c : Code} {D : va_G} {dA : Nat → ClassId} {b0 : Nat} (X : zX p s m args c cX6_number 6 RX6 wsX6_number D dA) (hr : meth.sig.returnType = (some .int)) (hlk : meth.locks = false) {z : Int32 × zH} : ∀ (r0 : Nat) (a1 : Int32) (a2 : Int32) (a3 : Int32) (a4 : Int32) (h : zH) (H : Heap) (locs : List Loc) (ls : Array Slot), f_X6_number_b72 r0 a1 a2 a3 a4 h = some z → zG D dA b0 s.heap h H locs → lv_has ls 6 [(0, .ref (b0 + r0)), (1, .int a1), (2, .int a2), (3, .int a3), (4, .int a4)] → W p l e rmX6_number s m args below meth c H locs 0 0 (MQ below (zQ D dA b0 (some (.int z.1)) z.2) args s 0 0 (zA b0)) (F0 m 72 ls []) := by
  intro r0 a1 a2 a3 a4 h H locs ls hf G hl
  unfold f_X6_number_b72 at hf
  refine lv_iload_n X.1.1 X.1.2.1 dX6_number_72 rfl (lv_at hl 3 rfl) ?_
  refine lv_iconst (v := 1) X.1.1 X.1.2.1 dX6_number_73 (by decide) ?_
  refine zic_lt (tgt := 82) X dX6_number_74 (by decide) hf (fun hf => ?_) (fun hf => ?_)
  · exact w_X6_number_b82 X hr hlk _ _ _ _ _ _ hf G (lv_sub hl [0, 1] rfl)
  · refine lv_iload_n X.1.1 X.1.2.1 dX6_number_77 rfl (lv_at hl 3 rfl) ?_
    refine lv_iconst (v := 2) X.1.1 X.1.2.1 dX6_number_78 (by decide) ?_
    refine zic_le (tgt := 89) X dX6_number_79 (by decide) hf (fun hf => ?_) (fun hf => ?_)
    · refine lv_iload X.1.1 X.1.2.1 dX6_number_89 (lv_at hl 4 rfl) ?_
      refine lv_iload_n X.1.1 X.1.2.1 dX6_number_91 rfl (lv_at hl 1 rfl) ?_
      refine zic_lt (tgt := 101) X dX6_number_92 (by decide) hf (fun hf => ?_) (fun hf => ?_)
      · exact w_X6_number_b101 X hr hlk _ _ _ _ _ _ hf G (lv_sub hl [0, 1] rfl)
      · refine lv_iload X.1.1 X.1.2.1 dX6_number_95 (lv_at hl 4 rfl) ?_
        refine lv_iload_n X.1.1 X.1.2.1 dX6_number_97 rfl (lv_at hl 2 rfl) ?_
        refine zic_le (tgt := 108) X dX6_number_98 (by decide) hf (fun hf => ?_) (fun hf => ?_)
        · refine lv_aload_n X.1.1 X.1.2.1 dX6_number_108 rfl (lv_at hl 0 rfl) ?_
          refine lv_dup X.1.1 X.1.2.1 dX6_number_109 rfl ?_
          refine zgetI (ci := 6) (k := 2) (C := RX6) (T := TX6) (N := 4) X G rfl inX6_number_X6 (Nat.le_of_ble_eq_true rfl) flX6_number_19 dX6_number_110 hf (fun v1 hf => ?_)
          refine lv_iload_n X.1.1 X.1.2.1 dX6_number_113 rfl (lv_at hl 3 rfl) ?_
          refine lv_iadd X.1.1 X.1.2.1 dX6_number_114 ?_
          refine zputI (ci := 6) (k := 2) (C := RX6) (T := TX6) (N := 4) X G rfl inX6_number_X6 tyX6_ok nmX6 (Nat.le_of_ble_eq_true rfl) flX6_number_19 rfl (by decide +kernel) dX6_number_115 hf (fun h2 H locs hf G => ?_)
          refine lv_iload X.1.1 X.1.2.1 dX6_number_118 (lv_at hl 4 rfl) ?_
          exact zretI X hr hlk G hf dX6_number_120
        · exact w_X6_number_b101 X hr hlk _ _ _ _ _ _ hf G (lv_sub hl [0, 1] rfl)
    · exact w_X6_number_b82 X hr hlk _ _ _ _ _ _ hf G (lv_sub hl [0, 1] rfl)
set_option maxHeartbeats 4000000 in
set_option maxRecDepth 100000 in
theorem w_X6_number_b17 {p : Program} {l : Launch} {e : Env} {s : State} {m : MethodId} {args : Array Value} {below : List Frame} {meth : Method} {c : Code} {D : va_G} {dA : Nat → ClassId} {b0 : Nat} (X : zX p s m args c cX6_number 6 RX6 wsX6_number D dA) (hr : meth.sig.returnType = (some .int)) (hlk : meth.locks = false) {z : Int32 × zH} : ∀ (n : Nat), ∀ (r0 : Nat) (a1 : Int32) (a2 : Int32) (a3 : Int32) (a4 : Int32) (a5 : Int32) (h : zH) (H : Heap) (locs : List Loc) (ls : Array Slot), f_X6_number_b17 n r0 a1 a2 a3 a4 a5 h = some z → zG D dA b0 s.heap h H locs → lv_has ls 6 [(0, .ref (b0 + r0)), (1, .int a1), (2, .int a2), (3, .int a3), (4, .int a4), (5, .int a5)] → W p l e rmX6_number s m args below meth c H locs 0 0 (MQ below (zQ D dA b0 (some (.int z.1)) z.2) args s 0 0 (zA b0)) (F0 m 17 ls []) := by
  intro n
  induction n with
  | zero =>
    intro r0 a1 a2 a3 a4 a5 h H locs ls hf
    cases hf
  | succ n ih =>
    intro r0 a1 a2 a3 a4 a5 h H locs ls hf G hl
    rw [f_X6_number_b17] at hf
    refine lv_iload X.1.1 X.1.2.1 dX6_number_17 (lv_at hl 5 rfl) ?_
    refine lv_iconst (v := 3) X.1.1 X.1.2.1 dX6_number_19 (by decide) ?_
    refine zic_ge (tgt := 72) X dX6_number_20 (by decide) hf (fun hf => ?_) (fun hf => ?_)
    · exact w_X6_number_b72 X hr hlk _ _ _ _ _ _ _ _ _ hf G (lv_sub hl [0, 1, 2, 3, 4] rfl)
    · refine lv_aload_n X.1.1 X.1.2.1 dX6_number_23 rfl (lv_at hl 0 rfl) ?_
      refine lv_aload_n X.1.1 X.1.2.1 dX6_number_24 rfl (lv_at hl 0 rfl) ?_
      refine lv_aload_n X.1.1 X.1.2.1 dX6_number_25 rfl (lv_at hl 0 rfl) ?_
      refine zgetI (ci := 6) (k := 2) (C := RX6) (T := TX6) (N := 4) X G rfl inX6_number_X6 (Nat.le_of_ble_eq_true rfl) flX6_number_19 dX6_number_26 hf (fun v1 hf => ?_)
      refine lv_iload X.1.1 X.1.2.1 dX6_number_29 (lv_at hl 5 rfl) ?_
      refine lv_iadd X.1.1 X.1.2.1 dX6_number_31 ?_
      obtain ⟨hk, hf⟩ := zck hf
      obtain ⟨q2, eq2, hf⟩ := Option.bind_eq_some_iff.mp hf
      refine zcV0 (As := [.int (v1 + a5)]) (rest := [.ref (b0 + r0)]) (v := (some (.int q2))) (h' := h) X G (rfl : vwCl[6]? = some (RX6, TX6, 4)) hk (m_X6_byteAt l D dA b0 r0 ((v1 + a5)) h q2 eq2) (cwV 1 X.1.2.2.2.2 gX6_number_X6_byteAt rfl rfl rfl hdV_X6_byteAt ⟨(Nat.le_of_ble_eq_true rfl), (Nat.le_of_ble_eq_true rfl)⟩) rfl hl.1 rfl (Nat.le_of_ble_eq_true rfl) dX6_number_32 ⟨Nat.zero_le _, Nat.zero_le _⟩ (fun H locs G => ?_)
      obtain ⟨hk, hf⟩ := zck hf
      obtain ⟨q3, eq3, hf⟩ := Option.bind_eq_some_iff.mp hf
      refine zcV0 (As := [.int q2]) (rest := []) (v := (some (.int q3))) (h' := h) X G (rfl : vwCl[6]? = some (RX6, TX6, 4)) hk (m_X6_isFigure l D dA b0 r0 q2 h q3 eq3) (cwV 1 X.1.2.2.2.2 gX6_number_X6_isFigure rfl rfl rfl hdV_X6_isFigure ⟨(Nat.le_of_ble_eq_true rfl), (Nat.le_of_ble_eq_true rfl)⟩) rfl hl.1 rfl (Nat.le_of_ble_eq_true rfl) dX6_number_35 ⟨Nat.zero_le _, Nat.zero_le _⟩ (fun H locs G => ?_)
      refine zif_eq (tgt := 72) X dX6_number_38 (by decide) hf (fun hf => ?_) (fun hf => ?_)
      · exact w_X6_number_b72 X hr hlk _ _ _ _ _ _ _ _ _ hf G (lv_sub hl [0, 1, 2, 3, 4] rfl)
      · refine lv_bipush (v := 10) X.1.1 X.1.2.1 dX6_number_41 (by decide) ?_
        refine lv_iload X.1.1 X.1.2.1 dX6_number_43 (lv_at hl 4 rfl) ?_
        refine lv_imul X.1.1 X.1.2.1 dX6_number_45 ?_
        refine lv_aload_n X.1.1 X.1.2.1 dX6_number_46 rfl (lv_at hl 0 rfl) ?_
        refine lv_aload_n X.1.1 X.1.2.1 dX6_number_47 rfl (lv_at hl 0 rfl) ?_
        refine zgetI (ci := 6) (k := 2) (C := RX6) (T := TX6) (N := 4) X G rfl inX6_number_X6 (Nat.le_of_ble_eq_true rfl) flX6_number_19 dX6_number_48 hf (fun v4 hf => ?_)
        refine lv_iload X.1.1 X.1.2.1 dX6_number_51 (lv_at hl 5 rfl) ?_
        refine lv_iadd X.1.1 X.1.2.1 dX6_number_53 ?_
        obtain ⟨hk, hf⟩ := zck hf
        obtain ⟨q5, eq5, hf⟩ := Option.bind_eq_some_iff.mp hf
        refine zcV0 (As := [.int (v4 + a5)]) (rest := [.int ((10 : Int32) * a4)]) (v := (some (.int q5))) (h' := h) X G (rfl : vwCl[6]? = some (RX6, TX6, 4)) hk (m_X6_byteAt l D dA b0 r0 ((v4 + a5)) h q5 eq5) (cwV 1 X.1.2.2.2.2 gX6_number_X6_byteAt rfl rfl rfl hdV_X6_byteAt ⟨(Nat.le_of_ble_eq_true rfl), (Nat.le_of_ble_eq_true rfl)⟩) rfl hl.1 rfl (Nat.le_of_ble_eq_true rfl) dX6_number_54 ⟨Nat.zero_le _, Nat.zero_le _⟩ (fun H locs G => ?_)
        refine lv_iadd X.1.1 X.1.2.1 dX6_number_57 ?_
        refine lv_bipush (v := 48) X.1.1 X.1.2.1 dX6_number_58 (by decide) ?_
        refine lv_isub X.1.1 X.1.2.1 dX6_number_60 ?_
        refine zleti hf (fun x6 hf => ?_)
        refine lv_istore (lv' := [(4, .int x6), (0, .ref (b0 + r0)), (1, .int a1), (2, .int a2), (3, .int a3), (5, .int a5)]) X.1.1 X.1.2.1 dX6_number_61 hl (by decide) rfl (fun ls hl => ?_)
        refine lv_iinc (v := (a3 + (1 : Int32))) (lv' := [(3, .int (a3 + (1 : Int32))), (4, .int x6), (0, .ref (b0 + r0)), (1, .int a1), (2, .int a2), (5, .int a5)]) X.1.1 X.1.2.1 dX6_number_63 hl (k := 4) rfl rfl (by decide) rfl (fun ls hl => ?_)
        refine lv_iinc (v := (a5 + (1 : Int32))) (lv' := [(5, .int (a5 + (1 : Int32))), (3, .int (a3 + (1 : Int32))), (4, .int x6), (0, .ref (b0 + r0)), (1, .int a1), (2, .int a2)]) X.1.1 X.1.2.1 dX6_number_66 hl (k := 5) rfl rfl (by decide) rfl (fun ls hl => ?_)
        refine lv_goto (tgt := 17) X.1.1 X.1.2.1 dX6_number_69 (by decide) ?_
        exact ih _ _ _ _ _ _ _ _ _ _ hf G (lv_sub hl [3, 4, 5, 1, 2, 0] rfl)
set_option maxHeartbeats 4000000 in
set_option maxRecDepth 100000 in
theorem m_X6_number (l : Launch) (D : va_G) (dA : Nat → ClassId) (b0 : Nat) (r0 : Nat) (a1 : Int32) (a2 : Int32) (h : zH) (z : Int32 × zH) (hf : f_X6_number r0 a1 a2 h = some z) : Met l yX6_number wsX6_number rmX6_number (zPc D dA b0 [.ref (b0 + r0), .int a1, .int a2] h) (zQ D dA b0 (some (.int z.1)) z.2) 0 0 (zA b0) := by
  refine Met.ofW (cc := cX6_number) (maxL := 6) (ret := (some .int)) (by decide) rfl ?_
  intro p e s m args below meth c s₁ B hml hv
  obtain ⟨rfl, hP, hz, hK, hN⟩ := hv
  have hr := B.returns
  have hlk := B.notSynchronized
  have X : zX p s m _ c cX6_number 6 RX6 wsX6_number D dA := ⟨⟨B.exec, B.bytes, hml, findClass_of_methodNamed B.named, atoms_spec (ws := wsX6_number) B.pre⟩, hK, hN⟩
  have G : zG D dA b0 s.heap h s.heap [] := ⟨hP, hz, va_S.rf⟩
  have hl := lv_entry ([.ref (b0 + r0), .int a1, .int a2]) (n := 6) (Nat.le_of_ble_eq_true rfl)
  rw [lg_entry_eq]
  generalize (lg_sl ([.ref (b0 + r0), .int a1, .int a2]) ++ List.replicate (6 - (lg_sl ([.ref (b0 + r0), .int a1, .int a2])).length) Slot.unset).toArray = ls at hl ⊢
  have hl : lv_has ls 6 [(0, .ref (b0 + r0)), (1, .int a1), (2, .int a2)] := hl
  unfold f_X6_number at hf
  refine lv_aload_n X.1.1 X.1.2.1 dX6_number_0 rfl (lv_at hl 0 rfl) ?_
  refine zgetI (ci := 6) (k := 3) (C := RX6) (T := TX6) (N := 4) X G rfl inX6_number_X6 (Nat.le_of_ble_eq_true rfl) flX6_number_22 dX6_number_1 hf (fun v1 hf => ?_)
  refine zif_eq (tgt := 9) X dX6_number_4 (by decide) hf (fun hf => ?_) (fun hf => ?_)
  · refine lv_iconst (v := 0) X.1.1 X.1.2.1 dX6_number_9 (by decide) ?_
    refine lv_istore_n (lv' := [(3, .int (0 : Int32)), (0, .ref (b0 + r0)), (1, .int a1), (2, .int a2)]) X.1.1 X.1.2.1 dX6_number_10 rfl hl (by decide) rfl (fun ls hl => ?_)
    refine lv_iconst (v := 0) X.1.1 X.1.2.1 dX6_number_11 (by decide) ?_
    refine lv_istore (lv' := [(4, .int (0 : Int32)), (3, .int (0 : Int32)), (0, .ref (b0 + r0)), (1, .int a1), (2, .int a2)]) X.1.1 X.1.2.1 dX6_number_12 hl (by decide) rfl (fun ls hl => ?_)
    refine lv_iconst (v := 0) X.1.1 X.1.2.1 dX6_number_14 (by decide) ?_
    refine lv_istore (lv' := [(5, .int (0 : Int32)), (4, .int (0 : Int32)), (3, .int (0 : Int32)), (0, .ref (b0 + r0)), (1, .int a1), (2, .int a2)]) X.1.1 X.1.2.1 dX6_number_15 hl (by decide) rfl (fun ls hl => ?_)
    exact w_X6_number_b17 X hr hlk _ _ _ _ _ _ _ _ _ _ _ hf G (lv_sub hl [3, 4, 5, 2, 1, 0] rfl)
  · refine lv_iload_n X.1.1 X.1.2.1 dX6_number_7 rfl (lv_at hl 1 rfl) ?_
    exact zretI X hr hlk G hf dX6_number_8
