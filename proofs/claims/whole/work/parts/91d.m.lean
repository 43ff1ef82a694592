/-! X2_findMoving -/
abbrev rmX2_findMoving : Room := { frames := 4, cells := 0, slots := 0, locals := 107 }
theorem hdV_X2_findMoving : yX2_findMoving.cls = RX2 ∧ yX2_findMoving.cls ≠ "java/lang/invoke/MethodHandle" ∧ yX2_findMoving.cls ≠ "java/lang/invoke/VarHandle" ∧ (parseMethodDescriptor yX2_findMoving.desc).map (fun d => d.parameters.length) = some 2 := by decide +kernel
theorem inX2_findMoving_X2 : ∀ w ∈ wsX20, w ∈ wsX2_findMoving := by decide +kernel
theorem flX2_findMoving_18 : Cond.fieldLink RX2 18 (TX2 1).1 (TX2 1).2.1 (TX2 1).2.2.1 ∈ wsX2_findMoving := by decide +kernel
theorem inX2_findMoving_X3 : ∀ w ∈ wsX30, w ∈ wsX2_findMoving := by decide +kernel
theorem flX2_findMoving_45 : Cond.fieldLink RX2 45 (TX3 1).1 (TX3 1).2.1 (TX3 1).2.2.1 ∈ wsX2_findMoving := by decide +kernel
set_option maxHeartbeats 4000000 in
set_option maxRecDepth 100000 in
theorem w_X2_findMoving_b15 {p : Program} {l : Launch} {e : Env} {s : State} {m : MethodId} {args : Array Value} {below : List Frame} {meth : Method} {c : Code} {D : va_G} {dA : Nat → ClassId} {b0 : Nat} (X : zX p s m args c cX2_findMoving 5 RX2 wsX2_findMoving D dA) (hr : meth.sig.returnType = (some .boolean)) (hlk : meth.locks = false) {z : Int32 × zH} : ∀ (n : Nat), ∀ (r0 : Nat) (a1 : Int32) (a2 : Int32) (a3 : Int32) (a4 : Int32) (h : zH) (H : Heap) (locs : List Loc) (ls : Array Slot), f_X2_findMoving_b15 n r0 a1 a2 a3 a4 h = some z → zG D dA b0 s.heap h H locs → lv_has ls 5 [(0, .ref (b0 + r0)), (1, .int a1), (2, .int a2), (3, .int a3), (4, .int a4)] → W p l e rmX2_findMoving s m args below meth c H locs 0 0 (MQ below (zQ D dA b0 (some (.int z.1)) z.2) args s 0 0 (zA b0)) (F0 m 15 ls []) := by
  intro n
  induction n with
  | zero =>
    intro r0 a1 a2 a3 a4 h H locs ls hf
    cases hf
  | succ n ih =>
    intro r0 a1 a2 a3 a4 h H locs ls hf G hl
    rw [f_X2_findMoving_b15] at hf
    refine lv_iload X.1.1 X.1.2.1 dX2_findMoving_15 (lv_at hl 4 rfl) ?_
    refine lv_iload_n X.1.1 X.1.2.1 dX2_findMoving_17 rfl (lv_at hl 3 rfl) ?_
    refine zic_ge (tgt := 47) X dX2_findMoving_18 (by decide) hf (fun hf => ?_) (fun hf => ?_)
    · refine lv_iconst (v := 0) X.1.1 X.1.2.1 dX2_findMoving_47 (by decide) ?_
      exact zretZ X hr hlk G hf dX2_findMoving_48
    · refine lv_aload_n X.1.1 X.1.2.1 dX2_findMoving_21 rfl (lv_at hl 0 rfl) ?_
      refine lv_iload X.1.1 X.1.2.1 dX2_findMoving_22 (lv_at hl 4 rfl) ?_
      obtain ⟨hk, hf⟩ := zck hf
      obtain ⟨q1, eq1, hf⟩ := Option.bind_eq_some_iff.mp hf
      refine zcV0 (As := [.int a4]) (rest := []) (v := (some (.int q1.1))) (h' := q1.2) X G (rfl : vwCl[2]? = some (RX2, TX2, 5)) hk (m_X2_countMoved l D dA b0 r0 a4 h q1 eq1) (cwV 1 X.1.2.2.2.2 gX2_findMoving_X2_countMoved rfl rfl rfl hdV_X2_countMoved ⟨(Nat.le_of_ble_eq_true rfl), (Nat.le_of_ble_eq_true rfl)⟩) rfl hl.1 rfl (Nat.le_of_ble_eq_true rfl) dX2_findMoving_24 ⟨Nat.zero_le _, Nat.zero_le _⟩ (fun H locs G => ?_)
      refine lv_iload_n X.1.1 X.1.2.1 dX2_findMoving_27 rfl (lv_at hl 1 rfl) ?_
      refine zic_ne (tgt := 41) X dX2_findMoving_28 (by decide) hf (fun hf => ?_) (fun hf => ?_)
      · refine lv_iinc (v := (a4 + (1 : Int32))) (lv' := [(4, .int (a4 + (1 : Int32))), (0, .ref (b0 + r0)), (1, .int a1), (2, .int a2), (3, .int a3)]) X.1.1 X.1.2.1 dX2_findMoving_41 hl (k := 4) rfl rfl (by decide) rfl (fun ls hl => ?_)
        refine lv_goto (tgt := 15) X.1.1 X.1.2.1 dX2_findMoving_44 (by decide) ?_
        exact ih _ _ _ _ _ _ _ _ _ hf G (lv_sub hl [1, 2, 3, 4, 0] rfl)
      · refine lv_aload_n X.1.1 X.1.2.1 dX2_findMoving_31 rfl (lv_at hl 0 rfl) ?_
        refine lv_iload_n X.1.1 X.1.2.1 dX2_findMoving_32 rfl (lv_at hl 2 rfl) ?_
        obtain ⟨hk, hf⟩ := zck hf
        obtain ⟨q2, eq2, hf⟩ := Option.bind_eq_some_iff.mp hf
        refine zcV0 (As := [.int a2]) (rest := []) (v := (some (.int q2.1))) (h' := q2.2) X G (rfl : vwCl[2]? = some (RX2, TX2, 5)) hk (m_X2_holds l D dA b0 r0 a2 q1.2 q2 eq2) (cwV 1 X.1.2.2.2.2 gX2_findMoving_X2_holds rfl rfl rfl hdV_X2_holds ⟨(Nat.le_of_ble_eq_true rfl), (Nat.le_of_ble_eq_true rfl)⟩) rfl hl.1 rfl (Nat.le_of_ble_eq_true rfl) dX2_findMoving_33 ⟨Nat.zero_le _, Nat.zero_le _⟩ (fun H locs G => ?_)
        refine zif_eq (tgt := 41) X dX2_findMoving_36 (by decide) hf (fun hf => ?_) (fun hf => ?_)
        · refine lv_iinc (v := (a4 + (1 : Int32))) (lv' := [(4, .int (a4 + (1 : Int32))), (0, .ref (b0 + r0)), (1, .int a1), (2, .int a2), (3, .int a3)]) X.1.1 X.1.2.1 dX2_findMoving_41 hl (k := 4) rfl rfl (by decide) rfl (fun ls hl => ?_)
          refine lv_goto (tgt := 15) X.1.1 X.1.2.1 dX2_findMoving_44 (by decide) ?_
          exact ih _ _ _ _ _ _ _ _ _ hf G (lv_sub hl [1, 2, 3, 4, 0] rfl)
        · refine lv_iconst (v := 1) X.1.1 X.1.2.1 dX2_findMoving_39 (by decide) ?_
          exact zretZ X hr hlk G hf dX2_findMoving_40
set_option maxHeartbeats 4000000 in
set_option maxRecDepth 100000 in
theorem m_X2_findMoving (l : Launch) (D : va_G) (dA : Nat → ClassId) (b0 : Nat) (r0 : Nat) (a1 : Int32) (a2 : Int32) (h : zH) (z : Int32 × zH) (hf : f_X2_findMoving r0 a1 a2 h = some z) : Met l yX2_findMoving wsX2_findMoving rmX2_findMoving (zPc D dA b0 [.ref (b0 + r0), .int a1, .int a2] h) (zQ D dA b0 (some (.int z.1)) z.2) 0 0 (zA b0) := by
  refine Met.ofW (cc := cX2_findMoving) (maxL := 5) (ret := (some .boolean)) (by decide) rfl ?_
  intro p e s m args below meth c s₁ B hml hv
  obtain ⟨rfl, hP, hz, hK, hN⟩ := hv
  have hr := B.returns
  have hlk := B.notSynchronized
  have X : zX p s m _ c cX2_findMoving 5 RX2 wsX2_findMoving D dA := ⟨⟨B.exec, B.bytes, hml, findClass_of_methodNamed B.named, atoms_spec (ws := wsX2_findMoving) B.pre⟩, hK, hN⟩
  have G : zG D dA b0 s.heap h s.heap [] := ⟨hP, hz, va_S.rf⟩
  have hl := lv_entry ([.ref (b0 + r0), .int a1, .int a2]) (n := 5) (Nat.le_of_ble_eq_true rfl)
  rw [lg_entry_eq]
  generalize (lg_sl ([.ref (b0 + r0), .int a1, .int a2]) ++ List.replicate (5 - (lg_sl ([.ref (b0 + r0), .int a1, .int a2])).length) Slot.unset).toArray = ls at hl ⊢
  have hl : lv_has ls 5 [(0, .ref (b0 + r0)), (1, .int a1), (2, .int a2)] := hl
  unfold f_X2_findMoving at hf
  refine lv_iconst (v := 1) X.1.1 X.1.2.1 dX2_findMoving_0 (by decide) ?_
  refine lv_iconst (v := 2) X.1.1 X.1.2.1 dX2_findMoving_1 (by decide) ?_
  refine lv_aload_n X.1.1 X.1.2.1 dX2_findMoving_2 rfl (lv_at hl 0 rfl) ?_
  refine zgetR (ci := 2) (k := 1) (C := RX2) (T := TX2) (N := 5) X G rfl inX2_findMoving_X2 (Nat.le_of_ble_eq_true rfl) flX2_findMoving_18 dX2_findMoving_3 hf (fun v1 hf => ?_)
  refine zgetI (ci := 3) (k := 1) (C := RX3) (T := TX3) (N := 12) X G rfl inX2_findMoving_X3 (Nat.le_of_ble_eq_true rfl) flX2_findMoving_45 dX2_findMoving_6 hf (fun v2 hf => ?_)
  refine lv_imul X.1.1 X.1.2.1 dX2_findMoving_9 ?_
  refine lv_ishl X.1.1 X.1.2.1 dX2_findMoving_10 ?_
  refine zleti hf (fun x3 hf => ?_)
  refine lv_istore_n (lv' := [(3, .int x3), (0, .ref (b0 + r0)), (1, .int a1), (2, .int a2)]) X.1.1 X.1.2.1 dX2_findMoving_11 rfl hl (by decide) rfl (fun ls hl => ?_)
  refine lv_iconst (v := 0) X.1.1 X.1.2.1 dX2_findMoving_12 (by decide) ?_
  refine lv_istore (lv' := [(4, .int (0 : Int32)), (3, .int x3), (0, .ref (b0 + r0)), (1, .int a1), (2, .int a2)]) X.1.1 X.1.2.1 dX2_findMoving_13 hl (by decide) rfl (fun ls hl => ?_)
  exact w_X2_findMoving_b15 X hr hlk _ _ _ _ _ _ _ _ _ _ hf G (lv_sub hl [2, 3, 4, 1, 0] rfl)
/-! X2_find -/
abbrev rmX2_find : Room := { frames := 5, cells := 0, slots := 0, locals := 131 }
theorem hdV_X2_find : yX2_find.cls = RX2 ∧ yX2_find.cls ≠ "java/lang/invoke/MethodHandle" ∧ yX2_find.cls ≠ "java/lang/invoke/VarHandle" ∧ (parseMethodDescriptor yX2_find.desc).map (fun d => d.parameters.length) = some 2 := by decide +kernel
theorem inX2_find_X3 : ∀ w ∈ wsX30, w ∈ wsX2_find := by decide +kernel
theorem flX2_find_45 : Cond.fieldLink RX2 45 (TX3 1).1 (TX3 1).2.1 (TX3 1).2.2.1 ∈ wsX2_find := by decide +kernel
theorem inX2_find_X2 : ∀ w ∈ wsX20, w ∈ wsX2_find := by decide +kernel
theorem flX2_find_30 : Cond.fieldLink RX2 30 (TX2 4).1 (TX2 4).2.1 (TX2 4).2.2.1 ∈ wsX2_find := by decide +kernel
theorem coX2_find_29 : Cond.constant RX2 29 (-1000000) ∈ wsX2_find := by decide +kernel
theorem flX2_find_18 : Cond.fieldLink RX2 18 (TX2 1).1 (TX2 1).2.1 (TX2 1).2.2.1 ∈ wsX2_find := by decide +kernel
theorem flX2_find_21 : Cond.fieldLink RX2 21 (TX2 2).1 (TX2 2).2.1 (TX2 2).2.2.1 ∈ wsX2_find := by decide +kernel
set_option maxHeartbeats 4000000 in
set_option maxRecDepth 100000 in
theorem w_X2_find_b50 {p : Program} {l : Launch} {e : Env} {s : State} {m : MethodId} {args : Array Value} {below : List Frame} {meth : Method} {c : Code} {D : va_G} {dA : Nat → ClassId} {b0 : Nat} (X : zX p s m args c cX2_find 4 RX2 wsX2_find D dA) (hr : meth.sig.returnType = none) (hlk : meth.locks = false) {z : zH} : ∀ (n : Nat), ∀ (r0 : Nat) (r1 : Nat) (a2 : Int32) (a3 : Int32) (h : zH) (H : Heap) (locs : List Loc) (ls : Array Slot), f_X2_find_b50 n r0 r1 a2 a3 h = some z → zG D dA b0 s.heap h H locs → lv_has ls 4 [(0, .ref (b0 + r0)), (1, .ref (b0 + r1)), (2, .int a2), (3, .int a3)] → W p l e rmX2_find s m args below meth c H locs 0 0 (MQ below (zQ D dA b0 none z) args s 0 0 (zA b0)) (F0 m 50 ls []) := by
  intro n
  induction n with
  | zero =>
    intro r0 r1 a2 a3 h H locs ls hf
    cases hf
  | succ n ih =>
    intro r0 r1 a2 a3 h H locs ls hf G hl
    rw [f_X2_find_b50] at hf
    refine lv_iload_n X.1.1 X.1.2.1 dX2_find_50 rfl (lv_at hl 3 rfl) ?_
    refine lv_aload_n X.1.1 X.1.2.1 dX2_find_51 rfl (lv_at hl 1 rfl) ?_
    refine zgetI (ci := 3) (k := 1) (C := RX3) (T := TX3) (N := 12) X G rfl inX2_find_X3 (Nat.le_of_ble_eq_true rfl) flX2_find_45 dX2_find_52 hf (fun v1 hf => ?_)
    refine zic_gt (tgt := 87) X dX2_find_55 (by decide) hf (fun hf => ?_) (fun hf => ?_)
    · exact zretV X hr hlk G hf dX2_find_87
    · refine lv_aload_n X.1.1 X.1.2.1 dX2_find_58 rfl (lv_at hl 0 rfl) ?_
      refine zgetI (ci := 2) (k := 4) (C := RX2) (T := TX2) (N := 5) X G rfl inX2_find_X2 (Nat.le_of_ble_eq_true rfl) flX2_find_30 dX2_find_59 hf (fun v2 hf => ?_)
      refine lv_ldc (v := -1000000) X.1.1 X.1.2.1 X.1.2.2.2.1 (X.1.2.2.2.2 _ coX2_find_29) dX2_find_62 ?_
      refine zic_ne (tgt := 87) X dX2_find_64 (by decide) hf (fun hf => ?_) (fun hf => ?_)
      · exact zretV X hr hlk G hf dX2_find_87
      · refine lv_aload_n X.1.1 X.1.2.1 dX2_find_67 rfl (lv_at hl 0 rfl) ?_
        refine lv_iload_n X.1.1 X.1.2.1 dX2_find_68 rfl (lv_at hl 3 rfl) ?_
        refine lv_iload_n X.1.1 X.1.2.1 dX2_find_69 rfl (lv_at hl 2 rfl) ?_
        obtain ⟨hk, hf⟩ := zck hf
        obtain ⟨q3, eq3, hf⟩ := Option.bind_eq_some_iff.mp hf
        refine zcV0 (As := [.int a3, .int a2]) (rest := []) (v := (some (.int q3.1))) (h' := q3.2) X G (rfl : vwCl[2]? = some (RX2, TX2, 5)) hk (m_X2_findMoving l D dA b0 r0 a3 a2 h q3 eq3) (cwV 2 X.1.2.2.2.2 gX2_find_X2_findMoving rfl rfl rfl hdV_X2_findMoving ⟨(Nat.le_of_ble_eq_true rfl), (Nat.le_of_ble_eq_true rfl)⟩) rfl hl.1 rfl (Nat.le_of_ble_eq_true rfl) dX2_find_70 ⟨Nat.zero_le _, Nat.zero_le _⟩ (fun H locs G => ?_)
        refine zif_eq (tgt := 81) X dX2_find_73 (by decide) hf (fun hf => ?_) (fun hf => ?_)
        · refine lv_iinc (v := (a3 + (1 : Int32))) (lv' := [(3, .int (a3 + (1 : Int32))), (0, .ref (b0 + r0)), (1, .ref (b0 + r1)), (2, .int a2)]) X.1.1 X.1.2.1 dX2_find_81 hl (k := 3) rfl rfl (by decide) rfl (fun ls hl => ?_)
          refine lv_goto (tgt := 50) X.1.1 X.1.2.1 dX2_find_84 (by decide) ?_
          exact ih _ _ _ _ _ _ _ _ hf G (lv_sub hl [1, 2, 3, 0] rfl)
        · refine lv_aload_n X.1.1 X.1.2.1 dX2_find_76 rfl (lv_at hl 0 rfl) ?_
          refine lv_iload_n X.1.1 X.1.2.1 dX2_find_77 rfl (lv_at hl 3 rfl) ?_
          refine zputI (ci := 2) (k := 4) (C := RX2) (T := TX2) (N := 5) X G rfl inX2_find_X2 tyX2_ok nmX2 (Nat.le_of_ble_eq_true rfl) flX2_find_30 rfl (by decide +kernel) dX2_find_78 hf (fun h4 H locs hf G => ?_)
          refine lv_iinc (v := (a3 + (1 : Int32))) (lv' := [(3, .int (a3 + (1 : Int32))), (0, .ref (b0 + r0)), (1, .ref (b0 + r1)), (2, .int a2)]) X.1.1 X.1.2.1 dX2_find_81 hl (k := 3) rfl rfl (by decide) rfl (fun ls hl => ?_)
          refine lv_goto (tgt := 50) X.1.1 X.1.2.1 dX2_find_84 (by decide) ?_
          exact ih _ _ _ _ _ _ _ _ hf G (lv_sub hl [1, 2, 3, 0] rfl)
set_option maxHeartbeats 4000000 in
set_option maxRecDepth 100000 in
theorem w_X2_find_b20 {p : Program} {l : Launch} {e : Env} {s : State} {m : MethodId} {args : Array Value} {below : List Frame} {meth : Method} {c : Code} {D : va_G} {dA : Nat → ClassId} {b0 : Nat} (X : zX p s m args c cX2_find 4 RX2 wsX2_find D dA) (hr : meth.sig.returnType = none) (hlk : meth.locks = false) {z : zH} : ∀ (r0 : Nat) (r1 : Nat) (a2 : Int32) (h : zH) (H : Heap) (locs : List Loc) (ls : Array Slot), f_X2_find_b20 r0 r1 a2 h = some z → zG D dA b0 s.heap h H locs → lv_has ls 4 [(0, .ref (b0 + r0)), (1, .ref (b0 + r1)), (2, .int a2)] → W p l e rmX2_find s m args below meth c H locs 0 0 (MQ below (zQ D dA b0 none z) args s 0 0 (zA b0)) (F0 m 20 ls []) := by
  intro r0 r1 a2 h H locs ls hf G hl
  unfold f_X2_find_b20 at hf
  refine lv_aload_n X.1.1 X.1.2.1 dX2_find_20 rfl (lv_at hl 0 rfl) ?_
  refine zgetR (ci := 2) (k := 1) (C := RX2) (T := TX2) (N := 5) X G rfl inX2_find_X2 (Nat.le_of_ble_eq_true rfl) flX2_find_18 dX2_find_21 hf (fun v1 hf => ?_)
  refine lv_aload_n X.1.1 X.1.2.1 dX2_find_24 rfl (lv_at hl 1 rfl) ?_
  obtain ⟨hk, hf⟩ := zck hf
  obtain ⟨q2, eq2, hf⟩ := Option.bind_eq_some_iff.mp hf
  refine zcV0 (As := [.ref (b0 + r1)]) (rest := []) (v := none) (h' := q2) X G (rfl : vwCl[3]? = some (RX3, TX3, 12)) hk (m_X3_become l D dA b0 v1 r1 h q2 eq2) (cwV 1 X.1.2.2.2.2 gX2_find_X3_become rfl rfl rfl hdV_X3_become ⟨(Nat.le_of_ble_eq_true rfl), (Nat.le_of_ble_eq_true rfl)⟩) rfl hl.1 rfl (Nat.le_of_ble_eq_true rfl) dX2_find_25 ⟨Nat.zero_le _, Nat.zero_le _⟩ (fun H locs G => ?_)
  refine lv_aload_n X.1.1 X.1.2.1 dX2_find_28 rfl (lv_at hl 0 rfl) ?_
  refine lv_iload_n X.1.1 X.1.2.1 dX2_find_29 rfl (lv_at hl 2 rfl) ?_
  refine zputI (ci := 2) (k := 2) (C := RX2) (T := TX2) (N := 5) X G rfl inX2_find_X2 tyX2_ok nmX2 (Nat.le_of_ble_eq_true rfl) flX2_find_21 rfl (by decide +kernel) dX2_find_30 hf (fun h3 H locs hf G => ?_)
  refine lv_aload_n X.1.1 X.1.2.1 dX2_find_33 rfl (lv_at hl 0 rfl) ?_
  refine lv_ldc (v := -1000000) X.1.1 X.1.2.1 X.1.2.2.2.1 (X.1.2.2.2.2 _ coX2_find_29) dX2_find_34 ?_
  refine zputI (ci := 2) (k := 4) (C := RX2) (T := TX2) (N := 5) X G rfl inX2_find_X2 tyX2_ok nmX2 (Nat.le_of_ble_eq_true rfl) flX2_find_30 rfl (by decide +kernel) dX2_find_36 hf (fun h4 H locs hf G => ?_)
  refine lv_aload_n X.1.1 X.1.2.1 dX2_find_39 rfl (lv_at hl 0 rfl) ?_
  refine lv_iload_n X.1.1 X.1.2.1 dX2_find_40 rfl (lv_at hl 2 rfl) ?_
  obtain ⟨hk, hf⟩ := zck hf
  obtain ⟨q5, eq5, hf⟩ := Option.bind_eq_some_iff.mp hf
  refine zcV0 (As := [.int a2]) (rest := []) (v := (some (.int q5.1))) (h' := q5.2) X G (rfl : vwCl[2]? = some (RX2, TX2, 5)) hk (m_X2_oneComesUpAnywhere l D dA b0 r0 a2 h4 q5 eq5) (cwV 1 X.1.2.2.2.2 gX2_find_X2_oneComesUpAnywhere rfl rfl rfl hdV_X2_oneComesUpAnywhere ⟨(Nat.le_of_ble_eq_true rfl), (Nat.le_of_ble_eq_true rfl)⟩) rfl hl.1 rfl (Nat.le_of_ble_eq_true rfl) dX2_find_41 ⟨Nat.zero_le _, Nat.zero_le _⟩ (fun H locs G => ?_)
  refine zif_eq (tgt := 48) X dX2_find_44 (by decide) hf (fun hf => ?_) (fun hf => ?_)
  · refine lv_iconst (v := 0) X.1.1 X.1.2.1 dX2_find_48 (by decide) ?_
    refine lv_istore_n (lv' := [(3, .int (0 : Int32)), (0, .ref (b0 + r0)), (1, .ref (b0 + r1)), (2, .int a2)]) X.1.1 X.1.2.1 dX2_find_49 rfl hl (by decide) rfl (fun ls hl => ?_)
    exact w_X2_find_b50 X hr hlk _ _ _ _ _ _ _ _ _ hf G (lv_sub hl [1, 2, 3, 0] rfl)
  · exact zretV X hr hlk G hf dX2_find_47
set_option maxHeartbeats 4000000 in
set_option maxRecDepth 100000 in
theorem m_X2_find (l : Launch) (D : va_G) (dA : Nat → ClassId) (b0 : Nat) (r0 : Nat) (r1 : Nat) (a2 : Int32) (h : zH) (z : zH) (hf : f_X2_find r0 r1 a2 h = some z) : Met l yX2_find wsX2_find rmX2_find (zPc D dA b0 [.ref (b0 + r0), .ref (b0 + r1), .int a2] h) (zQ D dA b0 none z) 0 0 (zA b0) := by
  refine Met.ofW (cc := cX2_find) (maxL := 4) (ret := none) (by decide) rfl ?_
  intro p e s m args below meth c s₁ B hml hv
  obtain ⟨rfl, hP, hz, hK, hN⟩ := hv
  have hr := B.returns
  have hlk := B.notSynchronized
  have X : zX p s m _ c cX2_find 4 RX2 wsX2_find D dA := ⟨⟨B.exec, B.bytes, hml, findClass_of_methodNamed B.named, atoms_spec (ws := wsX2_find) B.pre⟩, hK, hN⟩
  have G : zG D dA b0 s.heap h s.heap [] := ⟨hP, hz, va_S.rf⟩
  have hl := lv_entry ([.ref (b0 + r0), .ref (b0 + r1), .int a2]) (n := 4) (Nat.le_of_ble_eq_true rfl)
  rw [lg_entry_eq]
  generalize (lg_sl ([.ref (b0 + r0), .ref (b0 + r1), .int a2]) ++ List.replicate (4 - (lg_sl ([.ref (b0 + r0), .ref (b0 + r1), .int a2])).length) Slot.unset).toArray = ls at hl ⊢
  have hl : lv_has ls 4 [(0, .ref (b0 + r0)), (1, .ref (b0 + r1)), (2, .int a2)] := hl
  unfold f_X2_find at hf
  refine lv_iload_n X.1.1 X.1.2.1 dX2_find_0 rfl (lv_at hl 2 rfl) ?_
  refine lv_aload_n X.1.1 X.1.2.1 dX2_find_1 rfl (lv_at hl 0 rfl) ?_
  refine zgetI (ci := 2) (k := 2) (C := RX2) (T := TX2) (N := 5) X G rfl inX2_find_X2 (Nat.le_of_ble_eq_true rfl) flX2_find_21 dX2_find_2 hf (fun v1 hf => ?_)
  refine zic_ne (tgt := 20) X dX2_find_5 (by decide) hf (fun hf => ?_) (fun hf => ?_)
  · exact w_X2_find_b20 X hr hlk _ _ _ _ _ _ _ hf G hl
  · refine lv_aload_n X.1.1 X.1.2.1 dX2_find_8 rfl (lv_at hl 0 rfl) ?_
    refine zgetR (ci := 2) (k := 1) (C := RX2) (T := TX2) (N := 5) X G rfl inX2_find_X2 (Nat.le_of_ble_eq_true rfl) flX2_find_18 dX2_find_9 hf (fun v2 hf => ?_)
    refine lv_aload_n X.1.1 X.1.2.1 dX2_find_12 rfl (lv_at hl 1 rfl) ?_
    obtain ⟨hk, hf⟩ := zck hf
    obtain ⟨q3, eq3, hf⟩ := Option.bind_eq_some_iff.mp hf
    refine zcV0 (As := [.ref (b0 + r1)]) (rest := []) (v := (some (.int q3))) (h' := h) X G (rfl : vwCl[3]? = some (RX3, TX3, 12)) hk (m_X3_foretellsLike l D dA b0 v2 r1 h q3 eq3) (cwV 1 X.1.2.2.2.2 gX2_find_X3_foretellsLike rfl rfl rfl hdV_X3_foretellsLike ⟨(Nat.le_of_ble_eq_true rfl), (Nat.le_of_ble_eq_true rfl)⟩) rfl hl.1 rfl (Nat.le_of_ble_eq_true rfl) dX2_find_13 ⟨Nat.zero_le _, Nat.zero_le _⟩ (fun H locs G => ?_)
    refine zif_eq (tgt := 20) X dX2_find_16 (by decide) hf (fun hf => ?_) (fun hf => ?_)
    · exact w_X2_find_b20 X hr hlk _ _ _ _ _ _ _ hf G hl
    · exact zretV X hr hlk G hf dX2_find_19
/-! X3_nearTo -/
abbrev rmX3_nearTo : Room := { frames := 2, cells := 0, slots := 0, locals := 62 }
theorem hdV_X3_nearTo : yX3_nearTo.cls = RX3 ∧ yX3_nearTo.cls ≠ "java/lang/invoke/MethodHandle" ∧ yX3_nearTo.cls ≠ "java/lang/invoke/VarHandle" ∧ (parseMethodDescriptor yX3_nearTo.desc).map (fun d => d.parameters.length) = some 1 := by decide +kernel
theorem inX3_nearTo_X3 : ∀ w ∈ wsX30, w ∈ wsX3_nearTo := by decide +kernel
theorem flX3_nearTo_15 : Cond.fieldLink RX3 15 (TX3 1).1 (TX3 1).2.1 (TX3 1).2.2.1 ∈ wsX3_nearTo := by decide +kernel
set_option maxHeartbeats 4000000 in
set_option maxRecDepth 100000 in
theorem w_X3_nearTo_b4 {p : Program} {l : Launch} {e : Env} {s : State} {m : MethodId} {args : Array Value} {below : List Frame} {meth : Method} {c : Code} {D : va_G} {dA : Nat → ClassId} {b0 : Nat} {h : zH} (X : zX p s m args c cX3_nearTo 4 RX3 wsX3_nearTo D dA) (hr : meth.sig.returnType = (some .int)) (hlk : meth.locks = false) {z : Int32} : ∀ (n : Nat), ∀ (r0 : Nat) (a1 : Int32) (a2 : Int32) (a3 : Int32) (H : Heap) (locs : List Loc) (ls : Array Slot), f_X3_nearTo_b4 h n r0 a1 a2 a3 = some z → zG D dA b0 s.heap h H locs → lv_has ls 4 [(0, .ref (b0 + r0)), (1, .int a1), (2, .int a2), (3, .int a3)] → W p l e rmX3_nearTo s m args below meth c H locs 0 0 (MQ below (zQ D dA b0 (some (.int z)) h) args s 0 0 (zA b0)) (F0 m 4 ls []) := by
  intro n
  induction n with
  | zero =>
    intro r0 a1 a2 a3 H locs ls hf
    cases hf
  | succ n ih =>
    intro r0 a1 a2 a3 H locs ls hf G hl
    rw [f_X3_nearTo_b4] at hf
    refine lv_iload_n X.1.1 X.1.2.1 dX3_nearTo_4 rfl (lv_at hl 3 rfl) ?_
    refine lv_aload_n X.1.1 X.1.2.1 dX3_nearTo_5 rfl (lv_at hl 0 rfl) ?_
    refine zgetI (ci := 3) (k := 1) (C := RX3) (T := TX3) (N := 12) X G rfl inX3_nearTo_X3 (Nat.le_of_ble_eq_true rfl) flX3_nearTo_15 dX3_nearTo_6 hf (fun v1 hf => ?_)
    refine zic_ge (tgt := 38) X dX3_nearTo_9 (by decide) hf (fun hf => ?_) (fun hf => ?_)
    · refine lv_iload_n X.1.1 X.1.2.1 dX3_nearTo_38 rfl (lv_at hl 2 rfl) ?_
      exact zretIr X hr hlk G hf dX3_nearTo_39
    · refine lv_iload_n X.1.1 X.1.2.1 dX3_nearTo_12 rfl (lv_at hl 3 rfl) ?_
      refine lv_iload_n X.1.1 X.1.2.1 dX3_nearTo_13 rfl (lv_at hl 1 rfl) ?_
      refine zic_eq (tgt := 32) X dX3_nearTo_14 (by decide) hf (fun hf => ?_) (fun hf => ?_)
      · refine lv_iinc (v := (a3 + (1 : Int32))) (lv' := [(3, .int (a3 + (1 : Int32))), (0, .ref (b0 + r0)), (1, .int a1), (2, .int a2)]) X.1.1 X.1.2.1 dX3_nearTo_32 hl (k := 3) rfl rfl (by decide) rfl (fun ls hl => ?_)
        refine lv_goto (tgt := 4) X.1.1 X.1.2.1 dX3_nearTo_35 (by decide) ?_
        exact ih _ _ _ _ _ _ _ hf G (lv_sub hl [1, 2, 3, 0] rfl)
      · refine lv_aload_n X.1.1 X.1.2.1 dX3_nearTo_17 rfl (lv_at hl 0 rfl) ?_
        refine lv_iload_n X.1.1 X.1.2.1 dX3_nearTo_18 rfl (lv_at hl 3 rfl) ?_
        refine lv_iload_n X.1.1 X.1.2.1 dX3_nearTo_19 rfl (lv_at hl 1 rfl) ?_
        obtain ⟨hk, hf⟩ := zck hf
        obtain ⟨q2, eq2, hf⟩ := Option.bind_eq_some_iff.mp hf
        refine zcV0 (As := [.int a3, .int a1]) (rest := []) (v := (some (.int q2))) (h' := h) X G (rfl : vwCl[3]? = some (RX3, TX3, 12)) hk (m_X3_areTooNear l D dA b0 r0 a3 a1 h q2 eq2) (cwV 2 X.1.2.2.2.2 gX3_nearTo_X3_areTooNear rfl rfl rfl hdV_X3_areTooNear ⟨(Nat.le_of_ble_eq_true rfl), (Nat.le_of_ble_eq_true rfl)⟩) rfl hl.1 rfl (Nat.le_of_ble_eq_true rfl) dX3_nearTo_20 ⟨Nat.zero_le _, Nat.zero_le _⟩ (fun H locs G => ?_)
        refine zif_eq (tgt := 32) X dX3_nearTo_23 (by decide) hf (fun hf => ?_) (fun hf => ?_)
        · refine lv_iinc (v := (a3 + (1 : Int32))) (lv' := [(3, .int (a3 + (1 : Int32))), (0, .ref (b0 + r0)), (1, .int a1), (2, .int a2)]) X.1.1 X.1.2.1 dX3_nearTo_32 hl (k := 3) rfl rfl (by decide) rfl (fun ls hl => ?_)
          refine lv_goto (tgt := 4) X.1.1 X.1.2.1 dX3_nearTo_35 (by decide) ?_
          exact ih _ _ _ _ _ _ _ hf G (lv_sub hl [1, 2, 3, 0] rfl)
        · refine lv_iload_n X.1.1 X.1.2.1 dX3_nearTo_26 rfl (lv_at hl 2 rfl) ?_
          refine lv_iconst (v := 1) X.1.1 X.1.2.1 dX3_nearTo_27 (by decide) ?_
          refine lv_iload_n X.1.1 X.1.2.1 dX3_nearTo_28 rfl (lv_at hl 3 rfl) ?_
          refine lv_ishl X.1.1 X.1.2.1 dX3_nearTo_29 ?_
          refine lv_ior X.1.1 X.1.2.1 dX3_nearTo_30 ?_
          refine zleti hf (fun x3 hf => ?_)
          refine lv_istore_n (lv' := [(2, .int x3), (0, .ref (b0 + r0)), (1, .int a1), (3, .int a3)]) X.1.1 X.1.2.1 dX3_nearTo_31 rfl hl (by decide) rfl (fun ls hl => ?_)
          refine lv_iinc (v := (a3 + (1 : Int32))) (lv' := [(3, .int (a3 + (1 : Int32))), (2, .int x3), (0, .ref (b0 + r0)), (1, .int a1)]) X.1.1 X.1.2.1 dX3_nearTo_32 hl (k := 3) rfl rfl (by decide) rfl (fun ls hl => ?_)
          refine lv_goto (tgt := 4) X.1.1 X.1.2.1 dX3_nearTo_35 (by decide) ?_
          exact ih _ _ _ _ _ _ _ hf G (lv_sub hl [2, 3, 1, 0] rfl)
set_option maxHeartbeats 4000000 in
set_option maxRecDepth 100000 in
theorem m_X3_nearTo (l : Launch) (D : va_G) (dA : Nat → ClassId) (b0 : Nat) (r0 : Nat) (a1 : Int32) (h : zH) (z : Int32) (hf : f_X3_nearTo r0 a1 h = some z) : Met l yX3_nearTo wsX3_nearTo rmX3_nearTo (zPc D dA b0 [.ref (b0 + r0), .int a1] h) (zQ D dA b0 (some (.int z)) h) 0 0 (zA b0) := by
  refine Met.ofW (cc := cX3_nearTo) (maxL := 4) (ret := (some .int)) (by decide) rfl ?_
  intro p e s m args below meth c s₁ B hml hv
  obtain ⟨rfl, hP, hz, hK, hN⟩ := hv
  have hr := B.returns
  have hlk := B.notSynchronized
  have X : zX p s m _ c cX3_nearTo 4 RX3 wsX3_nearTo D dA := ⟨⟨B.exec, B.bytes, hml, findClass_of_methodNamed B.named, atoms_spec (ws := wsX3_nearTo) B.pre⟩, hK, hN⟩
  have G : zG D dA b0 s.heap h s.heap [] := ⟨hP, hz, va_S.rf⟩
  have hl := lv_entry ([.ref (b0 + r0), .int a1]) (n := 4) (Nat.le_of_ble_eq_true rfl)
  rw [lg_entry_eq]
  generalize (lg_sl ([.ref (b0 + r0), .int a1]) ++ List.replicate (4 - (lg_sl ([.ref (b0 + r0), .int a1])).length) Slot.unset).toArray = ls at hl ⊢
  have hl : lv_has ls 4 [(0, .ref (b0 + r0)), (1, .int a1)] := hl
  unfold f_X3_nearTo at hf
  refine lv_iconst (v := 0) X.1.1 X.1.2.1 dX3_nearTo_0 (by decide) ?_
  refine lv_istore_n (lv' := [(2, .int (0 : Int32)), (0, .ref (b0 + r0)), (1, .int a1)]) X.1.1 X.1.2.1 dX3_nearTo_1 rfl hl (by decide) rfl (fun ls hl => ?_)
  refine lv_iconst (v := 0) X.1.1 X.1.2.1 dX3_nearTo_2 (by decide) ?_
  refine lv_istore_n (lv' := [(3, .int (0 : Int32)), (2, .int (0 : Int32)), (0, .ref (b0 + r0)), (1, .int a1)]) X.1.1 X.1.2.1 dX3_nearTo_3 rfl hl (by decide) rfl (fun ls hl => ?_)
  exact w_X3_nearTo_b4 X hr hlk _ _ _ _ _ _ _ _ hf G (lv_sub hl [2, 3, 1, 0] rfl)
/-! X3_knownTo -/
abbrev rmX3_knownTo : Room := { frames := 0, cells := 0, slots := 0, locals := 0 }
theorem hdV_X3_knownTo : yX3_knownTo.cls = RX3 ∧ yX3_knownTo.cls ≠ "java/lang/invoke/MethodHandle" ∧ yX3_knownTo.cls ≠ "java/lang/invoke/VarHandle" ∧ (parseMethodDescriptor yX3_knownTo.desc).map (fun d => d.parameters.length) = some 1 := by decide +kernel
theorem inX3_knownTo_X3 : ∀ w ∈ wsX30, w ∈ wsX3_knownTo := by decide +kernel
theorem flX3_knownTo_15 : Cond.fieldLink RX3 15 (TX3 1).1 (TX3 1).2.1 (TX3 1).2.2.1 ∈ wsX3_knownTo := by decide +kernel
theorem flX3_knownTo_44 : Cond.fieldLink RX3 44 (TX3 10).1 (TX3 10).2.1 (TX3 10).2.2.1 ∈ wsX3_knownTo := by decide +kernel
set_option maxHeartbeats 4000000 in
set_option maxRecDepth 100000 in
theorem w_X3_knownTo_b4 {p : Program} {l : Launch} {e : Env} {s : State} {m : MethodId} {args : Array Value} {below : List Frame} {meth : Method} {c : Code} {D : va_G} {dA : Nat → ClassId} {b0 : Nat} {h : zH} (X : zX p s m args c cX3_knownTo 4 RX3 wsX3_knownTo D dA) (hr : meth.sig.returnType = (some .int)) (hlk : meth.locks = false) {z : Int32} : ∀ (n : Nat), ∀ (r0 : Nat) (a1 : Int32) (a2 : Int32) (a3 : Int32) (H : Heap) (locs : List Loc) (ls : Array Slot), f_X3_knownTo_b4 h n r0 a1 a2 a3 = some z → zG D dA b0 s.heap h H locs → lv_has ls 4 [(0, .ref (b0 + r0)), (1, .int a1), (2, .int a2), (3, .int a3)] → W p l e rmX3_knownTo s m args below meth c H locs 0 0 (MQ below (zQ D dA b0 (some (.int z)) h) args s 0 0 (zA b0)) (F0 m 4 ls []) := by
  intro n
  induction n with
  | zero =>
    intro r0 a1 a2 a3 H locs ls hf
    cases hf
  | succ n ih =>
    intro r0 a1 a2 a3 H locs ls hf G hl
    rw [f_X3_knownTo_b4] at hf
    refine lv_iload_n X.1.1 X.1.2.1 dX3_knownTo_4 rfl (lv_at hl 3 rfl) ?_
    refine lv_aload_n X.1.1 X.1.2.1 dX3_knownTo_5 rfl (lv_at hl 0 rfl) ?_
    refine zgetI (ci := 3) (k := 1) (C := RX3) (T := TX3) (N := 12) X G rfl inX3_knownTo_X3 (Nat.le_of_ble_eq_true rfl) flX3_knownTo_15 dX3_knownTo_6 hf (fun v1 hf => ?_)
    refine zic_ge (tgt := 33) X dX3_knownTo_9 (by decide) hf (fun hf => ?_) (fun hf => ?_)
    · refine lv_iload_n X.1.1 X.1.2.1 dX3_knownTo_33 rfl (lv_at hl 2 rfl) ?_
      exact zretIr X hr hlk G hf dX3_knownTo_34
    · refine lv_iload_n X.1.1 X.1.2.1 dX3_knownTo_12 rfl (lv_at hl 2 rfl) ?_
      refine lv_aload_n X.1.1 X.1.2.1 dX3_knownTo_13 rfl (lv_at hl 0 rfl) ?_
      refine zgetR (ci := 3) (k := 10) (C := RX3) (T := TX3) (N := 12) X G rfl inX3_knownTo_X3 (Nat.le_of_ble_eq_true rfl) flX3_knownTo_44 dX3_knownTo_14 hf (fun v2 hf => ?_)
      refine lv_iload_n X.1.1 X.1.2.1 dX3_knownTo_17 rfl (lv_at hl 3 rfl) ?_
      refine ziald X G dX3_knownTo_18 hf (fun v3 hf => ?_)
      refine lv_iload_n X.1.1 X.1.2.1 dX3_knownTo_19 rfl (lv_at hl 1 rfl) ?_
      refine lv_ishr X.1.1 X.1.2.1 dX3_knownTo_20 ?_
      refine lv_iconst (v := 1) X.1.1 X.1.2.1 dX3_knownTo_21 (by decide) ?_
      refine lv_iand X.1.1 X.1.2.1 dX3_knownTo_22 ?_
      refine lv_iload_n X.1.1 X.1.2.1 dX3_knownTo_23 rfl (lv_at hl 3 rfl) ?_
      refine lv_ishl X.1.1 X.1.2.1 dX3_knownTo_24 ?_
      refine lv_ior X.1.1 X.1.2.1 dX3_knownTo_25 ?_
      refine zleti hf (fun x4 hf => ?_)
      refine lv_istore_n (lv' := [(2, .int x4), (0, .ref (b0 + r0)), (1, .int a1), (3, .int a3)]) X.1.1 X.1.2.1 dX3_knownTo_26 rfl hl (by decide) rfl (fun ls hl => ?_)
      refine lv_iinc (v := (a3 + (1 : Int32))) (lv' := [(3, .int (a3 + (1 : Int32))), (2, .int x4), (0, .ref (b0 + r0)), (1, .int a1)]) X.1.1 X.1.2.1 dX3_knownTo_27 hl (k := 3) rfl rfl (by decide) rfl (fun ls hl => ?_)
      refine lv_goto (tgt := 4) X.1.1 X.1.2.1 dX3_knownTo_30 (by decide) ?_
      exact ih _ _ _ _ _ _ _ hf G (lv_sub hl [2, 3, 1, 0] rfl)
set_option maxHeartbeats 4000000 in
set_option maxRecDepth 100000 in
theorem m_X3_knownTo (l : Launch) (D : va_G) (dA : Nat → ClassId) (b0 : Nat) (r0 : Nat) (a1 : Int32) (h : zH) (z : Int32) (hf : f_X3_knownTo r0 a1 h = some z) : Met l yX3_knownTo wsX3_knownTo rmX3_knownTo (zPc D dA b0 [.ref (b0 + r0), .int a1] h) (zQ D dA b0 (some (.int z)) h) 0 0 (zA b0) := by
  refine Met.ofW (cc := cX3_knownTo) (maxL := 4) (ret := (some .int)) (by decide) rfl ?_
  intro p e s m args below meth c s₁ B hml hv
  obtain ⟨rfl, hP, hz, hK, hN⟩ := hv
  have hr := B.returns
  have hlk := B.notSynchronized
  have X : zX p s m _ c cX3_knownTo 4 RX3 wsX3_knownTo D dA := ⟨⟨B.exec, B.bytes, hml, findClass_of_methodNamed B.named, atoms_spec (ws := wsX3_knownTo) B.pre⟩, hK, hN⟩
  have G : zG D dA b0 s.heap h s.heap [] := ⟨hP, hz, va_S.rf⟩
  have hl := lv_entry ([.ref (b0 + r0), .int a1]) (n := 4) (Nat.le_of_ble_eq_true rfl)
  rw [lg_entry_eq]
  generalize (lg_sl ([.ref (b0 + r0), .int a1]) ++ List.replicate (4 - (lg_sl ([.ref (b0 + r0), .int a1])).length) Slot.unset).toArray = ls at hl ⊢
  have hl : lv_has ls 4 [(0, .ref (b0 + r0)), (1, .int a1)] := hl
  unfold f_X3_knownTo at hf
  refine lv_iconst (v := 0) X.1.1 X.1.2.1 dX3_knownTo_0 (by decide) ?_
  refine lv_istore_n (lv' := [(2, .int (0 : Int32)), (0, .ref (b0 + r0)), (1, .int a1)]) X.1.1 X.1.2.1 dX3_knownTo_1 rfl hl (by decide) rfl (fun ls hl => ?_)
  refine lv_iconst (v := 0) X.1.1 X.1.2.1 dX3_knownTo_2 (by decide) ?_
  refine lv_istore_n (lv' := [(3, .int (0 : Int32)), (2, .int (0 : Int32)), (0, .ref (b0 + r0)), (1, .int a1)]) X.1.1 X.1.2.1 dX3_knownTo_3 rfl hl (by decide) rfl (fun ls hl => ?_)
  exact w_X3_knownTo_b4 X hr hlk _ _ _ _ _ _ _ _ hf G (lv_sub hl [2, 3, 1, 0] rfl)
/-! X3_allKnownTo -/
abbrev rmX3_allKnownTo : Room := { frames := 0, cells := 0, slots := 0, locals := 0 }
theorem hdV_X3_allKnownTo : yX3_allKnownTo.cls = RX3 ∧ yX3_allKnownTo.cls ≠ "java/lang/invoke/MethodHandle" ∧ yX3_allKnownTo.cls ≠ "java/lang/invoke/VarHandle" ∧ (parseMethodDescriptor yX3_allKnownTo.desc).map (fun d => d.parameters.length) = some 1 := by decide +kernel
theorem inX3_allKnownTo_X3 : ∀ w ∈ wsX30, w ∈ wsX3_allKnownTo := by decide +kernel
theorem flX3_allKnownTo_15 : Cond.fieldLink RX3 15 (TX3 1).1 (TX3 1).2.1 (TX3 1).2.2.1 ∈ wsX3_allKnownTo := by decide +kernel
theorem flX3_allKnownTo_44 : Cond.fieldLink RX3 44 (TX3 10).1 (TX3 10).2.1 (TX3 10).2.2.1 ∈ wsX3_allKnownTo := by decide +kernel
set_option maxHeartbeats 4000000 in
set_option maxRecDepth 100000 in
theorem w_X3_allKnownTo_b2 {p : Program} {l : Launch} {e : Env} {s : State} {m : MethodId} {args : Array Value} {below : List Frame} {meth : Method} {c : Code} {D : va_G} {dA : Nat → ClassId} {b0 : Nat} {h : zH} (X : zX p s m args c cX3_allKnownTo 3 RX3 wsX3_allKnownTo D dA) (hr : meth.sig.returnType = (some .boolean)) (hlk : meth.locks = false) {z : Int32} : ∀ (n : Nat), ∀ (r0 : Nat) (a1 : Int32) (a2 : Int32) (H : Heap) (locs : List Loc) (ls : Array Slot), f_X3_allKnownTo_b2 h n r0 a1 a2 = some z → zG D dA b0 s.heap h H locs → lv_has ls 3 [(0, .ref (b0 + r0)), (1, .int a1), (2, .int a2)] → W p l e rmX3_allKnownTo s m args below meth c H locs 0 0 (MQ below (zQ D dA b0 (some (.int z)) h) args s 0 0 (zA b0)) (F0 m 2 ls []) := by
  intro n
  induction n with
  | zero =>
    intro r0 a1 a2 H locs ls hf
    cases hf
  | succ n ih =>
    intro r0 a1 a2 H locs ls hf G hl
    rw [f_X3_allKnownTo_b2] at hf
    refine lv_iload_n X.1.1 X.1.2.1 dX3_allKnownTo_2 rfl (lv_at hl 2 rfl) ?_
    refine lv_aload_n X.1.1 X.1.2.1 dX3_allKnownTo_3 rfl (lv_at hl 0 rfl) ?_
    refine zgetI (ci := 3) (k := 1) (C := RX3) (T := TX3) (N := 12) X G rfl inX3_allKnownTo_X3 (Nat.le_of_ble_eq_true rfl) flX3_allKnownTo_15 dX3_allKnownTo_4 hf (fun v1 hf => ?_)
    refine zic_ge (tgt := 29) X dX3_allKnownTo_7 (by decide) hf (fun hf => ?_) (fun hf => ?_)
    · refine lv_iconst (v := 1) X.1.1 X.1.2.1 dX3_allKnownTo_29 (by decide) ?_
      exact zretZr X hr hlk G hf dX3_allKnownTo_30
    · refine lv_aload_n X.1.1 X.1.2.1 dX3_allKnownTo_10 rfl (lv_at hl 0 rfl) ?_
      refine zgetR (ci := 3) (k := 10) (C := RX3) (T := TX3) (N := 12) X G rfl inX3_allKnownTo_X3 (Nat.le_of_ble_eq_true rfl) flX3_allKnownTo_44 dX3_allKnownTo_11 hf (fun v2 hf => ?_)
      refine lv_iload_n X.1.1 X.1.2.1 dX3_allKnownTo_14 rfl (lv_at hl 2 rfl) ?_
      refine ziald X G dX3_allKnownTo_15 hf (fun v3 hf => ?_)
      refine lv_iload_n X.1.1 X.1.2.1 dX3_allKnownTo_16 rfl (lv_at hl 1 rfl) ?_
      refine lv_iand X.1.1 X.1.2.1 dX3_allKnownTo_17 ?_
      refine zif_ne (tgt := 23) X dX3_allKnownTo_18 (by decide) hf (fun hf => ?_) (fun hf => ?_)
      · refine lv_iinc (v := (a2 + (1 : Int32))) (lv' := [(2, .int (a2 + (1 : Int32))), (0, .ref (b0 + r0)), (1, .int a1)]) X.1.1 X.1.2.1 dX3_allKnownTo_23 hl (k := 2) rfl rfl (by decide) rfl (fun ls hl => ?_)
        refine lv_goto (tgt := 2) X.1.1 X.1.2.1 dX3_allKnownTo_26 (by decide) ?_
        exact ih _ _ _ _ _ _ hf G (lv_sub hl [1, 2, 0] rfl)
      · refine lv_iconst (v := 0) X.1.1 X.1.2.1 dX3_allKnownTo_21 (by decide) ?_
        exact zretZr X hr hlk G hf dX3_allKnownTo_22
set_option maxHeartbeats 4000000 in
set_option maxRecDepth 100000 in
theorem m_X3_allKnownTo (l : Launch) (D : va_G) (dA : Nat → ClassId) (b0 : Nat) (r0 : Nat) (a1 : Int32) (h : zH) (z : Int32) (hf : f_X3_allKnownTo r0 a1 h = some z) : Met l yX3_allKnownTo wsX3_allKnownTo rmX3_allKnownTo (zPc D dA b0 [.ref (b0 + r0), .int a1] h) (zQ D dA b0 (some (.int z)) h) 0 0 (zA b0) := by
  refine Met.ofW (cc := cX3_allKnownTo) (maxL := 3) (ret := (some .boolean)) (by decide) rfl ?_
  intro p e s m args below meth c s₁ B hml hv
  obtain ⟨rfl, hP, hz, hK, hN⟩ := hv
  have hr := B.returns
  have hlk := B.notSynchronized
  have X : zX p s m _ c cX3_allKnownTo 3 RX3 wsX3_allKnownTo D dA := ⟨⟨B.exec, B.bytes, hml, findClass_of_methodNamed B.named, atoms_spec (ws := wsX3_allKnownTo) B.pre⟩, hK, hN⟩
  have G : zG D dA b0 s.heap h s.heap [] := ⟨hP, hz, va_S.rf⟩
  have hl := lv_entry ([.ref (b0 + r0), .int a1]) (n := 3) (Nat.le_of_ble_eq_true rfl)
  rw [lg_entry_eq]
  generalize (lg_sl ([.ref (b0 + r0), .int a1]) ++ List.replicate (3 - (lg_sl ([.ref (b0 + r0), .int a1])).length) Slot.unset).toArray = ls at hl ⊢
  have hl : lv_has ls 3 [(0, .ref (b0 + r0)), (1, .int a1)] := hl
  unfold f_X3_allKnownTo at hf
  refine lv_iconst (v := 0) X.1.1 X.1.2.1 dX3_allKnownTo_0 (by decide) ?_
  refine lv_istore_n (lv' := [(2, .int (0 : Int32)), (0, .ref (b0 + r0)), (1, .int a1)]) X.1.1 X.1.2.1 dX3_allKnownTo_1 rfl hl (by decide) rfl (fun ls hl => ?_)
  exact w_X3_allKnownTo_b2 X hr hlk _ _ _ _ _ _ _ hf G (lv_sub hl [1, 2, 0] rfl)
/-! J6_bitCount_0f7a4 -/
abbrev rmJ6_bitCount_0f7a4 : Room := { frames := 0, cells := 0, slots := 0, locals := 0 }
theorem hdS_J6_bitCount_0f7a4 : yJ6_bitCount_0f7a4.cls ≠ "java/lang/invoke/MethodHandle" ∧ yJ6_bitCount_0f7a4.cls ≠ "java/lang/invoke/VarHandle" ∧ (parseMethodDescriptor yJ6_bitCount_0f7a4.desc).map (fun d => d.parameters.length) = some 1 := by decide +kernel
theorem coJ6_bitCount_0f7a4_265 : Cond.constant RJ6 265 (1431655765) ∈ wsJ6_bitCount_0f7a4 := by decide +kernel
theorem coJ6_bitCount_0f7a4_266 : Cond.constant RJ6 266 (858993459) ∈ wsJ6_bitCount_0f7a4 := by decide +kernel
theorem coJ6_bitCount_0f7a4_267 : Cond.constant RJ6 267 (252645135) ∈ wsJ6_bitCount_0f7a4 := by decide +kernel
set_option maxHeartbeats 4000000 in
set_option maxRecDepth 100000 in
theorem m_J6_bitCount_0f7a4 (l : Launch) (D : va_G) (dA : Nat → ClassId) (b0 : Nat) (a0 : Int32) (h : zH) (z : Int32) (hf : f_J6_bitCount_0f7a4 a0 h = some z) : Met l yJ6_bitCount_0f7a4 wsJ6_bitCount_0f7a4 rmJ6_bitCount_0f7a4 (zPc D dA b0 [.int a0] h) (zQ D dA b0 (some (.int z)) h) 0 0 (zA b0) := by
  refine Met.ofW (cc := cJ6_bitCount_0f7a4) (maxL := 1) (ret := (some .int)) (by decide) rfl ?_
  intro p e s m args below meth c s₁ B hml hv
  obtain ⟨rfl, hP, hz, hK, hN⟩ := hv
  have hr := B.returns
  have hlk := B.notSynchronized
  have X : zX p s m _ c cJ6_bitCount_0f7a4 1 RJ6 wsJ6_bitCount_0f7a4 D dA := ⟨⟨B.exec, B.bytes, hml, findClass_of_methodNamed B.named, atoms_spec (ws := wsJ6_bitCount_0f7a4) B.pre⟩, hK, hN⟩
  have G : zG D dA b0 s.heap h s.heap [] := ⟨hP, hz, va_S.rf⟩
  have hl := lv_entry ([.int a0]) (n := 1) (Nat.le_of_ble_eq_true rfl)
  rw [lg_entry_eq]
  generalize (lg_sl ([.int a0]) ++ List.replicate (1 - (lg_sl ([.int a0])).length) Slot.unset).toArray = ls at hl ⊢
  have hl : lv_has ls 1 [(0, .int a0)] := hl
  unfold f_J6_bitCount_0f7a4 at hf
  refine lv_iload_n X.1.1 X.1.2.1 dJ6_bitCount_0f7a4_0 rfl (lv_at hl 0 rfl) ?_
  refine lv_iload_n X.1.1 X.1.2.1 dJ6_bitCount_0f7a4_1 rfl (lv_at hl 0 rfl) ?_
  refine lv_iconst (v := 1) X.1.1 X.1.2.1 dJ6_bitCount_0f7a4_2 (by decide) ?_
  refine lv_iushr X.1.1 X.1.2.1 dJ6_bitCount_0f7a4_3 rfl ?_
  refine lv_ldcw (v := 1431655765) X.1.1 X.1.2.1 X.1.2.2.2.1 (X.1.2.2.2.2 _ coJ6_bitCount_0f7a4_265) dJ6_bitCount_0f7a4_4 ?_
  refine lv_iand X.1.1 X.1.2.1 dJ6_bitCount_0f7a4_7 ?_
  refine lv_isub X.1.1 X.1.2.1 dJ6_bitCount_0f7a4_8 ?_
  refine zleti hf (fun x1 hf => ?_)
  refine lv_istore_n (lv' := [(0, .int x1)]) X.1.1 X.1.2.1 dJ6_bitCount_0f7a4_9 rfl hl (by decide) rfl (fun ls hl => ?_)
  refine lv_iload_n X.1.1 X.1.2.1 dJ6_bitCount_0f7a4_10 rfl (lv_at hl 0 rfl) ?_
  refine lv_ldcw (v := 858993459) X.1.1 X.1.2.1 X.1.2.2.2.1 (X.1.2.2.2.2 _ coJ6_bitCount_0f7a4_266) dJ6_bitCount_0f7a4_11 ?_
  refine lv_iand X.1.1 X.1.2.1 dJ6_bitCount_0f7a4_14 ?_
  refine lv_iload_n X.1.1 X.1.2.1 dJ6_bitCount_0f7a4_15 rfl (lv_at hl 0 rfl) ?_
  refine lv_iconst (v := 2) X.1.1 X.1.2.1 dJ6_bitCount_0f7a4_16 (by decide) ?_
  refine lv_iushr X.1.1 X.1.2.1 dJ6_bitCount_0f7a4_17 rfl ?_
  refine lv_ldcw (v := 858993459) X.1.1 X.1.2.1 X.1.2.2.2.1 (X.1.2.2.2.2 _ coJ6_bitCount_0f7a4_266) dJ6_bitCount_0f7a4_18 ?_
  refine lv_iand X.1.1 X.1.2.1 dJ6_bitCount_0f7a4_21 ?_
  refine lv_iadd X.1.1 X.1.2.1 dJ6_bitCount_0f7a4_22 ?_
  refine zleti hf (fun x2 hf => ?_)
  refine lv_istore_n (lv' := [(0, .int x2)]) X.1.1 X.1.2.1 dJ6_bitCount_0f7a4_23 rfl hl (by decide) rfl (fun ls hl => ?_)
  refine lv_iload_n X.1.1 X.1.2.1 dJ6_bitCount_0f7a4_24 rfl (lv_at hl 0 rfl) ?_
  refine lv_iload_n X.1.1 X.1.2.1 dJ6_bitCount_0f7a4_25 rfl (lv_at hl 0 rfl) ?_
  refine lv_iconst (v := 4) X.1.1 X.1.2.1 dJ6_bitCount_0f7a4_26 (by decide) ?_
  refine lv_iushr X.1.1 X.1.2.1 dJ6_bitCount_0f7a4_27 rfl ?_
  refine lv_iadd X.1.1 X.1.2.1 dJ6_bitCount_0f7a4_28 ?_
  refine lv_ldcw (v := 252645135) X.1.1 X.1.2.1 X.1.2.2.2.1 (X.1.2.2.2.2 _ coJ6_bitCount_0f7a4_267) dJ6_bitCount_0f7a4_29 ?_
  refine lv_iand X.1.1 X.1.2.1 dJ6_bitCount_0f7a4_32 ?_
  refine zleti hf (fun x3 hf => ?_)
  refine lv_istore_n (lv' := [(0, .int x3)]) X.1.1 X.1.2.1 dJ6_bitCount_0f7a4_33 rfl hl (by decide) rfl (fun ls hl => ?_)
  refine lv_iload_n X.1.1 X.1.2.1 dJ6_bitCount_0f7a4_34 rfl (lv_at hl 0 rfl) ?_
  refine lv_iload_n X.1.1 X.1.2.1 dJ6_bitCount_0f7a4_35 rfl (lv_at hl 0 rfl) ?_
  refine lv_bipush (v := 8) X.1.1 X.1.2.1 dJ6_bitCount_0f7a4_36 (by decide) ?_
  refine lv_iushr X.1.1 X.1.2.1 dJ6_bitCount_0f7a4_38 rfl ?_
  refine lv_iadd X.1.1 X.1.2.1 dJ6_bitCount_0f7a4_39 ?_
  refine zleti hf (fun x4 hf => ?_)
  refine lv_istore_n (lv' := [(0, .int x4)]) X.1.1 X.1.2.1 dJ6_bitCount_0f7a4_40 rfl hl (by decide) rfl (fun ls hl => ?_)
  refine lv_iload_n X.1.1 X.1.2.1 dJ6_bitCount_0f7a4_41 rfl (lv_at hl 0 rfl) ?_
  refine lv_iload_n X.1.1 X.1.2.1 dJ6_bitCount_0f7a4_42 rfl (lv_at hl 0 rfl) ?_
  refine lv_bipush (v := 16) X.1.1 X.1.2.1 dJ6_bitCount_0f7a4_43 (by decide) ?_
  refine lv_iushr X.1.1 X.1.2.1 dJ6_bitCount_0f7a4_45 rfl ?_
  refine lv_iadd X.1.1 X.1.2.1 dJ6_bitCount_0f7a4_46 ?_
  refine zleti hf (fun x5 hf => ?_)
  refine lv_istore_n (lv' := [(0, .int x5)]) X.1.1 X.1.2.1 dJ6_bitCount_0f7a4_47 rfl hl (by decide) rfl (fun ls hl => ?_)
  refine lv_iload_n X.1.1 X.1.2.1 dJ6_bitCount_0f7a4_48 rfl (lv_at hl 0 rfl) ?_
  refine lv_bipush (v := 63) X.1.1 X.1.2.1 dJ6_bitCount_0f7a4_49 (by decide) ?_
  refine lv_iand X.1.1 X.1.2.1 dJ6_bitCount_0f7a4_51 ?_
  exact zretIr X hr hlk G hf dJ6_bitCount_0f7a4_52
/-! X3_fewestWhoKnowAll -/
abbrev rmX3_fewestWhoKnowAll : Room := { frames := 1, cells := 0, slots := 0, locals := 22 }
theorem hdV_X3_fewestWhoKnowAll : yX3_fewestWhoKnowAll.cls = RX3 ∧ yX3_fewestWhoKnowAll.cls ≠ "java/lang/invoke/MethodHandle" ∧ yX3_fewestWhoKnowAll.cls ≠ "java/lang/invoke/VarHandle" ∧ (parseMethodDescriptor yX3_fewestWhoKnowAll.desc).map (fun d => d.parameters.length) = some 0 := by decide +kernel
theorem inX3_fewestWhoKnowAll_X3 : ∀ w ∈ wsX30, w ∈ wsX3_fewestWhoKnowAll := by decide +kernel
theorem flX3_fewestWhoKnowAll_19 : Cond.fieldLink RX3 19 (TX3 2).1 (TX3 2).2.1 (TX3 2).2.2.1 ∈ wsX3_fewestWhoKnowAll := by decide +kernel
theorem coX3_fewestWhoKnowAll_64 : Cond.constant RX3 64 (-1000000) ∈ wsX3_fewestWhoKnowAll := by decide +kernel
set_option maxHeartbeats 4000000 in
set_option maxRecDepth 100000 in
theorem w_X3_fewestWhoKnowAll_b40 {p : Program} {l : Launch} {e : Env} {s : State} {m : MethodId} {args : Array Value} {below : List Frame} {meth : Method} {c : Code} {D : va_G} {dA : Nat → ClassId} {b0 : Nat} {h : zH} (X : zX p s m args c cX3_fewestWhoKnowAll 3 RX3 wsX3_fewestWhoKnowAll D dA) (hr : meth.sig.returnType = (some .int)) (hlk : meth.locks = false) {z : Int32} (k5 : Nat → Int32 → Int32 → Option (Int32)) (hk5 : ∀ (r0 : Nat) (a1 : Int32) (a2 : Int32) (H : Heap) (locs : List Loc) (ls : Array Slot), k5 r0 a1 a2 = some z → zG D dA b0 s.heap h H locs → lv_has ls 3 [(0, .ref (b0 + r0)), (1, .int a1), (2, .int a2)] → W p l e rmX3_fewestWhoKnowAll s m args below meth c H locs 0 0 (MQ below (zQ D dA b0 (some (.int z)) h) args s 0 0 (zA b0)) (F0 m 5 ls [])) : ∀ (r0 : Nat) (a2 : Int32) (H : Heap) (locs : List Loc) (ls : Array Slot), f_X3_fewestWhoKnowAll_b40 h k5 r0 a2 = some z → zG D dA b0 s.heap h H locs → lv_has ls 3 [(0, .ref (b0 + r0)), (2, .int a2)] → W p l e rmX3_fewestWhoKnowAll s m args below meth c H locs 0 0 (MQ below (zQ D dA b0 (some (.int z)) h) args s 0 0 (zA b0)) (F0 m 40 ls []) := by
  intro r0 a2 H locs ls hf G hl
  unfold f_X3_fewestWhoKnowAll_b40 at hf
  refine lv_iload_n X.1.1 X.1.2.1 dX3_fewestWhoKnowAll_40 rfl (lv_at hl 1 rfl) ?_
  refine lv_istore_n (lv' := [(1, .int a2), (0, .ref (b0 + r0)), (2, .int a2)]) X.1.1 X.1.2.1 dX3_fewestWhoKnowAll_41 rfl hl (by decide) rfl (fun ls hl => ?_)
  refine lv_iinc (v := (a2 + (1 : Int32))) (lv' := [(2, .int (a2 + (1 : Int32))), (1, .int a2), (0, .ref (b0 + r0))]) X.1.1 X.1.2.1 dX3_fewestWhoKnowAll_42 hl (k := 2) rfl rfl (by decide) rfl (fun ls hl => ?_)
  refine lv_goto (tgt := 5) X.1.1 X.1.2.1 dX3_fewestWhoKnowAll_45 (by decide) ?_
  exact hk5 _ _ _ _ _ _ hf G (lv_sub hl [2, 1, 0] rfl)
set_option maxHeartbeats 4000000 in
set_option maxRecDepth 100000 in
theorem w_X3_fewestWhoKnowAll_b5 {p : Program} {l : Launch} {e : Env} {s : State} {m : MethodId} {args : Array Value} {below : List Frame} {meth : Method} {c : Code} {D : va_G} {dA : Nat → ClassId} {b0 : Nat} {h : zH} (X : zX p s m args c cX3_fewestWhoKnowAll 3 RX3 wsX3_fewestWhoKnowAll D dA) (hr : meth.sig.returnType = (some .int)) (hlk : meth.locks = false) {z : Int32} : ∀ (n : Nat), ∀ (r0 : Nat) (a1 : Int32) (a2 : Int32) (H : Heap) (locs : List Loc) (ls : Array Slot), f_X3_fewestWhoKnowAll_b5 h n r0 a1 a2 = some z → zG D dA b0 s.heap h H locs → lv_has ls 3 [(0, .ref (b0 + r0)), (1, .int a1), (2, .int a2)] → W p l e rmX3_fewestWhoKnowAll s m args below meth c H locs 0 0 (MQ below (zQ D dA b0 (some (.int z)) h) args s 0 0 (zA b0)) (F0 m 5 ls []) := by
  intro n
  induction n with
  | zero =>
    intro r0 a1 a2 H locs ls hf
    cases hf
  | succ n ih =>
    intro r0 a1 a2 H locs ls hf G hl
    rw [f_X3_fewestWhoKnowAll_b5] at hf
    refine lv_iload_n X.1.1 X.1.2.1 dX3_fewestWhoKnowAll_5 rfl (lv_at hl 2 rfl) ?_
    refine lv_iconst (v := 1) X.1.1 X.1.2.1 dX3_fewestWhoKnowAll_6 (by decide) ?_
    refine lv_aload_n X.1.1 X.1.2.1 dX3_fewestWhoKnowAll_7 rfl (lv_at hl 0 rfl) ?_
    refine zgetI (ci := 3) (k := 2) (C := RX3) (T := TX3) (N := 12) X G rfl inX3_fewestWhoKnowAll_X3 (Nat.le_of_ble_eq_true rfl) flX3_fewestWhoKnowAll_19 dX3_fewestWhoKnowAll_8 hf (fun v1 hf => ?_)
    refine lv_ishl X.1.1 X.1.2.1 dX3_fewestWhoKnowAll_11 ?_
    refine zic_ge (tgt := 48) X dX3_fewestWhoKnowAll_12 (by decide) hf (fun hf => ?_) (fun hf => ?_)
    · refine lv_iload_n X.1.1 X.1.2.1 dX3_fewestWhoKnowAll_48 rfl (lv_at hl 1 rfl) ?_
      exact zretIr X hr hlk G hf dX3_fewestWhoKnowAll_49
    · refine lv_aload_n X.1.1 X.1.2.1 dX3_fewestWhoKnowAll_15 rfl (lv_at hl 0 rfl) ?_
      refine lv_iload_n X.1.1 X.1.2.1 dX3_fewestWhoKnowAll_16 rfl (lv_at hl 2 rfl) ?_
      obtain ⟨hk, hf⟩ := zck hf
      obtain ⟨q2, eq2, hf⟩ := Option.bind_eq_some_iff.mp hf
      refine zcV0 (As := [.int a2]) (rest := []) (v := (some (.int q2))) (h' := h) X G (rfl : vwCl[3]? = some (RX3, TX3, 12)) hk (m_X3_allKnownTo l D dA b0 r0 a2 h q2 eq2) (cwV 1 X.1.2.2.2.2 gX3_fewestWhoKnowAll_X3_allKnownTo rfl rfl rfl hdV_X3_allKnownTo ⟨(Nat.le_of_ble_eq_true rfl), (Nat.le_of_ble_eq_true rfl)⟩) rfl hl.1 rfl (Nat.le_of_ble_eq_true rfl) dX3_fewestWhoKnowAll_17 ⟨Nat.zero_le _, Nat.zero_le _⟩ (fun H locs G => ?_)
      refine zif_eq (tgt := 42) X dX3_fewestWhoKnowAll_20 (by decide) hf (fun hf => ?_) (fun hf => ?_)
      · refine lv_iinc (v := (a2 + (1 : Int32))) (lv' := [(2, .int (a2 + (1 : Int32))), (0, .ref (b0 + r0)), (1, .int a1)]) X.1.1 X.1.2.1 dX3_fewestWhoKnowAll_42 hl (k := 2) rfl rfl (by decide) rfl (fun ls hl => ?_)
        refine lv_goto (tgt := 5) X.1.1 X.1.2.1 dX3_fewestWhoKnowAll_45 (by decide) ?_
        exact ih _ _ _ _ _ _ hf G (lv_sub hl [1, 2, 0] rfl)
      · refine lv_iload_n X.1.1 X.1.2.1 dX3_fewestWhoKnowAll_23 rfl (lv_at hl 1 rfl) ?_
        refine lv_ldc (v := -1000000) X.1.1 X.1.2.1 X.1.2.2.2.1 (X.1.2.2.2.2 _ coX3_fewestWhoKnowAll_64) dX3_fewestWhoKnowAll_24 ?_
        refine zic_eq (tgt := 40) X dX3_fewestWhoKnowAll_26 (by decide) hf (fun hf => ?_) (fun hf => ?_)
        · exact w_X3_fewestWhoKnowAll_b40 X hr hlk _ ih _ _ _ _ _ hf G (lv_sub hl [0, 2] rfl)
        · refine lv_iload_n X.1.1 X.1.2.1 dX3_fewestWhoKnowAll_29 rfl (lv_at hl 2 rfl) ?_
          obtain ⟨q3, eq3, hf⟩ := Option.bind_eq_some_iff.mp hf
          refine zcS0 (As := [.int a2]) (rest := []) (v := (some (.int q3))) (h' := h) X G (m_J6_bitCount_0f7a4 l D dA b0 a2 h q3 eq3) (va_cwS 1 X.1.2.2.2.2 gX3_fewestWhoKnowAll_J6_bitCount_0f7a4 rfl rfl rfl hdS_J6_bitCount_0f7a4 ⟨(Nat.le_of_ble_eq_true rfl), (Nat.le_of_ble_eq_true rfl)⟩) rfl hl.1 rfl (Nat.le_of_ble_eq_true rfl) dX3_fewestWhoKnowAll_30 ⟨Nat.zero_le _, Nat.zero_le _⟩ (fun H locs G => ?_)
          refine lv_iload_n X.1.1 X.1.2.1 dX3_fewestWhoKnowAll_33 rfl (lv_at hl 1 rfl) ?_
          obtain ⟨q4, eq4, hf⟩ := Option.bind_eq_some_iff.mp hf
          refine zcS0 (As := [.int a1]) (rest := [.int q3]) (v := (some (.int q4))) (h' := h) X G (m_J6_bitCount_0f7a4 l D dA b0 a1 h q4 eq4) (va_cwS 1 X.1.2.2.2.2 gX3_fewestWhoKnowAll_J6_bitCount_0f7a4 rfl rfl rfl hdS_J6_bitCount_0f7a4 ⟨(Nat.le_of_ble_eq_true rfl), (Nat.le_of_ble_eq_true rfl)⟩) rfl hl.1 rfl (Nat.le_of_ble_eq_true rfl) dX3_fewestWhoKnowAll_34 ⟨Nat.zero_le _, Nat.zero_le _⟩ (fun H locs G => ?_)
          refine zic_ge (tgt := 42) X dX3_fewestWhoKnowAll_37 (by decide) hf (fun hf => ?_) (fun hf => ?_)
          · refine lv_iinc (v := (a2 + (1 : Int32))) (lv' := [(2, .int (a2 + (1 : Int32))), (0, .ref (b0 + r0)), (1, .int a1)]) X.1.1 X.1.2.1 dX3_fewestWhoKnowAll_42 hl (k := 2) rfl rfl (by decide) rfl (fun ls hl => ?_)
            refine lv_goto (tgt := 5) X.1.1 X.1.2.1 dX3_fewestWhoKnowAll_45 (by decide) ?_
            exact ih _ _ _ _ _ _ hf G (lv_sub hl [1, 2, 0] rfl)
          · exact w_X3_fewestWhoKnowAll_b40 X hr hlk _ ih _ _ _ _ _ hf G (lv_sub hl [0, 2] rfl)
set_option maxHeartbeats 4000000 in
set_option maxRecDepth 100000 in
theorem m_X3_fewestWhoKnowAll (l : Launch) (D : va_G) (dA : Nat → ClassId) (b0 : Nat) (r0 : Nat) (h : zH) (z : Int32) (hf : f_X3_fewestWhoKnowAll r0 h = some z) : Met l yX3_fewestWhoKnowAll wsX3_fewestWhoKnowAll rmX3_fewestWhoKnowAll (zPc D dA b0 [.ref (b0 + r0)] h) (zQ D dA b0 (some (.int z)) h) 0 0 (zA b0) := by
  refine Met.ofW (cc := cX3_fewestWhoKnowAll) (maxL := 3) (ret := (some .int)) (by decide) rfl ?_
  intro p e s m args below meth c s₁ B hml hv
  obtain ⟨rfl, hP, hz, hK, hN⟩ := hv
  have hr := B.returns
  have hlk := B.notSynchronized
  have X : zX p s m _ c cX3_fewestWhoKnowAll 3 RX3 wsX3_fewestWhoKnowAll D dA := ⟨⟨B.exec, B.bytes, hml, findClass_of_methodNamed B.named, atoms_spec (ws := wsX3_fewestWhoKnowAll) B.pre⟩, hK, hN⟩
  have G : zG D dA b0 s.heap h s.heap [] := ⟨hP, hz, va_S.rf⟩
  have hl := lv_entry ([.ref (b0 + r0)]) (n := 3) (Nat.le_of_ble_eq_true rfl)
  rw [lg_entry_eq]
  generalize (lg_sl ([.ref (b0 + r0)]) ++ List.replicate (3 - (lg_sl ([.ref (b0 + r0)])).length) Slot.unset).toArray = ls at hl ⊢
  have hl : lv_has ls 3 [(0, .ref (b0 + r0))] := hl
  unfold f_X3_fewestWhoKnowAll at hf
  refine lv_ldc (v := -1000000) X.1.1 X.1.2.1 X.1.2.2.2.1 (X.1.2.2.2.2 _ coX3_fewestWhoKnowAll_64) dX3_fewestWhoKnowAll_0 ?_
  refine lv_istore_n (lv' := [(1, .int (-1000000 : Int32)), (0, .ref (b0 + r0))]) X.1.1 X.1.2.1 dX3_fewestWhoKnowAll_2 rfl hl (by decide) rfl (fun ls hl => ?_)
  refine lv_iconst (v := 0) X.1.1 X.1.2.1 dX3_fewestWhoKnowAll_3 (by decide) ?_
  refine lv_istore_n (lv' := [(2, .int (0 : Int32)), (1, .int (-1000000 : Int32)), (0, .ref (b0 + r0))]) X.1.1 X.1.2.1 dX3_fewestWhoKnowAll_4 rfl hl (by decide) rfl (fun ls hl => ?_)
  exact w_X3_fewestWhoKnowAll_b5 X hr hlk _ _ _ _ _ _ _ hf G (lv_sub hl [2, 1, 0] rfl)
/-! X3_countHalves -/
abbrev rmX3_countHalves : Room := { frames := 0, cells := 0, slots := 0, locals := 0 }
theorem hdV_X3_countHalves : yX3_countHalves.cls = RX3 ∧ yX3_countHalves.cls ≠ "java/lang/invoke/MethodHandle" ∧ yX3_countHalves.cls ≠ "java/lang/invoke/VarHandle" ∧ (parseMethodDescriptor yX3_countHalves.desc).map (fun d => d.parameters.length) = some 0 := by decide +kernel
theorem inX3_countHalves_X3 : ∀ w ∈ wsX30, w ∈ wsX3_countHalves := by decide +kernel
theorem flX3_countHalves_15 : Cond.fieldLink RX3 15 (TX3 1).1 (TX3 1).2.1 (TX3 1).2.2.1 ∈ wsX3_countHalves := by decide +kernel
theorem flX3_countHalves_44 : Cond.fieldLink RX3 44 (TX3 10).1 (TX3 10).2.1 (TX3 10).2.2.1 ∈ wsX3_countHalves := by decide +kernel
set_option maxHeartbeats 4000000 in
set_option maxRecDepth 100000 in
theorem w_X3_countHalves_b16 {p : Program} {l : Launch} {e : Env} {s : State} {m : MethodId} {args : Array Value} {below : List Frame} {meth : Method} {c : Code} {D : va_G} {dA : Nat → ClassId} {b0 : Nat} {h : zH} (X : zX p s m args c cX3_countHalves 4 RX3 wsX3_countHalves D dA) (hr : meth.sig.returnType = (some .int)) (hlk : meth.locks = false) {z : Int32} (k4 : Nat → Int32 → Int32 → Option (Int32)) (hk4 : ∀ (r0 : Nat) (a1 : Int32) (a2 : Int32) (H : Heap) (locs : List Loc) (ls : Array Slot), k4 r0 a1 a2 = some z → zG D dA b0 s.heap h H locs → lv_has ls 4 [(0, .ref (b0 + r0)), (1, .int a1), (2, .int a2)] → W p l e rmX3_countHalves s m args below meth c H locs 0 0 (MQ below (zQ D dA b0 (some (.int z)) h) args s 0 0 (zA b0)) (F0 m 4 ls [])) : ∀ (n : Nat), ∀ (r0 : Nat) (a1 : Int32) (a2 : Int32) (a3 : Int32) (H : Heap) (locs : List Loc) (ls : Array Slot), f_X3_countHalves_b16 h k4 n r0 a1 a2 a3 = some z → zG D dA b0 s.heap h H locs → lv_has ls 4 [(0, .ref (b0 + r0)), (1, .int a1), (2, .int a2), (3, .int a3)] → W p l e rmX3_countHalves s m args below meth c H locs 0 0 (MQ below (zQ D dA b0 (some (.int z)) h) args s 0 0 (zA b0)) (F0 m 16 ls []) := by
  intro n
  induction n with
  | zero =>
    intro r0 a1 a2 a3 H locs ls hf
    cases hf
  | succ n ih =>
    intro r0 a1 a2 a3 H locs ls hf G hl
    rw [f_X3_countHalves_b16] at hf
    refine lv_iload_n X.1.1 X.1.2.1 dX3_countHalves_16 rfl (lv_at hl 3 rfl) ?_
    refine lv_aload_n X.1.1 X.1.2.1 dX3_countHalves_17 rfl (lv_at hl 0 rfl) ?_
    refine zgetI (ci := 3) (k := 1) (C := RX3) (T := TX3) (N := 12) X G rfl inX3_countHalves_X3 (Nat.le_of_ble_eq_true rfl) flX3_countHalves_15 dX3_countHalves_18 hf (fun v1 hf => ?_)
    refine zic_ge (tgt := 49) X dX3_countHalves_21 (by decide) hf (fun hf => ?_) (fun hf => ?_)
    · refine lv_iinc (v := (a2 + (1 : Int32))) (lv' := [(2, .int (a2 + (1 : Int32))), (0, .ref (b0 + r0)), (1, .int a1), (3, .int a3)]) X.1.1 X.1.2.1 dX3_countHalves_49 hl (k := 2) rfl rfl (by decide) rfl (fun ls hl => ?_)
      refine lv_goto (tgt := 4) X.1.1 X.1.2.1 dX3_countHalves_52 (by decide) ?_
      exact hk4 _ _ _ _ _ _ hf G (lv_sub hl [1, 2, 0] rfl)
    · refine lv_aload_n X.1.1 X.1.2.1 dX3_countHalves_24 rfl (lv_at hl 0 rfl) ?_
      refine zgetR (ci := 3) (k := 10) (C := RX3) (T := TX3) (N := 12) X G rfl inX3_countHalves_X3 (Nat.le_of_ble_eq_true rfl) flX3_countHalves_44 dX3_countHalves_25 hf (fun v2 hf => ?_)
      refine lv_iload_n X.1.1 X.1.2.1 dX3_countHalves_28 rfl (lv_at hl 2 rfl) ?_
      refine ziald X G dX3_countHalves_29 hf (fun v3 hf => ?_)
      refine lv_aload_n X.1.1 X.1.2.1 dX3_countHalves_30 rfl (lv_at hl 0 rfl) ?_
      refine zgetR (ci := 3) (k := 10) (C := RX3) (T := TX3) (N := 12) X G rfl inX3_countHalves_X3 (Nat.le_of_ble_eq_true rfl) flX3_countHalves_44 dX3_countHalves_31 hf (fun v4 hf => ?_)
      refine lv_iload_n X.1.1 X.1.2.1 dX3_countHalves_34 rfl (lv_at hl 3 rfl) ?_
      refine ziald X G dX3_countHalves_35 hf (fun v5 hf => ?_)
      refine lv_iand X.1.1 X.1.2.1 dX3_countHalves_36 ?_
      refine zif_eq (tgt := 43) X dX3_countHalves_37 (by decide) hf (fun hf => ?_) (fun hf => ?_)
      · refine lv_iinc (v := (a3 + (1 : Int32))) (lv' := [(3, .int (a3 + (1 : Int32))), (0, .ref (b0 + r0)), (1, .int a1), (2, .int a2)]) X.1.1 X.1.2.1 dX3_countHalves_43 hl (k := 3) rfl rfl (by decide) rfl (fun ls hl => ?_)
        refine lv_goto (tgt := 16) X.1.1 X.1.2.1 dX3_countHalves_46 (by decide) ?_
        exact ih _ _ _ _ _ _ _ hf G (lv_sub hl [1, 2, 3, 0] rfl)
      · refine lv_iinc (v := (a1 + (1 : Int32))) (lv' := [(1, .int (a1 + (1 : Int32))), (0, .ref (b0 + r0)), (2, .int a2), (3, .int a3)]) X.1.1 X.1.2.1 dX3_countHalves_40 hl (k := 1) rfl rfl (by decide) rfl (fun ls hl => ?_)
        refine lv_iinc (v := (a3 + (1 : Int32))) (lv' := [(3, .int (a3 + (1 : Int32))), (1, .int (a1 + (1 : Int32))), (0, .ref (b0 + r0)), (2, .int a2)]) X.1.1 X.1.2.1 dX3_countHalves_43 hl (k := 3) rfl rfl (by decide) rfl (fun ls hl => ?_)
        refine lv_goto (tgt := 16) X.1.1 X.1.2.1 dX3_countHalves_46 (by decide) ?_
        exact ih _ _ _ _ _ _ _ hf G (lv_sub hl [2, 1, 3, 0] rfl)
set_option maxHeartbeats 4000000 in
set_option maxRecDepth 100000 in
theorem w_X3_countHalves_b4 {p : Program} {l : Launch} {e : Env} {s : State} {m : MethodId} {args : Array Value} {below : List Frame} {meth : Method} {c : Code} {D : va_G} {dA : Nat → ClassId} {b0 : Nat} {h : zH} (X : zX p s m args c cX3_countHalves 4 RX3 wsX3_countHalves D dA) (hr : meth.sig.returnType = (some .int)) (hlk : meth.locks = false) {z : Int32} : ∀ (n : Nat), ∀ (r0 : Nat) (a1 : Int32) (a2 : Int32) (H : Heap) (locs : List Loc) (ls : Array Slot), f_X3_countHalves_b4 h n r0 a1 a2 = some z → zG D dA b0 s.heap h H locs → lv_has ls 4 [(0, .ref (b0 + r0)), (1, .int a1), (2, .int a2)] → W p l e rmX3_countHalves s m args below meth c H locs 0 0 (MQ below (zQ D dA b0 (some (.int z)) h) args s 0 0 (zA b0)) (F0 m 4 ls []) := by
  intro n
  induction n with
  | zero =>
    intro r0 a1 a2 H locs ls hf
    cases hf
  | succ n ih =>
    intro r0 a1 a2 H locs ls hf G hl
    rw [f_X3_countHalves_b4] at hf
    refine lv_iload_n X.1.1 X.1.2.1 dX3_countHalves_4 rfl (lv_at hl 2 rfl) ?_
    refine lv_aload_n X.1.1 X.1.2.1 dX3_countHalves_5 rfl (lv_at hl 0 rfl) ?_
    refine zgetI (ci := 3) (k := 1) (C := RX3) (T := TX3) (N := 12) X G rfl inX3_countHalves_X3 (Nat.le_of_ble_eq_true rfl) flX3_countHalves_15 dX3_countHalves_6 hf (fun v1 hf => ?_)
    refine zic_ge (tgt := 55) X dX3_countHalves_9 (by decide) hf (fun hf => ?_) (fun hf => ?_)
    · refine lv_iload_n X.1.1 X.1.2.1 dX3_countHalves_55 rfl (lv_at hl 1 rfl) ?_
      exact zretIr X hr hlk G hf dX3_countHalves_56
    · refine lv_iload_n X.1.1 X.1.2.1 dX3_countHalves_12 rfl (lv_at hl 2 rfl) ?_
      refine lv_iconst (v := 1) X.1.1 X.1.2.1 dX3_countHalves_13 (by decide) ?_
      refine lv_iadd X.1.1 X.1.2.1 dX3_countHalves_14 ?_
      refine zleti hf (fun x2 hf => ?_)
      refine lv_istore_n (lv' := [(3, .int x2), (0, .ref (b0 + r0)), (1, .int a1), (2, .int a2)]) X.1.1 X.1.2.1 dX3_countHalves_15 rfl hl (by decide) rfl (fun ls hl => ?_)
      exact w_X3_countHalves_b16 X hr hlk _ ih _ _ _ _ _ _ _ _ hf G (lv_sub hl [1, 2, 3, 0] rfl)
set_option maxHeartbeats 4000000 in
set_option maxRecDepth 100000 in
theorem m_X3_countHalves (l : Launch) (D : va_G) (dA : Nat → ClassId) (b0 : Nat) (r0 : Nat) (h : zH) (z : Int32) (hf : f_X3_countHalves r0 h = some z) : Met l yX3_countHalves wsX3_countHalves rmX3_countHalves (zPc D dA b0 [.ref (b0 + r0)] h) (zQ D dA b0 (some (.int z)) h) 0 0 (zA b0) := by
  refine Met.ofW (cc := cX3_countHalves) (maxL := 4) (ret := (some .int)) (by decide) rfl ?_
  intro p e s m args below meth c s₁ B hml hv
  obtain ⟨rfl, hP, hz, hK, hN⟩ := hv
  have hr := B.returns
  have hlk := B.notSynchronized
  have X : zX p s m _ c cX3_countHalves 4 RX3 wsX3_countHalves D dA := ⟨⟨B.exec, B.bytes, hml, findClass_of_methodNamed B.named, atoms_spec (ws := wsX3_countHalves) B.pre⟩, hK, hN⟩
  have G : zG D dA b0 s.heap h s.heap [] := ⟨hP, hz, va_S.rf⟩
  have hl := lv_entry ([.ref (b0 + r0)]) (n := 4) (Nat.le_of_ble_eq_true rfl)
  rw [lg_entry_eq]
  generalize (lg_sl ([.ref (b0 + r0)]) ++ List.replicate (4 - (lg_sl ([.ref (b0 + r0)])).length) Slot.unset).toArray = ls at hl ⊢
  have hl : lv_has ls 4 [(0, .ref (b0 + r0))] := hl
  unfold f_X3_countHalves at hf
  refine lv_iconst (v := 0) X.1.1 X.1.2.1 dX3_countHalves_0 (by decide) ?_
  refine lv_istore_n (lv' := [(1, .int (0 : Int32)), (0, .ref (b0 + r0))]) X.1.1 X.1.2.1 dX3_countHalves_1 rfl hl (by decide) rfl (fun ls hl => ?_)
  refine lv_iconst (v := 0) X.1.1 X.1.2.1 dX3_countHalves_2 (by decide) ?_
  refine lv_istore_n (lv' := [(2, .int (0 : Int32)), (1, .int (0 : Int32)), (0, .ref (b0 + r0))]) X.1.1 X.1.2.1 dX3_countHalves_3 rfl hl (by decide) rfl (fun ls hl => ?_)
  exact w_X3_countHalves_b4 X hr hlk _ _ _ _ _ _ _ hf G (lv_sub hl [2, 1, 0] rfl)
/-! X3_firstHalves -/
abbrev rmX3_firstHalves : Room := { frames := 0, cells := 0, slots := 0, locals := 0 }
theorem hdV_X3_firstHalves : yX3_firstHalves.cls = RX3 ∧ yX3_firstHalves.cls ≠ "java/lang/invoke/MethodHandle" ∧ yX3_firstHalves.cls ≠ "java/lang/invoke/VarHandle" ∧ (parseMethodDescriptor yX3_firstHalves.desc).map (fun d => d.parameters.length) = some 0 := by decide +kernel
theorem inX3_firstHalves_X3 : ∀ w ∈ wsX30, w ∈ wsX3_firstHalves := by decide +kernel
theorem flX3_firstHalves_15 : Cond.fieldLink RX3 15 (TX3 1).1 (TX3 1).2.1 (TX3 1).2.2.1 ∈ wsX3_firstHalves := by decide +kernel
theorem flX3_firstHalves_44 : Cond.fieldLink RX3 44 (TX3 10).1 (TX3 10).2.1 (TX3 10).2.2.1 ∈ wsX3_firstHalves := by decide +kernel
theorem coX3_firstHalves_64 : Cond.constant RX3 64 (-1000000) ∈ wsX3_firstHalves := by decide +kernel
set_option maxHeartbeats 4000000 in
set_option maxRecDepth 100000 in
theorem w_X3_firstHalves_b14 {p : Program} {l : Launch} {e : Env} {s : State} {m : MethodId} {args : Array Value} {below : List Frame} {meth : Method} {c : Code} {D : va_G} {dA : Nat → ClassId} {b0 : Nat} {h : zH} (X : zX p s m args c cX3_firstHalves 3 RX3 wsX3_firstHalves D dA) (hr : meth.sig.returnType = (some .int)) (hlk : meth.locks = false) {z : Int32} (k2 : Nat → Int32 → Option (Int32)) (hk2 : ∀ (r0 : Nat) (a1 : Int32) (H : Heap) (locs : List Loc) (ls : Array Slot), k2 r0 a1 = some z → zG D dA b0 s.heap h H locs → lv_has ls 3 [(0, .ref (b0 + r0)), (1, .int a1)] → W p l e rmX3_firstHalves s m args below meth c H locs 0 0 (MQ below (zQ D dA b0 (some (.int z)) h) args s 0 0 (zA b0)) (F0 m 2 ls [])) : ∀ (n : Nat), ∀ (r0 : Nat) (a1 : Int32) (a2 : Int32) (H : Heap) (locs : List Loc) (ls : Array Slot), f_X3_firstHalves_b14 h k2 n r0 a1 a2 = some z → zG D dA b0 s.heap h H locs → lv_has ls 3 [(0, .ref (b0 + r0)), (1, .int a1), (2, .int a2)] → W p l e rmX3_firstHalves s m args below meth c H locs 0 0 (MQ below (zQ D dA b0 (some (.int z)) h) args s 0 0 (zA b0)) (F0 m 14 ls []) := by
  intro n
  induction n with
  | zero =>
    intro r0 a1 a2 H locs ls hf
    cases hf
  | succ n ih =>
    intro r0 a1 a2 H locs ls hf G hl
    rw [f_X3_firstHalves_b14] at hf
    refine lv_iload_n X.1.1 X.1.2.1 dX3_firstHalves_14 rfl (lv_at hl 2 rfl) ?_
    refine lv_aload_n X.1.1 X.1.2.1 dX3_firstHalves_15 rfl (lv_at hl 0 rfl) ?_
    refine zgetI (ci := 3) (k := 1) (C := RX3) (T := TX3) (N := 12) X G rfl inX3_firstHalves_X3 (Nat.le_of_ble_eq_true rfl) flX3_firstHalves_15 dX3_firstHalves_16 hf (fun v1 hf => ?_)
    refine zic_ge (tgt := 51) X dX3_firstHalves_19 (by decide) hf (fun hf => ?_) (fun hf => ?_)
    · refine lv_iinc (v := (a1 + (1 : Int32))) (lv' := [(1, .int (a1 + (1 : Int32))), (0, .ref (b0 + r0)), (2, .int a2)]) X.1.1 X.1.2.1 dX3_firstHalves_51 hl (k := 1) rfl rfl (by decide) rfl (fun ls hl => ?_)
      refine lv_goto (tgt := 2) X.1.1 X.1.2.1 dX3_firstHalves_54 (by decide) ?_
      exact hk2 _ _ _ _ _ hf G (lv_sub hl [1, 0] rfl)
    · refine lv_aload_n X.1.1 X.1.2.1 dX3_firstHalves_22 rfl (lv_at hl 0 rfl) ?_
      refine zgetR (ci := 3) (k := 10) (C := RX3) (T := TX3) (N := 12) X G rfl inX3_firstHalves_X3 (Nat.le_of_ble_eq_true rfl) flX3_firstHalves_44 dX3_firstHalves_23 hf (fun v2 hf => ?_)
      refine lv_iload_n X.1.1 X.1.2.1 dX3_firstHalves_26 rfl (lv_at hl 1 rfl) ?_
      refine ziald X G dX3_firstHalves_27 hf (fun v3 hf => ?_)
      refine lv_aload_n X.1.1 X.1.2.1 dX3_firstHalves_28 rfl (lv_at hl 0 rfl) ?_
      refine zgetR (ci := 3) (k := 10) (C := RX3) (T := TX3) (N := 12) X G rfl inX3_firstHalves_X3 (Nat.le_of_ble_eq_true rfl) flX3_firstHalves_44 dX3_firstHalves_29 hf (fun v4 hf => ?_)
      refine lv_iload_n X.1.1 X.1.2.1 dX3_firstHalves_32 rfl (lv_at hl 2 rfl) ?_
      refine ziald X G dX3_firstHalves_33 hf (fun v5 hf => ?_)
      refine lv_iand X.1.1 X.1.2.1 dX3_firstHalves_34 ?_
      refine zif_eq (tgt := 45) X dX3_firstHalves_35 (by decide) hf (fun hf => ?_) (fun hf => ?_)
      · refine lv_iinc (v := (a2 + (1 : Int32))) (lv' := [(2, .int (a2 + (1 : Int32))), (0, .ref (b0 + r0)), (1, .int a1)]) X.1.1 X.1.2.1 dX3_firstHalves_45 hl (k := 2) rfl rfl (by decide) rfl (fun ls hl => ?_)
        refine lv_goto (tgt := 14) X.1.1 X.1.2.1 dX3_firstHalves_48 (by decide) ?_
        exact ih _ _ _ _ _ _ hf G (lv_sub hl [1, 2, 0] rfl)
      · refine lv_bipush (v := 10) X.1.1 X.1.2.1 dX3_firstHalves_38 (by decide) ?_
        refine lv_iload_n X.1.1 X.1.2.1 dX3_firstHalves_40 rfl (lv_at hl 1 rfl) ?_
        refine lv_imul X.1.1 X.1.2.1 dX3_firstHalves_41 ?_
        refine lv_iload_n X.1.1 X.1.2.1 dX3_firstHalves_42 rfl (lv_at hl 2 rfl) ?_
        refine lv_iadd X.1.1 X.1.2.1 dX3_firstHalves_43 ?_
        exact zretIr X hr hlk G hf dX3_firstHalves_44
set_option maxHeartbeats 4000000 in
set_option maxRecDepth 100000 in
theorem w_X3_firstHalves_b2 {p : Program} {l : Launch} {e : Env} {s : State} {m : MethodId} {args : Array Value} {below : List Frame} {meth : Method} {c : Code} {D : va_G} {dA : Nat → ClassId} {b0 : Nat} {h : zH} (X : zX p s m args c cX3_firstHalves 3 RX3 wsX3_firstHalves D dA) (hr : meth.sig.returnType = (some .int)) (hlk : meth.locks = false) {z : Int32} : ∀ (n : Nat), ∀ (r0 : Nat) (a1 : Int32) (H : Heap) (locs : List Loc) (ls : Array Slot), f_X3_firstHalves_b2 h n r0 a1 = some z → zG D dA b0 s.heap h H locs → lv_has ls 3 [(0, .ref (b0 + r0)), (1, .int a1)] → W p l e rmX3_firstHalves s m args below meth c H locs 0 0 (MQ below (zQ D dA b0 (some (.int z)) h) args s 0 0 (zA b0)) (F0 m 2 ls []) := by
  intro n
  induction n with
  | zero =>
    intro r0 a1 H locs ls hf
    cases hf
  | succ n ih =>
    intro r0 a1 H locs ls hf G hl
    rw [f_X3_firstHalves_b2] at hf
    refine lv_iload_n X.1.1 X.1.2.1 dX3_firstHalves_2 rfl (lv_at hl 1 rfl) ?_
    refine lv_aload_n X.1.1 X.1.2.1 dX3_firstHalves_3 rfl (lv_at hl 0 rfl) ?_
    refine zgetI (ci := 3) (k := 1) (C := RX3) (T := TX3) (N := 12) X G rfl inX3_firstHalves_X3 (Nat.le_of_ble_eq_true rfl) flX3_firstHalves_15 dX3_firstHalves_4 hf (fun v1 hf => ?_)
    refine zic_ge (tgt := 57) X dX3_firstHalves_7 (by decide) hf (fun hf => ?_) (fun hf => ?_)
    · refine lv_ldc (v := -1000000) X.1.1 X.1.2.1 X.1.2.2.2.1 (X.1.2.2.2.2 _ coX3_firstHalves_64) dX3_firstHalves_57 ?_
      exact zretIr X hr hlk G hf dX3_firstHalves_59
    · refine lv_iload_n X.1.1 X.1.2.1 dX3_firstHalves_10 rfl (lv_at hl 1 rfl) ?_
      refine lv_iconst (v := 1) X.1.1 X.1.2.1 dX3_firstHalves_11 (by decide) ?_
      refine lv_iadd X.1.1 X.1.2.1 dX3_firstHalves_12 ?_
      refine zleti hf (fun x2 hf => ?_)
      refine lv_istore_n (lv' := [(2, .int x2), (0, .ref (b0 + r0)), (1, .int a1)]) X.1.1 X.1.2.1 dX3_firstHalves_13 rfl hl (by decide) rfl (fun ls hl => ?_)
      exact w_X3_firstHalves_b14 X hr hlk _ ih _ _ _ _ _ _ _ hf G (lv_sub hl [1, 2, 0] rfl)
set_option maxHeartbeats 4000000 in
set_option maxRecDepth 100000 in
theorem m_X3_firstHalves (l : Launch) (D : va_G) (dA : Nat → ClassId) (b0 : Nat) (r0 : Nat) (h : zH) (z : Int32) (hf : f_X3_firstHalves r0 h = some z) : Met l yX3_firstHalves wsX3_firstHalves rmX3_firstHalves (zPc D dA b0 [.ref (b0 + r0)] h) (zQ D dA b0 (some (.int z)) h) 0 0 (zA b0) := by
  refine Met.ofW (cc := cX3_firstHalves) (maxL := 3) (ret := (some .int)) (by decide) rfl ?_
  intro p e s m args below meth c s₁ B hml hv
  obtain ⟨rfl, hP, hz, hK, hN⟩ := hv
  have hr := B.returns
  have hlk := B.notSynchronized
  have X : zX p s m _ c cX3_firstHalves 3 RX3 wsX3_firstHalves D dA := ⟨⟨B.exec, B.bytes, hml, findClass_of_methodNamed B.named, atoms_spec (ws := wsX3_firstHalves) B.pre⟩, hK, hN⟩
  have G : zG D dA b0 s.heap h s.heap [] := ⟨hP, hz, va_S.rf⟩
  have hl := lv_entry ([.ref (b0 + r0)]) (n := 3) (Nat.le_of_ble_eq_true rfl)
  rw [lg_entry_eq]
  generalize (lg_sl ([.ref (b0 + r0)]) ++ List.replicate (3 - (lg_sl ([.ref (b0 + r0)])).length) Slot.unset).toArray = ls at hl ⊢
  have hl : lv_has ls 3 [(0, .ref (b0 + r0))] := hl
  unfold f_X3_firstHalves at hf
  refine lv_iconst (v := 0) X.1.1 X.1.2.1 dX3_firstHalves_0 (by decide) ?_
  refine lv_istore_n (lv' := [(1, .int (0 : Int32)), (0, .ref (b0 + r0))]) X.1.1 X.1.2.1 dX3_firstHalves_1 rfl hl (by decide) rfl (fun ls hl => ?_)
  exact w_X3_firstHalves_b2 X hr hlk _ _ _ _ _ _ hf G (lv_sub hl [1, 0] rfl)
/-! X4_init -/
abbrev rmX4_init : Room := { frames := 1, cells := 11, slots := 344, locals := 40 }
theorem hdS_X4_init : yX4_init.cls ≠ "java/lang/invoke/MethodHandle" ∧ yX4_init.cls ≠ "java/lang/invoke/VarHandle" ∧ (parseMethodDescriptor yX4_init.desc).map (fun d => d.parameters.length) = some 0 := by decide +kernel
theorem wdX4_init_oL3 : Cond.methodLink RX4 3 objectInit ∈ wsX4_init := by decide +kernel
theorem wdX4_init_oI : Cond.instanceMethod objectInit ∈ wsX4_init := by decide +kernel
theorem wdX4_init_oC : Cond.code objectInit ⟨#[0xb1]⟩ 1 none ∈ wsX4_init := by decide +kernel
theorem wdX4_init_cl9 : Cond.classLink RX4 9 "[[I" ∈ wsX4_init := by decide +kernel
theorem wdX4_init_ac_int : Cond.arrayClass .int ∈ wsX4_init := by decide +kernel
theorem inX4_init_X4 : ∀ w ∈ wsX40, w ∈ wsX4_init := by decide +kernel
theorem flX4_init_11 : Cond.fieldLink RX4 11 (TX4 0).1 (TX4 0).2.1 (TX4 0).2.2.1 ∈ wsX4_init := by decide +kernel
theorem flX4_init_16 : Cond.fieldLink RX4 16 (TX4 1).1 (TX4 1).2.1 (TX4 1).2.2.1 ∈ wsX4_init := by decide +kernel
theorem flX4_init_20 : Cond.fieldLink RX4 20 (TX4 2).1 (TX4 2).2.1 (TX4 2).2.2.1 ∈ wsX4_init := by decide +kernel
set_option maxHeartbeats 8000000 in
set_option maxRecDepth 100000 in
theorem m_X4_init (l : Launch) (D : va_G) (dA : Nat → ClassId) (b0 : Nat) (r0 : Nat) (h : zH) (z : zH) (hf : f_X4_init r0 h = some z) : Met l yX4_init wsX4_init rmX4_init (zPc D dA b0 [.ref (b0 + r0)] h) (zQ D dA b0 none z) 11 344 (zA b0) := by
  refine Met.ofW (cc := cX4_init) (maxL := 2) (ret := none) (by decide) rfl ?_
  intro p e s m args below meth c s₁ B hml hv
  obtain ⟨rfl, hP, hz, hK, hN⟩ := hv
  have hr := B.returns
  have hlk := B.notSynchronized
  have hin : meth.name = "<init>" := (name_of_methodNamed B.named B.method).1
  have hb0 : b0 ≤ s.heap.size := by rw [hz]; exact Nat.le_add_right _ _
  have X : zX p s m _ c cX4_init 2 RX4 wsX4_init D dA := ⟨⟨B.exec, B.bytes, hml, findClass_of_methodNamed B.named, atoms_spec (ws := wsX4_init) B.pre⟩, hK, hN⟩
  have G : zG D dA b0 s.heap h s.heap [] := ⟨hP, hz, va_S.rf⟩
  have hl := lv_entry ([.ref (b0 + r0)]) (n := 2) (Nat.le_of_ble_eq_true rfl)
  rw [lg_entry_eq]
  generalize (lg_sl ([.ref (b0 + r0)]) ++ List.replicate (2 - (lg_sl ([.ref (b0 + r0)])).length) Slot.unset).toArray = ls at hl ⊢
  have hl : lv_has ls 2 [(0, .ref (b0 + r0))] := hl
  unfold f_X4_init at hf
  refine lv_aload_n X.1.1 X.1.2.1 dX4_init_0 rfl (lv_at hl 0 rfl) ?_
  refine W.objInit X.1.1 X.1.2.1 X.1.2.2.2.1 (X.1.2.2.2.2 _ wdX4_init_oL3) (X.1.2.2.2.2 _ wdX4_init_oI) (X.1.2.2.2.2 _ wdX4_init_oC) rfl (hl.1.trans X.1.2.2.1.symm) rfl dX4_init_1 (Nat.le_of_ble_eq_true rfl) (Nat.le_of_ble_eq_true rfl) ?_
  refine W.eq (g2 := F0 m 4 ls []) rfl ?_
  refine lv_aload_n X.1.1 X.1.2.1 dX4_init_4 rfl (lv_at hl 0 rfl) ?_
  refine lv_bipush (v := 8) X.1.1 X.1.2.1 dX4_init_5 (by decide) ?_
  refine lv_bipush (v := 40) X.1.1 X.1.2.1 dX4_init_7 (by decide) ?_
  refine znewMM (N := 8) (K := 40) X hb0 G wdX4_init_cl9 wdX4_init_ac_int (by decide) (by decide) (by decide) (by decide) (Nat.le_of_ble_eq_true rfl) (Nat.le_of_ble_eq_true rfl) (Nat.le_of_ble_eq_true rfl) (Nat.le_of_ble_eq_true rfl) dX4_init_9 hf (fun q1 H hf G => ?_)
  refine W.widen (k := 9) (n := 328) (Nat.le_refl _) (Nat.le_refl _) ?_
  refine zputF (ty := (.array (.array .int))) (ci := 4) (k := 0) (C := RX4) (T := TX4) (N := 3) X G rfl inX4_init_X4 tyX4_ok nmX4 (Nat.le_of_ble_eq_true rfl) flX4_init_11 rfl hin rfl (by decide +kernel) (fun _ => rfl) (fun _ => rfl) dX4_init_13 hf (fun h2 H locs hf G => ?_)
  refine lv_aload_n X.1.1 X.1.2.1 dX4_init_16 rfl (lv_at hl 0 rfl) ?_
  refine lv_bipush (v := 8) X.1.1 X.1.2.1 dX4_init_17 (by decide) ?_
  refine znewI (N := 8) X hb0 G wdX4_init_ac_int (by decide) (by decide) (Nat.le_of_ble_eq_true rfl) (Nat.le_of_ble_eq_true rfl) (Nat.le_of_ble_eq_true rfl) dX4_init_19 hf (fun q3 H hf G => ?_)
  refine W.widen (k := 10) (n := 336) (Nat.le_refl _) (Nat.le_refl _) ?_
  refine zputF (ty := (.array .int)) (ci := 4) (k := 1) (C := RX4) (T := TX4) (N := 3) X G rfl inX4_init_X4 tyX4_ok nmX4 (Nat.le_of_ble_eq_true rfl) flX4_init_16 rfl hin rfl (by decide +kernel) (fun _ => rfl) (fun _ => rfl) dX4_init_21 hf (fun h4 H locs hf G => ?_)
  refine lv_aload_n X.1.1 X.1.2.1 dX4_init_24 rfl (lv_at hl 0 rfl) ?_
  refine lv_bipush (v := 8) X.1.1 X.1.2.1 dX4_init_25 (by decide) ?_
  refine znewI (N := 8) X hb0 G wdX4_init_ac_int (by decide) (by decide) (Nat.le_of_ble_eq_true rfl) (Nat.le_of_ble_eq_true rfl) (Nat.le_of_ble_eq_true rfl) dX4_init_27 hf (fun q5 H hf G => ?_)
  refine W.widen (k := 11) (n := 344) (Nat.le_refl _) (Nat.le_refl _) ?_
  refine zputF (ty := (.array .int)) (ci := 4) (k := 2) (C := RX4) (T := TX4) (N := 3) X G rfl inX4_init_X4 tyX4_ok nmX4 (Nat.le_of_ble_eq_true rfl) flX4_init_20 rfl hin rfl (by decide +kernel) (fun _ => rfl) (fun _ => rfl) dX4_init_29 hf (fun h6 H locs hf G => ?_)
  refine lv_iconst (v := 0) X.1.1 X.1.2.1 dX4_init_32 (by decide) ?_
  refine lv_istore_n (lv' := [(1, .int (0 : Int32)), (0, .ref (b0 + r0))]) X.1.1 X.1.2.1 dX4_init_33 rfl hl (by decide) rfl (fun ls hl => ?_)
  refine lv_iload_n X.1.1 X.1.2.1 dX4_init_34 rfl (lv_at hl 0 rfl) ?_
  refine lv_bipush (v := 8) X.1.1 X.1.2.1 dX4_init_35 (by decide) ?_
  refine lv_icmp_ge (tgt := 53) X.1.1 X.1.2.1 dX4_init_37 (by decide) (fun q => absurd q (by decide)) (fun _ => ?_)
  refine lv_aload_n X.1.1 X.1.2.1 dX4_init_40 rfl (lv_at hl 1 rfl) ?_
  refine zgetR (ci := 4) (k := 2) (C := RX4) (T := TX4) (N := 3) X G rfl inX4_init_X4 (Nat.le_of_ble_eq_true rfl) flX4_init_20 dX4_init_41 hf (fun v7 hf => ?_)
  refine lv_iload_n X.1.1 X.1.2.1 dX4_init_44 rfl (lv_at hl 0 rfl) ?_
  refine lv_iconst (v := -1) X.1.1 X.1.2.1 dX4_init_45 (by decide) ?_
  refine ziast X G dX4_init_46 hf (fun h8 H locs hf G => ?_)
  refine lv_iinc (v := 1) (lv' := [(1, .int (1 : Int32)), (0, .ref (b0 + r0))]) X.1.1 X.1.2.1 dX4_init_47 hl (k := 0) rfl (by decide) (by decide) rfl (fun ls hl => ?_)
  refine lv_goto (tgt := 34) X.1.1 X.1.2.1 dX4_init_50 (by decide) ?_
  refine lv_iload_n X.1.1 X.1.2.1 dX4_init_34 rfl (lv_at hl 0 rfl) ?_
  refine lv_bipush (v := 8) X.1.1 X.1.2.1 dX4_init_35 (by decide) ?_
  refine lv_icmp_ge (tgt := 53) X.1.1 X.1.2.1 dX4_init_37 (by decide) (fun q => absurd q (by decide)) (fun _ => ?_)
  refine lv_aload_n X.1.1 X.1.2.1 dX4_init_40 rfl (lv_at hl 1 rfl) ?_
  refine zgetR (ci := 4) (k := 2) (C := RX4) (T := TX4) (N := 3) X G rfl inX4_init_X4 (Nat.le_of_ble_eq_true rfl) flX4_init_20 dX4_init_41 hf (fun v9 hf => ?_)
  refine lv_iload_n X.1.1 X.1.2.1 dX4_init_44 rfl (lv_at hl 0 rfl) ?_
  refine lv_iconst (v := -1) X.1.1 X.1.2.1 dX4_init_45 (by decide) ?_
  refine ziast X G dX4_init_46 hf (fun h10 H locs hf G => ?_)
  refine lv_iinc (v := 2) (lv' := [(1, .int (2 : Int32)), (0, .ref (b0 + r0))]) X.1.1 X.1.2.1 dX4_init_47 hl (k := 0) rfl (by decide) (by decide) rfl (fun ls hl => ?_)
  refine lv_goto (tgt := 34) X.1.1 X.1.2.1 dX4_init_50 (by decide) ?_
  refine lv_iload_n X.1.1 X.1.2.1 dX4_init_34 rfl (lv_at hl 0 rfl) ?_
  refine lv_bipush (v := 8) X.1.1 X.1.2.1 dX4_init_35 (by decide) ?_
  refine lv_icmp_ge (tgt := 53) X.1.1 X.1.2.1 dX4_init_37 (by decide) (fun q => absurd q (by decide)) (fun _ => ?_)
  refine lv_aload_n X.1.1 X.1.2.1 dX4_init_40 rfl (lv_at hl 1 rfl) ?_
  refine zgetR (ci := 4) (k := 2) (C := RX4) (T := TX4) (N := 3) X G rfl inX4_init_X4 (Nat.le_of_ble_eq_true rfl) flX4_init_20 dX4_init_41 hf (fun v11 hf => ?_)
  refine lv_iload_n X.1.1 X.1.2.1 dX4_init_44 rfl (lv_at hl 0 rfl) ?_
  refine lv_iconst (v := -1) X.1.1 X.1.2.1 dX4_init_45 (by decide) ?_
  refine ziast X G dX4_init_46 hf (fun h12 H locs hf G => ?_)
  refine lv_iinc (v := 3) (lv' := [(1, .int (3 : Int32)), (0, .ref (b0 + r0))]) X.1.1 X.1.2.1 dX4_init_47 hl (k := 0) rfl (by decide) (by decide) rfl (fun ls hl => ?_)
  refine lv_goto (tgt := 34) X.1.1 X.1.2.1 dX4_init_50 (by decide) ?_
  refine lv_iload_n X.1.1 X.1.2.1 dX4_init_34 rfl (lv_at hl 0 rfl) ?_
  refine lv_bipush (v := 8) X.1.1 X.1.2.1 dX4_init_35 (by decide) ?_
  refine lv_icmp_ge (tgt := 53) X.1.1 X.1.2.1 dX4_init_37 (by decide) (fun q => absurd q (by decide)) (fun _ => ?_)
  refine lv_aload_n X.1.1 X.1.2.1 dX4_init_40 rfl (lv_at hl 1 rfl) ?_
  refine zgetR (ci := 4) (k := 2) (C := RX4) (T := TX4) (N := 3) X G rfl inX4_init_X4 (Nat.le_of_ble_eq_true rfl) flX4_init_20 dX4_init_41 hf (fun v13 hf => ?_)
  refine lv_iload_n X.1.1 X.1.2.1 dX4_init_44 rfl (lv_at hl 0 rfl) ?_
  refine lv_iconst (v := -1) X.1.1 X.1.2.1 dX4_init_45 (by decide) ?_
  refine ziast X G dX4_init_46 hf (fun h14 H locs hf G => ?_)
  refine lv_iinc (v := 4) (lv' := [(1, .int (4 : Int32)), (0, .ref (b0 + r0))]) X.1.1 X.1.2.1 dX4_init_47 hl (k := 0) rfl (by decide) (by decide) rfl (fun ls hl => ?_)
  refine lv_goto (tgt := 34) X.1.1 X.1.2.1 dX4_init_50 (by decide) ?_
  refine lv_iload_n X.1.1 X.1.2.1 dX4_init_34 rfl (lv_at hl 0 rfl) ?_
  refine lv_bipush (v := 8) X.1.1 X.1.2.1 dX4_init_35 (by decide) ?_
  refine lv_icmp_ge (tgt := 53) X.1.1 X.1.2.1 dX4_init_37 (by decide) (fun q => absurd q (by decide)) (fun _ => ?_)
  refine lv_aload_n X.1.1 X.1.2.1 dX4_init_40 rfl (lv_at hl 1 rfl) ?_
  refine zgetR (ci := 4) (k := 2) (C := RX4) (T := TX4) (N := 3) X G rfl inX4_init_X4 (Nat.le_of_ble_eq_true rfl) flX4_init_20 dX4_init_41 hf (fun v15 hf => ?_)
  refine lv_iload_n X.1.1 X.1.2.1 dX4_init_44 rfl (lv_at hl 0 rfl) ?_
  refine lv_iconst (v := -1) X.1.1 X.1.2.1 dX4_init_45 (by decide) ?_
  refine ziast X G dX4_init_46 hf (fun h16 H locs hf G => ?_)
  refine lv_iinc (v := 5) (lv' := [(1, .int (5 : Int32)), (0, .ref (b0 + r0))]) X.1.1 X.1.2.1 dX4_init_47 hl (k := 0) rfl (by decide) (by decide) rfl (fun ls hl => ?_)
  refine lv_goto (tgt := 34) X.1.1 X.1.2.1 dX4_init_50 (by decide) ?_
  refine lv_iload_n X.1.1 X.1.2.1 dX4_init_34 rfl (lv_at hl 0 rfl) ?_
  refine lv_bipush (v := 8) X.1.1 X.1.2.1 dX4_init_35 (by decide) ?_
  refine lv_icmp_ge (tgt := 53) X.1.1 X.1.2.1 dX4_init_37 (by decide) (fun q => absurd q (by decide)) (fun _ => ?_)
  refine lv_aload_n X.1.1 X.1.2.1 dX4_init_40 rfl (lv_at hl 1 rfl) ?_
  refine zgetR (ci := 4) (k := 2) (C := RX4) (T := TX4) (N := 3) X G rfl inX4_init_X4 (Nat.le_of_ble_eq_true rfl) flX4_init_20 dX4_init_41 hf (fun v17 hf => ?_)
  refine lv_iload_n X.1.1 X.1.2.1 dX4_init_44 rfl (lv_at hl 0 rfl) ?_
  refine lv_iconst (v := -1) X.1.1 X.1.2.1 dX4_init_45 (by decide) ?_
  refine ziast X G dX4_init_46 hf (fun h18 H locs hf G => ?_)
  refine lv_iinc (v := 6) (lv' := [(1, .int (6 : Int32)), (0, .ref (b0 + r0))]) X.1.1 X.1.2.1 dX4_init_47 hl (k := 0) rfl (by decide) (by decide) rfl (fun ls hl => ?_)
  refine lv_goto (tgt := 34) X.1.1 X.1.2.1 dX4_init_50 (by decide) ?_
  refine lv_iload_n X.1.1 X.1.2.1 dX4_init_34 rfl (lv_at hl 0 rfl) ?_
  refine lv_bipush (v := 8) X.1.1 X.1.2.1 dX4_init_35 (by decide) ?_
  refine lv_icmp_ge (tgt := 53) X.1.1 X.1.2.1 dX4_init_37 (by decide) (fun q => absurd q (by decide)) (fun _ => ?_)
  refine lv_aload_n X.1.1 X.1.2.1 dX4_init_40 rfl (lv_at hl 1 rfl) ?_
  refine zgetR (ci := 4) (k := 2) (C := RX4) (T := TX4) (N := 3) X G rfl inX4_init_X4 (Nat.le_of_ble_eq_true rfl) flX4_init_20 dX4_init_41 hf (fun v19 hf => ?_)
  refine lv_iload_n X.1.1 X.1.2.1 dX4_init_44 rfl (lv_at hl 0 rfl) ?_
  refine lv_iconst (v := -1) X.1.1 X.1.2.1 dX4_init_45 (by decide) ?_
  refine ziast X G dX4_init_46 hf (fun h20 H locs hf G => ?_)
  refine lv_iinc (v := 7) (lv' := [(1, .int (7 : Int32)), (0, .ref (b0 + r0))]) X.1.1 X.1.2.1 dX4_init_47 hl (k := 0) rfl (by decide) (by decide) rfl (fun ls hl => ?_)
  refine lv_goto (tgt := 34) X.1.1 X.1.2.1 dX4_init_50 (by decide) ?_
  refine lv_iload_n X.1.1 X.1.2.1 dX4_init_34 rfl (lv_at hl 0 rfl) ?_
  refine lv_bipush (v := 8) X.1.1 X.1.2.1 dX4_init_35 (by decide) ?_
  refine lv_icmp_ge (tgt := 53) X.1.1 X.1.2.1 dX4_init_37 (by decide) (fun q => absurd q (by decide)) (fun _ => ?_)
  refine lv_aload_n X.1.1 X.1.2.1 dX4_init_40 rfl (lv_at hl 1 rfl) ?_
  refine zgetR (ci := 4) (k := 2) (C := RX4) (T := TX4) (N := 3) X G rfl inX4_init_X4 (Nat.le_of_ble_eq_true rfl) flX4_init_20 dX4_init_41 hf (fun v21 hf => ?_)
  refine lv_iload_n X.1.1 X.1.2.1 dX4_init_44 rfl (lv_at hl 0 rfl) ?_
  refine lv_iconst (v := -1) X.1.1 X.1.2.1 dX4_init_45 (by decide) ?_
  refine ziast X G dX4_init_46 hf (fun h22 H locs hf G => ?_)
  refine lv_iinc (v := 8) (lv' := [(1, .int (8 : Int32)), (0, .ref (b0 + r0))]) X.1.1 X.1.2.1 dX4_init_47 hl (k := 0) rfl (by decide) (by decide) rfl (fun ls hl => ?_)
  refine lv_goto (tgt := 34) X.1.1 X.1.2.1 dX4_init_50 (by decide) ?_
  refine lv_iload_n X.1.1 X.1.2.1 dX4_init_34 rfl (lv_at hl 0 rfl) ?_
  refine lv_bipush (v := 8) X.1.1 X.1.2.1 dX4_init_35 (by decide) ?_
  refine lv_icmp_ge (tgt := 53) X.1.1 X.1.2.1 dX4_init_37 (by decide) (fun _ => ?_) (fun q => absurd (by decide) q)
  exact zretV X hr hlk G hf dX4_init_53
/-! X4_isMissing -/
abbrev rmX4_isMissing : Room := { frames := 0, cells := 0, slots := 0, locals := 0 }
theorem hdV_X4_isMissing : yX4_isMissing.cls = RX4 ∧ yX4_isMissing.cls ≠ "java/lang/invoke/MethodHandle" ∧ yX4_isMissing.cls ≠ "java/lang/invoke/VarHandle" ∧ (parseMethodDescriptor yX4_isMissing.desc).map (fun d => d.parameters.length) = some 1 := by decide +kernel
theorem inX4_isMissing_X4 : ∀ w ∈ wsX40, w ∈ wsX4_isMissing := by decide +kernel
theorem flX4_isMissing_20 : Cond.fieldLink RX4 20 (TX4 2).1 (TX4 2).2.1 (TX4 2).2.2.1 ∈ wsX4_isMissing := by decide +kernel
set_option maxHeartbeats 4000000 in
set_option maxRecDepth 100000 in
theorem m_X4_isMissing (l : Launch) (D : va_G) (dA : Nat → ClassId) (b0 : Nat) (r0 : Nat) (a1 : Int32) (h : zH) (z : Int32) (hf : f_X4_isMissing r0 a1 h = some z) : Met l yX4_isMissing wsX4_isMissing rmX4_isMissing (zPc D dA b0 [.ref (b0 + r0), .int a1] h) (zQ D dA b0 (some (.int z)) h) 0 0 (zA b0) := by
  refine Met.ofW (cc := cX4_isMissing) (maxL := 2) (ret := (some .boolean)) (by decide) rfl ?_
  intro p e s m args below meth c s₁ B hml hv
  obtain ⟨rfl, hP, hz, hK, hN⟩ := hv
  have hr := B.returns
  have hlk := B.notSynchronized
  have X : zX p s m _ c cX4_isMissing 2 RX4 wsX4_isMissing D dA := ⟨⟨B.exec, B.bytes, hml, findClass_of_methodNamed B.named, atoms_spec (ws := wsX4_isMissing) B.pre⟩, hK, hN⟩
  have G : zG D dA b0 s.heap h s.heap [] := ⟨hP, hz, va_S.rf⟩
  have hl := lv_entry ([.ref (b0 + r0), .int a1]) (n := 2) (Nat.le_of_ble_eq_true rfl)
  rw [lg_entry_eq]
  generalize (lg_sl ([.ref (b0 + r0), .int a1]) ++ List.replicate (2 - (lg_sl ([.ref (b0 + r0), .int a1])).length) Slot.unset).toArray = ls at hl ⊢
  have hl : lv_has ls 2 [(0, .ref (b0 + r0)), (1, .int a1)] := hl
  unfold f_X4_isMissing at hf
  refine lv_aload_n X.1.1 X.1.2.1 dX4_isMissing_0 rfl (lv_at hl 0 rfl) ?_
  refine zgetR (ci := 4) (k := 2) (C := RX4) (T := TX4) (N := 3) X G rfl inX4_isMissing_X4 (Nat.le_of_ble_eq_true rfl) flX4_isMissing_20 dX4_isMissing_1 hf (fun v1 hf => ?_)
  refine lv_iload_n X.1.1 X.1.2.1 dX4_isMissing_4 rfl (lv_at hl 1 rfl) ?_
  refine ziald X G dX4_isMissing_5 hf (fun v2 hf => ?_)
  refine lv_iconst (v := -1) X.1.1 X.1.2.1 dX4_isMissing_6 (by decide) ?_
  refine zic_ne (tgt := 14) X dX4_isMissing_7 (by decide) hf (fun hf => ?_) (fun hf => ?_)
  · refine lv_iconst (v := 0) X.1.1 X.1.2.1 dX4_isMissing_14 (by decide) ?_
    exact zretZr X hr hlk G hf dX4_isMissing_15
  · refine lv_iconst (v := 1) X.1.1 X.1.2.1 dX4_isMissing_10 (by decide) ?_
    refine lv_goto (tgt := 15) X.1.1 X.1.2.1 dX4_isMissing_11 (by decide) ?_
    exact zretZr X hr hlk G hf dX4_isMissing_15
/-! X4_hasRun -/
abbrev rmX4_hasRun : Room := { frames := 0, cells := 0, slots := 0, locals := 0 }
theorem hdV_X4_hasRun : yX4_hasRun.cls = RX4 ∧ yX4_hasRun.cls ≠ "java/lang/invoke/MethodHandle" ∧ yX4_hasRun.cls ≠ "java/lang/invoke/VarHandle" ∧ (parseMethodDescriptor yX4_hasRun.desc).map (fun d => d.parameters.length) = some 3 := by decide +kernel
theorem inX4_hasRun_X4 : ∀ w ∈ wsX40, w ∈ wsX4_hasRun := by decide +kernel
theorem flX4_hasRun_20 : Cond.fieldLink RX4 20 (TX4 2).1 (TX4 2).2.1 (TX4 2).2.2.1 ∈ wsX4_hasRun := by decide +kernel
set_option maxHeartbeats 4000000 in
set_option maxRecDepth 100000 in
theorem m_X4_hasRun (l : Launch) (D : va_G) (dA : Nat → ClassId) (b0 : Nat) (r0 : Nat) (a1 : Int32) (a2 : Int32) (a3 : Int32) (h : zH) (z : Int32) (hf : f_X4_hasRun r0 a1 a2 a3 h = some z) : Met l yX4_hasRun wsX4_hasRun rmX4_hasRun (zPc D dA b0 [.ref (b0 + r0), .int a1, .int a2, .int a3] h) (zQ D dA b0 (some (.int z)) h) 0 0 (zA b0) := by
  refine Met.ofW (cc := cX4_hasRun) (maxL := 4) (ret := (some .boolean)) (by decide) rfl ?_
  intro p e s m args below meth c s₁ B hml hv
  obtain ⟨rfl, hP, hz, hK, hN⟩ := hv
  have hr := B.returns
  have hlk := B.notSynchronized
  have X : zX p s m _ c cX4_hasRun 4 RX4 wsX4_hasRun D dA := ⟨⟨B.exec, B.bytes, hml, findClass_of_methodNamed B.named, atoms_spec (ws := wsX4_hasRun) B.pre⟩, hK, hN⟩
  have G : zG D dA b0 s.heap h s.heap [] := ⟨hP, hz, va_S.rf⟩
  have hl := lv_entry ([.ref (b0 + r0), .int a1, .int a2, .int a3]) (n := 4) (Nat.le_of_ble_eq_true rfl)
  rw [lg_entry_eq]
  generalize (lg_sl ([.ref (b0 + r0), .int a1, .int a2, .int a3]) ++ List.replicate (4 - (lg_sl ([.ref (b0 + r0), .int a1, .int a2, .int a3])).length) Slot.unset).toArray = ls at hl ⊢
  have hl : lv_has ls 4 [(0, .ref (b0 + r0)), (1, .int a1), (2, .int a2), (3, .int a3)] := hl
  unfold f_X4_hasRun at hf
  refine lv_iload_n X.1.1 X.1.2.1 dX4_hasRun_0 rfl (lv_at hl 2 rfl) ?_
  refine zif_lt (tgt := 34) X dX4_hasRun_1 (by decide) hf (fun hf => ?_) (fun hf => ?_)
  · refine lv_iconst (v := 0) X.1.1 X.1.2.1 dX4_hasRun_34 (by decide) ?_
    exact zretZr X hr hlk G hf dX4_hasRun_35
  · refine lv_iload_n X.1.1 X.1.2.1 dX4_hasRun_4 rfl (lv_at hl 3 rfl) ?_
    refine zif_lt (tgt := 34) X dX4_hasRun_5 (by decide) hf (fun hf => ?_) (fun hf => ?_)
    · refine lv_iconst (v := 0) X.1.1 X.1.2.1 dX4_hasRun_34 (by decide) ?_
      exact zretZr X hr hlk G hf dX4_hasRun_35
    · refine lv_iload_n X.1.1 X.1.2.1 dX4_hasRun_8 rfl (lv_at hl 2 rfl) ?_
      refine lv_aload_n X.1.1 X.1.2.1 dX4_hasRun_9 rfl (lv_at hl 0 rfl) ?_
      refine zgetR (ci := 4) (k := 2) (C := RX4) (T := TX4) (N := 3) X G rfl inX4_hasRun_X4 (Nat.le_of_ble_eq_true rfl) flX4_hasRun_20 dX4_hasRun_10 hf (fun v1 hf => ?_)
      refine lv_iload_n X.1.1 X.1.2.1 dX4_hasRun_13 rfl (lv_at hl 1 rfl) ?_
      refine ziald X G dX4_hasRun_14 hf (fun v2 hf => ?_)
      refine zic_gt (tgt := 34) X dX4_hasRun_15 (by decide) hf (fun hf => ?_) (fun hf => ?_)
      · refine lv_iconst (v := 0) X.1.1 X.1.2.1 dX4_hasRun_34 (by decide) ?_
        exact zretZr X hr hlk G hf dX4_hasRun_35
      · refine lv_iload_n X.1.1 X.1.2.1 dX4_hasRun_18 rfl (lv_at hl 3 rfl) ?_
        refine lv_aload_n X.1.1 X.1.2.1 dX4_hasRun_19 rfl (lv_at hl 0 rfl) ?_
        refine zgetR (ci := 4) (k := 2) (C := RX4) (T := TX4) (N := 3) X G rfl inX4_hasRun_X4 (Nat.le_of_ble_eq_true rfl) flX4_hasRun_20 dX4_hasRun_20 hf (fun v3 hf => ?_)
        refine lv_iload_n X.1.1 X.1.2.1 dX4_hasRun_23 rfl (lv_at hl 1 rfl) ?_
        refine ziald X G dX4_hasRun_24 hf (fun v4 hf => ?_)
        refine lv_iload_n X.1.1 X.1.2.1 dX4_hasRun_25 rfl (lv_at hl 2 rfl) ?_
        refine lv_isub X.1.1 X.1.2.1 dX4_hasRun_26 ?_
        refine zic_gt (tgt := 34) X dX4_hasRun_27 (by decide) hf (fun hf => ?_) (fun hf => ?_)
        · refine lv_iconst (v := 0) X.1.1 X.1.2.1 dX4_hasRun_34 (by decide) ?_
          exact zretZr X hr hlk G hf dX4_hasRun_35
        · refine lv_iconst (v := 1) X.1.1 X.1.2.1 dX4_hasRun_30 (by decide) ?_
          refine lv_goto (tgt := 35) X.1.1 X.1.2.1 dX4_hasRun_31 (by decide) ?_
          exact zretZr X hr hlk G hf dX4_hasRun_35
