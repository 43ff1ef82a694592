/-! X8_fits -/
abbrev rmX8_fits : Room := { frames := 5, cells := 0, slots := 0, locals := 116 }
theorem hdV_X8_fits : yX8_fits.cls = RX8 ∧ yX8_fits.cls ≠ "java/lang/invoke/MethodHandle" ∧ yX8_fits.cls ≠ "java/lang/invoke/VarHandle" ∧ (parseMethodDescriptor yX8_fits.desc).map (fun d => d.parameters.length) = some 5 := by decide +kernel
theorem inX8_fits_X8 : ∀ w ∈ wsX80, w ∈ wsX8_fits := by decide +kernel
theorem flX8_fits_25 : Cond.fieldLink RX8 25 (TX8 6).1 (TX8 6).2.1 (TX8 6).2.2.1 ∈ wsX8_fits := by decide +kernel
theorem coX8_fits_70 : Cond.constant RX8 70 (-1000001) ∈ wsX8_fits := by decide +kernel
theorem clX8_fits_221 : Cond.constantLong RX8 221 (16) ∈ wsX8_fits := by decide +kernel
theorem clX8_fits_68 : Cond.constantLong RX8 68 (2) ∈ wsX8_fits := by decide +kernel
theorem flX8_fits_13 : Cond.fieldLink RX8 13 (TX8 1).1 (TX8 1).2.1 (TX8 1).2.2.1 ∈ wsX8_fits := by decide +kernel
set_option maxHeartbeats 4000000 in
set_option maxRecDepth 100000 in
theorem w_X8_fits_b80 {p : Program} {l : Launch} {e : Env} {s : State} {m : MethodId} {args : Array Value} {below : List Frame} {meth : Method} {c : Code} {D : va_G} {dA : Nat → ClassId} {b0 : Nat} (X : zX p s m args c cX8_fits 11 RX8 wsX8_fits D dA) (hr : meth.sig.returnType = (some .int)) (hlk : meth.locks = false) {z : Int32 × zH} : ∀ (r0 : Nat) (h : zH) (H : Heap) (locs : List Loc) (ls : Array Slot), f_X8_fits_b80 r0 h = some z → zG D dA b0 s.heap h H locs → lv_has ls 11 [(0, .ref (b0 + r0))] → W p l e rmX8_fits s m args below meth c H locs 0 0 (MQ below (zQ D dA b0 (some (.int z.1)) z.2) args s 0 0 (zA b0)) (F0 m 80 ls []) := by
  intro r0 h H locs ls hf G hl
  unfold f_X8_fits_b80 at hf
  refine lv_aload_n X.1.1 X.1.2.1 dX8_fits_80 rfl (lv_at hl 0 rfl) ?_
  refine lv_iconst (v := 2) X.1.1 X.1.2.1 dX8_fits_81 (by decide) ?_
  obtain ⟨hk, hf⟩ := zck hf
  obtain ⟨q1, eq1, hf⟩ := Option.bind_eq_some_iff.mp hf
  refine zcV0 (As := [.int (2 : Int32)]) (rest := []) (v := (some (.int q1.1))) (h' := q1.2) X G (rfl : vwCl[8]? = some (RX8, TX8, 24)) hk (m_X8_found l D dA b0 r0 (2 : Int32) h q1 eq1) (cwV 1 X.1.2.2.2.2 gX8_fits_X8_found rfl rfl rfl hdV_X8_found ⟨(Nat.le_of_ble_eq_true rfl), (Nat.le_of_ble_eq_true rfl)⟩) rfl hl.1 rfl (Nat.le_of_ble_eq_true rfl) dX8_fits_82 ⟨Nat.zero_le _, Nat.zero_le _⟩ (fun H locs G => ?_)
  exact zretI X hr hlk G hf dX8_fits_85
set_option maxHeartbeats 4000000 in
set_option maxRecDepth 100000 in
theorem w_X8_fits_b212 {p : Program} {l : Launch} {e : Env} {s : State} {m : MethodId} {args : Array Value} {below : List Frame} {meth : Method} {c : Code} {D : va_G} {dA : Nat → ClassId} {b0 : Nat} (X : zX p s m args c cX8_fits 11 RX8 wsX8_fits D dA) (hr : meth.sig.returnType = (some .int)) (hlk : meth.locks = false) {z : Int32 × zH} (k153 : Nat → Int32 → Int32 → Int32 → Int32 → Int32 → Int32 → Int32 → Int32 → Int32 → zH → Option (Int32 × zH)) (hk153 : ∀ (r0 : Nat) (a1 : Int32) (a2 : Int32) (a3 : Int32) (a4 : Int32) (a5 : Int32) (a6 : Int32) (a8 : Int32) (a9 : Int32) (a10 : Int32) (h : zH) (H : Heap) (locs : List Loc) (ls : Array Slot), k153 r0 a1 a2 a3 a4 a5 a6 a8 a9 a10 h = some z → zG D dA b0 s.heap h H locs → lv_has ls 11 [(0, .ref (b0 + r0)), (1, .int a1), (2, .int a2), (3, .int a3), (4, .int a4), (5, .int a5), (6, .int a6), (8, .int a8), (9, .int a9), (10, .int a10)] → W p l e rmX8_fits s m args below meth c H locs 0 0 (MQ below (zQ D dA b0 (some (.int z.1)) z.2) args s 0 0 (zA b0)) (F0 m 153 ls [])) : ∀ (r0 : Nat) (a1 : Int32) (a2 : Int32) (a3 : Int32) (a4 : Int32) (a5 : Int32) (a8 : Int32) (a9 : Int32) (a10 : Int32) (s0 : Int32) (s1 : Int32) (h : zH) (H : Heap) (locs : List Loc) (ls : Array Slot), f_X8_fits_b212 k153 r0 a1 a2 a3 a4 a5 a8 a9 a10 s0 s1 h = some z → zG D dA b0 s.heap h H locs → lv_has ls 11 [(0, .ref (b0 + r0)), (1, .int a1), (2, .int a2), (3, .int a3), (4, .int a4), (5, .int a5), (8, .int a8), (9, .int a9), (10, .int a10)] → W p l e rmX8_fits s m args below meth c H locs 0 0 (MQ below (zQ D dA b0 (some (.int z.1)) z.2) args s 0 0 (zA b0)) (F0 m 212 ls [.int s1, .int s0]) := by
  intro r0 a1 a2 a3 a4 a5 a8 a9 a10 s0 s1 h H locs ls hf G hl
  unfold f_X8_fits_b212 at hf
  refine lv_ior X.1.1 X.1.2.1 dX8_fits_212 ?_
  refine zleti hf (fun x1 hf => ?_)
  refine lv_istore (lv' := [(6, .int x1), (0, .ref (b0 + r0)), (1, .int a1), (2, .int a2), (3, .int a3), (4, .int a4), (5, .int a5), (8, .int a8), (9, .int a9), (10, .int a10)]) X.1.1 X.1.2.1 dX8_fits_213 hl (by decide) rfl (fun ls hl => ?_)
  refine lv_iinc (v := (a10 + (1 : Int32))) (lv' := [(10, .int (a10 + (1 : Int32))), (6, .int x1), (0, .ref (b0 + r0)), (1, .int a1), (2, .int a2), (3, .int a3), (4, .int a4), (5, .int a5), (8, .int a8), (9, .int a9)]) X.1.1 X.1.2.1 dX8_fits_215 hl (k := 9) rfl rfl (by decide) rfl (fun ls hl => ?_)
  refine lv_goto (tgt := 153) X.1.1 X.1.2.1 dX8_fits_218 (by decide) ?_
  exact hk153 _ _ _ _ _ _ _ _ _ _ _ _ _ _ hf G (lv_sub hl [2, 3, 4, 5, 6, 7, 1, 8, 9, 0] rfl)
set_option maxHeartbeats 4000000 in
set_option maxRecDepth 100000 in
theorem w_X8_fits_b198 {p : Program} {l : Launch} {e : Env} {s : State} {m : MethodId} {args : Array Value} {below : List Frame} {meth : Method} {c : Code} {D : va_G} {dA : Nat → ClassId} {b0 : Nat} (X : zX p s m args c cX8_fits 11 RX8 wsX8_fits D dA) (hr : meth.sig.returnType = (some .int)) (hlk : meth.locks = false) {z : Int32 × zH} (k153 : Nat → Int32 → Int32 → Int32 → Int32 → Int32 → Int32 → Int32 → Int32 → Int32 → zH → Option (Int32 × zH)) (hk153 : ∀ (r0 : Nat) (a1 : Int32) (a2 : Int32) (a3 : Int32) (a4 : Int32) (a5 : Int32) (a6 : Int32) (a8 : Int32) (a9 : Int32) (a10 : Int32) (h : zH) (H : Heap) (locs : List Loc) (ls : Array Slot), k153 r0 a1 a2 a3 a4 a5 a6 a8 a9 a10 h = some z → zG D dA b0 s.heap h H locs → lv_has ls 11 [(0, .ref (b0 + r0)), (1, .int a1), (2, .int a2), (3, .int a3), (4, .int a4), (5, .int a5), (6, .int a6), (8, .int a8), (9, .int a9), (10, .int a10)] → W p l e rmX8_fits s m args below meth c H locs 0 0 (MQ below (zQ D dA b0 (some (.int z.1)) z.2) args s 0 0 (zA b0)) (F0 m 153 ls [])) : ∀ (r0 : Nat) (a1 : Int32) (a2 : Int32) (a3 : Int32) (a4 : Int32) (a5 : Int32) (a8 : Int32) (a9 : Int32) (a10 : Int32) (s0 : Int32) (s1 : Nat) (s2 : Int32) (s3 : Int32) (s4 : Int32) (s5 : Int32) (h : zH) (H : Heap) (locs : List Loc) (ls : Array Slot), f_X8_fits_b198 k153 r0 a1 a2 a3 a4 a5 a8 a9 a10 s0 s1 s2 s3 s4 s5 h = some z → zG D dA b0 s.heap h H locs → lv_has ls 11 [(0, .ref (b0 + r0)), (1, .int a1), (2, .int a2), (3, .int a3), (4, .int a4), (5, .int a5), (8, .int a8), (9, .int a9), (10, .int a10)] → W p l e rmX8_fits s m args below meth c H locs 0 0 (MQ below (zQ D dA b0 (some (.int z.1)) z.2) args s 0 0 (zA b0)) (F0 m 198 ls [.int s5, .int s4, .int s3, .int s2, .ref (b0 + s1), .int s0]) := by
  intro r0 a1 a2 a3 a4 a5 a8 a9 a10 s0 s1 s2 s3 s4 s5 h H locs ls hf G hl
  unfold f_X8_fits_b198 at hf
  obtain ⟨hk, hf⟩ := zck hf
  obtain ⟨q1, eq1, hf⟩ := Option.bind_eq_some_iff.mp hf
  refine zcV0 (As := [.int s2, .int s3, .int s4, .int s5]) (rest := [.int s0]) (v := (some (.int q1.1))) (h' := q1.2) X G (rfl : vwCl[8]? = some (RX8, TX8, 24)) hk (m_X8_comes l D dA b0 s1 s2 s3 s4 s5 h q1 eq1) (cwV 4 X.1.2.2.2.2 gX8_fits_X8_comes rfl rfl rfl hdV_X8_comes ⟨(Nat.le_of_ble_eq_true rfl), (Nat.le_of_ble_eq_true rfl)⟩) rfl hl.1 rfl (Nat.le_of_ble_eq_true rfl) dX8_fits_198 ⟨Nat.zero_le _, Nat.zero_le _⟩ (fun H locs G => ?_)
  refine zif_eq (tgt := 211) X dX8_fits_201 (by decide) hf (fun hf => ?_) (fun hf => ?_)
  · refine lv_iconst (v := 0) X.1.1 X.1.2.1 dX8_fits_211 (by decide) ?_
    exact w_X8_fits_b212 X hr hlk _ hk153 _ _ _ _ _ _ _ _ _ _ _ _ _ _ _ hf G hl
  · refine lv_iconst (v := 1) X.1.1 X.1.2.1 dX8_fits_204 (by decide) ?_
    refine lv_iload X.1.1 X.1.2.1 dX8_fits_205 (lv_at hl 8 rfl) ?_
    refine lv_ishl X.1.1 X.1.2.1 dX8_fits_207 ?_
    refine lv_goto (tgt := 212) X.1.1 X.1.2.1 dX8_fits_208 (by decide) ?_
    exact w_X8_fits_b212 X hr hlk _ hk153 _ _ _ _ _ _ _ _ _ _ _ _ _ _ _ hf G hl
set_option maxHeartbeats 4000000 in
set_option maxRecDepth 100000 in
theorem w_X8_fits_b153 {p : Program} {l : Launch} {e : Env} {s : State} {m : MethodId} {args : Array Value} {below : List Frame} {meth : Method} {c : Code} {D : va_G} {dA : Nat → ClassId} {b0 : Nat} (X : zX p s m args c cX8_fits 11 RX8 wsX8_fits D dA) (hr : meth.sig.returnType = (some .int)) (hlk : meth.locks = false) {z : Int32 × zH} : ∀ (n : Nat), ∀ (r0 : Nat) (a1 : Int32) (a2 : Int32) (a3 : Int32) (a4 : Int32) (a5 : Int32) (a6 : Int32) (a8 : Int32) (a9 : Int32) (a10 : Int32) (h : zH) (H : Heap) (locs : List Loc) (ls : Array Slot), f_X8_fits_b153 n r0 a1 a2 a3 a4 a5 a6 a8 a9 a10 h = some z → zG D dA b0 s.heap h H locs → lv_has ls 11 [(0, .ref (b0 + r0)), (1, .int a1), (2, .int a2), (3, .int a3), (4, .int a4), (5, .int a5), (6, .int a6), (8, .int a8), (9, .int a9), (10, .int a10)] → W p l e rmX8_fits s m args below meth c H locs 0 0 (MQ below (zQ D dA b0 (some (.int z.1)) z.2) args s 0 0 (zA b0)) (F0 m 153 ls []) := by
  intro n
  induction n with
  | zero =>
    intro r0 a1 a2 a3 a4 a5 a6 a8 a9 a10 h H locs ls hf
    cases hf
  | succ n ih =>
    intro r0 a1 a2 a3 a4 a5 a6 a8 a9 a10 h H locs ls hf G hl
    rw [f_X8_fits_b153] at hf
    refine lv_iload X.1.1 X.1.2.1 dX8_fits_153 (lv_at hl 9 rfl) ?_
    refine lv_iload X.1.1 X.1.2.1 dX8_fits_155 (lv_at hl 7 rfl) ?_
    refine zic_gt (tgt := 221) X dX8_fits_157 (by decide) hf (fun hf => ?_) (fun hf => ?_)
    · refine lv_aload_n X.1.1 X.1.2.1 dX8_fits_221 rfl (lv_at hl 0 rfl) ?_
      refine lv_iload X.1.1 X.1.2.1 dX8_fits_222 (lv_at hl 6 rfl) ?_
      obtain ⟨hk, hf⟩ := zck hf
      obtain ⟨q1, eq1, hf⟩ := Option.bind_eq_some_iff.mp hf
      refine zcV0 (As := [.int a6]) (rest := []) (v := (some (.int q1.1))) (h' := q1.2) X G (rfl : vwCl[8]? = some (RX8, TX8, 24)) hk (m_X8_well l D dA b0 r0 a6 h q1 eq1) (cwV 1 X.1.2.2.2.2 gX8_fits_X8_well rfl rfl rfl hdV_X8_well ⟨(Nat.le_of_ble_eq_true rfl), (Nat.le_of_ble_eq_true rfl)⟩) rfl hl.1 rfl (Nat.le_of_ble_eq_true rfl) dX8_fits_224 ⟨Nat.zero_le _, Nat.zero_le _⟩ (fun H locs G => ?_)
      exact zretI X hr hlk G hf dX8_fits_227
    · refine lv_aload_n X.1.1 X.1.2.1 dX8_fits_160 rfl (lv_at hl 0 rfl) ?_
      obtain ⟨hk, hf⟩ := zck hf
      obtain ⟨q2, eq2, hf⟩ := Option.bind_eq_some_iff.mp hf
      refine zcV0 (As := []) (rest := []) (v := none) (h' := q2) X G (rfl : vwCl[8]? = some (RX8, TX8, 24)) hk (m_X8_layAside l D dA b0 r0 h q2 eq2) (cwV 0 X.1.2.2.2.2 gX8_fits_X8_layAside rfl rfl rfl hdV_X8_layAside ⟨(Nat.le_of_ble_eq_true rfl), (Nat.le_of_ble_eq_true rfl)⟩) rfl hl.1 rfl (Nat.le_of_ble_eq_true rfl) dX8_fits_161 ⟨Nat.zero_le _, Nat.zero_le _⟩ (fun H locs G => ?_)
      refine lv_aload_n X.1.1 X.1.2.1 dX8_fits_164 rfl (lv_at hl 0 rfl) ?_
      refine zgetR (ci := 8) (k := 6) (C := RX8) (T := TX8) (N := 24) X G rfl inX8_fits_X8 (Nat.le_of_ble_eq_true rfl) flX8_fits_25 dX8_fits_165 hf (fun v3 hf => ?_)
      refine lv_iload X.1.1 X.1.2.1 dX8_fits_168 (lv_at hl 8 rfl) ?_
      refine lv_iload_n X.1.1 X.1.2.1 dX8_fits_170 rfl (lv_at hl 1 rfl) ?_
      refine lv_iadd X.1.1 X.1.2.1 dX8_fits_171 ?_
      refine lv_iload X.1.1 X.1.2.1 dX8_fits_172 (lv_at hl 9 rfl) ?_
      refine ziast X G dX8_fits_174 hf (fun h4 H locs hf G => ?_)
      refine lv_iload X.1.1 X.1.2.1 dX8_fits_175 (lv_at hl 6 rfl) ?_
      refine lv_aload_n X.1.1 X.1.2.1 dX8_fits_177 rfl (lv_at hl 0 rfl) ?_
      refine lv_iload_n X.1.1 X.1.2.1 dX8_fits_178 rfl (lv_at hl 1 rfl) ?_
      refine lv_bipush (v := 40) X.1.1 X.1.2.1 dX8_fits_179 (by decide) ?_
      refine lv_iload_n X.1.1 X.1.2.1 dX8_fits_181 rfl (lv_at hl 2 rfl) ?_
      refine lv_imul X.1.1 X.1.2.1 dX8_fits_182 ?_
      refine lv_iload_n X.1.1 X.1.2.1 dX8_fits_183 rfl (lv_at hl 3 rfl) ?_
      refine lv_iadd X.1.1 X.1.2.1 dX8_fits_184 ?_
      refine lv_iload X.1.1 X.1.2.1 dX8_fits_185 (lv_at hl 4 rfl) ?_
      refine lv_iload X.1.1 X.1.2.1 dX8_fits_187 (lv_at hl 5 rfl) ?_
      refine lv_iconst (v := 2) X.1.1 X.1.2.1 dX8_fits_189 (by decide) ?_
      refine zic_ne (tgt := 197) X dX8_fits_190 (by decide) hf (fun hf => ?_) (fun hf => ?_)
      · refine lv_iconst (v := 0) X.1.1 X.1.2.1 dX8_fits_197 (by decide) ?_
        exact w_X8_fits_b198 X hr hlk _ ih _ _ _ _ _ _ _ _ _ _ _ _ _ _ _ _ _ _ _ hf G (lv_sub hl [0, 1, 2, 3, 4, 5, 7, 8, 9] rfl)
      · refine lv_iconst (v := 1) X.1.1 X.1.2.1 dX8_fits_193 (by decide) ?_
        refine lv_goto (tgt := 198) X.1.1 X.1.2.1 dX8_fits_194 (by decide) ?_
        exact w_X8_fits_b198 X hr hlk _ ih _ _ _ _ _ _ _ _ _ _ _ _ _ _ _ _ _ _ _ hf G (lv_sub hl [0, 1, 2, 3, 4, 5, 7, 8, 9] rfl)
set_option maxHeartbeats 4000000 in
set_option maxRecDepth 100000 in
theorem w_X8_fits_b147 {p : Program} {l : Launch} {e : Env} {s : State} {m : MethodId} {args : Array Value} {below : List Frame} {meth : Method} {c : Code} {D : va_G} {dA : Nat → ClassId} {b0 : Nat} (X : zX p s m args c cX8_fits 11 RX8 wsX8_fits D dA) (hr : meth.sig.returnType = (some .int)) (hlk : meth.locks = false) {z : Int32 × zH} : ∀ (r0 : Nat) (a1 : Int32) (a2 : Int32) (a3 : Int32) (a4 : Int32) (a5 : Int32) (a6 : Int32) (a7 : Int32) (a8 : Int32) (s0 : Int32) (h : zH) (H : Heap) (locs : List Loc) (ls : Array Slot), f_X8_fits_b147 r0 a1 a2 a3 a4 a5 a6 a7 a8 s0 h = some z → zG D dA b0 s.heap h H locs → lv_has ls 11 [(0, .ref (b0 + r0)), (1, .int a1), (2, .int a2), (3, .int a3), (4, .int a4), (5, .int a5), (6, .int a6), (7, .int a7), (8, .int a8)] → W p l e rmX8_fits s m args below meth c H locs 0 0 (MQ below (zQ D dA b0 (some (.int z.1)) z.2) args s 0 0 (zA b0)) (F0 m 147 ls [.int s0]) := by
  intro r0 a1 a2 a3 a4 a5 a6 a7 a8 s0 h H locs ls hf G hl
  unfold f_X8_fits_b147 at hf
  refine lv_istore (lv' := [(9, .int s0), (0, .ref (b0 + r0)), (1, .int a1), (2, .int a2), (3, .int a3), (4, .int a4), (5, .int a5), (6, .int a6), (7, .int a7), (8, .int a8)]) X.1.1 X.1.2.1 dX8_fits_147 hl (by decide) rfl (fun ls hl => ?_)
  refine lv_iload X.1.1 X.1.2.1 dX8_fits_149 (lv_at hl 8 rfl) ?_
  refine lv_istore (lv' := [(10, .int a7), (9, .int s0), (0, .ref (b0 + r0)), (1, .int a1), (2, .int a2), (3, .int a3), (4, .int a4), (5, .int a5), (6, .int a6), (7, .int a7), (8, .int a8)]) X.1.1 X.1.2.1 dX8_fits_151 hl (by decide) rfl (fun ls hl => ?_)
  exact w_X8_fits_b153 X hr hlk _ _ _ _ _ _ _ _ _ _ _ _ _ _ _ hf G (lv_sub hl [2, 3, 4, 5, 6, 7, 8, 10, 1, 0] rfl)
set_option maxHeartbeats 4000000 in
set_option maxRecDepth 100000 in
theorem w_X8_fits_b123 {p : Program} {l : Launch} {e : Env} {s : State} {m : MethodId} {args : Array Value} {below : List Frame} {meth : Method} {c : Code} {D : va_G} {dA : Nat → ClassId} {b0 : Nat} (X : zX p s m args c cX8_fits 11 RX8 wsX8_fits D dA) (hr : meth.sig.returnType = (some .int)) (hlk : meth.locks = false) {z : Int32 × zH} : ∀ (r0 : Nat) (a1 : Int32) (a2 : Int32) (a3 : Int32) (a4 : Int32) (a5 : Int32) (a6 : Int32) (a7 : Int32) (s0 : Int32) (h : zH) (H : Heap) (locs : List Loc) (ls : Array Slot), f_X8_fits_b123 r0 a1 a2 a3 a4 a5 a6 a7 s0 h = some z → zG D dA b0 s.heap h H locs → lv_has ls 11 [(0, .ref (b0 + r0)), (1, .int a1), (2, .int a2), (3, .int a3), (4, .int a4), (5, .int a5), (6, .int a6), (7, .int a7)] → W p l e rmX8_fits s m args below meth c H locs 0 0 (MQ below (zQ D dA b0 (some (.int z.1)) z.2) args s 0 0 (zA b0)) (F0 m 123 ls [.int s0]) := by
  intro r0 a1 a2 a3 a4 a5 a6 a7 s0 h H locs ls hf G hl
  unfold f_X8_fits_b123 at hf
  refine lv_istore (lv' := [(8, .int s0), (0, .ref (b0 + r0)), (1, .int a1), (2, .int a2), (3, .int a3), (4, .int a4), (5, .int a5), (6, .int a6), (7, .int a7)]) X.1.1 X.1.2.1 dX8_fits_123 hl (by decide) rfl (fun ls hl => ?_)
  refine lv_iload X.1.1 X.1.2.1 dX8_fits_125 (lv_at hl 6 rfl) ?_
  refine zif_ne (tgt := 134) X dX8_fits_127 (by decide) hf (fun hf => ?_) (fun hf => ?_)
  · refine lv_iload X.1.1 X.1.2.1 dX8_fits_134 (lv_at hl 6 rfl) ?_
    refine lv_iconst (v := 1) X.1.1 X.1.2.1 dX8_fits_136 (by decide) ?_
    refine zic_ne (tgt := 145) X dX8_fits_137 (by decide) hf (fun hf => ?_) (fun hf => ?_)
    · refine lv_bipush (v := 18) X.1.1 X.1.2.1 dX8_fits_145 (by decide) ?_
      exact w_X8_fits_b147 X hr hlk _ _ _ _ _ _ _ _ _ _ _ _ _ _ hf G (lv_sub hl [1, 2, 3, 4, 5, 6, 7, 8, 0] rfl)
    · refine lv_bipush (v := 8) X.1.1 X.1.2.1 dX8_fits_140 (by decide) ?_
      refine lv_goto (tgt := 147) X.1.1 X.1.2.1 dX8_fits_142 (by decide) ?_
      exact w_X8_fits_b147 X hr hlk _ _ _ _ _ _ _ _ _ _ _ _ _ _ hf G (lv_sub hl [1, 2, 3, 4, 5, 6, 7, 8, 0] rfl)
  · refine lv_iconst (v := 3) X.1.1 X.1.2.1 dX8_fits_130 (by decide) ?_
    refine lv_goto (tgt := 147) X.1.1 X.1.2.1 dX8_fits_131 (by decide) ?_
    exact w_X8_fits_b147 X hr hlk _ _ _ _ _ _ _ _ _ _ _ _ _ _ hf G (lv_sub hl [1, 2, 3, 4, 5, 6, 7, 8, 0] rfl)
set_option maxHeartbeats 4000000 in
set_option maxRecDepth 100000 in
theorem w_X8_fits_b100 {p : Program} {l : Launch} {e : Env} {s : State} {m : MethodId} {args : Array Value} {below : List Frame} {meth : Method} {c : Code} {D : va_G} {dA : Nat → ClassId} {b0 : Nat} (X : zX p s m args c cX8_fits 11 RX8 wsX8_fits D dA) (hr : meth.sig.returnType = (some .int)) (hlk : meth.locks = false) {z : Int32 × zH} : ∀ (r0 : Nat) (a1 : Int32) (a2 : Int32) (a3 : Int32) (a4 : Int32) (a5 : Int32) (a6 : Int32) (s0 : Int32) (h : zH) (H : Heap) (locs : List Loc) (ls : Array Slot), f_X8_fits_b100 r0 a1 a2 a3 a4 a5 a6 s0 h = some z → zG D dA b0 s.heap h H locs → lv_has ls 11 [(0, .ref (b0 + r0)), (1, .int a1), (2, .int a2), (3, .int a3), (4, .int a4), (5, .int a5), (6, .int a6)] → W p l e rmX8_fits s m args below meth c H locs 0 0 (MQ below (zQ D dA b0 (some (.int z.1)) z.2) args s 0 0 (zA b0)) (F0 m 100 ls [.int s0]) := by
  intro r0 a1 a2 a3 a4 a5 a6 s0 h H locs ls hf G hl
  unfold f_X8_fits_b100 at hf
  refine lv_istore (lv' := [(7, .int s0), (0, .ref (b0 + r0)), (1, .int a1), (2, .int a2), (3, .int a3), (4, .int a4), (5, .int a5), (6, .int a6)]) X.1.1 X.1.2.1 dX8_fits_100 hl (by decide) rfl (fun ls hl => ?_)
  refine lv_iload X.1.1 X.1.2.1 dX8_fits_102 (lv_at hl 6 rfl) ?_
  refine zif_ne (tgt := 111) X dX8_fits_104 (by decide) hf (fun hf => ?_) (fun hf => ?_)
  · refine lv_iload X.1.1 X.1.2.1 dX8_fits_111 (lv_at hl 6 rfl) ?_
    refine lv_iconst (v := 1) X.1.1 X.1.2.1 dX8_fits_113 (by decide) ?_
    refine zic_ne (tgt := 122) X dX8_fits_114 (by decide) hf (fun hf => ?_) (fun hf => ?_)
    · refine lv_iconst (v := 3) X.1.1 X.1.2.1 dX8_fits_122 (by decide) ?_
      exact w_X8_fits_b123 X hr hlk _ _ _ _ _ _ _ _ _ _ _ _ _ hf G (lv_sub hl [1, 2, 3, 4, 5, 6, 7, 0] rfl)
    · refine lv_bipush (v := 9) X.1.1 X.1.2.1 dX8_fits_117 (by decide) ?_
      refine lv_goto (tgt := 123) X.1.1 X.1.2.1 dX8_fits_119 (by decide) ?_
      exact w_X8_fits_b123 X hr hlk _ _ _ _ _ _ _ _ _ _ _ _ _ hf G (lv_sub hl [1, 2, 3, 4, 5, 6, 7, 0] rfl)
  · refine lv_iconst (v := 5) X.1.1 X.1.2.1 dX8_fits_107 (by decide) ?_
    refine lv_goto (tgt := 123) X.1.1 X.1.2.1 dX8_fits_108 (by decide) ?_
    exact w_X8_fits_b123 X hr hlk _ _ _ _ _ _ _ _ _ _ _ _ _ hf G (lv_sub hl [1, 2, 3, 4, 5, 6, 7, 0] rfl)
set_option maxHeartbeats 4000000 in
set_option maxRecDepth 100000 in
theorem m_X8_fits (l : Launch) (D : va_G) (dA : Nat → ClassId) (b0 : Nat) (r0 : Nat) (a1 : Int32) (a2 : Int32) (a3 : Int32) (a4 : Int32) (a5 : Int32) (h : zH) (z : Int32 × zH) (hf : f_X8_fits r0 a1 a2 a3 a4 a5 h = some z) : Met l yX8_fits wsX8_fits rmX8_fits (zPc D dA b0 [.ref (b0 + r0), .int a1, .int a2, .int a3, .int a4, .int a5] h) (zQ D dA b0 (some (.int z.1)) z.2) 0 0 (zA b0) := by
  refine Met.ofW (cc := cX8_fits) (maxL := 11) (ret := (some .int)) (by decide) rfl ?_
  intro p e s m args below meth c s₁ B hml hv
  obtain ⟨rfl, hP, hz, hK, hN⟩ := hv
  have hr := B.returns
  have hlk := B.notSynchronized
  have X : zX p s m _ c cX8_fits 11 RX8 wsX8_fits D dA := ⟨⟨B.exec, B.bytes, hml, findClass_of_methodNamed B.named, atoms_spec (ws := wsX8_fits) B.pre⟩, hK, hN⟩
  have G : zG D dA b0 s.heap h s.heap [] := ⟨hP, hz, va_S.rf⟩
  have hl := lv_entry ([.ref (b0 + r0), .int a1, .int a2, .int a3, .int a4, .int a5]) (n := 11) (Nat.le_of_ble_eq_true rfl)
  rw [lg_entry_eq]
  generalize (lg_sl ([.ref (b0 + r0), .int a1, .int a2, .int a3, .int a4, .int a5]) ++ List.replicate (11 - (lg_sl ([.ref (b0 + r0), .int a1, .int a2, .int a3, .int a4, .int a5])).length) Slot.unset).toArray = ls at hl ⊢
  have hl : lv_has ls 11 [(0, .ref (b0 + r0)), (1, .int a1), (2, .int a2), (3, .int a3), (4, .int a4), (5, .int a5)] := hl
  unfold f_X8_fits at hf
  refine lv_aload_n X.1.1 X.1.2.1 dX8_fits_0 rfl (lv_at hl 0 rfl) ?_
  refine lv_iload_n X.1.1 X.1.2.1 dX8_fits_1 rfl (lv_at hl 1 rfl) ?_
  obtain ⟨hk, hf⟩ := zck hf
  obtain ⟨q1, eq1, hf⟩ := Option.bind_eq_some_iff.mp hf
  refine zcV0 (As := [.int a1]) (rest := []) (v := (some (.int q1))) (h' := h) X G (rfl : vwCl[8]? = some (RX8, TX8, 24)) hk (m_X8_isThing l D dA b0 r0 a1 h q1 eq1) (cwV 1 X.1.2.2.2.2 gX8_fits_X8_isThing rfl rfl rfl hdV_X8_isThing ⟨(Nat.le_of_ble_eq_true rfl), (Nat.le_of_ble_eq_true rfl)⟩) rfl hl.1 rfl (Nat.le_of_ble_eq_true rfl) dX8_fits_2 ⟨Nat.zero_le _, Nat.zero_le _⟩ (fun H locs G => ?_)
  refine zif_eq (tgt := 41) X dX8_fits_5 (by decide) hf (fun hf => ?_) (fun hf => ?_)
  · refine lv_ldc (v := -1000001) X.1.1 X.1.2.1 X.1.2.2.2.1 (X.1.2.2.2.2 _ coX8_fits_70) dX8_fits_41 ?_
    exact zretI X hr hlk G hf dX8_fits_43
  · refine lv_iload_n X.1.1 X.1.2.1 dX8_fits_8 rfl (lv_at hl 2 rfl) ?_
    obtain ⟨q2, eq2, hf⟩ := Option.bind_eq_some_iff.mp hf
    refine zcS0 (As := [.int a2]) (rest := []) (v := (some (.int q2))) (h' := h) X G (m_X8_isRow l D dA b0 a2 h q2 eq2) (va_cwS 1 X.1.2.2.2.2 gX8_fits_X8_isRow rfl rfl rfl hdS_X8_isRow ⟨(Nat.le_of_ble_eq_true rfl), (Nat.le_of_ble_eq_true rfl)⟩) rfl hl.1 rfl (Nat.le_of_ble_eq_true rfl) dX8_fits_9 ⟨Nat.zero_le _, Nat.zero_le _⟩ (fun H locs G => ?_)
    refine zif_eq (tgt := 41) X dX8_fits_12 (by decide) hf (fun hf => ?_) (fun hf => ?_)
    · refine lv_ldc (v := -1000001) X.1.1 X.1.2.1 X.1.2.2.2.1 (X.1.2.2.2.2 _ coX8_fits_70) dX8_fits_41 ?_
      exact zretI X hr hlk G hf dX8_fits_43
    · refine lv_iload X.1.1 X.1.2.1 dX8_fits_15 (lv_at hl 4 rfl) ?_
      refine lv_i2l X.1.1 X.1.2.1 dX8_fits_17 rfl ?_
      refine lv_lconst (v := 1) X.1.1 X.1.2.1 dX8_fits_18 (by decide) ?_
      refine lv_ldc2 (v := 16) X.1.1 X.1.2.1 X.1.2.2.2.1 (X.1.2.2.2.2 _ clX8_fits_221) dX8_fits_19 ?_
      obtain ⟨q3, eq3, hf⟩ := Option.bind_eq_some_iff.mp hf
      refine zcS0 (As := [.long (Int32.toInt64 a4), .long (1 : Int64), .long (16 : Int64)]) (rest := []) (v := (some (.int q3))) (h' := h) X G (m_X8_in l D dA b0 ((Int32.toInt64 a4)) (1 : Int64) (16 : Int64) h q3 eq3) (va_cwS 3 X.1.2.2.2.2 gX8_fits_X8_in rfl rfl rfl hdS_X8_in ⟨(Nat.le_of_ble_eq_true rfl), (Nat.le_of_ble_eq_true rfl)⟩) rfl hl.1 rfl (Nat.le_of_ble_eq_true rfl) dX8_fits_22 ⟨Nat.zero_le _, Nat.zero_le _⟩ (fun H locs G => ?_)
      refine zif_eq (tgt := 41) X dX8_fits_25 (by decide) hf (fun hf => ?_) (fun hf => ?_)
      · refine lv_ldc (v := -1000001) X.1.1 X.1.2.1 X.1.2.2.2.1 (X.1.2.2.2.2 _ coX8_fits_70) dX8_fits_41 ?_
        exact zretI X hr hlk G hf dX8_fits_43
      · refine lv_iload X.1.1 X.1.2.1 dX8_fits_28 (lv_at hl 5 rfl) ?_
        refine lv_i2l X.1.1 X.1.2.1 dX8_fits_30 rfl ?_
        refine lv_lconst (v := 0) X.1.1 X.1.2.1 dX8_fits_31 (by decide) ?_
        refine lv_ldc2 (v := 2) X.1.1 X.1.2.1 X.1.2.2.2.1 (X.1.2.2.2.2 _ clX8_fits_68) dX8_fits_32 ?_
        obtain ⟨q4, eq4, hf⟩ := Option.bind_eq_some_iff.mp hf
        refine zcS0 (As := [.long (Int32.toInt64 a5), .long (0 : Int64), .long (2 : Int64)]) (rest := []) (v := (some (.int q4))) (h' := h) X G (m_X8_in l D dA b0 ((Int32.toInt64 a5)) (0 : Int64) (2 : Int64) h q4 eq4) (va_cwS 3 X.1.2.2.2.2 gX8_fits_X8_in rfl rfl rfl hdS_X8_in ⟨(Nat.le_of_ble_eq_true rfl), (Nat.le_of_ble_eq_true rfl)⟩) rfl hl.1 rfl (Nat.le_of_ble_eq_true rfl) dX8_fits_35 ⟨Nat.zero_le _, Nat.zero_le _⟩ (fun H locs G => ?_)
        refine zif_ne (tgt := 44) X dX8_fits_38 (by decide) hf (fun hf => ?_) (fun hf => ?_)
        · refine lv_aload_n X.1.1 X.1.2.1 dX8_fits_44 rfl (lv_at hl 0 rfl) ?_
          refine zgetR (ci := 8) (k := 1) (C := RX8) (T := TX8) (N := 24) X G rfl inX8_fits_X8 (Nat.le_of_ble_eq_true rfl) flX8_fits_13 dX8_fits_45 hf (fun v5 hf => ?_)
          refine lv_iload_n X.1.1 X.1.2.1 dX8_fits_48 rfl (lv_at hl 2 rfl) ?_
          refine ziald X G dX8_fits_49 hf (fun v6 hf => ?_)
          refine zif_ge (tgt := 59) X dX8_fits_50 (by decide) hf (fun hf => ?_) (fun hf => ?_)
          · refine lv_iload_n X.1.1 X.1.2.1 dX8_fits_59 rfl (lv_at hl 3 rfl) ?_
            refine zif_lt (tgt := 80) X dX8_fits_60 (by decide) hf (fun hf => ?_) (fun hf => ?_)
            · exact w_X8_fits_b80 X hr hlk _ _ _ _ _ hf G (lv_sub hl [0] rfl)
            · refine lv_iload_n X.1.1 X.1.2.1 dX8_fits_63 rfl (lv_at hl 3 rfl) ?_
              refine lv_i2l X.1.1 X.1.2.1 dX8_fits_64 rfl ?_
              refine lv_iload X.1.1 X.1.2.1 dX8_fits_65 (lv_at hl 4 rfl) ?_
              refine lv_i2l X.1.1 X.1.2.1 dX8_fits_67 rfl ?_
              refine lv_ladd X.1.1 X.1.2.1 dX8_fits_68 ?_
              refine lv_aload_n X.1.1 X.1.2.1 dX8_fits_69 rfl (lv_at hl 0 rfl) ?_
              refine zgetR (ci := 8) (k := 1) (C := RX8) (T := TX8) (N := 24) X G rfl inX8_fits_X8 (Nat.le_of_ble_eq_true rfl) flX8_fits_13 dX8_fits_70 hf (fun v7 hf => ?_)
              refine lv_iload_n X.1.1 X.1.2.1 dX8_fits_73 rfl (lv_at hl 2 rfl) ?_
              refine ziald X G dX8_fits_74 hf (fun v8 hf => ?_)
              refine lv_i2l X.1.1 X.1.2.1 dX8_fits_75 rfl ?_
              refine W.lcmp X.1.1 X.1.2.1 dX8_fits_76 ?_
              refine zif_le (tgt := 86) X dX8_fits_77 (by decide) hf (fun hf => ?_) (fun hf => ?_)
              · refine lv_iconst (v := 0) X.1.1 X.1.2.1 dX8_fits_86 (by decide) ?_
                refine lv_istore (lv' := [(6, .int (0 : Int32)), (0, .ref (b0 + r0)), (1, .int a1), (2, .int a2), (3, .int a3), (4, .int a4), (5, .int a5)]) X.1.1 X.1.2.1 dX8_fits_87 hl (by decide) rfl (fun ls hl => ?_)
                refine lv_iload X.1.1 X.1.2.1 dX8_fits_89 (lv_at hl 6 rfl) ?_
                refine lv_iconst (v := 2) X.1.1 X.1.2.1 dX8_fits_91 (by decide) ?_
                refine zic_ne (tgt := 99) X dX8_fits_92 (by decide) hf (fun hf => ?_) (fun hf => ?_)
                · refine lv_iconst (v := 1) X.1.1 X.1.2.1 dX8_fits_99 (by decide) ?_
                  exact w_X8_fits_b100 X hr hlk _ _ _ _ _ _ _ _ _ _ _ _ hf G (lv_sub hl [1, 2, 3, 4, 5, 6, 0] rfl)
                · refine lv_iconst (v := 0) X.1.1 X.1.2.1 dX8_fits_95 (by decide) ?_
                  refine lv_goto (tgt := 100) X.1.1 X.1.2.1 dX8_fits_96 (by decide) ?_
                  exact w_X8_fits_b100 X hr hlk _ _ _ _ _ _ _ _ _ _ _ _ hf G (lv_sub hl [1, 2, 3, 4, 5, 6, 0] rfl)
              · exact w_X8_fits_b80 X hr hlk _ _ _ _ _ hf G (lv_sub hl [0] rfl)
          · refine lv_aload_n X.1.1 X.1.2.1 dX8_fits_53 rfl (lv_at hl 0 rfl) ?_
            refine lv_iconst (v := 1) X.1.1 X.1.2.1 dX8_fits_54 (by decide) ?_
            obtain ⟨hk, hf⟩ := zck hf
            obtain ⟨q9, eq9, hf⟩ := Option.bind_eq_some_iff.mp hf
            refine zcV0 (As := [.int (1 : Int32)]) (rest := []) (v := (some (.int q9.1))) (h' := q9.2) X G (rfl : vwCl[8]? = some (RX8, TX8, 24)) hk (m_X8_found l D dA b0 r0 (1 : Int32) h q9 eq9) (cwV 1 X.1.2.2.2.2 gX8_fits_X8_found rfl rfl rfl hdV_X8_found ⟨(Nat.le_of_ble_eq_true rfl), (Nat.le_of_ble_eq_true rfl)⟩) rfl hl.1 rfl (Nat.le_of_ble_eq_true rfl) dX8_fits_55 ⟨Nat.zero_le _, Nat.zero_le _⟩ (fun H locs G => ?_)
            exact zretI X hr hlk G hf dX8_fits_58
        · refine lv_ldc (v := -1000001) X.1.1 X.1.2.1 X.1.2.2.2.1 (X.1.2.2.2.2 _ coX8_fits_70) dX8_fits_41 ?_
          exact zretI X hr hlk G hf dX8_fits_43
/-! X8_moles -/
abbrev rmX8_moles : Room := { frames := 4, cells := 0, slots := 0, locals := 90 }
theorem hdV_X8_moles : yX8_moles.cls = RX8 ∧ yX8_moles.cls ≠ "java/lang/invoke/MethodHandle" ∧ yX8_moles.cls ≠ "java/lang/invoke/VarHandle" ∧ (parseMethodDescriptor yX8_moles.desc).map (fun d => d.parameters.length) = some 3 := by decide +kernel
theorem inX8_moles_X8 : ∀ w ∈ wsX80, w ∈ wsX8_moles := by decide +kernel
theorem flX8_moles_25 : Cond.fieldLink RX8 25 (TX8 6).1 (TX8 6).2.1 (TX8 6).2.2.1 ∈ wsX8_moles := by decide +kernel
theorem flX8_moles_19 : Cond.fieldLink RX8 19 (TX8 4).1 (TX8 4).2.1 (TX8 4).2.2.1 ∈ wsX8_moles := by decide +kernel
theorem clX8_moles_227 : Cond.constantLong RX8 227 (10) ∈ wsX8_moles := by decide +kernel
theorem coX8_moles_70 : Cond.constant RX8 70 (-1000001) ∈ wsX8_moles := by decide +kernel
theorem coX8_moles_163 : Cond.constant RX8 163 (-1000002) ∈ wsX8_moles := by decide +kernel
set_option maxHeartbeats 4000000 in
set_option maxRecDepth 100000 in
theorem w_X8_moles_b304 {p : Program} {l : Launch} {e : Env} {s : State} {m : MethodId} {args : Array Value} {below : List Frame} {meth : Method} {c : Code} {D : va_G} {dA : Nat → ClassId} {b0 : Nat} (X : zX p s m args c cX8_moles 16 RX8 wsX8_moles D dA) (hr : meth.sig.returnType = (some .int)) (hlk : meth.locks = false) {z : Int32 × zH} : ∀ (s0 : Int64) (h : zH) (H : Heap) (locs : List Loc) (ls : Array Slot), f_X8_moles_b304 s0 h = some z → zG D dA b0 s.heap h H locs → lv_has ls 16 [] → W p l e rmX8_moles s m args below meth c H locs 0 0 (MQ below (zQ D dA b0 (some (.int z.1)) z.2) args s 0 0 (zA b0)) (F0 m 304 ls [.long s0]) := by
  intro s0 h H locs ls hf G hl
  unfold f_X8_moles_b304 at hf
  refine lv_l2i X.1.1 X.1.2.1 dX8_moles_304 rfl ?_
  exact zretI X hr hlk G hf dX8_moles_305
set_option maxHeartbeats 4000000 in
set_option maxRecDepth 100000 in
theorem w_X8_moles_b262 {p : Program} {l : Launch} {e : Env} {s : State} {m : MethodId} {args : Array Value} {below : List Frame} {meth : Method} {c : Code} {D : va_G} {dA : Nat → ClassId} {b0 : Nat} (X : zX p s m args c cX8_moles 16 RX8 wsX8_moles D dA) (hr : meth.sig.returnType = (some .int)) (hlk : meth.locks = false) {z : Int32 × zH} : ∀ (n : Nat), ∀ (a3 : Int32) (a6 : Int64) (a8 : Int64) (a10 : Int64) (a12 : Int64) (h : zH) (H : Heap) (locs : List Loc) (ls : Array Slot), f_X8_moles_b262 n a3 a6 a8 a10 a12 h = some z → zG D dA b0 s.heap h H locs → lv_has ls 16 [(3, .int a3), (6, .long a6), (8, .long a8), (10, .long a10), (12, .long a12)] → W p l e rmX8_moles s m args below meth c H locs 0 0 (MQ below (zQ D dA b0 (some (.int z.1)) z.2) args s 0 0 (zA b0)) (F0 m 262 ls []) := by
  intro n
  induction n with
  | zero =>
    intro a3 a6 a8 a10 a12 h H locs ls hf
    cases hf
  | succ n ih =>
    intro a3 a6 a8 a10 a12 h H locs ls hf G hl
    rw [f_X8_moles_b262] at hf
    refine lv_lload X.1.1 X.1.2.1 dX8_moles_262 (lv_at hl 4 rfl) ?_
    refine lv_lconst (v := 0) X.1.1 X.1.2.1 dX8_moles_264 (by decide) ?_
    refine W.lcmp X.1.1 X.1.2.1 dX8_moles_265 ?_
    refine zif_eq (tgt := 287) X dX8_moles_266 (by decide) hf (fun hf => ?_) (fun hf => ?_)
    · refine lv_iload_n X.1.1 X.1.2.1 dX8_moles_287 rfl (lv_at hl 0 rfl) ?_
      refine zif_ne (tgt := 299) X dX8_moles_288 (by decide) hf (fun hf => ?_) (fun hf => ?_)
      · refine lv_lload X.1.1 X.1.2.1 dX8_moles_299 (lv_at hl 2 rfl) ?_
        refine lv_lload X.1.1 X.1.2.1 dX8_moles_301 (lv_at hl 3 rfl) ?_
        refine zldiv X dX8_moles_303 hf (fun hf => ?_)
        exact w_X8_moles_b304 X hr hlk _ _ _ _ _ hf G (lv_sub hl [] rfl)
      · refine lv_lload X.1.1 X.1.2.1 dX8_moles_291 (lv_at hl 1 rfl) ?_
        refine lv_lload X.1.1 X.1.2.1 dX8_moles_293 (lv_at hl 3 rfl) ?_
        refine zldiv X dX8_moles_295 hf (fun hf => ?_)
        refine lv_goto (tgt := 304) X.1.1 X.1.2.1 dX8_moles_296 (by decide) ?_
        exact w_X8_moles_b304 X hr hlk _ _ _ _ _ hf G (lv_sub hl [] rfl)
    · refine lv_lload X.1.1 X.1.2.1 dX8_moles_269 (lv_at hl 3 rfl) ?_
      refine lv_lload X.1.1 X.1.2.1 dX8_moles_271 (lv_at hl 4 rfl) ?_
      refine zlrem X dX8_moles_273 hf (fun hf => ?_)
      refine zletl hf (fun x1 hf => ?_)
      refine lv_lstore (lv' := [(14, .long x1), (3, .int a3), (6, .long a6), (8, .long a8), (10, .long a10), (12, .long a12)]) X.1.1 X.1.2.1 dX8_moles_274 hl (by decide) rfl (fun ls hl => ?_)
      refine lv_lload X.1.1 X.1.2.1 dX8_moles_276 (lv_at hl 5 rfl) ?_
      refine lv_lstore (lv' := [(10, .long a12), (14, .long x1), (3, .int a3), (6, .long a6), (8, .long a8), (12, .long a12)]) X.1.1 X.1.2.1 dX8_moles_278 hl (by decide) rfl (fun ls hl => ?_)
      refine lv_lload X.1.1 X.1.2.1 dX8_moles_280 (lv_at hl 1 rfl) ?_
      refine lv_lstore (lv' := [(12, .long x1), (10, .long a12), (14, .long x1), (3, .int a3), (6, .long a6), (8, .long a8)]) X.1.1 X.1.2.1 dX8_moles_282 hl (by decide) rfl (fun ls hl => ?_)
      refine lv_goto (tgt := 262) X.1.1 X.1.2.1 dX8_moles_284 (by decide) ?_
      exact ih _ _ _ _ _ _ _ _ _ hf G (lv_sub hl [3, 4, 5, 1, 0] rfl)
set_option maxHeartbeats 4000000 in
set_option maxRecDepth 100000 in
theorem w_X8_moles_b245 {p : Program} {l : Launch} {e : Env} {s : State} {m : MethodId} {args : Array Value} {below : List Frame} {meth : Method} {c : Code} {D : va_G} {dA : Nat → ClassId} {b0 : Nat} (X : zX p s m args c cX8_moles 16 RX8 wsX8_moles D dA) (hr : meth.sig.returnType = (some .int)) (hlk : meth.locks = false) {z : Int32 × zH} (k111 : Nat → Int32 → Int32 → Int32 → Int32 → Int32 → Int64 → Int64 → Int32 → zH → Option (Int32 × zH)) (hk111 : ∀ (r0 : Nat) (a1 : Int32) (a2 : Int32) (a3 : Int32) (a4 : Int32) (a5 : Int32) (a6 : Int64) (a8 : Int64) (a10 : Int32) (h : zH) (H : Heap) (locs : List Loc) (ls : Array Slot), k111 r0 a1 a2 a3 a4 a5 a6 a8 a10 h = some z → zG D dA b0 s.heap h H locs → lv_has ls 16 [(0, .ref (b0 + r0)), (1, .int a1), (2, .int a2), (3, .int a3), (4, .int a4), (5, .int a5), (6, .long a6), (8, .long a8), (10, .int a10)] → W p l e rmX8_moles s m args below meth c H locs 0 0 (MQ below (zQ D dA b0 (some (.int z.1)) z.2) args s 0 0 (zA b0)) (F0 m 111 ls [])) : ∀ (r0 : Nat) (a1 : Int32) (a2 : Int32) (a3 : Int32) (a4 : Int32) (a5 : Int32) (a8 : Int64) (a10 : Int32) (s0 : Int64) (s1 : Int64) (h : zH) (H : Heap) (locs : List Loc) (ls : Array Slot), f_X8_moles_b245 k111 r0 a1 a2 a3 a4 a5 a8 a10 s0 s1 h = some z → zG D dA b0 s.heap h H locs → lv_has ls 16 [(0, .ref (b0 + r0)), (1, .int a1), (2, .int a2), (3, .int a3), (4, .int a4), (5, .int a5), (8, .long a8), (10, .int a10)] → W p l e rmX8_moles s m args below meth c H locs 0 0 (MQ below (zQ D dA b0 (some (.int z.1)) z.2) args s 0 0 (zA b0)) (F0 m 245 ls [.long s1, .long s0]) := by
  intro r0 a1 a2 a3 a4 a5 a8 a10 s0 s1 h H locs ls hf G hl
  unfold f_X8_moles_b245 at hf
  refine lv_ladd X.1.1 X.1.2.1 dX8_moles_245 ?_
  refine zletl hf (fun x1 hf => ?_)
  refine lv_lstore (lv' := [(6, .long x1), (0, .ref (b0 + r0)), (1, .int a1), (2, .int a2), (3, .int a3), (4, .int a4), (5, .int a5), (8, .long a8), (10, .int a10)]) X.1.1 X.1.2.1 dX8_moles_246 hl (by decide) rfl (fun ls hl => ?_)
  refine lv_iinc (v := (a10 + (1 : Int32))) (lv' := [(10, .int (a10 + (1 : Int32))), (6, .long x1), (0, .ref (b0 + r0)), (1, .int a1), (2, .int a2), (3, .int a3), (4, .int a4), (5, .int a5), (8, .long a8)]) X.1.1 X.1.2.1 dX8_moles_248 hl (k := 8) rfl rfl (by decide) rfl (fun ls hl => ?_)
  refine lv_goto (tgt := 111) X.1.1 X.1.2.1 dX8_moles_251 (by decide) ?_
  exact hk111 _ _ _ _ _ _ _ _ _ _ _ _ _ hf G (lv_sub hl [2, 3, 4, 5, 6, 7, 1, 8, 0] rfl)
set_option maxHeartbeats 4000000 in
set_option maxRecDepth 100000 in
theorem w_X8_moles_b212 {p : Program} {l : Launch} {e : Env} {s : State} {m : MethodId} {args : Array Value} {below : List Frame} {meth : Method} {c : Code} {D : va_G} {dA : Nat → ClassId} {b0 : Nat} (X : zX p s m args c cX8_moles 16 RX8 wsX8_moles D dA) (hr : meth.sig.returnType = (some .int)) (hlk : meth.locks = false) {z : Int32 × zH} (k111 : Nat → Int32 → Int32 → Int32 → Int32 → Int32 → Int64 → Int64 → Int32 → zH → Option (Int32 × zH)) (hk111 : ∀ (r0 : Nat) (a1 : Int32) (a2 : Int32) (a3 : Int32) (a4 : Int32) (a5 : Int32) (a6 : Int64) (a8 : Int64) (a10 : Int32) (h : zH) (H : Heap) (locs : List Loc) (ls : Array Slot), k111 r0 a1 a2 a3 a4 a5 a6 a8 a10 h = some z → zG D dA b0 s.heap h H locs → lv_has ls 16 [(0, .ref (b0 + r0)), (1, .int a1), (2, .int a2), (3, .int a3), (4, .int a4), (5, .int a5), (6, .long a6), (8, .long a8), (10, .int a10)] → W p l e rmX8_moles s m args below meth c H locs 0 0 (MQ below (zQ D dA b0 (some (.int z.1)) z.2) args s 0 0 (zA b0)) (F0 m 111 ls [])) (k136 : Nat → Int32 → Int32 → Int32 → Int32 → Int32 → Int64 → Int64 → Int32 → Int64 → Int32 → zH → Option (Int32 × zH)) (hk136 : ∀ (r0 : Nat) (a1 : Int32) (a2 : Int32) (a3 : Int32) (a4 : Int32) (a5 : Int32) (a6 : Int64) (a8 : Int64) (a10 : Int32) (a11 : Int64) (a13 : Int32) (h : zH) (H : Heap) (locs : List Loc) (ls : Array Slot), k136 r0 a1 a2 a3 a4 a5 a6 a8 a10 a11 a13 h = some z → zG D dA b0 s.heap h H locs → lv_has ls 16 [(0, .ref (b0 + r0)), (1, .int a1), (2, .int a2), (3, .int a3), (4, .int a4), (5, .int a5), (6, .long a6), (8, .long a8), (10, .int a10), (11, .long a11), (13, .int a13)] → W p l e rmX8_moles s m args below meth c H locs 0 0 (MQ below (zQ D dA b0 (some (.int z.1)) z.2) args s 0 0 (zA b0)) (F0 m 136 ls [])) : ∀ (r0 : Nat) (a1 : Int32) (a2 : Int32) (a3 : Int32) (a4 : Int32) (a5 : Int32) (a6 : Int64) (a8 : Int64) (a10 : Int32) (a11 : Int64) (a13 : Int32) (s0 : Nat) (s1 : Int32) (s2 : Int32) (s3 : Int32) (h : zH) (H : Heap) (locs : List Loc) (ls : Array Slot), f_X8_moles_b212 k111 k136 r0 a1 a2 a3 a4 a5 a6 a8 a10 a11 a13 s0 s1 s2 s3 h = some z → zG D dA b0 s.heap h H locs → lv_has ls 16 [(0, .ref (b0 + r0)), (1, .int a1), (2, .int a2), (3, .int a3), (4, .int a4), (5, .int a5), (6, .long a6), (8, .long a8), (10, .int a10), (11, .long a11), (13, .int a13)] → W p l e rmX8_moles s m args below meth c H locs 0 0 (MQ below (zQ D dA b0 (some (.int z.1)) z.2) args s 0 0 (zA b0)) (F0 m 212 ls [.int s3, .int s2, .int s1, .ref (b0 + s0)]) := by
  intro r0 a1 a2 a3 a4 a5 a6 a8 a10 a11 a13 s0 s1 s2 s3 h H locs ls hf G hl
  unfold f_X8_moles_b212 at hf
  refine lv_isub X.1.1 X.1.2.1 dX8_moles_212 ?_
  refine ziast X G dX8_moles_213 hf (fun h1 H locs hf G => ?_)
  refine lv_iinc (v := (a13 + (1 : Int32))) (lv' := [(13, .int (a13 + (1 : Int32))), (0, .ref (b0 + r0)), (1, .int a1), (2, .int a2), (3, .int a3), (4, .int a4), (5, .int a5), (6, .long a6), (8, .long a8), (10, .int a10), (11, .long a11)]) X.1.1 X.1.2.1 dX8_moles_214 hl (k := 10) rfl rfl (by decide) rfl (fun ls hl => ?_)
  refine lv_goto (tgt := 136) X.1.1 X.1.2.1 dX8_moles_217 (by decide) ?_
  exact hk136 _ _ _ _ _ _ _ _ _ _ _ _ _ _ _ hf G (lv_sub hl [1, 2, 3, 4, 5, 6, 7, 8, 9, 10, 0] rfl)
set_option maxHeartbeats 4000000 in
set_option maxRecDepth 100000 in
theorem w_X8_moles_b183 {p : Program} {l : Launch} {e : Env} {s : State} {m : MethodId} {args : Array Value} {below : List Frame} {meth : Method} {c : Code} {D : va_G} {dA : Nat → ClassId} {b0 : Nat} (X : zX p s m args c cX8_moles 16 RX8 wsX8_moles D dA) (hr : meth.sig.returnType = (some .int)) (hlk : meth.locks = false) {z : Int32 × zH} (k111 : Nat → Int32 → Int32 → Int32 → Int32 → Int32 → Int64 → Int64 → Int32 → zH → Option (Int32 × zH)) (hk111 : ∀ (r0 : Nat) (a1 : Int32) (a2 : Int32) (a3 : Int32) (a4 : Int32) (a5 : Int32) (a6 : Int64) (a8 : Int64) (a10 : Int32) (h : zH) (H : Heap) (locs : List Loc) (ls : Array Slot), k111 r0 a1 a2 a3 a4 a5 a6 a8 a10 h = some z → zG D dA b0 s.heap h H locs → lv_has ls 16 [(0, .ref (b0 + r0)), (1, .int a1), (2, .int a2), (3, .int a3), (4, .int a4), (5, .int a5), (6, .long a6), (8, .long a8), (10, .int a10)] → W p l e rmX8_moles s m args below meth c H locs 0 0 (MQ below (zQ D dA b0 (some (.int z.1)) z.2) args s 0 0 (zA b0)) (F0 m 111 ls [])) (k136 : Nat → Int32 → Int32 → Int32 → Int32 → Int32 → Int64 → Int64 → Int32 → Int64 → Int32 → zH → Option (Int32 × zH)) (hk136 : ∀ (r0 : Nat) (a1 : Int32) (a2 : Int32) (a3 : Int32) (a4 : Int32) (a5 : Int32) (a6 : Int64) (a8 : Int64) (a10 : Int32) (a11 : Int64) (a13 : Int32) (h : zH) (H : Heap) (locs : List Loc) (ls : Array Slot), k136 r0 a1 a2 a3 a4 a5 a6 a8 a10 a11 a13 h = some z → zG D dA b0 s.heap h H locs → lv_has ls 16 [(0, .ref (b0 + r0)), (1, .int a1), (2, .int a2), (3, .int a3), (4, .int a4), (5, .int a5), (6, .long a6), (8, .long a8), (10, .int a10), (11, .long a11), (13, .int a13)] → W p l e rmX8_moles s m args below meth c H locs 0 0 (MQ below (zQ D dA b0 (some (.int z.1)) z.2) args s 0 0 (zA b0)) (F0 m 136 ls [])) : ∀ (r0 : Nat) (a1 : Int32) (a2 : Int32) (a3 : Int32) (a4 : Int32) (a5 : Int32) (a6 : Int64) (a8 : Int64) (a10 : Int32) (a13 : Int32) (s0 : Int64) (s1 : Int64) (h : zH) (H : Heap) (locs : List Loc) (ls : Array Slot), f_X8_moles_b183 k111 k136 r0 a1 a2 a3 a4 a5 a6 a8 a10 a13 s0 s1 h = some z → zG D dA b0 s.heap h H locs → lv_has ls 16 [(0, .ref (b0 + r0)), (1, .int a1), (2, .int a2), (3, .int a3), (4, .int a4), (5, .int a5), (6, .long a6), (8, .long a8), (10, .int a10), (13, .int a13)] → W p l e rmX8_moles s m args below meth c H locs 0 0 (MQ below (zQ D dA b0 (some (.int z.1)) z.2) args s 0 0 (zA b0)) (F0 m 183 ls [.long s1, .long s0]) := by
  intro r0 a1 a2 a3 a4 a5 a6 a8 a10 a13 s0 s1 h H locs ls hf G hl
  unfold f_X8_moles_b183 at hf
  refine lv_lmul X.1.1 X.1.2.1 dX8_moles_183 ?_
  refine zletl hf (fun x1 hf => ?_)
  refine lv_lstore (lv' := [(11, .long x1), (0, .ref (b0 + r0)), (1, .int a1), (2, .int a2), (3, .int a3), (4, .int a4), (5, .int a5), (6, .long a6), (8, .long a8), (10, .int a10), (13, .int a13)]) X.1.1 X.1.2.1 dX8_moles_184 hl (by decide) rfl (fun ls hl => ?_)
  refine lv_aload_n X.1.1 X.1.2.1 dX8_moles_186 rfl (lv_at hl 1 rfl) ?_
  refine zgetR (ci := 8) (k := 6) (C := RX8) (T := TX8) (N := 24) X G rfl inX8_moles_X8 (Nat.le_of_ble_eq_true rfl) flX8_moles_25 dX8_moles_187 hf (fun v2 hf => ?_)
  refine lv_bipush (v := 13) X.1.1 X.1.2.1 dX8_moles_190 (by decide) ?_
  refine lv_iload X.1.1 X.1.2.1 dX8_moles_192 (lv_at hl 10 rfl) ?_
  refine lv_iadd X.1.1 X.1.2.1 dX8_moles_194 ?_
  refine lv_dup2_11 X.1.1 X.1.2.1 dX8_moles_195 rfl rfl ?_
  refine ziald X G dX8_moles_196 hf (fun v3 hf => ?_)
  refine lv_iload X.1.1 X.1.2.1 dX8_moles_197 (lv_at hl 9 rfl) ?_
  refine lv_iload X.1.1 X.1.2.1 dX8_moles_199 (lv_at hl 10 rfl) ?_
  obtain ⟨q4, eq4, hf⟩ := Option.bind_eq_some_iff.mp hf
  refine zcS0 (As := [.int a10, .int a13]) (rest := [.int v3, .int ((13 : Int32) + a13), .ref (b0 + v2)]) (v := (some (.int q4))) (h' := h) X G (m_X8_has l D dA b0 a10 a13 h q4 eq4) (va_cwS 2 X.1.2.2.2.2 gX8_moles_X8_has rfl rfl rfl hdS_X8_has ⟨(Nat.le_of_ble_eq_true rfl), (Nat.le_of_ble_eq_true rfl)⟩) rfl hl.1 rfl (Nat.le_of_ble_eq_true rfl) dX8_moles_201 ⟨Nat.zero_le _, Nat.zero_le _⟩ (fun H locs G => ?_)
  refine zif_eq (tgt := 211) X dX8_moles_204 (by decide) hf (fun hf => ?_) (fun hf => ?_)
  · refine lv_iconst (v := 0) X.1.1 X.1.2.1 dX8_moles_211 (by decide) ?_
    exact w_X8_moles_b212 X hr hlk _ hk111 _ hk136 _ _ _ _ _ _ _ _ _ _ _ _ _ _ _ _ _ _ _ hf G (lv_sub hl [1, 2, 3, 4, 5, 6, 7, 8, 9, 0, 10] rfl)
  · refine lv_iconst (v := 1) X.1.1 X.1.2.1 dX8_moles_207 (by decide) ?_
    refine lv_goto (tgt := 212) X.1.1 X.1.2.1 dX8_moles_208 (by decide) ?_
    exact w_X8_moles_b212 X hr hlk _ hk111 _ hk136 _ _ _ _ _ _ _ _ _ _ _ _ _ _ _ _ _ _ _ hf G (lv_sub hl [1, 2, 3, 4, 5, 6, 7, 8, 9, 0, 10] rfl)
set_option maxHeartbeats 4000000 in
set_option maxRecDepth 100000 in
theorem w_X8_moles_b136 {p : Program} {l : Launch} {e : Env} {s : State} {m : MethodId} {args : Array Value} {below : List Frame} {meth : Method} {c : Code} {D : va_G} {dA : Nat → ClassId} {b0 : Nat} (X : zX p s m args c cX8_moles 16 RX8 wsX8_moles D dA) (hr : meth.sig.returnType = (some .int)) (hlk : meth.locks = false) {z : Int32 × zH} (k111 : Nat → Int32 → Int32 → Int32 → Int32 → Int32 → Int64 → Int64 → Int32 → zH → Option (Int32 × zH)) (hk111 : ∀ (r0 : Nat) (a1 : Int32) (a2 : Int32) (a3 : Int32) (a4 : Int32) (a5 : Int32) (a6 : Int64) (a8 : Int64) (a10 : Int32) (h : zH) (H : Heap) (locs : List Loc) (ls : Array Slot), k111 r0 a1 a2 a3 a4 a5 a6 a8 a10 h = some z → zG D dA b0 s.heap h H locs → lv_has ls 16 [(0, .ref (b0 + r0)), (1, .int a1), (2, .int a2), (3, .int a3), (4, .int a4), (5, .int a5), (6, .long a6), (8, .long a8), (10, .int a10)] → W p l e rmX8_moles s m args below meth c H locs 0 0 (MQ below (zQ D dA b0 (some (.int z.1)) z.2) args s 0 0 (zA b0)) (F0 m 111 ls [])) : ∀ (n : Nat), ∀ (r0 : Nat) (a1 : Int32) (a2 : Int32) (a3 : Int32) (a4 : Int32) (a5 : Int32) (a6 : Int64) (a8 : Int64) (a10 : Int32) (a11 : Int64) (a13 : Int32) (h : zH) (H : Heap) (locs : List Loc) (ls : Array Slot), f_X8_moles_b136 k111 n r0 a1 a2 a3 a4 a5 a6 a8 a10 a11 a13 h = some z → zG D dA b0 s.heap h H locs → lv_has ls 16 [(0, .ref (b0 + r0)), (1, .int a1), (2, .int a2), (3, .int a3), (4, .int a4), (5, .int a5), (6, .long a6), (8, .long a8), (10, .int a10), (11, .long a11), (13, .int a13)] → W p l e rmX8_moles s m args below meth c H locs 0 0 (MQ below (zQ D dA b0 (some (.int z.1)) z.2) args s 0 0 (zA b0)) (F0 m 136 ls []) := by
  intro n
  induction n with
  | zero =>
    intro r0 a1 a2 a3 a4 a5 a6 a8 a10 a11 a13 h H locs ls hf
    cases hf
  | succ n ih =>
    intro r0 a1 a2 a3 a4 a5 a6 a8 a10 a11 a13 h H locs ls hf G hl
    rw [f_X8_moles_b136] at hf
    refine lv_iload X.1.1 X.1.2.1 dX8_moles_136 (lv_at hl 10 rfl) ?_
    refine lv_aload_n X.1.1 X.1.2.1 dX8_moles_138 rfl (lv_at hl 0 rfl) ?_
    refine zgetR (ci := 8) (k := 4) (C := RX8) (T := TX8) (N := 24) X G rfl inX8_moles_X8 (Nat.le_of_ble_eq_true rfl) flX8_moles_19 dX8_moles_139 hf (fun v1 hf => ?_)
    refine lv_iconst (v := 0) X.1.1 X.1.2.1 dX8_moles_142 (by decide) ?_
    refine ziald X G dX8_moles_143 hf (fun v2 hf => ?_)
    refine zic_ge (tgt := 220) X dX8_moles_144 (by decide) hf (fun hf => ?_) (fun hf => ?_)
    · refine lv_aload_n X.1.1 X.1.2.1 dX8_moles_220 rfl (lv_at hl 0 rfl) ?_
      refine lv_iload_n X.1.1 X.1.2.1 dX8_moles_221 rfl (lv_at hl 1 rfl) ?_
      obtain ⟨hk, hf⟩ := zck hf
      obtain ⟨q3, eq3, hf⟩ := Option.bind_eq_some_iff.mp hf
      refine zcV0 (As := [.int a1]) (rest := []) (v := none) (h' := q3) X G (rfl : vwCl[8]? = some (RX8, TX8, 24)) hk (m_X8_go l D dA b0 r0 a1 h q3 eq3) (cwV 1 X.1.2.2.2.2 gX8_moles_X8_go rfl rfl rfl hdV_X8_go ⟨(Nat.le_of_ble_eq_true rfl), (Nat.le_of_ble_eq_true rfl)⟩) rfl hl.1 rfl (Nat.le_of_ble_eq_true rfl) dX8_moles_222 ⟨Nat.zero_le _, Nat.zero_le _⟩ (fun H locs G => ?_)
      refine lv_lload X.1.1 X.1.2.1 dX8_moles_225 (lv_at hl 6 rfl) ?_
      refine lv_aload_n X.1.1 X.1.2.1 dX8_moles_227 rfl (lv_at hl 0 rfl) ?_
      refine zgetR (ci := 8) (k := 6) (C := RX8) (T := TX8) (N := 24) X G rfl inX8_moles_X8 (Nat.le_of_ble_eq_true rfl) flX8_moles_25 dX8_moles_228 hf (fun v4 hf => ?_)
      obtain ⟨q5, eq5, hf⟩ := Option.bind_eq_some_iff.mp hf
      refine zcS0 (As := [.ref (b0 + v4)]) (rest := [.long a6]) (v := (some (.int q5))) (h' := q3) X G (m_X8_upOf l D dA b0 v4 q3 q5 eq5) (va_cwS 1 X.1.2.2.2.2 gX8_moles_X8_upOf rfl rfl rfl hdS_X8_upOf ⟨(Nat.le_of_ble_eq_true rfl), (Nat.le_of_ble_eq_true rfl)⟩) rfl hl.1 rfl (Nat.le_of_ble_eq_true rfl) dX8_moles_231 ⟨Nat.zero_le _, Nat.zero_le _⟩ (fun H locs G => ?_)
      refine lv_iload X.1.1 X.1.2.1 dX8_moles_234 (lv_at hl 4 rfl) ?_
      refine zic_ne (tgt := 244) X dX8_moles_236 (by decide) hf (fun hf => ?_) (fun hf => ?_)
      · refine lv_lconst (v := 0) X.1.1 X.1.2.1 dX8_moles_244 (by decide) ?_
        exact w_X8_moles_b245 X hr hlk _ hk111 _ _ _ _ _ _ _ _ _ _ _ _ _ _ hf G (lv_sub hl [0, 1, 2, 3, 4, 5, 7, 8] rfl)
      · refine lv_lload X.1.1 X.1.2.1 dX8_moles_239 (lv_at hl 9 rfl) ?_
        refine lv_goto (tgt := 245) X.1.1 X.1.2.1 dX8_moles_241 (by decide) ?_
        exact w_X8_moles_b245 X hr hlk _ hk111 _ _ _ _ _ _ _ _ _ _ _ _ _ _ hf G (lv_sub hl [0, 1, 2, 3, 4, 5, 7, 8] rfl)
    · refine lv_lload X.1.1 X.1.2.1 dX8_moles_147 (lv_at hl 9 rfl) ?_
      refine lv_iload X.1.1 X.1.2.1 dX8_moles_149 (lv_at hl 4 rfl) ?_
      refine lv_iload X.1.1 X.1.2.1 dX8_moles_151 (lv_at hl 10 rfl) ?_
      obtain ⟨q6, eq6, hf⟩ := Option.bind_eq_some_iff.mp hf
      refine zcS0 (As := [.int a4, .int a13]) (rest := [.long a11]) (v := (some (.int q6))) (h' := h) X G (m_X8_has l D dA b0 a4 a13 h q6 eq6) (va_cwS 2 X.1.2.2.2.2 gX8_moles_X8_has rfl rfl rfl hdS_X8_has ⟨(Nat.le_of_ble_eq_true rfl), (Nat.le_of_ble_eq_true rfl)⟩) rfl hl.1 rfl (Nat.le_of_ble_eq_true rfl) dX8_moles_153 ⟨Nat.zero_le _, Nat.zero_le _⟩ (fun H locs G => ?_)
      refine zif_eq (tgt := 163) X dX8_moles_156 (by decide) hf (fun hf => ?_) (fun hf => ?_)
      · refine lv_iload X.1.1 X.1.2.1 dX8_moles_163 (lv_at hl 8 rfl) ?_
        refine lv_iload X.1.1 X.1.2.1 dX8_moles_165 (lv_at hl 10 rfl) ?_
        obtain ⟨q7, eq7, hf⟩ := Option.bind_eq_some_iff.mp hf
        refine zcS0 (As := [.int a10, .int a13]) (rest := [.long a11]) (v := (some (.int q7))) (h' := h) X G (m_X8_has l D dA b0 a10 a13 h q7 eq7) (va_cwS 2 X.1.2.2.2.2 gX8_moles_X8_has rfl rfl rfl hdS_X8_has ⟨(Nat.le_of_ble_eq_true rfl), (Nat.le_of_ble_eq_true rfl)⟩) rfl hl.1 rfl (Nat.le_of_ble_eq_true rfl) dX8_moles_167 ⟨Nat.zero_le _, Nat.zero_le _⟩ (fun H locs G => ?_)
        refine zif_eq (tgt := 178) X dX8_moles_170 (by decide) hf (fun hf => ?_) (fun hf => ?_)
        · refine lv_bipush (v := 10) X.1.1 X.1.2.1 dX8_moles_178 (by decide) ?_
          refine lv_iload_n X.1.1 X.1.2.1 dX8_moles_180 rfl (lv_at hl 2 rfl) ?_
          refine lv_isub X.1.1 X.1.2.1 dX8_moles_181 ?_
          refine lv_i2l X.1.1 X.1.2.1 dX8_moles_182 rfl ?_
          exact w_X8_moles_b183 X hr hlk _ hk111 _ ih _ _ _ _ _ _ _ _ _ _ _ _ _ _ _ _ hf G (lv_sub hl [0, 1, 2, 3, 4, 5, 6, 7, 8, 10] rfl)
        · refine lv_iload_n X.1.1 X.1.2.1 dX8_moles_173 rfl (lv_at hl 2 rfl) ?_
          refine lv_i2l X.1.1 X.1.2.1 dX8_moles_174 rfl ?_
          refine lv_goto (tgt := 183) X.1.1 X.1.2.1 dX8_moles_175 (by decide) ?_
          exact w_X8_moles_b183 X hr hlk _ hk111 _ ih _ _ _ _ _ _ _ _ _ _ _ _ _ _ _ _ hf G (lv_sub hl [0, 1, 2, 3, 4, 5, 6, 7, 8, 10] rfl)
      · refine lv_lconst (v := 1) X.1.1 X.1.2.1 dX8_moles_159 (by decide) ?_
        refine lv_goto (tgt := 183) X.1.1 X.1.2.1 dX8_moles_160 (by decide) ?_
        exact w_X8_moles_b183 X hr hlk _ hk111 _ ih _ _ _ _ _ _ _ _ _ _ _ _ _ _ _ _ hf G (lv_sub hl [0, 1, 2, 3, 4, 5, 6, 7, 8, 10] rfl)
set_option maxHeartbeats 4000000 in
set_option maxRecDepth 100000 in
theorem w_X8_moles_b111 {p : Program} {l : Launch} {e : Env} {s : State} {m : MethodId} {args : Array Value} {below : List Frame} {meth : Method} {c : Code} {D : va_G} {dA : Nat → ClassId} {b0 : Nat} (X : zX p s m args c cX8_moles 16 RX8 wsX8_moles D dA) (hr : meth.sig.returnType = (some .int)) (hlk : meth.locks = false) {z : Int32 × zH} : ∀ (n : Nat), ∀ (r0 : Nat) (a1 : Int32) (a2 : Int32) (a3 : Int32) (a4 : Int32) (a5 : Int32) (a6 : Int64) (a8 : Int64) (a10 : Int32) (h : zH) (H : Heap) (locs : List Loc) (ls : Array Slot), f_X8_moles_b111 n r0 a1 a2 a3 a4 a5 a6 a8 a10 h = some z → zG D dA b0 s.heap h H locs → lv_has ls 16 [(0, .ref (b0 + r0)), (1, .int a1), (2, .int a2), (3, .int a3), (4, .int a4), (5, .int a5), (6, .long a6), (8, .long a8), (10, .int a10)] → W p l e rmX8_moles s m args below meth c H locs 0 0 (MQ below (zQ D dA b0 (some (.int z.1)) z.2) args s 0 0 (zA b0)) (F0 m 111 ls []) := by
  intro n
  induction n with
  | zero =>
    intro r0 a1 a2 a3 a4 a5 a6 a8 a10 h H locs ls hf
    cases hf
  | succ n ih =>
    intro r0 a1 a2 a3 a4 a5 a6 a8 a10 h H locs ls hf G hl
    rw [f_X8_moles_b111] at hf
    refine lv_iload X.1.1 X.1.2.1 dX8_moles_111 (lv_at hl 8 rfl) ?_
    refine lv_iload X.1.1 X.1.2.1 dX8_moles_113 (lv_at hl 5 rfl) ?_
    refine zic_gt (tgt := 254) X dX8_moles_115 (by decide) hf (fun hf => ?_) (fun hf => ?_)
    · refine lv_lload X.1.1 X.1.2.1 dX8_moles_254 (lv_at hl 6 rfl) ?_
      refine lv_lstore (lv' := [(10, .long a6), (0, .ref (b0 + r0)), (1, .int a1), (2, .int a2), (3, .int a3), (4, .int a4), (5, .int a5), (6, .long a6), (8, .long a8)]) X.1.1 X.1.2.1 dX8_moles_256 hl (by decide) rfl (fun ls hl => ?_)
      refine lv_lload X.1.1 X.1.2.1 dX8_moles_258 (lv_at hl 8 rfl) ?_
      refine lv_lstore (lv' := [(12, .long a8), (10, .long a6), (0, .ref (b0 + r0)), (1, .int a1), (2, .int a2), (3, .int a3), (4, .int a4), (5, .int a5), (6, .long a6), (8, .long a8)]) X.1.1 X.1.2.1 dX8_moles_260 hl (by decide) rfl (fun ls hl => ?_)
      exact w_X8_moles_b262 X hr hlk _ _ _ _ _ _ _ _ _ _ hf G (lv_sub hl [5, 8, 9, 1, 0] rfl)
    · refine lv_iload X.1.1 X.1.2.1 dX8_moles_118 (lv_at hl 8 rfl) ?_
      refine lv_iload X.1.1 X.1.2.1 dX8_moles_120 (lv_at hl 4 rfl) ?_
      refine lv_iand X.1.1 X.1.2.1 dX8_moles_122 ?_
      refine zif_ne (tgt := 248) X dX8_moles_123 (by decide) hf (fun hf => ?_) (fun hf => ?_)
      · refine lv_iinc (v := (a10 + (1 : Int32))) (lv' := [(10, .int (a10 + (1 : Int32))), (0, .ref (b0 + r0)), (1, .int a1), (2, .int a2), (3, .int a3), (4, .int a4), (5, .int a5), (6, .long a6), (8, .long a8)]) X.1.1 X.1.2.1 dX8_moles_248 hl (k := 8) rfl rfl (by decide) rfl (fun ls hl => ?_)
        refine lv_goto (tgt := 111) X.1.1 X.1.2.1 dX8_moles_251 (by decide) ?_
        exact ih _ _ _ _ _ _ _ _ _ _ _ _ _ hf G (lv_sub hl [1, 2, 3, 4, 5, 6, 7, 8, 0] rfl)
      · refine lv_aload_n X.1.1 X.1.2.1 dX8_moles_126 rfl (lv_at hl 0 rfl) ?_
        obtain ⟨hk, hf⟩ := zck hf
        obtain ⟨q1, eq1, hf⟩ := Option.bind_eq_some_iff.mp hf
        refine zcV0 (As := []) (rest := []) (v := none) (h' := q1) X G (rfl : vwCl[8]? = some (RX8, TX8, 24)) hk (m_X8_layAside l D dA b0 r0 h q1 eq1) (cwV 0 X.1.2.2.2.2 gX8_moles_X8_layAside rfl rfl rfl hdV_X8_layAside ⟨(Nat.le_of_ble_eq_true rfl), (Nat.le_of_ble_eq_true rfl)⟩) rfl hl.1 rfl (Nat.le_of_ble_eq_true rfl) dX8_moles_127 ⟨Nat.zero_le _, Nat.zero_le _⟩ (fun H locs G => ?_)
        refine lv_lconst (v := 1) X.1.1 X.1.2.1 dX8_moles_130 (by decide) ?_
        refine lv_lstore (lv' := [(11, .long (1 : Int64)), (0, .ref (b0 + r0)), (1, .int a1), (2, .int a2), (3, .int a3), (4, .int a4), (5, .int a5), (6, .long a6), (8, .long a8), (10, .int a10)]) X.1.1 X.1.2.1 dX8_moles_131 hl (by decide) rfl (fun ls hl => ?_)
        refine lv_iconst (v := 0) X.1.1 X.1.2.1 dX8_moles_133 (by decide) ?_
        refine lv_istore (lv' := [(13, .int (0 : Int32)), (11, .long (1 : Int64)), (0, .ref (b0 + r0)), (1, .int a1), (2, .int a2), (3, .int a3), (4, .int a4), (5, .int a5), (6, .long a6), (8, .long a8), (10, .int a10)]) X.1.1 X.1.2.1 dX8_moles_134 hl (by decide) rfl (fun ls hl => ?_)
        exact w_X8_moles_b136 X hr hlk _ ih _ _ _ _ _ _ _ _ _ _ _ _ _ _ _ _ hf G (lv_sub hl [2, 3, 4, 5, 6, 7, 8, 9, 10, 1, 0] rfl)
set_option maxHeartbeats 4000000 in
set_option maxRecDepth 100000 in
theorem w_X8_moles_b99 {p : Program} {l : Launch} {e : Env} {s : State} {m : MethodId} {args : Array Value} {below : List Frame} {meth : Method} {c : Code} {D : va_G} {dA : Nat → ClassId} {b0 : Nat} (X : zX p s m args c cX8_moles 16 RX8 wsX8_moles D dA) (hr : meth.sig.returnType = (some .int)) (hlk : meth.locks = false) {z : Int32 × zH} (k69 : Nat → Int32 → Int32 → Int32 → Int32 → Int32 → Int64 → Int64 → Int32 → zH → Option (Int32 × zH)) (hk69 : ∀ (r0 : Nat) (a1 : Int32) (a2 : Int32) (a3 : Int32) (a4 : Int32) (a5 : Int32) (a6 : Int64) (a8 : Int64) (a10 : Int32) (h : zH) (H : Heap) (locs : List Loc) (ls : Array Slot), k69 r0 a1 a2 a3 a4 a5 a6 a8 a10 h = some z → zG D dA b0 s.heap h H locs → lv_has ls 16 [(0, .ref (b0 + r0)), (1, .int a1), (2, .int a2), (3, .int a3), (4, .int a4), (5, .int a5), (6, .long a6), (8, .long a8), (10, .int a10)] → W p l e rmX8_moles s m args below meth c H locs 0 0 (MQ below (zQ D dA b0 (some (.int z.1)) z.2) args s 0 0 (zA b0)) (F0 m 69 ls [])) : ∀ (r0 : Nat) (a1 : Int32) (a2 : Int32) (a3 : Int32) (a4 : Int32) (a5 : Int32) (a6 : Int64) (a10 : Int32) (s0 : Int64) (s1 : Int64) (h : zH) (H : Heap) (locs : List Loc) (ls : Array Slot), f_X8_moles_b99 k69 r0 a1 a2 a3 a4 a5 a6 a10 s0 s1 h = some z → zG D dA b0 s.heap h H locs → lv_has ls 16 [(0, .ref (b0 + r0)), (1, .int a1), (2, .int a2), (3, .int a3), (4, .int a4), (5, .int a5), (6, .long a6), (10, .int a10)] → W p l e rmX8_moles s m args below meth c H locs 0 0 (MQ below (zQ D dA b0 (some (.int z.1)) z.2) args s 0 0 (zA b0)) (F0 m 99 ls [.long s1, .long s0]) := by
  intro r0 a1 a2 a3 a4 a5 a6 a10 s0 s1 h H locs ls hf G hl
  unfold f_X8_moles_b99 at hf
  refine lv_lmul X.1.1 X.1.2.1 dX8_moles_99 ?_
  refine zletl hf (fun x1 hf => ?_)
  refine lv_lstore (lv' := [(8, .long x1), (0, .ref (b0 + r0)), (1, .int a1), (2, .int a2), (3, .int a3), (4, .int a4), (5, .int a5), (6, .long a6), (10, .int a10)]) X.1.1 X.1.2.1 dX8_moles_100 hl (by decide) rfl (fun ls hl => ?_)
  refine lv_iinc (v := (a10 + (1 : Int32))) (lv' := [(10, .int (a10 + (1 : Int32))), (8, .long x1), (0, .ref (b0 + r0)), (1, .int a1), (2, .int a2), (3, .int a3), (4, .int a4), (5, .int a5), (6, .long a6)]) X.1.1 X.1.2.1 dX8_moles_102 hl (k := 8) rfl rfl (by decide) rfl (fun ls hl => ?_)
  refine lv_goto (tgt := 69) X.1.1 X.1.2.1 dX8_moles_105 (by decide) ?_
  exact hk69 _ _ _ _ _ _ _ _ _ _ _ _ _ hf G (lv_sub hl [2, 3, 4, 5, 6, 7, 8, 1, 0] rfl)
set_option maxHeartbeats 4000000 in
set_option maxRecDepth 100000 in
theorem w_X8_moles_b69 {p : Program} {l : Launch} {e : Env} {s : State} {m : MethodId} {args : Array Value} {below : List Frame} {meth : Method} {c : Code} {D : va_G} {dA : Nat → ClassId} {b0 : Nat} (X : zX p s m args c cX8_moles 16 RX8 wsX8_moles D dA) (hr : meth.sig.returnType = (some .int)) (hlk : meth.locks = false) {z : Int32 × zH} : ∀ (n : Nat), ∀ (r0 : Nat) (a1 : Int32) (a2 : Int32) (a3 : Int32) (a4 : Int32) (a5 : Int32) (a6 : Int64) (a8 : Int64) (a10 : Int32) (h : zH) (H : Heap) (locs : List Loc) (ls : Array Slot), f_X8_moles_b69 n r0 a1 a2 a3 a4 a5 a6 a8 a10 h = some z → zG D dA b0 s.heap h H locs → lv_has ls 16 [(0, .ref (b0 + r0)), (1, .int a1), (2, .int a2), (3, .int a3), (4, .int a4), (5, .int a5), (6, .long a6), (8, .long a8), (10, .int a10)] → W p l e rmX8_moles s m args below meth c H locs 0 0 (MQ below (zQ D dA b0 (some (.int z.1)) z.2) args s 0 0 (zA b0)) (F0 m 69 ls []) := by
  intro n
  induction n with
  | zero =>
    intro r0 a1 a2 a3 a4 a5 a6 a8 a10 h H locs ls hf
    cases hf
  | succ n ih =>
    intro r0 a1 a2 a3 a4 a5 a6 a8 a10 h H locs ls hf G hl
    rw [f_X8_moles_b69] at hf
    refine lv_iload X.1.1 X.1.2.1 dX8_moles_69 (lv_at hl 8 rfl) ?_
    refine lv_aload_n X.1.1 X.1.2.1 dX8_moles_71 rfl (lv_at hl 0 rfl) ?_
    refine zgetR (ci := 8) (k := 4) (C := RX8) (T := TX8) (N := 24) X G rfl inX8_moles_X8 (Nat.le_of_ble_eq_true rfl) flX8_moles_19 dX8_moles_72 hf (fun v1 hf => ?_)
    refine lv_iconst (v := 0) X.1.1 X.1.2.1 dX8_moles_75 (by decide) ?_
    refine ziald X G dX8_moles_76 hf (fun v2 hf => ?_)
    refine zic_ge (tgt := 108) X dX8_moles_77 (by decide) hf (fun hf => ?_) (fun hf => ?_)
    · refine lv_iconst (v := 0) X.1.1 X.1.2.1 dX8_moles_108 (by decide) ?_
      refine lv_istore (lv' := [(10, .int (0 : Int32)), (0, .ref (b0 + r0)), (1, .int a1), (2, .int a2), (3, .int a3), (4, .int a4), (5, .int a5), (6, .long a6), (8, .long a8)]) X.1.1 X.1.2.1 dX8_moles_109 hl (by decide) rfl (fun ls hl => ?_)
      exact w_X8_moles_b111 X hr hlk _ _ _ _ _ _ _ _ _ _ _ _ _ _ hf G (lv_sub hl [1, 2, 3, 4, 5, 6, 7, 8, 0] rfl)
    · refine lv_lload X.1.1 X.1.2.1 dX8_moles_80 (lv_at hl 7 rfl) ?_
      refine lv_iload X.1.1 X.1.2.1 dX8_moles_82 (lv_at hl 4 rfl) ?_
      refine lv_iload X.1.1 X.1.2.1 dX8_moles_84 (lv_at hl 8 rfl) ?_
      obtain ⟨q3, eq3, hf⟩ := Option.bind_eq_some_iff.mp hf
      refine zcS0 (As := [.int a4, .int a10]) (rest := [.long a8]) (v := (some (.int q3))) (h' := h) X G (m_X8_has l D dA b0 a4 a10 h q3 eq3) (va_cwS 2 X.1.2.2.2.2 gX8_moles_X8_has rfl rfl rfl hdS_X8_has ⟨(Nat.le_of_ble_eq_true rfl), (Nat.le_of_ble_eq_true rfl)⟩) rfl hl.1 rfl (Nat.le_of_ble_eq_true rfl) dX8_moles_86 ⟨Nat.zero_le _, Nat.zero_le _⟩ (fun H locs G => ?_)
      refine zif_eq (tgt := 96) X dX8_moles_89 (by decide) hf (fun hf => ?_) (fun hf => ?_)
      · refine lv_ldc2 (v := 10) X.1.1 X.1.2.1 X.1.2.2.2.1 (X.1.2.2.2.2 _ clX8_moles_227) dX8_moles_96 ?_
        exact w_X8_moles_b99 X hr hlk _ ih _ _ _ _ _ _ _ _ _ _ _ _ _ _ hf G (lv_sub hl [0, 1, 2, 3, 4, 5, 6, 8] rfl)
      · refine lv_lconst (v := 1) X.1.1 X.1.2.1 dX8_moles_92 (by decide) ?_
        refine lv_goto (tgt := 99) X.1.1 X.1.2.1 dX8_moles_93 (by decide) ?_
        exact w_X8_moles_b99 X hr hlk _ ih _ _ _ _ _ _ _ _ _ _ _ _ _ _ hf G (lv_sub hl [0, 1, 2, 3, 4, 5, 6, 8] rfl)
set_option maxHeartbeats 4000000 in
set_option maxRecDepth 100000 in
theorem m_X8_moles (l : Launch) (D : va_G) (dA : Nat → ClassId) (b0 : Nat) (r0 : Nat) (a1 : Int32) (a2 : Int32) (a3 : Int32) (h : zH) (z : Int32 × zH) (hf : f_X8_moles r0 a1 a2 a3 h = some z) : Met l yX8_moles wsX8_moles rmX8_moles (zPc D dA b0 [.ref (b0 + r0), .int a1, .int a2, .int a3] h) (zQ D dA b0 (some (.int z.1)) z.2) 0 0 (zA b0) := by
  refine Met.ofW (cc := cX8_moles) (maxL := 16) (ret := (some .int)) (by decide) rfl ?_
  intro p e s m args below meth c s₁ B hml hv
  obtain ⟨rfl, hP, hz, hK, hN⟩ := hv
  have hr := B.returns
  have hlk := B.notSynchronized
  have X : zX p s m _ c cX8_moles 16 RX8 wsX8_moles D dA := ⟨⟨B.exec, B.bytes, hml, findClass_of_methodNamed B.named, atoms_spec (ws := wsX8_moles) B.pre⟩, hK, hN⟩
  have G : zG D dA b0 s.heap h s.heap [] := ⟨hP, hz, va_S.rf⟩
  have hl := lv_entry ([.ref (b0 + r0), .int a1, .int a2, .int a3]) (n := 16) (Nat.le_of_ble_eq_true rfl)
  rw [lg_entry_eq]
  generalize (lg_sl ([.ref (b0 + r0), .int a1, .int a2, .int a3]) ++ List.replicate (16 - (lg_sl ([.ref (b0 + r0), .int a1, .int a2, .int a3])).length) Slot.unset).toArray = ls at hl ⊢
  have hl : lv_has ls 16 [(0, .ref (b0 + r0)), (1, .int a1), (2, .int a2), (3, .int a3)] := hl
  unfold f_X8_moles at hf
  refine lv_aload_n X.1.1 X.1.2.1 dX8_moles_0 rfl (lv_at hl 0 rfl) ?_
  obtain ⟨hk, hf⟩ := zck hf
  obtain ⟨q1, eq1, hf⟩ := Option.bind_eq_some_iff.mp hf
  refine zcV0 (As := []) (rest := []) (v := (some (.int q1))) (h' := h) X G (rfl : vwCl[8]? = some (RX8, TX8, 24)) hk (m_X8_isMine l D dA b0 r0 h q1 eq1) (cwV 0 X.1.2.2.2.2 gX8_moles_X8_isMine rfl rfl rfl hdV_X8_isMine ⟨(Nat.le_of_ble_eq_true rfl), (Nat.le_of_ble_eq_true rfl)⟩) rfl hl.1 rfl (Nat.le_of_ble_eq_true rfl) dX8_moles_1 ⟨Nat.zero_le _, Nat.zero_le _⟩ (fun H locs G => ?_)
  refine zif_ne (tgt := 10) X dX8_moles_4 (by decide) hf (fun hf => ?_) (fun hf => ?_)
  · refine lv_iload_n X.1.1 X.1.2.1 dX8_moles_10 rfl (lv_at hl 1 rfl) ?_
    obtain ⟨q2, eq2, hf⟩ := Option.bind_eq_some_iff.mp hf
    refine zcS0 (As := [.int a1]) (rest := []) (v := (some (.int q2))) (h' := h) X G (m_X8_isSpan l D dA b0 a1 h q2 eq2) (va_cwS 1 X.1.2.2.2.2 gX8_moles_X8_isSpan rfl rfl rfl hdS_X8_isSpan ⟨(Nat.le_of_ble_eq_true rfl), (Nat.le_of_ble_eq_true rfl)⟩) rfl hl.1 rfl (Nat.le_of_ble_eq_true rfl) dX8_moles_11 ⟨Nat.zero_le _, Nat.zero_le _⟩ (fun H locs G => ?_)
    refine zif_eq (tgt := 36) X dX8_moles_14 (by decide) hf (fun hf => ?_) (fun hf => ?_)
    · refine lv_ldc (v := -1000001) X.1.1 X.1.2.1 X.1.2.2.2.1 (X.1.2.2.2.2 _ coX8_moles_70) dX8_moles_36 ?_
      exact zretI X hr hlk G hf dX8_moles_38
    · refine lv_iload_n X.1.1 X.1.2.1 dX8_moles_17 rfl (lv_at hl 2 rfl) ?_
      refine lv_i2l X.1.1 X.1.2.1 dX8_moles_18 rfl ?_
      refine lv_lconst (v := 0) X.1.1 X.1.2.1 dX8_moles_19 (by decide) ?_
      refine lv_ldc2 (v := 10) X.1.1 X.1.2.1 X.1.2.2.2.1 (X.1.2.2.2.2 _ clX8_moles_227) dX8_moles_20 ?_
      obtain ⟨q3, eq3, hf⟩ := Option.bind_eq_some_iff.mp hf
      refine zcS0 (As := [.long (Int32.toInt64 a2), .long (0 : Int64), .long (10 : Int64)]) (rest := []) (v := (some (.int q3))) (h' := h) X G (m_X8_in l D dA b0 ((Int32.toInt64 a2)) (0 : Int64) (10 : Int64) h q3 eq3) (va_cwS 3 X.1.2.2.2.2 gX8_moles_X8_in rfl rfl rfl hdS_X8_in ⟨(Nat.le_of_ble_eq_true rfl), (Nat.le_of_ble_eq_true rfl)⟩) rfl hl.1 rfl (Nat.le_of_ble_eq_true rfl) dX8_moles_23 ⟨Nat.zero_le _, Nat.zero_le _⟩ (fun H locs G => ?_)
      refine zif_eq (tgt := 36) X dX8_moles_26 (by decide) hf (fun hf => ?_) (fun hf => ?_)
      · refine lv_ldc (v := -1000001) X.1.1 X.1.2.1 X.1.2.2.2.1 (X.1.2.2.2.2 _ coX8_moles_70) dX8_moles_36 ?_
        exact zretI X hr hlk G hf dX8_moles_38
      · refine lv_iload_n X.1.1 X.1.2.1 dX8_moles_29 rfl (lv_at hl 3 rfl) ?_
        obtain ⟨q4, eq4, hf⟩ := Option.bind_eq_some_iff.mp hf
        refine zcS0 (As := [.int a3]) (rest := []) (v := (some (.int q4))) (h' := h) X G (m_X8_isTwo l D dA b0 a3 h q4 eq4) (va_cwS 1 X.1.2.2.2.2 gX8_moles_X8_isTwo rfl rfl rfl hdS_X8_isTwo ⟨(Nat.le_of_ble_eq_true rfl), (Nat.le_of_ble_eq_true rfl)⟩) rfl hl.1 rfl (Nat.le_of_ble_eq_true rfl) dX8_moles_30 ⟨Nat.zero_le _, Nat.zero_le _⟩ (fun H locs G => ?_)
        refine zif_ne (tgt := 39) X dX8_moles_33 (by decide) hf (fun hf => ?_) (fun hf => ?_)
        · refine lv_aload_n X.1.1 X.1.2.1 dX8_moles_39 rfl (lv_at hl 0 rfl) ?_
          refine zgetR (ci := 8) (k := 4) (C := RX8) (T := TX8) (N := 24) X G rfl inX8_moles_X8 (Nat.le_of_ble_eq_true rfl) flX8_moles_19 dX8_moles_40 hf (fun v5 hf => ?_)
          obtain ⟨q6, eq6, hf⟩ := Option.bind_eq_some_iff.mp hf
          refine zcS0 (As := [.ref (b0 + v5)]) (rest := []) (v := (some (.int q6))) (h' := h) X G (m_X8_upOf l D dA b0 v5 h q6 eq6) (va_cwS 1 X.1.2.2.2.2 gX8_moles_X8_upOf rfl rfl rfl hdS_X8_upOf ⟨(Nat.le_of_ble_eq_true rfl), (Nat.le_of_ble_eq_true rfl)⟩) rfl hl.1 rfl (Nat.le_of_ble_eq_true rfl) dX8_moles_43 ⟨Nat.zero_le _, Nat.zero_le _⟩ (fun H locs G => ?_)
          refine lv_istore (lv' := [(4, .int q6), (0, .ref (b0 + r0)), (1, .int a1), (2, .int a2), (3, .int a3)]) X.1.1 X.1.2.1 dX8_moles_46 hl (by decide) rfl (fun ls hl => ?_)
          refine lv_iconst (v := 1) X.1.1 X.1.2.1 dX8_moles_48 (by decide) ?_
          refine lv_aload_n X.1.1 X.1.2.1 dX8_moles_49 rfl (lv_at hl 1 rfl) ?_
          refine zgetR (ci := 8) (k := 4) (C := RX8) (T := TX8) (N := 24) X G rfl inX8_moles_X8 (Nat.le_of_ble_eq_true rfl) flX8_moles_19 dX8_moles_50 hf (fun v7 hf => ?_)
          refine lv_iconst (v := 0) X.1.1 X.1.2.1 dX8_moles_53 (by decide) ?_
          refine ziald X G dX8_moles_54 hf (fun v8 hf => ?_)
          refine lv_ishl X.1.1 X.1.2.1 dX8_moles_55 ?_
          refine lv_iconst (v := 1) X.1.1 X.1.2.1 dX8_moles_56 (by decide) ?_
          refine lv_isub X.1.1 X.1.2.1 dX8_moles_57 ?_
          refine zleti hf (fun x9 hf => ?_)
          refine lv_istore (lv' := [(5, .int x9), (4, .int q6), (0, .ref (b0 + r0)), (1, .int a1), (2, .int a2), (3, .int a3)]) X.1.1 X.1.2.1 dX8_moles_58 hl (by decide) rfl (fun ls hl => ?_)
          refine lv_lconst (v := 0) X.1.1 X.1.2.1 dX8_moles_60 (by decide) ?_
          refine lv_lstore (lv' := [(6, .long (0 : Int64)), (5, .int x9), (4, .int q6), (0, .ref (b0 + r0)), (1, .int a1), (2, .int a2), (3, .int a3)]) X.1.1 X.1.2.1 dX8_moles_61 hl (by decide) rfl (fun ls hl => ?_)
          refine lv_lconst (v := 1) X.1.1 X.1.2.1 dX8_moles_63 (by decide) ?_
          refine lv_lstore (lv' := [(8, .long (1 : Int64)), (6, .long (0 : Int64)), (5, .int x9), (4, .int q6), (0, .ref (b0 + r0)), (1, .int a1), (2, .int a2), (3, .int a3)]) X.1.1 X.1.2.1 dX8_moles_64 hl (by decide) rfl (fun ls hl => ?_)
          refine lv_iconst (v := 0) X.1.1 X.1.2.1 dX8_moles_66 (by decide) ?_
          refine lv_istore (lv' := [(10, .int (0 : Int32)), (8, .long (1 : Int64)), (6, .long (0 : Int64)), (5, .int x9), (4, .int q6), (0, .ref (b0 + r0)), (1, .int a1), (2, .int a2), (3, .int a3)]) X.1.1 X.1.2.1 dX8_moles_67 hl (by decide) rfl (fun ls hl => ?_)
          exact w_X8_moles_b69 X hr hlk _ _ _ _ _ _ _ _ _ _ _ _ _ _ hf G (lv_sub hl [5, 6, 7, 8, 4, 3, 2, 1, 0] rfl)
        · refine lv_ldc (v := -1000001) X.1.1 X.1.2.1 X.1.2.2.2.1 (X.1.2.2.2.2 _ coX8_moles_70) dX8_moles_36 ?_
          exact zretI X hr hlk G hf dX8_moles_38
  · refine lv_ldc (v := -1000002) X.1.1 X.1.2.1 X.1.2.2.2.1 (X.1.2.2.2.2 _ coX8_moles_163) dX8_moles_7 ?_
    exact zretI X hr hlk G hf dX8_moles_9
/-! X8_image -/
abbrev rmX8_image : Room := { frames := 2, cells := 0, slots := 0, locals := 45 }
theorem hdV_X8_image : yX8_image.cls = RX8 ∧ yX8_image.cls ≠ "java/lang/invoke/MethodHandle" ∧ yX8_image.cls ≠ "java/lang/invoke/VarHandle" ∧ (parseMethodDescriptor yX8_image.desc).map (fun d => d.parameters.length) = some 1 := by decide +kernel
theorem inX8_image_X8 : ∀ w ∈ wsX80, w ∈ wsX8_image := by decide +kernel
theorem flX8_image_19 : Cond.fieldLink RX8 19 (TX8 4).1 (TX8 4).2.1 (TX8 4).2.2.1 ∈ wsX8_image := by decide +kernel
theorem flX8_image_31 : Cond.fieldLink RX8 31 (TX8 9).1 (TX8 9).2.1 (TX8 9).2.2.1 ∈ wsX8_image := by decide +kernel
theorem flX8_image_34 : Cond.fieldLink RX8 34 (TX8 10).1 (TX8 10).2.1 (TX8 10).2.2.1 ∈ wsX8_image := by decide +kernel
theorem coX8_image_163 : Cond.constant RX8 163 (-1000002) ∈ wsX8_image := by decide +kernel
theorem coX8_image_70 : Cond.constant RX8 70 (-1000001) ∈ wsX8_image := by decide +kernel
set_option maxHeartbeats 4000000 in
set_option maxRecDepth 100000 in
theorem m_X8_image (l : Launch) (D : va_G) (dA : Nat → ClassId) (b0 : Nat) (r0 : Nat) (a1 : Int32) (h : zH) (z : Int32 × zH) (hf : f_X8_image r0 a1 h = some z) : Met l yX8_image wsX8_image rmX8_image (zPc D dA b0 [.ref (b0 + r0), .int a1] h) (zQ D dA b0 (some (.int z.1)) z.2) 0 0 (zA b0) := by
  refine Met.ofW (cc := cX8_image) (maxL := 2) (ret := (some .int)) (by decide) rfl ?_
  intro p e s m args below meth c s₁ B hml hv
  obtain ⟨rfl, hP, hz, hK, hN⟩ := hv
  have hr := B.returns
  have hlk := B.notSynchronized
  have X : zX p s m _ c cX8_image 2 RX8 wsX8_image D dA := ⟨⟨B.exec, B.bytes, hml, findClass_of_methodNamed B.named, atoms_spec (ws := wsX8_image) B.pre⟩, hK, hN⟩
  have G : zG D dA b0 s.heap h s.heap [] := ⟨hP, hz, va_S.rf⟩
  have hl := lv_entry ([.ref (b0 + r0), .int a1]) (n := 2) (Nat.le_of_ble_eq_true rfl)
  rw [lg_entry_eq]
  generalize (lg_sl ([.ref (b0 + r0), .int a1]) ++ List.replicate (2 - (lg_sl ([.ref (b0 + r0), .int a1])).length) Slot.unset).toArray = ls at hl ⊢
  have hl : lv_has ls 2 [(0, .ref (b0 + r0)), (1, .int a1)] := hl
  unfold f_X8_image at hf
  refine lv_iload_n X.1.1 X.1.2.1 dX8_image_0 rfl (lv_at hl 1 rfl) ?_
  obtain ⟨q1, eq1, hf⟩ := Option.bind_eq_some_iff.mp hf
  refine zcS0 (As := [.int a1]) (rest := []) (v := (some (.int q1))) (h' := h) X G (m_X8_isTwo l D dA b0 a1 h q1 eq1) (va_cwS 1 X.1.2.2.2.2 gX8_image_X8_isTwo rfl rfl rfl hdS_X8_isTwo ⟨(Nat.le_of_ble_eq_true rfl), (Nat.le_of_ble_eq_true rfl)⟩) rfl hl.1 rfl (Nat.le_of_ble_eq_true rfl) dX8_image_1 ⟨Nat.zero_le _, Nat.zero_le _⟩ (fun H locs G => ?_)
  refine zif_ne (tgt := 10) X dX8_image_4 (by decide) hf (fun hf => ?_) (fun hf => ?_)
  · refine lv_aload_n X.1.1 X.1.2.1 dX8_image_10 rfl (lv_at hl 0 rfl) ?_
    obtain ⟨hk, hf⟩ := zck hf
    obtain ⟨q2, eq2, hf⟩ := Option.bind_eq_some_iff.mp hf
    refine zcV0 (As := []) (rest := []) (v := (some (.int q2))) (h' := h) X G (rfl : vwCl[8]? = some (RX8, TX8, 24)) hk (m_X8_isMine l D dA b0 r0 h q2 eq2) (cwV 0 X.1.2.2.2.2 gX8_image_X8_isMine rfl rfl rfl hdV_X8_isMine ⟨(Nat.le_of_ble_eq_true rfl), (Nat.le_of_ble_eq_true rfl)⟩) rfl hl.1 rfl (Nat.le_of_ble_eq_true rfl) dX8_image_11 ⟨Nat.zero_le _, Nat.zero_le _⟩ (fun H locs G => ?_)
    refine zif_ne (tgt := 20) X dX8_image_14 (by decide) hf (fun hf => ?_) (fun hf => ?_)
    · refine lv_aload_n X.1.1 X.1.2.1 dX8_image_20 rfl (lv_at hl 0 rfl) ?_
      refine zgetR (ci := 8) (k := 4) (C := RX8) (T := TX8) (N := 24) X G rfl inX8_image_X8 (Nat.le_of_ble_eq_true rfl) flX8_image_19 dX8_image_21 hf (fun v3 hf => ?_)
      refine lv_iconst (v := 0) X.1.1 X.1.2.1 dX8_image_24 (by decide) ?_
      refine lv_aload_n X.1.1 X.1.2.1 dX8_image_25 rfl (lv_at hl 0 rfl) ?_
      refine zgetR (ci := 8) (k := 9) (C := RX8) (T := TX8) (N := 24) X G rfl inX8_image_X8 (Nat.le_of_ble_eq_true rfl) flX8_image_31 dX8_image_26 hf (fun v4 hf => ?_)
      refine lv_bipush (v := 30) X.1.1 X.1.2.1 dX8_image_29 (by decide) ?_
      refine lv_iload_n X.1.1 X.1.2.1 dX8_image_31 rfl (lv_at hl 1 rfl) ?_
      refine lv_imul X.1.1 X.1.2.1 dX8_image_32 ?_
      obtain ⟨q5, eq5, hf⟩ := Option.bind_eq_some_iff.mp hf
      refine zcS0 (As := [.ref (b0 + v3), .int (0 : Int32), .ref (b0 + v4), .int ((30 : Int32) * a1)]) (rest := []) (v := none) (h' := q5) X G (m_X8_copies l D dA b0 v3 (0 : Int32) v4 (((30 : Int32) * a1)) h q5 eq5) (va_cwS 4 X.1.2.2.2.2 gX8_image_X8_copies rfl rfl rfl hdS_X8_copies ⟨(Nat.le_of_ble_eq_true rfl), (Nat.le_of_ble_eq_true rfl)⟩) rfl hl.1 rfl (Nat.le_of_ble_eq_true rfl) dX8_image_33 ⟨Nat.zero_le _, Nat.zero_le _⟩ (fun H locs G => ?_)
      refine lv_aload_n X.1.1 X.1.2.1 dX8_image_36 rfl (lv_at hl 0 rfl) ?_
      refine zgetR (ci := 8) (k := 10) (C := RX8) (T := TX8) (N := 24) X G rfl inX8_image_X8 (Nat.le_of_ble_eq_true rfl) flX8_image_34 dX8_image_37 hf (fun v6 hf => ?_)
      refine lv_iload_n X.1.1 X.1.2.1 dX8_image_40 rfl (lv_at hl 1 rfl) ?_
      refine lv_iconst (v := 1) X.1.1 X.1.2.1 dX8_image_41 (by decide) ?_
      refine zzast X G dX8_image_42 hf (fun h7 H locs hf G => ?_)
      refine lv_iconst (v := 1) X.1.1 X.1.2.1 dX8_image_43 (by decide) ?_
      exact zretI X hr hlk G hf dX8_image_44
    · refine lv_ldc (v := -1000002) X.1.1 X.1.2.1 X.1.2.2.2.1 (X.1.2.2.2.2 _ coX8_image_163) dX8_image_17 ?_
      exact zretI X hr hlk G hf dX8_image_19
  · refine lv_ldc (v := -1000001) X.1.1 X.1.2.1 X.1.2.2.2.1 (X.1.2.2.2.2 _ coX8_image_70) dX8_image_7 ?_
    exact zretI X hr hlk G hf dX8_image_9
/-! X8_restore -/
abbrev rmX8_restore : Room := { frames := 2, cells := 0, slots := 0, locals := 45 }
theorem hdV_X8_restore : yX8_restore.cls = RX8 ∧ yX8_restore.cls ≠ "java/lang/invoke/MethodHandle" ∧ yX8_restore.cls ≠ "java/lang/invoke/VarHandle" ∧ (parseMethodDescriptor yX8_restore.desc).map (fun d => d.parameters.length) = some 1 := by decide +kernel
theorem inX8_restore_X8 : ∀ w ∈ wsX80, w ∈ wsX8_restore := by decide +kernel
theorem flX8_restore_34 : Cond.fieldLink RX8 34 (TX8 10).1 (TX8 10).2.1 (TX8 10).2.2.1 ∈ wsX8_restore := by decide +kernel
theorem flX8_restore_31 : Cond.fieldLink RX8 31 (TX8 9).1 (TX8 9).2.1 (TX8 9).2.2.1 ∈ wsX8_restore := by decide +kernel
theorem flX8_restore_19 : Cond.fieldLink RX8 19 (TX8 4).1 (TX8 4).2.1 (TX8 4).2.2.1 ∈ wsX8_restore := by decide +kernel
theorem flX8_restore_139 : Cond.fieldLink RX8 139 (TX8 8).1 (TX8 8).2.1 (TX8 8).2.2.1 ∈ wsX8_restore := by decide +kernel
theorem coX8_restore_163 : Cond.constant RX8 163 (-1000002) ∈ wsX8_restore := by decide +kernel
theorem coX8_restore_70 : Cond.constant RX8 70 (-1000001) ∈ wsX8_restore := by decide +kernel
set_option maxHeartbeats 4000000 in
set_option maxRecDepth 100000 in
theorem m_X8_restore (l : Launch) (D : va_G) (dA : Nat → ClassId) (b0 : Nat) (r0 : Nat) (a1 : Int32) (h : zH) (z : Int32 × zH) (hf : f_X8_restore r0 a1 h = some z) : Met l yX8_restore wsX8_restore rmX8_restore (zPc D dA b0 [.ref (b0 + r0), .int a1] h) (zQ D dA b0 (some (.int z.1)) z.2) 0 0 (zA b0) := by
  refine Met.ofW (cc := cX8_restore) (maxL := 2) (ret := (some .int)) (by decide) rfl ?_
  intro p e s m args below meth c s₁ B hml hv
  obtain ⟨rfl, hP, hz, hK, hN⟩ := hv
  have hr := B.returns
  have hlk := B.notSynchronized
  have X : zX p s m _ c cX8_restore 2 RX8 wsX8_restore D dA := ⟨⟨B.exec, B.bytes, hml, findClass_of_methodNamed B.named, atoms_spec (ws := wsX8_restore) B.pre⟩, hK, hN⟩
  have G : zG D dA b0 s.heap h s.heap [] := ⟨hP, hz, va_S.rf⟩
  have hl := lv_entry ([.ref (b0 + r0), .int a1]) (n := 2) (Nat.le_of_ble_eq_true rfl)
  rw [lg_entry_eq]
  generalize (lg_sl ([.ref (b0 + r0), .int a1]) ++ List.replicate (2 - (lg_sl ([.ref (b0 + r0), .int a1])).length) Slot.unset).toArray = ls at hl ⊢
  have hl : lv_has ls 2 [(0, .ref (b0 + r0)), (1, .int a1)] := hl
  unfold f_X8_restore at hf
  refine lv_iload_n X.1.1 X.1.2.1 dX8_restore_0 rfl (lv_at hl 1 rfl) ?_
  obtain ⟨q1, eq1, hf⟩ := Option.bind_eq_some_iff.mp hf
  refine zcS0 (As := [.int a1]) (rest := []) (v := (some (.int q1))) (h' := h) X G (m_X8_isTwo l D dA b0 a1 h q1 eq1) (va_cwS 1 X.1.2.2.2.2 gX8_restore_X8_isTwo rfl rfl rfl hdS_X8_isTwo ⟨(Nat.le_of_ble_eq_true rfl), (Nat.le_of_ble_eq_true rfl)⟩) rfl hl.1 rfl (Nat.le_of_ble_eq_true rfl) dX8_restore_1 ⟨Nat.zero_le _, Nat.zero_le _⟩ (fun H locs G => ?_)
  refine zif_ne (tgt := 10) X dX8_restore_4 (by decide) hf (fun hf => ?_) (fun hf => ?_)
  · refine lv_aload_n X.1.1 X.1.2.1 dX8_restore_10 rfl (lv_at hl 0 rfl) ?_
    refine zgetR (ci := 8) (k := 10) (C := RX8) (T := TX8) (N := 24) X G rfl inX8_restore_X8 (Nat.le_of_ble_eq_true rfl) flX8_restore_34 dX8_restore_11 hf (fun v2 hf => ?_)
    refine lv_iload_n X.1.1 X.1.2.1 dX8_restore_14 rfl (lv_at hl 1 rfl) ?_
    refine zzald X G dX8_restore_15 hf (fun v3 hf => ?_)
    refine zif_ne (tgt := 22) X dX8_restore_16 (by decide) hf (fun hf => ?_) (fun hf => ?_)
    · refine lv_aload_n X.1.1 X.1.2.1 dX8_restore_22 rfl (lv_at hl 0 rfl) ?_
      refine zgetR (ci := 8) (k := 9) (C := RX8) (T := TX8) (N := 24) X G rfl inX8_restore_X8 (Nat.le_of_ble_eq_true rfl) flX8_restore_31 dX8_restore_23 hf (fun v4 hf => ?_)
      refine lv_bipush (v := 30) X.1.1 X.1.2.1 dX8_restore_26 (by decide) ?_
      refine lv_iload_n X.1.1 X.1.2.1 dX8_restore_28 rfl (lv_at hl 1 rfl) ?_
      refine lv_imul X.1.1 X.1.2.1 dX8_restore_29 ?_
      refine lv_aload_n X.1.1 X.1.2.1 dX8_restore_30 rfl (lv_at hl 0 rfl) ?_
      refine zgetR (ci := 8) (k := 4) (C := RX8) (T := TX8) (N := 24) X G rfl inX8_restore_X8 (Nat.le_of_ble_eq_true rfl) flX8_restore_19 dX8_restore_31 hf (fun v5 hf => ?_)
      refine lv_iconst (v := 0) X.1.1 X.1.2.1 dX8_restore_34 (by decide) ?_
      obtain ⟨q6, eq6, hf⟩ := Option.bind_eq_some_iff.mp hf
      refine zcS0 (As := [.ref (b0 + v4), .int ((30 : Int32) * a1), .ref (b0 + v5), .int (0 : Int32)]) (rest := []) (v := none) (h' := q6) X G (m_X8_copies l D dA b0 v4 (((30 : Int32) * a1)) v5 (0 : Int32) h q6 eq6) (va_cwS 4 X.1.2.2.2.2 gX8_restore_X8_copies rfl rfl rfl hdS_X8_copies ⟨(Nat.le_of_ble_eq_true rfl), (Nat.le_of_ble_eq_true rfl)⟩) rfl hl.1 rfl (Nat.le_of_ble_eq_true rfl) dX8_restore_35 ⟨Nat.zero_le _, Nat.zero_le _⟩ (fun H locs G => ?_)
      refine lv_aload_n X.1.1 X.1.2.1 dX8_restore_38 rfl (lv_at hl 0 rfl) ?_
      refine lv_iconst (v := 0) X.1.1 X.1.2.1 dX8_restore_39 (by decide) ?_
      refine zputI (ci := 8) (k := 8) (C := RX8) (T := TX8) (N := 24) X G rfl inX8_restore_X8 tyX8_ok nmX8 (Nat.le_of_ble_eq_true rfl) flX8_restore_139 rfl (by decide +kernel) dX8_restore_40 hf (fun h7 H locs hf G => ?_)
      refine lv_iconst (v := 1) X.1.1 X.1.2.1 dX8_restore_43 (by decide) ?_
      exact zretI X hr hlk G hf dX8_restore_44
    · refine lv_ldc (v := -1000002) X.1.1 X.1.2.1 X.1.2.2.2.1 (X.1.2.2.2.2 _ coX8_restore_163) dX8_restore_19 ?_
      exact zretI X hr hlk G hf dX8_restore_21
  · refine lv_ldc (v := -1000001) X.1.1 X.1.2.1 X.1.2.2.2.1 (X.1.2.2.2.2 _ coX8_restore_70) dX8_restore_7 ?_
    exact zretI X hr hlk G hf dX8_restore_9
/-! X8_kind -/
abbrev rmX8_kind : Room := { frames := 2, cells := 0, slots := 0, locals := 46 }
theorem hdV_X8_kind : yX8_kind.cls = RX8 ∧ yX8_kind.cls ≠ "java/lang/invoke/MethodHandle" ∧ yX8_kind.cls ≠ "java/lang/invoke/VarHandle" ∧ (parseMethodDescriptor yX8_kind.desc).map (fun d => d.parameters.length) = some 1 := by decide +kernel
theorem coX8_kind_70 : Cond.constant RX8 70 (-1000001) ∈ wsX8_kind := by decide +kernel
theorem inX8_kind_X8 : ∀ w ∈ wsX80, w ∈ wsX8_kind := by decide +kernel
theorem flX8_kind_19 : Cond.fieldLink RX8 19 (TX8 4).1 (TX8 4).2.1 (TX8 4).2.2.1 ∈ wsX8_kind := by decide +kernel
set_option maxHeartbeats 4000000 in
set_option maxRecDepth 100000 in
theorem m_X8_kind (l : Launch) (D : va_G) (dA : Nat → ClassId) (b0 : Nat) (r0 : Nat) (a1 : Int32) (h : zH) (z : Int32) (hf : f_X8_kind r0 a1 h = some z) : Met l yX8_kind wsX8_kind rmX8_kind (zPc D dA b0 [.ref (b0 + r0), .int a1] h) (zQ D dA b0 (some (.int z)) h) 0 0 (zA b0) := by
  refine Met.ofW (cc := cX8_kind) (maxL := 2) (ret := (some .int)) (by decide) rfl ?_
  intro p e s m args below meth c s₁ B hml hv
  obtain ⟨rfl, hP, hz, hK, hN⟩ := hv
  have hr := B.returns
  have hlk := B.notSynchronized
  have X : zX p s m _ c cX8_kind 2 RX8 wsX8_kind D dA := ⟨⟨B.exec, B.bytes, hml, findClass_of_methodNamed B.named, atoms_spec (ws := wsX8_kind) B.pre⟩, hK, hN⟩
  have G : zG D dA b0 s.heap h s.heap [] := ⟨hP, hz, va_S.rf⟩
  have hl := lv_entry ([.ref (b0 + r0), .int a1]) (n := 2) (Nat.le_of_ble_eq_true rfl)
  rw [lg_entry_eq]
  generalize (lg_sl ([.ref (b0 + r0), .int a1]) ++ List.replicate (2 - (lg_sl ([.ref (b0 + r0), .int a1])).length) Slot.unset).toArray = ls at hl ⊢
  have hl : lv_has ls 2 [(0, .ref (b0 + r0)), (1, .int a1)] := hl
  unfold f_X8_kind at hf
  refine lv_aload_n X.1.1 X.1.2.1 dX8_kind_0 rfl (lv_at hl 0 rfl) ?_
  refine lv_iload_n X.1.1 X.1.2.1 dX8_kind_1 rfl (lv_at hl 1 rfl) ?_
  obtain ⟨hk, hf⟩ := zck hf
  obtain ⟨q1, eq1, hf⟩ := Option.bind_eq_some_iff.mp hf
  refine zcV0 (As := [.int a1]) (rest := []) (v := (some (.int q1))) (h' := h) X G (rfl : vwCl[8]? = some (RX8, TX8, 24)) hk (m_X8_isThing l D dA b0 r0 a1 h q1 eq1) (cwV 1 X.1.2.2.2.2 gX8_kind_X8_isThing rfl rfl rfl hdV_X8_isThing ⟨(Nat.le_of_ble_eq_true rfl), (Nat.le_of_ble_eq_true rfl)⟩) rfl hl.1 rfl (Nat.le_of_ble_eq_true rfl) dX8_kind_2 ⟨Nat.zero_le _, Nat.zero_le _⟩ (fun H locs G => ?_)
  refine zif_eq (tgt := 19) X dX8_kind_5 (by decide) hf (fun hf => ?_) (fun hf => ?_)
  · refine lv_ldc (v := -1000001) X.1.1 X.1.2.1 X.1.2.2.2.1 (X.1.2.2.2.2 _ coX8_kind_70) dX8_kind_19 ?_
    exact zretIr X hr hlk G hf dX8_kind_21
  · refine lv_aload_n X.1.1 X.1.2.1 dX8_kind_8 rfl (lv_at hl 0 rfl) ?_
    refine zgetR (ci := 8) (k := 4) (C := RX8) (T := TX8) (N := 24) X G rfl inX8_kind_X8 (Nat.le_of_ble_eq_true rfl) flX8_kind_19 dX8_kind_9 hf (fun v2 hf => ?_)
    refine lv_iconst (v := 3) X.1.1 X.1.2.1 dX8_kind_12 (by decide) ?_
    refine lv_iload_n X.1.1 X.1.2.1 dX8_kind_13 rfl (lv_at hl 1 rfl) ?_
    refine lv_iadd X.1.1 X.1.2.1 dX8_kind_14 ?_
    refine ziald X G dX8_kind_15 hf (fun v3 hf => ?_)
    refine lv_goto (tgt := 21) X.1.1 X.1.2.1 dX8_kind_16 (by decide) ?_
    exact zretIr X hr hlk G hf dX8_kind_21
/-! X8_isOf -/
abbrev rmX8_isOf : Room := { frames := 0, cells := 0, slots := 0, locals := 0 }
theorem hdS_X8_isOf : yX8_isOf.cls ≠ "java/lang/invoke/MethodHandle" ∧ yX8_isOf.cls ≠ "java/lang/invoke/VarHandle" ∧ (parseMethodDescriptor yX8_isOf.desc).map (fun d => d.parameters.length) = some 2 := by decide +kernel
set_option maxHeartbeats 4000000 in
set_option maxRecDepth 100000 in
theorem w_X8_isOf_b34 {p : Program} {l : Launch} {e : Env} {s : State} {m : MethodId} {args : Array Value} {below : List Frame} {meth : Method} {c : Code} {D : va_G} {dA : Nat → ClassId} {b0 : Nat} {h : zH} (X : zX p s m args c cX8_isOf 2 RX8 wsX8_isOf D dA) (hr : meth.sig.returnType = (some .boolean)) (hlk : meth.locks = false) {z : Int32} : ∀ (H : Heap) (locs : List Loc) (ls : Array Slot), f_X8_isOf_b34 h = some z → zG D dA b0 s.heap h H locs → lv_has ls 2 [] → W p l e rmX8_isOf s m args below meth c H locs 0 0 (MQ below (zQ D dA b0 (some (.int z)) h) args s 0 0 (zA b0)) (F0 m 34 ls []) := by
  intro  H locs ls hf G hl
  unfold f_X8_isOf_b34 at hf
  refine lv_iconst (v := 1) X.1.1 X.1.2.1 dX8_isOf_34 (by decide) ?_
  refine lv_goto (tgt := 39) X.1.1 X.1.2.1 dX8_isOf_35 (by decide) ?_
  exact zretZr X hr hlk G hf dX8_isOf_39
set_option maxHeartbeats 4000000 in
set_option maxRecDepth 100000 in
theorem w_X8_isOf_b24 {p : Program} {l : Launch} {e : Env} {s : State} {m : MethodId} {args : Array Value} {below : List Frame} {meth : Method} {c : Code} {D : va_G} {dA : Nat → ClassId} {b0 : Nat} {h : zH} (X : zX p s m args c cX8_isOf 2 RX8 wsX8_isOf D dA) (hr : meth.sig.returnType = (some .boolean)) (hlk : meth.locks = false) {z : Int32} : ∀ (a0 : Int32) (a1 : Int32) (H : Heap) (locs : List Loc) (ls : Array Slot), f_X8_isOf_b24 h a0 a1 = some z → zG D dA b0 s.heap h H locs → lv_has ls 2 [(0, .int a0), (1, .int a1)] → W p l e rmX8_isOf s m args below meth c H locs 0 0 (MQ below (zQ D dA b0 (some (.int z)) h) args s 0 0 (zA b0)) (F0 m 24 ls []) := by
  intro a0 a1 H locs ls hf G hl
  unfold f_X8_isOf_b24 at hf
  refine lv_iload_n X.1.1 X.1.2.1 dX8_isOf_24 rfl (lv_at hl 1 rfl) ?_
  refine lv_iconst (v := 4) X.1.1 X.1.2.1 dX8_isOf_25 (by decide) ?_
  refine zic_ne (tgt := 38) X dX8_isOf_26 (by decide) hf (fun hf => ?_) (fun hf => ?_)
  · refine lv_iconst (v := 0) X.1.1 X.1.2.1 dX8_isOf_38 (by decide) ?_
    exact zretZr X hr hlk G hf dX8_isOf_39
  · refine lv_iload_n X.1.1 X.1.2.1 dX8_isOf_29 rfl (lv_at hl 0 rfl) ?_
    refine lv_iconst (v := 5) X.1.1 X.1.2.1 dX8_isOf_30 (by decide) ?_
    refine zic_ne (tgt := 38) X dX8_isOf_31 (by decide) hf (fun hf => ?_) (fun hf => ?_)
    · refine lv_iconst (v := 0) X.1.1 X.1.2.1 dX8_isOf_38 (by decide) ?_
      exact zretZr X hr hlk G hf dX8_isOf_39
    · exact w_X8_isOf_b34 X hr hlk _ _ _ hf G (lv_sub hl [] rfl)
set_option maxHeartbeats 4000000 in
set_option maxRecDepth 100000 in
theorem m_X8_isOf (l : Launch) (D : va_G) (dA : Nat → ClassId) (b0 : Nat) (a0 : Int32) (a1 : Int32) (h : zH) (z : Int32) (hf : f_X8_isOf a0 a1 h = some z) : Met l yX8_isOf wsX8_isOf rmX8_isOf (zPc D dA b0 [.int a0, .int a1] h) (zQ D dA b0 (some (.int z)) h) 0 0 (zA b0) := by
  refine Met.ofW (cc := cX8_isOf) (maxL := 2) (ret := (some .boolean)) (by decide) rfl ?_
  intro p e s m args below meth c s₁ B hml hv
  obtain ⟨rfl, hP, hz, hK, hN⟩ := hv
  have hr := B.returns
  have hlk := B.notSynchronized
  have X : zX p s m _ c cX8_isOf 2 RX8 wsX8_isOf D dA := ⟨⟨B.exec, B.bytes, hml, findClass_of_methodNamed B.named, atoms_spec (ws := wsX8_isOf) B.pre⟩, hK, hN⟩
  have G : zG D dA b0 s.heap h s.heap [] := ⟨hP, hz, va_S.rf⟩
  have hl := lv_entry ([.int a0, .int a1]) (n := 2) (Nat.le_of_ble_eq_true rfl)
  rw [lg_entry_eq]
  generalize (lg_sl ([.int a0, .int a1]) ++ List.replicate (2 - (lg_sl ([.int a0, .int a1])).length) Slot.unset).toArray = ls at hl ⊢
  have hl : lv_has ls 2 [(0, .int a0), (1, .int a1)] := hl
  unfold f_X8_isOf at hf
  refine lv_iload_n X.1.1 X.1.2.1 dX8_isOf_0 rfl (lv_at hl 1 rfl) ?_
  refine zif_eq (tgt := 34) X dX8_isOf_1 (by decide) hf (fun hf => ?_) (fun hf => ?_)
  · exact w_X8_isOf_b34 X hr hlk _ _ _ hf G (lv_sub hl [] rfl)
  · refine lv_iload_n X.1.1 X.1.2.1 dX8_isOf_4 rfl (lv_at hl 0 rfl) ?_
    refine lv_iload_n X.1.1 X.1.2.1 dX8_isOf_5 rfl (lv_at hl 1 rfl) ?_
    refine zic_eq (tgt := 34) X dX8_isOf_6 (by decide) hf (fun hf => ?_) (fun hf => ?_)
    · exact w_X8_isOf_b34 X hr hlk _ _ _ hf G (lv_sub hl [] rfl)
    · refine lv_iload_n X.1.1 X.1.2.1 dX8_isOf_9 rfl (lv_at hl 1 rfl) ?_
      refine lv_iconst (v := 1) X.1.1 X.1.2.1 dX8_isOf_10 (by decide) ?_
      refine zic_ne (tgt := 24) X dX8_isOf_11 (by decide) hf (fun hf => ?_) (fun hf => ?_)
      · exact w_X8_isOf_b24 X hr hlk _ _ _ _ _ hf G hl
      · refine lv_iload_n X.1.1 X.1.2.1 dX8_isOf_14 rfl (lv_at hl 0 rfl) ?_
        refine lv_iconst (v := 2) X.1.1 X.1.2.1 dX8_isOf_15 (by decide) ?_
        refine zic_eq (tgt := 34) X dX8_isOf_16 (by decide) hf (fun hf => ?_) (fun hf => ?_)
        · exact w_X8_isOf_b34 X hr hlk _ _ _ hf G (lv_sub hl [] rfl)
        · refine lv_iload_n X.1.1 X.1.2.1 dX8_isOf_19 rfl (lv_at hl 0 rfl) ?_
          refine lv_iconst (v := 3) X.1.1 X.1.2.1 dX8_isOf_20 (by decide) ?_
          refine zic_eq (tgt := 34) X dX8_isOf_21 (by decide) hf (fun hf => ?_) (fun hf => ?_)
          · exact w_X8_isOf_b34 X hr hlk _ _ _ hf G (lv_sub hl [] rfl)
          · exact w_X8_isOf_b24 X hr hlk _ _ _ _ _ hf G hl
