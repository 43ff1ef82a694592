/-! the law -/
theorem tL_cl7 : Cond.classLink RL 7 RX7 ∈ lw_tbl := List.mem_of_getElem? (i := 59) (by decide +kernel)
theorem tL_ins_X7 : Cond.instantiable RX7 11 ∈ lw_tbl := List.mem_of_getElem? (i := 60) (by decide +kernel)
theorem tL_ini_X7 : Cond.initialized RX7 ∈ lw_tbl := List.mem_of_getElem? (i := 47) (by decide +kernel)
theorem tL_im_X7_init : Cond.instanceMethod yX7_init ∈ lw_tbl := List.mem_of_getElem? (i := 62) (by decide +kernel)
theorem tL_ml9 : Cond.methodLink RL 9 yX7_init ∈ lw_tbl := List.mem_of_getElem? (i := 61) (by decide +kernel)
theorem tL_cl10 : Cond.classLink RL 10 RX8 ∈ lw_tbl := List.mem_of_getElem? (i := 741) (by decide +kernel)
theorem tL_ins_X8 : Cond.instantiable RX8 24 ∈ lw_tbl := List.mem_of_getElem? (i := 742) (by decide +kernel)
theorem tL_ini_X8 : Cond.initialized RX8 ∈ lw_tbl := List.mem_of_getElem? (i := 55) (by decide +kernel)
theorem tL_im_X8_init : Cond.instanceMethod yX8_init ∈ lw_tbl := List.mem_of_getElem? (i := 744) (by decide +kernel)
theorem tL_ml12 : Cond.methodLink RL 12 yX8_init ∈ lw_tbl := List.mem_of_getElem? (i := 743) (by decide +kernel)
theorem inTX7 : ∀ w ∈ wsX70, w ∈ lw_tbl := zin_pl _ [275, 277, 279, 281, 283, 285, 287, 289, 291, 293, 295] (by decide +kernel)
theorem inTX8 : ∀ w ∈ wsX80, w ∈ lw_tbl := zin_pl _ [771, 773, 775, 777, 779, 781, 783, 785, 787, 789, 791, 793, 795, 797, 799, 801, 803, 805, 807, 809, 811, 813, 815, 817] (by decide +kernel)
set_option maxHeartbeats 4000000 in
set_option maxRecDepth 100000 in
theorem w_L_law_b1112 {p : Program} {l : Launch} {e : Env} {s : State} {m : MethodId} {below : List Frame} {meth : Method} {c : Code} {D : va_G} {dA : Nat → ClassId} {b0 b : Nat} {xs : Nat → Int32} {L : Nat} (X : zX p s m #[Value.ref b] c cL_law 4 RL lw_tbl D dA) (hr : meth.sig.returnType = ret) (hlk : meth.locks = false) (hX : va_X b L xs s s.heap) (hbl : b < s.heap.size) (hbb : b0 = s.heap.size) {z : Int32} (k18 : Nat → Nat → Int32 → zH → Option (Int32)) (hk18 : ∀ (r1 : Nat) (r2 : Nat) (a3 : Int32) (h : zH) (H : Heap) (locs : List Loc) (ls : Array Slot), k18 r1 r2 a3 h = some z → zG D dA b0 s.heap h H locs → lv_has ls 4 [(0, .ref b), (1, .ref (b0 + r1)), (2, .ref (b0 + r2)), (3, .int a3)] → W p l e room_1 s m #[Value.ref b] below meth c H locs 256 3202 (lw_Z below #[Value.ref b] s) (F0 m 18 ls [])) : ∀ (r1 : Nat) (r2 : Nat) (a3 : Int32) (h : zH) (H : Heap) (locs : List Loc) (ls : Array Slot), f_L_law_b1112 xs L k18 r1 r2 a3 h = some z → zG D dA b0 s.heap h H locs → lv_has ls 4 [(0, .ref b), (1, .ref (b0 + r1)), (2, .ref (b0 + r2)), (3, .int a3)] → W p l e room_1 s m #[Value.ref b] below meth c H locs 256 3202 (lw_Z below #[Value.ref b] s) (F0 m 1112 ls []) := by
  intro r1 r2 a3 h H locs ls hf G hl
  unfold f_L_law_b1112 at hf
  refine lv_iinc (v := (a3 + (6 : Int32))) (lv' := [(3, .int (a3 + (6 : Int32))), (0, .ref b), (1, .ref (b0 + r1)), (2, .ref (b0 + r2))]) X.1.1 X.1.2.1 dL_law_1112 hl (k := 3) rfl rfl (by decide) rfl (fun ls hl => ?_)
  refine lv_goto (tgt := 18) X.1.1 X.1.2.1 dL_law_1115 (by decide) ?_
  exact hk18 _ _ _ _ _ _ _ hf G (lv_sub hl [1, 2, 3, 0] rfl)
set_option maxHeartbeats 4000000 in
set_option maxRecDepth 100000 in
theorem w_L_law_b176 {p : Program} {l : Launch} {e : Env} {s : State} {m : MethodId} {below : List Frame} {meth : Method} {c : Code} {D : va_G} {dA : Nat → ClassId} {b0 b : Nat} {xs : Nat → Int32} {L : Nat} (X : zX p s m #[Value.ref b] c cL_law 4 RL lw_tbl D dA) (hr : meth.sig.returnType = ret) (hlk : meth.locks = false) (hX : va_X b L xs s s.heap) (hbl : b < s.heap.size) (hbb : b0 = s.heap.size) {z : Int32} (k18 : Nat → Nat → Int32 → zH → Option (Int32)) (hk18 : ∀ (r1 : Nat) (r2 : Nat) (a3 : Int32) (h : zH) (H : Heap) (locs : List Loc) (ls : Array Slot), k18 r1 r2 a3 h = some z → zG D dA b0 s.heap h H locs → lv_has ls 4 [(0, .ref b), (1, .ref (b0 + r1)), (2, .ref (b0 + r2)), (3, .int a3)] → W p l e room_1 s m #[Value.ref b] below meth c H locs 256 3202 (lw_Z below #[Value.ref b] s) (F0 m 18 ls [])) : ∀ (r1 : Nat) (r2 : Nat) (a3 : Int32) (h : zH) (H : Heap) (locs : List Loc) (ls : Array Slot), f_L_law_b176 xs L k18 r1 r2 a3 h = some z → zG D dA b0 s.heap h H locs → lv_has ls 4 [(0, .ref b), (1, .ref (b0 + r1)), (2, .ref (b0 + r2)), (3, .int a3)] → W p l e room_1 s m #[Value.ref b] below meth c H locs 256 3202 (lw_Z below #[Value.ref b] s) (F0 m 176 ls []) := by
  intro r1 r2 a3 h H locs ls hf G hl
  unfold f_L_law_b176 at hf
  refine lv_aload_n X.1.1 X.1.2.1 dL_law_176 rfl (lv_at hl 1 rfl) ?_
  refine lv_aload_n X.1.1 X.1.2.1 dL_law_177 rfl (lv_at hl 0 rfl) ?_
  refine lv_iload_n X.1.1 X.1.2.1 dL_law_178 rfl (lv_at hl 3 rfl) ?_
  refine lv_iconst (v := 1) X.1.1 X.1.2.1 dL_law_179 (by decide) ?_
  refine lv_iadd X.1.1 X.1.2.1 dL_law_180 ?_
  refine zsld X hX hbl hbb G dL_law_181 hf (fun v1 hf => ?_)
  refine lv_aload_n X.1.1 X.1.2.1 dL_law_182 rfl (lv_at hl 0 rfl) ?_
  refine lv_iload_n X.1.1 X.1.2.1 dL_law_183 rfl (lv_at hl 3 rfl) ?_
  refine lv_iconst (v := 2) X.1.1 X.1.2.1 dL_law_184 (by decide) ?_
  refine lv_iadd X.1.1 X.1.2.1 dL_law_185 ?_
  refine zsld X hX hbl hbb G dL_law_186 hf (fun v2 hf => ?_)
  refine lv_aload_n X.1.1 X.1.2.1 dL_law_187 rfl (lv_at hl 0 rfl) ?_
  refine lv_iload_n X.1.1 X.1.2.1 dL_law_188 rfl (lv_at hl 3 rfl) ?_
  refine lv_iconst (v := 3) X.1.1 X.1.2.1 dL_law_189 (by decide) ?_
  refine lv_iadd X.1.1 X.1.2.1 dL_law_190 ?_
  refine zsld X hX hbl hbb G dL_law_191 hf (fun v3 hf => ?_)
  obtain ⟨hk, hf⟩ := zck hf
  obtain ⟨q4, eq4, hf⟩ := Option.bind_eq_some_iff.mp hf
  refine zcV0 (As := [.int v1, .int v2, .int v3]) (rest := []) (v := (some (.int q4.1))) (h' := q4.2) X G (rfl : vwCl[7]? = some (RX7, TX7, 11)) hk (m_X7_row l D dA b0 r1 v1 v2 v3 h q4 eq4) (cwV 3 X.1.2.2.2.2 gT_X7_row rfl rfl rfl hdV_X7_row ⟨(Nat.le_of_ble_eq_true rfl), (Nat.le_of_ble_eq_true rfl)⟩) rfl hl.1 rfl (Nat.le_of_ble_eq_true rfl) dL_law_192 ⟨Nat.le_of_ble_eq_true rfl, Nat.le_of_ble_eq_true rfl⟩ (fun H locs G => ?_)
  refine lv_aload_n X.1.1 X.1.2.1 dL_law_195 rfl (lv_at hl 2 rfl) ?_
  refine lv_aload_n X.1.1 X.1.2.1 dL_law_196 rfl (lv_at hl 0 rfl) ?_
  refine lv_iload_n X.1.1 X.1.2.1 dL_law_197 rfl (lv_at hl 3 rfl) ?_
  refine lv_iconst (v := 1) X.1.1 X.1.2.1 dL_law_198 (by decide) ?_
  refine lv_iadd X.1.1 X.1.2.1 dL_law_199 ?_
  refine zsld X hX hbl hbb G dL_law_200 hf (fun v5 hf => ?_)
  refine lv_aload_n X.1.1 X.1.2.1 dL_law_201 rfl (lv_at hl 0 rfl) ?_
  refine lv_iload_n X.1.1 X.1.2.1 dL_law_202 rfl (lv_at hl 3 rfl) ?_
  refine lv_iconst (v := 2) X.1.1 X.1.2.1 dL_law_203 (by decide) ?_
  refine lv_iadd X.1.1 X.1.2.1 dL_law_204 ?_
  refine zsld X hX hbl hbb G dL_law_205 hf (fun v6 hf => ?_)
  refine lv_aload_n X.1.1 X.1.2.1 dL_law_206 rfl (lv_at hl 0 rfl) ?_
  refine lv_iload_n X.1.1 X.1.2.1 dL_law_207 rfl (lv_at hl 3 rfl) ?_
  refine lv_iconst (v := 3) X.1.1 X.1.2.1 dL_law_208 (by decide) ?_
  refine lv_iadd X.1.1 X.1.2.1 dL_law_209 ?_
  refine zsld X hX hbl hbb G dL_law_210 hf (fun v7 hf => ?_)
  obtain ⟨hk, hf⟩ := zck hf
  obtain ⟨q8, eq8, hf⟩ := Option.bind_eq_some_iff.mp hf
  refine zcV0 (As := [.int v5, .int v6, .int v7]) (rest := [.int q4.1]) (v := (some (.int q8.1))) (h' := q8.2) X G (rfl : vwCl[8]? = some (RX8, TX8, 24)) hk (m_X8_row l D dA b0 r2 v5 v6 v7 q4.2 q8 eq8) (cwV 3 X.1.2.2.2.2 gT_X8_row rfl rfl rfl hdV_X8_row ⟨(Nat.le_of_ble_eq_true rfl), (Nat.le_of_ble_eq_true rfl)⟩) rfl hl.1 rfl (Nat.le_of_ble_eq_true rfl) dL_law_211 ⟨Nat.le_of_ble_eq_true rfl, Nat.le_of_ble_eq_true rfl⟩ (fun H locs G => ?_)
  refine zic_eq (tgt := 1112) X dL_law_214 (by decide) hf (fun hf => ?_) (fun hf => ?_)
  · exact w_L_law_b1112 X hr hlk hX hbl hbb _ hk18 _ _ _ _ _ _ _ hf G hl
  · refine lv_iconst (v := 0) X.1.1 X.1.2.1 dL_law_217 (by decide) ?_
    cases hf
set_option maxHeartbeats 4000000 in
set_option maxRecDepth 100000 in
theorem w_L_law_b219 {p : Program} {l : Launch} {e : Env} {s : State} {m : MethodId} {below : List Frame} {meth : Method} {c : Code} {D : va_G} {dA : Nat → ClassId} {b0 b : Nat} {xs : Nat → Int32} {L : Nat} (X : zX p s m #[Value.ref b] c cL_law 4 RL lw_tbl D dA) (hr : meth.sig.returnType = ret) (hlk : meth.locks = false) (hX : va_X b L xs s s.heap) (hbl : b < s.heap.size) (hbb : b0 = s.heap.size) {z : Int32} (k18 : Nat → Nat → Int32 → zH → Option (Int32)) (hk18 : ∀ (r1 : Nat) (r2 : Nat) (a3 : Int32) (h : zH) (H : Heap) (locs : List Loc) (ls : Array Slot), k18 r1 r2 a3 h = some z → zG D dA b0 s.heap h H locs → lv_has ls 4 [(0, .ref b), (1, .ref (b0 + r1)), (2, .ref (b0 + r2)), (3, .int a3)] → W p l e room_1 s m #[Value.ref b] below meth c H locs 256 3202 (lw_Z below #[Value.ref b] s) (F0 m 18 ls [])) : ∀ (r1 : Nat) (r2 : Nat) (a3 : Int32) (h : zH) (H : Heap) (locs : List Loc) (ls : Array Slot), f_L_law_b219 xs L k18 r1 r2 a3 h = some z → zG D dA b0 s.heap h H locs → lv_has ls 4 [(0, .ref b), (1, .ref (b0 + r1)), (2, .ref (b0 + r2)), (3, .int a3)] → W p l e room_1 s m #[Value.ref b] below meth c H locs 256 3202 (lw_Z below #[Value.ref b] s) (F0 m 219 ls []) := by
  intro r1 r2 a3 h H locs ls hf G hl
  unfold f_L_law_b219 at hf
  refine lv_aload_n X.1.1 X.1.2.1 dL_law_219 rfl (lv_at hl 1 rfl) ?_
  refine lv_aload_n X.1.1 X.1.2.1 dL_law_220 rfl (lv_at hl 0 rfl) ?_
  refine lv_iload_n X.1.1 X.1.2.1 dL_law_221 rfl (lv_at hl 3 rfl) ?_
  refine lv_iconst (v := 1) X.1.1 X.1.2.1 dL_law_222 (by decide) ?_
  refine lv_iadd X.1.1 X.1.2.1 dL_law_223 ?_
  refine zsld X hX hbl hbb G dL_law_224 hf (fun v1 hf => ?_)
  refine lv_aload_n X.1.1 X.1.2.1 dL_law_225 rfl (lv_at hl 0 rfl) ?_
  refine lv_iload_n X.1.1 X.1.2.1 dL_law_226 rfl (lv_at hl 3 rfl) ?_
  refine lv_iconst (v := 2) X.1.1 X.1.2.1 dL_law_227 (by decide) ?_
  refine lv_iadd X.1.1 X.1.2.1 dL_law_228 ?_
  refine zsld X hX hbl hbb G dL_law_229 hf (fun v2 hf => ?_)
  refine lv_aload_n X.1.1 X.1.2.1 dL_law_230 rfl (lv_at hl 0 rfl) ?_
  refine lv_iload_n X.1.1 X.1.2.1 dL_law_231 rfl (lv_at hl 3 rfl) ?_
  refine lv_iconst (v := 3) X.1.1 X.1.2.1 dL_law_232 (by decide) ?_
  refine lv_iadd X.1.1 X.1.2.1 dL_law_233 ?_
  refine zsld X hX hbl hbb G dL_law_234 hf (fun v3 hf => ?_)
  obtain ⟨hk, hf⟩ := zck hf
  obtain ⟨q4, eq4, hf⟩ := Option.bind_eq_some_iff.mp hf
  refine zcV0 (As := [.int v1, .int v2, .int v3]) (rest := []) (v := (some (.int q4.1))) (h' := q4.2) X G (rfl : vwCl[7]? = some (RX7, TX7, 11)) hk (m_X7_set l D dA b0 r1 v1 v2 v3 h q4 eq4) (cwV 3 X.1.2.2.2.2 gT_X7_set rfl rfl rfl hdV_X7_set ⟨(Nat.le_of_ble_eq_true rfl), (Nat.le_of_ble_eq_true rfl)⟩) rfl hl.1 rfl (Nat.le_of_ble_eq_true rfl) dL_law_235 ⟨Nat.le_of_ble_eq_true rfl, Nat.le_of_ble_eq_true rfl⟩ (fun H locs G => ?_)
  refine lv_aload_n X.1.1 X.1.2.1 dL_law_238 rfl (lv_at hl 2 rfl) ?_
  refine lv_aload_n X.1.1 X.1.2.1 dL_law_239 rfl (lv_at hl 0 rfl) ?_
  refine lv_iload_n X.1.1 X.1.2.1 dL_law_240 rfl (lv_at hl 3 rfl) ?_
  refine lv_iconst (v := 1) X.1.1 X.1.2.1 dL_law_241 (by decide) ?_
  refine lv_iadd X.1.1 X.1.2.1 dL_law_242 ?_
  refine zsld X hX hbl hbb G dL_law_243 hf (fun v5 hf => ?_)
  refine lv_aload_n X.1.1 X.1.2.1 dL_law_244 rfl (lv_at hl 0 rfl) ?_
  refine lv_iload_n X.1.1 X.1.2.1 dL_law_245 rfl (lv_at hl 3 rfl) ?_
  refine lv_iconst (v := 2) X.1.1 X.1.2.1 dL_law_246 (by decide) ?_
  refine lv_iadd X.1.1 X.1.2.1 dL_law_247 ?_
  refine zsld X hX hbl hbb G dL_law_248 hf (fun v6 hf => ?_)
  refine lv_aload_n X.1.1 X.1.2.1 dL_law_249 rfl (lv_at hl 0 rfl) ?_
  refine lv_iload_n X.1.1 X.1.2.1 dL_law_250 rfl (lv_at hl 3 rfl) ?_
  refine lv_iconst (v := 3) X.1.1 X.1.2.1 dL_law_251 (by decide) ?_
  refine lv_iadd X.1.1 X.1.2.1 dL_law_252 ?_
  refine zsld X hX hbl hbb G dL_law_253 hf (fun v7 hf => ?_)
  obtain ⟨hk, hf⟩ := zck hf
  obtain ⟨q8, eq8, hf⟩ := Option.bind_eq_some_iff.mp hf
  refine zcV0 (As := [.int v5, .int v6, .int v7]) (rest := [.int q4.1]) (v := (some (.int q8.1))) (h' := q8.2) X G (rfl : vwCl[8]? = some (RX8, TX8, 24)) hk (m_X8_set l D dA b0 r2 v5 v6 v7 q4.2 q8 eq8) (cwV 3 X.1.2.2.2.2 gT_X8_set rfl rfl rfl hdV_X8_set ⟨(Nat.le_of_ble_eq_true rfl), (Nat.le_of_ble_eq_true rfl)⟩) rfl hl.1 rfl (Nat.le_of_ble_eq_true rfl) dL_law_254 ⟨Nat.le_of_ble_eq_true rfl, Nat.le_of_ble_eq_true rfl⟩ (fun H locs G => ?_)
  refine zic_eq (tgt := 1112) X dL_law_257 (by decide) hf (fun hf => ?_) (fun hf => ?_)
  · exact w_L_law_b1112 X hr hlk hX hbl hbb _ hk18 _ _ _ _ _ _ _ hf G hl
  · refine lv_iconst (v := 0) X.1.1 X.1.2.1 dL_law_260 (by decide) ?_
    cases hf
set_option maxHeartbeats 4000000 in
set_option maxRecDepth 100000 in
theorem w_L_law_b262 {p : Program} {l : Launch} {e : Env} {s : State} {m : MethodId} {below : List Frame} {meth : Method} {c : Code} {D : va_G} {dA : Nat → ClassId} {b0 b : Nat} {xs : Nat → Int32} {L : Nat} (X : zX p s m #[Value.ref b] c cL_law 4 RL lw_tbl D dA) (hr : meth.sig.returnType = ret) (hlk : meth.locks = false) (hX : va_X b L xs s s.heap) (hbl : b < s.heap.size) (hbb : b0 = s.heap.size) {z : Int32} (k18 : Nat → Nat → Int32 → zH → Option (Int32)) (hk18 : ∀ (r1 : Nat) (r2 : Nat) (a3 : Int32) (h : zH) (H : Heap) (locs : List Loc) (ls : Array Slot), k18 r1 r2 a3 h = some z → zG D dA b0 s.heap h H locs → lv_has ls 4 [(0, .ref b), (1, .ref (b0 + r1)), (2, .ref (b0 + r2)), (3, .int a3)] → W p l e room_1 s m #[Value.ref b] below meth c H locs 256 3202 (lw_Z below #[Value.ref b] s) (F0 m 18 ls [])) : ∀ (r1 : Nat) (r2 : Nat) (a3 : Int32) (h : zH) (H : Heap) (locs : List Loc) (ls : Array Slot), f_L_law_b262 xs L k18 r1 r2 a3 h = some z → zG D dA b0 s.heap h H locs → lv_has ls 4 [(0, .ref b), (1, .ref (b0 + r1)), (2, .ref (b0 + r2)), (3, .int a3)] → W p l e room_1 s m #[Value.ref b] below meth c H locs 256 3202 (lw_Z below #[Value.ref b] s) (F0 m 262 ls []) := by
  intro r1 r2 a3 h H locs ls hf G hl
  unfold f_L_law_b262 at hf
  refine lv_aload_n X.1.1 X.1.2.1 dL_law_262 rfl (lv_at hl 1 rfl) ?_
  refine lv_aload_n X.1.1 X.1.2.1 dL_law_263 rfl (lv_at hl 0 rfl) ?_
  refine lv_iload_n X.1.1 X.1.2.1 dL_law_264 rfl (lv_at hl 3 rfl) ?_
  refine lv_iconst (v := 1) X.1.1 X.1.2.1 dL_law_265 (by decide) ?_
  refine lv_iadd X.1.1 X.1.2.1 dL_law_266 ?_
  refine zsld X hX hbl hbb G dL_law_267 hf (fun v1 hf => ?_)
  refine lv_aload_n X.1.1 X.1.2.1 dL_law_268 rfl (lv_at hl 0 rfl) ?_
  refine lv_iload_n X.1.1 X.1.2.1 dL_law_269 rfl (lv_at hl 3 rfl) ?_
  refine lv_iconst (v := 2) X.1.1 X.1.2.1 dL_law_270 (by decide) ?_
  refine lv_iadd X.1.1 X.1.2.1 dL_law_271 ?_
  refine zsld X hX hbl hbb G dL_law_272 hf (fun v2 hf => ?_)
  refine lv_aload_n X.1.1 X.1.2.1 dL_law_273 rfl (lv_at hl 0 rfl) ?_
  refine lv_iload_n X.1.1 X.1.2.1 dL_law_274 rfl (lv_at hl 3 rfl) ?_
  refine lv_iconst (v := 3) X.1.1 X.1.2.1 dL_law_275 (by decide) ?_
  refine lv_iadd X.1.1 X.1.2.1 dL_law_276 ?_
  refine zsld X hX hbl hbb G dL_law_277 hf (fun v3 hf => ?_)
  refine lv_aload_n X.1.1 X.1.2.1 dL_law_278 rfl (lv_at hl 0 rfl) ?_
  refine lv_iload_n X.1.1 X.1.2.1 dL_law_279 rfl (lv_at hl 3 rfl) ?_
  refine lv_iconst (v := 4) X.1.1 X.1.2.1 dL_law_280 (by decide) ?_
  refine lv_iadd X.1.1 X.1.2.1 dL_law_281 ?_
  refine zsld X hX hbl hbb G dL_law_282 hf (fun v4 hf => ?_)
  refine lv_aload_n X.1.1 X.1.2.1 dL_law_283 rfl (lv_at hl 0 rfl) ?_
  refine lv_iload_n X.1.1 X.1.2.1 dL_law_284 rfl (lv_at hl 3 rfl) ?_
  refine lv_iconst (v := 5) X.1.1 X.1.2.1 dL_law_285 (by decide) ?_
  refine lv_iadd X.1.1 X.1.2.1 dL_law_286 ?_
  refine zsld X hX hbl hbb G dL_law_287 hf (fun v5 hf => ?_)
  obtain ⟨hk, hf⟩ := zck hf
  obtain ⟨q6, eq6, hf⟩ := Option.bind_eq_some_iff.mp hf
  refine zcV0 (As := [.int v1, .int v2, .int v3, .int v4, .int v5]) (rest := []) (v := (some (.int q6.1))) (h' := q6.2) X G (rfl : vwCl[7]? = some (RX7, TX7, 11)) hk (m_X7_copy l D dA b0 r1 v1 v2 v3 v4 v5 h q6 eq6) (cwV 5 X.1.2.2.2.2 gT_X7_copy rfl rfl rfl hdV_X7_copy ⟨(Nat.le_of_ble_eq_true rfl), (Nat.le_of_ble_eq_true rfl)⟩) rfl hl.1 rfl (Nat.le_of_ble_eq_true rfl) dL_law_288 ⟨Nat.le_of_ble_eq_true rfl, Nat.le_of_ble_eq_true rfl⟩ (fun H locs G => ?_)
  refine lv_aload_n X.1.1 X.1.2.1 dL_law_291 rfl (lv_at hl 2 rfl) ?_
  refine lv_aload_n X.1.1 X.1.2.1 dL_law_292 rfl (lv_at hl 0 rfl) ?_
  refine lv_iload_n X.1.1 X.1.2.1 dL_law_293 rfl (lv_at hl 3 rfl) ?_
  refine lv_iconst (v := 1) X.1.1 X.1.2.1 dL_law_294 (by decide) ?_
  refine lv_iadd X.1.1 X.1.2.1 dL_law_295 ?_
  refine zsld X hX hbl hbb G dL_law_296 hf (fun v7 hf => ?_)
  refine lv_aload_n X.1.1 X.1.2.1 dL_law_297 rfl (lv_at hl 0 rfl) ?_
  refine lv_iload_n X.1.1 X.1.2.1 dL_law_298 rfl (lv_at hl 3 rfl) ?_
  refine lv_iconst (v := 2) X.1.1 X.1.2.1 dL_law_299 (by decide) ?_
  refine lv_iadd X.1.1 X.1.2.1 dL_law_300 ?_
  refine zsld X hX hbl hbb G dL_law_301 hf (fun v8 hf => ?_)
  refine lv_aload_n X.1.1 X.1.2.1 dL_law_302 rfl (lv_at hl 0 rfl) ?_
  refine lv_iload_n X.1.1 X.1.2.1 dL_law_303 rfl (lv_at hl 3 rfl) ?_
  refine lv_iconst (v := 3) X.1.1 X.1.2.1 dL_law_304 (by decide) ?_
  refine lv_iadd X.1.1 X.1.2.1 dL_law_305 ?_
  refine zsld X hX hbl hbb G dL_law_306 hf (fun v9 hf => ?_)
  refine lv_aload_n X.1.1 X.1.2.1 dL_law_307 rfl (lv_at hl 0 rfl) ?_
  refine lv_iload_n X.1.1 X.1.2.1 dL_law_308 rfl (lv_at hl 3 rfl) ?_
  refine lv_iconst (v := 4) X.1.1 X.1.2.1 dL_law_309 (by decide) ?_
  refine lv_iadd X.1.1 X.1.2.1 dL_law_310 ?_
  refine zsld X hX hbl hbb G dL_law_311 hf (fun v10 hf => ?_)
  refine lv_aload_n X.1.1 X.1.2.1 dL_law_312 rfl (lv_at hl 0 rfl) ?_
  refine lv_iload_n X.1.1 X.1.2.1 dL_law_313 rfl (lv_at hl 3 rfl) ?_
  refine lv_iconst (v := 5) X.1.1 X.1.2.1 dL_law_314 (by decide) ?_
  refine lv_iadd X.1.1 X.1.2.1 dL_law_315 ?_
  refine zsld X hX hbl hbb G dL_law_316 hf (fun v11 hf => ?_)
  obtain ⟨hk, hf⟩ := zck hf
  obtain ⟨q12, eq12, hf⟩ := Option.bind_eq_some_iff.mp hf
  refine zcV0 (As := [.int v7, .int v8, .int v9, .int v10, .int v11]) (rest := [.int q6.1]) (v := (some (.int q12.1))) (h' := q12.2) X G (rfl : vwCl[8]? = some (RX8, TX8, 24)) hk (m_X8_copy l D dA b0 r2 v7 v8 v9 v10 v11 q6.2 q12 eq12) (cwV 5 X.1.2.2.2.2 gT_X8_copy rfl rfl rfl hdV_X8_copy ⟨(Nat.le_of_ble_eq_true rfl), (Nat.le_of_ble_eq_true rfl)⟩) rfl hl.1 rfl (Nat.le_of_ble_eq_true rfl) dL_law_317 ⟨Nat.le_of_ble_eq_true rfl, Nat.le_of_ble_eq_true rfl⟩ (fun H locs G => ?_)
  refine zic_eq (tgt := 1112) X dL_law_320 (by decide) hf (fun hf => ?_) (fun hf => ?_)
  · exact w_L_law_b1112 X hr hlk hX hbl hbb _ hk18 _ _ _ _ _ _ _ hf G hl
  · refine lv_iconst (v := 0) X.1.1 X.1.2.1 dL_law_323 (by decide) ?_
    cases hf
set_option maxHeartbeats 4000000 in
set_option maxRecDepth 100000 in
theorem w_L_law_b325 {p : Program} {l : Launch} {e : Env} {s : State} {m : MethodId} {below : List Frame} {meth : Method} {c : Code} {D : va_G} {dA : Nat → ClassId} {b0 b : Nat} {xs : Nat → Int32} {L : Nat} (X : zX p s m #[Value.ref b] c cL_law 4 RL lw_tbl D dA) (hr : meth.sig.returnType = ret) (hlk : meth.locks = false) (hX : va_X b L xs s s.heap) (hbl : b < s.heap.size) (hbb : b0 = s.heap.size) {z : Int32} (k18 : Nat → Nat → Int32 → zH → Option (Int32)) (hk18 : ∀ (r1 : Nat) (r2 : Nat) (a3 : Int32) (h : zH) (H : Heap) (locs : List Loc) (ls : Array Slot), k18 r1 r2 a3 h = some z → zG D dA b0 s.heap h H locs → lv_has ls 4 [(0, .ref b), (1, .ref (b0 + r1)), (2, .ref (b0 + r2)), (3, .int a3)] → W p l e room_1 s m #[Value.ref b] below meth c H locs 256 3202 (lw_Z below #[Value.ref b] s) (F0 m 18 ls [])) : ∀ (r1 : Nat) (r2 : Nat) (a3 : Int32) (h : zH) (H : Heap) (locs : List Loc) (ls : Array Slot), f_L_law_b325 xs L k18 r1 r2 a3 h = some z → zG D dA b0 s.heap h H locs → lv_has ls 4 [(0, .ref b), (1, .ref (b0 + r1)), (2, .ref (b0 + r2)), (3, .int a3)] → W p l e room_1 s m #[Value.ref b] below meth c H locs 256 3202 (lw_Z below #[Value.ref b] s) (F0 m 325 ls []) := by
  intro r1 r2 a3 h H locs ls hf G hl
  unfold f_L_law_b325 at hf
  refine lv_aload_n X.1.1 X.1.2.1 dL_law_325 rfl (lv_at hl 1 rfl) ?_
  refine lv_aload_n X.1.1 X.1.2.1 dL_law_326 rfl (lv_at hl 0 rfl) ?_
  refine lv_iload_n X.1.1 X.1.2.1 dL_law_327 rfl (lv_at hl 3 rfl) ?_
  refine lv_iconst (v := 1) X.1.1 X.1.2.1 dL_law_328 (by decide) ?_
  refine lv_iadd X.1.1 X.1.2.1 dL_law_329 ?_
  refine zsld X hX hbl hbb G dL_law_330 hf (fun v1 hf => ?_)
  obtain ⟨hk, hf⟩ := zck hf
  obtain ⟨q2, eq2, hf⟩ := Option.bind_eq_some_iff.mp hf
  refine zcV0 (As := [.int v1]) (rest := []) (v := (some (.int q2.1))) (h' := q2.2) X G (rfl : vwCl[7]? = some (RX7, TX7, 11)) hk (m_X7_drop l D dA b0 r1 v1 h q2 eq2) (cwV 1 X.1.2.2.2.2 gT_X7_drop rfl rfl rfl hdV_X7_drop ⟨(Nat.le_of_ble_eq_true rfl), (Nat.le_of_ble_eq_true rfl)⟩) rfl hl.1 rfl (Nat.le_of_ble_eq_true rfl) dL_law_331 ⟨Nat.le_of_ble_eq_true rfl, Nat.le_of_ble_eq_true rfl⟩ (fun H locs G => ?_)
  refine lv_aload_n X.1.1 X.1.2.1 dL_law_334 rfl (lv_at hl 2 rfl) ?_
  refine lv_aload_n X.1.1 X.1.2.1 dL_law_335 rfl (lv_at hl 0 rfl) ?_
  refine lv_iload_n X.1.1 X.1.2.1 dL_law_336 rfl (lv_at hl 3 rfl) ?_
  refine lv_iconst (v := 1) X.1.1 X.1.2.1 dL_law_337 (by decide) ?_
  refine lv_iadd X.1.1 X.1.2.1 dL_law_338 ?_
  refine zsld X hX hbl hbb G dL_law_339 hf (fun v3 hf => ?_)
  obtain ⟨hk, hf⟩ := zck hf
  obtain ⟨q4, eq4, hf⟩ := Option.bind_eq_some_iff.mp hf
  refine zcV0 (As := [.int v3]) (rest := [.int q2.1]) (v := (some (.int q4.1))) (h' := q4.2) X G (rfl : vwCl[8]? = some (RX8, TX8, 24)) hk (m_X8_drop l D dA b0 r2 v3 q2.2 q4 eq4) (cwV 1 X.1.2.2.2.2 gT_X8_drop rfl rfl rfl hdV_X8_drop ⟨(Nat.le_of_ble_eq_true rfl), (Nat.le_of_ble_eq_true rfl)⟩) rfl hl.1 rfl (Nat.le_of_ble_eq_true rfl) dL_law_340 ⟨Nat.le_of_ble_eq_true rfl, Nat.le_of_ble_eq_true rfl⟩ (fun H locs G => ?_)
  refine zic_eq (tgt := 1112) X dL_law_343 (by decide) hf (fun hf => ?_) (fun hf => ?_)
  · exact w_L_law_b1112 X hr hlk hX hbl hbb _ hk18 _ _ _ _ _ _ _ hf G hl
  · refine lv_iconst (v := 0) X.1.1 X.1.2.1 dL_law_346 (by decide) ?_
    cases hf
set_option maxHeartbeats 4000000 in
set_option maxRecDepth 100000 in
theorem w_L_law_b348 {p : Program} {l : Launch} {e : Env} {s : State} {m : MethodId} {below : List Frame} {meth : Method} {c : Code} {D : va_G} {dA : Nat → ClassId} {b0 b : Nat} {xs : Nat → Int32} {L : Nat} (X : zX p s m #[Value.ref b] c cL_law 4 RL lw_tbl D dA) (hr : meth.sig.returnType = ret) (hlk : meth.locks = false) (hX : va_X b L xs s s.heap) (hbl : b < s.heap.size) (hbb : b0 = s.heap.size) {z : Int32} (k18 : Nat → Nat → Int32 → zH → Option (Int32)) (hk18 : ∀ (r1 : Nat) (r2 : Nat) (a3 : Int32) (h : zH) (H : Heap) (locs : List Loc) (ls : Array Slot), k18 r1 r2 a3 h = some z → zG D dA b0 s.heap h H locs → lv_has ls 4 [(0, .ref b), (1, .ref (b0 + r1)), (2, .ref (b0 + r2)), (3, .int a3)] → W p l e room_1 s m #[Value.ref b] below meth c H locs 256 3202 (lw_Z below #[Value.ref b] s) (F0 m 18 ls [])) : ∀ (r1 : Nat) (r2 : Nat) (a3 : Int32) (h : zH) (H : Heap) (locs : List Loc) (ls : Array Slot), f_L_law_b348 xs L k18 r1 r2 a3 h = some z → zG D dA b0 s.heap h H locs → lv_has ls 4 [(0, .ref b), (1, .ref (b0 + r1)), (2, .ref (b0 + r2)), (3, .int a3)] → W p l e room_1 s m #[Value.ref b] below meth c H locs 256 3202 (lw_Z below #[Value.ref b] s) (F0 m 348 ls []) := by
  intro r1 r2 a3 h H locs ls hf G hl
  unfold f_L_law_b348 at hf
  refine lv_aload_n X.1.1 X.1.2.1 dL_law_348 rfl (lv_at hl 1 rfl) ?_
  refine lv_aload_n X.1.1 X.1.2.1 dL_law_349 rfl (lv_at hl 0 rfl) ?_
  refine lv_iload_n X.1.1 X.1.2.1 dL_law_350 rfl (lv_at hl 3 rfl) ?_
  refine lv_iconst (v := 1) X.1.1 X.1.2.1 dL_law_351 (by decide) ?_
  refine lv_iadd X.1.1 X.1.2.1 dL_law_352 ?_
  refine zsld X hX hbl hbb G dL_law_353 hf (fun v1 hf => ?_)
  obtain ⟨hk, hf⟩ := zck hf
  obtain ⟨q2, eq2, hf⟩ := Option.bind_eq_some_iff.mp hf
  refine zcV0 (As := [.int v1]) (rest := []) (v := (some (.int q2.1))) (h' := q2.2) X G (rfl : vwCl[7]? = some (RX7, TX7, 11)) hk (m_X7_feed l D dA b0 r1 v1 h q2 eq2) (cwV 1 X.1.2.2.2.2 gT_X7_feed rfl rfl rfl hdV_X7_feed ⟨(Nat.le_of_ble_eq_true rfl), (Nat.le_of_ble_eq_true rfl)⟩) rfl hl.1 rfl (Nat.le_of_ble_eq_true rfl) dL_law_354 ⟨Nat.le_of_ble_eq_true rfl, Nat.le_of_ble_eq_true rfl⟩ (fun H locs G => ?_)
  refine lv_aload_n X.1.1 X.1.2.1 dL_law_357 rfl (lv_at hl 2 rfl) ?_
  refine lv_aload_n X.1.1 X.1.2.1 dL_law_358 rfl (lv_at hl 0 rfl) ?_
  refine lv_iload_n X.1.1 X.1.2.1 dL_law_359 rfl (lv_at hl 3 rfl) ?_
  refine lv_iconst (v := 1) X.1.1 X.1.2.1 dL_law_360 (by decide) ?_
  refine lv_iadd X.1.1 X.1.2.1 dL_law_361 ?_
  refine zsld X hX hbl hbb G dL_law_362 hf (fun v3 hf => ?_)
  obtain ⟨hk, hf⟩ := zck hf
  obtain ⟨q4, eq4, hf⟩ := Option.bind_eq_some_iff.mp hf
  refine zcV0 (As := [.int v3]) (rest := [.int q2.1]) (v := (some (.int q4.1))) (h' := q4.2) X G (rfl : vwCl[8]? = some (RX8, TX8, 24)) hk (m_X8_feed l D dA b0 r2 v3 q2.2 q4 eq4) (cwV 1 X.1.2.2.2.2 gT_X8_feed rfl rfl rfl hdV_X8_feed ⟨(Nat.le_of_ble_eq_true rfl), (Nat.le_of_ble_eq_true rfl)⟩) rfl hl.1 rfl (Nat.le_of_ble_eq_true rfl) dL_law_363 ⟨Nat.le_of_ble_eq_true rfl, Nat.le_of_ble_eq_true rfl⟩ (fun H locs G => ?_)
  refine zic_eq (tgt := 1112) X dL_law_366 (by decide) hf (fun hf => ?_) (fun hf => ?_)
  · exact w_L_law_b1112 X hr hlk hX hbl hbb _ hk18 _ _ _ _ _ _ _ hf G hl
  · refine lv_iconst (v := 0) X.1.1 X.1.2.1 dL_law_369 (by decide) ?_
    cases hf
set_option maxHeartbeats 4000000 in
set_option maxRecDepth 100000 in
theorem w_L_law_b371 {p : Program} {l : Launch} {e : Env} {s : State} {m : MethodId} {below : List Frame} {meth : Method} {c : Code} {D : va_G} {dA : Nat → ClassId} {b0 b : Nat} {xs : Nat → Int32} {L : Nat} (X : zX p s m #[Value.ref b] c cL_law 4 RL lw_tbl D dA) (hr : meth.sig.returnType = ret) (hlk : meth.locks = false) (hX : va_X b L xs s s.heap) (hbl : b < s.heap.size) (hbb : b0 = s.heap.size) {z : Int32} (k18 : Nat → Nat → Int32 → zH → Option (Int32)) (hk18 : ∀ (r1 : Nat) (r2 : Nat) (a3 : Int32) (h : zH) (H : Heap) (locs : List Loc) (ls : Array Slot), k18 r1 r2 a3 h = some z → zG D dA b0 s.heap h H locs → lv_has ls 4 [(0, .ref b), (1, .ref (b0 + r1)), (2, .ref (b0 + r2)), (3, .int a3)] → W p l e room_1 s m #[Value.ref b] below meth c H locs 256 3202 (lw_Z below #[Value.ref b] s) (F0 m 18 ls [])) : ∀ (r1 : Nat) (r2 : Nat) (a3 : Int32) (h : zH) (H : Heap) (locs : List Loc) (ls : Array Slot), f_L_law_b371 xs L k18 r1 r2 a3 h = some z → zG D dA b0 s.heap h H locs → lv_has ls 4 [(0, .ref b), (1, .ref (b0 + r1)), (2, .ref (b0 + r2)), (3, .int a3)] → W p l e room_1 s m #[Value.ref b] below meth c H locs 256 3202 (lw_Z below #[Value.ref b] s) (F0 m 371 ls []) := by
  intro r1 r2 a3 h H locs ls hf G hl
  unfold f_L_law_b371 at hf
  refine lv_aload_n X.1.1 X.1.2.1 dL_law_371 rfl (lv_at hl 1 rfl) ?_
  obtain ⟨hk, hf⟩ := zck hf
  obtain ⟨q1, eq1, hf⟩ := Option.bind_eq_some_iff.mp hf
  refine zcV0 (As := []) (rest := []) (v := (some (.int q1.1))) (h' := q1.2) X G (rfl : vwCl[7]? = some (RX7, TX7, 11)) hk (m_X7_mine l D dA b0 r1 h q1 eq1) (cwV 0 X.1.2.2.2.2 gT_X7_mine rfl rfl rfl hdV_X7_mine ⟨(Nat.le_of_ble_eq_true rfl), (Nat.le_of_ble_eq_true rfl)⟩) rfl hl.1 rfl (Nat.le_of_ble_eq_true rfl) dL_law_372 ⟨Nat.le_of_ble_eq_true rfl, Nat.le_of_ble_eq_true rfl⟩ (fun H locs G => ?_)
  refine lv_aload_n X.1.1 X.1.2.1 dL_law_375 rfl (lv_at hl 2 rfl) ?_
  obtain ⟨hk, hf⟩ := zck hf
  obtain ⟨q2, eq2, hf⟩ := Option.bind_eq_some_iff.mp hf
  refine zcV0 (As := []) (rest := [.int q1.1]) (v := (some (.int q2.1))) (h' := q2.2) X G (rfl : vwCl[8]? = some (RX8, TX8, 24)) hk (m_X8_mine l D dA b0 r2 q1.2 q2 eq2) (cwV 0 X.1.2.2.2.2 gT_X8_mine rfl rfl rfl hdV_X8_mine ⟨(Nat.le_of_ble_eq_true rfl), (Nat.le_of_ble_eq_true rfl)⟩) rfl hl.1 rfl (Nat.le_of_ble_eq_true rfl) dL_law_376 ⟨Nat.le_of_ble_eq_true rfl, Nat.le_of_ble_eq_true rfl⟩ (fun H locs G => ?_)
  refine zic_eq (tgt := 1112) X dL_law_379 (by decide) hf (fun hf => ?_) (fun hf => ?_)
  · exact w_L_law_b1112 X hr hlk hX hbl hbb _ hk18 _ _ _ _ _ _ _ hf G hl
  · refine lv_iconst (v := 0) X.1.1 X.1.2.1 dL_law_382 (by decide) ?_
    cases hf
set_option maxHeartbeats 4000000 in
set_option maxRecDepth 100000 in
theorem w_L_law_b384 {p : Program} {l : Launch} {e : Env} {s : State} {m : MethodId} {below : List Frame} {meth : Method} {c : Code} {D : va_G} {dA : Nat → ClassId} {b0 b : Nat} {xs : Nat → Int32} {L : Nat} (X : zX p s m #[Value.ref b] c cL_law 4 RL lw_tbl D dA) (hr : meth.sig.returnType = ret) (hlk : meth.locks = false) (hX : va_X b L xs s s.heap) (hbl : b < s.heap.size) (hbb : b0 = s.heap.size) {z : Int32} (k18 : Nat → Nat → Int32 → zH → Option (Int32)) (hk18 : ∀ (r1 : Nat) (r2 : Nat) (a3 : Int32) (h : zH) (H : Heap) (locs : List Loc) (ls : Array Slot), k18 r1 r2 a3 h = some z → zG D dA b0 s.heap h H locs → lv_has ls 4 [(0, .ref b), (1, .ref (b0 + r1)), (2, .ref (b0 + r2)), (3, .int a3)] → W p l e room_1 s m #[Value.ref b] below meth c H locs 256 3202 (lw_Z below #[Value.ref b] s) (F0 m 18 ls [])) : ∀ (r1 : Nat) (r2 : Nat) (a3 : Int32) (h : zH) (H : Heap) (locs : List Loc) (ls : Array Slot), f_L_law_b384 xs L k18 r1 r2 a3 h = some z → zG D dA b0 s.heap h H locs → lv_has ls 4 [(0, .ref b), (1, .ref (b0 + r1)), (2, .ref (b0 + r2)), (3, .int a3)] → W p l e room_1 s m #[Value.ref b] below meth c H locs 256 3202 (lw_Z below #[Value.ref b] s) (F0 m 384 ls []) := by
  intro r1 r2 a3 h H locs ls hf G hl
  unfold f_L_law_b384 at hf
  refine lv_aload_n X.1.1 X.1.2.1 dL_law_384 rfl (lv_at hl 1 rfl) ?_
  obtain ⟨hk, hf⟩ := zck hf
  obtain ⟨q1, eq1, hf⟩ := Option.bind_eq_some_iff.mp hf
  refine zcV0 (As := []) (rest := []) (v := (some (.int q1))) (h' := h) X G (rfl : vwCl[7]? = some (RX7, TX7, 11)) hk (m_X7_fault l D dA b0 r1 h q1 eq1) (cwV 0 X.1.2.2.2.2 gT_X7_fault rfl rfl rfl hdV_X7_fault ⟨(Nat.le_of_ble_eq_true rfl), (Nat.le_of_ble_eq_true rfl)⟩) rfl hl.1 rfl (Nat.le_of_ble_eq_true rfl) dL_law_385 ⟨Nat.le_of_ble_eq_true rfl, Nat.le_of_ble_eq_true rfl⟩ (fun H locs G => ?_)
  refine lv_aload_n X.1.1 X.1.2.1 dL_law_388 rfl (lv_at hl 2 rfl) ?_
  obtain ⟨hk, hf⟩ := zck hf
  obtain ⟨q2, eq2, hf⟩ := Option.bind_eq_some_iff.mp hf
  refine zcV0 (As := []) (rest := [.int q1]) (v := (some (.int q2))) (h' := h) X G (rfl : vwCl[8]? = some (RX8, TX8, 24)) hk (m_X8_fault l D dA b0 r2 h q2 eq2) (cwV 0 X.1.2.2.2.2 gT_X8_fault rfl rfl rfl hdV_X8_fault ⟨(Nat.le_of_ble_eq_true rfl), (Nat.le_of_ble_eq_true rfl)⟩) rfl hl.1 rfl (Nat.le_of_ble_eq_true rfl) dL_law_389 ⟨Nat.le_of_ble_eq_true rfl, Nat.le_of_ble_eq_true rfl⟩ (fun H locs G => ?_)
  refine zic_eq (tgt := 1112) X dL_law_392 (by decide) hf (fun hf => ?_) (fun hf => ?_)
  · exact w_L_law_b1112 X hr hlk hX hbl hbb _ hk18 _ _ _ _ _ _ _ hf G hl
  · refine lv_iconst (v := 0) X.1.1 X.1.2.1 dL_law_395 (by decide) ?_
    cases hf
set_option maxHeartbeats 4000000 in
set_option maxRecDepth 100000 in
theorem w_L_law_b397 {p : Program} {l : Launch} {e : Env} {s : State} {m : MethodId} {below : List Frame} {meth : Method} {c : Code} {D : va_G} {dA : Nat → ClassId} {b0 b : Nat} {xs : Nat → Int32} {L : Nat} (X : zX p s m #[Value.ref b] c cL_law 4 RL lw_tbl D dA) (hr : meth.sig.returnType = ret) (hlk : meth.locks = false) (hX : va_X b L xs s s.heap) (hbl : b < s.heap.size) (hbb : b0 = s.heap.size) {z : Int32} (k18 : Nat → Nat → Int32 → zH → Option (Int32)) (hk18 : ∀ (r1 : Nat) (r2 : Nat) (a3 : Int32) (h : zH) (H : Heap) (locs : List Loc) (ls : Array Slot), k18 r1 r2 a3 h = some z → zG D dA b0 s.heap h H locs → lv_has ls 4 [(0, .ref b), (1, .ref (b0 + r1)), (2, .ref (b0 + r2)), (3, .int a3)] → W p l e room_1 s m #[Value.ref b] below meth c H locs 256 3202 (lw_Z below #[Value.ref b] s) (F0 m 18 ls [])) : ∀ (r1 : Nat) (r2 : Nat) (a3 : Int32) (h : zH) (H : Heap) (locs : List Loc) (ls : Array Slot), f_L_law_b397 xs L k18 r1 r2 a3 h = some z → zG D dA b0 s.heap h H locs → lv_has ls 4 [(0, .ref b), (1, .ref (b0 + r1)), (2, .ref (b0 + r2)), (3, .int a3)] → W p l e room_1 s m #[Value.ref b] below meth c H locs 256 3202 (lw_Z below #[Value.ref b] s) (F0 m 397 ls []) := by
  intro r1 r2 a3 h H locs ls hf G hl
  unfold f_L_law_b397 at hf
  refine lv_aload_n X.1.1 X.1.2.1 dL_law_397 rfl (lv_at hl 1 rfl) ?_
  refine lv_aload_n X.1.1 X.1.2.1 dL_law_398 rfl (lv_at hl 0 rfl) ?_
  refine lv_iload_n X.1.1 X.1.2.1 dL_law_399 rfl (lv_at hl 3 rfl) ?_
  refine lv_iconst (v := 1) X.1.1 X.1.2.1 dL_law_400 (by decide) ?_
  refine lv_iadd X.1.1 X.1.2.1 dL_law_401 ?_
  refine zsld X hX hbl hbb G dL_law_402 hf (fun v1 hf => ?_)
  obtain ⟨hk, hf⟩ := zck hf
  obtain ⟨q2, eq2, hf⟩ := Option.bind_eq_some_iff.mp hf
  refine zcV0 (As := [.int v1]) (rest := []) (v := (some (.int q2.1))) (h' := q2.2) X G (rfl : vwCl[7]? = some (RX7, TX7, 11)) hk (m_X7_years l D dA b0 r1 v1 h q2 eq2) (cwV 1 X.1.2.2.2.2 gT_X7_years rfl rfl rfl hdV_X7_years ⟨(Nat.le_of_ble_eq_true rfl), (Nat.le_of_ble_eq_true rfl)⟩) rfl hl.1 rfl (Nat.le_of_ble_eq_true rfl) dL_law_403 ⟨Nat.le_of_ble_eq_true rfl, Nat.le_of_ble_eq_true rfl⟩ (fun H locs G => ?_)
  refine lv_aload_n X.1.1 X.1.2.1 dL_law_406 rfl (lv_at hl 2 rfl) ?_
  refine lv_aload_n X.1.1 X.1.2.1 dL_law_407 rfl (lv_at hl 0 rfl) ?_
  refine lv_iload_n X.1.1 X.1.2.1 dL_law_408 rfl (lv_at hl 3 rfl) ?_
  refine lv_iconst (v := 1) X.1.1 X.1.2.1 dL_law_409 (by decide) ?_
  refine lv_iadd X.1.1 X.1.2.1 dL_law_410 ?_
  refine zsld X hX hbl hbb G dL_law_411 hf (fun v3 hf => ?_)
  obtain ⟨hk, hf⟩ := zck hf
  obtain ⟨q4, eq4, hf⟩ := Option.bind_eq_some_iff.mp hf
  refine zcV0 (As := [.int v3]) (rest := [.int q2.1]) (v := (some (.int q4.1))) (h' := q4.2) X G (rfl : vwCl[8]? = some (RX8, TX8, 24)) hk (m_X8_years l D dA b0 r2 v3 q2.2 q4 eq4) (cwV 1 X.1.2.2.2.2 gT_X8_years rfl rfl rfl hdV_X8_years ⟨(Nat.le_of_ble_eq_true rfl), (Nat.le_of_ble_eq_true rfl)⟩) rfl hl.1 rfl (Nat.le_of_ble_eq_true rfl) dL_law_412 ⟨Nat.le_of_ble_eq_true rfl, Nat.le_of_ble_eq_true rfl⟩ (fun H locs G => ?_)
  refine zic_eq (tgt := 1112) X dL_law_415 (by decide) hf (fun hf => ?_) (fun hf => ?_)
  · exact w_L_law_b1112 X hr hlk hX hbl hbb _ hk18 _ _ _ _ _ _ _ hf G hl
  · refine lv_iconst (v := 0) X.1.1 X.1.2.1 dL_law_418 (by decide) ?_
    cases hf
set_option maxHeartbeats 4000000 in
set_option maxRecDepth 100000 in
theorem w_L_law_b420 {p : Program} {l : Launch} {e : Env} {s : State} {m : MethodId} {below : List Frame} {meth : Method} {c : Code} {D : va_G} {dA : Nat → ClassId} {b0 b : Nat} {xs : Nat → Int32} {L : Nat} (X : zX p s m #[Value.ref b] c cL_law 4 RL lw_tbl D dA) (hr : meth.sig.returnType = ret) (hlk : meth.locks = false) (hX : va_X b L xs s s.heap) (hbl : b < s.heap.size) (hbb : b0 = s.heap.size) {z : Int32} (k18 : Nat → Nat → Int32 → zH → Option (Int32)) (hk18 : ∀ (r1 : Nat) (r2 : Nat) (a3 : Int32) (h : zH) (H : Heap) (locs : List Loc) (ls : Array Slot), k18 r1 r2 a3 h = some z → zG D dA b0 s.heap h H locs → lv_has ls 4 [(0, .ref b), (1, .ref (b0 + r1)), (2, .ref (b0 + r2)), (3, .int a3)] → W p l e room_1 s m #[Value.ref b] below meth c H locs 256 3202 (lw_Z below #[Value.ref b] s) (F0 m 18 ls [])) : ∀ (r1 : Nat) (r2 : Nat) (a3 : Int32) (h : zH) (H : Heap) (locs : List Loc) (ls : Array Slot), f_L_law_b420 xs L k18 r1 r2 a3 h = some z → zG D dA b0 s.heap h H locs → lv_has ls 4 [(0, .ref b), (1, .ref (b0 + r1)), (2, .ref (b0 + r2)), (3, .int a3)] → W p l e room_1 s m #[Value.ref b] below meth c H locs 256 3202 (lw_Z below #[Value.ref b] s) (F0 m 420 ls []) := by
  intro r1 r2 a3 h H locs ls hf G hl
  unfold f_L_law_b420 at hf
  refine lv_aload_n X.1.1 X.1.2.1 dL_law_420 rfl (lv_at hl 1 rfl) ?_
  refine lv_aload_n X.1.1 X.1.2.1 dL_law_421 rfl (lv_at hl 0 rfl) ?_
  refine lv_iload_n X.1.1 X.1.2.1 dL_law_422 rfl (lv_at hl 3 rfl) ?_
  refine lv_iconst (v := 1) X.1.1 X.1.2.1 dL_law_423 (by decide) ?_
  refine lv_iadd X.1.1 X.1.2.1 dL_law_424 ?_
  refine zsld X hX hbl hbb G dL_law_425 hf (fun v1 hf => ?_)
  refine lv_aload_n X.1.1 X.1.2.1 dL_law_426 rfl (lv_at hl 0 rfl) ?_
  refine lv_iload_n X.1.1 X.1.2.1 dL_law_427 rfl (lv_at hl 3 rfl) ?_
  refine lv_iconst (v := 2) X.1.1 X.1.2.1 dL_law_428 (by decide) ?_
  refine lv_iadd X.1.1 X.1.2.1 dL_law_429 ?_
  refine zsld X hX hbl hbb G dL_law_430 hf (fun v2 hf => ?_)
  refine lv_aload_n X.1.1 X.1.2.1 dL_law_431 rfl (lv_at hl 0 rfl) ?_
  refine lv_iload_n X.1.1 X.1.2.1 dL_law_432 rfl (lv_at hl 3 rfl) ?_
  refine lv_iconst (v := 3) X.1.1 X.1.2.1 dL_law_433 (by decide) ?_
  refine lv_iadd X.1.1 X.1.2.1 dL_law_434 ?_
  refine zsld X hX hbl hbb G dL_law_435 hf (fun v3 hf => ?_)
  obtain ⟨hk, hf⟩ := zck hf
  obtain ⟨q4, eq4, hf⟩ := Option.bind_eq_some_iff.mp hf
  refine zcV0 (As := [.int v1, .int v2, .int v3]) (rest := []) (v := (some (.int q4.1))) (h' := q4.2) X G (rfl : vwCl[7]? = some (RX7, TX7, 11)) hk (m_X7_bury l D dA b0 r1 v1 v2 v3 h q4 eq4) (cwV 3 X.1.2.2.2.2 gT_X7_bury rfl rfl rfl hdV_X7_bury ⟨(Nat.le_of_ble_eq_true rfl), (Nat.le_of_ble_eq_true rfl)⟩) rfl hl.1 rfl (Nat.le_of_ble_eq_true rfl) dL_law_436 ⟨Nat.le_of_ble_eq_true rfl, Nat.le_of_ble_eq_true rfl⟩ (fun H locs G => ?_)
  refine lv_aload_n X.1.1 X.1.2.1 dL_law_439 rfl (lv_at hl 2 rfl) ?_
  refine lv_aload_n X.1.1 X.1.2.1 dL_law_440 rfl (lv_at hl 0 rfl) ?_
  refine lv_iload_n X.1.1 X.1.2.1 dL_law_441 rfl (lv_at hl 3 rfl) ?_
  refine lv_iconst (v := 1) X.1.1 X.1.2.1 dL_law_442 (by decide) ?_
  refine lv_iadd X.1.1 X.1.2.1 dL_law_443 ?_
  refine zsld X hX hbl hbb G dL_law_444 hf (fun v5 hf => ?_)
  refine lv_aload_n X.1.1 X.1.2.1 dL_law_445 rfl (lv_at hl 0 rfl) ?_
  refine lv_iload_n X.1.1 X.1.2.1 dL_law_446 rfl (lv_at hl 3 rfl) ?_
  refine lv_iconst (v := 2) X.1.1 X.1.2.1 dL_law_447 (by decide) ?_
  refine lv_iadd X.1.1 X.1.2.1 dL_law_448 ?_
  refine zsld X hX hbl hbb G dL_law_449 hf (fun v6 hf => ?_)
  refine lv_aload_n X.1.1 X.1.2.1 dL_law_450 rfl (lv_at hl 0 rfl) ?_
  refine lv_iload_n X.1.1 X.1.2.1 dL_law_451 rfl (lv_at hl 3 rfl) ?_
  refine lv_iconst (v := 3) X.1.1 X.1.2.1 dL_law_452 (by decide) ?_
  refine lv_iadd X.1.1 X.1.2.1 dL_law_453 ?_
  refine zsld X hX hbl hbb G dL_law_454 hf (fun v7 hf => ?_)
  obtain ⟨hk, hf⟩ := zck hf
  obtain ⟨q8, eq8, hf⟩ := Option.bind_eq_some_iff.mp hf
  refine zcV0 (As := [.int v5, .int v6, .int v7]) (rest := [.int q4.1]) (v := (some (.int q8.1))) (h' := q8.2) X G (rfl : vwCl[8]? = some (RX8, TX8, 24)) hk (m_X8_bury l D dA b0 r2 v5 v6 v7 q4.2 q8 eq8) (cwV 3 X.1.2.2.2.2 gT_X8_bury rfl rfl rfl hdV_X8_bury ⟨(Nat.le_of_ble_eq_true rfl), (Nat.le_of_ble_eq_true rfl)⟩) rfl hl.1 rfl (Nat.le_of_ble_eq_true rfl) dL_law_455 ⟨Nat.le_of_ble_eq_true rfl, Nat.le_of_ble_eq_true rfl⟩ (fun H locs G => ?_)
  refine zic_eq (tgt := 1112) X dL_law_458 (by decide) hf (fun hf => ?_) (fun hf => ?_)
  · exact w_L_law_b1112 X hr hlk hX hbl hbb _ hk18 _ _ _ _ _ _ _ hf G hl
  · refine lv_iconst (v := 0) X.1.1 X.1.2.1 dL_law_461 (by decide) ?_
    cases hf
set_option maxHeartbeats 4000000 in
set_option maxRecDepth 100000 in
theorem w_L_law_b463 {p : Program} {l : Launch} {e : Env} {s : State} {m : MethodId} {below : List Frame} {meth : Method} {c : Code} {D : va_G} {dA : Nat → ClassId} {b0 b : Nat} {xs : Nat → Int32} {L : Nat} (X : zX p s m #[Value.ref b] c cL_law 4 RL lw_tbl D dA) (hr : meth.sig.returnType = ret) (hlk : meth.locks = false) (hX : va_X b L xs s s.heap) (hbl : b < s.heap.size) (hbb : b0 = s.heap.size) {z : Int32} (k18 : Nat → Nat → Int32 → zH → Option (Int32)) (hk18 : ∀ (r1 : Nat) (r2 : Nat) (a3 : Int32) (h : zH) (H : Heap) (locs : List Loc) (ls : Array Slot), k18 r1 r2 a3 h = some z → zG D dA b0 s.heap h H locs → lv_has ls 4 [(0, .ref b), (1, .ref (b0 + r1)), (2, .ref (b0 + r2)), (3, .int a3)] → W p l e room_1 s m #[Value.ref b] below meth c H locs 256 3202 (lw_Z below #[Value.ref b] s) (F0 m 18 ls [])) : ∀ (r1 : Nat) (r2 : Nat) (a3 : Int32) (h : zH) (H : Heap) (locs : List Loc) (ls : Array Slot), f_L_law_b463 xs L k18 r1 r2 a3 h = some z → zG D dA b0 s.heap h H locs → lv_has ls 4 [(0, .ref b), (1, .ref (b0 + r1)), (2, .ref (b0 + r2)), (3, .int a3)] → W p l e room_1 s m #[Value.ref b] below meth c H locs 256 3202 (lw_Z below #[Value.ref b] s) (F0 m 463 ls []) := by
  intro r1 r2 a3 h H locs ls hf G hl
  unfold f_L_law_b463 at hf
  refine lv_aload_n X.1.1 X.1.2.1 dL_law_463 rfl (lv_at hl 1 rfl) ?_
  refine lv_aload_n X.1.1 X.1.2.1 dL_law_464 rfl (lv_at hl 0 rfl) ?_
  refine lv_iload_n X.1.1 X.1.2.1 dL_law_465 rfl (lv_at hl 3 rfl) ?_
  refine lv_iconst (v := 1) X.1.1 X.1.2.1 dL_law_466 (by decide) ?_
  refine lv_iadd X.1.1 X.1.2.1 dL_law_467 ?_
  refine zsld X hX hbl hbb G dL_law_468 hf (fun v1 hf => ?_)
  refine lv_aload_n X.1.1 X.1.2.1 dL_law_469 rfl (lv_at hl 0 rfl) ?_
  refine lv_iload_n X.1.1 X.1.2.1 dL_law_470 rfl (lv_at hl 3 rfl) ?_
  refine lv_iconst (v := 2) X.1.1 X.1.2.1 dL_law_471 (by decide) ?_
  refine lv_iadd X.1.1 X.1.2.1 dL_law_472 ?_
  refine zsld X hX hbl hbb G dL_law_473 hf (fun v2 hf => ?_)
  refine lv_aload_n X.1.1 X.1.2.1 dL_law_474 rfl (lv_at hl 0 rfl) ?_
  refine lv_iload_n X.1.1 X.1.2.1 dL_law_475 rfl (lv_at hl 3 rfl) ?_
  refine lv_iconst (v := 3) X.1.1 X.1.2.1 dL_law_476 (by decide) ?_
  refine lv_iadd X.1.1 X.1.2.1 dL_law_477 ?_
  refine zsld X hX hbl hbb G dL_law_478 hf (fun v3 hf => ?_)
  obtain ⟨hk, hf⟩ := zck hf
  obtain ⟨q4, eq4, hf⟩ := Option.bind_eq_some_iff.mp hf
  refine zcV0 (As := [.int v1, .int v2, .int v3]) (rest := []) (v := (some (.int q4.1))) (h' := q4.2) X G (rfl : vwCl[7]? = some (RX7, TX7, 11)) hk (m_X7_tell l D dA b0 r1 v1 v2 v3 h q4 eq4) (cwV 3 X.1.2.2.2.2 gT_X7_tell rfl rfl rfl hdV_X7_tell ⟨(Nat.le_of_ble_eq_true rfl), (Nat.le_of_ble_eq_true rfl)⟩) rfl hl.1 rfl (Nat.le_of_ble_eq_true rfl) dL_law_479 ⟨Nat.le_of_ble_eq_true rfl, Nat.le_of_ble_eq_true rfl⟩ (fun H locs G => ?_)
  refine lv_aload_n X.1.1 X.1.2.1 dL_law_482 rfl (lv_at hl 2 rfl) ?_
  refine lv_aload_n X.1.1 X.1.2.1 dL_law_483 rfl (lv_at hl 0 rfl) ?_
  refine lv_iload_n X.1.1 X.1.2.1 dL_law_484 rfl (lv_at hl 3 rfl) ?_
  refine lv_iconst (v := 1) X.1.1 X.1.2.1 dL_law_485 (by decide) ?_
  refine lv_iadd X.1.1 X.1.2.1 dL_law_486 ?_
  refine zsld X hX hbl hbb G dL_law_487 hf (fun v5 hf => ?_)
  refine lv_aload_n X.1.1 X.1.2.1 dL_law_488 rfl (lv_at hl 0 rfl) ?_
  refine lv_iload_n X.1.1 X.1.2.1 dL_law_489 rfl (lv_at hl 3 rfl) ?_
  refine lv_iconst (v := 2) X.1.1 X.1.2.1 dL_law_490 (by decide) ?_
  refine lv_iadd X.1.1 X.1.2.1 dL_law_491 ?_
  refine zsld X hX hbl hbb G dL_law_492 hf (fun v6 hf => ?_)
  refine lv_aload_n X.1.1 X.1.2.1 dL_law_493 rfl (lv_at hl 0 rfl) ?_
  refine lv_iload_n X.1.1 X.1.2.1 dL_law_494 rfl (lv_at hl 3 rfl) ?_
  refine lv_iconst (v := 3) X.1.1 X.1.2.1 dL_law_495 (by decide) ?_
  refine lv_iadd X.1.1 X.1.2.1 dL_law_496 ?_
  refine zsld X hX hbl hbb G dL_law_497 hf (fun v7 hf => ?_)
  obtain ⟨hk, hf⟩ := zck hf
  obtain ⟨q8, eq8, hf⟩ := Option.bind_eq_some_iff.mp hf
  refine zcV0 (As := [.int v5, .int v6, .int v7]) (rest := [.int q4.1]) (v := (some (.int q8.1))) (h' := q8.2) X G (rfl : vwCl[8]? = some (RX8, TX8, 24)) hk (m_X8_tell l D dA b0 r2 v5 v6 v7 q4.2 q8 eq8) (cwV 3 X.1.2.2.2.2 gT_X8_tell rfl rfl rfl hdV_X8_tell ⟨(Nat.le_of_ble_eq_true rfl), (Nat.le_of_ble_eq_true rfl)⟩) rfl hl.1 rfl (Nat.le_of_ble_eq_true rfl) dL_law_498 ⟨Nat.le_of_ble_eq_true rfl, Nat.le_of_ble_eq_true rfl⟩ (fun H locs G => ?_)
  refine zic_eq (tgt := 1112) X dL_law_501 (by decide) hf (fun hf => ?_) (fun hf => ?_)
  · exact w_L_law_b1112 X hr hlk hX hbl hbb _ hk18 _ _ _ _ _ _ _ hf G hl
  · refine lv_iconst (v := 0) X.1.1 X.1.2.1 dL_law_504 (by decide) ?_
    cases hf
set_option maxHeartbeats 4000000 in
set_option maxRecDepth 100000 in
theorem w_L_law_b506 {p : Program} {l : Launch} {e : Env} {s : State} {m : MethodId} {below : List Frame} {meth : Method} {c : Code} {D : va_G} {dA : Nat → ClassId} {b0 b : Nat} {xs : Nat → Int32} {L : Nat} (X : zX p s m #[Value.ref b] c cL_law 4 RL lw_tbl D dA) (hr : meth.sig.returnType = ret) (hlk : meth.locks = false) (hX : va_X b L xs s s.heap) (hbl : b < s.heap.size) (hbb : b0 = s.heap.size) {z : Int32} (k18 : Nat → Nat → Int32 → zH → Option (Int32)) (hk18 : ∀ (r1 : Nat) (r2 : Nat) (a3 : Int32) (h : zH) (H : Heap) (locs : List Loc) (ls : Array Slot), k18 r1 r2 a3 h = some z → zG D dA b0 s.heap h H locs → lv_has ls 4 [(0, .ref b), (1, .ref (b0 + r1)), (2, .ref (b0 + r2)), (3, .int a3)] → W p l e room_1 s m #[Value.ref b] below meth c H locs 256 3202 (lw_Z below #[Value.ref b] s) (F0 m 18 ls [])) : ∀ (r1 : Nat) (r2 : Nat) (a3 : Int32) (h : zH) (H : Heap) (locs : List Loc) (ls : Array Slot), f_L_law_b506 xs L k18 r1 r2 a3 h = some z → zG D dA b0 s.heap h H locs → lv_has ls 4 [(0, .ref b), (1, .ref (b0 + r1)), (2, .ref (b0 + r2)), (3, .int a3)] → W p l e room_1 s m #[Value.ref b] below meth c H locs 256 3202 (lw_Z below #[Value.ref b] s) (F0 m 506 ls []) := by
  intro r1 r2 a3 h H locs ls hf G hl
  unfold f_L_law_b506 at hf
  refine lv_aload_n X.1.1 X.1.2.1 dL_law_506 rfl (lv_at hl 1 rfl) ?_
  obtain ⟨hk, hf⟩ := zck hf
  obtain ⟨q1, eq1, hf⟩ := Option.bind_eq_some_iff.mp hf
  refine zcV0 (As := []) (rest := []) (v := (some (.int q1.1))) (h' := q1.2) X G (rfl : vwCl[7]? = some (RX7, TX7, 11)) hk (m_X7_undo l D dA b0 r1 h q1 eq1) (cwV 0 X.1.2.2.2.2 gT_X7_undo rfl rfl rfl hdV_X7_undo ⟨(Nat.le_of_ble_eq_true rfl), (Nat.le_of_ble_eq_true rfl)⟩) rfl hl.1 rfl (Nat.le_of_ble_eq_true rfl) dL_law_507 ⟨Nat.le_of_ble_eq_true rfl, Nat.le_of_ble_eq_true rfl⟩ (fun H locs G => ?_)
  refine lv_aload_n X.1.1 X.1.2.1 dL_law_510 rfl (lv_at hl 2 rfl) ?_
  obtain ⟨hk, hf⟩ := zck hf
  obtain ⟨q2, eq2, hf⟩ := Option.bind_eq_some_iff.mp hf
  refine zcV0 (As := []) (rest := [.int q1.1]) (v := (some (.int q2.1))) (h' := q2.2) X G (rfl : vwCl[8]? = some (RX8, TX8, 24)) hk (m_X8_undo l D dA b0 r2 q1.2 q2 eq2) (cwV 0 X.1.2.2.2.2 gT_X8_undo rfl rfl rfl hdV_X8_undo ⟨(Nat.le_of_ble_eq_true rfl), (Nat.le_of_ble_eq_true rfl)⟩) rfl hl.1 rfl (Nat.le_of_ble_eq_true rfl) dL_law_511 ⟨Nat.le_of_ble_eq_true rfl, Nat.le_of_ble_eq_true rfl⟩ (fun H locs G => ?_)
  refine zic_eq (tgt := 1112) X dL_law_514 (by decide) hf (fun hf => ?_) (fun hf => ?_)
  · exact w_L_law_b1112 X hr hlk hX hbl hbb _ hk18 _ _ _ _ _ _ _ hf G hl
  · refine lv_iconst (v := 0) X.1.1 X.1.2.1 dL_law_517 (by decide) ?_
    cases hf
set_option maxHeartbeats 4000000 in
set_option maxRecDepth 100000 in
theorem w_L_law_b519 {p : Program} {l : Launch} {e : Env} {s : State} {m : MethodId} {below : List Frame} {meth : Method} {c : Code} {D : va_G} {dA : Nat → ClassId} {b0 b : Nat} {xs : Nat → Int32} {L : Nat} (X : zX p s m #[Value.ref b] c cL_law 4 RL lw_tbl D dA) (hr : meth.sig.returnType = ret) (hlk : meth.locks = false) (hX : va_X b L xs s s.heap) (hbl : b < s.heap.size) (hbb : b0 = s.heap.size) {z : Int32} (k18 : Nat → Nat → Int32 → zH → Option (Int32)) (hk18 : ∀ (r1 : Nat) (r2 : Nat) (a3 : Int32) (h : zH) (H : Heap) (locs : List Loc) (ls : Array Slot), k18 r1 r2 a3 h = some z → zG D dA b0 s.heap h H locs → lv_has ls 4 [(0, .ref b), (1, .ref (b0 + r1)), (2, .ref (b0 + r2)), (3, .int a3)] → W p l e room_1 s m #[Value.ref b] below meth c H locs 256 3202 (lw_Z below #[Value.ref b] s) (F0 m 18 ls [])) : ∀ (r1 : Nat) (r2 : Nat) (a3 : Int32) (h : zH) (H : Heap) (locs : List Loc) (ls : Array Slot), f_L_law_b519 xs L k18 r1 r2 a3 h = some z → zG D dA b0 s.heap h H locs → lv_has ls 4 [(0, .ref b), (1, .ref (b0 + r1)), (2, .ref (b0 + r2)), (3, .int a3)] → W p l e room_1 s m #[Value.ref b] below meth c H locs 256 3202 (lw_Z below #[Value.ref b] s) (F0 m 519 ls []) := by
  intro r1 r2 a3 h H locs ls hf G hl
  unfold f_L_law_b519 at hf
  refine lv_aload_n X.1.1 X.1.2.1 dL_law_519 rfl (lv_at hl 1 rfl) ?_
  refine lv_aload_n X.1.1 X.1.2.1 dL_law_520 rfl (lv_at hl 0 rfl) ?_
  refine lv_iload_n X.1.1 X.1.2.1 dL_law_521 rfl (lv_at hl 3 rfl) ?_
  refine lv_iconst (v := 1) X.1.1 X.1.2.1 dL_law_522 (by decide) ?_
  refine lv_iadd X.1.1 X.1.2.1 dL_law_523 ?_
  refine zsld X hX hbl hbb G dL_law_524 hf (fun v1 hf => ?_)
  refine lv_aload_n X.1.1 X.1.2.1 dL_law_525 rfl (lv_at hl 0 rfl) ?_
  refine lv_iload_n X.1.1 X.1.2.1 dL_law_526 rfl (lv_at hl 3 rfl) ?_
  refine lv_iconst (v := 2) X.1.1 X.1.2.1 dL_law_527 (by decide) ?_
  refine lv_iadd X.1.1 X.1.2.1 dL_law_528 ?_
  refine zsld X hX hbl hbb G dL_law_529 hf (fun v2 hf => ?_)
  obtain ⟨hk, hf⟩ := zck hf
  obtain ⟨q3, eq3, hf⟩ := Option.bind_eq_some_iff.mp hf
  refine zcV0 (As := [.int v1, .int v2]) (rest := []) (v := (some (.int q3))) (h' := h) X G (rfl : vwCl[7]? = some (RX7, TX7, 11)) hk (m_X7_thing l D dA b0 r1 v1 v2 h q3 eq3) (cwV 2 X.1.2.2.2.2 gT_X7_thing rfl rfl rfl hdV_X7_thing ⟨(Nat.le_of_ble_eq_true rfl), (Nat.le_of_ble_eq_true rfl)⟩) rfl hl.1 rfl (Nat.le_of_ble_eq_true rfl) dL_law_530 ⟨Nat.le_of_ble_eq_true rfl, Nat.le_of_ble_eq_true rfl⟩ (fun H locs G => ?_)
  refine lv_aload_n X.1.1 X.1.2.1 dL_law_533 rfl (lv_at hl 2 rfl) ?_
  refine lv_aload_n X.1.1 X.1.2.1 dL_law_534 rfl (lv_at hl 0 rfl) ?_
  refine lv_iload_n X.1.1 X.1.2.1 dL_law_535 rfl (lv_at hl 3 rfl) ?_
  refine lv_iconst (v := 1) X.1.1 X.1.2.1 dL_law_536 (by decide) ?_
  refine lv_iadd X.1.1 X.1.2.1 dL_law_537 ?_
  refine zsld X hX hbl hbb G dL_law_538 hf (fun v4 hf => ?_)
  refine lv_aload_n X.1.1 X.1.2.1 dL_law_539 rfl (lv_at hl 0 rfl) ?_
  refine lv_iload_n X.1.1 X.1.2.1 dL_law_540 rfl (lv_at hl 3 rfl) ?_
  refine lv_iconst (v := 2) X.1.1 X.1.2.1 dL_law_541 (by decide) ?_
  refine lv_iadd X.1.1 X.1.2.1 dL_law_542 ?_
  refine zsld X hX hbl hbb G dL_law_543 hf (fun v5 hf => ?_)
  obtain ⟨hk, hf⟩ := zck hf
  obtain ⟨q6, eq6, hf⟩ := Option.bind_eq_some_iff.mp hf
  refine zcV0 (As := [.int v4, .int v5]) (rest := [.int q3]) (v := (some (.int q6))) (h' := h) X G (rfl : vwCl[8]? = some (RX8, TX8, 24)) hk (m_X8_thing l D dA b0 r2 v4 v5 h q6 eq6) (cwV 2 X.1.2.2.2.2 gT_X8_thing rfl rfl rfl hdV_X8_thing ⟨(Nat.le_of_ble_eq_true rfl), (Nat.le_of_ble_eq_true rfl)⟩) rfl hl.1 rfl (Nat.le_of_ble_eq_true rfl) dL_law_544 ⟨Nat.le_of_ble_eq_true rfl, Nat.le_of_ble_eq_true rfl⟩ (fun H locs G => ?_)
  refine zic_eq (tgt := 1112) X dL_law_547 (by decide) hf (fun hf => ?_) (fun hf => ?_)
  · exact w_L_law_b1112 X hr hlk hX hbl hbb _ hk18 _ _ _ _ _ _ _ hf G hl
  · refine lv_iconst (v := 0) X.1.1 X.1.2.1 dL_law_550 (by decide) ?_
    cases hf
set_option maxHeartbeats 4000000 in
set_option maxRecDepth 100000 in
theorem w_L_law_b552 {p : Program} {l : Launch} {e : Env} {s : State} {m : MethodId} {below : List Frame} {meth : Method} {c : Code} {D : va_G} {dA : Nat → ClassId} {b0 b : Nat} {xs : Nat → Int32} {L : Nat} (X : zX p s m #[Value.ref b] c cL_law 4 RL lw_tbl D dA) (hr : meth.sig.returnType = ret) (hlk : meth.locks = false) (hX : va_X b L xs s s.heap) (hbl : b < s.heap.size) (hbb : b0 = s.heap.size) {z : Int32} (k18 : Nat → Nat → Int32 → zH → Option (Int32)) (hk18 : ∀ (r1 : Nat) (r2 : Nat) (a3 : Int32) (h : zH) (H : Heap) (locs : List Loc) (ls : Array Slot), k18 r1 r2 a3 h = some z → zG D dA b0 s.heap h H locs → lv_has ls 4 [(0, .ref b), (1, .ref (b0 + r1)), (2, .ref (b0 + r2)), (3, .int a3)] → W p l e room_1 s m #[Value.ref b] below meth c H locs 256 3202 (lw_Z below #[Value.ref b] s) (F0 m 18 ls [])) : ∀ (r1 : Nat) (r2 : Nat) (a3 : Int32) (h : zH) (H : Heap) (locs : List Loc) (ls : Array Slot), f_L_law_b552 xs L k18 r1 r2 a3 h = some z → zG D dA b0 s.heap h H locs → lv_has ls 4 [(0, .ref b), (1, .ref (b0 + r1)), (2, .ref (b0 + r2)), (3, .int a3)] → W p l e room_1 s m #[Value.ref b] below meth c H locs 256 3202 (lw_Z below #[Value.ref b] s) (F0 m 552 ls []) := by
  intro r1 r2 a3 h H locs ls hf G hl
  unfold f_L_law_b552 at hf
  refine lv_aload_n X.1.1 X.1.2.1 dL_law_552 rfl (lv_at hl 1 rfl) ?_
  refine lv_aload_n X.1.1 X.1.2.1 dL_law_553 rfl (lv_at hl 0 rfl) ?_
  refine lv_iload_n X.1.1 X.1.2.1 dL_law_554 rfl (lv_at hl 3 rfl) ?_
  refine lv_iconst (v := 1) X.1.1 X.1.2.1 dL_law_555 (by decide) ?_
  refine lv_iadd X.1.1 X.1.2.1 dL_law_556 ?_
  refine zsld X hX hbl hbb G dL_law_557 hf (fun v1 hf => ?_)
  obtain ⟨hk, hf⟩ := zck hf
  obtain ⟨q2, eq2, hf⟩ := Option.bind_eq_some_iff.mp hf
  refine zcV0 (As := [.int v1]) (rest := []) (v := (some (.int q2))) (h' := h) X G (rfl : vwCl[7]? = some (RX7, TX7, 11)) hk (m_X7_knows l D dA b0 r1 v1 h q2 eq2) (cwV 1 X.1.2.2.2.2 gT_X7_knows rfl rfl rfl hdV_X7_knows ⟨(Nat.le_of_ble_eq_true rfl), (Nat.le_of_ble_eq_true rfl)⟩) rfl hl.1 rfl (Nat.le_of_ble_eq_true rfl) dL_law_558 ⟨Nat.le_of_ble_eq_true rfl, Nat.le_of_ble_eq_true rfl⟩ (fun H locs G => ?_)
  refine lv_aload_n X.1.1 X.1.2.1 dL_law_561 rfl (lv_at hl 2 rfl) ?_
  refine lv_aload_n X.1.1 X.1.2.1 dL_law_562 rfl (lv_at hl 0 rfl) ?_
  refine lv_iload_n X.1.1 X.1.2.1 dL_law_563 rfl (lv_at hl 3 rfl) ?_
  refine lv_iconst (v := 1) X.1.1 X.1.2.1 dL_law_564 (by decide) ?_
  refine lv_iadd X.1.1 X.1.2.1 dL_law_565 ?_
  refine zsld X hX hbl hbb G dL_law_566 hf (fun v3 hf => ?_)
  obtain ⟨hk, hf⟩ := zck hf
  obtain ⟨q4, eq4, hf⟩ := Option.bind_eq_some_iff.mp hf
  refine zcV0 (As := [.int v3]) (rest := [.int q2]) (v := (some (.int q4))) (h' := h) X G (rfl : vwCl[8]? = some (RX8, TX8, 24)) hk (m_X8_knows l D dA b0 r2 v3 h q4 eq4) (cwV 1 X.1.2.2.2.2 gT_X8_knows rfl rfl rfl hdV_X8_knows ⟨(Nat.le_of_ble_eq_true rfl), (Nat.le_of_ble_eq_true rfl)⟩) rfl hl.1 rfl (Nat.le_of_ble_eq_true rfl) dL_law_567 ⟨Nat.le_of_ble_eq_true rfl, Nat.le_of_ble_eq_true rfl⟩ (fun H locs G => ?_)
  refine zic_eq (tgt := 1112) X dL_law_570 (by decide) hf (fun hf => ?_) (fun hf => ?_)
  · exact w_L_law_b1112 X hr hlk hX hbl hbb _ hk18 _ _ _ _ _ _ _ hf G hl
  · refine lv_iconst (v := 0) X.1.1 X.1.2.1 dL_law_573 (by decide) ?_
    cases hf
set_option maxHeartbeats 4000000 in
set_option maxRecDepth 100000 in
theorem w_L_law_b575 {p : Program} {l : Launch} {e : Env} {s : State} {m : MethodId} {below : List Frame} {meth : Method} {c : Code} {D : va_G} {dA : Nat → ClassId} {b0 b : Nat} {xs : Nat → Int32} {L : Nat} (X : zX p s m #[Value.ref b] c cL_law 4 RL lw_tbl D dA) (hr : meth.sig.returnType = ret) (hlk : meth.locks = false) (hX : va_X b L xs s s.heap) (hbl : b < s.heap.size) (hbb : b0 = s.heap.size) {z : Int32} (k18 : Nat → Nat → Int32 → zH → Option (Int32)) (hk18 : ∀ (r1 : Nat) (r2 : Nat) (a3 : Int32) (h : zH) (H : Heap) (locs : List Loc) (ls : Array Slot), k18 r1 r2 a3 h = some z → zG D dA b0 s.heap h H locs → lv_has ls 4 [(0, .ref b), (1, .ref (b0 + r1)), (2, .ref (b0 + r2)), (3, .int a3)] → W p l e room_1 s m #[Value.ref b] below meth c H locs 256 3202 (lw_Z below #[Value.ref b] s) (F0 m 18 ls [])) : ∀ (r1 : Nat) (r2 : Nat) (a3 : Int32) (h : zH) (H : Heap) (locs : List Loc) (ls : Array Slot), f_L_law_b575 xs L k18 r1 r2 a3 h = some z → zG D dA b0 s.heap h H locs → lv_has ls 4 [(0, .ref b), (1, .ref (b0 + r1)), (2, .ref (b0 + r2)), (3, .int a3)] → W p l e room_1 s m #[Value.ref b] below meth c H locs 256 3202 (lw_Z below #[Value.ref b] s) (F0 m 575 ls []) := by
  intro r1 r2 a3 h H locs ls hf G hl
  unfold f_L_law_b575 at hf
  refine lv_aload_n X.1.1 X.1.2.1 dL_law_575 rfl (lv_at hl 1 rfl) ?_
  refine lv_aload_n X.1.1 X.1.2.1 dL_law_576 rfl (lv_at hl 0 rfl) ?_
  refine lv_iload_n X.1.1 X.1.2.1 dL_law_577 rfl (lv_at hl 3 rfl) ?_
  refine lv_iconst (v := 1) X.1.1 X.1.2.1 dL_law_578 (by decide) ?_
  refine lv_iadd X.1.1 X.1.2.1 dL_law_579 ?_
  refine zsld X hX hbl hbb G dL_law_580 hf (fun v1 hf => ?_)
  refine lv_aload_n X.1.1 X.1.2.1 dL_law_581 rfl (lv_at hl 0 rfl) ?_
  refine lv_iload_n X.1.1 X.1.2.1 dL_law_582 rfl (lv_at hl 3 rfl) ?_
  refine lv_iconst (v := 2) X.1.1 X.1.2.1 dL_law_583 (by decide) ?_
  refine lv_iadd X.1.1 X.1.2.1 dL_law_584 ?_
  refine zsld X hX hbl hbb G dL_law_585 hf (fun v2 hf => ?_)
  obtain ⟨hk, hf⟩ := zck hf
  obtain ⟨q3, eq3, hf⟩ := Option.bind_eq_some_iff.mp hf
  refine zcV0 (As := [.int v1, .int v2]) (rest := []) (v := (some (.int q3.1))) (h' := q3.2) X G (rfl : vwCl[7]? = some (RX7, TX7, 11)) hk (m_X7_ahead l D dA b0 r1 v1 v2 h q3 eq3) (cwV 2 X.1.2.2.2.2 gT_X7_ahead rfl rfl rfl hdV_X7_ahead ⟨(Nat.le_of_ble_eq_true rfl), (Nat.le_of_ble_eq_true rfl)⟩) rfl hl.1 rfl (Nat.le_of_ble_eq_true rfl) dL_law_586 ⟨Nat.le_of_ble_eq_true rfl, Nat.le_of_ble_eq_true rfl⟩ (fun H locs G => ?_)
  refine lv_aload_n X.1.1 X.1.2.1 dL_law_589 rfl (lv_at hl 2 rfl) ?_
  refine lv_aload_n X.1.1 X.1.2.1 dL_law_590 rfl (lv_at hl 0 rfl) ?_
  refine lv_iload_n X.1.1 X.1.2.1 dL_law_591 rfl (lv_at hl 3 rfl) ?_
  refine lv_iconst (v := 1) X.1.1 X.1.2.1 dL_law_592 (by decide) ?_
  refine lv_iadd X.1.1 X.1.2.1 dL_law_593 ?_
  refine zsld X hX hbl hbb G dL_law_594 hf (fun v4 hf => ?_)
  refine lv_aload_n X.1.1 X.1.2.1 dL_law_595 rfl (lv_at hl 0 rfl) ?_
  refine lv_iload_n X.1.1 X.1.2.1 dL_law_596 rfl (lv_at hl 3 rfl) ?_
  refine lv_iconst (v := 2) X.1.1 X.1.2.1 dL_law_597 (by decide) ?_
  refine lv_iadd X.1.1 X.1.2.1 dL_law_598 ?_
  refine zsld X hX hbl hbb G dL_law_599 hf (fun v5 hf => ?_)
  obtain ⟨hk, hf⟩ := zck hf
  obtain ⟨q6, eq6, hf⟩ := Option.bind_eq_some_iff.mp hf
  refine zcV0 (As := [.int v4, .int v5]) (rest := [.int q3.1]) (v := (some (.int q6.1))) (h' := q6.2) X G (rfl : vwCl[8]? = some (RX8, TX8, 24)) hk (m_X8_ahead l D dA b0 r2 v4 v5 q3.2 q6 eq6) (cwV 2 X.1.2.2.2.2 gT_X8_ahead rfl rfl rfl hdV_X8_ahead ⟨(Nat.le_of_ble_eq_true rfl), (Nat.le_of_ble_eq_true rfl)⟩) rfl hl.1 rfl (Nat.le_of_ble_eq_true rfl) dL_law_600 ⟨Nat.le_of_ble_eq_true rfl, Nat.le_of_ble_eq_true rfl⟩ (fun H locs G => ?_)
  refine zic_eq (tgt := 1112) X dL_law_603 (by decide) hf (fun hf => ?_) (fun hf => ?_)
  · exact w_L_law_b1112 X hr hlk hX hbl hbb _ hk18 _ _ _ _ _ _ _ hf G hl
  · refine lv_iconst (v := 0) X.1.1 X.1.2.1 dL_law_606 (by decide) ?_
    cases hf
set_option maxHeartbeats 4000000 in
set_option maxRecDepth 100000 in
theorem w_L_law_b608 {p : Program} {l : Launch} {e : Env} {s : State} {m : MethodId} {below : List Frame} {meth : Method} {c : Code} {D : va_G} {dA : Nat → ClassId} {b0 b : Nat} {xs : Nat → Int32} {L : Nat} (X : zX p s m #[Value.ref b] c cL_law 4 RL lw_tbl D dA) (hr : meth.sig.returnType = ret) (hlk : meth.locks = false) (hX : va_X b L xs s s.heap) (hbl : b < s.heap.size) (hbb : b0 = s.heap.size) {z : Int32} (k18 : Nat → Nat → Int32 → zH → Option (Int32)) (hk18 : ∀ (r1 : Nat) (r2 : Nat) (a3 : Int32) (h : zH) (H : Heap) (locs : List Loc) (ls : Array Slot), k18 r1 r2 a3 h = some z → zG D dA b0 s.heap h H locs → lv_has ls 4 [(0, .ref b), (1, .ref (b0 + r1)), (2, .ref (b0 + r2)), (3, .int a3)] → W p l e room_1 s m #[Value.ref b] below meth c H locs 256 3202 (lw_Z below #[Value.ref b] s) (F0 m 18 ls [])) : ∀ (r1 : Nat) (r2 : Nat) (a3 : Int32) (h : zH) (H : Heap) (locs : List Loc) (ls : Array Slot), f_L_law_b608 xs L k18 r1 r2 a3 h = some z → zG D dA b0 s.heap h H locs → lv_has ls 4 [(0, .ref b), (1, .ref (b0 + r1)), (2, .ref (b0 + r2)), (3, .int a3)] → W p l e room_1 s m #[Value.ref b] below meth c H locs 256 3202 (lw_Z below #[Value.ref b] s) (F0 m 608 ls []) := by
  intro r1 r2 a3 h H locs ls hf G hl
  unfold f_L_law_b608 at hf
  refine lv_aload_n X.1.1 X.1.2.1 dL_law_608 rfl (lv_at hl 1 rfl) ?_
  refine lv_aload_n X.1.1 X.1.2.1 dL_law_609 rfl (lv_at hl 0 rfl) ?_
  refine lv_iload_n X.1.1 X.1.2.1 dL_law_610 rfl (lv_at hl 3 rfl) ?_
  refine lv_iconst (v := 1) X.1.1 X.1.2.1 dL_law_611 (by decide) ?_
  refine lv_iadd X.1.1 X.1.2.1 dL_law_612 ?_
  refine zsld X hX hbl hbb G dL_law_613 hf (fun v1 hf => ?_)
  obtain ⟨hk, hf⟩ := zck hf
  obtain ⟨q2, eq2, hf⟩ := Option.bind_eq_some_iff.mp hf
  refine zcV0 (As := [.int v1]) (rest := []) (v := (some (.int q2.1))) (h' := q2.2) X G (rfl : vwCl[7]? = some (RX7, TX7, 11)) hk (m_X7_up l D dA b0 r1 v1 h q2 eq2) (cwV 1 X.1.2.2.2.2 gT_X7_up rfl rfl rfl hdV_X7_up ⟨(Nat.le_of_ble_eq_true rfl), (Nat.le_of_ble_eq_true rfl)⟩) rfl hl.1 rfl (Nat.le_of_ble_eq_true rfl) dL_law_614 ⟨Nat.le_of_ble_eq_true rfl, Nat.le_of_ble_eq_true rfl⟩ (fun H locs G => ?_)
  refine lv_aload_n X.1.1 X.1.2.1 dL_law_617 rfl (lv_at hl 2 rfl) ?_
  refine lv_aload_n X.1.1 X.1.2.1 dL_law_618 rfl (lv_at hl 0 rfl) ?_
  refine lv_iload_n X.1.1 X.1.2.1 dL_law_619 rfl (lv_at hl 3 rfl) ?_
  refine lv_iconst (v := 1) X.1.1 X.1.2.1 dL_law_620 (by decide) ?_
  refine lv_iadd X.1.1 X.1.2.1 dL_law_621 ?_
  refine zsld X hX hbl hbb G dL_law_622 hf (fun v3 hf => ?_)
  obtain ⟨hk, hf⟩ := zck hf
  obtain ⟨q4, eq4, hf⟩ := Option.bind_eq_some_iff.mp hf
  refine zcV0 (As := [.int v3]) (rest := [.int q2.1]) (v := (some (.int q4.1))) (h' := q4.2) X G (rfl : vwCl[8]? = some (RX8, TX8, 24)) hk (m_X8_up l D dA b0 r2 v3 q2.2 q4 eq4) (cwV 1 X.1.2.2.2.2 gT_X8_up rfl rfl rfl hdV_X8_up ⟨(Nat.le_of_ble_eq_true rfl), (Nat.le_of_ble_eq_true rfl)⟩) rfl hl.1 rfl (Nat.le_of_ble_eq_true rfl) dL_law_623 ⟨Nat.le_of_ble_eq_true rfl, Nat.le_of_ble_eq_true rfl⟩ (fun H locs G => ?_)
  refine zic_eq (tgt := 1112) X dL_law_626 (by decide) hf (fun hf => ?_) (fun hf => ?_)
  · exact w_L_law_b1112 X hr hlk hX hbl hbb _ hk18 _ _ _ _ _ _ _ hf G hl
  · refine lv_iconst (v := 0) X.1.1 X.1.2.1 dL_law_629 (by decide) ?_
    cases hf
set_option maxHeartbeats 4000000 in
set_option maxRecDepth 100000 in
theorem w_L_law_b631 {p : Program} {l : Launch} {e : Env} {s : State} {m : MethodId} {below : List Frame} {meth : Method} {c : Code} {D : va_G} {dA : Nat → ClassId} {b0 b : Nat} {xs : Nat → Int32} {L : Nat} (X : zX p s m #[Value.ref b] c cL_law 4 RL lw_tbl D dA) (hr : meth.sig.returnType = ret) (hlk : meth.locks = false) (hX : va_X b L xs s s.heap) (hbl : b < s.heap.size) (hbb : b0 = s.heap.size) {z : Int32} (k18 : Nat → Nat → Int32 → zH → Option (Int32)) (hk18 : ∀ (r1 : Nat) (r2 : Nat) (a3 : Int32) (h : zH) (H : Heap) (locs : List Loc) (ls : Array Slot), k18 r1 r2 a3 h = some z → zG D dA b0 s.heap h H locs → lv_has ls 4 [(0, .ref b), (1, .ref (b0 + r1)), (2, .ref (b0 + r2)), (3, .int a3)] → W p l e room_1 s m #[Value.ref b] below meth c H locs 256 3202 (lw_Z below #[Value.ref b] s) (F0 m 18 ls [])) : ∀ (r1 : Nat) (r2 : Nat) (a3 : Int32) (h : zH) (H : Heap) (locs : List Loc) (ls : Array Slot), f_L_law_b631 xs L k18 r1 r2 a3 h = some z → zG D dA b0 s.heap h H locs → lv_has ls 4 [(0, .ref b), (1, .ref (b0 + r1)), (2, .ref (b0 + r2)), (3, .int a3)] → W p l e room_1 s m #[Value.ref b] below meth c H locs 256 3202 (lw_Z below #[Value.ref b] s) (F0 m 631 ls []) := by
  intro r1 r2 a3 h H locs ls hf G hl
  unfold f_L_law_b631 at hf
  refine lv_aload_n X.1.1 X.1.2.1 dL_law_631 rfl (lv_at hl 1 rfl) ?_
  refine lv_aload_n X.1.1 X.1.2.1 dL_law_632 rfl (lv_at hl 0 rfl) ?_
  refine lv_iload_n X.1.1 X.1.2.1 dL_law_633 rfl (lv_at hl 3 rfl) ?_
  refine lv_iconst (v := 1) X.1.1 X.1.2.1 dL_law_634 (by decide) ?_
  refine lv_iadd X.1.1 X.1.2.1 dL_law_635 ?_
  refine zsld X hX hbl hbb G dL_law_636 hf (fun v1 hf => ?_)
  obtain ⟨hk, hf⟩ := zck hf
  obtain ⟨q2, eq2, hf⟩ := Option.bind_eq_some_iff.mp hf
  refine zcV0 (As := [.int v1]) (rest := []) (v := (some (.int q2.1))) (h' := q2.2) X G (rfl : vwCl[7]? = some (RX7, TX7, 11)) hk (m_X7_comesUp l D dA b0 r1 v1 h q2 eq2) (cwV 1 X.1.2.2.2.2 gT_X7_comesUp rfl rfl rfl hdV_X7_comesUp ⟨(Nat.le_of_ble_eq_true rfl), (Nat.le_of_ble_eq_true rfl)⟩) rfl hl.1 rfl (Nat.le_of_ble_eq_true rfl) dL_law_637 ⟨Nat.le_of_ble_eq_true rfl, Nat.le_of_ble_eq_true rfl⟩ (fun H locs G => ?_)
  refine lv_aload_n X.1.1 X.1.2.1 dL_law_640 rfl (lv_at hl 2 rfl) ?_
  refine lv_aload_n X.1.1 X.1.2.1 dL_law_641 rfl (lv_at hl 0 rfl) ?_
  refine lv_iload_n X.1.1 X.1.2.1 dL_law_642 rfl (lv_at hl 3 rfl) ?_
  refine lv_iconst (v := 1) X.1.1 X.1.2.1 dL_law_643 (by decide) ?_
  refine lv_iadd X.1.1 X.1.2.1 dL_law_644 ?_
  refine zsld X hX hbl hbb G dL_law_645 hf (fun v3 hf => ?_)
  obtain ⟨hk, hf⟩ := zck hf
  obtain ⟨q4, eq4, hf⟩ := Option.bind_eq_some_iff.mp hf
  refine zcV0 (As := [.int v3]) (rest := [.int q2.1]) (v := (some (.int q4.1))) (h' := q4.2) X G (rfl : vwCl[8]? = some (RX8, TX8, 24)) hk (m_X8_comesUp l D dA b0 r2 v3 q2.2 q4 eq4) (cwV 1 X.1.2.2.2.2 gT_X8_comesUp rfl rfl rfl hdV_X8_comesUp ⟨(Nat.le_of_ble_eq_true rfl), (Nat.le_of_ble_eq_true rfl)⟩) rfl hl.1 rfl (Nat.le_of_ble_eq_true rfl) dL_law_646 ⟨Nat.le_of_ble_eq_true rfl, Nat.le_of_ble_eq_true rfl⟩ (fun H locs G => ?_)
  refine zic_eq (tgt := 1112) X dL_law_649 (by decide) hf (fun hf => ?_) (fun hf => ?_)
  · exact w_L_law_b1112 X hr hlk hX hbl hbb _ hk18 _ _ _ _ _ _ _ hf G hl
  · refine lv_iconst (v := 0) X.1.1 X.1.2.1 dL_law_652 (by decide) ?_
    cases hf
set_option maxHeartbeats 4000000 in
set_option maxRecDepth 100000 in
theorem w_L_law_b654 {p : Program} {l : Launch} {e : Env} {s : State} {m : MethodId} {below : List Frame} {meth : Method} {c : Code} {D : va_G} {dA : Nat → ClassId} {b0 b : Nat} {xs : Nat → Int32} {L : Nat} (X : zX p s m #[Value.ref b] c cL_law 4 RL lw_tbl D dA) (hr : meth.sig.returnType = ret) (hlk : meth.locks = false) (hX : va_X b L xs s s.heap) (hbl : b < s.heap.size) (hbb : b0 = s.heap.size) {z : Int32} (k18 : Nat → Nat → Int32 → zH → Option (Int32)) (hk18 : ∀ (r1 : Nat) (r2 : Nat) (a3 : Int32) (h : zH) (H : Heap) (locs : List Loc) (ls : Array Slot), k18 r1 r2 a3 h = some z → zG D dA b0 s.heap h H locs → lv_has ls 4 [(0, .ref b), (1, .ref (b0 + r1)), (2, .ref (b0 + r2)), (3, .int a3)] → W p l e room_1 s m #[Value.ref b] below meth c H locs 256 3202 (lw_Z below #[Value.ref b] s) (F0 m 18 ls [])) : ∀ (r1 : Nat) (r2 : Nat) (a3 : Int32) (h : zH) (H : Heap) (locs : List Loc) (ls : Array Slot), f_L_law_b654 xs L k18 r1 r2 a3 h = some z → zG D dA b0 s.heap h H locs → lv_has ls 4 [(0, .ref b), (1, .ref (b0 + r1)), (2, .ref (b0 + r2)), (3, .int a3)] → W p l e room_1 s m #[Value.ref b] below meth c H locs 256 3202 (lw_Z below #[Value.ref b] s) (F0 m 654 ls []) := by
  intro r1 r2 a3 h H locs ls hf G hl
  unfold f_L_law_b654 at hf
  refine lv_aload_n X.1.1 X.1.2.1 dL_law_654 rfl (lv_at hl 1 rfl) ?_
  refine lv_aload_n X.1.1 X.1.2.1 dL_law_655 rfl (lv_at hl 0 rfl) ?_
  refine lv_iload_n X.1.1 X.1.2.1 dL_law_656 rfl (lv_at hl 3 rfl) ?_
  refine lv_iconst (v := 1) X.1.1 X.1.2.1 dL_law_657 (by decide) ?_
  refine lv_iadd X.1.1 X.1.2.1 dL_law_658 ?_
  refine zsld X hX hbl hbb G dL_law_659 hf (fun v1 hf => ?_)
  obtain ⟨hk, hf⟩ := zck hf
  obtain ⟨q2, eq2, hf⟩ := Option.bind_eq_some_iff.mp hf
  refine zcV0 (As := [.int v1]) (rest := []) (v := (some (.int q2.1))) (h' := q2.2) X G (rfl : vwCl[7]? = some (RX7, TX7, 11)) hk (m_X7_first l D dA b0 r1 v1 h q2 eq2) (cwV 1 X.1.2.2.2.2 gT_X7_first rfl rfl rfl hdV_X7_first ⟨(Nat.le_of_ble_eq_true rfl), (Nat.le_of_ble_eq_true rfl)⟩) rfl hl.1 rfl (Nat.le_of_ble_eq_true rfl) dL_law_660 ⟨Nat.le_of_ble_eq_true rfl, Nat.le_of_ble_eq_true rfl⟩ (fun H locs G => ?_)
  refine lv_aload_n X.1.1 X.1.2.1 dL_law_663 rfl (lv_at hl 2 rfl) ?_
  refine lv_aload_n X.1.1 X.1.2.1 dL_law_664 rfl (lv_at hl 0 rfl) ?_
  refine lv_iload_n X.1.1 X.1.2.1 dL_law_665 rfl (lv_at hl 3 rfl) ?_
  refine lv_iconst (v := 1) X.1.1 X.1.2.1 dL_law_666 (by decide) ?_
  refine lv_iadd X.1.1 X.1.2.1 dL_law_667 ?_
  refine zsld X hX hbl hbb G dL_law_668 hf (fun v3 hf => ?_)
  obtain ⟨hk, hf⟩ := zck hf
  obtain ⟨q4, eq4, hf⟩ := Option.bind_eq_some_iff.mp hf
  refine zcV0 (As := [.int v3]) (rest := [.int q2.1]) (v := (some (.int q4.1))) (h' := q4.2) X G (rfl : vwCl[8]? = some (RX8, TX8, 24)) hk (m_X8_first l D dA b0 r2 v3 q2.2 q4 eq4) (cwV 1 X.1.2.2.2.2 gT_X8_first rfl rfl rfl hdV_X8_first ⟨(Nat.le_of_ble_eq_true rfl), (Nat.le_of_ble_eq_true rfl)⟩) rfl hl.1 rfl (Nat.le_of_ble_eq_true rfl) dL_law_669 ⟨Nat.le_of_ble_eq_true rfl, Nat.le_of_ble_eq_true rfl⟩ (fun H locs G => ?_)
  refine zic_eq (tgt := 1112) X dL_law_672 (by decide) hf (fun hf => ?_) (fun hf => ?_)
  · exact w_L_law_b1112 X hr hlk hX hbl hbb _ hk18 _ _ _ _ _ _ _ hf G hl
  · refine lv_iconst (v := 0) X.1.1 X.1.2.1 dL_law_675 (by decide) ?_
    cases hf
set_option maxHeartbeats 4000000 in
set_option maxRecDepth 100000 in
theorem w_L_law_b677 {p : Program} {l : Launch} {e : Env} {s : State} {m : MethodId} {below : List Frame} {meth : Method} {c : Code} {D : va_G} {dA : Nat → ClassId} {b0 b : Nat} {xs : Nat → Int32} {L : Nat} (X : zX p s m #[Value.ref b] c cL_law 4 RL lw_tbl D dA) (hr : meth.sig.returnType = ret) (hlk : meth.locks = false) (hX : va_X b L xs s s.heap) (hbl : b < s.heap.size) (hbb : b0 = s.heap.size) {z : Int32} (k18 : Nat → Nat → Int32 → zH → Option (Int32)) (hk18 : ∀ (r1 : Nat) (r2 : Nat) (a3 : Int32) (h : zH) (H : Heap) (locs : List Loc) (ls : Array Slot), k18 r1 r2 a3 h = some z → zG D dA b0 s.heap h H locs → lv_has ls 4 [(0, .ref b), (1, .ref (b0 + r1)), (2, .ref (b0 + r2)), (3, .int a3)] → W p l e room_1 s m #[Value.ref b] below meth c H locs 256 3202 (lw_Z below #[Value.ref b] s) (F0 m 18 ls [])) : ∀ (r1 : Nat) (r2 : Nat) (a3 : Int32) (h : zH) (H : Heap) (locs : List Loc) (ls : Array Slot), f_L_law_b677 xs L k18 r1 r2 a3 h = some z → zG D dA b0 s.heap h H locs → lv_has ls 4 [(0, .ref b), (1, .ref (b0 + r1)), (2, .ref (b0 + r2)), (3, .int a3)] → W p l e room_1 s m #[Value.ref b] below meth c H locs 256 3202 (lw_Z below #[Value.ref b] s) (F0 m 677 ls []) := by
  intro r1 r2 a3 h H locs ls hf G hl
  unfold f_L_law_b677 at hf
  refine lv_aload_n X.1.1 X.1.2.1 dL_law_677 rfl (lv_at hl 1 rfl) ?_
  refine lv_aload_n X.1.1 X.1.2.1 dL_law_678 rfl (lv_at hl 0 rfl) ?_
  refine lv_iload_n X.1.1 X.1.2.1 dL_law_679 rfl (lv_at hl 3 rfl) ?_
  refine lv_iconst (v := 1) X.1.1 X.1.2.1 dL_law_680 (by decide) ?_
  refine lv_iadd X.1.1 X.1.2.1 dL_law_681 ?_
  refine zsld X hX hbl hbb G dL_law_682 hf (fun v1 hf => ?_)
  obtain ⟨hk, hf⟩ := zck hf
  obtain ⟨q2, eq2, hf⟩ := Option.bind_eq_some_iff.mp hf
  refine zcV0 (As := [.int v1]) (rest := []) (v := (some (.int q2.1))) (h' := q2.2) X G (rfl : vwCl[7]? = some (RX7, TX7, 11)) hk (m_X7_trouble l D dA b0 r1 v1 h q2 eq2) (cwV 1 X.1.2.2.2.2 gT_X7_trouble rfl rfl rfl hdV_X7_trouble ⟨(Nat.le_of_ble_eq_true rfl), (Nat.le_of_ble_eq_true rfl)⟩) rfl hl.1 rfl (Nat.le_of_ble_eq_true rfl) dL_law_683 ⟨Nat.le_of_ble_eq_true rfl, Nat.le_of_ble_eq_true rfl⟩ (fun H locs G => ?_)
  refine lv_aload_n X.1.1 X.1.2.1 dL_law_686 rfl (lv_at hl 2 rfl) ?_
  refine lv_aload_n X.1.1 X.1.2.1 dL_law_687 rfl (lv_at hl 0 rfl) ?_
  refine lv_iload_n X.1.1 X.1.2.1 dL_law_688 rfl (lv_at hl 3 rfl) ?_
  refine lv_iconst (v := 1) X.1.1 X.1.2.1 dL_law_689 (by decide) ?_
  refine lv_iadd X.1.1 X.1.2.1 dL_law_690 ?_
  refine zsld X hX hbl hbb G dL_law_691 hf (fun v3 hf => ?_)
  obtain ⟨hk, hf⟩ := zck hf
  obtain ⟨q4, eq4, hf⟩ := Option.bind_eq_some_iff.mp hf
  refine zcV0 (As := [.int v3]) (rest := [.int q2.1]) (v := (some (.int q4.1))) (h' := q4.2) X G (rfl : vwCl[8]? = some (RX8, TX8, 24)) hk (m_X8_trouble l D dA b0 r2 v3 q2.2 q4 eq4) (cwV 1 X.1.2.2.2.2 gT_X8_trouble rfl rfl rfl hdV_X8_trouble ⟨(Nat.le_of_ble_eq_true rfl), (Nat.le_of_ble_eq_true rfl)⟩) rfl hl.1 rfl (Nat.le_of_ble_eq_true rfl) dL_law_692 ⟨Nat.le_of_ble_eq_true rfl, Nat.le_of_ble_eq_true rfl⟩ (fun H locs G => ?_)
  refine zic_eq (tgt := 1112) X dL_law_695 (by decide) hf (fun hf => ?_) (fun hf => ?_)
  · exact w_L_law_b1112 X hr hlk hX hbl hbb _ hk18 _ _ _ _ _ _ _ hf G hl
  · refine lv_iconst (v := 0) X.1.1 X.1.2.1 dL_law_698 (by decide) ?_
    cases hf
set_option maxHeartbeats 4000000 in
set_option maxRecDepth 100000 in
theorem w_L_law_b700 {p : Program} {l : Launch} {e : Env} {s : State} {m : MethodId} {below : List Frame} {meth : Method} {c : Code} {D : va_G} {dA : Nat → ClassId} {b0 b : Nat} {xs : Nat → Int32} {L : Nat} (X : zX p s m #[Value.ref b] c cL_law 4 RL lw_tbl D dA) (hr : meth.sig.returnType = ret) (hlk : meth.locks = false) (hX : va_X b L xs s s.heap) (hbl : b < s.heap.size) (hbb : b0 = s.heap.size) {z : Int32} (k18 : Nat → Nat → Int32 → zH → Option (Int32)) (hk18 : ∀ (r1 : Nat) (r2 : Nat) (a3 : Int32) (h : zH) (H : Heap) (locs : List Loc) (ls : Array Slot), k18 r1 r2 a3 h = some z → zG D dA b0 s.heap h H locs → lv_has ls 4 [(0, .ref b), (1, .ref (b0 + r1)), (2, .ref (b0 + r2)), (3, .int a3)] → W p l e room_1 s m #[Value.ref b] below meth c H locs 256 3202 (lw_Z below #[Value.ref b] s) (F0 m 18 ls [])) : ∀ (r1 : Nat) (r2 : Nat) (a3 : Int32) (h : zH) (H : Heap) (locs : List Loc) (ls : Array Slot), f_L_law_b700 xs L k18 r1 r2 a3 h = some z → zG D dA b0 s.heap h H locs → lv_has ls 4 [(0, .ref b), (1, .ref (b0 + r1)), (2, .ref (b0 + r2)), (3, .int a3)] → W p l e room_1 s m #[Value.ref b] below meth c H locs 256 3202 (lw_Z below #[Value.ref b] s) (F0 m 700 ls []) := by
  intro r1 r2 a3 h H locs ls hf G hl
  unfold f_L_law_b700 at hf
  refine lv_aload_n X.1.1 X.1.2.1 dL_law_700 rfl (lv_at hl 1 rfl) ?_
  refine lv_aload_n X.1.1 X.1.2.1 dL_law_701 rfl (lv_at hl 0 rfl) ?_
  refine lv_iload_n X.1.1 X.1.2.1 dL_law_702 rfl (lv_at hl 3 rfl) ?_
  refine lv_iconst (v := 1) X.1.1 X.1.2.1 dL_law_703 (by decide) ?_
  refine lv_iadd X.1.1 X.1.2.1 dL_law_704 ?_
  refine zsld X hX hbl hbb G dL_law_705 hf (fun v1 hf => ?_)
  refine lv_aload_n X.1.1 X.1.2.1 dL_law_706 rfl (lv_at hl 0 rfl) ?_
  refine lv_iload_n X.1.1 X.1.2.1 dL_law_707 rfl (lv_at hl 3 rfl) ?_
  refine lv_iconst (v := 2) X.1.1 X.1.2.1 dL_law_708 (by decide) ?_
  refine lv_iadd X.1.1 X.1.2.1 dL_law_709 ?_
  refine zsld X hX hbl hbb G dL_law_710 hf (fun v2 hf => ?_)
  obtain ⟨hk, hf⟩ := zck hf
  obtain ⟨q3, eq3, hf⟩ := Option.bind_eq_some_iff.mp hf
  refine zcV0 (As := [.int v1, .int v2]) (rest := []) (v := (some (.int q3.1))) (h' := q3.2) X G (rfl : vwCl[7]? = some (RX7, TX7, 11)) hk (m_X7_lay l D dA b0 r1 v1 v2 h q3 eq3) (cwV 2 X.1.2.2.2.2 gT_X7_lay rfl rfl rfl hdV_X7_lay ⟨(Nat.le_of_ble_eq_true rfl), (Nat.le_of_ble_eq_true rfl)⟩) rfl hl.1 rfl (Nat.le_of_ble_eq_true rfl) dL_law_711 ⟨Nat.le_of_ble_eq_true rfl, Nat.le_of_ble_eq_true rfl⟩ (fun H locs G => ?_)
  refine lv_aload_n X.1.1 X.1.2.1 dL_law_714 rfl (lv_at hl 2 rfl) ?_
  refine lv_aload_n X.1.1 X.1.2.1 dL_law_715 rfl (lv_at hl 0 rfl) ?_
  refine lv_iload_n X.1.1 X.1.2.1 dL_law_716 rfl (lv_at hl 3 rfl) ?_
  refine lv_iconst (v := 1) X.1.1 X.1.2.1 dL_law_717 (by decide) ?_
  refine lv_iadd X.1.1 X.1.2.1 dL_law_718 ?_
  refine zsld X hX hbl hbb G dL_law_719 hf (fun v4 hf => ?_)
  refine lv_aload_n X.1.1 X.1.2.1 dL_law_720 rfl (lv_at hl 0 rfl) ?_
  refine lv_iload_n X.1.1 X.1.2.1 dL_law_721 rfl (lv_at hl 3 rfl) ?_
  refine lv_iconst (v := 2) X.1.1 X.1.2.1 dL_law_722 (by decide) ?_
  refine lv_iadd X.1.1 X.1.2.1 dL_law_723 ?_
  refine zsld X hX hbl hbb G dL_law_724 hf (fun v5 hf => ?_)
  obtain ⟨hk, hf⟩ := zck hf
  obtain ⟨q6, eq6, hf⟩ := Option.bind_eq_some_iff.mp hf
  refine zcV0 (As := [.int v4, .int v5]) (rest := [.int q3.1]) (v := (some (.int q6.1))) (h' := q6.2) X G (rfl : vwCl[8]? = some (RX8, TX8, 24)) hk (m_X8_lay l D dA b0 r2 v4 v5 q3.2 q6 eq6) (cwV 2 X.1.2.2.2.2 gT_X8_lay rfl rfl rfl hdV_X8_lay ⟨(Nat.le_of_ble_eq_true rfl), (Nat.le_of_ble_eq_true rfl)⟩) rfl hl.1 rfl (Nat.le_of_ble_eq_true rfl) dL_law_725 ⟨Nat.le_of_ble_eq_true rfl, Nat.le_of_ble_eq_true rfl⟩ (fun H locs G => ?_)
  refine zic_eq (tgt := 1112) X dL_law_728 (by decide) hf (fun hf => ?_) (fun hf => ?_)
  · exact w_L_law_b1112 X hr hlk hX hbl hbb _ hk18 _ _ _ _ _ _ _ hf G hl
  · refine lv_iconst (v := 0) X.1.1 X.1.2.1 dL_law_731 (by decide) ?_
    cases hf
set_option maxHeartbeats 4000000 in
set_option maxRecDepth 100000 in
theorem w_L_law_b733 {p : Program} {l : Launch} {e : Env} {s : State} {m : MethodId} {below : List Frame} {meth : Method} {c : Code} {D : va_G} {dA : Nat → ClassId} {b0 b : Nat} {xs : Nat → Int32} {L : Nat} (X : zX p s m #[Value.ref b] c cL_law 4 RL lw_tbl D dA) (hr : meth.sig.returnType = ret) (hlk : meth.locks = false) (hX : va_X b L xs s s.heap) (hbl : b < s.heap.size) (hbb : b0 = s.heap.size) {z : Int32} (k18 : Nat → Nat → Int32 → zH → Option (Int32)) (hk18 : ∀ (r1 : Nat) (r2 : Nat) (a3 : Int32) (h : zH) (H : Heap) (locs : List Loc) (ls : Array Slot), k18 r1 r2 a3 h = some z → zG D dA b0 s.heap h H locs → lv_has ls 4 [(0, .ref b), (1, .ref (b0 + r1)), (2, .ref (b0 + r2)), (3, .int a3)] → W p l e room_1 s m #[Value.ref b] below meth c H locs 256 3202 (lw_Z below #[Value.ref b] s) (F0 m 18 ls [])) : ∀ (r1 : Nat) (r2 : Nat) (a3 : Int32) (h : zH) (H : Heap) (locs : List Loc) (ls : Array Slot), f_L_law_b733 xs L k18 r1 r2 a3 h = some z → zG D dA b0 s.heap h H locs → lv_has ls 4 [(0, .ref b), (1, .ref (b0 + r1)), (2, .ref (b0 + r2)), (3, .int a3)] → W p l e room_1 s m #[Value.ref b] below meth c H locs 256 3202 (lw_Z below #[Value.ref b] s) (F0 m 733 ls []) := by
  intro r1 r2 a3 h H locs ls hf G hl
  unfold f_L_law_b733 at hf
  refine lv_aload_n X.1.1 X.1.2.1 dL_law_733 rfl (lv_at hl 1 rfl) ?_
  refine lv_aload_n X.1.1 X.1.2.1 dL_law_734 rfl (lv_at hl 0 rfl) ?_
  refine lv_iload_n X.1.1 X.1.2.1 dL_law_735 rfl (lv_at hl 3 rfl) ?_
  refine lv_iconst (v := 1) X.1.1 X.1.2.1 dL_law_736 (by decide) ?_
  refine lv_iadd X.1.1 X.1.2.1 dL_law_737 ?_
  refine zsld X hX hbl hbb G dL_law_738 hf (fun v1 hf => ?_)
  refine lv_aload_n X.1.1 X.1.2.1 dL_law_739 rfl (lv_at hl 0 rfl) ?_
  refine lv_iload_n X.1.1 X.1.2.1 dL_law_740 rfl (lv_at hl 3 rfl) ?_
  refine lv_iconst (v := 2) X.1.1 X.1.2.1 dL_law_741 (by decide) ?_
  refine lv_iadd X.1.1 X.1.2.1 dL_law_742 ?_
  refine zsld X hX hbl hbb G dL_law_743 hf (fun v2 hf => ?_)
  obtain ⟨hk, hf⟩ := zck hf
  obtain ⟨q3, eq3, hf⟩ := Option.bind_eq_some_iff.mp hf
  refine zcV0 (As := [.int v1, .int v2]) (rest := []) (v := (some (.int q3.1))) (h' := q3.2) X G (rfl : vwCl[7]? = some (RX7, TX7, 11)) hk (m_X7_dig l D dA b0 r1 v1 v2 h q3 eq3) (cwV 2 X.1.2.2.2.2 gT_X7_dig rfl rfl rfl hdV_X7_dig ⟨(Nat.le_of_ble_eq_true rfl), (Nat.le_of_ble_eq_true rfl)⟩) rfl hl.1 rfl (Nat.le_of_ble_eq_true rfl) dL_law_744 ⟨Nat.le_of_ble_eq_true rfl, Nat.le_of_ble_eq_true rfl⟩ (fun H locs G => ?_)
  refine lv_aload_n X.1.1 X.1.2.1 dL_law_747 rfl (lv_at hl 2 rfl) ?_
  refine lv_aload_n X.1.1 X.1.2.1 dL_law_748 rfl (lv_at hl 0 rfl) ?_
  refine lv_iload_n X.1.1 X.1.2.1 dL_law_749 rfl (lv_at hl 3 rfl) ?_
  refine lv_iconst (v := 1) X.1.1 X.1.2.1 dL_law_750 (by decide) ?_
  refine lv_iadd X.1.1 X.1.2.1 dL_law_751 ?_
  refine zsld X hX hbl hbb G dL_law_752 hf (fun v4 hf => ?_)
  refine lv_aload_n X.1.1 X.1.2.1 dL_law_753 rfl (lv_at hl 0 rfl) ?_
  refine lv_iload_n X.1.1 X.1.2.1 dL_law_754 rfl (lv_at hl 3 rfl) ?_
  refine lv_iconst (v := 2) X.1.1 X.1.2.1 dL_law_755 (by decide) ?_
  refine lv_iadd X.1.1 X.1.2.1 dL_law_756 ?_
  refine zsld X hX hbl hbb G dL_law_757 hf (fun v5 hf => ?_)
  obtain ⟨hk, hf⟩ := zck hf
  obtain ⟨q6, eq6, hf⟩ := Option.bind_eq_some_iff.mp hf
  refine zcV0 (As := [.int v4, .int v5]) (rest := [.int q3.1]) (v := (some (.int q6.1))) (h' := q6.2) X G (rfl : vwCl[8]? = some (RX8, TX8, 24)) hk (m_X8_dig l D dA b0 r2 v4 v5 q3.2 q6 eq6) (cwV 2 X.1.2.2.2.2 gT_X8_dig rfl rfl rfl hdV_X8_dig ⟨(Nat.le_of_ble_eq_true rfl), (Nat.le_of_ble_eq_true rfl)⟩) rfl hl.1 rfl (Nat.le_of_ble_eq_true rfl) dL_law_758 ⟨Nat.le_of_ble_eq_true rfl, Nat.le_of_ble_eq_true rfl⟩ (fun H locs G => ?_)
  refine zic_eq (tgt := 1112) X dL_law_761 (by decide) hf (fun hf => ?_) (fun hf => ?_)
  · exact w_L_law_b1112 X hr hlk hX hbl hbb _ hk18 _ _ _ _ _ _ _ hf G hl
  · refine lv_iconst (v := 0) X.1.1 X.1.2.1 dL_law_764 (by decide) ?_
    cases hf
set_option maxHeartbeats 4000000 in
set_option maxRecDepth 100000 in
theorem w_L_law_b766 {p : Program} {l : Launch} {e : Env} {s : State} {m : MethodId} {below : List Frame} {meth : Method} {c : Code} {D : va_G} {dA : Nat → ClassId} {b0 b : Nat} {xs : Nat → Int32} {L : Nat} (X : zX p s m #[Value.ref b] c cL_law 4 RL lw_tbl D dA) (hr : meth.sig.returnType = ret) (hlk : meth.locks = false) (hX : va_X b L xs s s.heap) (hbl : b < s.heap.size) (hbb : b0 = s.heap.size) {z : Int32} (k18 : Nat → Nat → Int32 → zH → Option (Int32)) (hk18 : ∀ (r1 : Nat) (r2 : Nat) (a3 : Int32) (h : zH) (H : Heap) (locs : List Loc) (ls : Array Slot), k18 r1 r2 a3 h = some z → zG D dA b0 s.heap h H locs → lv_has ls 4 [(0, .ref b), (1, .ref (b0 + r1)), (2, .ref (b0 + r2)), (3, .int a3)] → W p l e room_1 s m #[Value.ref b] below meth c H locs 256 3202 (lw_Z below #[Value.ref b] s) (F0 m 18 ls [])) : ∀ (r1 : Nat) (r2 : Nat) (a3 : Int32) (h : zH) (H : Heap) (locs : List Loc) (ls : Array Slot), f_L_law_b766 xs L k18 r1 r2 a3 h = some z → zG D dA b0 s.heap h H locs → lv_has ls 4 [(0, .ref b), (1, .ref (b0 + r1)), (2, .ref (b0 + r2)), (3, .int a3)] → W p l e room_1 s m #[Value.ref b] below meth c H locs 256 3202 (lw_Z below #[Value.ref b] s) (F0 m 766 ls []) := by
  intro r1 r2 a3 h H locs ls hf G hl
  unfold f_L_law_b766 at hf
  refine lv_aload_n X.1.1 X.1.2.1 dL_law_766 rfl (lv_at hl 1 rfl) ?_
  refine lv_aload_n X.1.1 X.1.2.1 dL_law_767 rfl (lv_at hl 0 rfl) ?_
  refine lv_iload_n X.1.1 X.1.2.1 dL_law_768 rfl (lv_at hl 3 rfl) ?_
  refine lv_iconst (v := 1) X.1.1 X.1.2.1 dL_law_769 (by decide) ?_
  refine lv_iadd X.1.1 X.1.2.1 dL_law_770 ?_
  refine zsld X hX hbl hbb G dL_law_771 hf (fun v1 hf => ?_)
  obtain ⟨hk, hf⟩ := zck hf
  obtain ⟨q2, eq2, hf⟩ := Option.bind_eq_some_iff.mp hf
  refine zcV0 (As := [.int v1]) (rest := []) (v := (some (.int q2))) (h' := h) X G (rfl : vwCl[7]? = some (RX7, TX7, 11)) hk (m_X7_whom l D dA b0 r1 v1 h q2 eq2) (cwV 1 X.1.2.2.2.2 gT_X7_whom rfl rfl rfl hdV_X7_whom ⟨(Nat.le_of_ble_eq_true rfl), (Nat.le_of_ble_eq_true rfl)⟩) rfl hl.1 rfl (Nat.le_of_ble_eq_true rfl) dL_law_772 ⟨Nat.le_of_ble_eq_true rfl, Nat.le_of_ble_eq_true rfl⟩ (fun H locs G => ?_)
  refine lv_aload_n X.1.1 X.1.2.1 dL_law_775 rfl (lv_at hl 2 rfl) ?_
  refine lv_aload_n X.1.1 X.1.2.1 dL_law_776 rfl (lv_at hl 0 rfl) ?_
  refine lv_iload_n X.1.1 X.1.2.1 dL_law_777 rfl (lv_at hl 3 rfl) ?_
  refine lv_iconst (v := 1) X.1.1 X.1.2.1 dL_law_778 (by decide) ?_
  refine lv_iadd X.1.1 X.1.2.1 dL_law_779 ?_
  refine zsld X hX hbl hbb G dL_law_780 hf (fun v3 hf => ?_)
  obtain ⟨hk, hf⟩ := zck hf
  obtain ⟨q4, eq4, hf⟩ := Option.bind_eq_some_iff.mp hf
  refine zcV0 (As := [.int v3]) (rest := [.int q2]) (v := (some (.int q4))) (h' := h) X G (rfl : vwCl[8]? = some (RX8, TX8, 24)) hk (m_X8_whom l D dA b0 r2 v3 h q4 eq4) (cwV 1 X.1.2.2.2.2 gT_X8_whom rfl rfl rfl hdV_X8_whom ⟨(Nat.le_of_ble_eq_true rfl), (Nat.le_of_ble_eq_true rfl)⟩) rfl hl.1 rfl (Nat.le_of_ble_eq_true rfl) dL_law_781 ⟨Nat.le_of_ble_eq_true rfl, Nat.le_of_ble_eq_true rfl⟩ (fun H locs G => ?_)
  refine zic_eq (tgt := 1112) X dL_law_784 (by decide) hf (fun hf => ?_) (fun hf => ?_)
  · exact w_L_law_b1112 X hr hlk hX hbl hbb _ hk18 _ _ _ _ _ _ _ hf G hl
  · refine lv_iconst (v := 0) X.1.1 X.1.2.1 dL_law_787 (by decide) ?_
    cases hf
set_option maxHeartbeats 4000000 in
set_option maxRecDepth 100000 in
theorem w_L_law_b789 {p : Program} {l : Launch} {e : Env} {s : State} {m : MethodId} {below : List Frame} {meth : Method} {c : Code} {D : va_G} {dA : Nat → ClassId} {b0 b : Nat} {xs : Nat → Int32} {L : Nat} (X : zX p s m #[Value.ref b] c cL_law 4 RL lw_tbl D dA) (hr : meth.sig.returnType = ret) (hlk : meth.locks = false) (hX : va_X b L xs s s.heap) (hbl : b < s.heap.size) (hbb : b0 = s.heap.size) {z : Int32} (k18 : Nat → Nat → Int32 → zH → Option (Int32)) (hk18 : ∀ (r1 : Nat) (r2 : Nat) (a3 : Int32) (h : zH) (H : Heap) (locs : List Loc) (ls : Array Slot), k18 r1 r2 a3 h = some z → zG D dA b0 s.heap h H locs → lv_has ls 4 [(0, .ref b), (1, .ref (b0 + r1)), (2, .ref (b0 + r2)), (3, .int a3)] → W p l e room_1 s m #[Value.ref b] below meth c H locs 256 3202 (lw_Z below #[Value.ref b] s) (F0 m 18 ls [])) : ∀ (r1 : Nat) (r2 : Nat) (a3 : Int32) (h : zH) (H : Heap) (locs : List Loc) (ls : Array Slot), f_L_law_b789 xs L k18 r1 r2 a3 h = some z → zG D dA b0 s.heap h H locs → lv_has ls 4 [(0, .ref b), (1, .ref (b0 + r1)), (2, .ref (b0 + r2)), (3, .int a3)] → W p l e room_1 s m #[Value.ref b] below meth c H locs 256 3202 (lw_Z below #[Value.ref b] s) (F0 m 789 ls []) := by
  intro r1 r2 a3 h H locs ls hf G hl
  unfold f_L_law_b789 at hf
  refine lv_aload_n X.1.1 X.1.2.1 dL_law_789 rfl (lv_at hl 1 rfl) ?_
  refine lv_aload_n X.1.1 X.1.2.1 dL_law_790 rfl (lv_at hl 0 rfl) ?_
  refine lv_iload_n X.1.1 X.1.2.1 dL_law_791 rfl (lv_at hl 3 rfl) ?_
  refine lv_iconst (v := 1) X.1.1 X.1.2.1 dL_law_792 (by decide) ?_
  refine lv_iadd X.1.1 X.1.2.1 dL_law_793 ?_
  refine zsld X hX hbl hbb G dL_law_794 hf (fun v1 hf => ?_)
  obtain ⟨hk, hf⟩ := zck hf
  obtain ⟨q2, eq2, hf⟩ := Option.bind_eq_some_iff.mp hf
  refine zcV0 (As := [.int v1]) (rest := []) (v := (some (.int q2))) (h' := h) X G (rfl : vwCl[7]? = some (RX7, TX7, 11)) hk (m_X7_halves l D dA b0 r1 v1 h q2 eq2) (cwV 1 X.1.2.2.2.2 gT_X7_halves rfl rfl rfl hdV_X7_halves ⟨(Nat.le_of_ble_eq_true rfl), (Nat.le_of_ble_eq_true rfl)⟩) rfl hl.1 rfl (Nat.le_of_ble_eq_true rfl) dL_law_795 ⟨Nat.le_of_ble_eq_true rfl, Nat.le_of_ble_eq_true rfl⟩ (fun H locs G => ?_)
  refine lv_aload_n X.1.1 X.1.2.1 dL_law_798 rfl (lv_at hl 2 rfl) ?_
  refine lv_aload_n X.1.1 X.1.2.1 dL_law_799 rfl (lv_at hl 0 rfl) ?_
  refine lv_iload_n X.1.1 X.1.2.1 dL_law_800 rfl (lv_at hl 3 rfl) ?_
  refine lv_iconst (v := 1) X.1.1 X.1.2.1 dL_law_801 (by decide) ?_
  refine lv_iadd X.1.1 X.1.2.1 dL_law_802 ?_
  refine zsld X hX hbl hbb G dL_law_803 hf (fun v3 hf => ?_)
  obtain ⟨hk, hf⟩ := zck hf
  obtain ⟨q4, eq4, hf⟩ := Option.bind_eq_some_iff.mp hf
  refine zcV0 (As := [.int v3]) (rest := [.int q2]) (v := (some (.int q4))) (h' := h) X G (rfl : vwCl[8]? = some (RX8, TX8, 24)) hk (m_X8_halves l D dA b0 r2 v3 h q4 eq4) (cwV 1 X.1.2.2.2.2 gT_X8_halves rfl rfl rfl hdV_X8_halves ⟨(Nat.le_of_ble_eq_true rfl), (Nat.le_of_ble_eq_true rfl)⟩) rfl hl.1 rfl (Nat.le_of_ble_eq_true rfl) dL_law_804 ⟨Nat.le_of_ble_eq_true rfl, Nat.le_of_ble_eq_true rfl⟩ (fun H locs G => ?_)
  refine zic_eq (tgt := 1112) X dL_law_807 (by decide) hf (fun hf => ?_) (fun hf => ?_)
  · exact w_L_law_b1112 X hr hlk hX hbl hbb _ hk18 _ _ _ _ _ _ _ hf G hl
  · refine lv_iconst (v := 0) X.1.1 X.1.2.1 dL_law_810 (by decide) ?_
    cases hf
set_option maxHeartbeats 4000000 in
set_option maxRecDepth 100000 in
theorem w_L_law_b812 {p : Program} {l : Launch} {e : Env} {s : State} {m : MethodId} {below : List Frame} {meth : Method} {c : Code} {D : va_G} {dA : Nat → ClassId} {b0 b : Nat} {xs : Nat → Int32} {L : Nat} (X : zX p s m #[Value.ref b] c cL_law 4 RL lw_tbl D dA) (hr : meth.sig.returnType = ret) (hlk : meth.locks = false) (hX : va_X b L xs s s.heap) (hbl : b < s.heap.size) (hbb : b0 = s.heap.size) {z : Int32} (k18 : Nat → Nat → Int32 → zH → Option (Int32)) (hk18 : ∀ (r1 : Nat) (r2 : Nat) (a3 : Int32) (h : zH) (H : Heap) (locs : List Loc) (ls : Array Slot), k18 r1 r2 a3 h = some z → zG D dA b0 s.heap h H locs → lv_has ls 4 [(0, .ref b), (1, .ref (b0 + r1)), (2, .ref (b0 + r2)), (3, .int a3)] → W p l e room_1 s m #[Value.ref b] below meth c H locs 256 3202 (lw_Z below #[Value.ref b] s) (F0 m 18 ls [])) : ∀ (r1 : Nat) (r2 : Nat) (a3 : Int32) (h : zH) (H : Heap) (locs : List Loc) (ls : Array Slot), f_L_law_b812 xs L k18 r1 r2 a3 h = some z → zG D dA b0 s.heap h H locs → lv_has ls 4 [(0, .ref b), (1, .ref (b0 + r1)), (2, .ref (b0 + r2)), (3, .int a3)] → W p l e room_1 s m #[Value.ref b] below meth c H locs 256 3202 (lw_Z below #[Value.ref b] s) (F0 m 812 ls []) := by
  intro r1 r2 a3 h H locs ls hf G hl
  unfold f_L_law_b812 at hf
  refine lv_aload_n X.1.1 X.1.2.1 dL_law_812 rfl (lv_at hl 1 rfl) ?_
  refine lv_aload_n X.1.1 X.1.2.1 dL_law_813 rfl (lv_at hl 0 rfl) ?_
  refine lv_iload_n X.1.1 X.1.2.1 dL_law_814 rfl (lv_at hl 3 rfl) ?_
  refine lv_iconst (v := 1) X.1.1 X.1.2.1 dL_law_815 (by decide) ?_
  refine lv_iadd X.1.1 X.1.2.1 dL_law_816 ?_
  refine zsld X hX hbl hbb G dL_law_817 hf (fun v1 hf => ?_)
  refine lv_aload_n X.1.1 X.1.2.1 dL_law_818 rfl (lv_at hl 0 rfl) ?_
  refine lv_iload_n X.1.1 X.1.2.1 dL_law_819 rfl (lv_at hl 3 rfl) ?_
  refine lv_iconst (v := 2) X.1.1 X.1.2.1 dL_law_820 (by decide) ?_
  refine lv_iadd X.1.1 X.1.2.1 dL_law_821 ?_
  refine zsld X hX hbl hbb G dL_law_822 hf (fun v2 hf => ?_)
  refine lv_aload_n X.1.1 X.1.2.1 dL_law_823 rfl (lv_at hl 0 rfl) ?_
  refine lv_iload_n X.1.1 X.1.2.1 dL_law_824 rfl (lv_at hl 3 rfl) ?_
  refine lv_iconst (v := 3) X.1.1 X.1.2.1 dL_law_825 (by decide) ?_
  refine lv_iadd X.1.1 X.1.2.1 dL_law_826 ?_
  refine zsld X hX hbl hbb G dL_law_827 hf (fun v3 hf => ?_)
  refine lv_aload_n X.1.1 X.1.2.1 dL_law_828 rfl (lv_at hl 0 rfl) ?_
  refine lv_iload_n X.1.1 X.1.2.1 dL_law_829 rfl (lv_at hl 3 rfl) ?_
  refine lv_iconst (v := 4) X.1.1 X.1.2.1 dL_law_830 (by decide) ?_
  refine lv_iadd X.1.1 X.1.2.1 dL_law_831 ?_
  refine zsld X hX hbl hbb G dL_law_832 hf (fun v4 hf => ?_)
  refine lv_aload_n X.1.1 X.1.2.1 dL_law_833 rfl (lv_at hl 0 rfl) ?_
  refine lv_iload_n X.1.1 X.1.2.1 dL_law_834 rfl (lv_at hl 3 rfl) ?_
  refine lv_iconst (v := 5) X.1.1 X.1.2.1 dL_law_835 (by decide) ?_
  refine lv_iadd X.1.1 X.1.2.1 dL_law_836 ?_
  refine zsld X hX hbl hbb G dL_law_837 hf (fun v5 hf => ?_)
  obtain ⟨hk, hf⟩ := zck hf
  obtain ⟨q6, eq6, hf⟩ := Option.bind_eq_some_iff.mp hf
  refine zcV0 (As := [.int v1, .int v2, .int v3, .int v4, .int v5]) (rest := []) (v := (some (.int q6.1))) (h' := q6.2) X G (rfl : vwCl[7]? = some (RX7, TX7, 11)) hk (m_X7_fits l D dA b0 r1 v1 v2 v3 v4 v5 h q6 eq6) (cwV 5 X.1.2.2.2.2 gT_X7_fits rfl rfl rfl hdV_X7_fits ⟨(Nat.le_of_ble_eq_true rfl), (Nat.le_of_ble_eq_true rfl)⟩) rfl hl.1 rfl (Nat.le_of_ble_eq_true rfl) dL_law_838 ⟨Nat.le_of_ble_eq_true rfl, Nat.le_of_ble_eq_true rfl⟩ (fun H locs G => ?_)
  refine lv_aload_n X.1.1 X.1.2.1 dL_law_841 rfl (lv_at hl 2 rfl) ?_
  refine lv_aload_n X.1.1 X.1.2.1 dL_law_842 rfl (lv_at hl 0 rfl) ?_
  refine lv_iload_n X.1.1 X.1.2.1 dL_law_843 rfl (lv_at hl 3 rfl) ?_
  refine lv_iconst (v := 1) X.1.1 X.1.2.1 dL_law_844 (by decide) ?_
  refine lv_iadd X.1.1 X.1.2.1 dL_law_845 ?_
  refine zsld X hX hbl hbb G dL_law_846 hf (fun v7 hf => ?_)
  refine lv_aload_n X.1.1 X.1.2.1 dL_law_847 rfl (lv_at hl 0 rfl) ?_
  refine lv_iload_n X.1.1 X.1.2.1 dL_law_848 rfl (lv_at hl 3 rfl) ?_
  refine lv_iconst (v := 2) X.1.1 X.1.2.1 dL_law_849 (by decide) ?_
  refine lv_iadd X.1.1 X.1.2.1 dL_law_850 ?_
  refine zsld X hX hbl hbb G dL_law_851 hf (fun v8 hf => ?_)
  refine lv_aload_n X.1.1 X.1.2.1 dL_law_852 rfl (lv_at hl 0 rfl) ?_
  refine lv_iload_n X.1.1 X.1.2.1 dL_law_853 rfl (lv_at hl 3 rfl) ?_
  refine lv_iconst (v := 3) X.1.1 X.1.2.1 dL_law_854 (by decide) ?_
  refine lv_iadd X.1.1 X.1.2.1 dL_law_855 ?_
  refine zsld X hX hbl hbb G dL_law_856 hf (fun v9 hf => ?_)
  refine lv_aload_n X.1.1 X.1.2.1 dL_law_857 rfl (lv_at hl 0 rfl) ?_
  refine lv_iload_n X.1.1 X.1.2.1 dL_law_858 rfl (lv_at hl 3 rfl) ?_
  refine lv_iconst (v := 4) X.1.1 X.1.2.1 dL_law_859 (by decide) ?_
  refine lv_iadd X.1.1 X.1.2.1 dL_law_860 ?_
  refine zsld X hX hbl hbb G dL_law_861 hf (fun v10 hf => ?_)
  refine lv_aload_n X.1.1 X.1.2.1 dL_law_862 rfl (lv_at hl 0 rfl) ?_
  refine lv_iload_n X.1.1 X.1.2.1 dL_law_863 rfl (lv_at hl 3 rfl) ?_
  refine lv_iconst (v := 5) X.1.1 X.1.2.1 dL_law_864 (by decide) ?_
  refine lv_iadd X.1.1 X.1.2.1 dL_law_865 ?_
  refine zsld X hX hbl hbb G dL_law_866 hf (fun v11 hf => ?_)
  obtain ⟨hk, hf⟩ := zck hf
  obtain ⟨q12, eq12, hf⟩ := Option.bind_eq_some_iff.mp hf
  refine zcV0 (As := [.int v7, .int v8, .int v9, .int v10, .int v11]) (rest := [.int q6.1]) (v := (some (.int q12.1))) (h' := q12.2) X G (rfl : vwCl[8]? = some (RX8, TX8, 24)) hk (m_X8_fits l D dA b0 r2 v7 v8 v9 v10 v11 q6.2 q12 eq12) (cwV 5 X.1.2.2.2.2 gT_X8_fits rfl rfl rfl hdV_X8_fits ⟨(Nat.le_of_ble_eq_true rfl), (Nat.le_of_ble_eq_true rfl)⟩) rfl hl.1 rfl (Nat.le_of_ble_eq_true rfl) dL_law_867 ⟨Nat.le_of_ble_eq_true rfl, Nat.le_of_ble_eq_true rfl⟩ (fun H locs G => ?_)
  refine zic_eq (tgt := 1112) X dL_law_870 (by decide) hf (fun hf => ?_) (fun hf => ?_)
  · exact w_L_law_b1112 X hr hlk hX hbl hbb _ hk18 _ _ _ _ _ _ _ hf G hl
  · refine lv_iconst (v := 0) X.1.1 X.1.2.1 dL_law_873 (by decide) ?_
    cases hf
set_option maxHeartbeats 4000000 in
set_option maxRecDepth 100000 in
theorem w_L_law_b875 {p : Program} {l : Launch} {e : Env} {s : State} {m : MethodId} {below : List Frame} {meth : Method} {c : Code} {D : va_G} {dA : Nat → ClassId} {b0 b : Nat} {xs : Nat → Int32} {L : Nat} (X : zX p s m #[Value.ref b] c cL_law 4 RL lw_tbl D dA) (hr : meth.sig.returnType = ret) (hlk : meth.locks = false) (hX : va_X b L xs s s.heap) (hbl : b < s.heap.size) (hbb : b0 = s.heap.size) {z : Int32} (k18 : Nat → Nat → Int32 → zH → Option (Int32)) (hk18 : ∀ (r1 : Nat) (r2 : Nat) (a3 : Int32) (h : zH) (H : Heap) (locs : List Loc) (ls : Array Slot), k18 r1 r2 a3 h = some z → zG D dA b0 s.heap h H locs → lv_has ls 4 [(0, .ref b), (1, .ref (b0 + r1)), (2, .ref (b0 + r2)), (3, .int a3)] → W p l e room_1 s m #[Value.ref b] below meth c H locs 256 3202 (lw_Z below #[Value.ref b] s) (F0 m 18 ls [])) : ∀ (r1 : Nat) (r2 : Nat) (a3 : Int32) (h : zH) (H : Heap) (locs : List Loc) (ls : Array Slot), f_L_law_b875 xs L k18 r1 r2 a3 h = some z → zG D dA b0 s.heap h H locs → lv_has ls 4 [(0, .ref b), (1, .ref (b0 + r1)), (2, .ref (b0 + r2)), (3, .int a3)] → W p l e room_1 s m #[Value.ref b] below meth c H locs 256 3202 (lw_Z below #[Value.ref b] s) (F0 m 875 ls []) := by
  intro r1 r2 a3 h H locs ls hf G hl
  unfold f_L_law_b875 at hf
  refine lv_aload_n X.1.1 X.1.2.1 dL_law_875 rfl (lv_at hl 1 rfl) ?_
  refine lv_aload_n X.1.1 X.1.2.1 dL_law_876 rfl (lv_at hl 0 rfl) ?_
  refine lv_iload_n X.1.1 X.1.2.1 dL_law_877 rfl (lv_at hl 3 rfl) ?_
  refine lv_iconst (v := 1) X.1.1 X.1.2.1 dL_law_878 (by decide) ?_
  refine lv_iadd X.1.1 X.1.2.1 dL_law_879 ?_
  refine zsld X hX hbl hbb G dL_law_880 hf (fun v1 hf => ?_)
  refine lv_aload_n X.1.1 X.1.2.1 dL_law_881 rfl (lv_at hl 0 rfl) ?_
  refine lv_iload_n X.1.1 X.1.2.1 dL_law_882 rfl (lv_at hl 3 rfl) ?_
  refine lv_iconst (v := 2) X.1.1 X.1.2.1 dL_law_883 (by decide) ?_
  refine lv_iadd X.1.1 X.1.2.1 dL_law_884 ?_
  refine zsld X hX hbl hbb G dL_law_885 hf (fun v2 hf => ?_)
  refine lv_aload_n X.1.1 X.1.2.1 dL_law_886 rfl (lv_at hl 0 rfl) ?_
  refine lv_iload_n X.1.1 X.1.2.1 dL_law_887 rfl (lv_at hl 3 rfl) ?_
  refine lv_iconst (v := 3) X.1.1 X.1.2.1 dL_law_888 (by decide) ?_
  refine lv_iadd X.1.1 X.1.2.1 dL_law_889 ?_
  refine zsld X hX hbl hbb G dL_law_890 hf (fun v3 hf => ?_)
  obtain ⟨hk, hf⟩ := zck hf
  obtain ⟨q4, eq4, hf⟩ := Option.bind_eq_some_iff.mp hf
  refine zcV0 (As := [.int v1, .int v2, .int v3]) (rest := []) (v := (some (.int q4.1))) (h' := q4.2) X G (rfl : vwCl[7]? = some (RX7, TX7, 11)) hk (m_X7_moles l D dA b0 r1 v1 v2 v3 h q4 eq4) (cwV 3 X.1.2.2.2.2 gT_X7_moles rfl rfl rfl hdV_X7_moles ⟨(Nat.le_of_ble_eq_true rfl), (Nat.le_of_ble_eq_true rfl)⟩) rfl hl.1 rfl (Nat.le_of_ble_eq_true rfl) dL_law_891 ⟨Nat.le_of_ble_eq_true rfl, Nat.le_of_ble_eq_true rfl⟩ (fun H locs G => ?_)
  refine lv_aload_n X.1.1 X.1.2.1 dL_law_894 rfl (lv_at hl 2 rfl) ?_
  refine lv_aload_n X.1.1 X.1.2.1 dL_law_895 rfl (lv_at hl 0 rfl) ?_
  refine lv_iload_n X.1.1 X.1.2.1 dL_law_896 rfl (lv_at hl 3 rfl) ?_
  refine lv_iconst (v := 1) X.1.1 X.1.2.1 dL_law_897 (by decide) ?_
  refine lv_iadd X.1.1 X.1.2.1 dL_law_898 ?_
  refine zsld X hX hbl hbb G dL_law_899 hf (fun v5 hf => ?_)
  refine lv_aload_n X.1.1 X.1.2.1 dL_law_900 rfl (lv_at hl 0 rfl) ?_
  refine lv_iload_n X.1.1 X.1.2.1 dL_law_901 rfl (lv_at hl 3 rfl) ?_
  refine lv_iconst (v := 2) X.1.1 X.1.2.1 dL_law_902 (by decide) ?_
  refine lv_iadd X.1.1 X.1.2.1 dL_law_903 ?_
  refine zsld X hX hbl hbb G dL_law_904 hf (fun v6 hf => ?_)
  refine lv_aload_n X.1.1 X.1.2.1 dL_law_905 rfl (lv_at hl 0 rfl) ?_
  refine lv_iload_n X.1.1 X.1.2.1 dL_law_906 rfl (lv_at hl 3 rfl) ?_
  refine lv_iconst (v := 3) X.1.1 X.1.2.1 dL_law_907 (by decide) ?_
  refine lv_iadd X.1.1 X.1.2.1 dL_law_908 ?_
  refine zsld X hX hbl hbb G dL_law_909 hf (fun v7 hf => ?_)
  obtain ⟨hk, hf⟩ := zck hf
  obtain ⟨q8, eq8, hf⟩ := Option.bind_eq_some_iff.mp hf
  refine zcV0 (As := [.int v5, .int v6, .int v7]) (rest := [.int q4.1]) (v := (some (.int q8.1))) (h' := q8.2) X G (rfl : vwCl[8]? = some (RX8, TX8, 24)) hk (m_X8_moles l D dA b0 r2 v5 v6 v7 q4.2 q8 eq8) (cwV 3 X.1.2.2.2.2 gT_X8_moles rfl rfl rfl hdV_X8_moles ⟨(Nat.le_of_ble_eq_true rfl), (Nat.le_of_ble_eq_true rfl)⟩) rfl hl.1 rfl (Nat.le_of_ble_eq_true rfl) dL_law_910 ⟨Nat.le_of_ble_eq_true rfl, Nat.le_of_ble_eq_true rfl⟩ (fun H locs G => ?_)
  refine zic_eq (tgt := 1112) X dL_law_913 (by decide) hf (fun hf => ?_) (fun hf => ?_)
  · exact w_L_law_b1112 X hr hlk hX hbl hbb _ hk18 _ _ _ _ _ _ _ hf G hl
  · refine lv_iconst (v := 0) X.1.1 X.1.2.1 dL_law_916 (by decide) ?_
    cases hf
set_option maxHeartbeats 4000000 in
set_option maxRecDepth 100000 in
theorem w_L_law_b918 {p : Program} {l : Launch} {e : Env} {s : State} {m : MethodId} {below : List Frame} {meth : Method} {c : Code} {D : va_G} {dA : Nat → ClassId} {b0 b : Nat} {xs : Nat → Int32} {L : Nat} (X : zX p s m #[Value.ref b] c cL_law 4 RL lw_tbl D dA) (hr : meth.sig.returnType = ret) (hlk : meth.locks = false) (hX : va_X b L xs s s.heap) (hbl : b < s.heap.size) (hbb : b0 = s.heap.size) {z : Int32} (k18 : Nat → Nat → Int32 → zH → Option (Int32)) (hk18 : ∀ (r1 : Nat) (r2 : Nat) (a3 : Int32) (h : zH) (H : Heap) (locs : List Loc) (ls : Array Slot), k18 r1 r2 a3 h = some z → zG D dA b0 s.heap h H locs → lv_has ls 4 [(0, .ref b), (1, .ref (b0 + r1)), (2, .ref (b0 + r2)), (3, .int a3)] → W p l e room_1 s m #[Value.ref b] below meth c H locs 256 3202 (lw_Z below #[Value.ref b] s) (F0 m 18 ls [])) : ∀ (r1 : Nat) (r2 : Nat) (a3 : Int32) (h : zH) (H : Heap) (locs : List Loc) (ls : Array Slot), f_L_law_b918 xs L k18 r1 r2 a3 h = some z → zG D dA b0 s.heap h H locs → lv_has ls 4 [(0, .ref b), (1, .ref (b0 + r1)), (2, .ref (b0 + r2)), (3, .int a3)] → W p l e room_1 s m #[Value.ref b] below meth c H locs 256 3202 (lw_Z below #[Value.ref b] s) (F0 m 918 ls []) := by
  intro r1 r2 a3 h H locs ls hf G hl
  unfold f_L_law_b918 at hf
  refine lv_aload_n X.1.1 X.1.2.1 dL_law_918 rfl (lv_at hl 1 rfl) ?_
  refine lv_aload_n X.1.1 X.1.2.1 dL_law_919 rfl (lv_at hl 0 rfl) ?_
  refine lv_iload_n X.1.1 X.1.2.1 dL_law_920 rfl (lv_at hl 3 rfl) ?_
  refine lv_iconst (v := 1) X.1.1 X.1.2.1 dL_law_921 (by decide) ?_
  refine lv_iadd X.1.1 X.1.2.1 dL_law_922 ?_
  refine zsld X hX hbl hbb G dL_law_923 hf (fun v1 hf => ?_)
  obtain ⟨hk, hf⟩ := zck hf
  obtain ⟨q2, eq2, hf⟩ := Option.bind_eq_some_iff.mp hf
  refine zcV0 (As := [.int v1]) (rest := []) (v := (some (.int q2.1))) (h' := q2.2) X G (rfl : vwCl[7]? = some (RX7, TX7, 11)) hk (m_X7_image l D dA b0 r1 v1 h q2 eq2) (cwV 1 X.1.2.2.2.2 gT_X7_image rfl rfl rfl hdV_X7_image ⟨(Nat.le_of_ble_eq_true rfl), (Nat.le_of_ble_eq_true rfl)⟩) rfl hl.1 rfl (Nat.le_of_ble_eq_true rfl) dL_law_924 ⟨Nat.le_of_ble_eq_true rfl, Nat.le_of_ble_eq_true rfl⟩ (fun H locs G => ?_)
  refine lv_aload_n X.1.1 X.1.2.1 dL_law_927 rfl (lv_at hl 2 rfl) ?_
  refine lv_aload_n X.1.1 X.1.2.1 dL_law_928 rfl (lv_at hl 0 rfl) ?_
  refine lv_iload_n X.1.1 X.1.2.1 dL_law_929 rfl (lv_at hl 3 rfl) ?_
  refine lv_iconst (v := 1) X.1.1 X.1.2.1 dL_law_930 (by decide) ?_
  refine lv_iadd X.1.1 X.1.2.1 dL_law_931 ?_
  refine zsld X hX hbl hbb G dL_law_932 hf (fun v3 hf => ?_)
  obtain ⟨hk, hf⟩ := zck hf
  obtain ⟨q4, eq4, hf⟩ := Option.bind_eq_some_iff.mp hf
  refine zcV0 (As := [.int v3]) (rest := [.int q2.1]) (v := (some (.int q4.1))) (h' := q4.2) X G (rfl : vwCl[8]? = some (RX8, TX8, 24)) hk (m_X8_image l D dA b0 r2 v3 q2.2 q4 eq4) (cwV 1 X.1.2.2.2.2 gT_X8_image rfl rfl rfl hdV_X8_image ⟨(Nat.le_of_ble_eq_true rfl), (Nat.le_of_ble_eq_true rfl)⟩) rfl hl.1 rfl (Nat.le_of_ble_eq_true rfl) dL_law_933 ⟨Nat.le_of_ble_eq_true rfl, Nat.le_of_ble_eq_true rfl⟩ (fun H locs G => ?_)
  refine zic_eq (tgt := 1112) X dL_law_936 (by decide) hf (fun hf => ?_) (fun hf => ?_)
  · exact w_L_law_b1112 X hr hlk hX hbl hbb _ hk18 _ _ _ _ _ _ _ hf G hl
  · refine lv_iconst (v := 0) X.1.1 X.1.2.1 dL_law_939 (by decide) ?_
    cases hf
set_option maxHeartbeats 4000000 in
set_option maxRecDepth 100000 in
theorem w_L_law_b941 {p : Program} {l : Launch} {e : Env} {s : State} {m : MethodId} {below : List Frame} {meth : Method} {c : Code} {D : va_G} {dA : Nat → ClassId} {b0 b : Nat} {xs : Nat → Int32} {L : Nat} (X : zX p s m #[Value.ref b] c cL_law 4 RL lw_tbl D dA) (hr : meth.sig.returnType = ret) (hlk : meth.locks = false) (hX : va_X b L xs s s.heap) (hbl : b < s.heap.size) (hbb : b0 = s.heap.size) {z : Int32} (k18 : Nat → Nat → Int32 → zH → Option (Int32)) (hk18 : ∀ (r1 : Nat) (r2 : Nat) (a3 : Int32) (h : zH) (H : Heap) (locs : List Loc) (ls : Array Slot), k18 r1 r2 a3 h = some z → zG D dA b0 s.heap h H locs → lv_has ls 4 [(0, .ref b), (1, .ref (b0 + r1)), (2, .ref (b0 + r2)), (3, .int a3)] → W p l e room_1 s m #[Value.ref b] below meth c H locs 256 3202 (lw_Z below #[Value.ref b] s) (F0 m 18 ls [])) : ∀ (r1 : Nat) (r2 : Nat) (a3 : Int32) (h : zH) (H : Heap) (locs : List Loc) (ls : Array Slot), f_L_law_b941 xs L k18 r1 r2 a3 h = some z → zG D dA b0 s.heap h H locs → lv_has ls 4 [(0, .ref b), (1, .ref (b0 + r1)), (2, .ref (b0 + r2)), (3, .int a3)] → W p l e room_1 s m #[Value.ref b] below meth c H locs 256 3202 (lw_Z below #[Value.ref b] s) (F0 m 941 ls []) := by
  intro r1 r2 a3 h H locs ls hf G hl
  unfold f_L_law_b941 at hf
  refine lv_aload_n X.1.1 X.1.2.1 dL_law_941 rfl (lv_at hl 1 rfl) ?_
  refine lv_aload_n X.1.1 X.1.2.1 dL_law_942 rfl (lv_at hl 0 rfl) ?_
  refine lv_iload_n X.1.1 X.1.2.1 dL_law_943 rfl (lv_at hl 3 rfl) ?_
  refine lv_iconst (v := 1) X.1.1 X.1.2.1 dL_law_944 (by decide) ?_
  refine lv_iadd X.1.1 X.1.2.1 dL_law_945 ?_
  refine zsld X hX hbl hbb G dL_law_946 hf (fun v1 hf => ?_)
  obtain ⟨hk, hf⟩ := zck hf
  obtain ⟨q2, eq2, hf⟩ := Option.bind_eq_some_iff.mp hf
  refine zcV0 (As := [.int v1]) (rest := []) (v := (some (.int q2.1))) (h' := q2.2) X G (rfl : vwCl[7]? = some (RX7, TX7, 11)) hk (m_X7_restore l D dA b0 r1 v1 h q2 eq2) (cwV 1 X.1.2.2.2.2 gT_X7_restore rfl rfl rfl hdV_X7_restore ⟨(Nat.le_of_ble_eq_true rfl), (Nat.le_of_ble_eq_true rfl)⟩) rfl hl.1 rfl (Nat.le_of_ble_eq_true rfl) dL_law_947 ⟨Nat.le_of_ble_eq_true rfl, Nat.le_of_ble_eq_true rfl⟩ (fun H locs G => ?_)
  refine lv_aload_n X.1.1 X.1.2.1 dL_law_950 rfl (lv_at hl 2 rfl) ?_
  refine lv_aload_n X.1.1 X.1.2.1 dL_law_951 rfl (lv_at hl 0 rfl) ?_
  refine lv_iload_n X.1.1 X.1.2.1 dL_law_952 rfl (lv_at hl 3 rfl) ?_
  refine lv_iconst (v := 1) X.1.1 X.1.2.1 dL_law_953 (by decide) ?_
  refine lv_iadd X.1.1 X.1.2.1 dL_law_954 ?_
  refine zsld X hX hbl hbb G dL_law_955 hf (fun v3 hf => ?_)
  obtain ⟨hk, hf⟩ := zck hf
  obtain ⟨q4, eq4, hf⟩ := Option.bind_eq_some_iff.mp hf
  refine zcV0 (As := [.int v3]) (rest := [.int q2.1]) (v := (some (.int q4.1))) (h' := q4.2) X G (rfl : vwCl[8]? = some (RX8, TX8, 24)) hk (m_X8_restore l D dA b0 r2 v3 q2.2 q4 eq4) (cwV 1 X.1.2.2.2.2 gT_X8_restore rfl rfl rfl hdV_X8_restore ⟨(Nat.le_of_ble_eq_true rfl), (Nat.le_of_ble_eq_true rfl)⟩) rfl hl.1 rfl (Nat.le_of_ble_eq_true rfl) dL_law_956 ⟨Nat.le_of_ble_eq_true rfl, Nat.le_of_ble_eq_true rfl⟩ (fun H locs G => ?_)
  refine zic_eq (tgt := 1112) X dL_law_959 (by decide) hf (fun hf => ?_) (fun hf => ?_)
  · exact w_L_law_b1112 X hr hlk hX hbl hbb _ hk18 _ _ _ _ _ _ _ hf G hl
  · refine lv_iconst (v := 0) X.1.1 X.1.2.1 dL_law_962 (by decide) ?_
    cases hf
set_option maxHeartbeats 4000000 in
set_option maxRecDepth 100000 in
theorem w_L_law_b964 {p : Program} {l : Launch} {e : Env} {s : State} {m : MethodId} {below : List Frame} {meth : Method} {c : Code} {D : va_G} {dA : Nat → ClassId} {b0 b : Nat} {xs : Nat → Int32} {L : Nat} (X : zX p s m #[Value.ref b] c cL_law 4 RL lw_tbl D dA) (hr : meth.sig.returnType = ret) (hlk : meth.locks = false) (hX : va_X b L xs s s.heap) (hbl : b < s.heap.size) (hbb : b0 = s.heap.size) {z : Int32} (k18 : Nat → Nat → Int32 → zH → Option (Int32)) (hk18 : ∀ (r1 : Nat) (r2 : Nat) (a3 : Int32) (h : zH) (H : Heap) (locs : List Loc) (ls : Array Slot), k18 r1 r2 a3 h = some z → zG D dA b0 s.heap h H locs → lv_has ls 4 [(0, .ref b), (1, .ref (b0 + r1)), (2, .ref (b0 + r2)), (3, .int a3)] → W p l e room_1 s m #[Value.ref b] below meth c H locs 256 3202 (lw_Z below #[Value.ref b] s) (F0 m 18 ls [])) : ∀ (r1 : Nat) (r2 : Nat) (a3 : Int32) (h : zH) (H : Heap) (locs : List Loc) (ls : Array Slot), f_L_law_b964 xs L k18 r1 r2 a3 h = some z → zG D dA b0 s.heap h H locs → lv_has ls 4 [(0, .ref b), (1, .ref (b0 + r1)), (2, .ref (b0 + r2)), (3, .int a3)] → W p l e room_1 s m #[Value.ref b] below meth c H locs 256 3202 (lw_Z below #[Value.ref b] s) (F0 m 964 ls []) := by
  intro r1 r2 a3 h H locs ls hf G hl
  unfold f_L_law_b964 at hf
  refine lv_aload_n X.1.1 X.1.2.1 dL_law_964 rfl (lv_at hl 1 rfl) ?_
  refine lv_aload_n X.1.1 X.1.2.1 dL_law_965 rfl (lv_at hl 0 rfl) ?_
  refine lv_iload_n X.1.1 X.1.2.1 dL_law_966 rfl (lv_at hl 3 rfl) ?_
  refine lv_iconst (v := 1) X.1.1 X.1.2.1 dL_law_967 (by decide) ?_
  refine lv_iadd X.1.1 X.1.2.1 dL_law_968 ?_
  refine zsld X hX hbl hbb G dL_law_969 hf (fun v1 hf => ?_)
  obtain ⟨hk, hf⟩ := zck hf
  obtain ⟨q2, eq2, hf⟩ := Option.bind_eq_some_iff.mp hf
  refine zcV0 (As := [.int v1]) (rest := []) (v := (some (.int q2))) (h' := h) X G (rfl : vwCl[7]? = some (RX7, TX7, 11)) hk (m_X7_kind l D dA b0 r1 v1 h q2 eq2) (cwV 1 X.1.2.2.2.2 gT_X7_kind rfl rfl rfl hdV_X7_kind ⟨(Nat.le_of_ble_eq_true rfl), (Nat.le_of_ble_eq_true rfl)⟩) rfl hl.1 rfl (Nat.le_of_ble_eq_true rfl) dL_law_970 ⟨Nat.le_of_ble_eq_true rfl, Nat.le_of_ble_eq_true rfl⟩ (fun H locs G => ?_)
  refine lv_aload_n X.1.1 X.1.2.1 dL_law_973 rfl (lv_at hl 2 rfl) ?_
  refine lv_aload_n X.1.1 X.1.2.1 dL_law_974 rfl (lv_at hl 0 rfl) ?_
  refine lv_iload_n X.1.1 X.1.2.1 dL_law_975 rfl (lv_at hl 3 rfl) ?_
  refine lv_iconst (v := 1) X.1.1 X.1.2.1 dL_law_976 (by decide) ?_
  refine lv_iadd X.1.1 X.1.2.1 dL_law_977 ?_
  refine zsld X hX hbl hbb G dL_law_978 hf (fun v3 hf => ?_)
  obtain ⟨hk, hf⟩ := zck hf
  obtain ⟨q4, eq4, hf⟩ := Option.bind_eq_some_iff.mp hf
  refine zcV0 (As := [.int v3]) (rest := [.int q2]) (v := (some (.int q4))) (h' := h) X G (rfl : vwCl[8]? = some (RX8, TX8, 24)) hk (m_X8_kind l D dA b0 r2 v3 h q4 eq4) (cwV 1 X.1.2.2.2.2 gT_X8_kind rfl rfl rfl hdV_X8_kind ⟨(Nat.le_of_ble_eq_true rfl), (Nat.le_of_ble_eq_true rfl)⟩) rfl hl.1 rfl (Nat.le_of_ble_eq_true rfl) dL_law_979 ⟨Nat.le_of_ble_eq_true rfl, Nat.le_of_ble_eq_true rfl⟩ (fun H locs G => ?_)
  refine zic_eq (tgt := 1112) X dL_law_982 (by decide) hf (fun hf => ?_) (fun hf => ?_)
  · exact w_L_law_b1112 X hr hlk hX hbl hbb _ hk18 _ _ _ _ _ _ _ hf G hl
  · refine lv_iconst (v := 0) X.1.1 X.1.2.1 dL_law_985 (by decide) ?_
    cases hf
set_option maxHeartbeats 4000000 in
set_option maxRecDepth 100000 in
theorem w_L_law_b987 {p : Program} {l : Launch} {e : Env} {s : State} {m : MethodId} {below : List Frame} {meth : Method} {c : Code} {D : va_G} {dA : Nat → ClassId} {b0 b : Nat} {xs : Nat → Int32} {L : Nat} (X : zX p s m #[Value.ref b] c cL_law 4 RL lw_tbl D dA) (hr : meth.sig.returnType = ret) (hlk : meth.locks = false) (hX : va_X b L xs s s.heap) (hbl : b < s.heap.size) (hbb : b0 = s.heap.size) {z : Int32} (k18 : Nat → Nat → Int32 → zH → Option (Int32)) (hk18 : ∀ (r1 : Nat) (r2 : Nat) (a3 : Int32) (h : zH) (H : Heap) (locs : List Loc) (ls : Array Slot), k18 r1 r2 a3 h = some z → zG D dA b0 s.heap h H locs → lv_has ls 4 [(0, .ref b), (1, .ref (b0 + r1)), (2, .ref (b0 + r2)), (3, .int a3)] → W p l e room_1 s m #[Value.ref b] below meth c H locs 256 3202 (lw_Z below #[Value.ref b] s) (F0 m 18 ls [])) : ∀ (r1 : Nat) (r2 : Nat) (a3 : Int32) (h : zH) (H : Heap) (locs : List Loc) (ls : Array Slot), f_L_law_b987 xs L k18 r1 r2 a3 h = some z → zG D dA b0 s.heap h H locs → lv_has ls 4 [(0, .ref b), (1, .ref (b0 + r1)), (2, .ref (b0 + r2)), (3, .int a3)] → W p l e room_1 s m #[Value.ref b] below meth c H locs 256 3202 (lw_Z below #[Value.ref b] s) (F0 m 987 ls []) := by
  intro r1 r2 a3 h H locs ls hf G hl
  unfold f_L_law_b987 at hf
  refine lv_aload_n X.1.1 X.1.2.1 dL_law_987 rfl (lv_at hl 1 rfl) ?_
  refine lv_aload_n X.1.1 X.1.2.1 dL_law_988 rfl (lv_at hl 0 rfl) ?_
  refine lv_iload_n X.1.1 X.1.2.1 dL_law_989 rfl (lv_at hl 3 rfl) ?_
  refine lv_iconst (v := 1) X.1.1 X.1.2.1 dL_law_990 (by decide) ?_
  refine lv_iadd X.1.1 X.1.2.1 dL_law_991 ?_
  refine zsld X hX hbl hbb G dL_law_992 hf (fun v1 hf => ?_)
  refine lv_aload_n X.1.1 X.1.2.1 dL_law_993 rfl (lv_at hl 0 rfl) ?_
  refine lv_iload_n X.1.1 X.1.2.1 dL_law_994 rfl (lv_at hl 3 rfl) ?_
  refine lv_iconst (v := 2) X.1.1 X.1.2.1 dL_law_995 (by decide) ?_
  refine lv_iadd X.1.1 X.1.2.1 dL_law_996 ?_
  refine zsld X hX hbl hbb G dL_law_997 hf (fun v2 hf => ?_)
  obtain ⟨hk, hf⟩ := zck hf
  obtain ⟨q3, eq3, hf⟩ := Option.bind_eq_some_iff.mp hf
  refine zcV0 (As := [.int v1, .int v2]) (rest := []) (v := (some (.int q3.1))) (h' := q3.2) X G (rfl : vwCl[7]? = some (RX7, TX7, 11)) hk (m_X7_as l D dA b0 r1 v1 v2 h q3 eq3) (cwV 2 X.1.2.2.2.2 gT_X7_as rfl rfl rfl hdV_X7_as ⟨(Nat.le_of_ble_eq_true rfl), (Nat.le_of_ble_eq_true rfl)⟩) rfl hl.1 rfl (Nat.le_of_ble_eq_true rfl) dL_law_998 ⟨Nat.le_of_ble_eq_true rfl, Nat.le_of_ble_eq_true rfl⟩ (fun H locs G => ?_)
  refine lv_aload_n X.1.1 X.1.2.1 dL_law_1001 rfl (lv_at hl 2 rfl) ?_
  refine lv_aload_n X.1.1 X.1.2.1 dL_law_1002 rfl (lv_at hl 0 rfl) ?_
  refine lv_iload_n X.1.1 X.1.2.1 dL_law_1003 rfl (lv_at hl 3 rfl) ?_
  refine lv_iconst (v := 1) X.1.1 X.1.2.1 dL_law_1004 (by decide) ?_
  refine lv_iadd X.1.1 X.1.2.1 dL_law_1005 ?_
  refine zsld X hX hbl hbb G dL_law_1006 hf (fun v4 hf => ?_)
  refine lv_aload_n X.1.1 X.1.2.1 dL_law_1007 rfl (lv_at hl 0 rfl) ?_
  refine lv_iload_n X.1.1 X.1.2.1 dL_law_1008 rfl (lv_at hl 3 rfl) ?_
  refine lv_iconst (v := 2) X.1.1 X.1.2.1 dL_law_1009 (by decide) ?_
  refine lv_iadd X.1.1 X.1.2.1 dL_law_1010 ?_
  refine zsld X hX hbl hbb G dL_law_1011 hf (fun v5 hf => ?_)
  obtain ⟨hk, hf⟩ := zck hf
  obtain ⟨q6, eq6, hf⟩ := Option.bind_eq_some_iff.mp hf
  refine zcV0 (As := [.int v4, .int v5]) (rest := [.int q3.1]) (v := (some (.int q6.1))) (h' := q6.2) X G (rfl : vwCl[8]? = some (RX8, TX8, 24)) hk (m_X8_as l D dA b0 r2 v4 v5 q3.2 q6 eq6) (cwV 2 X.1.2.2.2.2 gT_X8_as rfl rfl rfl hdV_X8_as ⟨(Nat.le_of_ble_eq_true rfl), (Nat.le_of_ble_eq_true rfl)⟩) rfl hl.1 rfl (Nat.le_of_ble_eq_true rfl) dL_law_1012 ⟨Nat.le_of_ble_eq_true rfl, Nat.le_of_ble_eq_true rfl⟩ (fun H locs G => ?_)
  refine zic_eq (tgt := 1112) X dL_law_1015 (by decide) hf (fun hf => ?_) (fun hf => ?_)
  · exact w_L_law_b1112 X hr hlk hX hbl hbb _ hk18 _ _ _ _ _ _ _ hf G hl
  · refine lv_iconst (v := 0) X.1.1 X.1.2.1 dL_law_1018 (by decide) ?_
    cases hf
set_option maxHeartbeats 4000000 in
set_option maxRecDepth 100000 in
theorem w_L_law_b1020 {p : Program} {l : Launch} {e : Env} {s : State} {m : MethodId} {below : List Frame} {meth : Method} {c : Code} {D : va_G} {dA : Nat → ClassId} {b0 b : Nat} {xs : Nat → Int32} {L : Nat} (X : zX p s m #[Value.ref b] c cL_law 4 RL lw_tbl D dA) (hr : meth.sig.returnType = ret) (hlk : meth.locks = false) (hX : va_X b L xs s s.heap) (hbl : b < s.heap.size) (hbb : b0 = s.heap.size) {z : Int32} (k18 : Nat → Nat → Int32 → zH → Option (Int32)) (hk18 : ∀ (r1 : Nat) (r2 : Nat) (a3 : Int32) (h : zH) (H : Heap) (locs : List Loc) (ls : Array Slot), k18 r1 r2 a3 h = some z → zG D dA b0 s.heap h H locs → lv_has ls 4 [(0, .ref b), (1, .ref (b0 + r1)), (2, .ref (b0 + r2)), (3, .int a3)] → W p l e room_1 s m #[Value.ref b] below meth c H locs 256 3202 (lw_Z below #[Value.ref b] s) (F0 m 18 ls [])) : ∀ (r1 : Nat) (r2 : Nat) (a3 : Int32) (h : zH) (H : Heap) (locs : List Loc) (ls : Array Slot), f_L_law_b1020 xs L k18 r1 r2 a3 h = some z → zG D dA b0 s.heap h H locs → lv_has ls 4 [(0, .ref b), (1, .ref (b0 + r1)), (2, .ref (b0 + r2)), (3, .int a3)] → W p l e room_1 s m #[Value.ref b] below meth c H locs 256 3202 (lw_Z below #[Value.ref b] s) (F0 m 1020 ls []) := by
  intro r1 r2 a3 h H locs ls hf G hl
  unfold f_L_law_b1020 at hf
  refine lv_aload_n X.1.1 X.1.2.1 dL_law_1020 rfl (lv_at hl 1 rfl) ?_
  refine lv_aload_n X.1.1 X.1.2.1 dL_law_1021 rfl (lv_at hl 0 rfl) ?_
  refine lv_iload_n X.1.1 X.1.2.1 dL_law_1022 rfl (lv_at hl 3 rfl) ?_
  refine lv_iconst (v := 1) X.1.1 X.1.2.1 dL_law_1023 (by decide) ?_
  refine lv_iadd X.1.1 X.1.2.1 dL_law_1024 ?_
  refine zsld X hX hbl hbb G dL_law_1025 hf (fun v1 hf => ?_)
  refine lv_aload_n X.1.1 X.1.2.1 dL_law_1026 rfl (lv_at hl 0 rfl) ?_
  refine lv_iload_n X.1.1 X.1.2.1 dL_law_1027 rfl (lv_at hl 3 rfl) ?_
  refine lv_iconst (v := 2) X.1.1 X.1.2.1 dL_law_1028 (by decide) ?_
  refine lv_iadd X.1.1 X.1.2.1 dL_law_1029 ?_
  refine zsld X hX hbl hbb G dL_law_1030 hf (fun v2 hf => ?_)
  obtain ⟨hk, hf⟩ := zck hf
  obtain ⟨q3, eq3, hf⟩ := Option.bind_eq_some_iff.mp hf
  refine zcV0 (As := [.int v1, .int v2]) (rest := []) (v := (some (.int q3.1))) (h' := q3.2) X G (rfl : vwCl[7]? = some (RX7, TX7, 11)) hk (m_X7_ask l D dA b0 r1 v1 v2 h q3 eq3) (cwV 2 X.1.2.2.2.2 gT_X7_ask rfl rfl rfl hdV_X7_ask ⟨(Nat.le_of_ble_eq_true rfl), (Nat.le_of_ble_eq_true rfl)⟩) rfl hl.1 rfl (Nat.le_of_ble_eq_true rfl) dL_law_1031 ⟨Nat.le_of_ble_eq_true rfl, Nat.le_of_ble_eq_true rfl⟩ (fun H locs G => ?_)
  refine lv_aload_n X.1.1 X.1.2.1 dL_law_1034 rfl (lv_at hl 2 rfl) ?_
  refine lv_aload_n X.1.1 X.1.2.1 dL_law_1035 rfl (lv_at hl 0 rfl) ?_
  refine lv_iload_n X.1.1 X.1.2.1 dL_law_1036 rfl (lv_at hl 3 rfl) ?_
  refine lv_iconst (v := 1) X.1.1 X.1.2.1 dL_law_1037 (by decide) ?_
  refine lv_iadd X.1.1 X.1.2.1 dL_law_1038 ?_
  refine zsld X hX hbl hbb G dL_law_1039 hf (fun v4 hf => ?_)
  refine lv_aload_n X.1.1 X.1.2.1 dL_law_1040 rfl (lv_at hl 0 rfl) ?_
  refine lv_iload_n X.1.1 X.1.2.1 dL_law_1041 rfl (lv_at hl 3 rfl) ?_
  refine lv_iconst (v := 2) X.1.1 X.1.2.1 dL_law_1042 (by decide) ?_
  refine lv_iadd X.1.1 X.1.2.1 dL_law_1043 ?_
  refine zsld X hX hbl hbb G dL_law_1044 hf (fun v5 hf => ?_)
  obtain ⟨hk, hf⟩ := zck hf
  obtain ⟨q6, eq6, hf⟩ := Option.bind_eq_some_iff.mp hf
  refine zcV0 (As := [.int v4, .int v5]) (rest := [.int q3.1]) (v := (some (.int q6.1))) (h' := q6.2) X G (rfl : vwCl[8]? = some (RX8, TX8, 24)) hk (m_X8_ask l D dA b0 r2 v4 v5 q3.2 q6 eq6) (cwV 2 X.1.2.2.2.2 gT_X8_ask rfl rfl rfl hdV_X8_ask ⟨(Nat.le_of_ble_eq_true rfl), (Nat.le_of_ble_eq_true rfl)⟩) rfl hl.1 rfl (Nat.le_of_ble_eq_true rfl) dL_law_1045 ⟨Nat.le_of_ble_eq_true rfl, Nat.le_of_ble_eq_true rfl⟩ (fun H locs G => ?_)
  refine zic_eq (tgt := 1112) X dL_law_1048 (by decide) hf (fun hf => ?_) (fun hf => ?_)
  · exact w_L_law_b1112 X hr hlk hX hbl hbb _ hk18 _ _ _ _ _ _ _ hf G hl
  · refine lv_iconst (v := 0) X.1.1 X.1.2.1 dL_law_1051 (by decide) ?_
    cases hf
set_option maxHeartbeats 4000000 in
set_option maxRecDepth 100000 in
theorem w_L_law_b1053 {p : Program} {l : Launch} {e : Env} {s : State} {m : MethodId} {below : List Frame} {meth : Method} {c : Code} {D : va_G} {dA : Nat → ClassId} {b0 b : Nat} {xs : Nat → Int32} {L : Nat} (X : zX p s m #[Value.ref b] c cL_law 4 RL lw_tbl D dA) (hr : meth.sig.returnType = ret) (hlk : meth.locks = false) (hX : va_X b L xs s s.heap) (hbl : b < s.heap.size) (hbb : b0 = s.heap.size) {z : Int32} (k18 : Nat → Nat → Int32 → zH → Option (Int32)) (hk18 : ∀ (r1 : Nat) (r2 : Nat) (a3 : Int32) (h : zH) (H : Heap) (locs : List Loc) (ls : Array Slot), k18 r1 r2 a3 h = some z → zG D dA b0 s.heap h H locs → lv_has ls 4 [(0, .ref b), (1, .ref (b0 + r1)), (2, .ref (b0 + r2)), (3, .int a3)] → W p l e room_1 s m #[Value.ref b] below meth c H locs 256 3202 (lw_Z below #[Value.ref b] s) (F0 m 18 ls [])) : ∀ (r1 : Nat) (r2 : Nat) (a3 : Int32) (h : zH) (H : Heap) (locs : List Loc) (ls : Array Slot), f_L_law_b1053 xs L k18 r1 r2 a3 h = some z → zG D dA b0 s.heap h H locs → lv_has ls 4 [(0, .ref b), (1, .ref (b0 + r1)), (2, .ref (b0 + r2)), (3, .int a3)] → W p l e room_1 s m #[Value.ref b] below meth c H locs 256 3202 (lw_Z below #[Value.ref b] s) (F0 m 1053 ls []) := by
  intro r1 r2 a3 h H locs ls hf G hl
  unfold f_L_law_b1053 at hf
  refine lv_aload_n X.1.1 X.1.2.1 dL_law_1053 rfl (lv_at hl 1 rfl) ?_
  refine lv_aload_n X.1.1 X.1.2.1 dL_law_1054 rfl (lv_at hl 0 rfl) ?_
  refine lv_iload_n X.1.1 X.1.2.1 dL_law_1055 rfl (lv_at hl 3 rfl) ?_
  refine lv_iconst (v := 1) X.1.1 X.1.2.1 dL_law_1056 (by decide) ?_
  refine lv_iadd X.1.1 X.1.2.1 dL_law_1057 ?_
  refine zsld X hX hbl hbb G dL_law_1058 hf (fun v1 hf => ?_)
  obtain ⟨hk, hf⟩ := zck hf
  obtain ⟨q2, eq2, hf⟩ := Option.bind_eq_some_iff.mp hf
  refine zcV0 (As := [.int v1]) (rest := []) (v := (some (.int q2))) (h' := h) X G (rfl : vwCl[7]? = some (RX7, TX7, 11)) hk (m_X7_trace l D dA b0 r1 v1 h q2 eq2) (cwV 1 X.1.2.2.2.2 gT_X7_trace rfl rfl rfl hdV_X7_trace ⟨(Nat.le_of_ble_eq_true rfl), (Nat.le_of_ble_eq_true rfl)⟩) rfl hl.1 rfl (Nat.le_of_ble_eq_true rfl) dL_law_1059 ⟨Nat.le_of_ble_eq_true rfl, Nat.le_of_ble_eq_true rfl⟩ (fun H locs G => ?_)
  refine lv_aload_n X.1.1 X.1.2.1 dL_law_1062 rfl (lv_at hl 2 rfl) ?_
  refine lv_aload_n X.1.1 X.1.2.1 dL_law_1063 rfl (lv_at hl 0 rfl) ?_
  refine lv_iload_n X.1.1 X.1.2.1 dL_law_1064 rfl (lv_at hl 3 rfl) ?_
  refine lv_iconst (v := 1) X.1.1 X.1.2.1 dL_law_1065 (by decide) ?_
  refine lv_iadd X.1.1 X.1.2.1 dL_law_1066 ?_
  refine zsld X hX hbl hbb G dL_law_1067 hf (fun v3 hf => ?_)
  obtain ⟨hk, hf⟩ := zck hf
  obtain ⟨q4, eq4, hf⟩ := Option.bind_eq_some_iff.mp hf
  refine zcV0 (As := [.int v3]) (rest := [.int q2]) (v := (some (.int q4))) (h' := h) X G (rfl : vwCl[8]? = some (RX8, TX8, 24)) hk (m_X8_trace l D dA b0 r2 v3 h q4 eq4) (cwV 1 X.1.2.2.2.2 gT_X8_trace rfl rfl rfl hdV_X8_trace ⟨(Nat.le_of_ble_eq_true rfl), (Nat.le_of_ble_eq_true rfl)⟩) rfl hl.1 rfl (Nat.le_of_ble_eq_true rfl) dL_law_1068 ⟨Nat.le_of_ble_eq_true rfl, Nat.le_of_ble_eq_true rfl⟩ (fun H locs G => ?_)
  refine zic_eq (tgt := 1112) X dL_law_1071 (by decide) hf (fun hf => ?_) (fun hf => ?_)
  · exact w_L_law_b1112 X hr hlk hX hbl hbb _ hk18 _ _ _ _ _ _ _ hf G hl
  · refine lv_iconst (v := 0) X.1.1 X.1.2.1 dL_law_1074 (by decide) ?_
    cases hf
set_option maxHeartbeats 4000000 in
set_option maxRecDepth 100000 in
theorem w_L_law_b1076 {p : Program} {l : Launch} {e : Env} {s : State} {m : MethodId} {below : List Frame} {meth : Method} {c : Code} {D : va_G} {dA : Nat → ClassId} {b0 b : Nat} {xs : Nat → Int32} {L : Nat} (X : zX p s m #[Value.ref b] c cL_law 4 RL lw_tbl D dA) (hr : meth.sig.returnType = ret) (hlk : meth.locks = false) (hX : va_X b L xs s s.heap) (hbl : b < s.heap.size) (hbb : b0 = s.heap.size) {z : Int32} (k18 : Nat → Nat → Int32 → zH → Option (Int32)) (hk18 : ∀ (r1 : Nat) (r2 : Nat) (a3 : Int32) (h : zH) (H : Heap) (locs : List Loc) (ls : Array Slot), k18 r1 r2 a3 h = some z → zG D dA b0 s.heap h H locs → lv_has ls 4 [(0, .ref b), (1, .ref (b0 + r1)), (2, .ref (b0 + r2)), (3, .int a3)] → W p l e room_1 s m #[Value.ref b] below meth c H locs 256 3202 (lw_Z below #[Value.ref b] s) (F0 m 18 ls [])) : ∀ (r1 : Nat) (r2 : Nat) (a3 : Int32) (h : zH) (H : Heap) (locs : List Loc) (ls : Array Slot), f_L_law_b1076 xs L k18 r1 r2 a3 h = some z → zG D dA b0 s.heap h H locs → lv_has ls 4 [(0, .ref b), (1, .ref (b0 + r1)), (2, .ref (b0 + r2)), (3, .int a3)] → W p l e room_1 s m #[Value.ref b] below meth c H locs 256 3202 (lw_Z below #[Value.ref b] s) (F0 m 1076 ls []) := by
  intro r1 r2 a3 h H locs ls hf G hl
  unfold f_L_law_b1076 at hf
  refine lv_aload_n X.1.1 X.1.2.1 dL_law_1076 rfl (lv_at hl 1 rfl) ?_
  refine lv_aload_n X.1.1 X.1.2.1 dL_law_1077 rfl (lv_at hl 0 rfl) ?_
  refine lv_iload_n X.1.1 X.1.2.1 dL_law_1078 rfl (lv_at hl 3 rfl) ?_
  refine lv_iconst (v := 1) X.1.1 X.1.2.1 dL_law_1079 (by decide) ?_
  refine lv_iadd X.1.1 X.1.2.1 dL_law_1080 ?_
  refine zsld X hX hbl hbb G dL_law_1081 hf (fun v1 hf => ?_)
  obtain ⟨hk, hf⟩ := zck hf
  obtain ⟨q2, eq2, hf⟩ := Option.bind_eq_some_iff.mp hf
  refine zcV0 (As := [.int v1]) (rest := []) (v := (some (.int q2))) (h' := h) X G (rfl : vwCl[7]? = some (RX7, TX7, 11)) hk (m_X7_count l D dA b0 r1 v1 h q2 eq2) (cwV 1 X.1.2.2.2.2 gT_X7_count rfl rfl rfl hdV_X7_count ⟨(Nat.le_of_ble_eq_true rfl), (Nat.le_of_ble_eq_true rfl)⟩) rfl hl.1 rfl (Nat.le_of_ble_eq_true rfl) dL_law_1082 ⟨Nat.le_of_ble_eq_true rfl, Nat.le_of_ble_eq_true rfl⟩ (fun H locs G => ?_)
  refine lv_aload_n X.1.1 X.1.2.1 dL_law_1085 rfl (lv_at hl 2 rfl) ?_
  refine lv_aload_n X.1.1 X.1.2.1 dL_law_1086 rfl (lv_at hl 0 rfl) ?_
  refine lv_iload_n X.1.1 X.1.2.1 dL_law_1087 rfl (lv_at hl 3 rfl) ?_
  refine lv_iconst (v := 1) X.1.1 X.1.2.1 dL_law_1088 (by decide) ?_
  refine lv_iadd X.1.1 X.1.2.1 dL_law_1089 ?_
  refine zsld X hX hbl hbb G dL_law_1090 hf (fun v3 hf => ?_)
  obtain ⟨hk, hf⟩ := zck hf
  obtain ⟨q4, eq4, hf⟩ := Option.bind_eq_some_iff.mp hf
  refine zcV0 (As := [.int v3]) (rest := [.int q2]) (v := (some (.int q4))) (h' := h) X G (rfl : vwCl[8]? = some (RX8, TX8, 24)) hk (m_X8_count l D dA b0 r2 v3 h q4 eq4) (cwV 1 X.1.2.2.2.2 gT_X8_count rfl rfl rfl hdV_X8_count ⟨(Nat.le_of_ble_eq_true rfl), (Nat.le_of_ble_eq_true rfl)⟩) rfl hl.1 rfl (Nat.le_of_ble_eq_true rfl) dL_law_1091 ⟨Nat.le_of_ble_eq_true rfl, Nat.le_of_ble_eq_true rfl⟩ (fun H locs G => ?_)
  refine zic_eq (tgt := 1112) X dL_law_1094 (by decide) hf (fun hf => ?_) (fun hf => ?_)
  · exact w_L_law_b1112 X hr hlk hX hbl hbb _ hk18 _ _ _ _ _ _ _ hf G hl
  · refine lv_iconst (v := 0) X.1.1 X.1.2.1 dL_law_1097 (by decide) ?_
    cases hf
set_option maxHeartbeats 4000000 in
set_option maxRecDepth 100000 in
theorem w_L_law_b1099 {p : Program} {l : Launch} {e : Env} {s : State} {m : MethodId} {below : List Frame} {meth : Method} {c : Code} {D : va_G} {dA : Nat → ClassId} {b0 b : Nat} {xs : Nat → Int32} {L : Nat} (X : zX p s m #[Value.ref b] c cL_law 4 RL lw_tbl D dA) (hr : meth.sig.returnType = ret) (hlk : meth.locks = false) (hX : va_X b L xs s s.heap) (hbl : b < s.heap.size) (hbb : b0 = s.heap.size) {z : Int32} (k18 : Nat → Nat → Int32 → zH → Option (Int32)) (hk18 : ∀ (r1 : Nat) (r2 : Nat) (a3 : Int32) (h : zH) (H : Heap) (locs : List Loc) (ls : Array Slot), k18 r1 r2 a3 h = some z → zG D dA b0 s.heap h H locs → lv_has ls 4 [(0, .ref b), (1, .ref (b0 + r1)), (2, .ref (b0 + r2)), (3, .int a3)] → W p l e room_1 s m #[Value.ref b] below meth c H locs 256 3202 (lw_Z below #[Value.ref b] s) (F0 m 18 ls [])) : ∀ (r1 : Nat) (r2 : Nat) (a3 : Int32) (h : zH) (H : Heap) (locs : List Loc) (ls : Array Slot), f_L_law_b1099 xs L k18 r1 r2 a3 h = some z → zG D dA b0 s.heap h H locs → lv_has ls 4 [(0, .ref b), (1, .ref (b0 + r1)), (2, .ref (b0 + r2)), (3, .int a3)] → W p l e room_1 s m #[Value.ref b] below meth c H locs 256 3202 (lw_Z below #[Value.ref b] s) (F0 m 1099 ls []) := by
  intro r1 r2 a3 h H locs ls hf G hl
  unfold f_L_law_b1099 at hf
  refine lv_aload_n X.1.1 X.1.2.1 dL_law_1099 rfl (lv_at hl 1 rfl) ?_
  obtain ⟨hk, hf⟩ := zck hf
  obtain ⟨q1, eq1, hf⟩ := Option.bind_eq_some_iff.mp hf
  refine zcV0 (As := []) (rest := []) (v := (some (.int q1))) (h' := h) X G (rfl : vwCl[7]? = some (RX7, TX7, 11)) hk (m_X7_status l D dA b0 r1 h q1 eq1) (cwV 0 X.1.2.2.2.2 gT_X7_status rfl rfl rfl hdV_X7_status ⟨(Nat.le_of_ble_eq_true rfl), (Nat.le_of_ble_eq_true rfl)⟩) rfl hl.1 rfl (Nat.le_of_ble_eq_true rfl) dL_law_1100 ⟨Nat.le_of_ble_eq_true rfl, Nat.le_of_ble_eq_true rfl⟩ (fun H locs G => ?_)
  refine lv_aload_n X.1.1 X.1.2.1 dL_law_1103 rfl (lv_at hl 2 rfl) ?_
  obtain ⟨hk, hf⟩ := zck hf
  obtain ⟨q2, eq2, hf⟩ := Option.bind_eq_some_iff.mp hf
  refine zcV0 (As := []) (rest := [.int q1]) (v := (some (.int q2))) (h' := h) X G (rfl : vwCl[8]? = some (RX8, TX8, 24)) hk (m_X8_status l D dA b0 r2 h q2 eq2) (cwV 0 X.1.2.2.2.2 gT_X8_status rfl rfl rfl hdV_X8_status ⟨(Nat.le_of_ble_eq_true rfl), (Nat.le_of_ble_eq_true rfl)⟩) rfl hl.1 rfl (Nat.le_of_ble_eq_true rfl) dL_law_1104 ⟨Nat.le_of_ble_eq_true rfl, Nat.le_of_ble_eq_true rfl⟩ (fun H locs G => ?_)
  refine zic_eq (tgt := 1112) X dL_law_1107 (by decide) hf (fun hf => ?_) (fun hf => ?_)
  · exact w_L_law_b1112 X hr hlk hX hbl hbb _ hk18 _ _ _ _ _ _ _ hf G hl
  · refine lv_iconst (v := 0) X.1.1 X.1.2.1 dL_law_1110 (by decide) ?_
    cases hf
set_option maxHeartbeats 4000000 in
set_option maxRecDepth 100000 in
theorem w_L_law_b18 {p : Program} {l : Launch} {e : Env} {s : State} {m : MethodId} {below : List Frame} {meth : Method} {c : Code} {D : va_G} {dA : Nat → ClassId} {b0 b : Nat} {xs : Nat → Int32} {L : Nat} (X : zX p s m #[Value.ref b] c cL_law 4 RL lw_tbl D dA) (hr : meth.sig.returnType = ret) (hlk : meth.locks = false) (hX : va_X b L xs s s.heap) (hbl : b < s.heap.size) (hbb : b0 = s.heap.size) {z : Int32} : ∀ (n : Nat), ∀ (r1 : Nat) (r2 : Nat) (a3 : Int32) (h : zH) (H : Heap) (locs : List Loc) (ls : Array Slot), f_L_law_b18 xs L n r1 r2 a3 h = some z → zG D dA b0 s.heap h H locs → lv_has ls 4 [(0, .ref b), (1, .ref (b0 + r1)), (2, .ref (b0 + r2)), (3, .int a3)] → W p l e room_1 s m #[Value.ref b] below meth c H locs 256 3202 (lw_Z below #[Value.ref b] s) (F0 m 18 ls []) := by
  intro n
  induction n with
  | zero =>
    intro r1 r2 a3 h H locs ls hf
    cases hf
  | succ n ih =>
    intro r1 r2 a3 h H locs ls hf G hl
    rw [f_L_law_b18] at hf
    refine lv_iload_n X.1.1 X.1.2.1 dL_law_18 rfl (lv_at hl 3 rfl) ?_
    refine lv_aload_n X.1.1 X.1.2.1 dL_law_19 rfl (lv_at hl 0 rfl) ?_
    refine va_slen X.1.1 X.1.2.1 hX hbl (zLb hbb hbl) G.2.2 dL_law_20 ?_
    refine lv_bipush (v := 6) X.1.1 X.1.2.1 dL_law_21 (by decide) ?_
    refine lv_isub X.1.1 X.1.2.1 dL_law_23 ?_
    refine zic_gt (tgt := 1118) X dL_law_24 (by decide) hf (fun hf => ?_) (fun hf => ?_)
    · refine lv_iconst (v := 1) X.1.1 X.1.2.1 dL_law_1118 (by decide) ?_
      refine va_forget (fun q hq => by rw [← hbb]; exact G.2.2.2.2 q hq) ?_
      refine W.widen (k := 600000) (n := 7302249) (Nat.le_of_ble_eq_true rfl) (Nat.le_of_ble_eq_true rfl) ?_
      exact lw_ret X.1.1 X.1.2.1 hr hlk dL_law_1119
    · refine lv_aload_n X.1.1 X.1.2.1 dL_law_27 rfl (lv_at hl 0 rfl) ?_
      refine lv_iload_n X.1.1 X.1.2.1 dL_law_28 rfl (lv_at hl 3 rfl) ?_
      refine zsld X hX hbl hbb G dL_law_29 hf (fun v1 hf => ?_)
      refine lv_bipush (v := 31) X.1.1 X.1.2.1 dL_law_30 (by decide) ?_
      refine lv_iand X.1.1 X.1.2.1 dL_law_32 ?_
      by_cases c0 : (v1 &&& (31 : Int32)) = 0
      · rw [if_pos c0] at hf
        refine lv_tableIn (off := 143) (tgt := 176) X.1.1 X.1.2.1 dL_law_33 (by rw [c0]; decide) (by rw [c0]; decide) (by rw [c0]; decide) (by decide) ?_
        exact w_L_law_b176 X hr hlk hX hbl hbb _ ih _ _ _ _ _ _ _ hf G hl
      rw [if_neg c0] at hf
      by_cases c1 : (v1 &&& (31 : Int32)) = 1
      · rw [if_pos c1] at hf
        refine lv_tableIn (off := 186) (tgt := 219) X.1.1 X.1.2.1 dL_law_33 (by rw [c1]; decide) (by rw [c1]; decide) (by rw [c1]; decide) (by decide) ?_
        exact w_L_law_b219 X hr hlk hX hbl hbb _ ih _ _ _ _ _ _ _ hf G hl
      rw [if_neg c1] at hf
      by_cases c2 : (v1 &&& (31 : Int32)) = 2
      · rw [if_pos c2] at hf
        refine lv_tableIn (off := 229) (tgt := 262) X.1.1 X.1.2.1 dL_law_33 (by rw [c2]; decide) (by rw [c2]; decide) (by rw [c2]; decide) (by decide) ?_
        exact w_L_law_b262 X hr hlk hX hbl hbb _ ih _ _ _ _ _ _ _ hf G hl
      rw [if_neg c2] at hf
      by_cases c3 : (v1 &&& (31 : Int32)) = 3
      · rw [if_pos c3] at hf
        refine lv_tableIn (off := 292) (tgt := 325) X.1.1 X.1.2.1 dL_law_33 (by rw [c3]; decide) (by rw [c3]; decide) (by rw [c3]; decide) (by decide) ?_
        exact w_L_law_b325 X hr hlk hX hbl hbb _ ih _ _ _ _ _ _ _ hf G hl
      rw [if_neg c3] at hf
      by_cases c4 : (v1 &&& (31 : Int32)) = 4
      · rw [if_pos c4] at hf
        refine lv_tableIn (off := 315) (tgt := 348) X.1.1 X.1.2.1 dL_law_33 (by rw [c4]; decide) (by rw [c4]; decide) (by rw [c4]; decide) (by decide) ?_
        exact w_L_law_b348 X hr hlk hX hbl hbb _ ih _ _ _ _ _ _ _ hf G hl
      rw [if_neg c4] at hf
      by_cases c5 : (v1 &&& (31 : Int32)) = 5
      · rw [if_pos c5] at hf
        refine lv_tableIn (off := 338) (tgt := 371) X.1.1 X.1.2.1 dL_law_33 (by rw [c5]; decide) (by rw [c5]; decide) (by rw [c5]; decide) (by decide) ?_
        exact w_L_law_b371 X hr hlk hX hbl hbb _ ih _ _ _ _ _ _ _ hf G hl
      rw [if_neg c5] at hf
      by_cases c6 : (v1 &&& (31 : Int32)) = 6
      · rw [if_pos c6] at hf
        refine lv_tableIn (off := 351) (tgt := 384) X.1.1 X.1.2.1 dL_law_33 (by rw [c6]; decide) (by rw [c6]; decide) (by rw [c6]; decide) (by decide) ?_
        exact w_L_law_b384 X hr hlk hX hbl hbb _ ih _ _ _ _ _ _ _ hf G hl
      rw [if_neg c6] at hf
      by_cases c7 : (v1 &&& (31 : Int32)) = 7
      · rw [if_pos c7] at hf
        refine lv_tableIn (off := 364) (tgt := 397) X.1.1 X.1.2.1 dL_law_33 (by rw [c7]; decide) (by rw [c7]; decide) (by rw [c7]; decide) (by decide) ?_
        exact w_L_law_b397 X hr hlk hX hbl hbb _ ih _ _ _ _ _ _ _ hf G hl
      rw [if_neg c7] at hf
      by_cases c8 : (v1 &&& (31 : Int32)) = 8
      · rw [if_pos c8] at hf
        refine lv_tableIn (off := 387) (tgt := 420) X.1.1 X.1.2.1 dL_law_33 (by rw [c8]; decide) (by rw [c8]; decide) (by rw [c8]; decide) (by decide) ?_
        exact w_L_law_b420 X hr hlk hX hbl hbb _ ih _ _ _ _ _ _ _ hf G hl
      rw [if_neg c8] at hf
      by_cases c9 : (v1 &&& (31 : Int32)) = 9
      · rw [if_pos c9] at hf
        refine lv_tableIn (off := 430) (tgt := 463) X.1.1 X.1.2.1 dL_law_33 (by rw [c9]; decide) (by rw [c9]; decide) (by rw [c9]; decide) (by decide) ?_
        exact w_L_law_b463 X hr hlk hX hbl hbb _ ih _ _ _ _ _ _ _ hf G hl
      rw [if_neg c9] at hf
      by_cases c10 : (v1 &&& (31 : Int32)) = 10
      · rw [if_pos c10] at hf
        refine lv_tableIn (off := 473) (tgt := 506) X.1.1 X.1.2.1 dL_law_33 (by rw [c10]; decide) (by rw [c10]; decide) (by rw [c10]; decide) (by decide) ?_
        exact w_L_law_b506 X hr hlk hX hbl hbb _ ih _ _ _ _ _ _ _ hf G hl
      rw [if_neg c10] at hf
      by_cases c11 : (v1 &&& (31 : Int32)) = 11
      · rw [if_pos c11] at hf
        refine lv_tableIn (off := 486) (tgt := 519) X.1.1 X.1.2.1 dL_law_33 (by rw [c11]; decide) (by rw [c11]; decide) (by rw [c11]; decide) (by decide) ?_
        exact w_L_law_b519 X hr hlk hX hbl hbb _ ih _ _ _ _ _ _ _ hf G hl
      rw [if_neg c11] at hf
      by_cases c12 : (v1 &&& (31 : Int32)) = 12
      · rw [if_pos c12] at hf
        refine lv_tableIn (off := 519) (tgt := 552) X.1.1 X.1.2.1 dL_law_33 (by rw [c12]; decide) (by rw [c12]; decide) (by rw [c12]; decide) (by decide) ?_
        exact w_L_law_b552 X hr hlk hX hbl hbb _ ih _ _ _ _ _ _ _ hf G hl
      rw [if_neg c12] at hf
      by_cases c13 : (v1 &&& (31 : Int32)) = 13
      · rw [if_pos c13] at hf
        refine lv_tableIn (off := 542) (tgt := 575) X.1.1 X.1.2.1 dL_law_33 (by rw [c13]; decide) (by rw [c13]; decide) (by rw [c13]; decide) (by decide) ?_
        exact w_L_law_b575 X hr hlk hX hbl hbb _ ih _ _ _ _ _ _ _ hf G hl
      rw [if_neg c13] at hf
      by_cases c14 : (v1 &&& (31 : Int32)) = 14
      · rw [if_pos c14] at hf
        refine lv_tableIn (off := 575) (tgt := 608) X.1.1 X.1.2.1 dL_law_33 (by rw [c14]; decide) (by rw [c14]; decide) (by rw [c14]; decide) (by decide) ?_
        exact w_L_law_b608 X hr hlk hX hbl hbb _ ih _ _ _ _ _ _ _ hf G hl
      rw [if_neg c14] at hf
      by_cases c15 : (v1 &&& (31 : Int32)) = 15
      · rw [if_pos c15] at hf
        refine lv_tableIn (off := 598) (tgt := 631) X.1.1 X.1.2.1 dL_law_33 (by rw [c15]; decide) (by rw [c15]; decide) (by rw [c15]; decide) (by decide) ?_
        exact w_L_law_b631 X hr hlk hX hbl hbb _ ih _ _ _ _ _ _ _ hf G hl
      rw [if_neg c15] at hf
      by_cases c16 : (v1 &&& (31 : Int32)) = 16
      · rw [if_pos c16] at hf
        refine lv_tableIn (off := 621) (tgt := 654) X.1.1 X.1.2.1 dL_law_33 (by rw [c16]; decide) (by rw [c16]; decide) (by rw [c16]; decide) (by decide) ?_
        exact w_L_law_b654 X hr hlk hX hbl hbb _ ih _ _ _ _ _ _ _ hf G hl
      rw [if_neg c16] at hf
      by_cases c17 : (v1 &&& (31 : Int32)) = 17
      · rw [if_pos c17] at hf
        refine lv_tableIn (off := 644) (tgt := 677) X.1.1 X.1.2.1 dL_law_33 (by rw [c17]; decide) (by rw [c17]; decide) (by rw [c17]; decide) (by decide) ?_
        exact w_L_law_b677 X hr hlk hX hbl hbb _ ih _ _ _ _ _ _ _ hf G hl
      rw [if_neg c17] at hf
      by_cases c18 : (v1 &&& (31 : Int32)) = 18
      · rw [if_pos c18] at hf
        refine lv_tableIn (off := 667) (tgt := 700) X.1.1 X.1.2.1 dL_law_33 (by rw [c18]; decide) (by rw [c18]; decide) (by rw [c18]; decide) (by decide) ?_
        exact w_L_law_b700 X hr hlk hX hbl hbb _ ih _ _ _ _ _ _ _ hf G hl
      rw [if_neg c18] at hf
      by_cases c19 : (v1 &&& (31 : Int32)) = 19
      · rw [if_pos c19] at hf
        refine lv_tableIn (off := 700) (tgt := 733) X.1.1 X.1.2.1 dL_law_33 (by rw [c19]; decide) (by rw [c19]; decide) (by rw [c19]; decide) (by decide) ?_
        exact w_L_law_b733 X hr hlk hX hbl hbb _ ih _ _ _ _ _ _ _ hf G hl
      rw [if_neg c19] at hf
      by_cases c20 : (v1 &&& (31 : Int32)) = 20
      · rw [if_pos c20] at hf
        refine lv_tableIn (off := 733) (tgt := 766) X.1.1 X.1.2.1 dL_law_33 (by rw [c20]; decide) (by rw [c20]; decide) (by rw [c20]; decide) (by decide) ?_
        exact w_L_law_b766 X hr hlk hX hbl hbb _ ih _ _ _ _ _ _ _ hf G hl
      rw [if_neg c20] at hf
      by_cases c21 : (v1 &&& (31 : Int32)) = 21
      · rw [if_pos c21] at hf
        refine lv_tableIn (off := 756) (tgt := 789) X.1.1 X.1.2.1 dL_law_33 (by rw [c21]; decide) (by rw [c21]; decide) (by rw [c21]; decide) (by decide) ?_
        exact w_L_law_b789 X hr hlk hX hbl hbb _ ih _ _ _ _ _ _ _ hf G hl
      rw [if_neg c21] at hf
      by_cases c22 : (v1 &&& (31 : Int32)) = 22
      · rw [if_pos c22] at hf
        refine lv_tableIn (off := 779) (tgt := 812) X.1.1 X.1.2.1 dL_law_33 (by rw [c22]; decide) (by rw [c22]; decide) (by rw [c22]; decide) (by decide) ?_
        exact w_L_law_b812 X hr hlk hX hbl hbb _ ih _ _ _ _ _ _ _ hf G hl
      rw [if_neg c22] at hf
      by_cases c23 : (v1 &&& (31 : Int32)) = 23
      · rw [if_pos c23] at hf
        refine lv_tableIn (off := 842) (tgt := 875) X.1.1 X.1.2.1 dL_law_33 (by rw [c23]; decide) (by rw [c23]; decide) (by rw [c23]; decide) (by decide) ?_
        exact w_L_law_b875 X hr hlk hX hbl hbb _ ih _ _ _ _ _ _ _ hf G hl
      rw [if_neg c23] at hf
      by_cases c24 : (v1 &&& (31 : Int32)) = 24
      · rw [if_pos c24] at hf
        refine lv_tableIn (off := 885) (tgt := 918) X.1.1 X.1.2.1 dL_law_33 (by rw [c24]; decide) (by rw [c24]; decide) (by rw [c24]; decide) (by decide) ?_
        exact w_L_law_b918 X hr hlk hX hbl hbb _ ih _ _ _ _ _ _ _ hf G hl
      rw [if_neg c24] at hf
      by_cases c25 : (v1 &&& (31 : Int32)) = 25
      · rw [if_pos c25] at hf
        refine lv_tableIn (off := 908) (tgt := 941) X.1.1 X.1.2.1 dL_law_33 (by rw [c25]; decide) (by rw [c25]; decide) (by rw [c25]; decide) (by decide) ?_
        exact w_L_law_b941 X hr hlk hX hbl hbb _ ih _ _ _ _ _ _ _ hf G hl
      rw [if_neg c25] at hf
      by_cases c26 : (v1 &&& (31 : Int32)) = 26
      · rw [if_pos c26] at hf
        refine lv_tableIn (off := 931) (tgt := 964) X.1.1 X.1.2.1 dL_law_33 (by rw [c26]; decide) (by rw [c26]; decide) (by rw [c26]; decide) (by decide) ?_
        exact w_L_law_b964 X hr hlk hX hbl hbb _ ih _ _ _ _ _ _ _ hf G hl
      rw [if_neg c26] at hf
      by_cases c27 : (v1 &&& (31 : Int32)) = 27
      · rw [if_pos c27] at hf
        refine lv_tableIn (off := 954) (tgt := 987) X.1.1 X.1.2.1 dL_law_33 (by rw [c27]; decide) (by rw [c27]; decide) (by rw [c27]; decide) (by decide) ?_
        exact w_L_law_b987 X hr hlk hX hbl hbb _ ih _ _ _ _ _ _ _ hf G hl
      rw [if_neg c27] at hf
      by_cases c28 : (v1 &&& (31 : Int32)) = 28
      · rw [if_pos c28] at hf
        refine lv_tableIn (off := 987) (tgt := 1020) X.1.1 X.1.2.1 dL_law_33 (by rw [c28]; decide) (by rw [c28]; decide) (by rw [c28]; decide) (by decide) ?_
        exact w_L_law_b1020 X hr hlk hX hbl hbb _ ih _ _ _ _ _ _ _ hf G hl
      rw [if_neg c28] at hf
      by_cases c29 : (v1 &&& (31 : Int32)) = 29
      · rw [if_pos c29] at hf
        refine lv_tableIn (off := 1020) (tgt := 1053) X.1.1 X.1.2.1 dL_law_33 (by rw [c29]; decide) (by rw [c29]; decide) (by rw [c29]; decide) (by decide) ?_
        exact w_L_law_b1053 X hr hlk hX hbl hbb _ ih _ _ _ _ _ _ _ hf G hl
      rw [if_neg c29] at hf
      by_cases c30 : (v1 &&& (31 : Int32)) = 30
      · rw [if_pos c30] at hf
        refine lv_tableIn (off := 1043) (tgt := 1076) X.1.1 X.1.2.1 dL_law_33 (by rw [c30]; decide) (by rw [c30]; decide) (by rw [c30]; decide) (by decide) ?_
        exact w_L_law_b1076 X hr hlk hX hbl hbb _ ih _ _ _ _ _ _ _ hf G hl
      rw [if_neg c30] at hf
      by_cases c31 : (v1 &&& (31 : Int32)) = 31
      · rw [if_pos c31] at hf
        refine lv_tableIn (off := 1066) (tgt := 1099) X.1.1 X.1.2.1 dL_law_33 (by rw [c31]; decide) (by rw [c31]; decide) (by rw [c31]; decide) (by decide) ?_
        exact w_L_law_b1099 X hr hlk hX hbl hbb _ ih _ _ _ _ _ _ _ hf G hl
      rw [if_neg c31] at hf
      refine lv_tableOut (tgt := 1112) X.1.1 X.1.2.1 dL_law_33 (by have n0 := lv_neT c0 (show ((0 : Int32)).toInt = 0 from by decide); have n1 := lv_neT c1 (show ((1 : Int32)).toInt = 1 from by decide); have n2 := lv_neT c2 (show ((2 : Int32)).toInt = 2 from by decide); have n3 := lv_neT c3 (show ((3 : Int32)).toInt = 3 from by decide); have n4 := lv_neT c4 (show ((4 : Int32)).toInt = 4 from by decide); have n5 := lv_neT c5 (show ((5 : Int32)).toInt = 5 from by decide); have n6 := lv_neT c6 (show ((6 : Int32)).toInt = 6 from by decide); have n7 := lv_neT c7 (show ((7 : Int32)).toInt = 7 from by decide); have n8 := lv_neT c8 (show ((8 : Int32)).toInt = 8 from by decide); have n9 := lv_neT c9 (show ((9 : Int32)).toInt = 9 from by decide); have n10 := lv_neT c10 (show ((10 : Int32)).toInt = 10 from by decide); have n11 := lv_neT c11 (show ((11 : Int32)).toInt = 11 from by decide); have n12 := lv_neT c12 (show ((12 : Int32)).toInt = 12 from by decide); have n13 := lv_neT c13 (show ((13 : Int32)).toInt = 13 from by decide); have n14 := lv_neT c14 (show ((14 : Int32)).toInt = 14 from by decide); have n15 := lv_neT c15 (show ((15 : Int32)).toInt = 15 from by decide); have n16 := lv_neT c16 (show ((16 : Int32)).toInt = 16 from by decide); have n17 := lv_neT c17 (show ((17 : Int32)).toInt = 17 from by decide); have n18 := lv_neT c18 (show ((18 : Int32)).toInt = 18 from by decide); have n19 := lv_neT c19 (show ((19 : Int32)).toInt = 19 from by decide); have n20 := lv_neT c20 (show ((20 : Int32)).toInt = 20 from by decide); have n21 := lv_neT c21 (show ((21 : Int32)).toInt = 21 from by decide); have n22 := lv_neT c22 (show ((22 : Int32)).toInt = 22 from by decide); have n23 := lv_neT c23 (show ((23 : Int32)).toInt = 23 from by decide); have n24 := lv_neT c24 (show ((24 : Int32)).toInt = 24 from by decide); have n25 := lv_neT c25 (show ((25 : Int32)).toInt = 25 from by decide); have n26 := lv_neT c26 (show ((26 : Int32)).toInt = 26 from by decide); have n27 := lv_neT c27 (show ((27 : Int32)).toInt = 27 from by decide); have n28 := lv_neT c28 (show ((28 : Int32)).toInt = 28 from by decide); have n29 := lv_neT c29 (show ((29 : Int32)).toInt = 29 from by decide); have n30 := lv_neT c30 (show ((30 : Int32)).toInt = 30 from by decide); have n31 := lv_neT c31 (show ((31 : Int32)).toInt = 31 from by decide); omega) (by decide) ?_
      exact w_L_law_b1112 X hr hlk hX hbl hbb _ ih _ _ _ _ _ _ _ hf G hl
set_option maxHeartbeats 4000000 in
set_option maxRecDepth 100000 in
theorem w_L_law_start {p : Program} {l : Launch} {e : Env} {s : State} {m : MethodId} {below : List Frame} {meth : Method} {c : Code} {D : va_G} {dA : Nat → ClassId} {b0 b : Nat} {xs : Nat → Int32} {L : Nat} (X : zX p s m #[Value.ref b] c cL_law 4 RL lw_tbl D dA) (hr : meth.sig.returnType = ret) (hlk : meth.locks = false) (hX : va_X b L xs s s.heap) (hbl : b < s.heap.size) (hbb : b0 = s.heap.size) {z : Int32} (h : zH) (H : Heap) (locs : List Loc) (ls : Array Slot) (hf : f_L_law xs L h = some z) (G : zG D dA b0 s.heap h H locs) (hl : lv_has ls 4 [(0, .ref b)]) : W p l e room_1 s m #[Value.ref b] below meth c H locs 0 0 (lw_Z below #[Value.ref b] s) (F0 m 0 ls []) := by
  have hb0 : b0 ≤ s.heap.size := Nat.le_of_eq hbb
  unfold f_L_law at hf
  refine znew (ci := 7) (C := RX7) (T := TX7) (N := 11) (fs := [.null, .null, .null, .null, .null, .null, .null, .null, .null, .int 0, .int 0]) X hb0 G rfl inTX7 tyX7_ok tL_cl7 tL_ins_X7 tL_ini_X7 rfl (fun j hj => by rcases (show j = 0 ∨ j = 1 ∨ j = 2 ∨ j = 3 ∨ j = 4 ∨ j = 5 ∨ j = 6 ∨ j = 7 ∨ j = 8 ∨ j = 9 ∨ j = 10 by omega) with rfl | rfl | rfl | rfl | rfl | rfl | rfl | rfl | rfl | rfl | rfl <;> rfl) (Nat.le_of_ble_eq_true rfl) (Nat.le_of_ble_eq_true rfl) dL_law_0 hf (fun q2 H hf G => ?_)
  refine W.widen (k := 1) (n := 11) (Nat.le_refl _) (Nat.le_refl _) ?_
  refine lv_dup X.1.1 X.1.2.1 dL_law_3 rfl ?_
  obtain ⟨q3, eq3, hf⟩ := Option.bind_eq_some_iff.mp hf
  refine zcI (As := []) (r := q2.1) (rest := [.ref (b0 + q2.1)]) (v := none) (h' := q3) X G (m_X7_init l D dA b0 q2.1 q2.2 q3 eq3) (cwI 0 X.1.2.2.2.2 gT_X7_init rfl rfl rfl (X.1.2.2.2.2 _ tL_ini_X7) (X.1.2.2.2.2 _ tL_ml9) (X.1.2.2.2.2 _ tL_im_X7_init) rfl hdS_X7_init ⟨(Nat.le_of_ble_eq_true rfl), (Nat.le_of_ble_eq_true rfl)⟩) rfl hl.1 rfl (Nat.le_of_ble_eq_true rfl) dL_law_4 ⟨(Nat.le_of_ble_eq_true rfl), (Nat.le_of_ble_eq_true rfl)⟩ (fun H locs G => ?_)
  refine W.widen (k := 241) (n := 1839) (Nat.le_refl _) (Nat.le_refl _) ?_
  refine lv_astore_n (lv' := [(1, .ref (b0 + q2.1)), (0, .ref b)]) X.1.1 X.1.2.1 dL_law_7 rfl hl (by decide) rfl (fun ls hl => ?_)
  refine znew (ci := 8) (C := RX8) (T := TX8) (N := 24) (fs := [.null, .null, .null, .int 0, .null, .null, .null, .null, .int 0, .null, .null, .null, .int 0, .int 0, .null, .int 0, .int 0, .int 0, .int 0, .int 0, .int 0, .null, .null, .null]) X hb0 G rfl inTX8 tyX8_ok tL_cl10 tL_ins_X8 tL_ini_X8 rfl (fun j hj => by rcases (show j = 0 ∨ j = 1 ∨ j = 2 ∨ j = 3 ∨ j = 4 ∨ j = 5 ∨ j = 6 ∨ j = 7 ∨ j = 8 ∨ j = 9 ∨ j = 10 ∨ j = 11 ∨ j = 12 ∨ j = 13 ∨ j = 14 ∨ j = 15 ∨ j = 16 ∨ j = 17 ∨ j = 18 ∨ j = 19 ∨ j = 20 ∨ j = 21 ∨ j = 22 ∨ j = 23 by omega) with rfl | rfl | rfl | rfl | rfl | rfl | rfl | rfl | rfl | rfl | rfl | rfl | rfl | rfl | rfl | rfl | rfl | rfl | rfl | rfl | rfl | rfl | rfl | rfl <;> rfl) (Nat.le_of_ble_eq_true rfl) (Nat.le_of_ble_eq_true rfl) dL_law_8 hf (fun q4 H hf G => ?_)
  refine W.widen (k := 242) (n := 1863) (Nat.le_refl _) (Nat.le_refl _) ?_
  refine lv_dup X.1.1 X.1.2.1 dL_law_11 rfl ?_
  obtain ⟨q5, eq5, hf⟩ := Option.bind_eq_some_iff.mp hf
  refine zcI (As := []) (r := q4.1) (rest := [.ref (b0 + q4.1)]) (v := none) (h' := q5) X G (m_X8_init l D dA b0 q4.1 q4.2 q5 eq5) (cwI 0 X.1.2.2.2.2 gT_X8_init rfl rfl rfl (X.1.2.2.2.2 _ tL_ini_X8) (X.1.2.2.2.2 _ tL_ml12) (X.1.2.2.2.2 _ tL_im_X8_init) rfl hdS_X8_init ⟨(Nat.le_of_ble_eq_true rfl), (Nat.le_of_ble_eq_true rfl)⟩) rfl hl.1 rfl (Nat.le_of_ble_eq_true rfl) dL_law_12 ⟨(Nat.le_of_ble_eq_true rfl), (Nat.le_of_ble_eq_true rfl)⟩ (fun H locs G => ?_)
  refine W.widen (k := 256) (n := 3202) (Nat.le_refl _) (Nat.le_refl _) ?_
  refine lv_astore_n (lv' := [(2, .ref (b0 + q4.1)), (1, .ref (b0 + q2.1)), (0, .ref b)]) X.1.1 X.1.2.1 dL_law_15 rfl hl (by decide) rfl (fun ls hl => ?_)
  refine lv_iconst (v := 0) X.1.1 X.1.2.1 dL_law_16 (by decide) ?_
  refine lv_istore_n (lv' := [(3, .int (0 : Int32)), (2, .ref (b0 + q4.1)), (1, .ref (b0 + q2.1)), (0, .ref b)]) X.1.1 X.1.2.1 dL_law_17 rfl hl (by decide) rfl (fun ls hl => ?_)
  exact w_L_law_b18 X hr hlk hX hbl hbb _ _ _ _ _ _ _ _ hf G (lv_sub hl [3, 2, 1, 0] rfl)
