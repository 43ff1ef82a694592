/-! X3_init -/
abbrev rmX3_init : Room := { frames := 1, cells := 6, slots := 30, locals := 40 }
theorem hdS_X3_init : yX3_init.cls ≠ "java/lang/invoke/MethodHandle" ∧ yX3_init.cls ≠ "java/lang/invoke/VarHandle" ∧ (parseMethodDescriptor yX3_init.desc).map (fun d => d.parameters.length) = some 0 := by decide +kernel
theorem wdX3_init_oL3 : Cond.methodLink RX3 3 objectInit ∈ wsX3_init := by decide +kernel
theorem wdX3_init_oI : Cond.instanceMethod objectInit ∈ wsX3_init := by decide +kernel
theorem wdX3_init_oC : Cond.code objectInit ⟨#[0xb1]⟩ 1 none ∈ wsX3_init := by decide +kernel
theorem inX3_init_X3 : ∀ w ∈ wsX30, w ∈ wsX3_init := by decide +kernel
theorem flX3_init_9 : Cond.fieldLink RX3 9 (TX3 0).1 (TX3 0).2.1 (TX3 0).2.2.1 ∈ wsX3_init := by decide +kernel
theorem flX3_init_15 : Cond.fieldLink RX3 15 (TX3 1).1 (TX3 1).2.1 (TX3 1).2.2.1 ∈ wsX3_init := by decide +kernel
theorem flX3_init_19 : Cond.fieldLink RX3 19 (TX3 2).1 (TX3 2).2.1 (TX3 2).2.2.1 ∈ wsX3_init := by decide +kernel
theorem flX3_init_22 : Cond.fieldLink RX3 22 (TX3 3).1 (TX3 3).2.1 (TX3 3).2.2.1 ∈ wsX3_init := by decide +kernel
theorem flX3_init_25 : Cond.fieldLink RX3 25 (TX3 4).1 (TX3 4).2.1 (TX3 4).2.2.1 ∈ wsX3_init := by decide +kernel
theorem flX3_init_28 : Cond.fieldLink RX3 28 (TX3 5).1 (TX3 5).2.1 (TX3 5).2.2.1 ∈ wsX3_init := by decide +kernel
theorem wdX3_init_ac_int : Cond.arrayClass .int ∈ wsX3_init := by decide +kernel
theorem flX3_init_31 : Cond.fieldLink RX3 31 (TX3 6).1 (TX3 6).2.1 (TX3 6).2.2.1 ∈ wsX3_init := by decide +kernel
theorem flX3_init_35 : Cond.fieldLink RX3 35 (TX3 7).1 (TX3 7).2.1 (TX3 7).2.2.1 ∈ wsX3_init := by decide +kernel
theorem flX3_init_38 : Cond.fieldLink RX3 38 (TX3 8).1 (TX3 8).2.1 (TX3 8).2.2.1 ∈ wsX3_init := by decide +kernel
theorem flX3_init_41 : Cond.fieldLink RX3 41 (TX3 9).1 (TX3 9).2.1 (TX3 9).2.2.1 ∈ wsX3_init := by decide +kernel
theorem flX3_init_44 : Cond.fieldLink RX3 44 (TX3 10).1 (TX3 10).2.1 (TX3 10).2.2.1 ∈ wsX3_init := by decide +kernel
theorem flX3_init_47 : Cond.fieldLink RX3 47 (TX3 11).1 (TX3 11).2.1 (TX3 11).2.2.1 ∈ wsX3_init := by decide +kernel
set_option maxHeartbeats 8000000 in
set_option maxRecDepth 100000 in
theorem m_X3_init (l : Launch) (D : va_G) (dA : Nat → ClassId) (b0 : Nat) (r0 : Nat) (h : zH) (z : zH) (hf : f_X3_init r0 h = some z) : Met l yX3_init wsX3_init rmX3_init (zPc D dA b0 [.ref (b0 + r0)] h) (zQ D dA b0 none z) 6 30 (zA b0) := by
  refine Met.ofW (cc := cX3_init) (maxL := 1) (ret := none) (by decide) rfl ?_
  intro p e s m args below meth c s₁ B hml hv
  obtain ⟨rfl, hP, hz, hK, hN⟩ := hv
  have hr := B.returns
  have hlk := B.notSynchronized
  have hin : meth.name = "<init>" := (name_of_methodNamed B.named B.method).1
  have hb0 : b0 ≤ s.heap.size := by rw [hz]; exact Nat.le_add_right _ _
  have X : zX p s m _ c cX3_init 1 RX3 wsX3_init D dA := ⟨⟨B.exec, B.bytes, hml, findClass_of_methodNamed B.named, atoms_spec (ws := wsX3_init) B.pre⟩, hK, hN⟩
  have G : zG D dA b0 s.heap h s.heap [] := ⟨hP, hz, va_S.rf⟩
  have hl := lv_entry ([.ref (b0 + r0)]) (n := 1) (Nat.le_of_ble_eq_true rfl)
  rw [lg_entry_eq]
  generalize (lg_sl ([.ref (b0 + r0)]) ++ List.replicate (1 - (lg_sl ([.ref (b0 + r0)])).length) Slot.unset).toArray = ls at hl ⊢
  have hl : lv_has ls 1 [(0, .ref (b0 + r0))] := hl
  unfold f_X3_init at hf
  refine lv_aload_n X.1.1 X.1.2.1 dX3_init_0 rfl (lv_at hl 0 rfl) ?_
  refine W.objInit X.1.1 X.1.2.1 X.1.2.2.2.1 (X.1.2.2.2.2 _ wdX3_init_oL3) (X.1.2.2.2.2 _ wdX3_init_oI) (X.1.2.2.2.2 _ wdX3_init_oC) rfl (hl.1.trans X.1.2.2.1.symm) rfl dX3_init_1 (Nat.le_of_ble_eq_true rfl) (Nat.le_of_ble_eq_true rfl) ?_
  refine W.eq (g2 := F0 m 4 ls []) rfl ?_
  refine lv_aload_n X.1.1 X.1.2.1 dX3_init_4 rfl (lv_at hl 0 rfl) ?_
  refine lv_iconst (v := 0) X.1.1 X.1.2.1 dX3_init_5 (by decide) ?_
  refine zputB (ci := 3) (k := 0) (C := RX3) (T := TX3) (N := 12) X G rfl inX3_init_X3 tyX3_ok nmX3 (Nat.le_of_ble_eq_true rfl) flX3_init_9 rfl (by decide +kernel) dX3_init_6 hf (fun h1 H locs hf G => ?_)
  refine lv_aload_n X.1.1 X.1.2.1 dX3_init_9 rfl (lv_at hl 0 rfl) ?_
  refine lv_iconst (v := 0) X.1.1 X.1.2.1 dX3_init_10 (by decide) ?_
  refine zputI (ci := 3) (k := 1) (C := RX3) (T := TX3) (N := 12) X G rfl inX3_init_X3 tyX3_ok nmX3 (Nat.le_of_ble_eq_true rfl) flX3_init_15 rfl (by decide +kernel) dX3_init_11 hf (fun h3 H locs hf G => ?_)
  refine lv_aload_n X.1.1 X.1.2.1 dX3_init_14 rfl (lv_at hl 0 rfl) ?_
  refine lv_iconst (v := 0) X.1.1 X.1.2.1 dX3_init_15 (by decide) ?_
  refine zputI (ci := 3) (k := 2) (C := RX3) (T := TX3) (N := 12) X G rfl inX3_init_X3 tyX3_ok nmX3 (Nat.le_of_ble_eq_true rfl) flX3_init_19 rfl (by decide +kernel) dX3_init_16 hf (fun h4 H locs hf G => ?_)
  refine lv_aload_n X.1.1 X.1.2.1 dX3_init_19 rfl (lv_at hl 0 rfl) ?_
  refine lv_iconst (v := 0) X.1.1 X.1.2.1 dX3_init_20 (by decide) ?_
  refine zputI (ci := 3) (k := 3) (C := RX3) (T := TX3) (N := 12) X G rfl inX3_init_X3 tyX3_ok nmX3 (Nat.le_of_ble_eq_true rfl) flX3_init_22 rfl (by decide +kernel) dX3_init_21 hf (fun h5 H locs hf G => ?_)
  refine lv_aload_n X.1.1 X.1.2.1 dX3_init_24 rfl (lv_at hl 0 rfl) ?_
  refine lv_iconst (v := 0) X.1.1 X.1.2.1 dX3_init_25 (by decide) ?_
  refine zputI (ci := 3) (k := 4) (C := RX3) (T := TX3) (N := 12) X G rfl inX3_init_X3 tyX3_ok nmX3 (Nat.le_of_ble_eq_true rfl) flX3_init_25 rfl (by decide +kernel) dX3_init_26 hf (fun h6 H locs hf G => ?_)
  refine lv_aload_n X.1.1 X.1.2.1 dX3_init_29 rfl (lv_at hl 0 rfl) ?_
  refine lv_iconst (v := 0) X.1.1 X.1.2.1 dX3_init_30 (by decide) ?_
  refine zputI (ci := 3) (k := 5) (C := RX3) (T := TX3) (N := 12) X G rfl inX3_init_X3 tyX3_ok nmX3 (Nat.le_of_ble_eq_true rfl) flX3_init_28 rfl (by decide +kernel) dX3_init_31 hf (fun h7 H locs hf G => ?_)
  refine lv_aload_n X.1.1 X.1.2.1 dX3_init_34 rfl (lv_at hl 0 rfl) ?_
  refine lv_iconst (v := 5) X.1.1 X.1.2.1 dX3_init_35 (by decide) ?_
  refine znewI (N := 5) X hb0 G wdX3_init_ac_int (by decide) (by decide) (Nat.le_of_ble_eq_true rfl) (Nat.le_of_ble_eq_true rfl) (Nat.le_of_ble_eq_true rfl) dX3_init_36 hf (fun q8 H hf G => ?_)
  refine W.widen (k := 1) (n := 5) (Nat.le_refl _) (Nat.le_refl _) ?_
  refine zputF (ty := (.array .int)) (ci := 3) (k := 6) (C := RX3) (T := TX3) (N := 12) X G rfl inX3_init_X3 tyX3_ok nmX3 (Nat.le_of_ble_eq_true rfl) flX3_init_31 rfl hin rfl (by decide +kernel) (fun _ => rfl) (fun _ => rfl) dX3_init_38 hf (fun h9 H locs hf G => ?_)
  refine lv_aload_n X.1.1 X.1.2.1 dX3_init_41 rfl (lv_at hl 0 rfl) ?_
  refine lv_iconst (v := 5) X.1.1 X.1.2.1 dX3_init_42 (by decide) ?_
  refine znewI (N := 5) X hb0 G wdX3_init_ac_int (by decide) (by decide) (Nat.le_of_ble_eq_true rfl) (Nat.le_of_ble_eq_true rfl) (Nat.le_of_ble_eq_true rfl) dX3_init_43 hf (fun q10 H hf G => ?_)
  refine W.widen (k := 2) (n := 10) (Nat.le_refl _) (Nat.le_refl _) ?_
  refine zputF (ty := (.array .int)) (ci := 3) (k := 7) (C := RX3) (T := TX3) (N := 12) X G rfl inX3_init_X3 tyX3_ok nmX3 (Nat.le_of_ble_eq_true rfl) flX3_init_35 rfl hin rfl (by decide +kernel) (fun _ => rfl) (fun _ => rfl) dX3_init_45 hf (fun h11 H locs hf G => ?_)
  refine lv_aload_n X.1.1 X.1.2.1 dX3_init_48 rfl (lv_at hl 0 rfl) ?_
  refine lv_iconst (v := 5) X.1.1 X.1.2.1 dX3_init_49 (by decide) ?_
  refine znewI (N := 5) X hb0 G wdX3_init_ac_int (by decide) (by decide) (Nat.le_of_ble_eq_true rfl) (Nat.le_of_ble_eq_true rfl) (Nat.le_of_ble_eq_true rfl) dX3_init_50 hf (fun q12 H hf G => ?_)
  refine W.widen (k := 3) (n := 15) (Nat.le_refl _) (Nat.le_refl _) ?_
  refine zputF (ty := (.array .int)) (ci := 3) (k := 8) (C := RX3) (T := TX3) (N := 12) X G rfl inX3_init_X3 tyX3_ok nmX3 (Nat.le_of_ble_eq_true rfl) flX3_init_38 rfl hin rfl (by decide +kernel) (fun _ => rfl) (fun _ => rfl) dX3_init_52 hf (fun h13 H locs hf G => ?_)
  refine lv_aload_n X.1.1 X.1.2.1 dX3_init_55 rfl (lv_at hl 0 rfl) ?_
  refine lv_iconst (v := 5) X.1.1 X.1.2.1 dX3_init_56 (by decide) ?_
  refine znewI (N := 5) X hb0 G wdX3_init_ac_int (by decide) (by decide) (Nat.le_of_ble_eq_true rfl) (Nat.le_of_ble_eq_true rfl) (Nat.le_of_ble_eq_true rfl) dX3_init_57 hf (fun q14 H hf G => ?_)
  refine W.widen (k := 4) (n := 20) (Nat.le_refl _) (Nat.le_refl _) ?_
  refine zputF (ty := (.array .int)) (ci := 3) (k := 9) (C := RX3) (T := TX3) (N := 12) X G rfl inX3_init_X3 tyX3_ok nmX3 (Nat.le_of_ble_eq_true rfl) flX3_init_41 rfl hin rfl (by decide +kernel) (fun _ => rfl) (fun _ => rfl) dX3_init_59 hf (fun h15 H locs hf G => ?_)
  refine lv_aload_n X.1.1 X.1.2.1 dX3_init_62 rfl (lv_at hl 0 rfl) ?_
  refine lv_iconst (v := 5) X.1.1 X.1.2.1 dX3_init_63 (by decide) ?_
  refine znewI (N := 5) X hb0 G wdX3_init_ac_int (by decide) (by decide) (Nat.le_of_ble_eq_true rfl) (Nat.le_of_ble_eq_true rfl) (Nat.le_of_ble_eq_true rfl) dX3_init_64 hf (fun q16 H hf G => ?_)
  refine W.widen (k := 5) (n := 25) (Nat.le_refl _) (Nat.le_refl _) ?_
  refine zputF (ty := (.array .int)) (ci := 3) (k := 10) (C := RX3) (T := TX3) (N := 12) X G rfl inX3_init_X3 tyX3_ok nmX3 (Nat.le_of_ble_eq_true rfl) flX3_init_44 rfl hin rfl (by decide +kernel) (fun _ => rfl) (fun _ => rfl) dX3_init_66 hf (fun h17 H locs hf G => ?_)
  refine lv_aload_n X.1.1 X.1.2.1 dX3_init_69 rfl (lv_at hl 0 rfl) ?_
  refine lv_iconst (v := 5) X.1.1 X.1.2.1 dX3_init_70 (by decide) ?_
  refine znewI (N := 5) X hb0 G wdX3_init_ac_int (by decide) (by decide) (Nat.le_of_ble_eq_true rfl) (Nat.le_of_ble_eq_true rfl) (Nat.le_of_ble_eq_true rfl) dX3_init_71 hf (fun q18 H hf G => ?_)
  refine W.widen (k := 6) (n := 30) (Nat.le_refl _) (Nat.le_refl _) ?_
  refine zputF (ty := (.array .int)) (ci := 3) (k := 11) (C := RX3) (T := TX3) (N := 12) X G rfl inX3_init_X3 tyX3_ok nmX3 (Nat.le_of_ble_eq_true rfl) flX3_init_47 rfl hin rfl (by decide +kernel) (fun _ => rfl) (fun _ => rfl) dX3_init_73 hf (fun h19 H locs hf G => ?_)
  exact zretV X hr hlk G hf dX3_init_76
/-! X0_init -/
abbrev rmX0_init : Room := { frames := 2, cells := 169, slots := 1032, locals := 60 }
theorem hdS_X0_init : yX0_init.cls ≠ "java/lang/invoke/MethodHandle" ∧ yX0_init.cls ≠ "java/lang/invoke/VarHandle" ∧ (parseMethodDescriptor yX0_init.desc).map (fun d => d.parameters.length) = some 0 := by decide +kernel
theorem wdX0_init_oL3 : Cond.methodLink RX0 3 objectInit ∈ wsX0_init := by decide +kernel
theorem wdX0_init_oI : Cond.instanceMethod objectInit ∈ wsX0_init := by decide +kernel
theorem wdX0_init_oC : Cond.code objectInit ⟨#[0xb1]⟩ 1 none ∈ wsX0_init := by decide +kernel
theorem wdX0_init_cl9 : Cond.classLink RX0 9 "BuriedHalves$Mine" ∈ wsX0_init := by decide +kernel
theorem inX0_init_X0 : ∀ w ∈ wsX00, w ∈ wsX0_init := by decide +kernel
theorem flX0_init_11 : Cond.fieldLink RX0 11 (TX0 0).1 (TX0 0).2.1 (TX0 0).2.2.1 ∈ wsX0_init := by decide +kernel
theorem flX0_init_17 : Cond.fieldLink RX0 17 (TX0 1).1 (TX0 1).2.1 (TX0 1).2.2.1 ∈ wsX0_init := by decide +kernel
theorem flX0_init_21 : Cond.fieldLink RX0 21 (TX0 2).1 (TX0 2).2.1 (TX0 2).2.2.1 ∈ wsX0_init := by decide +kernel
theorem wdX0_init_ins_X3 : Cond.instantiable RX3 12 ∈ wsX0_init := by decide +kernel
theorem wdX0_init_ini_X3 : Cond.initialized RX3 ∈ wsX0_init := by decide +kernel
theorem inX0_init_X3 : ∀ w ∈ wsX30, w ∈ wsX0_init := by decide +kernel
theorem wdX0_init_im_X3_init : Cond.instanceMethod yX3_init ∈ wsX0_init := by decide +kernel
set_option maxHeartbeats 8000000 in
set_option maxRecDepth 100000 in
theorem m_X0_init (l : Launch) (D : va_G) (dA : Nat → ClassId) (b0 : Nat) (r0 : Nat) (h : zH) (z : zH) (hf : f_X0_init r0 h = some z) : Met l yX0_init wsX0_init rmX0_init (zPc D dA b0 [.ref (b0 + r0)] h) (zQ D dA b0 none z) 169 1032 (zA b0) := by
  refine Met.ofW (cc := cX0_init) (maxL := 2) (ret := none) (by decide) rfl ?_
  intro p e s m args below meth c s₁ B hml hv
  obtain ⟨rfl, hP, hz, hK, hN⟩ := hv
  have hr := B.returns
  have hlk := B.notSynchronized
  have hin : meth.name = "<init>" := (name_of_methodNamed B.named B.method).1
  have hb0 : b0 ≤ s.heap.size := by rw [hz]; exact Nat.le_add_right _ _
  have X : zX p s m _ c cX0_init 2 RX0 wsX0_init D dA := ⟨⟨B.exec, B.bytes, hml, findClass_of_methodNamed B.named, atoms_spec (ws := wsX0_init) B.pre⟩, hK, hN⟩
  have G : zG D dA b0 s.heap h s.heap [] := ⟨hP, hz, va_S.rf⟩
  have hl := lv_entry ([.ref (b0 + r0)]) (n := 2) (Nat.le_of_ble_eq_true rfl)
  rw [lg_entry_eq]
  generalize (lg_sl ([.ref (b0 + r0)]) ++ List.replicate (2 - (lg_sl ([.ref (b0 + r0)])).length) Slot.unset).toArray = ls at hl ⊢
  have hl : lv_has ls 2 [(0, .ref (b0 + r0))] := hl
  unfold f_X0_init at hf
  refine lv_aload_n X.1.1 X.1.2.1 dX0_init_0 rfl (lv_at hl 0 rfl) ?_
  refine W.objInit X.1.1 X.1.2.1 X.1.2.2.2.1 (X.1.2.2.2.2 _ wdX0_init_oL3) (X.1.2.2.2.2 _ wdX0_init_oI) (X.1.2.2.2.2 _ wdX0_init_oC) rfl (hl.1.trans X.1.2.2.1.symm) rfl dX0_init_1 (Nat.le_of_ble_eq_true rfl) (Nat.le_of_ble_eq_true rfl) ?_
  refine W.eq (g2 := F0 m 4 ls []) rfl ?_
  refine lv_aload_n X.1.1 X.1.2.1 dX0_init_4 rfl (lv_at hl 0 rfl) ?_
  refine lv_bipush (v := 24) X.1.1 X.1.2.1 dX0_init_5 (by decide) ?_
  refine znewM (N := 24) X hb0 G wdX0_init_cl9 (by decide) (by decide) (Nat.le_of_ble_eq_true rfl) (Nat.le_of_ble_eq_true rfl) (Nat.le_of_ble_eq_true rfl) dX0_init_7 hf (fun q1 H hf G => ?_)
  refine W.widen (k := 1) (n := 24) (Nat.le_refl _) (Nat.le_refl _) ?_
  refine zputF (ty := (.array (.object "BuriedHalves$Mine"))) (ci := 0) (k := 0) (C := RX0) (T := TX0) (N := 3) X G rfl inX0_init_X0 tyX0_ok nmX0 (Nat.le_of_ble_eq_true rfl) flX0_init_11 rfl hin rfl (by decide +kernel) (fun _ => rfl) (fun _ => rfl) dX0_init_10 hf (fun h2 H locs hf G => ?_)
  refine lv_aload_n X.1.1 X.1.2.1 dX0_init_13 rfl (lv_at hl 0 rfl) ?_
  refine lv_iconst (v := 0) X.1.1 X.1.2.1 dX0_init_14 (by decide) ?_
  refine zputI (ci := 0) (k := 1) (C := RX0) (T := TX0) (N := 3) X G rfl inX0_init_X0 tyX0_ok nmX0 (Nat.le_of_ble_eq_true rfl) flX0_init_17 rfl (by decide +kernel) dX0_init_15 hf (fun h3 H locs hf G => ?_)
  refine lv_aload_n X.1.1 X.1.2.1 dX0_init_18 rfl (lv_at hl 0 rfl) ?_
  refine lv_iconst (v := 0) X.1.1 X.1.2.1 dX0_init_19 (by decide) ?_
  refine zputI (ci := 0) (k := 2) (C := RX0) (T := TX0) (N := 3) X G rfl inX0_init_X0 tyX0_ok nmX0 (Nat.le_of_ble_eq_true rfl) flX0_init_21 rfl (by decide +kernel) dX0_init_20 hf (fun h4 H locs hf G => ?_)
  refine lv_iconst (v := 0) X.1.1 X.1.2.1 dX0_init_23 (by decide) ?_
  refine lv_istore_n (lv' := [(1, .int (0 : Int32)), (0, .ref (b0 + r0))]) X.1.1 X.1.2.1 dX0_init_24 rfl hl (by decide) rfl (fun ls hl => ?_)
  refine lv_iload_n X.1.1 X.1.2.1 dX0_init_25 rfl (lv_at hl 0 rfl) ?_
  refine lv_bipush (v := 24) X.1.1 X.1.2.1 dX0_init_26 (by decide) ?_
  refine lv_icmp_ge (tgt := 50) X.1.1 X.1.2.1 dX0_init_28 (by decide) (fun q => absurd q (by decide)) (fun _ => ?_)
  refine lv_aload_n X.1.1 X.1.2.1 dX0_init_31 rfl (lv_at hl 1 rfl) ?_
  refine zgetR (ci := 0) (k := 0) (C := RX0) (T := TX0) (N := 3) X G rfl inX0_init_X0 (Nat.le_of_ble_eq_true rfl) flX0_init_11 dX0_init_32 hf (fun v5 hf => ?_)
  refine lv_iload_n X.1.1 X.1.2.1 dX0_init_35 rfl (lv_at hl 0 rfl) ?_
  refine znew (ci := 3) (C := RX3) (T := TX3) (N := 12) (fs := [.int 0, .int 0, .int 0, .int 0, .int 0, .int 0, .null, .null, .null, .null, .null, .null]) X hb0 G rfl inX0_init_X3 tyX3_ok wdX0_init_cl9 wdX0_init_ins_X3 wdX0_init_ini_X3 rfl (fun j hj => by rcases (show j = 0 ∨ j = 1 ∨ j = 2 ∨ j = 3 ∨ j = 4 ∨ j = 5 ∨ j = 6 ∨ j = 7 ∨ j = 8 ∨ j = 9 ∨ j = 10 ∨ j = 11 by omega) with rfl | rfl | rfl | rfl | rfl | rfl | rfl | rfl | rfl | rfl | rfl | rfl <;> rfl) (Nat.le_of_ble_eq_true rfl) (Nat.le_of_ble_eq_true rfl) dX0_init_36 hf (fun q6 H hf G => ?_)
  refine W.widen (k := 2) (n := 36) (Nat.le_refl _) (Nat.le_refl _) ?_
  refine lv_dup X.1.1 X.1.2.1 dX0_init_39 rfl ?_
  obtain ⟨q7, eq7, hf⟩ := Option.bind_eq_some_iff.mp hf
  refine zcIN (As := []) (r := q6.1) (rest := [.ref (b0 + q6.1), .int (0 : Int32), .ref (b0 + v5)]) (v := none) (h' := q7) X G (m_X3_init l D dA b0 q6.1 q6.2 q7 eq7) ⟨va_cnB 0 X.1.2.2.2.2 gX0_init_X3_init_n24 rfl rfl rfl (X.2.2.1 _ (List.mem_of_getElem? (i := 2) rfl)) (X.1.2.2.2.2 _ wdX0_init_ini_X3) hdS_X3_init ⟨(Nat.le_of_ble_eq_true rfl), (Nat.le_of_ble_eq_true rfl)⟩, rfl, X.1.2.2.2.2 _ wdX0_init_im_X3_init⟩ rfl hl.1 rfl (Nat.le_of_ble_eq_true rfl) dX0_init_40 ⟨(Nat.le_of_ble_eq_true rfl), (Nat.le_of_ble_eq_true rfl)⟩ (fun H locs G => ?_)
  refine W.widen (k := 8) (n := 66) (Nat.le_refl _) (Nat.le_refl _) ?_
  obtain ⟨⟨fs9, hk⟩, hf⟩ := zck hf
  refine zaast X G dX0_init_43 hk hf (fun h8 H locs hf G => ?_)
  refine lv_iinc (v := 1) (lv' := [(1, .int (1 : Int32)), (0, .ref (b0 + r0))]) X.1.1 X.1.2.1 dX0_init_44 hl (k := 0) rfl (by decide) (by decide) rfl (fun ls hl => ?_)
  refine lv_goto (tgt := 25) X.1.1 X.1.2.1 dX0_init_47 (by decide) ?_
  refine lv_iload_n X.1.1 X.1.2.1 dX0_init_25 rfl (lv_at hl 0 rfl) ?_
  refine lv_bipush (v := 24) X.1.1 X.1.2.1 dX0_init_26 (by decide) ?_
  refine lv_icmp_ge (tgt := 50) X.1.1 X.1.2.1 dX0_init_28 (by decide) (fun q => absurd q (by decide)) (fun _ => ?_)
  refine lv_aload_n X.1.1 X.1.2.1 dX0_init_31 rfl (lv_at hl 1 rfl) ?_
  refine zgetR (ci := 0) (k := 0) (C := RX0) (T := TX0) (N := 3) X G rfl inX0_init_X0 (Nat.le_of_ble_eq_true rfl) flX0_init_11 dX0_init_32 hf (fun v9 hf => ?_)
  refine lv_iload_n X.1.1 X.1.2.1 dX0_init_35 rfl (lv_at hl 0 rfl) ?_
  refine znew (ci := 3) (C := RX3) (T := TX3) (N := 12) (fs := [.int 0, .int 0, .int 0, .int 0, .int 0, .int 0, .null, .null, .null, .null, .null, .null]) X hb0 G rfl inX0_init_X3 tyX3_ok wdX0_init_cl9 wdX0_init_ins_X3 wdX0_init_ini_X3 rfl (fun j hj => by rcases (show j = 0 ∨ j = 1 ∨ j = 2 ∨ j = 3 ∨ j = 4 ∨ j = 5 ∨ j = 6 ∨ j = 7 ∨ j = 8 ∨ j = 9 ∨ j = 10 ∨ j = 11 by omega) with rfl | rfl | rfl | rfl | rfl | rfl | rfl | rfl | rfl | rfl | rfl | rfl <;> rfl) (Nat.le_of_ble_eq_true rfl) (Nat.le_of_ble_eq_true rfl) dX0_init_36 hf (fun q10 H hf G => ?_)
  refine W.widen (k := 9) (n := 78) (Nat.le_refl _) (Nat.le_refl _) ?_
  refine lv_dup X.1.1 X.1.2.1 dX0_init_39 rfl ?_
  obtain ⟨q11, eq11, hf⟩ := Option.bind_eq_some_iff.mp hf
  refine zcIN (As := []) (r := q10.1) (rest := [.ref (b0 + q10.1), .int (1 : Int32), .ref (b0 + v9)]) (v := none) (h' := q11) X G (m_X3_init l D dA b0 q10.1 q10.2 q11 eq11) ⟨va_cnB 0 X.1.2.2.2.2 gX0_init_X3_init_n24 rfl rfl rfl (X.2.2.1 _ (List.mem_of_getElem? (i := 2) rfl)) (X.1.2.2.2.2 _ wdX0_init_ini_X3) hdS_X3_init ⟨(Nat.le_of_ble_eq_true rfl), (Nat.le_of_ble_eq_true rfl)⟩, rfl, X.1.2.2.2.2 _ wdX0_init_im_X3_init⟩ rfl hl.1 rfl (Nat.le_of_ble_eq_true rfl) dX0_init_40 ⟨(Nat.le_of_ble_eq_true rfl), (Nat.le_of_ble_eq_true rfl)⟩ (fun H locs G => ?_)
  refine W.widen (k := 15) (n := 108) (Nat.le_refl _) (Nat.le_refl _) ?_
  obtain ⟨⟨fs9, hk⟩, hf⟩ := zck hf
  refine zaast X G dX0_init_43 hk hf (fun h12 H locs hf G => ?_)
  refine lv_iinc (v := 2) (lv' := [(1, .int (2 : Int32)), (0, .ref (b0 + r0))]) X.1.1 X.1.2.1 dX0_init_44 hl (k := 0) rfl (by decide) (by decide) rfl (fun ls hl => ?_)
  refine lv_goto (tgt := 25) X.1.1 X.1.2.1 dX0_init_47 (by decide) ?_
  refine lv_iload_n X.1.1 X.1.2.1 dX0_init_25 rfl (lv_at hl 0 rfl) ?_
  refine lv_bipush (v := 24) X.1.1 X.1.2.1 dX0_init_26 (by decide) ?_
  refine lv_icmp_ge (tgt := 50) X.1.1 X.1.2.1 dX0_init_28 (by decide) (fun q => absurd q (by decide)) (fun _ => ?_)
  refine lv_aload_n X.1.1 X.1.2.1 dX0_init_31 rfl (lv_at hl 1 rfl) ?_
  refine zgetR (ci := 0) (k := 0) (C := RX0) (T := TX0) (N := 3) X G rfl inX0_init_X0 (Nat.le_of_ble_eq_true rfl) flX0_init_11 dX0_init_32 hf (fun v13 hf => ?_)
  refine lv_iload_n X.1.1 X.1.2.1 dX0_init_35 rfl (lv_at hl 0 rfl) ?_
  refine znew (ci := 3) (C := RX3) (T := TX3) (N := 12) (fs := [.int 0, .int 0, .int 0, .int 0, .int 0, .int 0, .null, .null, .null, .null, .null, .null]) X hb0 G rfl inX0_init_X3 tyX3_ok wdX0_init_cl9 wdX0_init_ins_X3 wdX0_init_ini_X3 rfl (fun j hj => by rcases (show j = 0 ∨ j = 1 ∨ j = 2 ∨ j = 3 ∨ j = 4 ∨ j = 5 ∨ j = 6 ∨ j = 7 ∨ j = 8 ∨ j = 9 ∨ j = 10 ∨ j = 11 by omega) with rfl | rfl | rfl | rfl | rfl | rfl | rfl | rfl | rfl | rfl | rfl | rfl <;> rfl) (Nat.le_of_ble_eq_true rfl) (Nat.le_of_ble_eq_true rfl) dX0_init_36 hf (fun q14 H hf G => ?_)
  refine W.widen (k := 16) (n := 120) (Nat.le_refl _) (Nat.le_refl _) ?_
  refine lv_dup X.1.1 X.1.2.1 dX0_init_39 rfl ?_
  obtain ⟨q15, eq15, hf⟩ := Option.bind_eq_some_iff.mp hf
  refine zcIN (As := []) (r := q14.1) (rest := [.ref (b0 + q14.1), .int (2 : Int32), .ref (b0 + v13)]) (v := none) (h' := q15) X G (m_X3_init l D dA b0 q14.1 q14.2 q15 eq15) ⟨va_cnB 0 X.1.2.2.2.2 gX0_init_X3_init_n24 rfl rfl rfl (X.2.2.1 _ (List.mem_of_getElem? (i := 2) rfl)) (X.1.2.2.2.2 _ wdX0_init_ini_X3) hdS_X3_init ⟨(Nat.le_of_ble_eq_true rfl), (Nat.le_of_ble_eq_true rfl)⟩, rfl, X.1.2.2.2.2 _ wdX0_init_im_X3_init⟩ rfl hl.1 rfl (Nat.le_of_ble_eq_true rfl) dX0_init_40 ⟨(Nat.le_of_ble_eq_true rfl), (Nat.le_of_ble_eq_true rfl)⟩ (fun H locs G => ?_)
  refine W.widen (k := 22) (n := 150) (Nat.le_refl _) (Nat.le_refl _) ?_
  obtain ⟨⟨fs9, hk⟩, hf⟩ := zck hf
  refine zaast X G dX0_init_43 hk hf (fun h16 H locs hf G => ?_)
  refine lv_iinc (v := 3) (lv' := [(1, .int (3 : Int32)), (0, .ref (b0 + r0))]) X.1.1 X.1.2.1 dX0_init_44 hl (k := 0) rfl (by decide) (by decide) rfl (fun ls hl => ?_)
  refine lv_goto (tgt := 25) X.1.1 X.1.2.1 dX0_init_47 (by decide) ?_
  refine lv_iload_n X.1.1 X.1.2.1 dX0_init_25 rfl (lv_at hl 0 rfl) ?_
  refine lv_bipush (v := 24) X.1.1 X.1.2.1 dX0_init_26 (by decide) ?_
  refine lv_icmp_ge (tgt := 50) X.1.1 X.1.2.1 dX0_init_28 (by decide) (fun q => absurd q (by decide)) (fun _ => ?_)
  refine lv_aload_n X.1.1 X.1.2.1 dX0_init_31 rfl (lv_at hl 1 rfl) ?_
  refine zgetR (ci := 0) (k := 0) (C := RX0) (T := TX0) (N := 3) X G rfl inX0_init_X0 (Nat.le_of_ble_eq_true rfl) flX0_init_11 dX0_init_32 hf (fun v17 hf => ?_)
  refine lv_iload_n X.1.1 X.1.2.1 dX0_init_35 rfl (lv_at hl 0 rfl) ?_
  refine znew (ci := 3) (C := RX3) (T := TX3) (N := 12) (fs := [.int 0, .int 0, .int 0, .int 0, .int 0, .int 0, .null, .null, .null, .null, .null, .null]) X hb0 G rfl inX0_init_X3 tyX3_ok wdX0_init_cl9 wdX0_init_ins_X3 wdX0_init_ini_X3 rfl (fun j hj => by rcases (show j = 0 ∨ j = 1 ∨ j = 2 ∨ j = 3 ∨ j = 4 ∨ j = 5 ∨ j = 6 ∨ j = 7 ∨ j = 8 ∨ j = 9 ∨ j = 10 ∨ j = 11 by omega) with rfl | rfl | rfl | rfl | rfl | rfl | rfl | rfl | rfl | rfl | rfl | rfl <;> rfl) (Nat.le_of_ble_eq_true rfl) (Nat.le_of_ble_eq_true rfl) dX0_init_36 hf (fun q18 H hf G => ?_)
  refine W.widen (k := 23) (n := 162) (Nat.le_refl _) (Nat.le_refl _) ?_
  refine lv_dup X.1.1 X.1.2.1 dX0_init_39 rfl ?_
  obtain ⟨q19, eq19, hf⟩ := Option.bind_eq_some_iff.mp hf
  refine zcIN (As := []) (r := q18.1) (rest := [.ref (b0 + q18.1), .int (3 : Int32), .ref (b0 + v17)]) (v := none) (h' := q19) X G (m_X3_init l D dA b0 q18.1 q18.2 q19 eq19) ⟨va_cnB 0 X.1.2.2.2.2 gX0_init_X3_init_n24 rfl rfl rfl (X.2.2.1 _ (List.mem_of_getElem? (i := 2) rfl)) (X.1.2.2.2.2 _ wdX0_init_ini_X3) hdS_X3_init ⟨(Nat.le_of_ble_eq_true rfl), (Nat.le_of_ble_eq_true rfl)⟩, rfl, X.1.2.2.2.2 _ wdX0_init_im_X3_init⟩ rfl hl.1 rfl (Nat.le_of_ble_eq_true rfl) dX0_init_40 ⟨(Nat.le_of_ble_eq_true rfl), (Nat.le_of_ble_eq_true rfl)⟩ (fun H locs G => ?_)
  refine W.widen (k := 29) (n := 192) (Nat.le_refl _) (Nat.le_refl _) ?_
  obtain ⟨⟨fs9, hk⟩, hf⟩ := zck hf
  refine zaast X G dX0_init_43 hk hf (fun h20 H locs hf G => ?_)
  refine lv_iinc (v := 4) (lv' := [(1, .int (4 : Int32)), (0, .ref (b0 + r0))]) X.1.1 X.1.2.1 dX0_init_44 hl (k := 0) rfl (by decide) (by decide) rfl (fun ls hl => ?_)
  refine lv_goto (tgt := 25) X.1.1 X.1.2.1 dX0_init_47 (by decide) ?_
  refine lv_iload_n X.1.1 X.1.2.1 dX0_init_25 rfl (lv_at hl 0 rfl) ?_
  refine lv_bipush (v := 24) X.1.1 X.1.2.1 dX0_init_26 (by decide) ?_
  refine lv_icmp_ge (tgt := 50) X.1.1 X.1.2.1 dX0_init_28 (by decide) (fun q => absurd q (by decide)) (fun _ => ?_)
  refine lv_aload_n X.1.1 X.1.2.1 dX0_init_31 rfl (lv_at hl 1 rfl) ?_
  refine zgetR (ci := 0) (k := 0) (C := RX0) (T := TX0) (N := 3) X G rfl inX0_init_X0 (Nat.le_of_ble_eq_true rfl) flX0_init_11 dX0_init_32 hf (fun v21 hf => ?_)
  refine lv_iload_n X.1.1 X.1.2.1 dX0_init_35 rfl (lv_at hl 0 rfl) ?_
  refine znew (ci := 3) (C := RX3) (T := TX3) (N := 12) (fs := [.int 0, .int 0, .int 0, .int 0, .int 0, .int 0, .null, .null, .null, .null, .null, .null]) X hb0 G rfl inX0_init_X3 tyX3_ok wdX0_init_cl9 wdX0_init_ins_X3 wdX0_init_ini_X3 rfl (fun j hj => by rcases (show j = 0 ∨ j = 1 ∨ j = 2 ∨ j = 3 ∨ j = 4 ∨ j = 5 ∨ j = 6 ∨ j = 7 ∨ j = 8 ∨ j = 9 ∨ j = 10 ∨ j = 11 by omega) with rfl | rfl | rfl | rfl | rfl | rfl | rfl | rfl | rfl | rfl | rfl | rfl <;> rfl) (Nat.le_of_ble_eq_true rfl) (Nat.le_of_ble_eq_true rfl) dX0_init_36 hf (fun q22 H hf G => ?_)
  refine W.widen (k := 30) (n := 204) (Nat.le_refl _) (Nat.le_refl _) ?_
  refine lv_dup X.1.1 X.1.2.1 dX0_init_39 rfl ?_
  obtain ⟨q23, eq23, hf⟩ := Option.bind_eq_some_iff.mp hf
  refine zcIN (As := []) (r := q22.1) (rest := [.ref (b0 + q22.1), .int (4 : Int32), .ref (b0 + v21)]) (v := none) (h' := q23) X G (m_X3_init l D dA b0 q22.1 q22.2 q23 eq23) ⟨va_cnB 0 X.1.2.2.2.2 gX0_init_X3_init_n24 rfl rfl rfl (X.2.2.1 _ (List.mem_of_getElem? (i := 2) rfl)) (X.1.2.2.2.2 _ wdX0_init_ini_X3) hdS_X3_init ⟨(Nat.le_of_ble_eq_true rfl), (Nat.le_of_ble_eq_true rfl)⟩, rfl, X.1.2.2.2.2 _ wdX0_init_im_X3_init⟩ rfl hl.1 rfl (Nat.le_of_ble_eq_true rfl) dX0_init_40 ⟨(Nat.le_of_ble_eq_true rfl), (Nat.le_of_ble_eq_true rfl)⟩ (fun H locs G => ?_)
  refine W.widen (k := 36) (n := 234) (Nat.le_refl _) (Nat.le_refl _) ?_
  obtain ⟨⟨fs9, hk⟩, hf⟩ := zck hf
  refine zaast X G dX0_init_43 hk hf (fun h24 H locs hf G => ?_)
  refine lv_iinc (v := 5) (lv' := [(1, .int (5 : Int32)), (0, .ref (b0 + r0))]) X.1.1 X.1.2.1 dX0_init_44 hl (k := 0) rfl (by decide) (by decide) rfl (fun ls hl => ?_)
  refine lv_goto (tgt := 25) X.1.1 X.1.2.1 dX0_init_47 (by decide) ?_
  refine lv_iload_n X.1.1 X.1.2.1 dX0_init_25 rfl (lv_at hl 0 rfl) ?_
  refine lv_bipush (v := 24) X.1.1 X.1.2.1 dX0_init_26 (by decide) ?_
  refine lv_icmp_ge (tgt := 50) X.1.1 X.1.2.1 dX0_init_28 (by decide) (fun q => absurd q (by decide)) (fun _ => ?_)
  refine lv_aload_n X.1.1 X.1.2.1 dX0_init_31 rfl (lv_at hl 1 rfl) ?_
  refine zgetR (ci := 0) (k := 0) (C := RX0) (T := TX0) (N := 3) X G rfl inX0_init_X0 (Nat.le_of_ble_eq_true rfl) flX0_init_11 dX0_init_32 hf (fun v25 hf => ?_)
  refine lv_iload_n X.1.1 X.1.2.1 dX0_init_35 rfl (lv_at hl 0 rfl) ?_
  refine znew (ci := 3) (C := RX3) (T := TX3) (N := 12) (fs := [.int 0, .int 0, .int 0, .int 0, .int 0, .int 0, .null, .null, .null, .null, .null, .null]) X hb0 G rfl inX0_init_X3 tyX3_ok wdX0_init_cl9 wdX0_init_ins_X3 wdX0_init_ini_X3 rfl (fun j hj => by rcases (show j = 0 ∨ j = 1 ∨ j = 2 ∨ j = 3 ∨ j = 4 ∨ j = 5 ∨ j = 6 ∨ j = 7 ∨ j = 8 ∨ j = 9 ∨ j = 10 ∨ j = 11 by omega) with rfl | rfl | rfl | rfl | rfl | rfl | rfl | rfl | rfl | rfl | rfl | rfl <;> rfl) (Nat.le_of_ble_eq_true rfl) (Nat.le_of_ble_eq_true rfl) dX0_init_36 hf (fun q26 H hf G => ?_)
  refine W.widen (k := 37) (n := 246) (Nat.le_refl _) (Nat.le_refl _) ?_
  refine lv_dup X.1.1 X.1.2.1 dX0_init_39 rfl ?_
  obtain ⟨q27, eq27, hf⟩ := Option.bind_eq_some_iff.mp hf
  refine zcIN (As := []) (r := q26.1) (rest := [.ref (b0 + q26.1), .int (5 : Int32), .ref (b0 + v25)]) (v := none) (h' := q27) X G (m_X3_init l D dA b0 q26.1 q26.2 q27 eq27) ⟨va_cnB 0 X.1.2.2.2.2 gX0_init_X3_init_n24 rfl rfl rfl (X.2.2.1 _ (List.mem_of_getElem? (i := 2) rfl)) (X.1.2.2.2.2 _ wdX0_init_ini_X3) hdS_X3_init ⟨(Nat.le_of_ble_eq_true rfl), (Nat.le_of_ble_eq_true rfl)⟩, rfl, X.1.2.2.2.2 _ wdX0_init_im_X3_init⟩ rfl hl.1 rfl (Nat.le_of_ble_eq_true rfl) dX0_init_40 ⟨(Nat.le_of_ble_eq_true rfl), (Nat.le_of_ble_eq_true rfl)⟩ (fun H locs G => ?_)
  refine W.widen (k := 43) (n := 276) (Nat.le_refl _) (Nat.le_refl _) ?_
  obtain ⟨⟨fs9, hk⟩, hf⟩ := zck hf
  refine zaast X G dX0_init_43 hk hf (fun h28 H locs hf G => ?_)
  refine lv_iinc (v := 6) (lv' := [(1, .int (6 : Int32)), (0, .ref (b0 + r0))]) X.1.1 X.1.2.1 dX0_init_44 hl (k := 0) rfl (by decide) (by decide) rfl (fun ls hl => ?_)
  refine lv_goto (tgt := 25) X.1.1 X.1.2.1 dX0_init_47 (by decide) ?_
  refine lv_iload_n X.1.1 X.1.2.1 dX0_init_25 rfl (lv_at hl 0 rfl) ?_
  refine lv_bipush (v := 24) X.1.1 X.1.2.1 dX0_init_26 (by decide) ?_
  refine lv_icmp_ge (tgt := 50) X.1.1 X.1.2.1 dX0_init_28 (by decide) (fun q => absurd q (by decide)) (fun _ => ?_)
  refine lv_aload_n X.1.1 X.1.2.1 dX0_init_31 rfl (lv_at hl 1 rfl) ?_
  refine zgetR (ci := 0) (k := 0) (C := RX0) (T := TX0) (N := 3) X G rfl inX0_init_X0 (Nat.le_of_ble_eq_true rfl) flX0_init_11 dX0_init_32 hf (fun v29 hf => ?_)
  refine lv_iload_n X.1.1 X.1.2.1 dX0_init_35 rfl (lv_at hl 0 rfl) ?_
  refine znew (ci := 3) (C := RX3) (T := TX3) (N := 12) (fs := [.int 0, .int 0, .int 0, .int 0, .int 0, .int 0, .null, .null, .null, .null, .null, .null]) X hb0 G rfl inX0_init_X3 tyX3_ok wdX0_init_cl9 wdX0_init_ins_X3 wdX0_init_ini_X3 rfl (fun j hj => by rcases (show j = 0 ∨ j = 1 ∨ j = 2 ∨ j = 3 ∨ j = 4 ∨ j = 5 ∨ j = 6 ∨ j = 7 ∨ j = 8 ∨ j = 9 ∨ j = 10 ∨ j = 11 by omega) with rfl | rfl | rfl | rfl | rfl | rfl | rfl | rfl | rfl | rfl | rfl | rfl <;> rfl) (Nat.le_of_ble_eq_true rfl) (Nat.le_of_ble_eq_true rfl) dX0_init_36 hf (fun q30 H hf G => ?_)
  refine W.widen (k := 44) (n := 288) (Nat.le_refl _) (Nat.le_refl _) ?_
  refine lv_dup X.1.1 X.1.2.1 dX0_init_39 rfl ?_
  obtain ⟨q31, eq31, hf⟩ := Option.bind_eq_some_iff.mp hf
  refine zcIN (As := []) (r := q30.1) (rest := [.ref (b0 + q30.1), .int (6 : Int32), .ref (b0 + v29)]) (v := none) (h' := q31) X G (m_X3_init l D dA b0 q30.1 q30.2 q31 eq31) ⟨va_cnB 0 X.1.2.2.2.2 gX0_init_X3_init_n24 rfl rfl rfl (X.2.2.1 _ (List.mem_of_getElem? (i := 2) rfl)) (X.1.2.2.2.2 _ wdX0_init_ini_X3) hdS_X3_init ⟨(Nat.le_of_ble_eq_true rfl), (Nat.le_of_ble_eq_true rfl)⟩, rfl, X.1.2.2.2.2 _ wdX0_init_im_X3_init⟩ rfl hl.1 rfl (Nat.le_of_ble_eq_true rfl) dX0_init_40 ⟨(Nat.le_of_ble_eq_true rfl), (Nat.le_of_ble_eq_true rfl)⟩ (fun H locs G => ?_)
  refine W.widen (k := 50) (n := 318) (Nat.le_refl _) (Nat.le_refl _) ?_
  obtain ⟨⟨fs9, hk⟩, hf⟩ := zck hf
  refine zaast X G dX0_init_43 hk hf (fun h32 H locs hf G => ?_)
  refine lv_iinc (v := 7) (lv' := [(1, .int (7 : Int32)), (0, .ref (b0 + r0))]) X.1.1 X.1.2.1 dX0_init_44 hl (k := 0) rfl (by decide) (by decide) rfl (fun ls hl => ?_)
  refine lv_goto (tgt := 25) X.1.1 X.1.2.1 dX0_init_47 (by decide) ?_
  refine lv_iload_n X.1.1 X.1.2.1 dX0_init_25 rfl (lv_at hl 0 rfl) ?_
  refine lv_bipush (v := 24) X.1.1 X.1.2.1 dX0_init_26 (by decide) ?_
  refine lv_icmp_ge (tgt := 50) X.1.1 X.1.2.1 dX0_init_28 (by decide) (fun q => absurd q (by decide)) (fun _ => ?_)
  refine lv_aload_n X.1.1 X.1.2.1 dX0_init_31 rfl (lv_at hl 1 rfl) ?_
  refine zgetR (ci := 0) (k := 0) (C := RX0) (T := TX0) (N := 3) X G rfl inX0_init_X0 (Nat.le_of_ble_eq_true rfl) flX0_init_11 dX0_init_32 hf (fun v33 hf => ?_)
  refine lv_iload_n X.1.1 X.1.2.1 dX0_init_35 rfl (lv_at hl 0 rfl) ?_
  refine znew (ci := 3) (C := RX3) (T := TX3) (N := 12) (fs := [.int 0, .int 0, .int 0, .int 0, .int 0, .int 0, .null, .null, .null, .null, .null, .null]) X hb0 G rfl inX0_init_X3 tyX3_ok wdX0_init_cl9 wdX0_init_ins_X3 wdX0_init_ini_X3 rfl (fun j hj => by rcases (show j = 0 ∨ j = 1 ∨ j = 2 ∨ j = 3 ∨ j = 4 ∨ j = 5 ∨ j = 6 ∨ j = 7 ∨ j = 8 ∨ j = 9 ∨ j = 10 ∨ j = 11 by omega) with rfl | rfl | rfl | rfl | rfl | rfl | rfl | rfl | rfl | rfl | rfl | rfl <;> rfl) (Nat.le_of_ble_eq_true rfl) (Nat.le_of_ble_eq_true rfl) dX0_init_36 hf (fun q34 H hf G => ?_)
  refine W.widen (k := 51) (n := 330) (Nat.le_refl _) (Nat.le_refl _) ?_
  refine lv_dup X.1.1 X.1.2.1 dX0_init_39 rfl ?_
  obtain ⟨q35, eq35, hf⟩ := Option.bind_eq_some_iff.mp hf
  refine zcIN (As := []) (r := q34.1) (rest := [.ref (b0 + q34.1), .int (7 : Int32), .ref (b0 + v33)]) (v := none) (h' := q35) X G (m_X3_init l D dA b0 q34.1 q34.2 q35 eq35) ⟨va_cnB 0 X.1.2.2.2.2 gX0_init_X3_init_n24 rfl rfl rfl (X.2.2.1 _ (List.mem_of_getElem? (i := 2) rfl)) (X.1.2.2.2.2 _ wdX0_init_ini_X3) hdS_X3_init ⟨(Nat.le_of_ble_eq_true rfl), (Nat.le_of_ble_eq_true rfl)⟩, rfl, X.1.2.2.2.2 _ wdX0_init_im_X3_init⟩ rfl hl.1 rfl (Nat.le_of_ble_eq_true rfl) dX0_init_40 ⟨(Nat.le_of_ble_eq_true rfl), (Nat.le_of_ble_eq_true rfl)⟩ (fun H locs G => ?_)
  refine W.widen (k := 57) (n := 360) (Nat.le_refl _) (Nat.le_refl _) ?_
  obtain ⟨⟨fs9, hk⟩, hf⟩ := zck hf
  refine zaast X G dX0_init_43 hk hf (fun h36 H locs hf G => ?_)
  refine lv_iinc (v := 8) (lv' := [(1, .int (8 : Int32)), (0, .ref (b0 + r0))]) X.1.1 X.1.2.1 dX0_init_44 hl (k := 0) rfl (by decide) (by decide) rfl (fun ls hl => ?_)
  refine lv_goto (tgt := 25) X.1.1 X.1.2.1 dX0_init_47 (by decide) ?_
  refine lv_iload_n X.1.1 X.1.2.1 dX0_init_25 rfl (lv_at hl 0 rfl) ?_
  refine lv_bipush (v := 24) X.1.1 X.1.2.1 dX0_init_26 (by decide) ?_
  refine lv_icmp_ge (tgt := 50) X.1.1 X.1.2.1 dX0_init_28 (by decide) (fun q => absurd q (by decide)) (fun _ => ?_)
  refine lv_aload_n X.1.1 X.1.2.1 dX0_init_31 rfl (lv_at hl 1 rfl) ?_
  refine zgetR (ci := 0) (k := 0) (C := RX0) (T := TX0) (N := 3) X G rfl inX0_init_X0 (Nat.le_of_ble_eq_true rfl) flX0_init_11 dX0_init_32 hf (fun v37 hf => ?_)
  refine lv_iload_n X.1.1 X.1.2.1 dX0_init_35 rfl (lv_at hl 0 rfl) ?_
  refine znew (ci := 3) (C := RX3) (T := TX3) (N := 12) (fs := [.int 0, .int 0, .int 0, .int 0, .int 0, .int 0, .null, .null, .null, .null, .null, .null]) X hb0 G rfl inX0_init_X3 tyX3_ok wdX0_init_cl9 wdX0_init_ins_X3 wdX0_init_ini_X3 rfl (fun j hj => by rcases (show j = 0 ∨ j = 1 ∨ j = 2 ∨ j = 3 ∨ j = 4 ∨ j = 5 ∨ j = 6 ∨ j = 7 ∨ j = 8 ∨ j = 9 ∨ j = 10 ∨ j = 11 by omega) with rfl | rfl | rfl | rfl | rfl | rfl | rfl | rfl | rfl | rfl | rfl | rfl <;> rfl) (Nat.le_of_ble_eq_true rfl) (Nat.le_of_ble_eq_true rfl) dX0_init_36 hf (fun q38 H hf G => ?_)
  refine W.widen (k := 58) (n := 372) (Nat.le_refl _) (Nat.le_refl _) ?_
  refine lv_dup X.1.1 X.1.2.1 dX0_init_39 rfl ?_
  obtain ⟨q39, eq39, hf⟩ := Option.bind_eq_some_iff.mp hf
  refine zcIN (As := []) (r := q38.1) (rest := [.ref (b0 + q38.1), .int (8 : Int32), .ref (b0 + v37)]) (v := none) (h' := q39) X G (m_X3_init l D dA b0 q38.1 q38.2 q39 eq39) ⟨va_cnB 0 X.1.2.2.2.2 gX0_init_X3_init_n24 rfl rfl rfl (X.2.2.1 _ (List.mem_of_getElem? (i := 2) rfl)) (X.1.2.2.2.2 _ wdX0_init_ini_X3) hdS_X3_init ⟨(Nat.le_of_ble_eq_true rfl), (Nat.le_of_ble_eq_true rfl)⟩, rfl, X.1.2.2.2.2 _ wdX0_init_im_X3_init⟩ rfl hl.1 rfl (Nat.le_of_ble_eq_true rfl) dX0_init_40 ⟨(Nat.le_of_ble_eq_true rfl), (Nat.le_of_ble_eq_true rfl)⟩ (fun H locs G => ?_)
  refine W.widen (k := 64) (n := 402) (Nat.le_refl _) (Nat.le_refl _) ?_
  obtain ⟨⟨fs9, hk⟩, hf⟩ := zck hf
  refine zaast X G dX0_init_43 hk hf (fun h40 H locs hf G => ?_)
  refine lv_iinc (v := 9) (lv' := [(1, .int (9 : Int32)), (0, .ref (b0 + r0))]) X.1.1 X.1.2.1 dX0_init_44 hl (k := 0) rfl (by decide) (by decide) rfl (fun ls hl => ?_)
  refine lv_goto (tgt := 25) X.1.1 X.1.2.1 dX0_init_47 (by decide) ?_
  refine lv_iload_n X.1.1 X.1.2.1 dX0_init_25 rfl (lv_at hl 0 rfl) ?_
  refine lv_bipush (v := 24) X.1.1 X.1.2.1 dX0_init_26 (by decide) ?_
  refine lv_icmp_ge (tgt := 50) X.1.1 X.1.2.1 dX0_init_28 (by decide) (fun q => absurd q (by decide)) (fun _ => ?_)
  refine lv_aload_n X.1.1 X.1.2.1 dX0_init_31 rfl (lv_at hl 1 rfl) ?_
  refine zgetR (ci := 0) (k := 0) (C := RX0) (T := TX0) (N := 3) X G rfl inX0_init_X0 (Nat.le_of_ble_eq_true rfl) flX0_init_11 dX0_init_32 hf (fun v41 hf => ?_)
  refine lv_iload_n X.1.1 X.1.2.1 dX0_init_35 rfl (lv_at hl 0 rfl) ?_
  refine znew (ci := 3) (C := RX3) (T := TX3) (N := 12) (fs := [.int 0, .int 0, .int 0, .int 0, .int 0, .int 0, .null, .null, .null, .null, .null, .null]) X hb0 G rfl inX0_init_X3 tyX3_ok wdX0_init_cl9 wdX0_init_ins_X3 wdX0_init_ini_X3 rfl (fun j hj => by rcases (show j = 0 ∨ j = 1 ∨ j = 2 ∨ j = 3 ∨ j = 4 ∨ j = 5 ∨ j = 6 ∨ j = 7 ∨ j = 8 ∨ j = 9 ∨ j = 10 ∨ j = 11 by omega) with rfl | rfl | rfl | rfl | rfl | rfl | rfl | rfl | rfl | rfl | rfl | rfl <;> rfl) (Nat.le_of_ble_eq_true rfl) (Nat.le_of_ble_eq_true rfl) dX0_init_36 hf (fun q42 H hf G => ?_)
  refine W.widen (k := 65) (n := 414) (Nat.le_refl _) (Nat.le_refl _) ?_
  refine lv_dup X.1.1 X.1.2.1 dX0_init_39 rfl ?_
  obtain ⟨q43, eq43, hf⟩ := Option.bind_eq_some_iff.mp hf
  refine zcIN (As := []) (r := q42.1) (rest := [.ref (b0 + q42.1), .int (9 : Int32), .ref (b0 + v41)]) (v := none) (h' := q43) X G (m_X3_init l D dA b0 q42.1 q42.2 q43 eq43) ⟨va_cnB 0 X.1.2.2.2.2 gX0_init_X3_init_n24 rfl rfl rfl (X.2.2.1 _ (List.mem_of_getElem? (i := 2) rfl)) (X.1.2.2.2.2 _ wdX0_init_ini_X3) hdS_X3_init ⟨(Nat.le_of_ble_eq_true rfl), (Nat.le_of_ble_eq_true rfl)⟩, rfl, X.1.2.2.2.2 _ wdX0_init_im_X3_init⟩ rfl hl.1 rfl (Nat.le_of_ble_eq_true rfl) dX0_init_40 ⟨(Nat.le_of_ble_eq_true rfl), (Nat.le_of_ble_eq_true rfl)⟩ (fun H locs G => ?_)
  refine W.widen (k := 71) (n := 444) (Nat.le_refl _) (Nat.le_refl _) ?_
  obtain ⟨⟨fs9, hk⟩, hf⟩ := zck hf
  refine zaast X G dX0_init_43 hk hf (fun h44 H locs hf G => ?_)
  refine lv_iinc (v := 10) (lv' := [(1, .int (10 : Int32)), (0, .ref (b0 + r0))]) X.1.1 X.1.2.1 dX0_init_44 hl (k := 0) rfl (by decide) (by decide) rfl (fun ls hl => ?_)
  refine lv_goto (tgt := 25) X.1.1 X.1.2.1 dX0_init_47 (by decide) ?_
  refine lv_iload_n X.1.1 X.1.2.1 dX0_init_25 rfl (lv_at hl 0 rfl) ?_
  refine lv_bipush (v := 24) X.1.1 X.1.2.1 dX0_init_26 (by decide) ?_
  refine lv_icmp_ge (tgt := 50) X.1.1 X.1.2.1 dX0_init_28 (by decide) (fun q => absurd q (by decide)) (fun _ => ?_)
  refine lv_aload_n X.1.1 X.1.2.1 dX0_init_31 rfl (lv_at hl 1 rfl) ?_
  refine zgetR (ci := 0) (k := 0) (C := RX0) (T := TX0) (N := 3) X G rfl inX0_init_X0 (Nat.le_of_ble_eq_true rfl) flX0_init_11 dX0_init_32 hf (fun v45 hf => ?_)
  refine lv_iload_n X.1.1 X.1.2.1 dX0_init_35 rfl (lv_at hl 0 rfl) ?_
  refine znew (ci := 3) (C := RX3) (T := TX3) (N := 12) (fs := [.int 0, .int 0, .int 0, .int 0, .int 0, .int 0, .null, .null, .null, .null, .null, .null]) X hb0 G rfl inX0_init_X3 tyX3_ok wdX0_init_cl9 wdX0_init_ins_X3 wdX0_init_ini_X3 rfl (fun j hj => by rcases (show j = 0 ∨ j = 1 ∨ j = 2 ∨ j = 3 ∨ j = 4 ∨ j = 5 ∨ j = 6 ∨ j = 7 ∨ j = 8 ∨ j = 9 ∨ j = 10 ∨ j = 11 by omega) with rfl | rfl | rfl | rfl | rfl | rfl | rfl | rfl | rfl | rfl | rfl | rfl <;> rfl) (Nat.le_of_ble_eq_true rfl) (Nat.le_of_ble_eq_true rfl) dX0_init_36 hf (fun q46 H hf G => ?_)
  refine W.widen (k := 72) (n := 456) (Nat.le_refl _) (Nat.le_refl _) ?_
  refine lv_dup X.1.1 X.1.2.1 dX0_init_39 rfl ?_
  obtain ⟨q47, eq47, hf⟩ := Option.bind_eq_some_iff.mp hf
  refine zcIN (As := []) (r := q46.1) (rest := [.ref (b0 + q46.1), .int (10 : Int32), .ref (b0 + v45)]) (v := none) (h' := q47) X G (m_X3_init l D dA b0 q46.1 q46.2 q47 eq47) ⟨va_cnB 0 X.1.2.2.2.2 gX0_init_X3_init_n24 rfl rfl rfl (X.2.2.1 _ (List.mem_of_getElem? (i := 2) rfl)) (X.1.2.2.2.2 _ wdX0_init_ini_X3) hdS_X3_init ⟨(Nat.le_of_ble_eq_true rfl), (Nat.le_of_ble_eq_true rfl)⟩, rfl, X.1.2.2.2.2 _ wdX0_init_im_X3_init⟩ rfl hl.1 rfl (Nat.le_of_ble_eq_true rfl) dX0_init_40 ⟨(Nat.le_of_ble_eq_true rfl), (Nat.le_of_ble_eq_true rfl)⟩ (fun H locs G => ?_)
  refine W.widen (k := 78) (n := 486) (Nat.le_refl _) (Nat.le_refl _) ?_
  obtain ⟨⟨fs9, hk⟩, hf⟩ := zck hf
  refine zaast X G dX0_init_43 hk hf (fun h48 H locs hf G => ?_)
  refine lv_iinc (v := 11) (lv' := [(1, .int (11 : Int32)), (0, .ref (b0 + r0))]) X.1.1 X.1.2.1 dX0_init_44 hl (k := 0) rfl (by decide) (by decide) rfl (fun ls hl => ?_)
  refine lv_goto (tgt := 25) X.1.1 X.1.2.1 dX0_init_47 (by decide) ?_
  refine lv_iload_n X.1.1 X.1.2.1 dX0_init_25 rfl (lv_at hl 0 rfl) ?_
  refine lv_bipush (v := 24) X.1.1 X.1.2.1 dX0_init_26 (by decide) ?_
  refine lv_icmp_ge (tgt := 50) X.1.1 X.1.2.1 dX0_init_28 (by decide) (fun q => absurd q (by decide)) (fun _ => ?_)
  refine lv_aload_n X.1.1 X.1.2.1 dX0_init_31 rfl (lv_at hl 1 rfl) ?_
  refine zgetR (ci := 0) (k := 0) (C := RX0) (T := TX0) (N := 3) X G rfl inX0_init_X0 (Nat.le_of_ble_eq_true rfl) flX0_init_11 dX0_init_32 hf (fun v49 hf => ?_)
  refine lv_iload_n X.1.1 X.1.2.1 dX0_init_35 rfl (lv_at hl 0 rfl) ?_
  refine znew (ci := 3) (C := RX3) (T := TX3) (N := 12) (fs := [.int 0, .int 0, .int 0, .int 0, .int 0, .int 0, .null, .null, .null, .null, .null, .null]) X hb0 G rfl inX0_init_X3 tyX3_ok wdX0_init_cl9 wdX0_init_ins_X3 wdX0_init_ini_X3 rfl (fun j hj => by rcases (show j = 0 ∨ j = 1 ∨ j = 2 ∨ j = 3 ∨ j = 4 ∨ j = 5 ∨ j = 6 ∨ j = 7 ∨ j = 8 ∨ j = 9 ∨ j = 10 ∨ j = 11 by omega) with rfl | rfl | rfl | rfl | rfl | rfl | rfl | rfl | rfl | rfl | rfl | rfl <;> rfl) (Nat.le_of_ble_eq_true rfl) (Nat.le_of_ble_eq_true rfl) dX0_init_36 hf (fun q50 H hf G => ?_)
  refine W.widen (k := 79) (n := 498) (Nat.le_refl _) (Nat.le_refl _) ?_
  refine lv_dup X.1.1 X.1.2.1 dX0_init_39 rfl ?_
  obtain ⟨q51, eq51, hf⟩ := Option.bind_eq_some_iff.mp hf
  refine zcIN (As := []) (r := q50.1) (rest := [.ref (b0 + q50.1), .int (11 : Int32), .ref (b0 + v49)]) (v := none) (h' := q51) X G (m_X3_init l D dA b0 q50.1 q50.2 q51 eq51) ⟨va_cnB 0 X.1.2.2.2.2 gX0_init_X3_init_n24 rfl rfl rfl (X.2.2.1 _ (List.mem_of_getElem? (i := 2) rfl)) (X.1.2.2.2.2 _ wdX0_init_ini_X3) hdS_X3_init ⟨(Nat.le_of_ble_eq_true rfl), (Nat.le_of_ble_eq_true rfl)⟩, rfl, X.1.2.2.2.2 _ wdX0_init_im_X3_init⟩ rfl hl.1 rfl (Nat.le_of_ble_eq_true rfl) dX0_init_40 ⟨(Nat.le_of_ble_eq_true rfl), (Nat.le_of_ble_eq_true rfl)⟩ (fun H locs G => ?_)
  refine W.widen (k := 85) (n := 528) (Nat.le_refl _) (Nat.le_refl _) ?_
  obtain ⟨⟨fs9, hk⟩, hf⟩ := zck hf
  refine zaast X G dX0_init_43 hk hf (fun h52 H locs hf G => ?_)
  refine lv_iinc (v := 12) (lv' := [(1, .int (12 : Int32)), (0, .ref (b0 + r0))]) X.1.1 X.1.2.1 dX0_init_44 hl (k := 0) rfl (by decide) (by decide) rfl (fun ls hl => ?_)
  refine lv_goto (tgt := 25) X.1.1 X.1.2.1 dX0_init_47 (by decide) ?_
  refine lv_iload_n X.1.1 X.1.2.1 dX0_init_25 rfl (lv_at hl 0 rfl) ?_
  refine lv_bipush (v := 24) X.1.1 X.1.2.1 dX0_init_26 (by decide) ?_
  refine lv_icmp_ge (tgt := 50) X.1.1 X.1.2.1 dX0_init_28 (by decide) (fun q => absurd q (by decide)) (fun _ => ?_)
  refine lv_aload_n X.1.1 X.1.2.1 dX0_init_31 rfl (lv_at hl 1 rfl) ?_
  refine zgetR (ci := 0) (k := 0) (C := RX0) (T := TX0) (N := 3) X G rfl inX0_init_X0 (Nat.le_of_ble_eq_true rfl) flX0_init_11 dX0_init_32 hf (fun v53 hf => ?_)
  refine lv_iload_n X.1.1 X.1.2.1 dX0_init_35 rfl (lv_at hl 0 rfl) ?_
  refine znew (ci := 3) (C := RX3) (T := TX3) (N := 12) (fs := [.int 0, .int 0, .int 0, .int 0, .int 0, .int 0, .null, .null, .null, .null, .null, .null]) X hb0 G rfl inX0_init_X3 tyX3_ok wdX0_init_cl9 wdX0_init_ins_X3 wdX0_init_ini_X3 rfl (fun j hj => by rcases (show j = 0 ∨ j = 1 ∨ j = 2 ∨ j = 3 ∨ j = 4 ∨ j = 5 ∨ j = 6 ∨ j = 7 ∨ j = 8 ∨ j = 9 ∨ j = 10 ∨ j = 11 by omega) with rfl | rfl | rfl | rfl | rfl | rfl | rfl | rfl | rfl | rfl | rfl | rfl <;> rfl) (Nat.le_of_ble_eq_true rfl) (Nat.le_of_ble_eq_true rfl) dX0_init_36 hf (fun q54 H hf G => ?_)
  refine W.widen (k := 86) (n := 540) (Nat.le_refl _) (Nat.le_refl _) ?_
  refine lv_dup X.1.1 X.1.2.1 dX0_init_39 rfl ?_
  obtain ⟨q55, eq55, hf⟩ := Option.bind_eq_some_iff.mp hf
  refine zcIN (As := []) (r := q54.1) (rest := [.ref (b0 + q54.1), .int (12 : Int32), .ref (b0 + v53)]) (v := none) (h' := q55) X G (m_X3_init l D dA b0 q54.1 q54.2 q55 eq55) ⟨va_cnB 0 X.1.2.2.2.2 gX0_init_X3_init_n24 rfl rfl rfl (X.2.2.1 _ (List.mem_of_getElem? (i := 2) rfl)) (X.1.2.2.2.2 _ wdX0_init_ini_X3) hdS_X3_init ⟨(Nat.le_of_ble_eq_true rfl), (Nat.le_of_ble_eq_true rfl)⟩, rfl, X.1.2.2.2.2 _ wdX0_init_im_X3_init⟩ rfl hl.1 rfl (Nat.le_of_ble_eq_true rfl) dX0_init_40 ⟨(Nat.le_of_ble_eq_true rfl), (Nat.le_of_ble_eq_true rfl)⟩ (fun H locs G => ?_)
  refine W.widen (k := 92) (n := 570) (Nat.le_refl _) (Nat.le_refl _) ?_
  obtain ⟨⟨fs9, hk⟩, hf⟩ := zck hf
  refine zaast X G dX0_init_43 hk hf (fun h56 H locs hf G => ?_)
  refine lv_iinc (v := 13) (lv' := [(1, .int (13 : Int32)), (0, .ref (b0 + r0))]) X.1.1 X.1.2.1 dX0_init_44 hl (k := 0) rfl (by decide) (by decide) rfl (fun ls hl => ?_)
  refine lv_goto (tgt := 25) X.1.1 X.1.2.1 dX0_init_47 (by decide) ?_
  refine lv_iload_n X.1.1 X.1.2.1 dX0_init_25 rfl (lv_at hl 0 rfl) ?_
  refine lv_bipush (v := 24) X.1.1 X.1.2.1 dX0_init_26 (by decide) ?_
  refine lv_icmp_ge (tgt := 50) X.1.1 X.1.2.1 dX0_init_28 (by decide) (fun q => absurd q (by decide)) (fun _ => ?_)
  refine lv_aload_n X.1.1 X.1.2.1 dX0_init_31 rfl (lv_at hl 1 rfl) ?_
  refine zgetR (ci := 0) (k := 0) (C := RX0) (T := TX0) (N := 3) X G rfl inX0_init_X0 (Nat.le_of_ble_eq_true rfl) flX0_init_11 dX0_init_32 hf (fun v57 hf => ?_)
  refine lv_iload_n X.1.1 X.1.2.1 dX0_init_35 rfl (lv_at hl 0 rfl) ?_
  refine znew (ci := 3) (C := RX3) (T := TX3) (N := 12) (fs := [.int 0, .int 0, .int 0, .int 0, .int 0, .int 0, .null, .null, .null, .null, .null, .null]) X hb0 G rfl inX0_init_X3 tyX3_ok wdX0_init_cl9 wdX0_init_ins_X3 wdX0_init_ini_X3 rfl (fun j hj => by rcases (show j = 0 ∨ j = 1 ∨ j = 2 ∨ j = 3 ∨ j = 4 ∨ j = 5 ∨ j = 6 ∨ j = 7 ∨ j = 8 ∨ j = 9 ∨ j = 10 ∨ j = 11 by omega) with rfl | rfl | rfl | rfl | rfl | rfl | rfl | rfl | rfl | rfl | rfl | rfl <;> rfl) (Nat.le_of_ble_eq_true rfl) (Nat.le_of_ble_eq_true rfl) dX0_init_36 hf (fun q58 H hf G => ?_)
  refine W.widen (k := 93) (n := 582) (Nat.le_refl _) (Nat.le_refl _) ?_
  refine lv_dup X.1.1 X.1.2.1 dX0_init_39 rfl ?_
  obtain ⟨q59, eq59, hf⟩ := Option.bind_eq_some_iff.mp hf
  refine zcIN (As := []) (r := q58.1) (rest := [.ref (b0 + q58.1), .int (13 : Int32), .ref (b0 + v57)]) (v := none) (h' := q59) X G (m_X3_init l D dA b0 q58.1 q58.2 q59 eq59) ⟨va_cnB 0 X.1.2.2.2.2 gX0_init_X3_init_n24 rfl rfl rfl (X.2.2.1 _ (List.mem_of_getElem? (i := 2) rfl)) (X.1.2.2.2.2 _ wdX0_init_ini_X3) hdS_X3_init ⟨(Nat.le_of_ble_eq_true rfl), (Nat.le_of_ble_eq_true rfl)⟩, rfl, X.1.2.2.2.2 _ wdX0_init_im_X3_init⟩ rfl hl.1 rfl (Nat.le_of_ble_eq_true rfl) dX0_init_40 ⟨(Nat.le_of_ble_eq_true rfl), (Nat.le_of_ble_eq_true rfl)⟩ (fun H locs G => ?_)
  refine W.widen (k := 99) (n := 612) (Nat.le_refl _) (Nat.le_refl _) ?_
  obtain ⟨⟨fs9, hk⟩, hf⟩ := zck hf
  refine zaast X G dX0_init_43 hk hf (fun h60 H locs hf G => ?_)
  refine lv_iinc (v := 14) (lv' := [(1, .int (14 : Int32)), (0, .ref (b0 + r0))]) X.1.1 X.1.2.1 dX0_init_44 hl (k := 0) rfl (by decide) (by decide) rfl (fun ls hl => ?_)
  refine lv_goto (tgt := 25) X.1.1 X.1.2.1 dX0_init_47 (by decide) ?_
  refine lv_iload_n X.1.1 X.1.2.1 dX0_init_25 rfl (lv_at hl 0 rfl) ?_
  refine lv_bipush (v := 24) X.1.1 X.1.2.1 dX0_init_26 (by decide) ?_
  refine lv_icmp_ge (tgt := 50) X.1.1 X.1.2.1 dX0_init_28 (by decide) (fun q => absurd q (by decide)) (fun _ => ?_)
  refine lv_aload_n X.1.1 X.1.2.1 dX0_init_31 rfl (lv_at hl 1 rfl) ?_
  refine zgetR (ci := 0) (k := 0) (C := RX0) (T := TX0) (N := 3) X G rfl inX0_init_X0 (Nat.le_of_ble_eq_true rfl) flX0_init_11 dX0_init_32 hf (fun v61 hf => ?_)
  refine lv_iload_n X.1.1 X.1.2.1 dX0_init_35 rfl (lv_at hl 0 rfl) ?_
  refine znew (ci := 3) (C := RX3) (T := TX3) (N := 12) (fs := [.int 0, .int 0, .int 0, .int 0, .int 0, .int 0, .null, .null, .null, .null, .null, .null]) X hb0 G rfl inX0_init_X3 tyX3_ok wdX0_init_cl9 wdX0_init_ins_X3 wdX0_init_ini_X3 rfl (fun j hj => by rcases (show j = 0 ∨ j = 1 ∨ j = 2 ∨ j = 3 ∨ j = 4 ∨ j = 5 ∨ j = 6 ∨ j = 7 ∨ j = 8 ∨ j = 9 ∨ j = 10 ∨ j = 11 by omega) with rfl | rfl | rfl | rfl | rfl | rfl | rfl | rfl | rfl | rfl | rfl | rfl <;> rfl) (Nat.le_of_ble_eq_true rfl) (Nat.le_of_ble_eq_true rfl) dX0_init_36 hf (fun q62 H hf G => ?_)
  refine W.widen (k := 100) (n := 624) (Nat.le_refl _) (Nat.le_refl _) ?_
  refine lv_dup X.1.1 X.1.2.1 dX0_init_39 rfl ?_
  obtain ⟨q63, eq63, hf⟩ := Option.bind_eq_some_iff.mp hf
  refine zcIN (As := []) (r := q62.1) (rest := [.ref (b0 + q62.1), .int (14 : Int32), .ref (b0 + v61)]) (v := none) (h' := q63) X G (m_X3_init l D dA b0 q62.1 q62.2 q63 eq63) ⟨va_cnB 0 X.1.2.2.2.2 gX0_init_X3_init_n24 rfl rfl rfl (X.2.2.1 _ (List.mem_of_getElem? (i := 2) rfl)) (X.1.2.2.2.2 _ wdX0_init_ini_X3) hdS_X3_init ⟨(Nat.le_of_ble_eq_true rfl), (Nat.le_of_ble_eq_true rfl)⟩, rfl, X.1.2.2.2.2 _ wdX0_init_im_X3_init⟩ rfl hl.1 rfl (Nat.le_of_ble_eq_true rfl) dX0_init_40 ⟨(Nat.le_of_ble_eq_true rfl), (Nat.le_of_ble_eq_true rfl)⟩ (fun H locs G => ?_)
  refine W.widen (k := 106) (n := 654) (Nat.le_refl _) (Nat.le_refl _) ?_
  obtain ⟨⟨fs9, hk⟩, hf⟩ := zck hf
  refine zaast X G dX0_init_43 hk hf (fun h64 H locs hf G => ?_)
  refine lv_iinc (v := 15) (lv' := [(1, .int (15 : Int32)), (0, .ref (b0 + r0))]) X.1.1 X.1.2.1 dX0_init_44 hl (k := 0) rfl (by decide) (by decide) rfl (fun ls hl => ?_)
  refine lv_goto (tgt := 25) X.1.1 X.1.2.1 dX0_init_47 (by decide) ?_
  refine lv_iload_n X.1.1 X.1.2.1 dX0_init_25 rfl (lv_at hl 0 rfl) ?_
  refine lv_bipush (v := 24) X.1.1 X.1.2.1 dX0_init_26 (by decide) ?_
  refine lv_icmp_ge (tgt := 50) X.1.1 X.1.2.1 dX0_init_28 (by decide) (fun q => absurd q (by decide)) (fun _ => ?_)
  refine lv_aload_n X.1.1 X.1.2.1 dX0_init_31 rfl (lv_at hl 1 rfl) ?_
  refine zgetR (ci := 0) (k := 0) (C := RX0) (T := TX0) (N := 3) X G rfl inX0_init_X0 (Nat.le_of_ble_eq_true rfl) flX0_init_11 dX0_init_32 hf (fun v65 hf => ?_)
  refine lv_iload_n X.1.1 X.1.2.1 dX0_init_35 rfl (lv_at hl 0 rfl) ?_
  refine znew (ci := 3) (C := RX3) (T := TX3) (N := 12) (fs := [.int 0, .int 0, .int 0, .int 0, .int 0, .int 0, .null, .null, .null, .null, .null, .null]) X hb0 G rfl inX0_init_X3 tyX3_ok wdX0_init_cl9 wdX0_init_ins_X3 wdX0_init_ini_X3 rfl (fun j hj => by rcases (show j = 0 ∨ j = 1 ∨ j = 2 ∨ j = 3 ∨ j = 4 ∨ j = 5 ∨ j = 6 ∨ j = 7 ∨ j = 8 ∨ j = 9 ∨ j = 10 ∨ j = 11 by omega) with rfl | rfl | rfl | rfl | rfl | rfl | rfl | rfl | rfl | rfl | rfl | rfl <;> rfl) (Nat.le_of_ble_eq_true rfl) (Nat.le_of_ble_eq_true rfl) dX0_init_36 hf (fun q66 H hf G => ?_)
  refine W.widen (k := 107) (n := 666) (Nat.le_refl _) (Nat.le_refl _) ?_
  refine lv_dup X.1.1 X.1.2.1 dX0_init_39 rfl ?_
  obtain ⟨q67, eq67, hf⟩ := Option.bind_eq_some_iff.mp hf
  refine zcIN (As := []) (r := q66.1) (rest := [.ref (b0 + q66.1), .int (15 : Int32), .ref (b0 + v65)]) (v := none) (h' := q67) X G (m_X3_init l D dA b0 q66.1 q66.2 q67 eq67) ⟨va_cnB 0 X.1.2.2.2.2 gX0_init_X3_init_n24 rfl rfl rfl (X.2.2.1 _ (List.mem_of_getElem? (i := 2) rfl)) (X.1.2.2.2.2 _ wdX0_init_ini_X3) hdS_X3_init ⟨(Nat.le_of_ble_eq_true rfl), (Nat.le_of_ble_eq_true rfl)⟩, rfl, X.1.2.2.2.2 _ wdX0_init_im_X3_init⟩ rfl hl.1 rfl (Nat.le_of_ble_eq_true rfl) dX0_init_40 ⟨(Nat.le_of_ble_eq_true rfl), (Nat.le_of_ble_eq_true rfl)⟩ (fun H locs G => ?_)
  refine W.widen (k := 113) (n := 696) (Nat.le_refl _) (Nat.le_refl _) ?_
  obtain ⟨⟨fs9, hk⟩, hf⟩ := zck hf
  refine zaast X G dX0_init_43 hk hf (fun h68 H locs hf G => ?_)
  refine lv_iinc (v := 16) (lv' := [(1, .int (16 : Int32)), (0, .ref (b0 + r0))]) X.1.1 X.1.2.1 dX0_init_44 hl (k := 0) rfl (by decide) (by decide) rfl (fun ls hl => ?_)
  refine lv_goto (tgt := 25) X.1.1 X.1.2.1 dX0_init_47 (by decide) ?_
  refine lv_iload_n X.1.1 X.1.2.1 dX0_init_25 rfl (lv_at hl 0 rfl) ?_
  refine lv_bipush (v := 24) X.1.1 X.1.2.1 dX0_init_26 (by decide) ?_
  refine lv_icmp_ge (tgt := 50) X.1.1 X.1.2.1 dX0_init_28 (by decide) (fun q => absurd q (by decide)) (fun _ => ?_)
  refine lv_aload_n X.1.1 X.1.2.1 dX0_init_31 rfl (lv_at hl 1 rfl) ?_
  refine zgetR (ci := 0) (k := 0) (C := RX0) (T := TX0) (N := 3) X G rfl inX0_init_X0 (Nat.le_of_ble_eq_true rfl) flX0_init_11 dX0_init_32 hf (fun v69 hf => ?_)
  refine lv_iload_n X.1.1 X.1.2.1 dX0_init_35 rfl (lv_at hl 0 rfl) ?_
  refine znew (ci := 3) (C := RX3) (T := TX3) (N := 12) (fs := [.int 0, .int 0, .int 0, .int 0, .int 0, .int 0, .null, .null, .null, .null, .null, .null]) X hb0 G rfl inX0_init_X3 tyX3_ok wdX0_init_cl9 wdX0_init_ins_X3 wdX0_init_ini_X3 rfl (fun j hj => by rcases (show j = 0 ∨ j = 1 ∨ j = 2 ∨ j = 3 ∨ j = 4 ∨ j = 5 ∨ j = 6 ∨ j = 7 ∨ j = 8 ∨ j = 9 ∨ j = 10 ∨ j = 11 by omega) with rfl | rfl | rfl | rfl | rfl | rfl | rfl | rfl | rfl | rfl | rfl | rfl <;> rfl) (Nat.le_of_ble_eq_true rfl) (Nat.le_of_ble_eq_true rfl) dX0_init_36 hf (fun q70 H hf G => ?_)
  refine W.widen (k := 114) (n := 708) (Nat.le_refl _) (Nat.le_refl _) ?_
  refine lv_dup X.1.1 X.1.2.1 dX0_init_39 rfl ?_
  obtain ⟨q71, eq71, hf⟩ := Option.bind_eq_some_iff.mp hf
  refine zcIN (As := []) (r := q70.1) (rest := [.ref (b0 + q70.1), .int (16 : Int32), .ref (b0 + v69)]) (v := none) (h' := q71) X G (m_X3_init l D dA b0 q70.1 q70.2 q71 eq71) ⟨va_cnB 0 X.1.2.2.2.2 gX0_init_X3_init_n24 rfl rfl rfl (X.2.2.1 _ (List.mem_of_getElem? (i := 2) rfl)) (X.1.2.2.2.2 _ wdX0_init_ini_X3) hdS_X3_init ⟨(Nat.le_of_ble_eq_true rfl), (Nat.le_of_ble_eq_true rfl)⟩, rfl, X.1.2.2.2.2 _ wdX0_init_im_X3_init⟩ rfl hl.1 rfl (Nat.le_of_ble_eq_true rfl) dX0_init_40 ⟨(Nat.le_of_ble_eq_true rfl), (Nat.le_of_ble_eq_true rfl)⟩ (fun H locs G => ?_)
  refine W.widen (k := 120) (n := 738) (Nat.le_refl _) (Nat.le_refl _) ?_
  obtain ⟨⟨fs9, hk⟩, hf⟩ := zck hf
  refine zaast X G dX0_init_43 hk hf (fun h72 H locs hf G => ?_)
  refine lv_iinc (v := 17) (lv' := [(1, .int (17 : Int32)), (0, .ref (b0 + r0))]) X.1.1 X.1.2.1 dX0_init_44 hl (k := 0) rfl (by decide) (by decide) rfl (fun ls hl => ?_)
  refine lv_goto (tgt := 25) X.1.1 X.1.2.1 dX0_init_47 (by decide) ?_
  refine lv_iload_n X.1.1 X.1.2.1 dX0_init_25 rfl (lv_at hl 0 rfl) ?_
  refine lv_bipush (v := 24) X.1.1 X.1.2.1 dX0_init_26 (by decide) ?_
  refine lv_icmp_ge (tgt := 50) X.1.1 X.1.2.1 dX0_init_28 (by decide) (fun q => absurd q (by decide)) (fun _ => ?_)
  refine lv_aload_n X.1.1 X.1.2.1 dX0_init_31 rfl (lv_at hl 1 rfl) ?_
  refine zgetR (ci := 0) (k := 0) (C := RX0) (T := TX0) (N := 3) X G rfl inX0_init_X0 (Nat.le_of_ble_eq_true rfl) flX0_init_11 dX0_init_32 hf (fun v73 hf => ?_)
  refine lv_iload_n X.1.1 X.1.2.1 dX0_init_35 rfl (lv_at hl 0 rfl) ?_
  refine znew (ci := 3) (C := RX3) (T := TX3) (N := 12) (fs := [.int 0, .int 0, .int 0, .int 0, .int 0, .int 0, .null, .null, .null, .null, .null, .null]) X hb0 G rfl inX0_init_X3 tyX3_ok wdX0_init_cl9 wdX0_init_ins_X3 wdX0_init_ini_X3 rfl (fun j hj => by rcases (show j = 0 ∨ j = 1 ∨ j = 2 ∨ j = 3 ∨ j = 4 ∨ j = 5 ∨ j = 6 ∨ j = 7 ∨ j = 8 ∨ j = 9 ∨ j = 10 ∨ j = 11 by omega) with rfl | rfl | rfl | rfl | rfl | rfl | rfl | rfl | rfl | rfl | rfl | rfl <;> rfl) (Nat.le_of_ble_eq_true rfl) (Nat.le_of_ble_eq_true rfl) dX0_init_36 hf (fun q74 H hf G => ?_)
  refine W.widen (k := 121) (n := 750) (Nat.le_refl _) (Nat.le_refl _) ?_
  refine lv_dup X.1.1 X.1.2.1 dX0_init_39 rfl ?_
  obtain ⟨q75, eq75, hf⟩ := Option.bind_eq_some_iff.mp hf
  refine zcIN (As := []) (r := q74.1) (rest := [.ref (b0 + q74.1), .int (17 : Int32), .ref (b0 + v73)]) (v := none) (h' := q75) X G (m_X3_init l D dA b0 q74.1 q74.2 q75 eq75) ⟨va_cnB 0 X.1.2.2.2.2 gX0_init_X3_init_n24 rfl rfl rfl (X.2.2.1 _ (List.mem_of_getElem? (i := 2) rfl)) (X.1.2.2.2.2 _ wdX0_init_ini_X3) hdS_X3_init ⟨(Nat.le_of_ble_eq_true rfl), (Nat.le_of_ble_eq_true rfl)⟩, rfl, X.1.2.2.2.2 _ wdX0_init_im_X3_init⟩ rfl hl.1 rfl (Nat.le_of_ble_eq_true rfl) dX0_init_40 ⟨(Nat.le_of_ble_eq_true rfl), (Nat.le_of_ble_eq_true rfl)⟩ (fun H locs G => ?_)
  refine W.widen (k := 127) (n := 780) (Nat.le_refl _) (Nat.le_refl _) ?_
  obtain ⟨⟨fs9, hk⟩, hf⟩ := zck hf
  refine zaast X G dX0_init_43 hk hf (fun h76 H locs hf G => ?_)
  refine lv_iinc (v := 18) (lv' := [(1, .int (18 : Int32)), (0, .ref (b0 + r0))]) X.1.1 X.1.2.1 dX0_init_44 hl (k := 0) rfl (by decide) (by decide) rfl (fun ls hl => ?_)
  refine lv_goto (tgt := 25) X.1.1 X.1.2.1 dX0_init_47 (by decide) ?_
  refine lv_iload_n X.1.1 X.1.2.1 dX0_init_25 rfl (lv_at hl 0 rfl) ?_
  refine lv_bipush (v := 24) X.1.1 X.1.2.1 dX0_init_26 (by decide) ?_
  refine lv_icmp_ge (tgt := 50) X.1.1 X.1.2.1 dX0_init_28 (by decide) (fun q => absurd q (by decide)) (fun _ => ?_)
  refine lv_aload_n X.1.1 X.1.2.1 dX0_init_31 rfl (lv_at hl 1 rfl) ?_
  refine zgetR (ci := 0) (k := 0) (C := RX0) (T := TX0) (N := 3) X G rfl inX0_init_X0 (Nat.le_of_ble_eq_true rfl) flX0_init_11 dX0_init_32 hf (fun v77 hf => ?_)
  refine lv_iload_n X.1.1 X.1.2.1 dX0_init_35 rfl (lv_at hl 0 rfl) ?_
  refine znew (ci := 3) (C := RX3) (T := TX3) (N := 12) (fs := [.int 0, .int 0, .int 0, .int 0, .int 0, .int 0, .null, .null, .null, .null, .null, .null]) X hb0 G rfl inX0_init_X3 tyX3_ok wdX0_init_cl9 wdX0_init_ins_X3 wdX0_init_ini_X3 rfl (fun j hj => by rcases (show j = 0 ∨ j = 1 ∨ j = 2 ∨ j = 3 ∨ j = 4 ∨ j = 5 ∨ j = 6 ∨ j = 7 ∨ j = 8 ∨ j = 9 ∨ j = 10 ∨ j = 11 by omega) with rfl | rfl | rfl | rfl | rfl | rfl | rfl | rfl | rfl | rfl | rfl | rfl <;> rfl) (Nat.le_of_ble_eq_true rfl) (Nat.le_of_ble_eq_true rfl) dX0_init_36 hf (fun q78 H hf G => ?_)
  refine W.widen (k := 128) (n := 792) (Nat.le_refl _) (Nat.le_refl _) ?_
  refine lv_dup X.1.1 X.1.2.1 dX0_init_39 rfl ?_
  obtain ⟨q79, eq79, hf⟩ := Option.bind_eq_some_iff.mp hf
  refine zcIN (As := []) (r := q78.1) (rest := [.ref (b0 + q78.1), .int (18 : Int32), .ref (b0 + v77)]) (v := none) (h' := q79) X G (m_X3_init l D dA b0 q78.1 q78.2 q79 eq79) ⟨va_cnB 0 X.1.2.2.2.2 gX0_init_X3_init_n24 rfl rfl rfl (X.2.2.1 _ (List.mem_of_getElem? (i := 2) rfl)) (X.1.2.2.2.2 _ wdX0_init_ini_X3) hdS_X3_init ⟨(Nat.le_of_ble_eq_true rfl), (Nat.le_of_ble_eq_true rfl)⟩, rfl, X.1.2.2.2.2 _ wdX0_init_im_X3_init⟩ rfl hl.1 rfl (Nat.le_of_ble_eq_true rfl) dX0_init_40 ⟨(Nat.le_of_ble_eq_true rfl), (Nat.le_of_ble_eq_true rfl)⟩ (fun H locs G => ?_)
  refine W.widen (k := 134) (n := 822) (Nat.le_refl _) (Nat.le_refl _) ?_
  obtain ⟨⟨fs9, hk⟩, hf⟩ := zck hf
  refine zaast X G dX0_init_43 hk hf (fun h80 H locs hf G => ?_)
  refine lv_iinc (v := 19) (lv' := [(1, .int (19 : Int32)), (0, .ref (b0 + r0))]) X.1.1 X.1.2.1 dX0_init_44 hl (k := 0) rfl (by decide) (by decide) rfl (fun ls hl => ?_)
  refine lv_goto (tgt := 25) X.1.1 X.1.2.1 dX0_init_47 (by decide) ?_
  refine lv_iload_n X.1.1 X.1.2.1 dX0_init_25 rfl (lv_at hl 0 rfl) ?_
  refine lv_bipush (v := 24) X.1.1 X.1.2.1 dX0_init_26 (by decide) ?_
  refine lv_icmp_ge (tgt := 50) X.1.1 X.1.2.1 dX0_init_28 (by decide) (fun q => absurd q (by decide)) (fun _ => ?_)
  refine lv_aload_n X.1.1 X.1.2.1 dX0_init_31 rfl (lv_at hl 1 rfl) ?_
  refine zgetR (ci := 0) (k := 0) (C := RX0) (T := TX0) (N := 3) X G rfl inX0_init_X0 (Nat.le_of_ble_eq_true rfl) flX0_init_11 dX0_init_32 hf (fun v81 hf => ?_)
  refine lv_iload_n X.1.1 X.1.2.1 dX0_init_35 rfl (lv_at hl 0 rfl) ?_
  refine znew (ci := 3) (C := RX3) (T := TX3) (N := 12) (fs := [.int 0, .int 0, .int 0, .int 0, .int 0, .int 0, .null, .null, .null, .null, .null, .null]) X hb0 G rfl inX0_init_X3 tyX3_ok wdX0_init_cl9 wdX0_init_ins_X3 wdX0_init_ini_X3 rfl (fun j hj => by rcases (show j = 0 ∨ j = 1 ∨ j = 2 ∨ j = 3 ∨ j = 4 ∨ j = 5 ∨ j = 6 ∨ j = 7 ∨ j = 8 ∨ j = 9 ∨ j = 10 ∨ j = 11 by omega) with rfl | rfl | rfl | rfl | rfl | rfl | rfl | rfl | rfl | rfl | rfl | rfl <;> rfl) (Nat.le_of_ble_eq_true rfl) (Nat.le_of_ble_eq_true rfl) dX0_init_36 hf (fun q82 H hf G => ?_)
  refine W.widen (k := 135) (n := 834) (Nat.le_refl _) (Nat.le_refl _) ?_
  refine lv_dup X.1.1 X.1.2.1 dX0_init_39 rfl ?_
  obtain ⟨q83, eq83, hf⟩ := Option.bind_eq_some_iff.mp hf
  refine zcIN (As := []) (r := q82.1) (rest := [.ref (b0 + q82.1), .int (19 : Int32), .ref (b0 + v81)]) (v := none) (h' := q83) X G (m_X3_init l D dA b0 q82.1 q82.2 q83 eq83) ⟨va_cnB 0 X.1.2.2.2.2 gX0_init_X3_init_n24 rfl rfl rfl (X.2.2.1 _ (List.mem_of_getElem? (i := 2) rfl)) (X.1.2.2.2.2 _ wdX0_init_ini_X3) hdS_X3_init ⟨(Nat.le_of_ble_eq_true rfl), (Nat.le_of_ble_eq_true rfl)⟩, rfl, X.1.2.2.2.2 _ wdX0_init_im_X3_init⟩ rfl hl.1 rfl (Nat.le_of_ble_eq_true rfl) dX0_init_40 ⟨(Nat.le_of_ble_eq_true rfl), (Nat.le_of_ble_eq_true rfl)⟩ (fun H locs G => ?_)
  refine W.widen (k := 141) (n := 864) (Nat.le_refl _) (Nat.le_refl _) ?_
  obtain ⟨⟨fs9, hk⟩, hf⟩ := zck hf
  refine zaast X G dX0_init_43 hk hf (fun h84 H locs hf G => ?_)
  refine lv_iinc (v := 20) (lv' := [(1, .int (20 : Int32)), (0, .ref (b0 + r0))]) X.1.1 X.1.2.1 dX0_init_44 hl (k := 0) rfl (by decide) (by decide) rfl (fun ls hl => ?_)
  refine lv_goto (tgt := 25) X.1.1 X.1.2.1 dX0_init_47 (by decide) ?_
  refine lv_iload_n X.1.1 X.1.2.1 dX0_init_25 rfl (lv_at hl 0 rfl) ?_
  refine lv_bipush (v := 24) X.1.1 X.1.2.1 dX0_init_26 (by decide) ?_
  refine lv_icmp_ge (tgt := 50) X.1.1 X.1.2.1 dX0_init_28 (by decide) (fun q => absurd q (by decide)) (fun _ => ?_)
  refine lv_aload_n X.1.1 X.1.2.1 dX0_init_31 rfl (lv_at hl 1 rfl) ?_
  refine zgetR (ci := 0) (k := 0) (C := RX0) (T := TX0) (N := 3) X G rfl inX0_init_X0 (Nat.le_of_ble_eq_true rfl) flX0_init_11 dX0_init_32 hf (fun v85 hf => ?_)
  refine lv_iload_n X.1.1 X.1.2.1 dX0_init_35 rfl (lv_at hl 0 rfl) ?_
  refine znew (ci := 3) (C := RX3) (T := TX3) (N := 12) (fs := [.int 0, .int 0, .int 0, .int 0, .int 0, .int 0, .null, .null, .null, .null, .null, .null]) X hb0 G rfl inX0_init_X3 tyX3_ok wdX0_init_cl9 wdX0_init_ins_X3 wdX0_init_ini_X3 rfl (fun j hj => by rcases (show j = 0 ∨ j = 1 ∨ j = 2 ∨ j = 3 ∨ j = 4 ∨ j = 5 ∨ j = 6 ∨ j = 7 ∨ j = 8 ∨ j = 9 ∨ j = 10 ∨ j = 11 by omega) with rfl | rfl | rfl | rfl | rfl | rfl | rfl | rfl | rfl | rfl | rfl | rfl <;> rfl) (Nat.le_of_ble_eq_true rfl) (Nat.le_of_ble_eq_true rfl) dX0_init_36 hf (fun q86 H hf G => ?_)
  refine W.widen (k := 142) (n := 876) (Nat.le_refl _) (Nat.le_refl _) ?_
  refine lv_dup X.1.1 X.1.2.1 dX0_init_39 rfl ?_
  obtain ⟨q87, eq87, hf⟩ := Option.bind_eq_some_iff.mp hf
  refine zcIN (As := []) (r := q86.1) (rest := [.ref (b0 + q86.1), .int (20 : Int32), .ref (b0 + v85)]) (v := none) (h' := q87) X G (m_X3_init l D dA b0 q86.1 q86.2 q87 eq87) ⟨va_cnB 0 X.1.2.2.2.2 gX0_init_X3_init_n24 rfl rfl rfl (X.2.2.1 _ (List.mem_of_getElem? (i := 2) rfl)) (X.1.2.2.2.2 _ wdX0_init_ini_X3) hdS_X3_init ⟨(Nat.le_of_ble_eq_true rfl), (Nat.le_of_ble_eq_true rfl)⟩, rfl, X.1.2.2.2.2 _ wdX0_init_im_X3_init⟩ rfl hl.1 rfl (Nat.le_of_ble_eq_true rfl) dX0_init_40 ⟨(Nat.le_of_ble_eq_true rfl), (Nat.le_of_ble_eq_true rfl)⟩ (fun H locs G => ?_)
  refine W.widen (k := 148) (n := 906) (Nat.le_refl _) (Nat.le_refl _) ?_
  obtain ⟨⟨fs9, hk⟩, hf⟩ := zck hf
  refine zaast X G dX0_init_43 hk hf (fun h88 H locs hf G => ?_)
  refine lv_iinc (v := 21) (lv' := [(1, .int (21 : Int32)), (0, .ref (b0 + r0))]) X.1.1 X.1.2.1 dX0_init_44 hl (k := 0) rfl (by decide) (by decide) rfl (fun ls hl => ?_)
  refine lv_goto (tgt := 25) X.1.1 X.1.2.1 dX0_init_47 (by decide) ?_
  refine lv_iload_n X.1.1 X.1.2.1 dX0_init_25 rfl (lv_at hl 0 rfl) ?_
  refine lv_bipush (v := 24) X.1.1 X.1.2.1 dX0_init_26 (by decide) ?_
  refine lv_icmp_ge (tgt := 50) X.1.1 X.1.2.1 dX0_init_28 (by decide) (fun q => absurd q (by decide)) (fun _ => ?_)
  refine lv_aload_n X.1.1 X.1.2.1 dX0_init_31 rfl (lv_at hl 1 rfl) ?_
  refine zgetR (ci := 0) (k := 0) (C := RX0) (T := TX0) (N := 3) X G rfl inX0_init_X0 (Nat.le_of_ble_eq_true rfl) flX0_init_11 dX0_init_32 hf (fun v89 hf => ?_)
  refine lv_iload_n X.1.1 X.1.2.1 dX0_init_35 rfl (lv_at hl 0 rfl) ?_
  refine znew (ci := 3) (C := RX3) (T := TX3) (N := 12) (fs := [.int 0, .int 0, .int 0, .int 0, .int 0, .int 0, .null, .null, .null, .null, .null, .null]) X hb0 G rfl inX0_init_X3 tyX3_ok wdX0_init_cl9 wdX0_init_ins_X3 wdX0_init_ini_X3 rfl (fun j hj => by rcases (show j = 0 ∨ j = 1 ∨ j = 2 ∨ j = 3 ∨ j = 4 ∨ j = 5 ∨ j = 6 ∨ j = 7 ∨ j = 8 ∨ j = 9 ∨ j = 10 ∨ j = 11 by omega) with rfl | rfl | rfl | rfl | rfl | rfl | rfl | rfl | rfl | rfl | rfl | rfl <;> rfl) (Nat.le_of_ble_eq_true rfl) (Nat.le_of_ble_eq_true rfl) dX0_init_36 hf (fun q90 H hf G => ?_)
  refine W.widen (k := 149) (n := 918) (Nat.le_refl _) (Nat.le_refl _) ?_
  refine lv_dup X.1.1 X.1.2.1 dX0_init_39 rfl ?_
  obtain ⟨q91, eq91, hf⟩ := Option.bind_eq_some_iff.mp hf
  refine zcIN (As := []) (r := q90.1) (rest := [.ref (b0 + q90.1), .int (21 : Int32), .ref (b0 + v89)]) (v := none) (h' := q91) X G (m_X3_init l D dA b0 q90.1 q90.2 q91 eq91) ⟨va_cnB 0 X.1.2.2.2.2 gX0_init_X3_init_n24 rfl rfl rfl (X.2.2.1 _ (List.mem_of_getElem? (i := 2) rfl)) (X.1.2.2.2.2 _ wdX0_init_ini_X3) hdS_X3_init ⟨(Nat.le_of_ble_eq_true rfl), (Nat.le_of_ble_eq_true rfl)⟩, rfl, X.1.2.2.2.2 _ wdX0_init_im_X3_init⟩ rfl hl.1 rfl (Nat.le_of_ble_eq_true rfl) dX0_init_40 ⟨(Nat.le_of_ble_eq_true rfl), (Nat.le_of_ble_eq_true rfl)⟩ (fun H locs G => ?_)
  refine W.widen (k := 155) (n := 948) (Nat.le_refl _) (Nat.le_refl _) ?_
  obtain ⟨⟨fs9, hk⟩, hf⟩ := zck hf
  refine zaast X G dX0_init_43 hk hf (fun h92 H locs hf G => ?_)
  refine lv_iinc (v := 22) (lv' := [(1, .int (22 : Int32)), (0, .ref (b0 + r0))]) X.1.1 X.1.2.1 dX0_init_44 hl (k := 0) rfl (by decide) (by decide) rfl (fun ls hl => ?_)
  refine lv_goto (tgt := 25) X.1.1 X.1.2.1 dX0_init_47 (by decide) ?_
  refine lv_iload_n X.1.1 X.1.2.1 dX0_init_25 rfl (lv_at hl 0 rfl) ?_
  refine lv_bipush (v := 24) X.1.1 X.1.2.1 dX0_init_26 (by decide) ?_
  refine lv_icmp_ge (tgt := 50) X.1.1 X.1.2.1 dX0_init_28 (by decide) (fun q => absurd q (by decide)) (fun _ => ?_)
  refine lv_aload_n X.1.1 X.1.2.1 dX0_init_31 rfl (lv_at hl 1 rfl) ?_
  refine zgetR (ci := 0) (k := 0) (C := RX0) (T := TX0) (N := 3) X G rfl inX0_init_X0 (Nat.le_of_ble_eq_true rfl) flX0_init_11 dX0_init_32 hf (fun v93 hf => ?_)
  refine lv_iload_n X.1.1 X.1.2.1 dX0_init_35 rfl (lv_at hl 0 rfl) ?_
  refine znew (ci := 3) (C := RX3) (T := TX3) (N := 12) (fs := [.int 0, .int 0, .int 0, .int 0, .int 0, .int 0, .null, .null, .null, .null, .null, .null]) X hb0 G rfl inX0_init_X3 tyX3_ok wdX0_init_cl9 wdX0_init_ins_X3 wdX0_init_ini_X3 rfl (fun j hj => by rcases (show j = 0 ∨ j = 1 ∨ j = 2 ∨ j = 3 ∨ j = 4 ∨ j = 5 ∨ j = 6 ∨ j = 7 ∨ j = 8 ∨ j = 9 ∨ j = 10 ∨ j = 11 by omega) with rfl | rfl | rfl | rfl | rfl | rfl | rfl | rfl | rfl | rfl | rfl | rfl <;> rfl) (Nat.le_of_ble_eq_true rfl) (Nat.le_of_ble_eq_true rfl) dX0_init_36 hf (fun q94 H hf G => ?_)
  refine W.widen (k := 156) (n := 960) (Nat.le_refl _) (Nat.le_refl _) ?_
  refine lv_dup X.1.1 X.1.2.1 dX0_init_39 rfl ?_
  obtain ⟨q95, eq95, hf⟩ := Option.bind_eq_some_iff.mp hf
  refine zcIN (As := []) (r := q94.1) (rest := [.ref (b0 + q94.1), .int (22 : Int32), .ref (b0 + v93)]) (v := none) (h' := q95) X G (m_X3_init l D dA b0 q94.1 q94.2 q95 eq95) ⟨va_cnB 0 X.1.2.2.2.2 gX0_init_X3_init_n24 rfl rfl rfl (X.2.2.1 _ (List.mem_of_getElem? (i := 2) rfl)) (X.1.2.2.2.2 _ wdX0_init_ini_X3) hdS_X3_init ⟨(Nat.le_of_ble_eq_true rfl), (Nat.le_of_ble_eq_true rfl)⟩, rfl, X.1.2.2.2.2 _ wdX0_init_im_X3_init⟩ rfl hl.1 rfl (Nat.le_of_ble_eq_true rfl) dX0_init_40 ⟨(Nat.le_of_ble_eq_true rfl), (Nat.le_of_ble_eq_true rfl)⟩ (fun H locs G => ?_)
  refine W.widen (k := 162) (n := 990) (Nat.le_refl _) (Nat.le_refl _) ?_
  obtain ⟨⟨fs9, hk⟩, hf⟩ := zck hf
  refine zaast X G dX0_init_43 hk hf (fun h96 H locs hf G => ?_)
  refine lv_iinc (v := 23) (lv' := [(1, .int (23 : Int32)), (0, .ref (b0 + r0))]) X.1.1 X.1.2.1 dX0_init_44 hl (k := 0) rfl (by decide) (by decide) rfl (fun ls hl => ?_)
  refine lv_goto (tgt := 25) X.1.1 X.1.2.1 dX0_init_47 (by decide) ?_
  refine lv_iload_n X.1.1 X.1.2.1 dX0_init_25 rfl (lv_at hl 0 rfl) ?_
  refine lv_bipush (v := 24) X.1.1 X.1.2.1 dX0_init_26 (by decide) ?_
  refine lv_icmp_ge (tgt := 50) X.1.1 X.1.2.1 dX0_init_28 (by decide) (fun q => absurd q (by decide)) (fun _ => ?_)
  refine lv_aload_n X.1.1 X.1.2.1 dX0_init_31 rfl (lv_at hl 1 rfl) ?_
  refine zgetR (ci := 0) (k := 0) (C := RX0) (T := TX0) (N := 3) X G rfl inX0_init_X0 (Nat.le_of_ble_eq_true rfl) flX0_init_11 dX0_init_32 hf (fun v97 hf => ?_)
  refine lv_iload_n X.1.1 X.1.2.1 dX0_init_35 rfl (lv_at hl 0 rfl) ?_
  refine znew (ci := 3) (C := RX3) (T := TX3) (N := 12) (fs := [.int 0, .int 0, .int 0, .int 0, .int 0, .int 0, .null, .null, .null, .null, .null, .null]) X hb0 G rfl inX0_init_X3 tyX3_ok wdX0_init_cl9 wdX0_init_ins_X3 wdX0_init_ini_X3 rfl (fun j hj => by rcases (show j = 0 ∨ j = 1 ∨ j = 2 ∨ j = 3 ∨ j = 4 ∨ j = 5 ∨ j = 6 ∨ j = 7 ∨ j = 8 ∨ j = 9 ∨ j = 10 ∨ j = 11 by omega) with rfl | rfl | rfl | rfl | rfl | rfl | rfl | rfl | rfl | rfl | rfl | rfl <;> rfl) (Nat.le_of_ble_eq_true rfl) (Nat.le_of_ble_eq_true rfl) dX0_init_36 hf (fun q98 H hf G => ?_)
  refine W.widen (k := 163) (n := 1002) (Nat.le_refl _) (Nat.le_refl _) ?_
  refine lv_dup X.1.1 X.1.2.1 dX0_init_39 rfl ?_
  obtain ⟨q99, eq99, hf⟩ := Option.bind_eq_some_iff.mp hf
  refine zcIN (As := []) (r := q98.1) (rest := [.ref (b0 + q98.1), .int (23 : Int32), .ref (b0 + v97)]) (v := none) (h' := q99) X G (m_X3_init l D dA b0 q98.1 q98.2 q99 eq99) ⟨va_cnB 0 X.1.2.2.2.2 gX0_init_X3_init_n24 rfl rfl rfl (X.2.2.1 _ (List.mem_of_getElem? (i := 2) rfl)) (X.1.2.2.2.2 _ wdX0_init_ini_X3) hdS_X3_init ⟨(Nat.le_of_ble_eq_true rfl), (Nat.le_of_ble_eq_true rfl)⟩, rfl, X.1.2.2.2.2 _ wdX0_init_im_X3_init⟩ rfl hl.1 rfl (Nat.le_of_ble_eq_true rfl) dX0_init_40 ⟨(Nat.le_of_ble_eq_true rfl), (Nat.le_of_ble_eq_true rfl)⟩ (fun H locs G => ?_)
  refine W.widen (k := 169) (n := 1032) (Nat.le_refl _) (Nat.le_refl _) ?_
  obtain ⟨⟨fs9, hk⟩, hf⟩ := zck hf
  refine zaast X G dX0_init_43 hk hf (fun h100 H locs hf G => ?_)
  refine lv_iinc (v := 24) (lv' := [(1, .int (24 : Int32)), (0, .ref (b0 + r0))]) X.1.1 X.1.2.1 dX0_init_44 hl (k := 0) rfl (by decide) (by decide) rfl (fun ls hl => ?_)
  refine lv_goto (tgt := 25) X.1.1 X.1.2.1 dX0_init_47 (by decide) ?_
  refine lv_iload_n X.1.1 X.1.2.1 dX0_init_25 rfl (lv_at hl 0 rfl) ?_
  refine lv_bipush (v := 24) X.1.1 X.1.2.1 dX0_init_26 (by decide) ?_
  refine lv_icmp_ge (tgt := 50) X.1.1 X.1.2.1 dX0_init_28 (by decide) (fun _ => ?_) (fun q => absurd (by decide) q)
  exact zretV X hr hlk G hf dX0_init_50
/-! X0_forgetAll -/
abbrev rmX0_forgetAll : Room := { frames := 0, cells := 0, slots := 0, locals := 0 }
theorem hdV_X0_forgetAll : yX0_forgetAll.cls = RX0 ∧ yX0_forgetAll.cls ≠ "java/lang/invoke/MethodHandle" ∧ yX0_forgetAll.cls ≠ "java/lang/invoke/VarHandle" ∧ (parseMethodDescriptor yX0_forgetAll.desc).map (fun d => d.parameters.length) = some 0 := by decide +kernel
theorem inX0_forgetAll_X0 : ∀ w ∈ wsX00, w ∈ wsX0_forgetAll := by decide +kernel
theorem flX0_forgetAll_21 : Cond.fieldLink RX0 21 (TX0 2).1 (TX0 2).2.1 (TX0 2).2.2.1 ∈ wsX0_forgetAll := by decide +kernel
set_option maxHeartbeats 4000000 in
set_option maxRecDepth 100000 in
theorem m_X0_forgetAll (l : Launch) (D : va_G) (dA : Nat → ClassId) (b0 : Nat) (r0 : Nat) (h : zH) (z : zH) (hf : f_X0_forgetAll r0 h = some z) : Met l yX0_forgetAll wsX0_forgetAll rmX0_forgetAll (zPc D dA b0 [.ref (b0 + r0)] h) (zQ D dA b0 none z) 0 0 (zA b0) := by
  refine Met.ofW (cc := cX0_forgetAll) (maxL := 1) (ret := none) (by decide) rfl ?_
  intro p e s m args below meth c s₁ B hml hv
  obtain ⟨rfl, hP, hz, hK, hN⟩ := hv
  have hr := B.returns
  have hlk := B.notSynchronized
  have X : zX p s m _ c cX0_forgetAll 1 RX0 wsX0_forgetAll D dA := ⟨⟨B.exec, B.bytes, hml, findClass_of_methodNamed B.named, atoms_spec (ws := wsX0_forgetAll) B.pre⟩, hK, hN⟩
  have G : zG D dA b0 s.heap h s.heap [] := ⟨hP, hz, va_S.rf⟩
  have hl := lv_entry ([.ref (b0 + r0)]) (n := 1) (Nat.le_of_ble_eq_true rfl)
  rw [lg_entry_eq]
  generalize (lg_sl ([.ref (b0 + r0)]) ++ List.replicate (1 - (lg_sl ([.ref (b0 + r0)])).length) Slot.unset).toArray = ls at hl ⊢
  have hl : lv_has ls 1 [(0, .ref (b0 + r0))] := hl
  unfold f_X0_forgetAll at hf
  refine lv_aload_n X.1.1 X.1.2.1 dX0_forgetAll_0 rfl (lv_at hl 0 rfl) ?_
  refine lv_iconst (v := 0) X.1.1 X.1.2.1 dX0_forgetAll_1 (by decide) ?_
  refine zputI (ci := 0) (k := 2) (C := RX0) (T := TX0) (N := 3) X G rfl inX0_forgetAll_X0 tyX0_ok nmX0 (Nat.le_of_ble_eq_true rfl) flX0_forgetAll_21 rfl (by decide +kernel) dX0_forgetAll_2 hf (fun h1 H locs hf G => ?_)
  exact zretV X hr hlk G hf dX0_forgetAll_5
/-! X3_become -/
abbrev rmX3_become : Room := { frames := 0, cells := 0, slots := 0, locals := 0 }
theorem hdV_X3_become : yX3_become.cls = RX3 ∧ yX3_become.cls ≠ "java/lang/invoke/MethodHandle" ∧ yX3_become.cls ≠ "java/lang/invoke/VarHandle" ∧ (parseMethodDescriptor yX3_become.desc).map (fun d => d.parameters.length) = some 1 := by decide +kernel
theorem inX3_become_X3 : ∀ w ∈ wsX30, w ∈ wsX3_become := by decide +kernel
theorem flX3_become_31 : Cond.fieldLink RX3 31 (TX3 6).1 (TX3 6).2.1 (TX3 6).2.2.1 ∈ wsX3_become := by decide +kernel
theorem flX3_become_35 : Cond.fieldLink RX3 35 (TX3 7).1 (TX3 7).2.1 (TX3 7).2.2.1 ∈ wsX3_become := by decide +kernel
theorem flX3_become_38 : Cond.fieldLink RX3 38 (TX3 8).1 (TX3 8).2.1 (TX3 8).2.2.1 ∈ wsX3_become := by decide +kernel
theorem flX3_become_41 : Cond.fieldLink RX3 41 (TX3 9).1 (TX3 9).2.1 (TX3 9).2.2.1 ∈ wsX3_become := by decide +kernel
theorem flX3_become_44 : Cond.fieldLink RX3 44 (TX3 10).1 (TX3 10).2.1 (TX3 10).2.2.1 ∈ wsX3_become := by decide +kernel
theorem flX3_become_9 : Cond.fieldLink RX3 9 (TX3 0).1 (TX3 0).2.1 (TX3 0).2.2.1 ∈ wsX3_become := by decide +kernel
theorem flX3_become_15 : Cond.fieldLink RX3 15 (TX3 1).1 (TX3 1).2.1 (TX3 1).2.2.1 ∈ wsX3_become := by decide +kernel
theorem flX3_become_19 : Cond.fieldLink RX3 19 (TX3 2).1 (TX3 2).2.1 (TX3 2).2.2.1 ∈ wsX3_become := by decide +kernel
theorem flX3_become_22 : Cond.fieldLink RX3 22 (TX3 3).1 (TX3 3).2.1 (TX3 3).2.2.1 ∈ wsX3_become := by decide +kernel
theorem flX3_become_25 : Cond.fieldLink RX3 25 (TX3 4).1 (TX3 4).2.1 (TX3 4).2.2.1 ∈ wsX3_become := by decide +kernel
theorem flX3_become_28 : Cond.fieldLink RX3 28 (TX3 5).1 (TX3 5).2.1 (TX3 5).2.2.1 ∈ wsX3_become := by decide +kernel
set_option maxHeartbeats 4000000 in
set_option maxRecDepth 100000 in
theorem w_X3_become_b50 {p : Program} {l : Launch} {e : Env} {s : State} {m : MethodId} {args : Array Value} {below : List Frame} {meth : Method} {c : Code} {D : va_G} {dA : Nat → ClassId} {b0 : Nat} (X : zX p s m args c cX3_become 3 RX3 wsX3_become D dA) (hr : meth.sig.returnType = none) (hlk : meth.locks = false) {z : zH} : ∀ (n : Nat), ∀ (r0 : Nat) (r1 : Nat) (a2 : Int32) (h : zH) (H : Heap) (locs : List Loc) (ls : Array Slot), f_X3_become_b50 n r0 r1 a2 h = some z → zG D dA b0 s.heap h H locs → lv_has ls 3 [(0, .ref (b0 + r0)), (1, .ref (b0 + r1)), (2, .int a2)] → W p l e rmX3_become s m args below meth c H locs 0 0 (MQ below (zQ D dA b0 none z) args s 0 0 (zA b0)) (F0 m 50 ls []) := by
  intro n
  induction n with
  | zero =>
    intro r0 r1 a2 h H locs ls hf
    cases hf
  | succ n ih =>
    intro r0 r1 a2 h H locs ls hf G hl
    rw [f_X3_become_b50] at hf
    refine lv_iload_n X.1.1 X.1.2.1 dX3_become_50 rfl (lv_at hl 2 rfl) ?_
    refine lv_iconst (v := 5) X.1.1 X.1.2.1 dX3_become_51 (by decide) ?_
    refine zic_ge (tgt := 121) X dX3_become_52 (by decide) hf (fun hf => ?_) (fun hf => ?_)
    · exact zretV X hr hlk G hf dX3_become_121
    · refine lv_aload_n X.1.1 X.1.2.1 dX3_become_55 rfl (lv_at hl 0 rfl) ?_
      refine zgetR (ci := 3) (k := 6) (C := RX3) (T := TX3) (N := 12) X G rfl inX3_become_X3 (Nat.le_of_ble_eq_true rfl) flX3_become_31 dX3_become_56 hf (fun v1 hf => ?_)
      refine lv_iload_n X.1.1 X.1.2.1 dX3_become_59 rfl (lv_at hl 2 rfl) ?_
      refine lv_aload_n X.1.1 X.1.2.1 dX3_become_60 rfl (lv_at hl 1 rfl) ?_
      refine zgetR (ci := 3) (k := 6) (C := RX3) (T := TX3) (N := 12) X G rfl inX3_become_X3 (Nat.le_of_ble_eq_true rfl) flX3_become_31 dX3_become_61 hf (fun v2 hf => ?_)
      refine lv_iload_n X.1.1 X.1.2.1 dX3_become_64 rfl (lv_at hl 2 rfl) ?_
      refine ziald X G dX3_become_65 hf (fun v3 hf => ?_)
      refine ziast X G dX3_become_66 hf (fun h4 H locs hf G => ?_)
      refine lv_aload_n X.1.1 X.1.2.1 dX3_become_67 rfl (lv_at hl 0 rfl) ?_
      refine zgetR (ci := 3) (k := 7) (C := RX3) (T := TX3) (N := 12) X G rfl inX3_become_X3 (Nat.le_of_ble_eq_true rfl) flX3_become_35 dX3_become_68 hf (fun v5 hf => ?_)
      refine lv_iload_n X.1.1 X.1.2.1 dX3_become_71 rfl (lv_at hl 2 rfl) ?_
      refine lv_aload_n X.1.1 X.1.2.1 dX3_become_72 rfl (lv_at hl 1 rfl) ?_
      refine zgetR (ci := 3) (k := 7) (C := RX3) (T := TX3) (N := 12) X G rfl inX3_become_X3 (Nat.le_of_ble_eq_true rfl) flX3_become_35 dX3_become_73 hf (fun v6 hf => ?_)
      refine lv_iload_n X.1.1 X.1.2.1 dX3_become_76 rfl (lv_at hl 2 rfl) ?_
      refine ziald X G dX3_become_77 hf (fun v7 hf => ?_)
      refine ziast X G dX3_become_78 hf (fun h8 H locs hf G => ?_)
      refine lv_aload_n X.1.1 X.1.2.1 dX3_become_79 rfl (lv_at hl 0 rfl) ?_
      refine zgetR (ci := 3) (k := 8) (C := RX3) (T := TX3) (N := 12) X G rfl inX3_become_X3 (Nat.le_of_ble_eq_true rfl) flX3_become_38 dX3_become_80 hf (fun v9 hf => ?_)
      refine lv_iload_n X.1.1 X.1.2.1 dX3_become_83 rfl (lv_at hl 2 rfl) ?_
      refine lv_aload_n X.1.1 X.1.2.1 dX3_become_84 rfl (lv_at hl 1 rfl) ?_
      refine zgetR (ci := 3) (k := 8) (C := RX3) (T := TX3) (N := 12) X G rfl inX3_become_X3 (Nat.le_of_ble_eq_true rfl) flX3_become_38 dX3_become_85 hf (fun v10 hf => ?_)
      refine lv_iload_n X.1.1 X.1.2.1 dX3_become_88 rfl (lv_at hl 2 rfl) ?_
      refine ziald X G dX3_become_89 hf (fun v11 hf => ?_)
      refine ziast X G dX3_become_90 hf (fun h12 H locs hf G => ?_)
      refine lv_aload_n X.1.1 X.1.2.1 dX3_become_91 rfl (lv_at hl 0 rfl) ?_
      refine zgetR (ci := 3) (k := 9) (C := RX3) (T := TX3) (N := 12) X G rfl inX3_become_X3 (Nat.le_of_ble_eq_true rfl) flX3_become_41 dX3_become_92 hf (fun v13 hf => ?_)
      refine lv_iload_n X.1.1 X.1.2.1 dX3_become_95 rfl (lv_at hl 2 rfl) ?_
      refine lv_aload_n X.1.1 X.1.2.1 dX3_become_96 rfl (lv_at hl 1 rfl) ?_
      refine zgetR (ci := 3) (k := 9) (C := RX3) (T := TX3) (N := 12) X G rfl inX3_become_X3 (Nat.le_of_ble_eq_true rfl) flX3_become_41 dX3_become_97 hf (fun v14 hf => ?_)
      refine lv_iload_n X.1.1 X.1.2.1 dX3_become_100 rfl (lv_at hl 2 rfl) ?_
      refine ziald X G dX3_become_101 hf (fun v15 hf => ?_)
      refine ziast X G dX3_become_102 hf (fun h16 H locs hf G => ?_)
      refine lv_aload_n X.1.1 X.1.2.1 dX3_become_103 rfl (lv_at hl 0 rfl) ?_
      refine zgetR (ci := 3) (k := 10) (C := RX3) (T := TX3) (N := 12) X G rfl inX3_become_X3 (Nat.le_of_ble_eq_true rfl) flX3_become_44 dX3_become_104 hf (fun v17 hf => ?_)
      refine lv_iload_n X.1.1 X.1.2.1 dX3_become_107 rfl (lv_at hl 2 rfl) ?_
      refine lv_aload_n X.1.1 X.1.2.1 dX3_become_108 rfl (lv_at hl 1 rfl) ?_
      refine zgetR (ci := 3) (k := 10) (C := RX3) (T := TX3) (N := 12) X G rfl inX3_become_X3 (Nat.le_of_ble_eq_true rfl) flX3_become_44 dX3_become_109 hf (fun v18 hf => ?_)
      refine lv_iload_n X.1.1 X.1.2.1 dX3_become_112 rfl (lv_at hl 2 rfl) ?_
      refine ziald X G dX3_become_113 hf (fun v19 hf => ?_)
      refine ziast X G dX3_become_114 hf (fun h20 H locs hf G => ?_)
      refine lv_iinc (v := (a2 + (1 : Int32))) (lv' := [(2, .int (a2 + (1 : Int32))), (0, .ref (b0 + r0)), (1, .ref (b0 + r1))]) X.1.1 X.1.2.1 dX3_become_115 hl (k := 2) rfl rfl (by decide) rfl (fun ls hl => ?_)
      refine lv_goto (tgt := 50) X.1.1 X.1.2.1 dX3_become_118 (by decide) ?_
      exact ih _ _ _ _ _ _ _ hf G (lv_sub hl [1, 2, 0] rfl)
set_option maxHeartbeats 4000000 in
set_option maxRecDepth 100000 in
theorem m_X3_become (l : Launch) (D : va_G) (dA : Nat → ClassId) (b0 : Nat) (r0 : Nat) (r1 : Nat) (h : zH) (z : zH) (hf : f_X3_become r0 r1 h = some z) : Met l yX3_become wsX3_become rmX3_become (zPc D dA b0 [.ref (b0 + r0), .ref (b0 + r1)] h) (zQ D dA b0 none z) 0 0 (zA b0) := by
  refine Met.ofW (cc := cX3_become) (maxL := 3) (ret := none) (by decide) rfl ?_
  intro p e s m args below meth c s₁ B hml hv
  obtain ⟨rfl, hP, hz, hK, hN⟩ := hv
  have hr := B.returns
  have hlk := B.notSynchronized
  have X : zX p s m _ c cX3_become 3 RX3 wsX3_become D dA := ⟨⟨B.exec, B.bytes, hml, findClass_of_methodNamed B.named, atoms_spec (ws := wsX3_become) B.pre⟩, hK, hN⟩
  have G : zG D dA b0 s.heap h s.heap [] := ⟨hP, hz, va_S.rf⟩
  have hl := lv_entry ([.ref (b0 + r0), .ref (b0 + r1)]) (n := 3) (Nat.le_of_ble_eq_true rfl)
  rw [lg_entry_eq]
  generalize (lg_sl ([.ref (b0 + r0), .ref (b0 + r1)]) ++ List.replicate (3 - (lg_sl ([.ref (b0 + r0), .ref (b0 + r1)])).length) Slot.unset).toArray = ls at hl ⊢
  have hl : lv_has ls 3 [(0, .ref (b0 + r0)), (1, .ref (b0 + r1))] := hl
  unfold f_X3_become at hf
  refine lv_aload_n X.1.1 X.1.2.1 dX3_become_0 rfl (lv_at hl 0 rfl) ?_
  refine lv_aload_n X.1.1 X.1.2.1 dX3_become_1 rfl (lv_at hl 1 rfl) ?_
  refine zgetI (ci := 3) (k := 0) (C := RX3) (T := TX3) (N := 12) X G rfl inX3_become_X3 (Nat.le_of_ble_eq_true rfl) flX3_become_9 dX3_become_2 hf (fun v1 hf => ?_)
  refine zputB (ci := 3) (k := 0) (C := RX3) (T := TX3) (N := 12) X G rfl inX3_become_X3 tyX3_ok nmX3 (Nat.le_of_ble_eq_true rfl) flX3_become_9 rfl (by decide +kernel) dX3_become_5 hf (fun h2 H locs hf G => ?_)
  refine lv_aload_n X.1.1 X.1.2.1 dX3_become_8 rfl (lv_at hl 0 rfl) ?_
  refine lv_aload_n X.1.1 X.1.2.1 dX3_become_9 rfl (lv_at hl 1 rfl) ?_
  refine zgetI (ci := 3) (k := 1) (C := RX3) (T := TX3) (N := 12) X G rfl inX3_become_X3 (Nat.le_of_ble_eq_true rfl) flX3_become_15 dX3_become_10 hf (fun v4 hf => ?_)
  refine zputI (ci := 3) (k := 1) (C := RX3) (T := TX3) (N := 12) X G rfl inX3_become_X3 tyX3_ok nmX3 (Nat.le_of_ble_eq_true rfl) flX3_become_15 rfl (by decide +kernel) dX3_become_13 hf (fun h5 H locs hf G => ?_)
  refine lv_aload_n X.1.1 X.1.2.1 dX3_become_16 rfl (lv_at hl 0 rfl) ?_
  refine lv_aload_n X.1.1 X.1.2.1 dX3_become_17 rfl (lv_at hl 1 rfl) ?_
  refine zgetI (ci := 3) (k := 2) (C := RX3) (T := TX3) (N := 12) X G rfl inX3_become_X3 (Nat.le_of_ble_eq_true rfl) flX3_become_19 dX3_become_18 hf (fun v6 hf => ?_)
  refine zputI (ci := 3) (k := 2) (C := RX3) (T := TX3) (N := 12) X G rfl inX3_become_X3 tyX3_ok nmX3 (Nat.le_of_ble_eq_true rfl) flX3_become_19 rfl (by decide +kernel) dX3_become_21 hf (fun h7 H locs hf G => ?_)
  refine lv_aload_n X.1.1 X.1.2.1 dX3_become_24 rfl (lv_at hl 0 rfl) ?_
  refine lv_aload_n X.1.1 X.1.2.1 dX3_become_25 rfl (lv_at hl 1 rfl) ?_
  refine zgetI (ci := 3) (k := 3) (C := RX3) (T := TX3) (N := 12) X G rfl inX3_become_X3 (Nat.le_of_ble_eq_true rfl) flX3_become_22 dX3_become_26 hf (fun v8 hf => ?_)
  refine zputI (ci := 3) (k := 3) (C := RX3) (T := TX3) (N := 12) X G rfl inX3_become_X3 tyX3_ok nmX3 (Nat.le_of_ble_eq_true rfl) flX3_become_22 rfl (by decide +kernel) dX3_become_29 hf (fun h9 H locs hf G => ?_)
  refine lv_aload_n X.1.1 X.1.2.1 dX3_become_32 rfl (lv_at hl 0 rfl) ?_
  refine lv_aload_n X.1.1 X.1.2.1 dX3_become_33 rfl (lv_at hl 1 rfl) ?_
  refine zgetI (ci := 3) (k := 4) (C := RX3) (T := TX3) (N := 12) X G rfl inX3_become_X3 (Nat.le_of_ble_eq_true rfl) flX3_become_25 dX3_become_34 hf (fun v10 hf => ?_)
  refine zputI (ci := 3) (k := 4) (C := RX3) (T := TX3) (N := 12) X G rfl inX3_become_X3 tyX3_ok nmX3 (Nat.le_of_ble_eq_true rfl) flX3_become_25 rfl (by decide +kernel) dX3_become_37 hf (fun h11 H locs hf G => ?_)
  refine lv_aload_n X.1.1 X.1.2.1 dX3_become_40 rfl (lv_at hl 0 rfl) ?_
  refine lv_aload_n X.1.1 X.1.2.1 dX3_become_41 rfl (lv_at hl 1 rfl) ?_
  refine zgetI (ci := 3) (k := 5) (C := RX3) (T := TX3) (N := 12) X G rfl inX3_become_X3 (Nat.le_of_ble_eq_true rfl) flX3_become_28 dX3_become_42 hf (fun v12 hf => ?_)
  refine zputI (ci := 3) (k := 5) (C := RX3) (T := TX3) (N := 12) X G rfl inX3_become_X3 tyX3_ok nmX3 (Nat.le_of_ble_eq_true rfl) flX3_become_28 rfl (by decide +kernel) dX3_become_45 hf (fun h13 H locs hf G => ?_)
  refine lv_iconst (v := 0) X.1.1 X.1.2.1 dX3_become_48 (by decide) ?_
  refine lv_istore_n (lv' := [(2, .int (0 : Int32)), (0, .ref (b0 + r0)), (1, .ref (b0 + r1))]) X.1.1 X.1.2.1 dX3_become_49 rfl hl (by decide) rfl (fun ls hl => ?_)
  exact w_X3_become_b50 X hr hlk _ _ _ _ _ _ _ _ hf G (lv_sub hl [1, 2, 0] rfl)
/-! X0_keep -/
abbrev rmX0_keep : Room := { frames := 1, cells := 0, slots := 0, locals := 40 }
theorem hdV_X0_keep : yX0_keep.cls = RX0 ∧ yX0_keep.cls ≠ "java/lang/invoke/MethodHandle" ∧ yX0_keep.cls ≠ "java/lang/invoke/VarHandle" ∧ (parseMethodDescriptor yX0_keep.desc).map (fun d => d.parameters.length) = some 1 := by decide +kernel
theorem inX0_keep_X0 : ∀ w ∈ wsX00, w ∈ wsX0_keep := by decide +kernel
theorem flX0_keep_17 : Cond.fieldLink RX0 17 (TX0 1).1 (TX0 1).2.1 (TX0 1).2.2.1 ∈ wsX0_keep := by decide +kernel
theorem flX0_keep_21 : Cond.fieldLink RX0 21 (TX0 2).1 (TX0 2).2.1 (TX0 2).2.2.1 ∈ wsX0_keep := by decide +kernel
theorem wdX0_keep_minL29 : Cond.methodLink RX0 29 Lib.Math.min.name ∈ wsX0_keep := by decide +kernel
theorem wdX0_keep_minS : Cond.static Lib.Math.min.name ∈ wsX0_keep := by decide +kernel
theorem wdX0_keep_minI : Cond.initialized "java/lang/Math" ∈ wsX0_keep := by decide +kernel
theorem wdX0_keep_minC : Cond.code Lib.Math.min.name Lib.Math.min.code 2 (some .int) ∈ wsX0_keep := by decide +kernel
theorem flX0_keep_11 : Cond.fieldLink RX0 11 (TX0 0).1 (TX0 0).2.1 (TX0 0).2.2.1 ∈ wsX0_keep := by decide +kernel
set_option maxHeartbeats 4000000 in
set_option maxRecDepth 100000 in
theorem w_X0_keep_b35 {p : Program} {l : Launch} {e : Env} {s : State} {m : MethodId} {args : Array Value} {below : List Frame} {meth : Method} {c : Code} {D : va_G} {dA : Nat → ClassId} {b0 : Nat} (X : zX p s m args c cX0_keep 2 RX0 wsX0_keep D dA) (hr : meth.sig.returnType = none) (hlk : meth.locks = false) {z : zH} : ∀ (r0 : Nat) (s0 : Nat) (s1 : Int32) (h : zH) (H : Heap) (locs : List Loc) (ls : Array Slot), f_X0_keep_b35 r0 s0 s1 h = some z → zG D dA b0 s.heap h H locs → lv_has ls 2 [(0, .ref (b0 + r0))] → W p l e rmX0_keep s m args below meth c H locs 0 0 (MQ below (zQ D dA b0 none z) args s 0 0 (zA b0)) (F0 m 35 ls [.int s1, .ref (b0 + s0)]) := by
  intro r0 s0 s1 h H locs ls hf G hl
  unfold f_X0_keep_b35 at hf
  refine zputI (ci := 0) (k := 1) (C := RX0) (T := TX0) (N := 3) X G rfl inX0_keep_X0 tyX0_ok nmX0 (Nat.le_of_ble_eq_true rfl) flX0_keep_17 rfl (by decide +kernel) dX0_keep_35 hf (fun h1 H locs hf G => ?_)
  refine lv_aload_n X.1.1 X.1.2.1 dX0_keep_38 rfl (lv_at hl 0 rfl) ?_
  refine lv_aload_n X.1.1 X.1.2.1 dX0_keep_39 rfl (lv_at hl 0 rfl) ?_
  refine zgetI (ci := 0) (k := 2) (C := RX0) (T := TX0) (N := 3) X G rfl inX0_keep_X0 (Nat.le_of_ble_eq_true rfl) flX0_keep_21 dX0_keep_40 hf (fun v2 hf => ?_)
  refine lv_iconst (v := 1) X.1.1 X.1.2.1 dX0_keep_43 (by decide) ?_
  refine lv_iadd X.1.1 X.1.2.1 dX0_keep_44 ?_
  refine lv_bipush (v := 24) X.1.1 X.1.2.1 dX0_keep_45 (by decide) ?_
  refine zmin X hl.1 wdX0_keep_minL29 wdX0_keep_minS wdX0_keep_minI wdX0_keep_minC (Nat.le_of_ble_eq_true rfl) (Nat.le_of_ble_eq_true rfl) (Nat.zero_le _) (Nat.zero_le _) dX0_keep_47 ?_
  refine zputI (ci := 0) (k := 2) (C := RX0) (T := TX0) (N := 3) X G rfl inX0_keep_X0 tyX0_ok nmX0 (Nat.le_of_ble_eq_true rfl) flX0_keep_21 rfl (by decide +kernel) dX0_keep_50 hf (fun h3 H locs hf G => ?_)
  exact zretV X hr hlk G hf dX0_keep_53
set_option maxHeartbeats 4000000 in
set_option maxRecDepth 100000 in
theorem m_X0_keep (l : Launch) (D : va_G) (dA : Nat → ClassId) (b0 : Nat) (r0 : Nat) (r1 : Nat) (h : zH) (z : zH) (hf : f_X0_keep r0 r1 h = some z) : Met l yX0_keep wsX0_keep rmX0_keep (zPc D dA b0 [.ref (b0 + r0), .ref (b0 + r1)] h) (zQ D dA b0 none z) 0 0 (zA b0) := by
  refine Met.ofW (cc := cX0_keep) (maxL := 2) (ret := none) (by decide) rfl ?_
  intro p e s m args below meth c s₁ B hml hv
  obtain ⟨rfl, hP, hz, hK, hN⟩ := hv
  have hr := B.returns
  have hlk := B.notSynchronized
  have X : zX p s m _ c cX0_keep 2 RX0 wsX0_keep D dA := ⟨⟨B.exec, B.bytes, hml, findClass_of_methodNamed B.named, atoms_spec (ws := wsX0_keep) B.pre⟩, hK, hN⟩
  have G : zG D dA b0 s.heap h s.heap [] := ⟨hP, hz, va_S.rf⟩
  have hl := lv_entry ([.ref (b0 + r0), .ref (b0 + r1)]) (n := 2) (Nat.le_of_ble_eq_true rfl)
  rw [lg_entry_eq]
  generalize (lg_sl ([.ref (b0 + r0), .ref (b0 + r1)]) ++ List.replicate (2 - (lg_sl ([.ref (b0 + r0), .ref (b0 + r1)])).length) Slot.unset).toArray = ls at hl ⊢
  have hl : lv_has ls 2 [(0, .ref (b0 + r0)), (1, .ref (b0 + r1))] := hl
  unfold f_X0_keep at hf
  refine lv_aload_n X.1.1 X.1.2.1 dX0_keep_0 rfl (lv_at hl 0 rfl) ?_
  refine zgetR (ci := 0) (k := 0) (C := RX0) (T := TX0) (N := 3) X G rfl inX0_keep_X0 (Nat.le_of_ble_eq_true rfl) flX0_keep_11 dX0_keep_1 hf (fun v1 hf => ?_)
  refine lv_aload_n X.1.1 X.1.2.1 dX0_keep_4 rfl (lv_at hl 0 rfl) ?_
  refine zgetI (ci := 0) (k := 1) (C := RX0) (T := TX0) (N := 3) X G rfl inX0_keep_X0 (Nat.le_of_ble_eq_true rfl) flX0_keep_17 dX0_keep_5 hf (fun v2 hf => ?_)
  refine zaald 2 X G rfl rfl dX0_keep_8 hf (fun v3 hf => ?_)
  refine lv_aload_n X.1.1 X.1.2.1 dX0_keep_9 rfl (lv_at hl 1 rfl) ?_
  obtain ⟨hk, hf⟩ := zck hf
  obtain ⟨q4, eq4, hf⟩ := Option.bind_eq_some_iff.mp hf
  refine zcV0 (As := [.ref (b0 + r1)]) (rest := []) (v := none) (h' := q4) X G (rfl : vwCl[3]? = some (RX3, TX3, 12)) hk (m_X3_become l D dA b0 v3 r1 h q4 eq4) (cwV 1 X.1.2.2.2.2 gX0_keep_X3_become rfl rfl rfl hdV_X3_become ⟨(Nat.le_of_ble_eq_true rfl), (Nat.le_of_ble_eq_true rfl)⟩) rfl hl.1 rfl (Nat.le_of_ble_eq_true rfl) dX0_keep_10 ⟨Nat.zero_le _, Nat.zero_le _⟩ (fun H locs G => ?_)
  refine lv_aload_n X.1.1 X.1.2.1 dX0_keep_13 rfl (lv_at hl 0 rfl) ?_
  refine lv_aload_n X.1.1 X.1.2.1 dX0_keep_14 rfl (lv_at hl 0 rfl) ?_
  refine zgetI (ci := 0) (k := 1) (C := RX0) (T := TX0) (N := 3) X G rfl inX0_keep_X0 (Nat.le_of_ble_eq_true rfl) flX0_keep_17 dX0_keep_15 hf (fun v5 hf => ?_)
  refine lv_iconst (v := 1) X.1.1 X.1.2.1 dX0_keep_18 (by decide) ?_
  refine lv_iadd X.1.1 X.1.2.1 dX0_keep_19 ?_
  refine lv_bipush (v := 24) X.1.1 X.1.2.1 dX0_keep_20 (by decide) ?_
  refine zic_ge (tgt := 34) X dX0_keep_22 (by decide) hf (fun hf => ?_) (fun hf => ?_)
  · refine lv_iconst (v := 0) X.1.1 X.1.2.1 dX0_keep_34 (by decide) ?_
    exact w_X0_keep_b35 X hr hlk _ _ _ _ _ _ _ hf G (lv_sub hl [0] rfl)
  · refine lv_aload_n X.1.1 X.1.2.1 dX0_keep_25 rfl (lv_at hl 0 rfl) ?_
    refine zgetI (ci := 0) (k := 1) (C := RX0) (T := TX0) (N := 3) X G rfl inX0_keep_X0 (Nat.le_of_ble_eq_true rfl) flX0_keep_17 dX0_keep_26 hf (fun v6 hf => ?_)
    refine lv_iconst (v := 1) X.1.1 X.1.2.1 dX0_keep_29 (by decide) ?_
    refine lv_iadd X.1.1 X.1.2.1 dX0_keep_30 ?_
    refine lv_goto (tgt := 35) X.1.1 X.1.2.1 dX0_keep_31 (by decide) ?_
    exact w_X0_keep_b35 X hr hlk _ _ _ _ _ _ _ hf G (lv_sub hl [0] rfl)
