theorem inT0 : ∀ w ∈ wsX00, w ∈ lw_tbl := zin_pl _ [199, 201, 203] (by decide +kernel)
theorem tT0 : Cond.instantiable RX0 3 ∈ lw_tbl := List.mem_of_getElem? (i := 187) (by decide +kernel)
theorem inT1 : ∀ w ∈ wsX10, w ∈ lw_tbl := zin_pl _ [259, 261] (by decide +kernel)
theorem tT1 : Cond.instantiable RX1 2 ∈ lw_tbl := List.mem_of_getElem? (i := 250) (by decide +kernel)
theorem inT2 : ∀ w ∈ wsX20, w ∈ lw_tbl := zin_pl _ [238, 240, 242, 244, 246] (by decide +kernel)
theorem tT2 : Cond.instantiable RX2 5 ∈ lw_tbl := List.mem_of_getElem? (i := 223) (by decide +kernel)
theorem inT3 : ∀ w ∈ wsX30, w ∈ lw_tbl := zin_pl _ [161, 163, 165, 167, 169, 171, 173, 175, 177, 179, 181, 183] (by decide +kernel)
theorem tT3 : Cond.instantiable RX3 12 ∈ lw_tbl := List.mem_of_getElem? (i := 111) (by decide +kernel)
theorem inT4 : ∀ w ∈ wsX40, w ∈ lw_tbl := zin_pl _ [81, 83, 85] (by decide +kernel)
theorem tT4 : Cond.instantiable RX4 3 ∈ lw_tbl := List.mem_of_getElem? (i := 68) (by decide +kernel)
theorem inT5 : ∀ w ∈ wsX50, w ∈ lw_tbl := zin_pl _ [217, 219] (by decide +kernel)
theorem tT5 : Cond.instantiable RX5 2 ∈ lw_tbl := List.mem_of_getElem? (i := 207) (by decide +kernel)
theorem inT6 : ∀ w ∈ wsX60, w ∈ lw_tbl := zin_pl _ [101, 103, 105, 107] (by decide +kernel)
theorem tT6 : Cond.instantiable RX6 4 ∈ lw_tbl := List.mem_of_getElem? (i := 90) (by decide +kernel)
theorem inT7 : ∀ w ∈ wsX70, w ∈ lw_tbl := zin_pl _ [275, 277, 279, 281, 283, 285, 287, 289, 291, 293, 295] (by decide +kernel)
theorem tT7 : Cond.instantiable RX7 11 ∈ lw_tbl := List.mem_of_getElem? (i := 60) (by decide +kernel)
theorem inT8 : ∀ w ∈ wsX80, w ∈ lw_tbl := zin_pl _ [771, 773, 775, 777, 779, 781, 783, 785, 787, 789, 791, 793, 795, 797, 799, 801, 803, 805, 807, 809, 811, 813, 815, 817] (by decide +kernel)
theorem tT8 : Cond.instantiable RX8 24 ∈ lw_tbl := List.mem_of_getElem? (i := 742) (by decide +kernel)
theorem zNest_in : ∀ w ∈ zNest, w ∈ lw_tbl := zin_pl _ [91, 112, 194, 208, 213, 224, 229, 251, 540, 715] (by decide +kernel)
theorem tTI : Cond.arrayClass .int ∈ lw_tbl := List.mem_of_getElem? (i := 88) (by decide +kernel)
theorem tTZ : Cond.arrayClass .boolean ∈ lw_tbl := List.mem_of_getElem? (i := 820) (by decide +kernel)
theorem tTAO : Cond.arrayOver (.object "BuriedHalves$Mine") ∈ lw_tbl := List.mem_of_getElem? (i := 193) (by decide +kernel)
theorem tTAOA : Cond.arrayOver (.array .int) ∈ lw_tbl := List.mem_of_getElem? (i := 74) (by decide +kernel)
theorem zarrI {args : Array Value} {s : State} (h : (Cond.arrayClass .int).before args s = true) : ∃ a, ArrOfT s a .int ∧ va_RA s a .int := by
  obtain ⟨c, k, comp, h1, h2, h3⟩ := Cond.arrayClass_spec h
  exact ⟨c, fun n z => ⟨fun k h => (by cases h), k, h2, comp, h3⟩, h1⟩
theorem zarrZ {args : Array Value} {s : State} (h : (Cond.arrayClass .boolean).before args s = true) : ∃ a, ArrOfT s a .boolean ∧ va_RA s a .boolean := by
  obtain ⟨c, k, comp, h1, h2, h3⟩ := Cond.arrayClass_spec h
  exact ⟨c, fun n z => ⟨fun k h => (by cases h), k, h2, comp, h3⟩, h1⟩
theorem zarrM {s : State} (h : va_AO "BuriedHalves$Mine" s) : ∃ a, ArrOfT s a (.object "BuriedHalves$Mine") ∧ va_RA s a (.object "BuriedHalves$Mine") := by
  obtain ⟨comp, c, k, h1, h2, h3, h4, h5⟩ := Cond.arrayOver_spec h
  exact ⟨c, fun n z => ⟨fun k h => (by cases h), k, h3, comp, h4⟩, k, comp, h3, h4, h1, h5⟩
theorem zarrA {s : State} (h : zAOA s) : ∃ a, ArrOfT s a (.array .int) ∧ va_RA s a (.array .int) := by
  obtain ⟨comp, c, k, h1, h2, h3, h4, h5⟩ := arrayOverA_spec h
  exact ⟨c, fun n z => ⟨fun k h => (by cases h), k, h3, comp, h4⟩, h5⟩
/-! THE LAW FROM ITS ENTRY, if the pure law has an answer -/
theorem zstart {p : Program} {e : Env} {s : State} {m : MethodId} {below : List Frame} {meth : Method} {c : Code} (l : Launch) {b L : Nat} {xs : Nat → Int32} (C0 : lw_At p s m meth c b L xs) {z : Int32} (hf : f_L_law xs L [] = some z) : W p l e room_1 s m #[Value.ref b] below meth c s.heap [] 0 0 (lw_Z below #[Value.ref b] s) (entryFrame m ([Value.ref b] : List Value).toArray 4) := by
  obtain ⟨hx, hb, hr, hml, hown, hts, hX, hbl, hlocks, hgv⟩ := id C0
  have hk0 := u_known (C := RX0) (T := TX0) (N := 3) (n := 3) hts inT0 (hts _ tT0)
  have hk1 := u_known (C := RX1) (T := TX1) (N := 2) (n := 2) hts inT1 (hts _ tT1)
  have hk2 := u_known (C := RX2) (T := TX2) (N := 5) (n := 5) hts inT2 (hts _ tT2)
  have hk3 := u_known (C := RX3) (T := TX3) (N := 12) (n := 12) hts inT3 (hts _ tT3)
  have hk4 := u_known (C := RX4) (T := TX4) (N := 3) (n := 3) hts inT4 (hts _ tT4)
  have hk5 := u_known (C := RX5) (T := TX5) (N := 2) (n := 2) hts inT5 (hts _ tT5)
  have hk6 := u_known (C := RX6) (T := TX6) (N := 4) (n := 4) hts inT6 (hts _ tT6)
  have hk7 := u_known (C := RX7) (T := TX7) (N := 11) (n := 11) hts inT7 (hts _ tT7)
  have hk8 := u_known (C := RX8) (T := TX8) (N := 24) (n := 24) hts inT8 (hts _ tT8)
  obtain ⟨c0, i0, hk0⟩ := hk0
  obtain ⟨c1, i1, hk1⟩ := hk1
  obtain ⟨c2, i2, hk2⟩ := hk2
  obtain ⟨c3, i3, hk3⟩ := hk3
  obtain ⟨c4, i4, hk4⟩ := hk4
  obtain ⟨c5, i5, hk5⟩ := hk5
  obtain ⟨c6, i6, hk6⟩ := hk6
  obtain ⟨c7, i7, hk7⟩ := hk7
  obtain ⟨c8, i8, hk8⟩ := hk8
  obtain ⟨dC, dI, hKc⟩ : ∃ (dC : Nat → ClassId) (dI : Nat → Nat → Nat), ∀ (k : Nat) (q : vw_C), vwCl[k]? = some q → u_Kn s q.1 q.2.1 q.2.2 (dC k) (dI k) := by
    refine ⟨fun k => match k with | 0 => c0 | 1 => c1 | 2 => c2 | 3 => c3 | 4 => c4 | 5 => c5 | 6 => c6 | 7 => c7 | _ => c8, fun k => match k with | 0 => i0 | 1 => i1 | 2 => i2 | 3 => i3 | 4 => i4 | 5 => i5 | 6 => i6 | 7 => i7 | _ => i8, ?_⟩
    intro k q hq
    match k, hq with
    | 0, hq => cases hq; exact hk0
    | 1, hq => cases hq; exact hk1
    | 2, hq => cases hq; exact hk2
    | 3, hq => cases hq; exact hk3
    | 4, hq => cases hq; exact hk4
    | 5, hq => cases hq; exact hk5
    | 6, hq => cases hq; exact hk6
    | 7, hq => cases hq; exact hk7
    | 8, hq => cases hq; exact hk8
    | k + 9, hq => simp [vwCl] at hq
  have hN : zN s := by
    refine ⟨fun w hw => ?_, va_AO.of (hts _ tTAO), hts _ tTAOA⟩
    have h2 := zNest_in w hw
    have h1 := hts w h2
    simp only [zNest, List.mem_cons, List.not_mem_nil, or_false] at hw
    rcases hw with rfl | rfl | rfl | rfl | rfl | rfl | rfl | rfl | rfl | rfl <;> exact va_Nw.of rfl h1
  obtain ⟨a0, hA0, hB0⟩ := zarrI (hts _ tTI)
  obtain ⟨a1, hA1, hB1⟩ := zarrZ (hts _ tTZ)
  obtain ⟨a2, hA2, hB2⟩ := zarrM (hN.2.1)
  obtain ⟨a3, hA3, hB3⟩ := zarrA (hN.2.2)
  obtain ⟨dA, hd0, hd1, hd2, hd3⟩ : ∃ dA : Nat → ClassId, dA 0 = a0 ∧ dA 1 = a1 ∧ dA 2 = a2 ∧ dA 3 = a3 := ⟨fun k => match k with | 0 => a0 | 1 => a1 | 2 => a2 | _ => a3, rfl, rfl, rfl, rfl⟩
  have hK : va_K (dC, dI) vwCl (zTys dA) s := by
    refine ⟨hKc, fun k q hq => ?_⟩
    match k, hq with
    | 0, hq => cases hq; rw [hd0]; exact ⟨hA0, hB0⟩
    | 1, hq => cases hq; rw [hd1]; exact ⟨hA1, hB1⟩
    | 2, hq => cases hq; rw [hd2]; exact ⟨hA2, hB2⟩
    | 3, hq => cases hq; rw [hd3]; exact ⟨hA3, hB3⟩
    | k + 4, hq => simp [zTys] at hq
  have X : zX p s m #[Value.ref b] c cL_law 4 RL lw_tbl (dC, dI) dA := ⟨⟨hx, hb, hml, hown, hts⟩, hK, hN⟩
  have G : zG (dC, dI) dA s.heap.size s.heap ([] : zH) s.heap [] := ⟨fun k q hq => by simp [zw] at hq, by simp, va_S.rf⟩
  have hl := lv_entry ([.ref b]) (n := 4) (Nat.le_of_ble_eq_true rfl)
  rw [lg_entry_eq]
  generalize (lg_sl ([.ref b]) ++ List.replicate (4 - (lg_sl ([.ref b])).length) Slot.unset).toArray = ls at hl ⊢
  have hl : lv_has ls 4 [(0, .ref b)] := hl
  exact w_L_law_start X hr hlocks hX hbl rfl [] s.heap [] ls hf G hl
