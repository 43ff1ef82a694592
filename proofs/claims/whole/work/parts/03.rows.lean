/-! ROWS: one an instruction that reads or writes the heap, decides, calls or returns: the machine's step beside the pure one -/
section ZROW
variable {p : Program} {l : Launch} {e : Env} {R : Room} {s : State} {m : MethodId} {args : Array Value} {below : List Frame} {meth : Method} {c : Code} {H : Heap} {locs : List Loc} {cells slots : Nat} {Q : State → Prop}
variable {cc : ByteArray} {nL : Nat} {own : String} {Ts : List Cond} {D : va_G} {dA : Nat → ClassId} {b0 : Nat} {h : zH} {pc : Nat} {ls : Array Slot} {rest : List Value} {H0 : Heap}
theorem zgetI (X : zX p s m args c cc nL own Ts D dA) (G : zG D dA b0 H0 h H locs) {ci k N index : Nat} {C : String} {T : u_T} (hc : vwCl[ci]? = some (C, T, N)) (hin : ∀ w ∈ u_ws C T N, w ∈ Ts) (hk : k < N) (hlink : Cond.fieldLink own index (T k).1 (T k).2.1 (T k).2.2.1 ∈ Ts) (hdg : decode cc pc = .ok (.getfield index, 3)) {r : Nat} {α : Type} {z : α} {f : Int32 → Option α} (hf : (zI h r ci k).bind f = some z)
    (kk : ∀ v, f v = some z → W p l e R s m args below meth c H locs cells slots Q (F0 m (pc + 3) ls (.int v :: rest))) : W p l e R s m args below meth c H locs cells slots Q (F0 m pc ls (.ref (b0 + r) :: rest)) := by
  obtain ⟨v, hv, hf⟩ := Option.bind_eq_some_iff.mp hf
  obtain ⟨fs, he, hv2⟩ := zI_spec hv
  obtain ⟨⟨hx, hb, hml, hown, hts⟩, hK, hN⟩ := X
  exact va_get (D := D) (ci := ci) (v := .int v) (fs := fs.map (zv b0)) hx hb hts hin hown hK G.1 r (zw_at he) hc k hk (hts _ hlink) (fun _ h9 => h9) (by rw [List.getElem?_map, hv2]; rfl) hdg (kk v hf)
theorem zgetR (X : zX p s m args c cc nL own Ts D dA) (G : zG D dA b0 H0 h H locs) {ci k N index : Nat} {C : String} {T : u_T} (hc : vwCl[ci]? = some (C, T, N)) (hin : ∀ w ∈ u_ws C T N, w ∈ Ts) (hk : k < N) (hlink : Cond.fieldLink own index (T k).1 (T k).2.1 (T k).2.2.1 ∈ Ts) (hdg : decode cc pc = .ok (.getfield index, 3)) {r : Nat} {α : Type} {z : α} {f : Nat → Option α} (hf : (zR h r ci k).bind f = some z)
    (kk : ∀ v, f v = some z → W p l e R s m args below meth c H locs cells slots Q (F0 m (pc + 3) ls (.ref (b0 + v) :: rest))) : W p l e R s m args below meth c H locs cells slots Q (F0 m pc ls (.ref (b0 + r) :: rest)) := by
  obtain ⟨v, hv, hf⟩ := Option.bind_eq_some_iff.mp hf
  obtain ⟨fs, he, hv2⟩ := zR_spec hv
  obtain ⟨⟨hx, hb, hml, hown, hts⟩, hK, hN⟩ := X
  exact va_get (D := D) (ci := ci) (v := .ref (b0 + v)) (fs := fs.map (zv b0)) hx hb hts hin hown hK G.1 r (zw_at he) hc k hk (hts _ hlink) (fun _ h9 => h9) (by rw [List.getElem?_map, hv2]; rfl) hdg (kk v hf)
theorem zput (X : zX p s m args c cc nL own Ts D dA) (G : zG D dA b0 H0 h H locs) {ci k N index : Nat} {C : String} {T : u_T} (hc : vwCl[ci]? = some (C, T, N)) (hin : ∀ w ∈ u_ws C T N, w ∈ Ts) (ty0 : Nat → FieldType) (hty : ∀ k, k < N → parseFieldDescriptor (T k).2.2.1 = some (ty0 k)) (hnm : ∀ a, a < N → ∀ b, b < N → a ≠ b → (T a).2.1 ≠ (T b).2.1) (hk : k < N) (hlink : Cond.fieldLink own index (T k).1 (T k).2.1 (T k).2.2.1 ∈ Ts) (hfin : (T k).2.2.2 = false) {ty : FieldType} (v : Value) (hd : parseFieldDescriptor (T k).2.2.1 = some ty) (hn : narrow ty (zv b0 v) = zv b0 v) (hfit : fits ty (zv b0 v) = true) (hdg : decode cc pc = .ok (.putfield index, 3)) {r : Nat} {α : Type} {z : α} {f : zH → Option α} (hf : (zP h r ci k v).bind f = some z)
    (kk : ∀ h' H locs, f h' = some z → zG D dA b0 H0 h' H locs → W p l e R s m args below meth c H locs cells slots Q (F0 m (pc + 3) ls rest)) : W p l e R s m args below meth c H locs cells slots Q (F0 m pc ls (zv b0 v :: .ref (b0 + r) :: rest)) := by
  obtain ⟨h', hv, hf⟩ := Option.bind_eq_some_iff.mp hf
  obtain ⟨fs, he, hl, rfl⟩ := zP_spec hv
  obtain ⟨⟨hx, hb, hml, hown, hts⟩, hK, hN⟩ := X
  obtain ⟨hP, hz, hS0⟩ := G
  have hD := zw_D dA b0 h
  have hap := va_apart (own := own) hts hin ty0 hty hnm hK hc
  have he' : (zw dA b0 h)[r]? = some (b0 + r, .inr (ci, fs.map (zv b0))) := zw_at he
  obtain ⟨r1, h1, cell, q1, q2, q3, q4⟩ := hP r _ he'
  have hr : r1 = (C, T, N) := Option.some.inj (h1.symm.trans hc)
  subst hr
  obtain ⟨hS, hfc, kC, hkC, hkind⟩ := hK.1 ci _ hc
  obtain ⟨cf, kf, fi, f1, hi, hsl⟩ := hS k hk
  have hlay := hts _ (hin _ (u_in_lay hk))
  unfold u_lay at hlay
  rw [if_neg (by rw [hfin]; decide)] at hlay
  have hst := (u_facts hfc hkC (u_lays hts hin hk) hi).1
  have h6 := u_store hfc hkC hkind hlay hi hd hn hfit
  refine W.putK hx hb (f := f1) ⟨hown, hts _ hlink, ⟨_, _, _, hi⟩, hst⟩ (by rw [q2]; exact h6) q1 q3 (by rw [hsl]; exact k2_hasslot (q4 k hk)) rfl rfl hdg fun H' e1 e2 e3 => ?_
  rw [hsl] at e1 ⊢
  refine kk _ H' _ hf ⟨?_, by rw [e2, hz, List.length_set], hS0.put e2 e3 (Nat.le_add_right _ _)⟩
  rw [zw_set]
  show va_P D vwCl ((zw dA b0 h).set r (b0 + r, .inr (ci, (fs.set k v).map (zv b0)))) H'
  rw [List.map_set]
  exact hP.set hD he' ⟨_, hc, t_OB.to (V := updV (vp_V (fs.map (zv b0))) k (zv b0 v)) ⟨_, e1, q2, q3, t_set q4 hap hk (zv b0 v)⟩ (fun j _ => vp_updV_set (by rw [List.length_map]; exact hl) (zv b0 v) j)⟩ e3
theorem zputI (X : zX p s m args c cc nL own Ts D dA) (G : zG D dA b0 H0 h H locs) {ci k N index : Nat} {C : String} {T : u_T} (hc : vwCl[ci]? = some (C, T, N)) (hin : ∀ w ∈ u_ws C T N, w ∈ Ts) {ty0 : Nat → FieldType} (hty : ∀ k, k < N → parseFieldDescriptor (T k).2.2.1 = some (ty0 k)) (hnm : ∀ a, a < N → ∀ b, b < N → a ≠ b → (T a).2.1 ≠ (T b).2.1) (hk : k < N) (hlink : Cond.fieldLink own index (T k).1 (T k).2.1 (T k).2.2.1 ∈ Ts) (hfin : (T k).2.2.2 = false) (hd : parseFieldDescriptor (T k).2.2.1 = some .int) (hdg : decode cc pc = .ok (.putfield index, 3)) {x : Int32} {r : Nat} {α : Type} {z : α} {f : zH → Option α} (hf : (zP h r ci k (.int x)).bind f = some z)
    (kk : ∀ h' H locs, f h' = some z → zG D dA b0 H0 h' H locs → W p l e R s m args below meth c H locs cells slots Q (F0 m (pc + 3) ls rest)) : W p l e R s m args below meth c H locs cells slots Q (F0 m pc ls (.int x :: .ref (b0 + r) :: rest)) :=
  zput X G hc hin ty0 hty hnm hk hlink hfin (.int x) hd rfl rfl hdg hf kk
theorem zputB (X : zX p s m args c cc nL own Ts D dA) (G : zG D dA b0 H0 h H locs) {ci k N index : Nat} {C : String} {T : u_T} (hc : vwCl[ci]? = some (C, T, N)) (hin : ∀ w ∈ u_ws C T N, w ∈ Ts) {ty0 : Nat → FieldType} (hty : ∀ k, k < N → parseFieldDescriptor (T k).2.2.1 = some (ty0 k)) (hnm : ∀ a, a < N → ∀ b, b < N → a ≠ b → (T a).2.1 ≠ (T b).2.1) (hk : k < N) (hlink : Cond.fieldLink own index (T k).1 (T k).2.1 (T k).2.2.1 ∈ Ts) (hfin : (T k).2.2.2 = false) (hd : parseFieldDescriptor (T k).2.2.1 = some .boolean) (hdg : decode cc pc = .ok (.putfield index, 3)) {x : Int32} {r : Nat} {α : Type} {z : α} {f : zH → Option α} (hf : ((zB x).bind fun x => (zP h r ci k (.int x)).bind f) = some z)
    (kk : ∀ h' H locs, f h' = some z → zG D dA b0 H0 h' H locs → W p l e R s m args below meth c H locs cells slots Q (F0 m (pc + 3) ls rest)) : W p l e R s m args below meth c H locs cells slots Q (F0 m pc ls (.int x :: .ref (b0 + r) :: rest)) := by
  obtain ⟨y, hy, hf⟩ := Option.bind_eq_some_iff.mp hf
  unfold zB at hy
  split at hy
  · rename_i h01
    cases hy
    rcases h01 with rfl | rfl
    · exact zput X G hc hin ty0 hty hnm hk hlink hfin (.int 0) hd rfl rfl hdg hf kk
    · exact zput X G hc hin ty0 hty hnm hk hlink hfin (.int 1) hd rfl rfl hdg hf kk
  · cases hy
/-- a final field, in a constructor -/
theorem zputF (X : zX p s m args c cc nL own Ts D dA) (G : zG D dA b0 H0 h H locs) {ci k N index : Nat} {C : String} {T : u_T} (hc : vwCl[ci]? = some (C, T, N)) (hin : ∀ w ∈ u_ws C T N, w ∈ Ts) {ty0 : Nat → FieldType} (hty : ∀ k, k < N → parseFieldDescriptor (T k).2.2.1 = some (ty0 k)) (hnm : ∀ a, a < N → ∀ b, b < N → a ≠ b → (T a).2.1 ≠ (T b).2.1) (hk : k < N) (hlink : Cond.fieldLink own index (T k).1 (T k).2.1 (T k).2.2.1 ∈ Ts) (hfin : (T k).2.2.2 = true) (hin2 : meth.name = "<init>") (hdecl : (T k).1 = own) {ty : FieldType} {k0 : Nat} (hd : parseFieldDescriptor (T k).2.2.1 = some ty) (hn : ∀ q : Nat, narrow ty (.ref q) = .ref q) (hfit : ∀ q : Nat, fits ty (.ref q) = true) (hdg : decode cc pc = .ok (.putfield index, 3)) {r : Nat} {α : Type} {z : α} {f : zH → Option α} (hf : (zP h r ci k (.ref k0)).bind f = some z)
    (kk : ∀ h' H locs, f h' = some z → zG D dA b0 H0 h' H locs → W p l e R s m args below meth c H locs cells slots Q (F0 m (pc + 3) ls rest)) : W p l e R s m args below meth c H locs cells slots Q (F0 m pc ls (.ref (b0 + k0) :: .ref (b0 + r) :: rest)) := by
  obtain ⟨h', hv, hf⟩ := Option.bind_eq_some_iff.mp hf
  obtain ⟨fs, he, hl, rfl⟩ := zP_spec hv
  obtain ⟨⟨hx, hb, hml, hown, hts⟩, hK, hN⟩ := X
  obtain ⟨hP, hz, hS0⟩ := G
  have hD := zw_D dA b0 h
  have hap := va_apart (own := own) hts hin ty0 hty hnm hK hc
  have he' : (zw dA b0 h)[r]? = some (b0 + r, .inr (ci, fs.map (zv b0))) := zw_at he
  obtain ⟨r1, h1, cell, q1, q2, q3, q4⟩ := hP r _ he'
  have hr : r1 = (C, T, N) := Option.some.inj (h1.symm.trans hc)
  subst hr
  obtain ⟨hS, hfc, kC, hkC, hkind⟩ := hK.1 ci _ hc
  obtain ⟨cf, kf, fi, f1, hi, hsl⟩ := hS k hk
  have hlay := hts _ (hin _ (u_in_lay hk))
  unfold u_lay at hlay
  rw [if_pos hfin] at hlay
  have hst := (u_facts hfc hkC (u_lays hts hin hk) hi).1
  have hcf : m.cls = cf := by
    obtain ⟨_, _, c', _, _, _, -, -, hf', -, -, -, hown2, -⟩ := Cond.laysFinal_spec hlay
    have e1 : c' = cf := by have := hi.symm.trans hf'; simp at this; exact this.1.symm
    rw [hdecl] at hown2
    rw [← e1]; exact Option.some.inj (hown.symm.trans hown2)
  have h6 := u_fits hfc hkC hkind (Or.inr hlay) hi hd (hn (b0 + k0)) (hfit (b0 + k0))
  refine W.putFinK hx hb hown (hts _ hlink) hi hst hcf hin2 (by rw [q2]; exact h6) q1 q3 (by rw [hsl]; exact k2_hasslot (q4 k hk)) rfl rfl hdg fun H' e1 e2 e3 => ?_
  rw [hsl] at e1 ⊢
  refine kk _ H' _ hf ⟨?_, by rw [e2, hz, List.length_set], hS0.put e2 e3 (Nat.le_add_right _ _)⟩
  rw [zw_set]
  show va_P D vwCl ((zw dA b0 h).set r (b0 + r, .inr (ci, (fs.set k (.ref k0)).map (zv b0)))) H'
  rw [List.map_set]
  exact hP.set hD he' ⟨_, hc, t_OB.to (V := updV (vp_V (fs.map (zv b0))) k (.ref (b0 + k0))) ⟨_, e1, q2, q3, t_set q4 hap hk (.ref (b0 + k0))⟩ (fun j _ => vp_updV_set (by rw [List.length_map]; exact hl) (.ref (b0 + k0)) j)⟩ e3
theorem ziald (X : zX p s m args c cc nL own Ts D dA) (G : zG D dA b0 H0 h H locs) (hdg : decode cc pc = .ok (.iaload, 1)) {r : Nat} {i : Int32} {α : Type} {z : α} {f : Int32 → Option α} (hf : (zL h 0 r i).bind f = some z)
    (kk : ∀ v, f v = some z → W p l e R s m args below meth c H locs cells slots Q (F0 m (pc + 1) ls (.int v :: rest))) : W p l e R s m args below meth c H locs cells slots Q (F0 m pc ls (.int i :: .ref (b0 + r) :: rest)) := by
  obtain ⟨v, hv, hf⟩ := Option.bind_eq_some_iff.mp hf
  obtain ⟨n, g, he, hin, rfl⟩ := zL_spec hv
  exact va_iald X.1.1 X.1.2.1 X.2.1 G.1 r 0 (zw_at he) rfl hin hdg (kk _ hf)
theorem zzald (X : zX p s m args c cc nL own Ts D dA) (G : zG D dA b0 H0 h H locs) (hdg : decode cc pc = .ok (.baload, 1)) {r : Nat} {i : Int32} {α : Type} {z : α} {f : Int32 → Option α} (hf : (zL h 1 r i).bind f = some z)
    (kk : ∀ v, f v = some z → W p l e R s m args below meth c H locs cells slots Q (F0 m (pc + 1) ls (.int v :: rest))) : W p l e R s m args below meth c H locs cells slots Q (F0 m pc ls (.int i :: .ref (b0 + r) :: rest)) := by
  obtain ⟨v, hv, hf⟩ := Option.bind_eq_some_iff.mp hf
  obtain ⟨n, g, he, hin, rfl⟩ := zL_spec hv
  exact va_zald X.1.1 X.1.2.1 X.2.1 G.1 r 1 (zw_at he) rfl hin hdg (kk _ hf)
theorem ziast (X : zX p s m args c cc nL own Ts D dA) (G : zG D dA b0 H0 h H locs) (hdg : decode cc pc = .ok (.iastore, 1)) {r : Nat} {i x : Int32} {α : Type} {z : α} {f : zH → Option α} (hf : (zS h 0 r i x).bind f = some z)
    (kk : ∀ h' H locs, f h' = some z → zG D dA b0 H0 h' H locs → W p l e R s m args below meth c H locs cells slots Q (F0 m (pc + 1) ls rest)) : W p l e R s m args below meth c H locs cells slots Q (F0 m pc ls (.int x :: .int i :: .ref (b0 + r) :: rest)) := by
  obtain ⟨h', hv, hf⟩ := Option.bind_eq_some_iff.mp hf
  obtain ⟨n, g, he, hin, rfl⟩ := zS_spec hv
  obtain ⟨hP, hz, hS⟩ := G
  have ha : (zw dA b0 h)[r]? = some (b0 + r, .inl (dA 0, n, .inl g)) := zw_at he
  refine W.iast X.1.1 X.1.2.1 (hP r _ ha) ((X.2.1.2 0 _ rfl).1 n (fun j => .int (g j))) (fun q => by cases q) (by show ¬ (i < 0 ∨ (arrV _ _ _).slots.size ≤ _); rw [arrV_size]; exact hin) rfl rfl hdg fun H1 e1 z1 oq => ?_
  refine kk _ H1 _ hf ⟨?_, by rw [z1, hz, List.length_set], hS.put z1 oq (Nat.le_add_right _ _)⟩
  rw [zw_set]
  refine hP.set (zw_D dA b0 h) ha ?_ oq
  show H1[b0 + r]? = some (vp_cell (dA 0) (n, .inl (upd g i.toNatClampNeg x)))
  rw [e1]
  rw [vp_cell_i, vp_cell_i, arrV_store]
  congr 2
  funext q
  by_cases hq : q = i.toNatClampNeg
  · subst hq
    simp [updV, upd]
  · simp [updV, upd, hq]
theorem zzast (X : zX p s m args c cc nL own Ts D dA) (G : zG D dA b0 H0 h H locs) (hdg : decode cc pc = .ok (.bastore, 1)) {r : Nat} {i x : Int32} {α : Type} {z : α} {f : zH → Option α} (hf : ((zB x).bind fun x => (zS h 1 r i x).bind f) = some z)
    (kk : ∀ h' H locs, f h' = some z → zG D dA b0 H0 h' H locs → W p l e R s m args below meth c H locs cells slots Q (F0 m (pc + 1) ls rest)) : W p l e R s m args below meth c H locs cells slots Q (F0 m pc ls (.int x :: .int i :: .ref (b0 + r) :: rest)) := by
  obtain ⟨y, hy, hf2⟩ := Option.bind_eq_some_iff.mp hf
  have hnx : narrow .boolean (.int x) = .int x ∧ y = x := by
    unfold zB at hy
    split at hy
    · rename_i h01
      cases hy
      rcases h01 with rfl | rfl
      · exact ⟨rfl, rfl⟩
      · exact ⟨rfl, rfl⟩
    · cases hy
  obtain ⟨hnx, rfl⟩ := hnx
  obtain ⟨h', hv, hf3⟩ := Option.bind_eq_some_iff.mp hf2
  obtain ⟨n, g, he, hin, rfl⟩ := zS_spec hv
  obtain ⟨hP, hz, hS⟩ := G
  have ha : (zw dA b0 h)[r]? = some (b0 + r, .inl (dA 1, n, .inl g)) := zw_at he
  refine W.zast X.1.1 X.1.2.1 (hP r _ ha) ((X.2.1.2 1 _ rfl).1 n (fun j => .int (g j))) (fun q => by cases q) (by show ¬ (i < 0 ∨ (arrV _ _ _).slots.size ≤ _); rw [arrV_size]; exact hin) rfl rfl hdg fun H1 e1 z1 oq => ?_
  rw [hnx] at e1
  refine kk _ H1 _ hf3 ⟨?_, by rw [z1, hz, List.length_set], hS.put z1 oq (Nat.le_add_right _ _)⟩
  rw [zw_set]
  refine hP.set (zw_D dA b0 h) ha ?_ oq
  show H1[b0 + r]? = some (vp_cell (dA 1) (n, .inl (upd g i.toNatClampNeg y)))
  rw [e1]
  rw [vp_cell_i, vp_cell_i, arrV_store]
  congr 2
  funext q
  by_cases hq : q = i.toNatClampNeg
  · subst hq
    simp [updV, upd]
  · simp [updV, upd, hq]
theorem zaald (t : Nat) {ty : FieldType} (X : zX p s m args c cc nL own Ts D dA) (G : zG D dA b0 H0 h H locs) (ht : (zTys dA)[t]? = some (dA t, ty)) (hty : ty.isReference = true) (hdg : decode cc pc = .ok (.aaload, 1)) {r : Nat} {i : Int32} {α : Type} {z : α} {f : Nat → Option α} (hf : (zLr h t r i).bind f = some z)
    (kk : ∀ v, f v = some z → W p l e R s m args below meth c H locs cells slots Q (F0 m (pc + 1) ls (.ref (b0 + v) :: rest))) : W p l e R s m args below meth c H locs cells slots Q (F0 m pc ls (.int i :: .ref (b0 + r) :: rest)) := by
  obtain ⟨v, hv, hf⟩ := Option.bind_eq_some_iff.mp hf
  obtain ⟨n, g, he, hin, hg⟩ := zLr_spec hv
  have hlt : i.toNatClampNeg < n := Nat.not_le.mp fun q => hin (Or.inr q)
  have ha : (zw dA b0 h)[r]? = some (b0 + r, .inl (dA t, n, .inr (.inr (.inr (.inr (fun i => (g i).map (fun k => b0 + k))))))) := zw_at he
  exact W.aald (v := .ref (b0 + v)) (ty := ty) X.1.1 X.1.2.1 (G.1 r _ ha) ((X.2.1.2 t _ ht).1 n (fun j => va_rf ((g j).map (fun k => b0 + k)))) hty (fun q => by cases q) (by show ¬ (i < 0 ∨ (arrV _ _ _).slots.size ≤ _); rw [arrV_size]; exact hin) (by show (arrV _ _ _).slots[_]? = _; rw [arrV_read _ _ hlt]; show some (va_rf ((g i.toNatClampNeg).map (fun k => b0 + k))) = _; rw [hg]; rfl) rfl rfl hdg (kk v hf)
/-- a reference to an object of Mine, stored in a row of such -/
theorem zaast (X : zX p s m args c cc nL own Ts D dA) (G : zG D dA b0 H0 h H locs) (hdg : decode cc pc = .ok (.aastore, 1)) {r v : Nat} {fs : List Value} (hv : h[v]? = some (.inr (3, fs))) {i : Int32} {α : Type} {z : α} {f : zH → Option α} (hf : (zSr h 2 r i v).bind f = some z)
    (kk : ∀ h' H locs, f h' = some z → zG D dA b0 H0 h' H locs → W p l e R s m args below meth c H locs cells slots Q (F0 m (pc + 1) ls rest)) : W p l e R s m args below meth c H locs cells slots Q (F0 m pc ls (.ref (b0 + v) :: .int i :: .ref (b0 + r) :: rest)) := by
  obtain ⟨h', hv', hf⟩ := Option.bind_eq_some_iff.mp hf
  obtain ⟨n, g, he, hin, rfl⟩ := zSr_spec hv'
  obtain ⟨hP, hz, hS⟩ := G
  have hK := X.2.1
  have ha : (zw dA b0 h)[r]? = some (b0 + r, .inl (dA 2, n, .inr (.inr (.inr (.inr (fun i => (g i).map (fun k => b0 + k))))))) := zw_at he
  have hvw : (zw dA b0 h)[v]? = some (b0 + v, .inr (3, fs.map (zv b0))) := zw_at hv
  have hlt : i.toNatClampNeg < n := Nat.not_le.mp fun q => hin (Or.inr q)
  have h0 : ¬ i < 0 := fun q => hin (Or.inl q)
  obtain ⟨r', hr', cellV, g1, g2, g3, -⟩ := hP v _ hvw
  have hc : vwCl[3]? = some (RX3, TX3, 12) := rfl
  have hcls := (hK.1 3 _ hc).2
  obtain ⟨kA, comp, k1, k2, k3, -⟩ := (hK.2 2 _ (rfl : (zTys dA)[2]? = some (dA 2, .object "BuriedHalves$Mine"))).2
  have hcomp : comp = D.1 3 := Option.some.inj (k3.symm.trans hcls.1)
  subst hcomp
  obtain ⟨kC, hkC, -⟩ := hcls.2
  refine W.aast X.1.1 X.1.2.1 (hP r _ ha) (fun q h => by cases h) (fun h => by cases h) k1 k2 rfl hkC ⟨h0, by show _ < (arrV _ _ _).slots.size; rw [arrV_size]; exact hlt⟩ g1 (fun q h => by rw [g3] at h; cases h) (by rw [g2]; exact hkC) (by rw [g2]; exact va_assign hcls) rfl rfl hdg fun H1 e1 z1 oq => ?_
  refine kk _ H1 _ hf ⟨?_, by rw [z1, hz, List.length_set], hS.put z1 oq (Nat.le_add_right _ _)⟩
  rw [zw_set]
  refine hP.set (zw_D dA b0 h) ha ?_ oq
  show H1[b0 + r]? = some (vp_cell (dA 2) (n, .inr (.inr (.inr (.inr (fun j => (va_up g i.toNatClampNeg (some v) j).map (fun k => b0 + k)))))))
  rw [e1]
  rw [vp_cell_q, vp_cell_q, arrV_store]
  congr 2
  funext q
  by_cases hq : q = i.toNatClampNeg
  · subst hq
    simp [updV, va_up, va_rf]
  · simp [updV, va_up, hq]
end ZROW
