/-! ROWS: making -/
section ZMAKE
variable {p : Program} {l : Launch} {e : Env} {R : Room} {s : State} {m : MethodId} {args : Array Value} {below : List Frame} {meth : Method} {c : Code} {H : Heap} {locs : List Loc} {cells slots : Nat} {Q : State → Prop}
variable {cc : ByteArray} {nL : Nat} {own : String} {Ts : List Cond} {D : va_G} {dA : Nat → ClassId} {b0 : Nat} {h : zH} {pc : Nat} {ls : Array Slot} {rest : List Value} {H0 : Heap}
theorem zgrow {H1 : Heap} {x : zE} (hb : b0 ≤ H0.size) (G : zG D dA b0 H0 h H locs) (z1 : H1.size = b0 + h.length + 1) (o1 : ∀ q, q < b0 + h.length → H1[q]? = H[q]?) (hx : va_at D vwCl (b0 + h.length, ze dA b0 x) H1) : zG D dA b0 H0 (h ++ [x]) H1 locs := by
  obtain ⟨hP, hz, hS⟩ := G
  refine ⟨?_, by rw [z1, List.length_append]; rfl, ⟨by rw [z1, ← hz]; exact Nat.le_succ_of_le hS.1, fun q h1 h2 => (o1 q (by rw [← hz]; exact Nat.lt_of_lt_of_le h1 hS.1)).trans (hS.2.1 q h1 h2), hS.2.2⟩⟩
  rw [zw_app]
  refine (hP.kept (fun k y hk => o1 y.1 (by rw [← hz]; exact (hP k y hk).lt))).app (fun k y hk => ?_)
  have h0 : k < 1 := (List.getElem?_eq_some_iff.mp hk).1
  rw [show k = 0 by omega] at hk
  cases hk
  exact hx
theorem znew (X : zX p s m args c cc nL own Ts D dA) (hb0 : b0 ≤ H0.size) (G : zG D dA b0 H0 h H locs) {ci N index : Nat} {C : String} {T : u_T} (hc : vwCl[ci]? = some (C, T, N)) (hin : ∀ w ∈ u_ws C T N, w ∈ Ts) {ty : Nat → FieldType} (hty : ∀ k, k < N → parseFieldDescriptor (T k).2.2.1 = some (ty k)) (hcl : Cond.classLink own index C ∈ Ts) (hinst : Cond.instantiable C N ∈ Ts) (hini : Cond.initialized C ∈ Ts) {fs : List Value} (hfs : fs.map (zv b0) = fs) (hdf : ∀ j, j < N → defaultValue (ty j) = vp_V fs j) (hcells : cells + 1 ≤ R.cells) (hslots : slots + N ≤ R.slots) (hdg : decode cc pc = .ok (.new index, 3)) {α : Type} {z : α} {f : Nat × zH → Option α} (hf : (zMk h (.inr (ci, fs))).bind f = some z)
    (kk : ∀ q H, f q = some z → zG D dA b0 H0 q.2 H locs → W p l e R s m args below meth c H locs (cells + 1) (slots + N) Q (F0 m (pc + 3) ls (.ref (b0 + q.1) :: rest))) : W p l e R s m args below meth c H locs cells slots Q (F0 m pc ls rest) := by
  obtain ⟨⟨hx, hb, hml, hown, hts⟩, hK, hN⟩ := X
  have hKn := hK.1 ci _ hc
  refine W.newcK hx hb hown (hts _ hcl) (hts _ hinst) (hts _ hini) rfl hdg hcells hslots hKn.2.1 G.2.1 fun H1 kC hkC e1 z1 o1 => ?_
  refine kk (h.length, h ++ [(.inr (ci, fs) : zE)]) H1 hf (zgrow (x := .inr (ci, fs)) hb0 G z1 o1 ?_)
  refine ⟨_, hc, ?_⟩
  show t_OB (b0 + h.length) (D.1 ci) N (D.2 ci) H1 (vp_V (fs.map (zv b0)))
  rw [hfs]
  exact (u_born ty hts hin hKn hkC e1 hty).to hdf
theorem znewI (X : zX p s m args c cc nL own Ts D dA) (hb0 : b0 ≤ H0.size) (G : zG D dA b0 H0 h H locs) (harr : Cond.arrayClass .int ∈ Ts) {n : Int32} {N : Nat} (hn : ¬ n < 0) (hN : n.toNatClampNeg = N) (hbytes : N * 4 ≤ 536870912) (hcells : cells + 1 ≤ R.cells) (hslots : slots + N ≤ R.slots) (hdg : decode cc pc = .ok (.newarray .int, 2)) {α : Type} {z : α} {f : Nat × zH → Option α} (hf : (zMk h (.inl (0, N, .inl (fun _ => 0)))).bind f = some z)
    (kk : ∀ q H, f q = some z → zG D dA b0 H0 q.2 H locs → W p l e R s m args below meth c H locs (cells + 1) (slots + N) Q (F0 m (pc + 2) ls (.ref (b0 + q.1) :: rest))) : W p l e R s m args below meth c H locs cells slots Q (F0 m pc ls (.int n :: rest)) := by
  obtain ⟨⟨hx, hb, hml, hown, hts⟩, hK, hN2⟩ := X
  refine va_newaK (atype := .int) hx hb (hts _ harr) rfl hdg rfl hn hN hbytes hcells hslots G.2.1 fun H1 cA e1 z1 o1 hAr hNm => ?_
  have hRA : s.vm.findClass ("[" ++ (FieldType.int).toString) = some (dA 0) := (hK.2 0 _ rfl).2
  have hcA : cA = dA 0 := Option.some.inj (hNm.symm.trans hRA)
  subst hcA
  exact kk (h.length, h ++ [(.inl (0, N, .inl (fun _ => 0)) : zE)]) H1 hf (zgrow (x := .inl (0, N, .inl (fun _ => 0))) hb0 G z1 o1 e1)
theorem znewZ (X : zX p s m args c cc nL own Ts D dA) (hb0 : b0 ≤ H0.size) (G : zG D dA b0 H0 h H locs) (harr : Cond.arrayClass .boolean ∈ Ts) {n : Int32} {N : Nat} (hn : ¬ n < 0) (hN : n.toNatClampNeg = N) (hbytes : N * 1 ≤ 536870912) (hcells : cells + 1 ≤ R.cells) (hslots : slots + N ≤ R.slots) (hdg : decode cc pc = .ok (.newarray .boolean, 2)) {α : Type} {z : α} {f : Nat × zH → Option α} (hf : (zMk h (.inl (1, N, .inl (fun _ => 0)))).bind f = some z)
    (kk : ∀ q H, f q = some z → zG D dA b0 H0 q.2 H locs → W p l e R s m args below meth c H locs (cells + 1) (slots + N) Q (F0 m (pc + 2) ls (.ref (b0 + q.1) :: rest))) : W p l e R s m args below meth c H locs cells slots Q (F0 m pc ls (.int n :: rest)) := by
  obtain ⟨⟨hx, hb, hml, hown, hts⟩, hK, hN2⟩ := X
  refine va_newaK (atype := .boolean) hx hb (hts _ harr) rfl hdg rfl hn hN hbytes hcells hslots G.2.1 fun H1 cA e1 z1 o1 hAr hNm => ?_
  have hRA : s.vm.findClass ("[" ++ (FieldType.boolean).toString) = some (dA 1) := (hK.2 1 _ rfl).2
  have hcA : cA = dA 1 := Option.some.inj (hNm.symm.trans hRA)
  subst hcA
  exact kk (h.length, h ++ [(.inl (1, N, .inl (fun _ => 0)) : zE)]) H1 hf (zgrow (x := .inl (1, N, .inl (fun _ => 0))) hb0 G z1 o1 e1)
theorem znewM (X : zX p s m args c cc nL own Ts D dA) (hb0 : b0 ≤ H0.size) (G : zG D dA b0 H0 h H locs) {index : Nat} (hcl : Cond.classLink own index "BuriedHalves$Mine" ∈ Ts) {n : Int32} {N : Nat} (hn : ¬ n < 0) (hN : n.toNatClampNeg = N) (hbytes : N * 4 ≤ 536870912) (hcells : cells + 1 ≤ R.cells) (hslots : slots + N ≤ R.slots) (hdg : decode cc pc = .ok (.anewarray index, 3)) {α : Type} {z : α} {f : Nat × zH → Option α} (hf : (zMk h (.inl (2, N, .inr (fun _ => none)))).bind f = some z)
    (kk : ∀ q H, f q = some z → zG D dA b0 H0 q.2 H locs → W p l e R s m args below meth c H locs (cells + 1) (slots + N) Q (F0 m (pc + 3) ls (.ref (b0 + q.1) :: rest))) : W p l e R s m args below meth c H locs cells slots Q (F0 m pc ls (.int n :: rest)) := by
  subst hN
  obtain ⟨⟨hx, hb, hml, hown, hts⟩, hK, hN2⟩ := X
  obtain ⟨hP, hz, hS⟩ := G
  refine W.anew hx hb hown (hts _ hcl) (va_AO.use hN2.2.1) rfl hdg rfl hn hbytes hcells hslots fun cA kA comp f1 f2 f3 f4 => ?_
  obtain ⟨kA0, comp0, g1, g2, g3, g4⟩ := (hK.2 2 _ (rfl : (zTys dA)[2]? = some (dA 2, .object "BuriedHalves$Mine"))).2
  have hcA : cA = dA 2 := Option.some.inj (f1.symm.trans g4)
  subst hcA
  generalize hH1 : H.push ({ cls := dA 2, slots := Array.replicate n.toNatClampNeg .null, vm := .none } : Cell) = H1
  have z1 : H1.size = b0 + h.length + 1 := by rw [← hH1, Array.size_push, hz]
  have e1 : H1[b0 + h.length]? = some (arrV (dA 2) n.toNatClampNeg (fun _ => .null)) := by rw [← hH1, ← hz, Array.getElem?_push_size, ← arrV_new]
  have o1 : ∀ q : Nat, q < b0 + h.length → H1[q]? = H[q]? := fun q hq => by rw [← hH1, Array.getElem?_push, if_neg (by omega)]
  rw [hz]
  refine kk (h.length, h ++ [(.inl (2, n.toNatClampNeg, .inr (fun _ => none)) : zE)]) H1 hf (zgrow (x := .inl (2, n.toNatClampNeg, .inr (fun _ => none))) hb0 ⟨hP, hz, hS⟩ z1 o1 ?_)
  show H1[b0 + h.length]? = some (vp_cell (dA 2) (n.toNatClampNeg, .inr (.inr (.inr (.inr (fun _ => none))))))
  rw [vp_cell_q]
  exact e1
end ZMAKE
/-! the law's script -/
theorem zLb {b0 b n : Nat} (hbb : b0 = n) (hbl : b < n) : ¬ zA b0 b := by
  subst hbb
  exact Nat.not_le.mpr hbl
theorem zsld {p : Program} {l : Launch} {e : Env} {R : Room} {s : State} {m : MethodId} {args : Array Value} {below : List Frame} {meth : Method} {c : Code} {H : Heap} {locs : List Loc} {cells slots : Nat} {Q : State → Prop} {cc : ByteArray} {nL : Nat} {own : String} {Ts : List Cond} {D : va_G} {dA : Nat → ClassId} {b0 : Nat} {h : zH} {pc : Nat} {ls : Array Slot} {rest : List Value} {b L : Nat} {xs : Nat → Int32}
    (X : zX p s m args c cc nL own Ts D dA) (hX : va_X b L xs s s.heap) (hbl : b < s.heap.size) (hbb : b0 = s.heap.size) (G : zG D dA b0 s.heap h H locs) {i : Int32} (hdg : decode cc pc = .ok (.iaload, 1)) {α : Type} {z : α} {f : Int32 → Option α} (hf : (zSc xs L i).bind f = some z)
    (kk : ∀ v, f v = some z → W p l e R s m args below meth c H locs cells slots Q (F0 m (pc + 1) ls (.int v :: rest))) : W p l e R s m args below meth c H locs cells slots Q (F0 m pc ls (.int i :: .ref b :: rest)) := by
  obtain ⟨v, hv, hf2⟩ := Option.bind_eq_some_iff.mp hf
  unfold zSc at hv
  split at hv
  · cases hv
  · rename_i hin
    cases hv
    exact va_sld X.1.1 X.1.2.1 hX hbl (zLb hbb hbl) G.2.2 hin hdg (kk _ hf2)
