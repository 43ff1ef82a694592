/-! THE PURE HEAP: a list of cells; references by their place in it; what a method does, as a partial function over it. -/
abbrev zE : Type := (Nat × Nat × ((Nat → Int32) ⊕ (Nat → Option Nat))) ⊕ (Nat × List Value)
abbrev zH : Type := List zE
def zv (b0 : Nat) : Value → Value
  | .ref k => .ref (b0 + k)
  | v => v
def ze (dA : Nat → ClassId) (b0 : Nat) : zE → va_E
  | .inl (t, n, .inl f) => .inl (dA t, n, .inl f)
  | .inl (t, n, .inr g) => .inl (dA t, n, .inr (.inr (.inr (.inr (fun i => (g i).map (fun k => b0 + k))))))
  | .inr (ci, fs) => .inr (ci, fs.map (zv b0))
def zw (dA : Nat → ClassId) (b0 : Nat) (h : zH) : va_W := h.mapIdx (fun k e => (b0 + k, ze dA b0 e))
def zA (b0 : Nat) : Nat → Prop := fun q => b0 ≤ q
theorem zw_get (dA : Nat → ClassId) (b0 : Nat) (h : zH) (k : Nat) : (zw dA b0 h)[k]? = (h[k]?).map (fun e => (b0 + k, ze dA b0 e)) := by
  simp [zw]
theorem zw_at {dA : Nat → ClassId} {b0 : Nat} {h : zH} {k : Nat} {e : zE} (he : h[k]? = some e) : (zw dA b0 h)[k]? = some (b0 + k, ze dA b0 e) := by
  rw [zw_get, he]; rfl
theorem zw_len (dA : Nat → ClassId) (b0 : Nat) (h : zH) : (zw dA b0 h).length = h.length := by
  simp [zw]
theorem zw_set (dA : Nat → ClassId) (b0 : Nat) (h : zH) (r : Nat) (e : zE) : zw dA b0 (h.set r e) = (zw dA b0 h).set r (b0 + r, ze dA b0 e) := by
  apply List.ext_getElem?
  intro i
  rw [zw_get, List.getElem?_set, List.getElem?_set, zw_get, zw_len]
  by_cases hi : r = i
  · rw [if_pos hi, if_pos hi]
    subst hi
    split <;> rfl
  · rw [if_neg hi, if_neg hi]
theorem zw_app (dA : Nat → ClassId) (b0 : Nat) (h : zH) (e : zE) : zw dA b0 (h ++ [e]) = zw dA b0 h ++ [(b0 + h.length, ze dA b0 e)] := by
  simp [zw, List.mapIdx_append]
theorem zw_D (dA : Nat → ClassId) (b0 : Nat) (h : zH) : va_D (zA b0) (zw dA b0 h) := by
  refine ⟨fun i j p q hi hj he => ?_, fun k q hk => ?_⟩
  · rw [zw_get] at hi hj
    obtain ⟨x, -, rfl⟩ := Option.map_eq_some_iff.mp hi
    obtain ⟨y, -, rfl⟩ := Option.map_eq_some_iff.mp hj
    have h9 : b0 + i = b0 + j := he
    omega
  · rw [zw_get] at hk
    obtain ⟨x, -, rfl⟩ := Option.map_eq_some_iff.mp hk
    exact Nat.le_add_right _ _
def zTys (dA : Nat → ClassId) : List (ClassId × FieldType) := [(dA 0, .int), (dA 1, .boolean), (dA 2, .object "BuriedHalves$Mine"), (dA 3, .array .int)]
/-- the private calls among nest mates -/
def zNest : List Cond := [.methodLinkNest RX7 18 yX6_init "BuriedHalves", .methodLinkNest RX7 25 yX3_init "BuriedHalves", .methodLinkNest RX0 24 yX3_init "BuriedHalves", .methodLinkNest RX7 46 yX5_init "BuriedHalves", .methodLinkNest RX5 11 yX3_init "BuriedHalves", .methodLinkNest RX7 53 yX2_init "BuriedHalves", .methodLinkNest RX2 11 yX3_init "BuriedHalves", .methodLinkNest RX7 60 yX1_init "BuriedHalves", .methodLinkNest RX5 43 yX7_leastOf "BuriedHalves", .methodLinkNest RX1 42 yX7_kindAbove "BuriedHalves"]
/-- an array of int[] can be made: as va_AO, of an array's class -/
def zAOA (U : State) : Prop := (Cond.arrayOver (.array .int)).before #[] U = true
theorem zAOA.moved {u U : State} (hvm : u.vm.Alike U.vm) (h : zAOA u) : zAOA U := by
  obtain ⟨comp, c, k, h1, h2, h3, h4, h5⟩ := arrayOverA_spec h
  obtain ⟨k', hk', he⟩ := hvm.2.2 _ _ h3
  have hi : (U.vm.classes.findIdx? fun (x : Class) => match x.kind with | .array component _ => component == comp | _ => false) = some c := by
    refine (va_idx_bare U.vm comp).symm.trans ?_
    first | rw [hvm.bare_eq] | rw [← hvm.bare_eq]
    exact (va_idx_bare u.vm comp).trans h2
  have hkind : k'.kind = .array comp (.array .int) := by rw [he]; exact h4
  have f1 : U.vm.findClass (FieldType.array .int).toString = some comp := by rw [hvm.findClass]; exact h1
  have f2 : U.vm.findClass ("[" ++ (FieldType.array .int).toString) = some c := by rw [hvm.findClass]; exact h5
  unfold zAOA Cond.before Cond.holds
  simp only [Cond.value]
  rw [f1, Option.bind_some]
  refine (congrArg (fun o : Option Nat => (o.bind (fun c => (U.vm.classes[c]?).map fun (k : Class) => match k.kind with | .array _ ty => decide (ty = FieldType.array .int) && decide (U.vm.findClass ("[" ++ (FieldType.array .int).toString) = some c) | _ => false) == some true)) hi).trans ?_
  simp [hk', hkind, f2]
def zN (U : State) : Prop := (∀ w ∈ zNest, va_Nw w U) ∧ va_AO "BuriedHalves$Mine" U ∧ zAOA U
theorem zN.same {u U : State} (h : u.vm = U.vm) (hN : zN u) : zN U := by
  refine ⟨fun w hw => ?_, va_AO.moved (by rw [h]; exact Vm.Alike.refl _) hN.2.1, zAOA.moved (by rw [h]; exact Vm.Alike.refl _) hN.2.2⟩
  have h1 := hN.1 w hw
  simp only [zNest, List.mem_cons, List.not_mem_nil, or_false] at hw
  rcases hw with rfl | rfl | rfl | rfl | rfl | rfl | rfl | rfl | rfl | rfl <;> exact va_Nw.same rfl h h1
theorem zN.warm {s U : State} (hW : s.WarmedH U.vm) (hN : zN s) : zN U := by
  refine ⟨fun w hw => ?_, va_AO.moved hW.alike hN.2.1, zAOA.moved hW.alike hN.2.2⟩
  have h1 := hN.1 w hw
  simp only [zNest, List.mem_cons, List.not_mem_nil, or_false] at hw
  rcases hw with rfl | rfl | rfl | rfl | rfl | rfl | rfl | rfl | rfl | rfl <;> exact va_Nw.warmM hW h1
/-- the machine's heap holds the pure one, from b0 on, and nothing else from there on -/
def zG (D : va_G) (dA : Nat → ClassId) (b0 : Nat) (H0 : Heap) (h : zH) (H : Heap) (locs : List Loc) : Prop := va_P D vwCl (zw dA b0 h) H ∧ H.size = b0 + h.length ∧ va_S (zA b0) H0 H locs
def zX (p : Program) (s : State) (m : MethodId) (args : Array Value) (c : Code) (cc : ByteArray) (nL : Nat) (own : String) (Ts : List Cond) (D : va_G) (dA : Nat → ClassId) : Prop := CallFix p m c cc nL s args Ts own ∧ va_K D vwCl (zTys dA) s ∧ zN s
def zPc (D : va_G) (dA : Nat → ClassId) (b0 : Nat) (av : List Value) (h : zH) : Array Value → State → Prop := va_Pc av (fun U => va_P D vwCl (zw dA b0 h) U.heap ∧ U.heap.size = b0 + h.length ∧ va_K D vwCl (zTys dA) U ∧ zN U)
def zQ (D : va_G) (dA : Nat → ClassId) (b0 : Nat) (v : Option Value) (h' : zH) : Array Value → State → Outcome → State → Prop := fun _ st oc t => oc = .returned v ∧ va_P D vwCl (zw dA b0 h') t.heap ∧ t.heap.size = b0 + h'.length ∧ va_F (zA b0) st t
theorem zPc_blind {D : va_G} {dA : Nat → ClassId} {b0 : Nat} {av : List Value} {h : zH} : FrameBlind (zPc D dA b0 av h) := by
  intro a U g mk q
  obtain ⟨e, hP, hz, hK, hN⟩ := q
  exact ⟨e, hP, hz, va_K.moved (u := U) (U := U.calling g mk a) (Vm.Alike.refl U.vm) hK, zN.same (u := U) (U := U.calling g mk a) rfl hN⟩
/-! the pure operations -/
def zLet {α β : Type} (a : α) (f : α → β) : β := f a
def zF : Nat := 5000
def zD : Nat := 14
def zI (h : zH) (r ci k : Nat) : Option Int32 := match h[r]? with
  | some (.inr (c, fs)) => if c = ci then (match fs[k]? with
    | some (.int v) => some v
    | _ => none) else none
  | _ => none
def zR (h : zH) (r ci k : Nat) : Option Nat := match h[r]? with
  | some (.inr (c, fs)) => if c = ci then (match fs[k]? with
    | some (.ref v) => some v
    | _ => none) else none
  | _ => none
def zP (h : zH) (r ci k : Nat) (v : Value) : Option zH := match h[r]? with
  | some (.inr (c, fs)) => if c = ci ∧ k < fs.length then some (h.set r (.inr (c, fs.set k v))) else none
  | _ => none
def zB (x : Int32) : Option Int32 := if x = 0 ∨ x = 1 then some x else none
def zL (h : zH) (t r : Nat) (i : Int32) : Option Int32 := match h[r]? with
  | some (.inl (t', n, .inl f)) => if t' = t ∧ ¬ (i < 0 ∨ n ≤ i.toNatClampNeg) then some (f i.toNatClampNeg) else none
  | _ => none
def zS (h : zH) (t r : Nat) (i x : Int32) : Option zH := match h[r]? with
  | some (.inl (t', n, .inl f)) => if t' = t ∧ ¬ (i < 0 ∨ n ≤ i.toNatClampNeg) then some (h.set r (.inl (t', n, .inl (upd f i.toNatClampNeg x)))) else none
  | _ => none
def zLr (h : zH) (t r : Nat) (i : Int32) : Option Nat := match h[r]? with
  | some (.inl (t', n, .inr g)) => if t' = t ∧ ¬ (i < 0 ∨ n ≤ i.toNatClampNeg) then g i.toNatClampNeg else none
  | _ => none
def zSr (h : zH) (t r : Nat) (i : Int32) (v : Nat) : Option zH := match h[r]? with
  | some (.inl (t', n, .inr g)) => if t' = t ∧ ¬ (i < 0 ∨ n ≤ i.toNatClampNeg) then some (h.set r (.inl (t', n, .inr (va_up g i.toNatClampNeg (some v))))) else none
  | _ => none
/-- at the place r stands an object of the class ci -/
def zK (h : zH) (r ci : Nat) : Option Unit := match h[r]? with
  | some (.inr (c, _)) => if c = ci then some () else none
  | _ => none
def zO (h : zH) (r ci : Nat) : Prop := ∃ fs, h[r]? = some (.inr (ci, fs))
theorem zck {h : zH} {r ci : Nat} {α : Type} {z : α} {f : Unit → Option α} (hf : (zK h r ci).bind f = some z) : zO h r ci ∧ f () = some z := by
  obtain ⟨u, hv, hf2⟩ := Option.bind_eq_some_iff.mp hf
  unfold zK at hv
  split at hv
  · rename_i c fs he
    split at hv
    · rename_i hc
      subst hc
      exact ⟨⟨fs, he⟩, hf2⟩
    · cases hv
  · cases hv
/-- System.arraycopy over int rows -/
def zCp (h : zH) (r : Nat) (sp : Int32) (q : Nat) (dp n : Int32) : Option zH := match h[r]?, h[q]? with
  | some (.inl (t0, n0, .inl f)), some (.inl (t1, n1, .inl g)) => if t0 = 0 ∧ t1 = 0 ∧ ¬ sp < 0 ∧ ¬ dp < 0 ∧ ¬ n < 0 ∧ sp.toNatClampNeg + n.toNatClampNeg ≤ n0 ∧ dp.toNatClampNeg + n.toNatClampNeg ≤ n1 then some (h.set q (.inl (t1, n1, .inl (va_cpy f g sp.toNatClampNeg dp.toNatClampNeg n.toNatClampNeg)))) else none
  | _, _ => none
theorem zI_spec {h : zH} {r ci k : Nat} {v : Int32} (hv : zI h r ci k = some v) : ∃ fs, h[r]? = some (.inr (ci, fs)) ∧ fs[k]? = some (.int v) := by
  unfold zI at hv
  split at hv
  · rename_i c fs he
    split at hv
    · rename_i hc
      subst hc
      split at hv
      · rename_i w hw
        cases hv
        exact ⟨fs, he, hw⟩
      · cases hv
    · cases hv
  · cases hv
theorem zR_spec {h : zH} {r ci k : Nat} {v : Nat} (hv : zR h r ci k = some v) : ∃ fs, h[r]? = some (.inr (ci, fs)) ∧ fs[k]? = some (.ref v) := by
  unfold zR at hv
  split at hv
  · rename_i c fs he
    split at hv
    · rename_i hc
      subst hc
      split at hv
      · rename_i w hw
        cases hv
        exact ⟨fs, he, hw⟩
      · cases hv
    · cases hv
  · cases hv
theorem zP_spec {h h' : zH} {r ci k : Nat} {v : Value} (hv : zP h r ci k v = some h') : ∃ fs, h[r]? = some (.inr (ci, fs)) ∧ k < fs.length ∧ h' = h.set r (.inr (ci, fs.set k v)) := by
  unfold zP at hv
  split at hv
  · rename_i c fs he
    split at hv
    · rename_i hc
      obtain ⟨rfl, hk⟩ := hc
      cases hv
      exact ⟨fs, he, hk, rfl⟩
    · cases hv
  · cases hv
theorem zL_spec {h : zH} {t r : Nat} {i v : Int32} (hv : zL h t r i = some v) : ∃ n f, h[r]? = some (.inl (t, n, .inl f)) ∧ vp_in i n ∧ v = f i.toNatClampNeg := by
  unfold zL at hv
  split at hv
  · rename_i c n f he
    split at hv
    · rename_i hc
      obtain ⟨rfl, hk⟩ := hc
      cases hv
      exact ⟨n, f, he, hk, rfl⟩
    · cases hv
  · cases hv
theorem zS_spec {h h' : zH} {t r : Nat} {i x : Int32} (hv : zS h t r i x = some h') : ∃ n f, h[r]? = some (.inl (t, n, .inl f)) ∧ vp_in i n ∧ h' = h.set r (.inl (t, n, .inl (upd f i.toNatClampNeg x))) := by
  unfold zS at hv
  split at hv
  · rename_i c n f he
    split at hv
    · rename_i hc
      obtain ⟨rfl, hk⟩ := hc
      cases hv
      exact ⟨n, f, he, hk, rfl⟩
    · cases hv
  · cases hv
theorem zLr_spec {h : zH} {t r : Nat} {i : Int32} {v : Nat} (hv : zLr h t r i = some v) : ∃ n g, h[r]? = some (.inl (t, n, .inr g)) ∧ vp_in i n ∧ g i.toNatClampNeg = some v := by
  unfold zLr at hv
  split at hv
  · rename_i c n g he
    split at hv
    · rename_i hc
      obtain ⟨rfl, hk⟩ := hc
      exact ⟨n, g, he, hk, hv⟩
    · cases hv
  · cases hv
theorem zSr_spec {h h' : zH} {t r : Nat} {i : Int32} {v : Nat} (hv : zSr h t r i v = some h') : ∃ n g, h[r]? = some (.inl (t, n, .inr g)) ∧ vp_in i n ∧ h' = h.set r (.inl (t, n, .inr (va_up g i.toNatClampNeg (some v)))) := by
  unfold zSr at hv
  split at hv
  · rename_i c n g he
    split at hv
    · rename_i hc
      obtain ⟨rfl, hk⟩ := hc
      cases hv
      exact ⟨n, g, he, hk, rfl⟩
    · cases hv
  · cases hv
theorem zCp_spec {h h' : zH} {r q : Nat} {sp dp n : Int32} (hv : zCp h r sp q dp n = some h') : ∃ n0 f n1 g, h[r]? = some (.inl (0, n0, .inl f)) ∧ h[q]? = some (.inl (0, n1, .inl g)) ∧ ¬ sp < 0 ∧ ¬ dp < 0 ∧ ¬ n < 0 ∧ sp.toNatClampNeg + n.toNatClampNeg ≤ n0 ∧ dp.toNatClampNeg + n.toNatClampNeg ≤ n1 ∧ h' = h.set q (.inl (0, n1, .inl (va_cpy f g sp.toNatClampNeg dp.toNatClampNeg n.toNatClampNeg))) := by
  unfold zCp at hv
  split at hv
  · rename_i t0 n0 f t1 n1 g he he2
    split at hv
    · rename_i hc
      obtain ⟨rfl, rfl, h1, h2, h3, h4, h5⟩ := hc
      cases hv
      exact ⟨n0, f, n1, g, he, he2, h1, h2, h3, h4, h5, rfl⟩
    · cases hv
  · cases hv
