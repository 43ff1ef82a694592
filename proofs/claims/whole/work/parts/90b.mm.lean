/-! ROWS: making a row of rows: what the machine does, by what stands after each inner row -/
section ZMMW
variable {p : Program} {l : Launch} {e : Env} {R : Room} {s : State} {m : MethodId} {args : Array Value} {below : List Frame} {meth : Method} {c : Code} {H : Heap} {locs : List Loc} {cells slots : Nat} {Q : State → Prop}
/-- i inner rows stand, from the place b + 1 on, and the outer one at b knows them -/
def zmI (p : Program) (l : Launch) (e : Env) (R : Room) (s : State) (m : MethodId) (args : Array Value) (below : List Frame) (meth : Method) (c : Code) (locs : List Loc) (cells slots : Nat) (T : State) (vm₁ : Vm) (cA cI : ClassId) (N K i : Nat) (U : State) : Prop :=
  Stand p l e R s m args below meth c U locs (cells + 1 + i) (slots + N + i * K) ∧ U.vm = vm₁ ∧ U.slotsUsed = T.slotsUsed + N + i * K ∧ U.heap.size = T.heap.size + 1 + i ∧
  U.heap[T.heap.size]? = some (arrV cA N (fun j => if j < i then .ref (T.heap.size + 1 + j) else .null)) ∧ (∀ j, j < i → U.heap[T.heap.size + 1 + j]? = some (arrV cI K (fun _ => .int 0))) ∧ ∀ q : Nat, q < T.heap.size → U.heap[q]? = T.heap[q]?
theorem zmI_0 {T : State} {vm₁ : Vm} {cA cI : ClassId} {N K : Nat} (X : Stand p l e R s m args below meth c (T.setVm vm₁) locs cells slots) : zmI p l e R s m args below meth c locs cells slots T vm₁ cA cI N K 0 ((T.setVm vm₁).pushCell { cls := cA, slots := Array.replicate N .null }) := by
  have X2 := X.pushed { cls := cA, slots := Array.replicate N .null }
  rw [Array.size_replicate] at X2
  refine ⟨by rw [Nat.zero_mul]; exact X2, rfl, ?_, ?_, ?_, fun j hj => absurd hj (Nat.not_lt_zero _), fun q hq => ?_⟩
  · show T.slotsUsed + (Array.replicate N Value.null).size = _
    rw [Array.size_replicate, Nat.zero_mul]
    rfl
  · show (T.heap.push _).size = _
    rw [Array.size_push]
  · show (T.heap.push _)[T.heap.size]? = _
    rw [Array.getElem?_push_size]
    refine congrArg some ((arrV_new cA N .null).trans ?_)
    congr 1
  · show (T.heap.push _)[q]? = _
    rw [Array.getElem?_push, if_neg (by omega)]
theorem zmI_s {T U : State} {vm₁ : Vm} {cA cI : ClassId} {N K i : Nat} (I : zmI p l e R s m args below meth c locs cells slots T vm₁ cA cI N K i U) (hb : s.heap.size ≤ T.heap.size) : zmI p l e R s m args below meth c locs cells slots T vm₁ cA cI N K (i + 1) ((U.pushCell { cls := cI, slots := Array.replicate K (.int 0) }).setCell T.heap.size ((arrV cA N (fun j => if j < i then .ref (T.heap.size + 1 + j) else .null)).setSlot i (.ref U.heap.size))) := by
  obtain ⟨X, hv, hu, hz, ho, hi, hq⟩ := I
  have X2 := X.pushed { cls := cI, slots := Array.replicate K (.int 0) }
  rw [Array.size_replicate] at X2
  have push_lt : ∀ q : Nat, q < U.heap.size → (U.pushCell { cls := cI, slots := Array.replicate K (.int 0) }).heap[q]? = U.heap[q]? := fun q h => by
    show (U.heap.push _)[q]? = _
    rw [Array.getElem?_push, if_neg (by omega)]
  have push_eq : (U.pushCell { cls := cI, slots := Array.replicate K (.int 0) }).heap[U.heap.size]? = some (arrV cI K (fun _ => .int 0)) := by
    show (U.heap.push _)[U.heap.size]? = _
    rw [Array.getElem?_push_size]
    exact congrArg some (arrV_new cI K (.int 0))
  have o2 := (push_lt T.heap.size (by omega)).trans ho
  have X3 := (X2.stored o2 i (.ref U.heap.size)).dropFresh (fun x hx => by
    rw [List.mem_singleton] at hx
    rw [hx]
    exact hb)
  refine ⟨?_, hv, ?_, ?_, ?_, fun j hj => ?_, fun q h => ?_⟩
  · rw [Nat.succ_mul, ← Nat.add_assoc, ← Nat.add_assoc]
    exact X3
  · show U.slotsUsed + (Array.replicate K (Value.int 0)).size = _
    rw [Array.size_replicate, hu, Nat.succ_mul, ← Nat.add_assoc]
  · show ((U.heap.push _).setIfInBounds _ _).size = _
    rw [Array.size_setIfInBounds, Array.size_push, hz]
    omega
  · rw [State.heap_setCell_self o2, arrV_store, hz]
    congr 2
    funext j
    unfold updV
    by_cases a : j = i
    · rw [if_pos a, if_pos (by omega), a]
    · rw [if_neg a]
      by_cases b : j < i
      · rw [if_pos (show j < i + 1 by omega)]
        exact if_pos b
      · rw [if_neg (show ¬ j < i + 1 by omega)]
        exact if_neg b
  · rw [State.heap_setCell_other (show T.heap.size ≠ T.heap.size + 1 + j by omega)]
    by_cases a : j = i
    · rw [a, ← hz]
      exact push_eq
    · rw [push_lt _ (by omega)]
      exact hi j (by omega)
  · rw [State.heap_setCell_other (show T.heap.size ≠ q by omega), push_lt _ (by omega)]
    exact hq q h
/-- what stands after i inner rows -/
def zmF (T1 : State) (b : Nat) (cA cI : ClassId) (N K : Nat) : Nat → State
  | 0 => T1.pushCell { cls := cA, slots := Array.replicate N .null }
  | i + 1 => ((zmF T1 b cA cI N K i).pushCell { cls := cI, slots := Array.replicate K (.int 0) }).setCell b ((arrV cA N (fun j => if j < i then .ref (b + 1 + j) else .null)).setSlot i (.ref (zmF T1 b cA cI N K i).heap.size))
set_option maxHeartbeats 4000000 in
theorem W.zmm {cc : ByteArray} (hexec : p.tables.exec = Jvm.exec) (hb : c.code = cc) {own : String} {index : Nat} (hown : s.vm.findClass own = some m.cls) (hclink : (Cond.classLink own index "[[I").before args s = true) (hover : zAOA s) (harr : (Cond.arrayClass .int).before args s = true)
    {g : JFrame} (hg : g.method = m) (hdg : decode cc g.pc = .ok (.multianewarray index 2, 4)) {n k : Int32} {N K : Nat} {rest : List Value} (hstack : g.stack = .int k :: .int n :: rest) (hn : ¬ n < 0) (hk : ¬ k < 0) (hN : n.toNatClampNeg = N) (hK : k.toNatClampNeg = K) (hb1 : N * 4 ≤ 536870912) (hb2 : K * 4 ≤ 536870912) (hcells : cells + (1 + N) ≤ R.cells) (hslots : slots + (N + N * K) ≤ R.slots)
    (kk : ∀ (cA cI : ClassId) (H' : Heap), s.vm.findClass ("[" ++ (FieldType.array .int).toString) = some cA → s.vm.findClass ("[" ++ FieldType.int.toString) = some cI → H'.size = H.size + 1 + N → H'[H.size]? = some (arrV cA N (fun j => if j < N then .ref (H.size + 1 + j) else .null)) → (∀ j, j < N → H'[H.size + 1 + j]? = some (arrV cI K (fun _ => .int 0))) → (∀ q : Nat, q < H.size → H'[q]? = H[q]?) →
      W p l e R s m args below meth c H' locs (cells + (1 + N)) (slots + (N + N * K)) Q { g with pc := g.pc + 4, stack := .ref H.size :: rest }) : W p l e R s m args below meth c H locs cells slots Q g := by
  intro T hT X
  subst hT; subst hb; subst hg
  have hpl : e.platform.magicAccessors = ({} : Platform).magicAccessors := by rw [X.admits.platform]
  obtain ⟨comp, cA, kA, hcomp, -, hkA, hkindA, hnameA⟩ := arrayOverA_spec hover
  obtain ⟨cI, kI, ci, hcI, hkI, hkindI⟩ := Cond.arrayClass_spec harr
  have ecomp : cI = comp := Option.some.inj (hcI.symm.trans hcomp)
  subst ecomp
  have estr : ("[" ++ (FieldType.array .int).toString) = "[[I" := by decide +kernel
  obtain ⟨c0, hfc0, hcl⟩ := Cond.classLink_spec hown hclink e.platform hpl
  rw [← estr] at hfc0
  cases hnameA.symm.trans hfc0
  obtain ⟨hg₁, hwarm₁, hready₁⟩ := State.classEntry (e := e) X.warmed hcl
  generalize T.vm.noted g.method.cls index (.cls cA) = vm₁ at hg₁ hwarm₁ hready₁
  have hal : s.vm.Alike vm₁ := hwarm₁.alike
  obtain ⟨kA₁, hkA₁, heA⟩ := hal.2.2 _ _ hkA
  obtain ⟨kI₁, hkI₁, heI⟩ := hal.2.2 _ _ hkI
  have hkindA₁ : kA₁.kind = .array cI (.array .int) := by rw [heA]; exact hkindA
  have hkindI₁ : kI₁.kind = .array ci .int := by rw [heI]; exact hkindI
  have X₁ := X.noted hwarm₁
  obtain ⟨hr1, hr2⟩ := X.roomAbove hcells hslots
  have hb0 : s.heap.size ≤ T.heap.size := X.heapGrown
  have hl1 : ¬ N > e.platform.arrayLengthLimit := by rw [Launch.admits_arrayLengthLimit X.admits]; omega
  have hh1 : ¬ N * componentBytes (.array .int) > e.platform.maxHeapBytes := by
    rw [Launch.admits_maxHeapBytes X.admits]; show ¬ N * 4 > 536870912; omega
  have hl2' : ¬ K > e.platform.arrayLengthLimit := by rw [Launch.admits_arrayLengthLimit X.admits]; omega
  have hh2 : ¬ K * componentBytes .int > e.platform.maxHeapBytes := by
    rw [Launch.admits_maxHeapBytes X.admits]; show ¬ K * 4 > 536870912; omega
  have fin : ∀ U : State, zmI p l e R s g.method args below meth c locs cells slots T vm₁ cA cI N K N U → ∃ t, Steps p.tables e below (U.setTop { g with pc := g.pc + 4, stack := .ref T.heap.size :: rest }) t ∧ Q t := by
    rintro U ⟨XU, hv, hu, hz, ho, hi, hq⟩
    refine kk cA cI U.heap hnameA hcI hz ho hi hq U rfl ?_
    rw [← Nat.add_assoc, ← Nat.add_assoc]
    exact XU
  have FI : ∀ i, zmI p l e R s g.method args below meth c locs cells slots T vm₁ cA cI N K i (zmF (T.setVm vm₁) T.heap.size cA cI N K i) := by
    intro i
    induction i with
    | zero => exact zmI_0 X₁
    | succ i ih => exact zmI_s ih hb0
  obtain ⟨t, st, qt⟩ := fin _ (FI N)
  refine ⟨t, ?_, qt⟩
  clear fin kk
  have eS : ((T.setTop g).setVm vm₁).setTop { g with stack := rest } = (T.setVm vm₁).setTop { g with stack := rest } := by
    show ((T.setVm vm₁).setTop g).setTop _ = _
    rw [State.setTop_setTop]
  jvm_step X.here [hexec, hdg]
  simp only [multianewarray.sem, wp_bind', W.resolveClassAt_links (State.method?_setTop g X.here.top) hg₁]
  rw [W.popN, if_neg (by decide)]
  refine ⟨g, State.topJava?_setTop' (s := T.setVm vm₁) g X.here.top, [.int n, .int k], rest, rfl, hstack, ?_⟩
  simp only [List.mapM_cons, List.mapM_nil, wp_bind', wp_pure']
  rw [eS, multianewarray.make]
  simp only [wp_bind', W.ite, hn, if_false, wp_pure', W.theClass, State.vm_setTop, State.vm_setVm, hkA₁, hkindA₁, Option.some.injEq, exists_eq_left']
  refine W.newArray_of (k := kA₁) hkA₁ hkindA₁ (by rw [hN]; exact hl1) (by rw [hN]; exact hh1) (by show T.heap.size < _; omega) (by show T.slotsUsed + _ ≤ _; rw [hN]; omega) rfl (fun acts1 => ?_)
  have hfind : ([k].find? (fun x => decide (x < 0))) = none := by simp [hk]
  simp only [hfind, State.heap_setTop, State.heap_setVm]
  rw [ite_self, wp_bind', Std.Legacy.Range.forIn_eq_forIn_range']
  have hsz : ([:n.toNatClampNeg] : Std.Legacy.Range).size = N := by simp [Std.Legacy.Range.size, hN]
  rw [hsz]
  refine wp_forIn_inv (fun l s' => ∃ i, i ≤ N ∧ l = List.range' i (N - i) ∧ s' = (zmF (T.setVm vm₁) T.heap.size cA cI N K i).setTop { g with stack := rest }) _ _ ⟨0, Nat.zero_le _, rfl, by rw [hN]; rfl⟩ ?_ ?_
  · rintro x l s' d' acts' Q' ⟨i, hi, hl, rfl⟩ hnext
    have hlt : i < N := by
      rcases Nat.lt_or_ge i N with h | h
      · exact h
      · rw [show N - i = 0 by omega] at hl
        cases hl
    rw [show N - i = (N - (i + 1)) + 1 by omega, List.range'_succ] at hl
    obtain ⟨hx, hl2⟩ := List.cons.inj hl
    subst hx
    obtain ⟨Xi, hv, hu, hz, ho, -, -⟩ := FI x
    have hkU : ((zmF (T.setVm vm₁) T.heap.size cA cI N K x).setTop { g with stack := rest }).vm.classes[cI]? = some kI₁ := by
      rw [State.vm_setTop, hv]
      exact hkI₁
    have hkU2 : ((zmF (T.setVm vm₁) T.heap.size cA cI N K x).setTop { g with stack := rest }).vm.classes[cA]? = some kA₁ := by
      rw [State.vm_setTop, hv]
      exact hkA₁
    have hmul : x * K + K ≤ N * K := by
      have := Nat.mul_le_mul_right K (show x + 1 ≤ N from hlt)
      rw [Nat.succ_mul] at this
      exact this
    simp only [wp_bind']
    rw [multianewarray.make]
    simp only [wp_bind', W.ite, hk, if_false, wp_pure', W.theClass, hkU, hkindI₁, Option.some.injEq, exists_eq_left']
    refine W.newArray_of (k := kI₁) hkU hkindI₁ (by rw [hK]; exact hl2') (by rw [hK]; exact hh2) (by show (zmF (T.setVm vm₁) T.heap.size cA cI N K x).heap.size < _; omega) (by show (zmF (T.setVm vm₁) T.heap.size cA cI N K x).slotsUsed + _ ≤ _; rw [hK]; omega) rfl (fun acts2 => ?_)
    simp only [wp_bind', W.writeLoc, wp_pure']
    refine ⟨arrV cA N (fun j => if j < x then .ref (T.heap.size + 1 + j) else .null), ?_, by simp [arrV], by rw [arrV_size]; exact hlt, ?_, hnext _ _ _ ⟨x + 1, hlt, hl2, by rw [hK]; rfl⟩⟩
    · show ((zmF (T.setVm vm₁) T.heap.size cA cI N K x).heap.push _)[T.heap.size]? = _
      rw [Array.getElem?_push, if_neg (by omega)]
      exact ho
    · show State.fitsSlot _ cA .none x _ = true
      have hkP : (((zmF (T.setVm vm₁) T.heap.size cA cI N K x).setTop { g with stack := rest }).pushCell { cls := cI, slots := Array.replicate k.toNatClampNeg (defaultValue .int) }).vm.classes[cA]? = some kA₁ := hkU2
      simp only [State.fitsSlot, State.slotType?, hkP, hkindA₁, Option.bind_eq_bind, Option.bind_some]
      rfl
  · rintro s' d' acts' ⟨i, hi, hl, rfl⟩
    have hiN : i = N := by
      rcases Nat.lt_or_ge i N with h | h
      · rw [show N - i = (N - (i + 1)) + 1 by omega, List.range'_succ] at hl
        cases hl
      · omega
    subst hiN
    have XF := (FI i).1
    simp only [wp_bind', wp_pure', W.mark, W.pushRef, State.topJava?_setTop' _ XF.here.top, Option.some.injEq, exists_eq_left', State.setTop_setTop]
    intro acts
    simp [jvm, XF.here.top]
    exact st
end ZMMW
section ZMM
variable {p : Program} {l : Launch} {e : Env} {R : Room} {s : State} {m : MethodId} {args : Array Value} {below : List Frame} {meth : Method} {c : Code} {H : Heap} {locs : List Loc} {cells slots : Nat} {Q : State → Prop}
variable {cc : ByteArray} {nL : Nat} {own : String} {Ts : List Cond} {D : va_G} {dA : Nat → ClassId} {b0 : Nat} {h : zH} {pc : Nat} {ls : Array Slot} {rest : List Value} {H0 : Heap}
theorem znewMM (X : zX p s m args c cc nL own Ts D dA) (hb0 : b0 ≤ H0.size) (G : zG D dA b0 H0 h H locs) {index : Nat} (hcl : Cond.classLink own index "[[I" ∈ Ts) (harr : Cond.arrayClass .int ∈ Ts) {n k : Int32} {N K : Nat} (hn : ¬ n < 0) (hk : ¬ k < 0) (hN : n.toNatClampNeg = N) (hK : k.toNatClampNeg = K) (hb1 : N * 4 ≤ 536870912) (hb2 : K * 4 ≤ 536870912) (hcells : cells + (1 + N) ≤ R.cells) (hslots : slots + (N + N * K) ≤ R.slots) (hdg : decode cc pc = .ok (.multianewarray index 2, 4)) {α : Type} {z : α} {f : Nat × zH → Option α} (hf : (zMM h N K).bind f = some z)
    (kk : ∀ q H, f q = some z → zG D dA b0 H0 q.2 H locs → W p l e R s m args below meth c H locs (cells + (1 + N)) (slots + (N + N * K)) Q (F0 m (pc + 4) ls (.ref (b0 + q.1) :: rest))) : W p l e R s m args below meth c H locs cells slots Q (F0 m pc ls (.int k :: .int n :: rest)) := by
  obtain ⟨⟨hx, hb, hml, hown, hts⟩, hKK, hN2⟩ := X
  obtain ⟨hP, hz, hS⟩ := G
  refine W.zmm hx hb hown (hts _ hcl) hN2.2.2 (hts _ harr) rfl hdg rfl hn hk hN hK hb1 hb2 hcells hslots fun cA cI H' f1 f2 z1 o1 i1 q1 => ?_
  have hcA : cA = dA 3 := Option.some.inj (f1.symm.trans (hKK.2 3 _ rfl).2)
  have hcI : cI = dA 0 := Option.some.inj (f2.symm.trans (hKK.2 0 _ rfl).2)
  subst hcA
  subst hcI
  rw [hz] at z1 o1 i1 q1 ⊢
  refine kk (h.length, h ++ ((.inl (3, N, .inr (fun i => if i < N then some (h.length + 1 + i) else none)) : zE) :: List.replicate N (.inl (0, K, .inl (fun _ => 0))))) H' hf ⟨fun j y hj => ?_, ?_, ⟨?_, fun q h1 h2 => (q1 q (by rw [← hz]; exact Nat.lt_of_lt_of_le h1 hS.1)).trans (hS.2.1 q h1 h2), hS.2.2⟩⟩
  · rw [zw_get] at hj
    obtain ⟨x, hx2, rfl⟩ := Option.map_eq_some_iff.mp hj
    by_cases c1 : j < h.length
    · rw [List.getElem?_append_left c1] at hx2
      exact (hP.kept (fun k y hk => q1 y.1 (by rw [← hz]; exact (hP k y hk).lt))) j _ (zw_at hx2)
    · rw [List.getElem?_append_right (by omega)] at hx2
      obtain ⟨i, rfl⟩ : ∃ i, j = h.length + i := ⟨j - h.length, by omega⟩
      rw [Nat.add_sub_cancel_left] at hx2
      cases i with
      | zero =>
        have e := Option.some.inj hx2
        subst e
        show H'[b0 + (h.length + 0)]? = some (vp_cell (dA 3) (N, .inr (.inr (.inr (.inr (fun i => (if i < N then some (h.length + 1 + i) else none).map (fun k => b0 + k)))))))
        rw [vp_cell_q, Nat.add_zero, o1]
        congr 2
        funext i
        by_cases c2 : i < N
        · rw [if_pos c2, if_pos c2]
          show Value.ref (b0 + h.length + 1 + i) = Value.ref (b0 + (h.length + 1 + i))
          rw [show b0 + h.length + 1 + i = b0 + (h.length + 1 + i) by omega]
        · rw [if_neg c2, if_neg c2]
          rfl
      | succ i =>
        rw [List.getElem?_cons_succ, List.getElem?_replicate] at hx2
        by_cases c2 : i < N
        · rw [if_pos c2] at hx2
          have e := Option.some.inj hx2
          subst e
          show H'[b0 + (h.length + (i + 1))]? = some (vp_cell (dA 0) (K, .inl (fun _ => 0)))
          rw [vp_cell_i, show b0 + (h.length + (i + 1)) = b0 + h.length + 1 + i by omega]
          exact i1 i c2
        · rw [if_neg c2] at hx2
          cases hx2
  · rw [z1, List.length_append, List.length_cons, List.length_replicate]
    omega
  · rw [z1, ← hz]
    have := hS.1
    omega
end ZMM
