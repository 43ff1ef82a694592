/-! ROWS: deciding, calling, returning, making -/
section ZCALL
variable {p : Program} {l : Launch} {e : Env} {R : Room} {s : State} {m : MethodId} {args : Array Value} {below : List Frame} {meth : Method} {c : Code} {H : Heap} {locs : List Loc} {cells slots : Nat} {Q : State → Prop}
variable {cc : ByteArray} {nL : Nat} {own : String} {Ts : List Cond} {D : va_G} {dA : Nat → ClassId} {b0 : Nat} {h : zH} {pc : Nat} {ls : Array Slot} {rest : List Value} {H0 : Heap}
theorem zif_eq (X : zX p s m args c cc nL own Ts D dA) {x : Int32} {off : Int} {tgt : Nat} (hdg : decode cc pc = .ok (.ifCond .eq off, 3)) (ht : (pc : Int) + off = (tgt : Int)) {α : Type} {z : α} {A B : Option α} (hf : (if x = 0 then A else B) = some z) (kt : A = some z → W p l e R s m args below meth c H locs cells slots Q (F0 m tgt ls rest)) (kf : B = some z → W p l e R s m args below meth c H locs cells slots Q (F0 m (pc + 3) ls rest)) : W p l e R s m args below meth c H locs cells slots Q (F0 m pc ls (.int x :: rest)) :=
  lv_if_eq X.1.1 X.1.2.1 hdg ht (fun q => kt (by rw [if_pos q] at hf; exact hf)) (fun q => kf (by rw [if_neg q] at hf; exact hf))
theorem zif_ne (X : zX p s m args c cc nL own Ts D dA) {x : Int32} {off : Int} {tgt : Nat} (hdg : decode cc pc = .ok (.ifCond .ne off, 3)) (ht : (pc : Int) + off = (tgt : Int)) {α : Type} {z : α} {A B : Option α} (hf : (if x = 0 then B else A) = some z) (kt : A = some z → W p l e R s m args below meth c H locs cells slots Q (F0 m tgt ls rest)) (kf : B = some z → W p l e R s m args below meth c H locs cells slots Q (F0 m (pc + 3) ls rest)) : W p l e R s m args below meth c H locs cells slots Q (F0 m pc ls (.int x :: rest)) :=
  lv_if_ne X.1.1 X.1.2.1 hdg ht (fun q => kt (by rw [if_neg q] at hf; exact hf)) (fun q => kf (by rw [if_pos q] at hf; exact hf))
theorem zif_lt (X : zX p s m args c cc nL own Ts D dA) {x : Int32} {off : Int} {tgt : Nat} (hdg : decode cc pc = .ok (.ifCond .lt off, 3)) (ht : (pc : Int) + off = (tgt : Int)) {α : Type} {z : α} {A B : Option α} (hf : (if x < 0 then A else B) = some z) (kt : A = some z → W p l e R s m args below meth c H locs cells slots Q (F0 m tgt ls rest)) (kf : B = some z → W p l e R s m args below meth c H locs cells slots Q (F0 m (pc + 3) ls rest)) : W p l e R s m args below meth c H locs cells slots Q (F0 m pc ls (.int x :: rest)) :=
  lv_if_lt X.1.1 X.1.2.1 hdg ht (fun q => kt (by rw [if_pos q] at hf; exact hf)) (fun q => kf (by rw [if_neg q] at hf; exact hf))
theorem zif_ge (X : zX p s m args c cc nL own Ts D dA) {x : Int32} {off : Int} {tgt : Nat} (hdg : decode cc pc = .ok (.ifCond .ge off, 3)) (ht : (pc : Int) + off = (tgt : Int)) {α : Type} {z : α} {A B : Option α} (hf : (if 0 ≤ x then A else B) = some z) (kt : A = some z → W p l e R s m args below meth c H locs cells slots Q (F0 m tgt ls rest)) (kf : B = some z → W p l e R s m args below meth c H locs cells slots Q (F0 m (pc + 3) ls rest)) : W p l e R s m args below meth c H locs cells slots Q (F0 m pc ls (.int x :: rest)) :=
  lv_if_ge X.1.1 X.1.2.1 hdg ht (fun q => kt (by rw [if_pos q] at hf; exact hf)) (fun q => kf (by rw [if_neg q] at hf; exact hf))
theorem zif_gt (X : zX p s m args c cc nL own Ts D dA) {x : Int32} {off : Int} {tgt : Nat} (hdg : decode cc pc = .ok (.ifCond .gt off, 3)) (ht : (pc : Int) + off = (tgt : Int)) {α : Type} {z : α} {A B : Option α} (hf : (if 0 < x then A else B) = some z) (kt : A = some z → W p l e R s m args below meth c H locs cells slots Q (F0 m tgt ls rest)) (kf : B = some z → W p l e R s m args below meth c H locs cells slots Q (F0 m (pc + 3) ls rest)) : W p l e R s m args below meth c H locs cells slots Q (F0 m pc ls (.int x :: rest)) :=
  lv_if_gt X.1.1 X.1.2.1 hdg ht (fun q => kt (by rw [if_pos q] at hf; exact hf)) (fun q => kf (by rw [if_neg q] at hf; exact hf))
theorem zif_le (X : zX p s m args c cc nL own Ts D dA) {x : Int32} {off : Int} {tgt : Nat} (hdg : decode cc pc = .ok (.ifCond .le off, 3)) (ht : (pc : Int) + off = (tgt : Int)) {α : Type} {z : α} {A B : Option α} (hf : (if x ≤ 0 then A else B) = some z) (kt : A = some z → W p l e R s m args below meth c H locs cells slots Q (F0 m tgt ls rest)) (kf : B = some z → W p l e R s m args below meth c H locs cells slots Q (F0 m (pc + 3) ls rest)) : W p l e R s m args below meth c H locs cells slots Q (F0 m pc ls (.int x :: rest)) :=
  lv_if_le X.1.1 X.1.2.1 hdg ht (fun q => kt (by rw [if_pos q] at hf; exact hf)) (fun q => kf (by rw [if_neg q] at hf; exact hf))
theorem zic_eq (X : zX p s m args c cc nL own Ts D dA) {x y : Int32} {off : Int} {tgt : Nat} (hdg : decode cc pc = .ok (.if_icmp .eq off, 3)) (ht : (pc : Int) + off = (tgt : Int)) {α : Type} {z : α} {A B : Option α} (hf : (if x = y then A else B) = some z) (kt : A = some z → W p l e R s m args below meth c H locs cells slots Q (F0 m tgt ls rest)) (kf : B = some z → W p l e R s m args below meth c H locs cells slots Q (F0 m (pc + 3) ls rest)) : W p l e R s m args below meth c H locs cells slots Q (F0 m pc ls (.int y :: .int x :: rest)) :=
  lv_icmp_eq X.1.1 X.1.2.1 hdg ht (fun q => kt (by rw [if_pos q] at hf; exact hf)) (fun q => kf (by rw [if_neg q] at hf; exact hf))
theorem zic_ne (X : zX p s m args c cc nL own Ts D dA) {x y : Int32} {off : Int} {tgt : Nat} (hdg : decode cc pc = .ok (.if_icmp .ne off, 3)) (ht : (pc : Int) + off = (tgt : Int)) {α : Type} {z : α} {A B : Option α} (hf : (if x = y then B else A) = some z) (kt : A = some z → W p l e R s m args below meth c H locs cells slots Q (F0 m tgt ls rest)) (kf : B = some z → W p l e R s m args below meth c H locs cells slots Q (F0 m (pc + 3) ls rest)) : W p l e R s m args below meth c H locs cells slots Q (F0 m pc ls (.int y :: .int x :: rest)) :=
  lv_icmp_ne X.1.1 X.1.2.1 hdg ht (fun q => kt (by rw [if_neg q] at hf; exact hf)) (fun q => kf (by rw [if_pos q] at hf; exact hf))
theorem zic_lt (X : zX p s m args c cc nL own Ts D dA) {x y : Int32} {off : Int} {tgt : Nat} (hdg : decode cc pc = .ok (.if_icmp .lt off, 3)) (ht : (pc : Int) + off = (tgt : Int)) {α : Type} {z : α} {A B : Option α} (hf : (if x < y then A else B) = some z) (kt : A = some z → W p l e R s m args below meth c H locs cells slots Q (F0 m tgt ls rest)) (kf : B = some z → W p l e R s m args below meth c H locs cells slots Q (F0 m (pc + 3) ls rest)) : W p l e R s m args below meth c H locs cells slots Q (F0 m pc ls (.int y :: .int x :: rest)) :=
  lv_icmp_lt X.1.1 X.1.2.1 hdg ht (fun q => kt (by rw [if_pos q] at hf; exact hf)) (fun q => kf (by rw [if_neg q] at hf; exact hf))
theorem zic_ge (X : zX p s m args c cc nL own Ts D dA) {x y : Int32} {off : Int} {tgt : Nat} (hdg : decode cc pc = .ok (.if_icmp .ge off, 3)) (ht : (pc : Int) + off = (tgt : Int)) {α : Type} {z : α} {A B : Option α} (hf : (if y ≤ x then A else B) = some z) (kt : A = some z → W p l e R s m args below meth c H locs cells slots Q (F0 m tgt ls rest)) (kf : B = some z → W p l e R s m args below meth c H locs cells slots Q (F0 m (pc + 3) ls rest)) : W p l e R s m args below meth c H locs cells slots Q (F0 m pc ls (.int y :: .int x :: rest)) :=
  lv_icmp_ge X.1.1 X.1.2.1 hdg ht (fun q => kt (by rw [if_pos q] at hf; exact hf)) (fun q => kf (by rw [if_neg q] at hf; exact hf))
theorem zic_gt (X : zX p s m args c cc nL own Ts D dA) {x y : Int32} {off : Int} {tgt : Nat} (hdg : decode cc pc = .ok (.if_icmp .gt off, 3)) (ht : (pc : Int) + off = (tgt : Int)) {α : Type} {z : α} {A B : Option α} (hf : (if y < x then A else B) = some z) (kt : A = some z → W p l e R s m args below meth c H locs cells slots Q (F0 m tgt ls rest)) (kf : B = some z → W p l e R s m args below meth c H locs cells slots Q (F0 m (pc + 3) ls rest)) : W p l e R s m args below meth c H locs cells slots Q (F0 m pc ls (.int y :: .int x :: rest)) :=
  lv_icmp_gt X.1.1 X.1.2.1 hdg ht (fun q => kt (by rw [if_pos q] at hf; exact hf)) (fun q => kf (by rw [if_neg q] at hf; exact hf))
theorem zic_le (X : zX p s m args c cc nL own Ts D dA) {x y : Int32} {off : Int} {tgt : Nat} (hdg : decode cc pc = .ok (.if_icmp .le off, 3)) (ht : (pc : Int) + off = (tgt : Int)) {α : Type} {z : α} {A B : Option α} (hf : (if x ≤ y then A else B) = some z) (kt : A = some z → W p l e R s m args below meth c H locs cells slots Q (F0 m tgt ls rest)) (kf : B = some z → W p l e R s m args below meth c H locs cells slots Q (F0 m (pc + 3) ls rest)) : W p l e R s m args below meth c H locs cells slots Q (F0 m pc ls (.int y :: .int x :: rest)) :=
  lv_icmp_le X.1.1 X.1.2.1 hdg ht (fun q => kt (by rw [if_pos q] at hf; exact hf)) (fun q => kf (by rw [if_neg q] at hf; exact hf))
theorem zidiv (X : zX p s m args c cc nL own Ts D dA) {x y : Int32} (hdg : decode cc pc = .ok (.idiv, 1)) {α : Type} {z : α} {A : Option α} (hf : (if y = 0 then none else A) = some z) (kk : A = some z → W p l e R s m args below meth c H locs cells slots Q (F0 m (pc + 1) ls (.int (x / y) :: rest))) : W p l e R s m args below meth c H locs cells slots Q (F0 m pc ls (.int y :: .int x :: rest)) := by
  by_cases q : y = 0
  · rw [if_pos q] at hf; cases hf
  · rw [if_neg q] at hf; exact lv_idiv X.1.1 X.1.2.1 hdg q (kk hf)
theorem zirem (X : zX p s m args c cc nL own Ts D dA) {x y : Int32} (hdg : decode cc pc = .ok (.irem, 1)) {α : Type} {z : α} {A : Option α} (hf : (if y = 0 then none else A) = some z) (kk : A = some z → W p l e R s m args below meth c H locs cells slots Q (F0 m (pc + 1) ls (.int (x - x / y * y) :: rest))) : W p l e R s m args below meth c H locs cells slots Q (F0 m pc ls (.int y :: .int x :: rest)) := by
  by_cases q : y = 0
  · rw [if_pos q] at hf; cases hf
  · rw [if_neg q] at hf; exact lv_irem X.1.1 X.1.2.1 hdg q (kk hf)
theorem zldiv (X : zX p s m args c cc nL own Ts D dA) {x y : Int64} (hdg : decode cc pc = .ok (.ldiv, 1)) {α : Type} {z : α} {A : Option α} (hf : (if y = 0 then none else A) = some z) (kk : A = some z → W p l e R s m args below meth c H locs cells slots Q (F0 m (pc + 1) ls (.long (x / y) :: rest))) : W p l e R s m args below meth c H locs cells slots Q (F0 m pc ls (.long y :: .long x :: rest)) := by
  by_cases q : y = 0
  · rw [if_pos q] at hf; cases hf
  · rw [if_neg q] at hf; exact lv_ldiv X.1.1 X.1.2.1 hdg q (kk hf)
theorem zlrem (X : zX p s m args c cc nL own Ts D dA) {x y : Int64} (hdg : decode cc pc = .ok (.lrem, 1)) {α : Type} {z : α} {A : Option α} (hf : (if y = 0 then none else A) = some z) (kk : A = some z → W p l e R s m args below meth c H locs cells slots Q (F0 m (pc + 1) ls (.long (x - x / y * y) :: rest))) : W p l e R s m args below meth c H locs cells slots Q (F0 m pc ls (.long y :: .long x :: rest)) := by
  by_cases q : y = 0
  · rw [if_pos q] at hf; cases hf
  · rw [if_neg q] at hf; exact lv_lrem X.1.1 X.1.2.1 hdg q (kk hf)
theorem zleti {x : Int32} {α : Type} {z : α} {f : Int32 → Option α} (hf : zLet x f = some z) (kk : ∀ y, f y = some z → W p l e R s m args below meth c H locs cells slots Q (F0 m pc ls (.int y :: rest))) : W p l e R s m args below meth c H locs cells slots Q (F0 m pc ls (.int x :: rest)) := kk x hf
theorem zletl {x : Int64} {α : Type} {z : α} {f : Int64 → Option α} (hf : zLet x f = some z) (kk : ∀ y, f y = some z → W p l e R s m args below meth c H locs cells slots Q (F0 m pc ls (.long y :: rest))) : W p l e R s m args below meth c H locs cells slots Q (F0 m pc ls (.long x :: rest)) := kk x hf
theorem zmin (X : zX p s m args c cc nL own Ts D dA) {index : Nat} (hsz : ls.size = nL) (hlink : Cond.methodLink own index Lib.Math.min.name ∈ Ts) (hstat : Cond.static Lib.Math.min.name ∈ Ts) (hini : Cond.initialized "java/lang/Math" ∈ Ts) (hcode : Cond.code Lib.Math.min.name Lib.Math.min.code 2 (some .int) ∈ Ts) (hframes : 1 ≤ R.frames) (hlocals : (rest.map fun v => v.category).sum + 13 ≤ R.locals) (hc : cells ≤ R.cells) (hs : slots ≤ R.slots) {x y : Int32} (hdg : decode cc pc = .ok (.invokestatic index, 3))
    (kk : W p l e R s m args below meth c H locs cells slots Q (F0 m (pc + 3) ls (.int (if y < x then y else x) :: rest))) : W p l e R s m args below meth c H locs cells slots Q (F0 m pc ls (.int y :: .int x :: rest)) :=
  va_mmin X.1.1 X.1.2.1 (X.1.2.2.1.trans hsz.symm) X.1.2.2.2.1 (X.1.2.2.2.2 _ hlink) (X.1.2.2.2.2 _ hstat) (X.1.2.2.2.2 _ hini) (X.1.2.2.2.2 _ hcode) hframes hlocals hc hs hdg kk
theorem zabs (X : zX p s m args c cc nL own Ts D dA) {index : Nat} (hsz : ls.size = nL) (hlink : Cond.methodLink own index Lib.Math.abs.name ∈ Ts) (hstat : Cond.static Lib.Math.abs.name ∈ Ts) (hini : Cond.initialized "java/lang/Math" ∈ Ts) (hcode : Cond.code Lib.Math.abs.name Lib.Math.abs.code 1 (some .int) ∈ Ts) (hframes : 1 ≤ R.frames) (hlocals : (rest.map fun v => v.category).sum + 13 ≤ R.locals) (hc : cells ≤ R.cells) (hs : slots ≤ R.slots) {x : Int32} (hdg : decode cc pc = .ok (.invokestatic index, 3))
    (kk : W p l e R s m args below meth c H locs cells slots Q (F0 m (pc + 3) ls (.int (if 0 ≤ x then x else 0 - x) :: rest))) : W p l e R s m args below meth c H locs cells slots Q (F0 m pc ls (.int x :: rest)) :=
  va_mabs X.1.1 X.1.2.1 (X.1.2.2.1.trans hsz.symm) X.1.2.2.2.1 (X.1.2.2.2.2 _ hlink) (X.1.2.2.2.2 _ hstat) (X.1.2.2.2.2 _ hini) (X.1.2.2.2.2 _ hcode) hframes hlocals hc hs hdg kk
/-- behind a call -/
theorem zcall {st0 : List Value} {a : Array Value} {v : Option Value} {h' : zH} {mc ms : Nat} (hr : va_Run p l e R s m args below meth c H locs cells slots mc ms (F0 m pc ls st0) rest (zQ D dA b0 v h' a) (zA b0)) (G : zG D dA b0 H0 h H locs)
    (kk : ∀ H1 locs1, zG D dA b0 H0 h' H1 locs1 → W p l e R s m args below meth c H1 locs1 (cells + mc) (slots + ms) Q (F0 m (pc + 3) ls (v.toList ++ rest))) : W p l e R s m args below meth c H locs cells slots Q (F0 m pc ls st0) := by
  intro T hT X
  obtain ⟨v', st₀, t, T', L, h0, X', hL, e1, e2, ⟨hv, hP, hz, hF⟩, st⟩ := hr T hT X
  cases hv
  obtain ⟨hG1, hG2, hS⟩ := G
  obtain ⟨hz1, hk⟩ := hF
  rw [h0] at hz1 hk
  obtain ⟨t2, a1, b1⟩ := kk T'.heap (locs ++ L) ⟨by rw [e1]; exact hP, by rw [e1]; exact hz, Nat.le_trans hS.1 (by rw [e1]; exact hz1), fun q h1 h2 => by rw [e1, hk q (Nat.lt_of_lt_of_le h1 hS.1) h2]; exact hS.2.1 q h1 h2, fun q hq => by
      rcases List.mem_append.mp hq with h | h
      · exact hS.2.2 q h
      · exact hL q h⟩ T' rfl X'
  exact ⟨t2, st t2 a1, b1⟩
theorem zPre (X : zX p s m args c cc nL own Ts D dA) (G : zG D dA b0 H0 h H locs) (As : List Value) : PreS s H (zPc D dA b0 As h) As :=
  ⟨zPc_blind, fun U hU hW => ⟨rfl, by rw [hU]; exact G.1, by rw [hU]; exact G.2.1, va_K.moved hW.alike X.2.1, zN.warm hW X.2.2⟩⟩
theorem zPreV (X : zX p s m args c cc nL own Ts D dA) (G : zG D dA b0 H0 h H locs) {r ci : Nat} {fs : List Value} {q : vw_C} (hc : vwCl[ci]? = some q) (he : h[r]? = some (.inr (ci, fs))) (As : List Value) : PreV s H q.1 (b0 + r) (zPc D dA b0 (.ref (b0 + r) :: As) h) As :=
  ⟨zPc_blind, va_recv X.2.1 G.1 (ci := ci) (q0 := r) hc (zw_at he), fun U hU hW => ⟨rfl, by rw [hU]; exact G.1, by rw [hU]; exact G.2.1, va_K.moved hW.alike X.2.1, zN.warm hW X.2.2⟩⟩
variable {y : MethodName} {bytes : ByteArray} {maxL mc ms n index : Nat} {ret : Option FieldType} {ws : List Cond} {rm : Room} {As st0 : List Value} {v : Option Value} {h' : zH}
theorem zcS (X : zX p s m args c cc nL own Ts D dA) (G : zG D dA b0 H0 h H locs) (hM : Met l y ws rm (zPc D dA b0 As h) (zQ D dA b0 v h') mc ms (zA b0)) (cw : CallB R s args own index y bytes maxL ret ws rm mc ms n ∧ (Cond.static y).before args s = true) (hn : As.length = n) (hsz : ls.size = nL) (hst : st0 = As.reverse ++ rest) (hW : (rest.map fun v => v.category).sum ≤ 8) (hdg : decode cc pc = .ok (.invokestatic index, 3)) (hf : cells + mc ≤ R.cells ∧ slots + ms ≤ R.slots)
    (kk : ∀ H1 locs1, zG D dA b0 H0 h' H1 locs1 → W p l e R s m args below meth c H1 locs1 (cells + mc) (slots + ms) Q (F0 m (pc + 3) ls (v.toList ++ rest))) : W p l e R s m args below meth c H locs cells slots Q (F0 m pc ls st0) :=
  zcall (va_runS X.1 hM cw (zPre X G As) rfl hn hsz hst (lv_room hW) hdg hf) G kk
theorem zcSN {host : String} (X : zX p s m args c cc nL own Ts D dA) (G : zG D dA b0 H0 h H locs) (hM : Met l y ws rm (zPc D dA b0 As h) (zQ D dA b0 v h') mc ms (zA b0)) (cw : va_CN R s args own index y host bytes maxL ret ws rm mc ms n ∧ (Cond.static y).before args s = true ∧ True) (hn : As.length = n) (hsz : ls.size = nL) (hst : st0 = As.reverse ++ rest) (hW : (rest.map fun v => v.category).sum ≤ 8) (hdg : decode cc pc = .ok (.invokestatic index, 3)) (hf : cells + mc ≤ R.cells ∧ slots + ms ≤ R.slots)
    (kk : ∀ H1 locs1, zG D dA b0 H0 h' H1 locs1 → W p l e R s m args below meth c H1 locs1 (cells + mc) (slots + ms) Q (F0 m (pc + 3) ls (v.toList ++ rest))) : W p l e R s m args below meth c H locs cells slots Q (F0 m pc ls st0) :=
  zcall (va_runSN X.1 hM cw (zPre X G As) rfl hn hsz hst (lv_room hW) hdg hf) G kk
theorem zcV {q : vw_C} {r ci : Nat} (X : zX p s m args c cc nL own Ts D dA) (G : zG D dA b0 H0 h H locs) (hc : vwCl[ci]? = some q) (he : zO h r ci) (hM : Met l y ws rm (zPc D dA b0 (.ref (b0 + r) :: As) h) (zQ D dA b0 v h') mc ms (zA b0)) (cw : CallW R s args own q.1 index y bytes maxL ret ws rm mc ms n) (hn : As.length = n) (hsz : ls.size = nL) (hst : st0 = As.reverse ++ .ref (b0 + r) :: rest) (hW : (rest.map fun v => v.category).sum ≤ 8) (hdg : decode cc pc = .ok (.invokevirtual index, 3)) (hf : cells + mc ≤ R.cells ∧ slots + ms ≤ R.slots)
    (kk : ∀ H1 locs1, zG D dA b0 H0 h' H1 locs1 → W p l e R s m args below meth c H1 locs1 (cells + mc) (slots + ms) Q (F0 m (pc + 3) ls (v.toList ++ rest))) : W p l e R s m args below meth c H locs cells slots Q (F0 m pc ls st0) := by
  obtain ⟨fs, he⟩ := he
  exact zcall (va_runV X.1 hM cw (zPreV X G hc he As) rfl hn hsz hst (lv_room hW) hdg hf) G kk
theorem zcI {r : Nat} (X : zX p s m args c cc nL own Ts D dA) (G : zG D dA b0 H0 h H locs) (hM : Met l y ws rm (zPc D dA b0 (.ref (b0 + r) :: As) h) (zQ D dA b0 v h') mc ms (zA b0)) (cw : CallB R s args own index y bytes maxL none ws rm mc ms n ∧ y.name = "<init>" ∧ (Cond.instanceMethod y).before args s = true) (hn : As.length = n) (hsz : ls.size = nL) (hst : st0 = As.reverse ++ .ref (b0 + r) :: rest) (hW : (rest.map fun v => v.category).sum ≤ 8) (hdg : decode cc pc = .ok (.invokespecial index, 3)) (hf : cells + mc ≤ R.cells ∧ slots + ms ≤ R.slots)
    (kk : ∀ H1 locs1, zG D dA b0 H0 h' H1 locs1 → W p l e R s m args below meth c H1 locs1 (cells + mc) (slots + ms) Q (F0 m (pc + 3) ls (v.toList ++ rest))) : W p l e R s m args below meth c H locs cells slots Q (F0 m pc ls st0) :=
  zcall (va_runI X.1 hM cw (zPre X G (.ref (b0 + r) :: As)) rfl hn hsz hst (lv_room hW) hdg hf) G kk
theorem zcIN {host : String} {r : Nat} (X : zX p s m args c cc nL own Ts D dA) (G : zG D dA b0 H0 h H locs) (hM : Met l y ws rm (zPc D dA b0 (.ref (b0 + r) :: As) h) (zQ D dA b0 v h') mc ms (zA b0)) (cw : va_CN R s args own index y host bytes maxL none ws rm mc ms n ∧ y.name = "<init>" ∧ (Cond.instanceMethod y).before args s = true) (hn : As.length = n) (hsz : ls.size = nL) (hst : st0 = As.reverse ++ .ref (b0 + r) :: rest) (hW : (rest.map fun v => v.category).sum ≤ 8) (hdg : decode cc pc = .ok (.invokespecial index, 3)) (hf : cells + mc ≤ R.cells ∧ slots + ms ≤ R.slots)
    (kk : ∀ H1 locs1, zG D dA b0 H0 h' H1 locs1 → W p l e R s m args below meth c H1 locs1 (cells + mc) (slots + ms) Q (F0 m (pc + 3) ls (v.toList ++ rest))) : W p l e R s m args below meth c H locs cells slots Q (F0 m pc ls st0) :=
  zcall (va_runIN X.1 hM cw (zPre X G (.ref (b0 + r) :: As)) rfl hn hsz hst (lv_room hW) hdg hf) G kk
/-! the same, of a method that makes nothing -/
theorem zcS0 (X : zX p s m args c cc nL own Ts D dA) (G : zG D dA b0 H0 h H locs) (hM : Met l y ws rm (zPc D dA b0 As h) (zQ D dA b0 v h') 0 0 (zA b0)) (cw : CallB R s args own index y bytes maxL ret ws rm 0 0 n ∧ (Cond.static y).before args s = true) (hn : As.length = n) (hsz : ls.size = nL) (hst : st0 = As.reverse ++ rest) (hW : (rest.map fun v => v.category).sum ≤ 8) (hdg : decode cc pc = .ok (.invokestatic index, 3)) (hf : cells ≤ R.cells ∧ slots ≤ R.slots)
    (kk : ∀ H1 locs1, zG D dA b0 H0 h' H1 locs1 → W p l e R s m args below meth c H1 locs1 cells slots Q (F0 m (pc + 3) ls (v.toList ++ rest))) : W p l e R s m args below meth c H locs cells slots Q (F0 m pc ls st0) :=
  zcS X G hM cw hn hsz hst hW hdg hf kk
theorem zcSN0 {host : String} (X : zX p s m args c cc nL own Ts D dA) (G : zG D dA b0 H0 h H locs) (hM : Met l y ws rm (zPc D dA b0 As h) (zQ D dA b0 v h') 0 0 (zA b0)) (cw : va_CN R s args own index y host bytes maxL ret ws rm 0 0 n ∧ (Cond.static y).before args s = true ∧ True) (hn : As.length = n) (hsz : ls.size = nL) (hst : st0 = As.reverse ++ rest) (hW : (rest.map fun v => v.category).sum ≤ 8) (hdg : decode cc pc = .ok (.invokestatic index, 3)) (hf : cells ≤ R.cells ∧ slots ≤ R.slots)
    (kk : ∀ H1 locs1, zG D dA b0 H0 h' H1 locs1 → W p l e R s m args below meth c H1 locs1 cells slots Q (F0 m (pc + 3) ls (v.toList ++ rest))) : W p l e R s m args below meth c H locs cells slots Q (F0 m pc ls st0) :=
  zcSN X G hM cw hn hsz hst hW hdg hf kk
theorem zcV0 {q : vw_C} {r ci : Nat} (X : zX p s m args c cc nL own Ts D dA) (G : zG D dA b0 H0 h H locs) (hc : vwCl[ci]? = some q) (he : zO h r ci) (hM : Met l y ws rm (zPc D dA b0 (.ref (b0 + r) :: As) h) (zQ D dA b0 v h') 0 0 (zA b0)) (cw : CallW R s args own q.1 index y bytes maxL ret ws rm 0 0 n) (hn : As.length = n) (hsz : ls.size = nL) (hst : st0 = As.reverse ++ .ref (b0 + r) :: rest) (hW : (rest.map fun v => v.category).sum ≤ 8) (hdg : decode cc pc = .ok (.invokevirtual index, 3)) (hf : cells ≤ R.cells ∧ slots ≤ R.slots)
    (kk : ∀ H1 locs1, zG D dA b0 H0 h' H1 locs1 → W p l e R s m args below meth c H1 locs1 cells slots Q (F0 m (pc + 3) ls (v.toList ++ rest))) : W p l e R s m args below meth c H locs cells slots Q (F0 m pc ls st0) :=
  zcV X G hc he hM cw hn hsz hst hW hdg hf kk
theorem zcp (X : zX p s m args c cc nL own Ts D dA) (G : zG D dA b0 H0 h H locs) {index : Nat} (hsz : ls.size = nL) (hlink : Cond.methodLink own index arraycopyName ∈ Ts) (hnat : Cond.native arraycopyName ∈ Ts) (hstat : Cond.static arraycopyName ∈ Ts) (hini : Cond.initialized "java/lang/System" ∈ Ts) (hframes : 1 ≤ R.frames) (hlocals : (rest.map fun v => v.category).sum + (nativeFrameWords "java/lang/System" "arraycopy" 5 + 11) ≤ R.locals) (hdg : decode cc pc = .ok (.invokestatic index, 3)) {r q : Nat} {sp dp n : Int32} {α : Type} {z : α} {f : zH → Option α} (hf : (zCp h r sp q dp n).bind f = some z)
    (kk : ∀ h' H locs, f h' = some z → zG D dA b0 H0 h' H locs → W p l e R s m args below meth c H locs cells slots Q (F0 m (pc + 3) ls rest)) : W p l e R s m args below meth c H locs cells slots Q (F0 m pc ls (.int n :: .int dp :: .ref (b0 + q) :: .int sp :: .ref (b0 + r) :: rest)) := by
  obtain ⟨h', hv, hf⟩ := Option.bind_eq_some_iff.mp hf
  obtain ⟨n0, f0, n1, g, he, he2, h1, h2, h3, h4, h5, rfl⟩ := zCp_spec hv
  obtain ⟨hP, hz, hS⟩ := G
  obtain ⟨⟨hx, hb, hml, hown, hts⟩, hK, hN⟩ := X
  have nn : ∀ w : Int32, ¬ w < 0 → w.toInt = (w.toNatClampNeg : Int) := by
    intro w hw
    have hz0 : (0 : Int) ≤ w.toInt := by
      have := Int32.not_lt.mp hw
      simpa using Int32.le_iff_toInt_le.mp this
    show w.toInt = ((w.toInt.toNat : Nat) : Int)
    omega
  intro T hT X
  have ha0 : (zw dA b0 h)[r]? = some (b0 + r, .inl (dA 0, n0, .inl f0)) := zw_at he
  have ha1 : (zw dA b0 h)[q]? = some (b0 + q, .inl (dA 0, n1, .inl g)) := zw_at he2
  have hc0 : H[b0 + r]? = some (vp_cell (dA 0) (n0, .inl f0)) := hP r _ ha0
  have hc1 : H[b0 + q]? = some (vp_cell (dA 0) (n1, .inl g)) := hP q _ ha1
  obtain ⟨-, k0, hk0, cm0, hkk0⟩ := (hK.2 0 _ rfl).1 n0 (fun j => .int (f0 j))
  obtain ⟨-, k1, hk1, cm1, hkk1⟩ := (hK.2 0 _ rfl).1 n1 (fun j => .int (g j))
  obtain ⟨vm', X', step⟩ := X.arraycopy hx hown (hts _ hlink) (hts _ hnat) (hts _ hstat) (hts _ hini) (src := b0 + r) (dst := b0 + q) (cs := vp_cell (dA 0) (n0, .inl f0)) (cd := vp_cell (dA 0) (n1, .inl g)) (srcPos := sp) (destPos := dp) (n := n) (by rw [hT]; exact hc0) (by rw [hT]; exact hc1)
    (fun _ h => by cases h) (fun _ h => by cases h) (fun h => by cases h) (fun h => by cases h) hk0 hk1 hkk0 hkk1 (by rfl) h1 h2 h3
    (by rw [nn sp h1, nn n h3]; show ¬ _ > ((arrV (dA 0) n0 (fun j => .int (f0 j))).slots.size : Int); rw [arrV_size]; omega)
    (by rw [nn dp h2, nn n h3]; show ¬ _ > ((arrV (dA 0) n1 (fun j => .int (g j))).slots.size : Int); rw [arrV_size]; omega)
    (fun vm₁ _ i hi => by
      have e1 : (vp_cell (dA 0) (n0, .inl f0)).slots.getD (sp.toNatClampNeg + i) .null = .int (f0 (sp.toNatClampNeg + i)) := by
        show (arrV (dA 0) n0 (fun j => .int (f0 j))).slots.getD _ _ = _
        rw [Array.getD_eq_getD_getElem?, arrV_read _ _ (by omega)]
        rfl
      refine ⟨?_, ?_⟩
      · rw [e1]
        rfl
      · rw [e1]
        exact trivial)
    (g := F0 m pc ls (.int n :: .int dp :: .ref (b0 + q) :: .int sp :: .ref (b0 + r) :: rest)) rfl (by rw [hml, ← hsz]) (rest := rest) rfl (by rw [hb]; exact hdg) hframes (by show 2 * 0 + _ + _ ≤ _; omega)
  have e1 : copied (vp_cell (dA 0) (n0, .inl f0)) (vp_cell (dA 0) (n1, .inl g)) sp dp n = vp_cell (dA 0) (n1, .inl (va_cpy f0 g sp.toNatClampNeg dp.toNatClampNeg n.toNatClampNeg)) := va_copied (fun w => .int w) (dA 0) (dA 0) f0 g h4
  rw [e1] at X' step
  have hl : b0 + q < H.size := (Array.getElem?_eq_some_iff.mp hc1).1
  have hheap : ((T.setVm vm').setCell (b0 + q) (vp_cell (dA 0) (n1, .inl (va_cpy f0 g sp.toNatClampNeg dp.toNatClampNeg n.toNatClampNeg)))).heap = H.setIfInBounds (b0 + q) (vp_cell (dA 0) (n1, .inl (va_cpy f0 g sp.toNatClampNeg dp.toNatClampNeg n.toNatClampNeg))) := by rw [← hT]; rfl
  have oq : ∀ x : Nat, x ≠ b0 + q → (H.setIfInBounds (b0 + q) (vp_cell (dA 0) (n1, .inl (va_cpy f0 g sp.toNatClampNeg dp.toNatClampNeg n.toNatClampNeg))))[x]? = H[x]? := fun x hq => by simp [Array.getElem?_setIfInBounds, Ne.symm hq]
  obtain ⟨t, a1, b1⟩ := kk _ _ _ hf ⟨by
      rw [zw_set]
      exact hP.set (zw_D dA b0 h) ha1 (show (H.setIfInBounds (b0 + q) _)[b0 + q]? = some _ by simp [Array.getElem?_setIfInBounds, hl]) oq, by rw [Array.size_setIfInBounds, hz, List.length_set], by simp; exact hS.1, fun x g1 g2 => by
      rw [oq x (fun e => g2 (by rw [e]; exact Nat.le_add_right _ _))]
      exact hS.2.1 x g1 g2, fun x hq => by
      rcases List.mem_append.mp hq with h | h
      · exact hS.2.2 x h
      · obtain ⟨w, -, hw⟩ := List.mem_map.mp h
        rw [← hw]
        exact Nat.le_add_right _ _⟩ _ hheap X'
  exact ⟨t, step t a1, b1⟩
/-! returns -/
theorem zretI (X : zX p s m args c cc nL own Ts D dA) (hr : meth.sig.returnType = some .int) (hlk : meth.locks = false) (G : zG D dA b0 s.heap h H locs) {x : Int32} {z : Int32 × zH} (hf : some (x, h) = some z) (hdg : decode cc pc = .ok (.ireturn, 1)) : W p l e R s m args below meth c H locs cells slots (MQ below (zQ D dA b0 (some (.int z.1)) z.2) args s cells slots (zA b0)) (F0 m pc ls [.int x]) := by
  cases hf
  exact W.iret X.1.1 X.1.2.1 hr (fun t ht hW => ⟨rfl, by rw [ht]; exact G.1, by rw [ht]; exact G.2.1, G.2.2.F ht⟩) (fun q hq => G.2.2.2.2 q hq) hdg hlk
theorem zretIr (X : zX p s m args c cc nL own Ts D dA) (hr : meth.sig.returnType = some .int) (hlk : meth.locks = false) (G : zG D dA b0 s.heap h H locs) {x z : Int32} (hf : some x = some z) (hdg : decode cc pc = .ok (.ireturn, 1)) : W p l e R s m args below meth c H locs cells slots (MQ below (zQ D dA b0 (some (.int z)) h) args s cells slots (zA b0)) (F0 m pc ls [.int x]) := by
  cases hf
  exact W.iret X.1.1 X.1.2.1 hr (fun t ht hW => ⟨rfl, by rw [ht]; exact G.1, by rw [ht]; exact G.2.1, G.2.2.F ht⟩) (fun q hq => G.2.2.2.2 q hq) hdg hlk
theorem zB_nar {x y : Int32} (hv : zB x = some y) : x = y ∧ narrow .boolean (.int y) = .int y := by
  unfold zB at hv
  split at hv
  · rename_i h01
    cases hv
    rcases h01 with rfl | rfl <;> exact ⟨rfl, rfl⟩
  · cases hv
theorem zretZ (X : zX p s m args c cc nL own Ts D dA) (hr : meth.sig.returnType = some .boolean) (hlk : meth.locks = false) (G : zG D dA b0 s.heap h H locs) {x : Int32} {z : Int32 × zH} (hf : ((zB x).bind fun x => some (x, h)) = some z) (hdg : decode cc pc = .ok (.ireturn, 1)) : W p l e R s m args below meth c H locs cells slots (MQ below (zQ D dA b0 (some (.int z.1)) z.2) args s cells slots (zA b0)) (F0 m pc ls [.int x]) := by
  obtain ⟨y, hy, hf⟩ := Option.bind_eq_some_iff.mp hf
  obtain ⟨rfl, hn⟩ := zB_nar hy
  cases hf
  exact W.zret X.1.1 X.1.2.1 hr hn (fun t ht hW => ⟨rfl, by rw [ht]; exact G.1, by rw [ht]; exact G.2.1, G.2.2.F ht⟩) (fun q hq => G.2.2.2.2 q hq) hdg hlk
theorem zretZr (X : zX p s m args c cc nL own Ts D dA) (hr : meth.sig.returnType = some .boolean) (hlk : meth.locks = false) (G : zG D dA b0 s.heap h H locs) {x z : Int32} (hf : zB x = some z) (hdg : decode cc pc = .ok (.ireturn, 1)) : W p l e R s m args below meth c H locs cells slots (MQ below (zQ D dA b0 (some (.int z)) h) args s cells slots (zA b0)) (F0 m pc ls [.int x]) := by
  obtain ⟨rfl, hn⟩ := zB_nar hf
  exact W.zret X.1.1 X.1.2.1 hr hn (fun t ht hW => ⟨rfl, by rw [ht]; exact G.1, by rw [ht]; exact G.2.1, G.2.2.F ht⟩) (fun q hq => G.2.2.2.2 q hq) hdg hlk
theorem zretV (X : zX p s m args c cc nL own Ts D dA) (hr : meth.sig.returnType = none) (hlk : meth.locks = false) (G : zG D dA b0 s.heap h H locs) {z : zH} (hf : some h = some z) (hdg : decode cc pc = .ok (.return_, 1)) : W p l e R s m args below meth c H locs cells slots (MQ below (zQ D dA b0 none z) args s cells slots (zA b0)) (F0 m pc ls []) := by
  cases hf
  exact W.vret X.1.1 X.1.2.1 hr (fun t ht hW => ⟨rfl, by rw [ht]; exact G.1, by rw [ht]; exact G.2.1, G.2.2.F ht⟩) (fun q hq => G.2.2.2.2 q hq) hdg hlk
theorem zretA {rt : FieldType} (X : zX p s m args c cc nL own Ts D dA) (hr : meth.sig.returnType = some rt) (hrt : (∃ n, rt = .object n) ∨ ∃ t, rt = .array t) (hlk : meth.locks = false) (G : zG D dA b0 s.heap h H locs) {x : Nat} {z : Nat × zH} (hf : some (x, h) = some z) (hdg : decode cc pc = .ok (.areturn, 1)) : W p l e R s m args below meth c H locs cells slots (MQ below (zQ D dA b0 (some (.ref (b0 + z.1))) z.2) args s cells slots (zA b0)) (F0 m pc ls [.ref (b0 + x)]) := by
  cases hf
  exact W.aret X.1.1 X.1.2.1 hr hrt (Or.inr ⟨_, rfl⟩) (fun t ht hW => ⟨rfl, by rw [ht]; exact G.1, by rw [ht]; exact G.2.1, G.2.2.F ht⟩) (fun q hq => G.2.2.2.2 q hq) hdg hlk
end ZCALL
