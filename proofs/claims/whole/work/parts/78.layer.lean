/-! PURE: the class's layer -/
def iLs (h : zH) (ay mv : Int32) : Prop := h[209]? = some (.inr (2, [.ref 210, .ref 217, .int ay, .ref 224, .int mv]))
section ILS
variable {h h' : zH} {ay mv : Int32}
theorem iLs.keep (H : iLs h ay mv) (e : h'[209]? = h[209]?) : iLs h' ay mv := e.trans H
theorem iLs.k (H : iLs h ay mv) : zK h 209 2 = some () := zK_of H
theorem iLs.r0 (H : iLs h ay mv) : zR h 209 2 0 = some 210 := zR_of H rfl
theorem iLs.r1 (H : iLs h ay mv) : zR h 209 2 1 = some 217 := zR_of H rfl
theorem iLs.r3 (H : iLs h ay mv) : zR h 209 2 3 = some 224 := zR_of H rfl
theorem iLs.i2 (H : iLs h ay mv) : zI h 209 2 2 = some ay := zI_of H rfl
theorem iLs.i4 (H : iLs h ay mv) : zI h 209 2 4 = some mv := zI_of H rfl
theorem iLs.p2 (H : iLs h ay mv) (x : Int32) : ∃ e, zP h 209 2 2 (.int x) = some (h.set 209 e) ∧ iLs (h.set 209 e) x mv := ⟨_, zP_of H (by simp), zset_eq H⟩
theorem iLs.p4 (H : iLs h ay mv) (x : Int32) : ∃ e, zP h 209 2 4 (.int x) = some (h.set 209 e) ∧ iLs (h.set 209 e) ay x := ⟨_, zP_of H (by simp), zset_eq H⟩
end ILS
/-- what the layer works on -/
def iLw (h : zH) (ay mv th dg : Int32) (m : Nat → Nat) : Prop := iLs h ay mv ∧ zSh h 210 ∧ zMi h 217 th dg m ∧ zAr h 224 0 (fun _ => 0)
def zFL (h h' : zH) : Prop := ∀ j, (j < 210 ∨ 216 < j) → j ≠ 224 → h'[j]? = h[j]?
theorem zFL.rf {h : zH} : zFL h h := fun _ _ _ => rfl
theorem zFL.tr {h h1 h2 : zH} (a : zFL h h1) (b : zFL h1 h2) : zFL h h2 := fun j x y => (b j x y).trans (a j x y)
theorem zFL.of {h h' : zH} (F : zFr h h' 210 7) : zFL h h' := fun j a _ => F j (by omega)
theorem zpl0 : ∀ e : Fin 5, (((nI (2 * e.val) &&& 31) : Int32).toBitVec.smod 32).toNat = 2 * e.val := by decide +kernel
theorem zpl {c e : Nat} (hc : c < 2147483648) (he : e < 5) : (nI c >>> (nI (2 * e) &&& 31)) &&& (3 : Int32) = nI (c / 4 ^ e % 4) := by
  have e2 : (4 : Nat) ^ e = 2 ^ (2 * e) := (Nat.pow_mul 2 2 e).symm
  rw [pk_shrN hc _ (2 * e) (zpl0 ⟨e, he⟩), e2]
  exact pk_andN (n := c / 2 ^ (2 * e)) (by have := Nat.div_le_self c (2 ^ (2 * e)); omega) (m := 3) 2 rfl
def sCm (o : Option Nat) (a : Nat) : Int32 := match o with
  | none => -1000000
  | some x => nI (a + x)
section LAYER
variable {ay mv th dg : Int32} {m : Nat → Nat}
theorem c_cm_b4 (v : vM m) {c : Nat} (hc : c < 2147483648) : ∀ (k t n a : Nat) (h : zH), t + k = m 0 → k < n → a + k < 1000 → iLs h ay mv → zMi h 217 th dg m → zAr h 224 t (fun t => sPc (m 0) c t) → ∃ h', f_X2_countMoved_b4 n 209 (nI c) (nI a) (nI t) h = some (sCm (sMv m c k t) a, h') ∧ (∀ j, j ≠ 224 → h'[j]? = h[j]?) ∧ zAr h' 224 0 (fun _ => 0) ∧ ∀ x, sMv m c k t = some x → zAr h' 224 (m 0) (fun t => sPc (m 0) c t) := by
  intro k
  have h5 := v.1
  induction k with
  | zero =>
    intro t n a h ht hn ha L H A
    obtain ⟨n, rfl⟩ : ∃ x, n = x + 1 := ⟨n - 1, by omega⟩
    rw [e_X2_countMoved_b4, L.r1, Option.bind_some, H.f1, Option.bind_some, if_pos (nI_le (by omega) (by omega))]
    exact ⟨h, rfl, fun _ _ => rfl, (A.le (Nat.zero_le _)).cg (fun t ht => by omega), fun x _ => A.le (by omega)⟩
  | succ k ih =>
    intro t n a h ht hn ha L H A
    obtain ⟨n, rfl⟩ : ∃ x, n = x + 1 := ⟨n - 1, by omega⟩
    have tm : t < m 0 := by omega
    have hp := sPc_lt (m 0) c t
    have hq := (v.2.2.2.2 t tm).2.2.2.1
    have key : (nI c >>> (((2 : Int32) * ((nI (m 0) - (1 : Int32)) - nI t)) &&& 31)) &&& (3 : Int32) = nI (sPc (m 0) c t) := by
      rw [z1, pk_sub (by omega), pk_sub (by omega), z2, pk_mul]
      exact zpl hc (by omega)
    obtain ⟨e, es, eA⟩ := A.st (i := t) (x := sPc (m 0) c t) (by omega)
    have A1 : zAr (h.set 224 e) 224 (t + 1) (fun t => sPc (m 0) c t) := (eA (t + 1) (fun y hy => by omega)).cg (fun y hy => by
      by_cases z : y = t
      · rw [z, mup_s]
      · rw [mup_n _ _ z])
    have L1 : iLs (h.set 224 e) ay mv := L.keep (zset_ne (by omega))
    have H1 : zMi (h.set 224 e) 217 th dg m := H.keep (fun j _ _ => zset_ne (by omega))
    rw [e_X2_countMoved_b4, L.r1, Option.bind_some, H.f1, Option.bind_some, if_neg (nI_ge (by omega) (by omega)), Option.bind_some, H.f1, Option.bind_some, key, zLet_eq, L.r3, Option.bind_some, es, Option.bind_some, L1.r1, Option.bind_some, H1.f8, Option.bind_some, H1.pl v tm, Option.bind_some, nI_1, nI_1, sMv]
    by_cases c1 : sPc (m 0) c t = m (18 + t)
    · rw [if_pos (by rw [c1]), if_pos c1]
      obtain ⟨h', e1, F1, A2, A3⟩ := ih (t + 1) n a (h.set 224 e) (by omega) (by omega) (by omega) L1 H1 A1
      exact ⟨h', e1, fun j hj => (F1 j hj).trans (zset_ne hj), A2, A3⟩
    · rw [if_neg (zne c1 (by omega) (by omega)), if_neg c1, Option.bind_some, H1.k, Option.bind_some, c_isUp H1 v tm, Option.bind_some]
      by_cases c2 : m (13 + t) = 0
      · rw [if_neg (by rw [zb_0]; simpa using c2), if_pos c2]
        exact ⟨h.set 224 e, rfl, fun j hj => zset_ne hj, (A1.le (Nat.zero_le _)).cg (fun t ht => by omega), fun x hx => by cases hx⟩
      · rw [if_pos (by rw [zb_0]; exact c2), if_neg c2]
        obtain ⟨h', e1, F1, A2, A3⟩ := ih (t + 1) n (a + 1) (h.set 224 e) (by omega) (by omega) (by omega) L1 H1 A1
        refine ⟨h', ?_, fun j hj => (F1 j hj).trans (zset_ne hj), A2, fun x hx => ?_⟩
        · rw [e1]
          cases sMv m c k (t + 1) with
          | none => rfl
          | some y =>
            show some (nI (a + 1 + y), h') = some (nI (a + (y + 1)), h')
            rw [show a + 1 + y = a + (y + 1) by omega]
        · cases hs : sMv m c k (t + 1) with
          | none => rw [hs] at hx; cases hx
          | some y => exact A3 y hs
theorem c_cm {h : zH} (v : vM m) {c : Nat} (hc : c < 2147483648) (W : iLw h ay mv th dg m) : ∃ h', f_X2_countMoved 209 (nI c) h = some (sCm (sMv m c (m 0) 0) 0, h') ∧ (∀ j, j ≠ 224 → h'[j]? = h[j]?) ∧ iLw h' ay mv th dg m ∧ ∀ x, sMv m c (m 0) 0 = some x → zAr h' 224 (m 0) (fun t => sPc (m 0) c t) := by
  obtain ⟨L, S, H, A⟩ := W
  have h5 := v.1
  obtain ⟨h', e1, F1, A1, A2⟩ := c_cm_b4 v hc (m 0) 0 zF 0 h (by omega) (by show m 0 < 5000; omega) (by omega) L H (A.cg (fun t ht => by omega))
  exact ⟨h', e1, F1, ⟨L.keep (F1 _ (by omega)), S.keep (fun j _ _ => F1 j (by omega)), H.keep (fun j _ _ => F1 j (by omega)), A1⟩, A2⟩
/-- the places of the first i things are as a way has them -/
def sLdP (m : Nat → Nat) (c i : Nat) : Nat → Nat := fun j => if 18 ≤ j ∧ j < 18 + i then sPc (m 0) c (j - 18) else m j
theorem sLdP_0 (m : Nat → Nat) (c : Nat) : sLdP m c 0 = m := by
  funext j
  unfold sLdP
  rw [if_neg (by omega)]
theorem sLdP_s (m : Nat → Nat) (c i : Nat) : sLdP m c (i + 1) = mup (sLdP m c i) (18 + i) (sPc (m 0) c i) := by
  funext j
  unfold sLdP mup
  by_cases e : j = 18 + i
  · subst e
    rw [if_pos (by omega), if_pos rfl, Nat.add_sub_cancel_left]
  · rw [if_neg e]
    by_cases q : 18 ≤ j ∧ j < 18 + i
    · rw [if_pos (by omega)]
      dsimp only
      rw [if_pos q]
    · rw [if_neg (by omega)]
      dsimp only
      rw [if_neg q]
theorem sLdP_n (m : Nat → Nat) (c i : Nat) : sLdP m c i 0 = m 0 := by
  unfold sLdP
  rw [if_neg (by omega)]
theorem zno_n {o : Option Nat} (h : ∀ x, o = some x → x < 2147483648) : (zno o = (-1000000 : Int32)) = (o = none) := by
  cases o with
  | none => simp [zno]
  | some x => simp [show ¬ zno (some x) = (-1000000 : Int32) from zno_ne (h x rfl)]
theorem sT2_b {m : Nat → Nat} (h5 : m 0 ≤ 5) : ∀ x, sT2 m (m 0) 0 = some x → x < 2147483648 := fun x h => by
  have := sT2_lt _ _ h
  omega
theorem c_hold_b69 {u : Int32} {d : Nat} (hd : d ≤ 60) : ∀ (k i n : Nat) (h : zH) (mm : Nat → Nat), i + k = d → k < n → vM mm → mm 28 + k ≤ 4000 → iLs h ay mv → zMi h 210 th dg mm → sT2 mm (mm 0) 0 = none → sUp mm (mm 0) 0 0 = u → ∃ h', f_X2_holds_b69 n 209 (nI d) u (nI i) h = some (zb (sOkY u k (sYear mm) = true), h') ∧ zSh h' 210 ∧ zFr h h' 210 7 := by
  intro k
  induction k with
  | zero =>
    intro i n h mm hi hn v hy L H q1 q2
    obtain ⟨n, rfl⟩ : ∃ x, n = x + 1 := ⟨n - 1, by omega⟩
    rw [e_X2_holds_b69, if_pos (nI_le (by omega) (by omega))]
    exact ⟨h, by rw [zb_t (show sOkY u 0 (sYear mm) = true from rfl)]; rfl, H.sh, zFr.rf⟩
  | succ k ih =>
    intro i n h mm hi hn v hy L H q1 q2
    obtain ⟨n, rfl⟩ : ∃ x, n = x + 1 := ⟨n - 1, by omega⟩
    have h5 := v.1
    obtain ⟨h1, e1, H1, F1⟩ := c_year H v
    have L1 : iLs h1 ay mv := L.keep (F1 _ (by omega))
    have v1 := sYear_v v (by omega)
    have n1 := sYear_0 mm h5
    have goon := fun a b => ih (i + 1) n h1 (sYear mm) (by omega) (by omega) v1 (by rw [sYear_28]; omega) L1 H1 a b
    rw [e_X2_holds_b69, if_neg (nI_ge (by omega) (by omega)), L.r0, Option.bind_some, H.k, Option.bind_some, e1, Option.bind_some, sOkY]
    dsimp only
    by_cases c : sSt mm (mm 0) 0 = true
    · rw [if_neg (zb_n c), L1.r0, Option.bind_some, H1.k, Option.bind_some, c_allUp H1 v1, Option.bind_some]
      by_cases c1 : sUp (sYear mm) (sYear mm 0) 0 0 = u
      · rw [if_pos c1, Option.bind_some, H1.k, Option.bind_some, c_two H1 v1, Option.bind_some, nI_1]
        by_cases c2 : sT2 (sYear mm) (sYear mm 0) 0 = none
        · rw [if_pos (by rw [c2]; rfl), decide_eq_true c1, decide_eq_true c2, Bool.true_and, Bool.true_and]
          obtain ⟨h2, e2, S2, F2⟩ := goon c2 c1
          exact ⟨h2, e2, S2, F1.tr F2⟩
        · rw [if_neg (by rw [zno_n (sT2_b v1.1)]; exact c2), decide_eq_false c2, Bool.false_and, Bool.false_and]
          exact ⟨h1, by rw [zb_f (by simp)]; rfl, H1.sh, F1⟩
      · rw [if_neg c1, decide_eq_false c1, Bool.and_false, Bool.false_and]
        exact ⟨h1, by rw [zb_f (by simp)]; rfl, H1.sh, F1⟩
    · have E := sSt_lk h5 (by simpa using c)
      have c1 : sUp (sYear mm) (sYear mm 0) 0 0 = u := by
        rw [sUp_cg E _ 0 0 (by omega), E.1]
        exact q2
      have c2 : sT2 (sYear mm) (sYear mm 0) 0 = none := by
        rw [sT2_cg E _ 0 (by omega), E.1]
        exact q1
      rw [if_pos (zb_f c), decide_eq_true c1, decide_eq_true c2, Bool.true_and, Bool.true_and, nI_1]
      obtain ⟨h2, e2, S2, F2⟩ := goon c2 c1
      exact ⟨h2, e2, S2, F1.tr F2⟩
theorem c_hold_b21 (v : vM m) (hy : m 28 ≤ 999) {c d : Nat} (hd : d ≤ 60) {u : Int32} (hu : sUp m (m 0) 0 0 = u) : ∀ (k i n : Nat) (h : zH), i + k = m 0 → k < n → iLs h ay mv → zMi h 217 th dg m → zMi h 210 th dg (sLdP m c i) → zAr h 224 (m 0) (fun t => sPc (m 0) c t) → ∃ h', f_X2_holds_b21 n 209 (nI d) u (nI i) h = some (zb (sOkY u (d + 1) (sLaid m c) = true), h') ∧ zSh h' 210 ∧ zFr h h' 210 7 := by
  intro k
  have h5 := v.1
  induction k with
  | zero =>
    intro i n h hi hn L H7 H A
    obtain ⟨n, rfl⟩ : ∃ x, n = x + 1 := ⟨n - 1, by omega⟩
    have e0 : sLdP m c i = sLaid m c := by rw [show i = m 0 by omega]; rfl
    rw [e0] at H
    have w := sLaid_v v c
    have n0 : sLaid m c 0 = m 0 := sLaid_h m c (by omega) h5
    have up : sUp (sLaid m c) (sLaid m c 0) 0 0 = u := by
      rw [n0, ← hu]
      have key : ∀ (k i : Nat) (a : Int32), i + k ≤ m 0 → sUp (sLaid m c) k i a = sUp m k i a := by
        intro k
        induction k with
        | zero => exact fun _ _ _ => rfl
        | succ k ih =>
          intro i a hi
          rw [sUp, sUp, sLaid_h m c (by omega) h5, ih _ _ (by omega)]
      exact key _ _ _ (by omega)
    rw [e_X2_holds_b21, L.r1, Option.bind_some, H7.f1, Option.bind_some, if_pos (nI_le (by omega) (by omega)), L.r0, Option.bind_some, H.k, Option.bind_some, c_two H w, Option.bind_some, sOkY]
    by_cases c2 : sT2 (sLaid m c) (sLaid m c 0) 0 = none
    · rw [if_pos (by rw [c2]; rfl), decide_eq_true up, decide_eq_true c2, Bool.true_and, Bool.true_and]
      exact c_hold_b69 hd d 0 zF h (sLaid m c) (by omega) (by show d < 5000; omega) w (by rw [sLaid_h m c (by omega) h5]; omega) L H c2 up
    · rw [if_neg (by rw [zno_n (sT2_b w.1)]; exact c2), decide_eq_false c2, Bool.false_and, Bool.false_and]
      exact ⟨h, by rw [zb_f (by simp)]; rfl, H.sh, zFr.rf⟩
  | succ k ih =>
    intro i n h hi hn L H7 H A
    obtain ⟨n, rfl⟩ : ∃ x, n = x + 1 := ⟨n - 1, by omega⟩
    obtain ⟨e, es, H1⟩ := H.pp (by rw [sLdP_n]; exact h5) (i := i) (x := sPc (m 0) c i) (by rw [sLdP_n]; omega)
    have F1 : zFr h (h.set (210 + 3) e) 210 7 := zFr.set (by omega) (by omega)
    rw [e_X2_holds_b21, L.r1, Option.bind_some, H7.f1, Option.bind_some, if_neg (nI_ge (by omega) (by omega)), L.r0, Option.bind_some, H.f8, Option.bind_some, L.r3, Option.bind_some, A.ld (by omega) (by omega), Option.bind_some, es, Option.bind_some, nI_1]
    obtain ⟨h', e1, S1, F2⟩ := ih (i + 1) n (h.set (210 + 3) e) (by omega) (by omega) (L.keep (F1 _ (by omega))) (H7.keep (fun j _ _ => F1 j (by omega))) (by rw [sLdP_s]; exact H1) (A.keep (F1 _ (by omega)))
    exact ⟨h', e1, S1, F1.tr F2⟩
theorem c_hold {h : zH} (G : gM th m) {c d : Nat} (hd : d ≤ 60) (W : iLw h ay mv th dg m) (A : zAr h 224 (m 0) (fun t => sPc (m 0) c t)) : ∃ h', f_X2_holds 209 (nI d) h = some (zb (sOk m d c = true), h') ∧ zFr h h' 210 7 ∧ iLw h' ay mv th dg m := by
  obtain ⟨L, S, H, A0⟩ := W
  have v := G.1
  obtain ⟨h1, e1, H1, F1⟩ := c_become H v.1 G.b S (by omega)
  obtain ⟨h2, e2, S2, F2⟩ := c_hold_b21 v G.2.1 (c := c) hd rfl (m 0) 0 zF h1 (by omega) (by have := v.1; show m 0 < 5000; omega) (L.keep (F1 _ (by omega))) (H.keep (fun j _ _ => F1 j (by omega))) (by rw [sLdP_0]; exact H1) (A.keep (F1 _ (by omega)))
  have F := F1.tr F2
  refine ⟨h2, ?_, F, L.keep (F _ (by omega)), S2, H.keep (fun j _ _ => F j (by omega)), A0.keep (F _ (by omega))⟩
  unfold f_X2_holds
  rw [L.r1, Option.bind_some, H.k, Option.bind_some, c_allUp H v, Option.bind_some, L.r0, Option.bind_some, Option.bind_some, S.k, Option.bind_some, e1, Option.bind_some]
  exact e2
theorem sCm_eq {o : Option Nat} (h : ∀ x, o = some x → x < 1000) {few : Nat} (hf : few < 1000) : (sCm o 0 = nI few) = (o = some few) := by
  cases o with
  | none =>
    refine propext ⟨fun q => ?_, fun q => by cases q⟩
    exact absurd q.symm (show ¬ nI few = (-1000000 : Int32) from zno_ne (by omega))
  | some x =>
    have hx := h x rfl
    show (nI (0 + x) = nI few) = _
    rw [Nat.zero_add, zeq (by omega) (by omega)]
    simp
theorem c_fm_b15 (G : gM th m) {few d : Nat} (hd : d ≤ 60) (hf : few < 1000) : ∀ (k c n : Nat) (h : zH), c + k = 4 ^ m 0 → k < n → iLw h ay mv th dg m → ∃ h', f_X2_findMoving_b15 n 209 (nI few) (nI d) (nI (4 ^ m 0)) (nI c) h = some (zb ((sFind m d few k c).isSome = true), h') ∧ zFL h h' ∧ iLw h' ay mv th dg m ∧ ∀ x, sFind m d few k c = some x → zAr h' 224 (m 0) (fun t => sPc (m 0) x t) := by
  intro k
  have v := G.1
  have h5 := v.1
  have hN : 4 ^ m 0 ≤ 1024 := Nat.le_trans (Nat.pow_le_pow_right (by omega) h5) (by decide)
  induction k with
  | zero =>
    intro c n h hc hn W
    obtain ⟨n, rfl⟩ : ∃ x, n = x + 1 := ⟨n - 1, by omega⟩
    rw [e_X2_findMoving_b15, if_pos (nI_le (by omega) (by omega))]
    exact ⟨h, by rw [sFind, zb_f (by simp)]; rfl, zFL.rf, W, fun x hx => by cases hx⟩
  | succ k ih =>
    intro c n h hc hn W
    obtain ⟨n, rfl⟩ : ∃ x, n = x + 1 := ⟨n - 1, by omega⟩
    obtain ⟨h1, e1, F1, W1, A1⟩ := c_cm v (c := c) (by omega) W
    have F1' : zFL h h1 := fun j _ b => F1 j b
    have bd : ∀ x, sMv m c (m 0) 0 = some x → x < 1000 := fun x hx => by
      have := (sMv_some _ _ _ hx).2
      omega
    rw [e_X2_findMoving_b15, if_neg (nI_ge (by omega) (by omega)), W.1.k, Option.bind_some, e1, Option.bind_some, sFind, nI_1]
    dsimp only
    by_cases q1 : sMv m c (m 0) 0 = some few
    · obtain ⟨h2, e2, F2, W2⟩ := c_hold G (c := c) hd W1 (A1 few q1)
      have F12 := F1'.tr (zFL.of F2)
      rw [if_pos (by rw [sCm_eq bd hf]; exact q1), W1.1.k, Option.bind_some, e2, Option.bind_some]
      dsimp only
      by_cases q2 : sOk m d c = true
      · rw [if_neg (zb_n q2), if_pos ⟨q1, q2⟩]
        refine ⟨h2, by rw [zb_t (by simp)]; rfl, F12, W2, fun x hx => ?_⟩
        cases hx
        exact (A1 few q1).keep (F2 _ (by omega))
      · rw [if_pos (zb_f q2), if_neg (fun q => q2 q.2)]
        obtain ⟨h3, e3, F3, W3, A3⟩ := ih (c + 1) n h2 (by omega) (by omega) W2
        exact ⟨h3, e3, F12.tr F3, W3, A3⟩
    · rw [if_neg (by rw [sCm_eq bd hf]; exact q1), if_neg (fun q => q1 q.1)]
      obtain ⟨h3, e3, F3, W3, A3⟩ := ih (c + 1) n h1 (by omega) (by omega) W1
      exact ⟨h3, e3, F1'.tr F3, W3, A3⟩
theorem zpow4 : ∀ j : Fin 6, (1 : Int32) <<< (((2 : Int32) * nI j.val) &&& 31) = nI (4 ^ j.val) := by decide +kernel
theorem c_fm {h : zH} (G : gM th m) {few d : Nat} (hd : d ≤ 60) (hf : few < 1000) (W : iLw h ay mv th dg m) : ∃ h', f_X2_findMoving 209 (nI few) (nI d) h = some (zb ((sFind m d few (4 ^ m 0) 0).isSome = true), h') ∧ zFL h h' ∧ iLw h' ay mv th dg m ∧ ∀ x, sFind m d few (4 ^ m 0) 0 = some x → zAr h' 224 (m 0) (fun t => sPc (m 0) x t) := by
  have v := G.1
  have h5 := v.1
  have hN : 4 ^ m 0 ≤ 1024 := Nat.le_trans (Nat.pow_le_pow_right (by omega) h5) (by decide)
  obtain ⟨h', e1, q⟩ := c_fm_b15 G hd hf (4 ^ m 0) 0 zF h (by omega) (by show 4 ^ m 0 < 5000; omega) W
  refine ⟨h', ?_, q⟩
  unfold f_X2_findMoving
  rw [W.1.r1, Option.bind_some, W.2.2.1.f1, Option.bind_some, zpow4 ⟨m 0, by omega⟩, zLet_eq]
  exact e1
/-- some years go by -/
theorem c_any_b13 {d : Nat} (hd : d ≤ 60) : ∀ (k i n : Nat) (h : zH) (mm : Nat → Nat), i + k = d → k < n → vM mm → mm 28 + k ≤ 4000 → iLs h ay mv → zMi h 210 th dg mm → ∃ h', f_X2_oneComesUpAnywhere_b13 n 209 (nI d) (nI i) h = f_X2_oneComesUpAnywhere_b34 zF 209 (nI 0) h' ∧ zMi h' 210 th dg (sIt mm k) ∧ zFr h h' 210 7 := by
  intro k
  induction k with
  | zero =>
    intro i n h mm hi hn v hy L H
    obtain ⟨n, rfl⟩ : ∃ x, n = x + 1 := ⟨n - 1, by omega⟩
    rw [e_X2_oneComesUpAnywhere_b13, if_pos (nI_le (by omega) (by omega))]
    exact ⟨h, rfl, H, zFr.rf⟩
  | succ k ih =>
    intro i n h mm hi hn v hy L H
    obtain ⟨n, rfl⟩ : ∃ x, n = x + 1 := ⟨n - 1, by omega⟩
    obtain ⟨h1, e1, H1, F1⟩ := c_year H v
    rw [e_X2_oneComesUpAnywhere_b13, if_neg (nI_ge (by omega) (by omega)), L.r0, Option.bind_some, H.k, Option.bind_some, e1, Option.bind_some, nI_1]
    dsimp only
    obtain ⟨h2, e2, H2, F2⟩ := ih (i + 1) n h1 (sYear mm) (by omega) (by omega) (sYear_v v (by omega)) (by rw [sYear_28]; omega) (L.keep (F1 _ (by omega))) H1
    exact ⟨h2, e2, H2, F1.tr F2⟩
theorem c_any_b34 {h : zH} (v : vM m) {d : Nat} (hy : m 28 + d ≤ 4000) (L : iLs h ay mv) (H7 : zMi h 217 th dg m) (H : zMi h 210 th dg (sIt m d)) : ∀ (k i n : Nat), i + k = m 0 → k < n → f_X2_oneComesUpAnywhere_b34 n 209 (nI i) h = some (zb (sRU m d k i = true), h) := by
  intro k
  have h5 := v.1
  have w := sIt_v d m v (by omega)
  have n0 := sIt_0 d m h5
  induction k with
  | zero =>
    intro i n hi hn
    obtain ⟨n, rfl⟩ : ∃ x, n = x + 1 := ⟨n - 1, by omega⟩
    rw [e_X2_oneComesUpAnywhere_b34, L.r1, Option.bind_some, H7.f1, Option.bind_some, if_pos (nI_le (by omega) (by omega)), sRU, zb_f (by simp)]
    rfl
  | succ k ih =>
    intro i n hi hn
    obtain ⟨n, rfl⟩ : ∃ x, n = x + 1 := ⟨n - 1, by omega⟩
    have im : i < m 0 := by omega
    have hs := (v.2.2.2.2 i im).1
    rw [e_X2_oneComesUpAnywhere_b34, L.r1, Option.bind_some, H7.f1, Option.bind_some, if_neg (nI_ge (by omega) (by omega)), Option.bind_some, H7.f6, Option.bind_some, H7.so v im, Option.bind_some, nI_1, ih (i + 1) n (by omega) (by omega), sRU]
    by_cases c1 : m (3 + i) = 2
    · rw [if_pos (by rw [c1]; rfl), decide_eq_false (show ¬ m (3 + i) ≠ 2 from fun q => q c1), Bool.false_and, Bool.false_and, Bool.false_or]
    · rw [if_neg (zne2 c1 (by omega)), Option.bind_some, H7.k, Option.bind_some, c_isUp H7 v im, Option.bind_some, decide_eq_true (show m (3 + i) ≠ 2 from c1), Bool.true_and]
      by_cases c2 : m (13 + i) = 0
      · rw [if_neg (zb_n c2), decide_eq_false (show ¬ m (13 + i) ≠ 0 from fun q => q c2), Bool.false_and, Bool.false_or]
      · rw [if_pos (zb_f c2), L.r0, Option.bind_some, H.k, Option.bind_some, c_isUp H w (by rw [n0]; exact im), Option.bind_some, decide_eq_true (show m (13 + i) ≠ 0 from c2), Bool.true_and]
        by_cases c3 : sIt m d (13 + i) = 0
        · rw [if_neg (zb_n c3), decide_eq_true c3, Bool.true_or, zb_t rfl]
          rfl
        · rw [if_pos (zb_f c3), decide_eq_false c3, Bool.false_or]
theorem c_any {h : zH} (G : gM th m) {d : Nat} (hd : d ≤ 60) (W : iLw h ay mv th dg m) : ∃ h', f_X2_oneComesUpAnywhere 209 (nI d) h = some (zb (sRU m d (m 0) 0 = true), h') ∧ zFr h h' 210 7 ∧ iLw h' ay mv th dg m := by
  obtain ⟨L, S, H, A⟩ := W
  have v := G.1
  have h5 := v.1
  have hy := G.2.1
  obtain ⟨h1, e1, H1, F1⟩ := c_become H v.1 G.b S (by omega)
  obtain ⟨h2, e2, H2, F2⟩ := c_any_b13 hd d 0 zF h1 m (by omega) (by show d < 5000; omega) v (by omega) (L.keep (F1 _ (by omega))) H1
  have F := F1.tr F2
  have L2 := L.keep (F _ (by omega))
  have H7 : zMi h2 217 th dg m := H.keep (fun j _ _ => F j (by omega))
  refine ⟨h2, ?_, F, L2, H2.sh, H7, A.keep (F _ (by omega))⟩
  unfold f_X2_oneComesUpAnywhere
  rw [L.r0, Option.bind_some, L.r1, Option.bind_some, S.k, Option.bind_some, e1, Option.bind_some]
  exact e2.trans (c_any_b34 v (by omega) L2 H7 H2 (m 0) 0 zF (by omega) (by show m 0 < 5000; omega))
theorem c_find_b50 (G : gM th m) {d : Nat} (hd : d ≤ 60) {th0 dg0 : Int32} {m0 : Nat → Nat} (e0 : m0 0 = m 0) : ∀ (k few n : Nat) (h : zH), few + k = m 0 + 1 → k + 1 < n → iLw h ay (-1000000) th dg m → zMi h 15 th0 dg0 m0 → ∃ h', f_X2_find_b50 n 209 15 (nI d) (nI few) h = some h' ∧ (∀ j, (j < 209 ∨ 216 < j) → j ≠ 224 → h'[j]? = h[j]?) ∧ iLw h' ay (sLayN (sFew m d k few)) th dg m ∧ ∀ f x, sFew m d k few = some (f, x) → zAr h' 224 (m 0) (fun t => sPc (m 0) x t) := by
  intro k
  have v := G.1
  have h5 := v.1
  induction k with
  | zero =>
    intro few n h hf hn W N
    obtain ⟨n, rfl⟩ : ∃ x, n = x + 1 := ⟨n - 1, by omega⟩
    rw [e_X2_find_b50, N.f1, e0, Option.bind_some, if_pos (nI_lt (by omega) (by omega))]
    exact ⟨h, rfl, fun _ _ _ => rfl, W, fun f x q => by cases q⟩
  | succ k ih =>
    intro few n h hf hn W N
    obtain ⟨n, rfl⟩ : ∃ x, n = x + 1 := ⟨n - 1, by omega⟩
    obtain ⟨h1, e1, F1, W1, A1⟩ := c_fm G (few := few) hd (by omega) W
    have N1 : zMi h1 15 th0 dg0 m0 := N.keep (fun j _ _ => F1 j (by omega) (by omega))
    rw [e_X2_find_b50, N.f1, e0, Option.bind_some, if_neg (nI_nlt (by omega) (by omega)), W.1.i4, Option.bind_some, if_pos rfl, W.1.k, Option.bind_some, e1, Option.bind_some, nI_1, sFew]
    dsimp only
    cases hs : sFind m d few (4 ^ m 0) 0 with
    | none =>
      rw [if_pos (zb_f (by simp))]
      obtain ⟨h2, e2, F2, W2, A2⟩ := ih (few + 1) n h1 (by omega) (by omega) W1 N1
      exact ⟨h2, e2, fun j a b => (F2 j a b).trans (F1 j (by omega) b), W2, A2⟩
    | some c =>
      rw [if_neg (zb_n (by simp))]
      obtain ⟨x, ex, L2⟩ := W1.1.p4 (nI few)
      obtain ⟨n, rfl⟩ : ∃ x, n = x + 1 := ⟨n - 1, by omega⟩
      have N2 : zMi (h1.set 209 x) 15 th0 dg0 m0 := N1.keep (fun j _ _ => zset_ne (by omega))
      have A2 : zAr (h1.set 209 x) 224 (m 0) (fun t => sPc (m 0) c t) := (A1 c hs).keep (zset_ne (by omega))
      rw [ex, Option.bind_some, e_X2_find_b50, N2.f1, e0, Option.bind_some, L2.i4, Option.bind_some, if_neg (show ¬ nI few = (-1000000 : Int32) from zno_ne (by omega)), ite_self]
      refine ⟨_, rfl, fun j a b => (zset_ne (by omega)).trans (F1 j (by omega) b), ⟨L2, W1.2.1.keep (fun j _ _ => zset_ne (by omega)), W1.2.2.1.keep (fun j _ _ => zset_ne (by omega)), W1.2.2.2.keep (zset_ne (by omega))⟩, fun f y q => ?_⟩
      have e2 : c = y := congrArg Prod.snd (Option.some.inj q)
      subst e2
      exact A2
/-- does one mine foretell as another one? -/
theorem c_like_b37 {h : zH} {r r' : Nat} {th' dg' : Int32} {m' : Nat → Nat} (H : zMi h r th dg m) (H' : zMi h r' th' dg' m') (v : vM m) (v' : vM m') (e0 : m 0 = m' 0) : ∀ (k i n : Nat), i + k = m 0 → k < n → ∃ b : Bool, f_X3_foretellsLike_b37 h n r r' (nI i) = some (zb (b = true)) ∧ (b = true → ∀ t, i ≤ t → t < m 0 → m (3 + t) = m' (3 + t) ∧ m (13 + t) = m' (13 + t) ∧ m (18 + t) = m' (18 + t) ∧ m (8 + t) = m' (8 + t)) := by
  intro k
  have h5 := v.1
  induction k with
  | zero =>
    intro i n hi hn
    obtain ⟨n, rfl⟩ : ∃ x, n = x + 1 := ⟨n - 1, by omega⟩
    rw [e_X3_foretellsLike_b37, H.f1, Option.bind_some, if_pos (nI_le (by omega) (by omega))]
    exact ⟨true, by rw [zb_t rfl]; rfl, fun _ t h1 h2 => by omega⟩
  | succ k ih =>
    intro i n hi hn
    obtain ⟨n, rfl⟩ : ∃ x, n = x + 1 := ⟨n - 1, by omega⟩
    have im : i < m 0 := by omega
    have im' : i < m' 0 := by omega
    obtain ⟨⟨a1, a2⟩, ⟨a3, a4⟩, a5, a6, -⟩ := v.2.2.2.2 i im
    obtain ⟨⟨b1, b2⟩, ⟨b3, b4⟩, b5, b6, -⟩ := v'.2.2.2.2 i im'
    rw [e_X3_foretellsLike_b37, H.f1, Option.bind_some, if_neg (nI_ge (by omega) (by omega)), H.f6, Option.bind_some, H.so v im, Option.bind_some, H'.f6, Option.bind_some, H'.so v' im', Option.bind_some, H.f7, Option.bind_some, H.de v im, Option.bind_some, H'.f7, Option.bind_some, H'.de v' im', Option.bind_some, H.f8, Option.bind_some, H.pl v im, Option.bind_some, H'.f8, Option.bind_some, H'.pl v' im', Option.bind_some, H.f9, Option.bind_some, H.sl v im, Option.bind_some, H'.f9, Option.bind_some, H'.sl v' im', Option.bind_some, nI_1]
    have no : ∃ b : Bool, zB (0 : Int32) = some (zb (b = true)) ∧ (b = true → ∀ t, i ≤ t → t < m 0 → m (3 + t) = m' (3 + t) ∧ m (13 + t) = m' (13 + t) ∧ m (18 + t) = m' (18 + t) ∧ m (8 + t) = m' (8 + t)) := ⟨false, by rw [zb_f (by simp)]; rfl, fun q => by cases q⟩
    by_cases c1 : m (3 + i) = m' (3 + i)
    · rw [if_pos (by rw [c1])]
      by_cases c2 : m (13 + i) = m' (13 + i)
      · rw [if_pos (by rw [c2])]
        by_cases c3 : m (18 + i) = m' (18 + i)
        · rw [if_pos (by rw [c3])]
          by_cases c4 : m (8 + i) = m' (8 + i)
          · rw [if_pos (by rw [c4])]
            obtain ⟨b, e1, q⟩ := ih (i + 1) n (by omega) (by omega)
            refine ⟨b, e1, fun hb t h1 h2 => ?_⟩
            by_cases z : t = i
            · rw [z]
              exact ⟨c1, c2, c3, c4⟩
            · exact q hb t (by omega) h2
          · rw [if_neg (zne c4 (by omega) (by omega))]
            exact no
        · rw [if_neg (zne c3 (by omega) (by omega))]
          exact no
      · rw [if_neg (zne c2 (by omega) (by omega))]
        exact no
    · rw [if_neg (zne c1 (by omega) (by omega))]
      exact no
theorem c_like {h : zH} {r r' : Nat} {th' dg' : Int32} {m' : Nat → Nat} (H : zMi h r th dg m) (H' : zMi h r' th' dg' m') (v : vM m) (v' : vM m') : ∃ b : Bool, f_X3_foretellsLike r r' h = some (zb (b = true)) ∧ (b = true → sEq m m') := by
  have h5 := v.1
  have h5' := v'.1
  have no : ∃ b : Bool, zB (0 : Int32) = some (zb (b = true)) ∧ (b = true → sEq m m') := ⟨false, by rw [zb_f (by simp)]; rfl, fun q => by cases q⟩
  unfold f_X3_foretellsLike
  rw [H.f1, Option.bind_some, H'.f1, Option.bind_some, H.f3, Option.bind_some, H'.f3, Option.bind_some, H.f4, Option.bind_some, H'.f4, Option.bind_some]
  have a1 := v.2.1
  have b1 := v'.2.1
  have a2 := v.2.2.2.1
  have b2 := v'.2.2.2.1
  by_cases c1 : m 0 = m' 0
  · rw [if_pos (by rw [c1])]
    by_cases c2 : m 1 = m' 1
    · rw [if_pos (by rw [c2])]
      by_cases c3 : m 28 = m' 28
      · rw [if_pos (by rw [c3])]
        obtain ⟨b, e1, q⟩ := c_like_b37 H H' v v' c1 (m 0) 0 zF (by omega) (by show m 0 < 5000; omega)
        refine ⟨b, e1, fun hb => ⟨c3, ⟨c1, c2, fun t ht => ?_⟩, fun t ht => ?_⟩⟩
        · obtain ⟨x1, x2, x3, x4⟩ := q hb t (by omega) ht
          exact ⟨x2, x3⟩
        · obtain ⟨x1, x2, x3, x4⟩ := q hb t (by omega) ht
          exact ⟨x1, x4⟩
      · rw [if_neg (zne c3 (by omega) (by omega))]
        exact no
    · rw [if_neg (zne c2 (by omega) (by omega))]
      exact no
  · rw [if_neg (zne c1 (by omega) (by omega))]
    exact no
/-- what the layer has found -/
def iLd (h : zH) (m : Nat → Nat) (d : Nat) : Prop := ∃ ay : Int32, iLs h ay (sLayN (sLay m d)) ∧ ∀ f x, sLay m d = some (f, x) → zAr h 224 (m 0) (fun t => sPc (m 0) x t)
theorem c_find_b20 {h : zH} (G : gM th m) {d : Nat} (hd : d ≤ 60) (L : iL h) (N : zMi h 15 th dg m) : ∃ h', f_X2_find_b20 209 15 (nI d) h = some h' ∧ (∀ j, (j < 209 ∨ 224 < j) → h'[j]? = h[j]?) ∧ iL h' ∧ iLd h' m d := by
  have v := G.1
  obtain ⟨ay, f, th', dg', m', mv, h1, h2, h3, h4, h5, -⟩ := L
  have L1 : iLs h ay mv := h1
  obtain ⟨k1, e1, H1, F1⟩ := c_become N v.1 G.b h3.sh (by omega)
  have L2 : iLs k1 ay mv := L1.keep (F1 _ (by omega))
  obtain ⟨x2, e2, L3⟩ := L2.p2 (nI d)
  obtain ⟨x3, e3, L4⟩ := L3.p4 (-1000000)
  generalize hk : ((k1.set 209 x2).set 209 x3 : zH) = k4 at e3 L4
  have F4 : ∀ j, (j < 209 ∨ 224 ≤ j ∨ (210 ≤ j ∧ j < 217)) → k4[j]? = h[j]? := fun j hj => by
    rw [← hk, zset_ne (by omega), zset_ne (by omega)]
    exact F1 j (by omega)
  have W4 : iLw k4 (nI d) (-1000000) th dg m := by
    refine ⟨L4, h2.keep (fun j _ _ => F4 j (by omega)), ?_, f, (F4 _ (by omega)).trans h5, fun t ht => by omega⟩
    rw [← hk]
    exact H1.keep (fun j _ _ => by rw [zset_ne (by omega), zset_ne (by omega)])
  have N4 : zMi k4 15 th dg m := N.keep (fun j _ _ => F4 j (by omega))
  obtain ⟨k5, e5, F5, W5⟩ := c_any G hd W4
  have N5 : zMi k5 15 th dg m := N4.keep (fun j _ _ => F5 j (by omega))
  have fin : ∀ k6 : zH, (∀ j, (j < 209 ∨ 224 < j) → k6[j]? = h[j]?) → iLw k6 (nI d) (sLayN (sLay m d)) th dg m → (∀ f x, sLay m d = some (f, x) → zAr k6 224 (m 0) (fun t => sPc (m 0) x t)) → (∀ j, (j < 209 ∨ 224 < j) → k6[j]? = h[j]?) ∧ iL k6 ∧ iLd k6 m d := by
    intro k6 F6 W6 A6
    obtain ⟨w1, w2, w3, g, w4, -⟩ := W6
    refine ⟨F6, ⟨nI d, g, th, dg, m, _, w1, w2, w3, G, w4, Or.inr ⟨d, hd, rfl, rfl, fun few c q t ht => ?_⟩⟩, nI d, w1, A6⟩
    obtain ⟨g', w5, w6⟩ := A6 few c q
    have e : g = g' := Sum.inl.inj (congrArg (fun x : Nat × Nat × ((Nat → Int32) ⊕ (Nat → Option Nat)) => x.2.2) (Sum.inl.inj (Option.some.inj (w4.symm.trans w5))))
    rw [e]
    exact w6 t ht
  unfold f_X2_find_b20
  rw [L1.r1, Option.bind_some, h3.k, Option.bind_some, e1, Option.bind_some, e2, Option.bind_some, e3, Option.bind_some, L4.k, Option.bind_some, e5, Option.bind_some]
  dsimp only
  by_cases c : sRU m d (m 0) 0 = true
  · rw [if_neg (zb_n c)]
    have no := sRU_lay v.1 c
    refine ⟨k5, rfl, fin k5 (fun j hj => (F5 j (by omega)).trans (F4 j (by omega))) (by rw [no]; exact W5) (fun f x q => ?_)⟩
    rw [no] at q
    cases q
  · rw [if_pos (zb_f c)]
    have h50 := v.1
    obtain ⟨k6, e6, F6, W6, A6⟩ := c_find_b50 G hd (m0 := m) rfl (m 0 + 1) 0 zF k5 (by omega) (by show m 0 + 1 + 1 < 5000; omega) W5 N5
    exact ⟨k6, e6, fin k6 (fun j hj => (F6 j (by omega) (by omega)).trans ((F5 j (by omega)).trans (F4 j (by omega)))) W6 A6⟩
theorem c_find {h : zH} (G : gM th m) {d : Nat} (hd : d ≤ 60) (L : iL h) (N : zMi h 15 th dg m) : ∃ h', f_X2_find 209 15 (nI d) h = some h' ∧ (∀ j, (j < 209 ∨ 224 < j) → h'[j]? = h[j]?) ∧ iL h' ∧ iLd h' m d := by
  have L0 := L
  obtain ⟨ay, f, th', dg', m', mv, h1, h2, h3, h4, h5, h6⟩ := L
  have L1 : iLs h ay mv := h1
  unfold f_X2_find
  rw [L1.i2, Option.bind_some]
  by_cases c : nI d = ay
  · obtain ⟨b, e1, q⟩ := c_like h3 N h4.1 G.1
    rw [if_pos c, L1.r1, Option.bind_some, h3.k, Option.bind_some, e1, Option.bind_some]
    by_cases cb : b = true
    · rw [if_neg (zb_n cb)]
      have E := q cb
      have en := sLay_cg E h4.1.1 d
      have dn : ¬ ay = -1 := by
        rw [← c]
        intro z
        have := nI_pos' (n := d) (by omega)
        rw [z] at this
        exact absurd this (by decide)
      rcases h6 with h6 | ⟨d', hd', ed, em, er⟩
      · exact absurd h6 dn
      · have e2 : d' = d := by
          rw [← c, zeq (by omega) (by omega)] at ed
          exact ed.symm
        subst e2
        refine ⟨h, rfl, fun _ _ => rfl, L0, ay, ?_, fun f' x hx => ⟨f, h5, fun t ht => ?_⟩⟩
        · rw [← en, ← em]
          exact L1
        · rw [← en] at hx
          rw [← E.2.1.1] at ht
          rw [er f' x hx t ht, E.2.1.1]
    · rw [if_pos (zb_f cb)]
      exact c_find_b20 G hd L0 N
  · rw [if_neg c]
    exact c_find_b20 G hd L0 N
end LAYER
