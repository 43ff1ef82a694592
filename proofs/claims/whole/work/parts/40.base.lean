/-! PURE: numbers, what an operation answers where the heap is known -/
theorem z0 : (0 : Int32) = nI 0 := rfl
theorem z1 : (1 : Int32) = nI 1 := rfl
theorem z2 : (2 : Int32) = nI 2 := rfl
theorem z3 : (3 : Int32) = nI 3 := rfl
theorem z4 : (4 : Int32) = nI 4 := rfl
theorem z5 : (5 : Int32) = nI 5 := rfl
theorem z6 : (6 : Int32) = nI 6 := rfl
theorem z7 : (7 : Int32) = nI 7 := rfl
theorem z8 : (8 : Int32) = nI 8 := rfl
theorem z9 : (9 : Int32) = nI 9 := rfl
theorem z10 : (10 : Int32) = nI 10 := rfl
theorem z13 : (13 : Int32) = nI 13 := rfl
theorem z18 : (18 : Int32) = nI 18 := rfl
theorem z23 : (23 : Int32) = nI 23 := rfl
theorem z28 : (28 : Int32) = nI 28 := rfl
theorem z29 : (29 : Int32) = nI 29 := rfl
theorem z30 : (30 : Int32) = nI 30 := rfl
theorem zle {a b : Nat} (ha : a < 2147483648) (hb : b < 2147483648) : (nI a ≤ nI b) = (a ≤ b) := propext (nI_leI ha hb)
theorem zlt {a b : Nat} (ha : a < 2147483648) (hb : b < 2147483648) : (nI a < nI b) = (a < b) := propext (nI_ltI ha hb)
theorem zeq {a b : Nat} (ha : a < 2147483648) (hb : b < 2147483648) : (nI a = nI b) = (a = b) := propext (nI_eq ha hb)
theorem zB0 : zB (0 : Int32) = some 0 := rfl
theorem zB1 : zB (1 : Int32) = some 1 := rfl
/-- the number of a truth -/
def zb (p : Prop) [Decidable p] : Int32 := if p then 1 else 0
theorem zb_t {p : Prop} [Decidable p] (h : p) : zb p = 1 := if_pos h
theorem zb_f {p : Prop} [Decidable p] (h : ¬ p) : zb p = 0 := if_neg h
theorem zb_0 {p : Prop} [Decidable p] : (zb p = 0) = ¬ p := by
  by_cases h : p
  · rw [zb_t h]; simp [h]
  · rw [zb_f h]; simp [h]
theorem zb_B {p : Prop} [Decidable p] : zB (zb p) = some (zb p) := by
  by_cases h : p
  · rw [zb_t h]; rfl
  · rw [zb_f h]; rfl
theorem zb_c {p q : Prop} [Decidable p] [Decidable q] (h : p ↔ q) : zb p = zb q := by
  by_cases hp : p
  · rw [zb_t hp, zb_t (h.mp hp)]
  · rw [zb_f hp, zb_f (fun x => hp (h.mpr x))]
theorem zI_of {h : zH} {r ci k : Nat} {fs : List Value} {v : Int32} (he : h[r]? = some (.inr (ci, fs))) (hv : fs[k]? = some (.int v)) : zI h r ci k = some v := by
  simp [zI, he, hv]
theorem zR_of {h : zH} {r ci k : Nat} {fs : List Value} {v : Nat} (he : h[r]? = some (.inr (ci, fs))) (hv : fs[k]? = some (.ref v)) : zR h r ci k = some v := by
  simp [zR, he, hv]
theorem zP_of {h : zH} {r ci k : Nat} {fs : List Value} {v : Value} (he : h[r]? = some (.inr (ci, fs))) (hk : k < fs.length) : zP h r ci k v = some (h.set r (.inr (ci, fs.set k v))) := by
  simp [zP, he, hk]
theorem zK_of {h : zH} {r ci : Nat} {fs : List Value} (he : h[r]? = some (.inr (ci, fs))) : zK h r ci = some () := by
  simp [zK, he]
theorem zin {t n : Nat} (ht : t < n) (hn : n < 2147483648) : ¬ (nI t < 0 ∨ n ≤ (nI t).toNatClampNeg) := nI_in ht hn
theorem zL_of {h : zH} {t r n j : Nat} {f : Nat → Int32} (he : h[r]? = some (.inl (t, n, .inl f))) (hj : j < n) (hn : n < 2147483648) : zL h t r (nI j) = some (f j) := by
  have h1 := zin hj hn
  have h2 : (nI j).toNatClampNeg = j := nI_clamp (Nat.lt_trans hj hn)
  unfold zL
  rw [he]
  show (if t = t ∧ ¬ (nI j < 0 ∨ n ≤ (nI j).toNatClampNeg) then some (f (nI j).toNatClampNeg) else none) = _
  rw [if_pos ⟨rfl, h1⟩, h2]
theorem zS_of {h : zH} {t r n j : Nat} {f : Nat → Int32} {x : Int32} (he : h[r]? = some (.inl (t, n, .inl f))) (hj : j < n) (hn : n < 2147483648) : zS h t r (nI j) x = some (h.set r (.inl (t, n, .inl (upd f j x)))) := by
  have h1 := zin hj hn
  have h2 : (nI j).toNatClampNeg = j := nI_clamp (Nat.lt_trans hj hn)
  unfold zS
  rw [he]
  show (if t = t ∧ ¬ (nI j < 0 ∨ n ≤ (nI j).toNatClampNeg) then some (h.set r (.inl (t, n, .inl (upd f (nI j).toNatClampNeg x)))) else none) = _
  rw [if_pos ⟨rfl, h1⟩, h2]
theorem zLr_of {h : zH} {t r n j v : Nat} {g : Nat → Option Nat} (he : h[r]? = some (.inl (t, n, .inr g))) (hj : j < n) (hn : n < 2147483648) (hv : g j = some v) : zLr h t r (nI j) = some v := by
  have h1 := zin hj hn
  have h2 : (nI j).toNatClampNeg = j := nI_clamp (Nat.lt_trans hj hn)
  unfold zLr
  rw [he]
  show (if t = t ∧ ¬ (nI j < 0 ∨ n ≤ (nI j).toNatClampNeg) then g (nI j).toNatClampNeg else none) = _
  rw [if_pos ⟨rfl, h1⟩, h2, hv]
theorem zset_ne {h : zH} {r k : Nat} {e : zE} (hk : k ≠ r) : (h.set r e)[k]? = h[k]? := List.getElem?_set_ne (Ne.symm hk)
theorem zset_eq {h : zH} {r : Nat} {e e0 : zE} (he : h[r]? = some e0) : (h.set r e)[r]? = some e := List.getElem?_set_self (List.getElem?_eq_some_iff.mp he).1
/-! A MINE, by natural numbers: things 0, near 1, men 2, sorts from 3, slows from 8, depths from 13, places from 18, who knows from 23, the year 28 -/
def vM (m : Nat → Nat) : Prop := m 0 ≤ 5 ∧ m 1 ≤ 9 ∧ m 2 ≤ 6 ∧ m 28 ≤ 5000 ∧ ∀ t, t < m 0 → (1 ≤ m (3 + t) ∧ m (3 + t) ≤ 5) ∧ (1 ≤ m (8 + t) ∧ m (8 + t) ≤ 9) ∧ m (13 + t) ≤ 40 ∧ m (18 + t) ≤ 3 ∧ m (23 + t) < 64
/-- a row of five numbers of the class, known up to N -/
def zAr (h : zH) (k N : Nat) (g : Nat → Nat) : Prop := ∃ f, h[k]? = some (.inl (0, 5, .inl f)) ∧ ∀ t, t < N → f t = nI (g t)
theorem zAr.ld {h : zH} {k N : Nat} {g : Nat → Nat} (H : zAr h k N g) {t : Nat} (ht : t < N) (h5 : t < 5) : zL h 0 k (nI t) = some (nI (g t)) := by
  obtain ⟨f, he, hf⟩ := H
  rw [zL_of he h5 (by omega), hf t ht]
theorem zAr.keep {h h' : zH} {k N : Nat} {g : Nat → Nat} (H : zAr h k N g) (e : h'[k]? = h[k]?) : zAr h' k N g := by
  obtain ⟨f, he, hf⟩ := H
  exact ⟨f, by rw [e]; exact he, hf⟩
/-- the class's mine at the place r -/
def zMi (h : zH) (r : Nat) (th dg : Int32) (m : Nat → Nat) : Prop :=
  h[r]? = some (.inr (3, [.int th, .int (nI (m 0)), .int (nI (m 2)), .int (nI (m 1)), .int (nI (m 28)), .int dg, .ref (r + 1), .ref (r + 2), .ref (r + 3), .ref (r + 4), .ref (r + 5), .ref (r + 6)])) ∧
  zAr h (r + 1) (m 0) (fun t => m (3 + t)) ∧ zAr h (r + 2) (m 0) (fun t => m (13 + t)) ∧ zAr h (r + 3) (m 0) (fun t => m (18 + t)) ∧ zAr h (r + 4) (m 0) (fun t => m (8 + t)) ∧ zAr h (r + 5) (m 0) (fun t => m (23 + t)) ∧ zAr h (r + 6) 0 (fun _ => 0)
theorem zMi.keep {h h' : zH} {r : Nat} {th dg : Int32} {m : Nat → Nat} (H : zMi h r th dg m) (e : ∀ k, r ≤ k → k < r + 7 → h'[k]? = h[k]?) : zMi h' r th dg m := by
  obtain ⟨h0, h1, h2, h3, h4, h5, h6⟩ := H
  exact ⟨by rw [e r (by omega) (by omega)]; exact h0, h1.keep (e _ (by omega) (by omega)), h2.keep (e _ (by omega) (by omega)), h3.keep (e _ (by omega) (by omega)), h4.keep (e _ (by omega) (by omega)), h5.keep (e _ (by omega) (by omega)), h6.keep (e _ (by omega) (by omega))⟩
section ZMI
variable {h : zH} {r : Nat} {th dg : Int32} {m : Nat → Nat}
theorem zMi.k (H : zMi h r th dg m) : zK h r 3 = some () := zK_of H.1
theorem zMi.f0 (H : zMi h r th dg m) : zI h r 3 0 = some th := zI_of H.1 rfl
theorem zMi.f1 (H : zMi h r th dg m) : zI h r 3 1 = some (nI (m 0)) := zI_of H.1 rfl
theorem zMi.f2 (H : zMi h r th dg m) : zI h r 3 2 = some (nI (m 2)) := zI_of H.1 rfl
theorem zMi.f3 (H : zMi h r th dg m) : zI h r 3 3 = some (nI (m 1)) := zI_of H.1 rfl
theorem zMi.f4 (H : zMi h r th dg m) : zI h r 3 4 = some (nI (m 28)) := zI_of H.1 rfl
theorem zMi.f5 (H : zMi h r th dg m) : zI h r 3 5 = some dg := zI_of H.1 rfl
theorem zMi.f6 (H : zMi h r th dg m) : zR h r 3 6 = some (r + 1) := zR_of H.1 rfl
theorem zMi.f7 (H : zMi h r th dg m) : zR h r 3 7 = some (r + 2) := zR_of H.1 rfl
theorem zMi.f8 (H : zMi h r th dg m) : zR h r 3 8 = some (r + 3) := zR_of H.1 rfl
theorem zMi.f9 (H : zMi h r th dg m) : zR h r 3 9 = some (r + 4) := zR_of H.1 rfl
theorem zMi.f10 (H : zMi h r th dg m) : zR h r 3 10 = some (r + 5) := zR_of H.1 rfl
theorem zMi.f11 (H : zMi h r th dg m) : zR h r 3 11 = some (r + 6) := zR_of H.1 rfl
theorem zMi.so (H : zMi h r th dg m) (v : vM m) {t : Nat} (ht : t < m 0) : zL h 0 (r + 1) (nI t) = some (nI (m (3 + t))) := H.2.1.ld ht (by have := v.1; omega)
theorem zMi.de (H : zMi h r th dg m) (v : vM m) {t : Nat} (ht : t < m 0) : zL h 0 (r + 2) (nI t) = some (nI (m (13 + t))) := H.2.2.1.ld ht (by have := v.1; omega)
theorem zMi.pl (H : zMi h r th dg m) (v : vM m) {t : Nat} (ht : t < m 0) : zL h 0 (r + 3) (nI t) = some (nI (m (18 + t))) := H.2.2.2.1.ld ht (by have := v.1; omega)
theorem zMi.sl (H : zMi h r th dg m) (v : vM m) {t : Nat} (ht : t < m 0) : zL h 0 (r + 4) (nI t) = some (nI (m (8 + t))) := H.2.2.2.2.1.ld ht (by have := v.1; omega)
theorem zMi.kn (H : zMi h r th dg m) (v : vM m) {t : Nat} (ht : t < m 0) : zL h 0 (r + 5) (nI t) = some (nI (m (23 + t))) := H.2.2.2.2.2.1.ld ht (by have := v.1; omega)
end ZMI
/-- the reference's mine: a row of thirty at the place q -/
def zAg (f : Nat → Int32) (dg : Int32) (m : Nat → Nat) : Prop := f 0 = nI (m 0) ∧ f 1 = nI (m 1) ∧ f 2 = nI (m 2) ∧ f 28 = nI (m 28) ∧ f 29 = dg ∧ ∀ t, t < m 0 → f (3 + t) = nI (m (3 + t)) ∧ f (8 + t) = nI (m (8 + t)) ∧ f (13 + t) = nI (m (13 + t)) ∧ f (18 + t) = nI (m (18 + t)) ∧ f (23 + t) = nI (m (23 + t))
def zMo (h : zH) (q : Nat) (dg : Int32) (m : Nat → Nat) : Prop := ∃ f, h[q]? = some (.inl (0, 30, .inl f)) ∧ zAg f dg m
theorem zMo.keep {h h' : zH} {q : Nat} {dg : Int32} {m : Nat → Nat} (H : zMo h q dg m) (e : h'[q]? = h[q]?) : zMo h' q dg m := by
  obtain ⟨f, he, hf⟩ := H
  exact ⟨f, by rw [e]; exact he, hf⟩
section ZMO
variable {h : zH} {q : Nat} {dg : Int32} {m : Nat → Nat}
theorem zMo.f0 (H : zMo h q dg m) : zL h 0 q (0 : Int32) = some (nI (m 0)) := by
  obtain ⟨f, he, hf⟩ := H
  rw [z0, zL_of he (by omega) (by omega), hf.1]
theorem zMo.f1 (H : zMo h q dg m) : zL h 0 q (1 : Int32) = some (nI (m 1)) := by
  obtain ⟨f, he, hf⟩ := H
  rw [z1, zL_of he (by omega) (by omega), hf.2.1]
theorem zMo.f2 (H : zMo h q dg m) : zL h 0 q (2 : Int32) = some (nI (m 2)) := by
  obtain ⟨f, he, hf⟩ := H
  rw [z2, zL_of he (by omega) (by omega), hf.2.2.1]
theorem zMo.f28 (H : zMo h q dg m) : zL h 0 q (28 : Int32) = some (nI (m 28)) := by
  obtain ⟨f, he, hf⟩ := H
  rw [z28, zL_of he (by omega) (by omega), hf.2.2.2.1]
theorem zMo.f29 (H : zMo h q dg m) : zL h 0 q (29 : Int32) = some dg := by
  obtain ⟨f, he, hf⟩ := H
  rw [z29, zL_of he (by omega) (by omega), hf.2.2.2.2.1]
theorem zMo.so (H : zMo h q dg m) (v : vM m) {t : Nat} (ht : t < m 0) : zL h 0 q ((3 : Int32) + nI t) = some (nI (m (3 + t))) := by
  obtain ⟨f, he, hf⟩ := H
  have := v.1
  rw [z3, nI_add, zL_of he (by omega) (by omega), (hf.2.2.2.2.2 t ht).1]
theorem zMo.sl (H : zMo h q dg m) (v : vM m) {t : Nat} (ht : t < m 0) : zL h 0 q ((8 : Int32) + nI t) = some (nI (m (8 + t))) := by
  obtain ⟨f, he, hf⟩ := H
  have := v.1
  rw [z8, nI_add, zL_of he (by omega) (by omega), (hf.2.2.2.2.2 t ht).2.1]
theorem zMo.de (H : zMo h q dg m) (v : vM m) {t : Nat} (ht : t < m 0) : zL h 0 q ((13 : Int32) + nI t) = some (nI (m (13 + t))) := by
  obtain ⟨f, he, hf⟩ := H
  have := v.1
  rw [z13, nI_add, zL_of he (by omega) (by omega), (hf.2.2.2.2.2 t ht).2.2.1]
theorem zMo.pl (H : zMo h q dg m) (v : vM m) {t : Nat} (ht : t < m 0) : zL h 0 q ((18 : Int32) + nI t) = some (nI (m (18 + t))) := by
  obtain ⟨f, he, hf⟩ := H
  have := v.1
  rw [z18, nI_add, zL_of he (by omega) (by omega), (hf.2.2.2.2.2 t ht).2.2.2.1]
theorem zMo.kn (H : zMo h q dg m) (v : vM m) {t : Nat} (ht : t < m 0) : zL h 0 q ((23 : Int32) + nI t) = some (nI (m (23 + t))) := by
  obtain ⟨f, he, hf⟩ := H
  have := v.1
  rw [z23, nI_add, zL_of he (by omega) (by omega), (hf.2.2.2.2.2 t ht).2.2.2.2]
end ZMO
