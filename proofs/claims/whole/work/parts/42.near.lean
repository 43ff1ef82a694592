/-! PURE: up, too near, by the reference; near to one, the first two, by both -/
theorem zdist_c (a b : Nat) : zdist a b = zdist b a := by
  unfold zdist
  split <;> split <;> omega
theorem sTNb_c (m : Nat → Nat) (a b : Nat) : sTNb m a b = sTNb m b a := by
  unfold sTNb
  rw [zdist_c (m (18 + a)), zdist_c (m (13 + a)), Bool.and_comm (decide (m (13 + a) ≠ 0))]
theorem zor0 (a : Int32) : a ||| (0 : Int32) = a := Int32.or_zero
section LOOK8
variable {h : zH} {q : Nat} {dg : Int32} {m : Nat → Nat}
theorem r_lies (H : zMo h q dg m) (v : vM m) {t : Nat} (ht : t < m 0) : f_X8_lies q (nI t) h = some (zb (¬ m (13 + t) = 0)) := by
  have hd := (v.2.2.2.2 t ht).2.2.1
  unfold f_X8_lies
  rw [H.de v ht, Option.bind_some]
  by_cases e : m (13 + t) = 0
  · rw [if_pos (by rw [e]; decide), zb_f (by simpa using e)]; rfl
  · rw [if_neg (nI_nle (by omega) (by omega)), zb_t e]; rfl
theorem r_upOf_b4 (H : zMo h q dg m) (v : vM m) : ∀ (k i n : Nat) (a : Int32), i + k = m 0 → k < n → f_X8_upOf_b4 h n q a (nI i) = some (sUp m k i a) := by
  intro k
  have h5 := v.1
  induction k with
  | zero =>
    intro i n a hi hn
    obtain ⟨n, rfl⟩ : ∃ x, n = x + 1 := ⟨n - 1, by omega⟩
    rw [e_X8_upOf_b4, H.f0, Option.bind_some, if_pos (nI_le (by omega) (by omega))]
    rfl
  | succ k ih =>
    intro i n a hi hn
    obtain ⟨n, rfl⟩ : ∃ x, n = x + 1 := ⟨n - 1, by omega⟩
    rw [e_X8_upOf_b4, H.f0, Option.bind_some, if_neg (nI_ge (by omega) (by omega)), r_lies H v (by omega), Option.bind_some]
    unfold f_X8_upOf_b27
    rw [zLet_eq, zLet_eq, nI_1]
    by_cases e : m (13 + i) = 0
    · rw [if_pos (by rw [zb_0]; simpa using e), ih (i + 1) n _ (by omega) (by omega), sUp, if_pos e]
      rfl
    · rw [if_neg (by rw [zb_0]; simpa using e), zor0, ih (i + 1) n _ (by omega) (by omega), sUp, if_neg e]
theorem r_upOf (H : zMo h q dg m) (v : vM m) : f_X8_upOf q h = some (sUp m (m 0) 0 0) :=
  r_upOf_b4 H v (m 0) 0 zF 0 (by omega) (by have := v.1; show m 0 < 5000; omega)
theorem r_abs {a b : Nat} (ha : a < 1073741824) (hb : b < 1073741824) : f_X8_abs (nI a - nI b) h = some (nI (zdist a b)) := by
  unfold f_X8_abs
  have e := zabs_sub2 ha hb
  by_cases c : nI a - nI b < (0 : Int32)
  · rw [if_neg (by exact Int32.not_le.mpr c)]
    rw [if_pos c] at e
    rw [e]
  · rw [if_pos (by exact Int32.not_lt.mp c)]
    rw [if_neg c] at e
    rw [e]
theorem r_tooNear (H : zMo h q dg m) (v : vM m) {a b : Nat} (ha : a < m 0) (hb : b < m 0) : f_X8_tooNear q (nI a) (nI b) h = some (zb (a ≠ b ∧ sTNb m a b = true)) := by
  have va := v.2.2.2.2 a ha
  have vb := v.2.2.2.2 b hb
  have h9 := v.2.1
  have h5 := v.1
  have hda : zdist (m (18 + a)) (m (18 + b)) ≤ 3 := by unfold zdist; split <;> omega
  have hdb : zdist (m (13 + a)) (m (13 + b)) ≤ 40 := by unfold zdist; split <;> omega
  unfold f_X8_tooNear
  by_cases e : a = b
  · rw [if_pos (by rw [e]), zb_f (by simp [e])]; rfl
  · rw [if_neg (zne e (by omega) (by omega))]
    simp only [r_lies H v ha, r_lies H v hb, H.pl v ha, H.pl v hb, H.de v ha, H.de v hb, H.f1, Option.bind_some, zb_0]
    rw [r_abs (by omega) (by omega), r_abs (by omega) (by omega)]
    simp only [Option.bind_some, z2]
    simp (disch := omega) only [zlt, zle]
    by_cases q1 : m (13 + a) = 0
    · simp [q1, sTNb, zb, zB, e]
    · by_cases q2 : m (13 + b) = 0
      · simp [q1, q2, sTNb, zb, zB, e]
      · by_cases q3 : 2 ≤ zdist (m (18 + a)) (m (18 + b))
        · have q3' : ¬ zdist (m (18 + a)) (m (18 + b)) ≤ 1 := by omega
          simp [q1, q2, q3, q3', sTNb, zb, zB, e]
        · have q3' : zdist (m (18 + a)) (m (18 + b)) ≤ 1 := by omega
          by_cases q4 : m 1 < zdist (m (13 + a)) (m (13 + b))
          · simp [q1, q2, q3, q3', q4, sTNb, zb, zB, e, Nat.not_le.mpr q4]
          · simp [q1, q2, q3, q3', q4, sTNb, zb, zB, e, Nat.not_lt.mp q4]
end LOOK8
/-- which are near to t, from i on, k of them -/
def sNr (m : Nat → Nat) (t : Nat) : Nat → Nat → Int32 → Int32
  | 0, _, a => a
  | k + 1, i, a => sNr m t k (i + 1) (if t ≠ i ∧ sTNb m t i = true then a ||| zbit i else a)
/-- the first too near to a, from i on -/
def sT1 (m : Nat → Nat) (a : Nat) : Nat → Nat → Option Nat
  | 0, _ => none
  | k + 1, i => if sTNb m a i = true then some (10 * a + i) else sT1 m a k (i + 1)
/-- the first two too near, from a on -/
def sT2 (m : Nat → Nat) : Nat → Nat → Option Nat
  | 0, _ => none
  | k + 1, a => match sT1 m a k (a + 1) with
    | some x => some x
    | none => sT2 m k (a + 1)
def zno (o : Option Nat) : Int32 := match o with
  | none => -1000000
  | some x => nI x
section NEAR
variable {h : zH} {r : Nat} {th dg : Int32} {m : Nat → Nat}
theorem c_nearTo_b4 (H : zMi h r th dg m) (v : vM m) {t : Nat} (ht : t < m 0) : ∀ (k i n : Nat) (a : Int32), i + k = m 0 → k < n → f_X3_nearTo_b4 h n r (nI t) a (nI i) = some (sNr m t k i a) := by
  intro k
  have h5 := v.1
  induction k with
  | zero =>
    intro i n a hi hn
    obtain ⟨n, rfl⟩ : ∃ x, n = x + 1 := ⟨n - 1, by omega⟩
    rw [e_X3_nearTo_b4, H.f1, Option.bind_some, if_pos (nI_le (by omega) (by omega))]
    rfl
  | succ k ih =>
    intro i n a hi hn
    obtain ⟨n, rfl⟩ : ∃ x, n = x + 1 := ⟨n - 1, by omega⟩
    rw [e_X3_nearTo_b4, H.f1, Option.bind_some, if_neg (nI_ge (by omega) (by omega)), nI_1]
    by_cases e : i = t
    · rw [if_pos (by rw [e]), ih (i + 1) n _ (by omega) (by omega), sNr, if_neg (by simp [e])]
    · rw [if_neg (zne e (by omega) (by omega)), H.k, Option.bind_some, c_tooNear H v (by omega) ht, Option.bind_some, zLet_eq, sTNb_c]
      by_cases e2 : sTNb m t i = true
      · rw [if_neg (by rw [zb_0]; simpa using e2), ih (i + 1) n _ (by omega) (by omega), sNr, if_pos ⟨fun x => e x.symm, e2⟩]
        rfl
      · rw [if_pos (by rw [zb_0]; exact e2), ih (i + 1) n _ (by omega) (by omega), sNr, if_neg (fun x => e2 x.2)]
theorem c_nearTo (H : zMi h r th dg m) (v : vM m) {t : Nat} (ht : t < m 0) : f_X3_nearTo r (nI t) h = some (sNr m t (m 0) 0 0) :=
  c_nearTo_b4 H v ht (m 0) 0 zF 0 (by omega) (by have := v.1; show m 0 < 5000; omega)
theorem z10ab {a b : Nat} : ((10 : Int32) * nI a) + nI b = nI (10 * a + b) := by rw [z10, pk_mul, nI_add]
theorem c_two_b14 (H : zMi h r th dg m) (v : vM m) (k2 : Nat → Int32 → Option Int32) {a : Nat} (ha : a < m 0) : ∀ (k i n : Nat), i + k = m 0 → k < n → f_X3_firstTooNear_b14 h k2 n r (nI a) (nI i) = (match sT1 m a k i with | some x => some (nI x) | none => k2 r (nI (a + 1))) := by
  intro k
  have h5 := v.1
  induction k with
  | zero =>
    intro i n hi hn
    obtain ⟨n, rfl⟩ : ∃ x, n = x + 1 := ⟨n - 1, by omega⟩
    rw [e_X3_firstTooNear_b14, H.f1, Option.bind_some, if_pos (nI_le (by omega) (by omega)), nI_1]
    rfl
  | succ k ih =>
    intro i n hi hn
    obtain ⟨n, rfl⟩ : ∃ x, n = x + 1 := ⟨n - 1, by omega⟩
    rw [e_X3_firstTooNear_b14, H.f1, Option.bind_some, if_neg (nI_ge (by omega) (by omega)), nI_1, H.k, Option.bind_some, c_tooNear H v ha (by omega), Option.bind_some, z10ab]
    by_cases e2 : sTNb m a i = true
    · rw [if_neg (by rw [zb_0]; simpa using e2), sT1, if_pos e2]
    · rw [if_pos (by rw [zb_0]; exact e2), ih (i + 1) n (by omega) (by omega), sT1, if_neg e2]
theorem c_two_b2 (H : zMi h r th dg m) (v : vM m) : ∀ (k i n : Nat), i + k = m 0 → k < n → f_X3_firstTooNear_b2 h n r (nI i) = some (zno (sT2 m k i)) := by
  intro k
  have h5 := v.1
  induction k with
  | zero =>
    intro i n hi hn
    obtain ⟨n, rfl⟩ : ∃ x, n = x + 1 := ⟨n - 1, by omega⟩
    rw [e_X3_firstTooNear_b2, H.f1, Option.bind_some, if_pos (nI_le (by omega) (by omega))]
    rfl
  | succ k ih =>
    intro i n hi hn
    obtain ⟨n, rfl⟩ : ∃ x, n = x + 1 := ⟨n - 1, by omega⟩
    rw [e_X3_firstTooNear_b2, H.f1, Option.bind_some, if_neg (nI_ge (by omega) (by omega)), zLet_eq, nI_1, c_two_b14 H v _ (by omega) k (i + 1) zF (by omega) (by show k < 5000; omega), sT2]
    cases sT1 m i k (i + 1) with
    | some x => rfl
    | none => exact ih (i + 1) n (by omega) (by omega)
theorem c_two (H : zMi h r th dg m) (v : vM m) : f_X3_firstTooNear r h = some (zno (sT2 m (m 0) 0)) :=
  c_two_b2 H v (m 0) 0 zF (by omega) (by have := v.1; show m 0 < 5000; omega)
end NEAR
section NEAR8
variable {h : zH} {q : Nat} {dg : Int32} {m : Nat → Nat}
theorem r_nearTo_b4 (H : zMo h q dg m) (v : vM m) {t : Nat} (ht : t < m 0) : ∀ (k i n : Nat) (a : Int32), i + k = m 0 → k < n → f_X8_nearTo_b4 h n q (nI t) a (nI i) = some (sNr m t k i a) := by
  intro k
  have h5 := v.1
  induction k with
  | zero =>
    intro i n a hi hn
    obtain ⟨n, rfl⟩ : ∃ x, n = x + 1 := ⟨n - 1, by omega⟩
    rw [e_X8_nearTo_b4, H.f0, Option.bind_some, if_pos (nI_le (by omega) (by omega))]
    rfl
  | succ k ih =>
    intro i n a hi hn
    obtain ⟨n, rfl⟩ : ∃ x, n = x + 1 := ⟨n - 1, by omega⟩
    rw [e_X8_nearTo_b4, H.f0, Option.bind_some, if_neg (nI_ge (by omega) (by omega)), r_tooNear H v ht (by omega), Option.bind_some]
    unfold f_X8_nearTo_b28
    rw [zLet_eq, zLet_eq, nI_1]
    by_cases e2 : t ≠ i ∧ sTNb m t i = true
    · rw [if_neg (by rw [zb_0]; simpa using e2), ih (i + 1) n _ (by omega) (by omega), sNr, if_pos e2]
      rfl
    · rw [if_pos (by rw [zb_0]; exact e2), zor0, ih (i + 1) n _ (by omega) (by omega), sNr, if_neg e2]
theorem r_nearTo (H : zMo h q dg m) (v : vM m) {t : Nat} (ht : t < m 0) : f_X8_nearTo q (nI t) h = some (sNr m t (m 0) 0 0) :=
  r_nearTo_b4 H v ht (m 0) 0 zF 0 (by omega) (by have := v.1; show m 0 < 5000; omega)
theorem r_two_b13 (H : zMo h q dg m) (v : vM m) (k2 : Nat → Int32 → Option Int32) {a : Nat} (ha : a < m 0) : ∀ (k i n : Nat), a < i → i + k = m 0 → k < n → f_X8_twoOf_b13 h k2 n q (nI a) (nI i) = (match sT1 m a k i with | some x => some (nI x) | none => k2 q (nI (a + 1))) := by
  intro k
  have h5 := v.1
  induction k with
  | zero =>
    intro i n hai hi hn
    obtain ⟨n, rfl⟩ : ∃ x, n = x + 1 := ⟨n - 1, by omega⟩
    rw [e_X8_twoOf_b13, H.f0, Option.bind_some, if_pos (nI_le (by omega) (by omega)), nI_1]
    rfl
  | succ k ih =>
    intro i n hai hi hn
    obtain ⟨n, rfl⟩ : ∃ x, n = x + 1 := ⟨n - 1, by omega⟩
    rw [e_X8_twoOf_b13, H.f0, Option.bind_some, if_neg (nI_ge (by omega) (by omega)), nI_1, r_tooNear H v ha (by omega), Option.bind_some, z10ab]
    by_cases e2 : sTNb m a i = true
    · rw [if_neg (by rw [zb_0]; simp [e2]; omega), sT1, if_pos e2]
    · rw [if_pos (by rw [zb_0]; exact fun x => e2 x.2), ih (i + 1) n (by omega) (by omega) (by omega), sT1, if_neg e2]
theorem r_two_b2 (H : zMo h q dg m) (v : vM m) : ∀ (k i n : Nat), i + k = m 0 → k < n → f_X8_twoOf_b2 h n q (nI i) = some (zno (sT2 m k i)) := by
  intro k
  have h5 := v.1
  induction k with
  | zero =>
    intro i n hi hn
    obtain ⟨n, rfl⟩ : ∃ x, n = x + 1 := ⟨n - 1, by omega⟩
    rw [e_X8_twoOf_b2, H.f0, Option.bind_some, if_pos (nI_le (by omega) (by omega))]
    rfl
  | succ k ih =>
    intro i n hi hn
    obtain ⟨n, rfl⟩ : ∃ x, n = x + 1 := ⟨n - 1, by omega⟩
    rw [e_X8_twoOf_b2, H.f0, Option.bind_some, if_neg (nI_ge (by omega) (by omega)), zLet_eq, nI_1, r_two_b13 H v _ (by omega) k (i + 1) zF (by omega) (by omega) (by show k < 5000; omega), sT2]
    cases sT1 m i k (i + 1) with
    | some x => rfl
    | none => exact ih (i + 1) n (by omega) (by omega)
theorem r_two (H : zMo h q dg m) (v : vM m) : f_X8_twoOf q h = some (zno (sT2 m (m 0) 0)) :=
  r_two_b2 H v (m 0) 0 zF (by omega) (by have := v.1; show m 0 < 5000; omega)
end NEAR8
