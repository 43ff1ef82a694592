/-! PURE: what is seen of a mine -/
def zbit (i : Nat) : Int32 := (1 : Int32) <<< (nI i &&& 31)
/-- which are up, from i on, k of them -/
def sUp (m : Nat → Nat) : Nat → Nat → Int32 → Int32
  | 0, _, a => a
  | k + 1, i, a => sUp m k (i + 1) (if m (13 + i) = 0 then a ||| zbit i else a)
def zdist (a b : Nat) : Nat := if a ≤ b then b - a else a - b
/-- two are too near -/
def sTN (m : Nat → Nat) (a b : Nat) : Prop := m (13 + a) ≠ 0 ∧ m (13 + b) ≠ 0 ∧ zdist (m (18 + a)) (m (18 + b)) ≤ 1 ∧ zdist (m (13 + a)) (m (13 + b)) ≤ m 1
def sTNb (m : Nat → Nat) (a b : Nat) : Bool := decide (m (13 + a) ≠ 0) && decide (m (13 + b) ≠ 0) && decide (zdist (m (18 + a)) (m (18 + b)) ≤ 1) && decide (zdist (m (13 + a)) (m (13 + b)) ≤ m 1)
theorem zabs_sub {a b : Nat} (ha : a < 1073741824) (hb : b < 1073741824) : (if (0 : Int32) ≤ nI a - nI b then nI a - nI b else 0 - (nI a - nI b)) = nI (zdist a b) := by
  unfold zdist
  by_cases h : a ≤ b
  · rcases Nat.lt_or_ge a b with h2 | h2
    · have h3 := pk_sneg hb h2
      rw [if_neg (by exact Int32.not_le.mpr h3), if_pos h, z0, ← pk_sub h]
      have : nI 0 - (nI a - nI b) = nI b - nI a := by
        have e0 : nI 0 = 0 := rfl
        rw [e0]
        simp [Int32.sub_eq_add_neg, Int32.neg_add, Int32.add_comm]
      exact this
    · have e : a = b := by omega
      subst e
      have e1 : nI a - nI a = nI 0 := by rw [pk_sub (Nat.le_refl a), Nat.sub_self]
      rw [e1, if_pos (by decide), if_pos (Nat.le_refl a), Nat.sub_self]
  · have h4 : b ≤ a := by omega
    rw [pk_sub h4, if_pos (nI_pos' (by omega)), if_neg h]
theorem zabs_sub2 {a b : Nat} (ha : a < 1073741824) (hb : b < 1073741824) : (if nI a - nI b < (0 : Int32) then -(nI a - nI b) else nI a - nI b) = nI (zdist a b) := by
  unfold zdist
  by_cases h : a ≤ b
  · rcases Nat.lt_or_ge a b with h2 | h2
    · have h3 := pk_sneg hb h2
      rw [if_pos h3, if_pos h, ← pk_sub h]
      simp [Int32.sub_eq_add_neg, Int32.neg_add, Int32.add_comm]
    · have e : a = b := by omega
      subst e
      have e1 : nI a - nI a = nI 0 := by rw [pk_sub (Nat.le_refl a), Nat.sub_self]
      rw [e1, if_neg (by decide), if_pos (Nat.le_refl a), Nat.sub_self]
  · have h4 : b ≤ a := by omega
    rw [pk_sub h4, if_neg (by rw [z0, zlt (by omega) (by omega)]; omega), if_neg h]
theorem znz {a : Nat} (ha : a < 2147483648) : (nI a = 0) = (a = 0) := zeq (b := 0) ha (by omega)
theorem zne {a b : Nat} (h : a ≠ b) (ha : a < 2147483648) (hb : b < 2147483648) : ¬ nI a = nI b := fun q => h ((nI_eq ha hb).mp q)
section LOOK
variable {h : zH} {r : Nat} {th dg : Int32} {m : Nat → Nat}
theorem c_isUp (H : zMi h r th dg m) (v : vM m) {t : Nat} (ht : t < m 0) : f_X3_isUp r (nI t) h = some (zb (m (13 + t) = 0)) := by
  have hd := (v.2.2.2.2 t ht).2.2.1
  unfold f_X3_isUp
  rw [H.f7, Option.bind_some, H.de v ht, Option.bind_some]
  by_cases q : m (13 + t) = 0
  · rw [if_pos (by rw [q]; rfl), zb_t q]; rfl
  · rw [if_neg (by rw [znz (by omega)]; exact q), zb_f q]; rfl
theorem c_allUp_b4 (H : zMi h r th dg m) (v : vM m) : ∀ (k i n : Nat) (a : Int32), i + k = m 0 → k < n → f_X3_allUp_b4 h n r a (nI i) = some (sUp m k i a) := by
  intro k
  have h5 := v.1
  induction k with
  | zero =>
    intro i n a hi hn
    obtain ⟨n, rfl⟩ : ∃ x, n = x + 1 := ⟨n - 1, by omega⟩
    rw [e_X3_allUp_b4, H.f1, Option.bind_some, if_pos (nI_le (by omega) (by omega))]
    rfl
  | succ k ih =>
    intro i n a hi hn
    obtain ⟨n, rfl⟩ : ∃ x, n = x + 1 := ⟨n - 1, by omega⟩
    rw [e_X3_allUp_b4, H.f1, Option.bind_some, if_neg (nI_ge (by omega) (by omega)), H.k, Option.bind_some, c_isUp H v (by omega), Option.bind_some, nI_1, zLet_eq]
    by_cases q : m (13 + i) = 0
    · rw [if_neg (by rw [zb_0]; simpa using q), ih (i + 1) n _ (by omega) (by omega), sUp, if_pos q]
      rfl
    · rw [if_pos (by rw [zb_0]; exact q), ih (i + 1) n _ (by omega) (by omega), sUp, if_neg q]
theorem c_allUp (H : zMi h r th dg m) (v : vM m) : f_X3_allUp r h = some (sUp m (m 0) 0 0) :=
  c_allUp_b4 H v (m 0) 0 zF 0 (by omega) (by have := v.1; show m 0 < 5000; omega)
theorem c_tooNear (H : zMi h r th dg m) (v : vM m) {a b : Nat} (ha : a < m 0) (hb : b < m 0) : f_X3_areTooNear r (nI a) (nI b) h = some (zb (sTNb m a b = true)) := by
  have va := v.2.2.2.2 a ha
  have vb := v.2.2.2.2 b hb
  have h9 := v.2.1
  have hda : zdist (m (18 + a)) (m (18 + b)) ≤ 3 := by unfold zdist; split <;> omega
  have hdb : zdist (m (13 + a)) (m (13 + b)) ≤ 40 := by unfold zdist; split <;> omega
  unfold f_X3_areTooNear
  simp only [H.k, H.f8, H.f7, H.f3, H.pl v ha, H.pl v hb, H.de v ha, H.de v hb, c_isUp H v ha, c_isUp H v hb, Option.bind_some, zb_0]
  rw [zabs_sub (by omega) (by omega), zabs_sub (by omega) (by omega), z1]
  simp (disch := omega) only [zlt]
  by_cases q1 : m (13 + a) = 0
  · simp [q1, sTNb, zb, zB]
  · by_cases q2 : m (13 + b) = 0
    · simp [q1, q2, sTNb, zb, zB]
    · by_cases q3 : 1 < zdist (m (18 + a)) (m (18 + b))
      · simp [q1, q2, q3, sTNb, zb, zB, Nat.not_le.mpr q3]
      · by_cases q4 : m 1 < zdist (m (13 + a)) (m (13 + b))
        · simp [q1, q2, q3, q4, sTNb, zb, zB, Nat.not_le.mpr q4]
        · simp [q1, q2, q3, q4, sTNb, zb, zB, Nat.not_lt.mp q3, Nat.not_lt.mp q4]
          exact ⟨Or.inr rfl, rfl⟩
end LOOK
