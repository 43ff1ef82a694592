/-! PURE: by how much one rises this year -/
def sIron (m : Nat → Nat) (t : Nat) : Nat := if m 28 % m (8 + t) = 0 then 1 else 0
/-- another one that is not up lies at its place less deep, from i on -/
def sCov (m : Nat → Nat) (t : Nat) : Nat → Nat → Bool
  | 0, _ => false
  | k + 1, i => (decide (m (13 + i) ≠ 0) && decide (m (18 + i) = m (18 + t)) && decide (m (13 + i) < m (13 + t))) || sCov m t k (i + 1)
def sRise (m : Nat → Nat) (t : Nat) : Nat :=
  if m (13 + t) = 0 then 0 else if m (3 + t) = 1 then sIron m t else if m (3 + t) = 2 then (if sCov m t (m 0) 0 = true then 0 else sIron m t) else if m (3 + t) = 3 then (if m (13 + t) < 2 * sIron m t then m (13 + t) else 2 * sIron m t) else if m (3 + t) = 4 then 0 else (if m 28 % 5 = 4 then 1 else 0)
theorem sIron_le (m : Nat → Nat) (t : Nat) : sIron m t ≤ 1 := by unfold sIron; split <;> omega
theorem sRise_le (m : Nat → Nat) (t : Nat) : sRise m t ≤ m (13 + t) ∧ sRise m t ≤ 2 := by
  have h1 := sIron_le m t
  unfold sRise
  repeat' split
  all_goals omega
theorem zne1 {a : Nat} (h : a ≠ 1) (ha : a < 2147483648) : ¬ nI a = (1 : Int32) := zne (b := 1) h ha (by omega)
theorem zne2 {a : Nat} (h : a ≠ 2) (ha : a < 2147483648) : ¬ nI a = (2 : Int32) := zne (b := 2) h ha (by omega)
theorem zne3 {a : Nat} (h : a ≠ 3) (ha : a < 2147483648) : ¬ nI a = (3 : Int32) := zne (b := 3) h ha (by omega)
theorem zne4 {a : Nat} (h : a ≠ 4) (ha : a < 2147483648) : ¬ nI a = (4 : Int32) := zne (b := 4) h ha (by omega)
section RISE
variable {h : zH} {r : Nat} {th dg : Int32} {m : Nat → Nat}
theorem c_iron (H : zMi h r th dg m) (v : vM m) {t : Nat} (ht : t < m 0) : f_X3_ironRise r (nI t) h = some (nI (sIron m t)) := by
  have vt := v.2.2.2.2 t ht
  have hy := v.2.2.2.1
  unfold f_X3_ironRise
  rw [H.f9, Option.bind_some, H.sl v ht, Option.bind_some, if_neg (nI_nle (by omega) (by omega)), H.f4, Option.bind_some, Option.bind_some, H.sl v ht, Option.bind_some, if_neg (by rw [znz (by omega)]; omega), pk_rem (by omega) (by omega) (by omega)]
  unfold sIron
  have hr : m 28 % m (8 + t) ≤ m 28 := Nat.mod_le _ _
  by_cases e : m 28 % m (8 + t) = 0
  · rw [if_pos (by rw [e]; rfl), if_pos e]; rfl
  · rw [if_neg (by rw [znz (by omega)]; exact e), if_neg e]; rfl
theorem c_cov_b2 (H : zMi h r th dg m) (v : vM m) {t : Nat} (ht : t < m 0) : ∀ (k i n : Nat), i + k = m 0 → k < n → f_X3_isCovered_b2 h n r (nI t) (nI i) = some (zb (sCov m t k i = true)) := by
  intro k
  have h5 := v.1
  have vt := v.2.2.2.2 t ht
  induction k with
  | zero =>
    intro i n hi hn
    obtain ⟨n, rfl⟩ : ∃ x, n = x + 1 := ⟨n - 1, by omega⟩
    rw [e_X3_isCovered_b2, H.f1, Option.bind_some, if_pos (nI_le (by omega) (by omega))]
    rfl
  | succ k ih =>
    intro i n hi hn
    obtain ⟨n, rfl⟩ : ∃ x, n = x + 1 := ⟨n - 1, by omega⟩
    have vi := v.2.2.2.2 i (by omega)
    rw [e_X3_isCovered_b2, H.f1, Option.bind_some, if_neg (nI_ge (by omega) (by omega)), H.f7, Option.bind_some, H.de v (by omega), Option.bind_some, nI_1, ih (i + 1) n (by omega) (by omega), H.f8]
    simp only [Option.bind_some, H.pl v (show i < m 0 by omega), H.pl v ht, H.de v ht, H.de v (show i < m 0 by omega)]
    by_cases e1 : m (13 + i) = 0
    · rw [if_pos (by rw [e1]; decide)]
      simp [sCov, e1]
    · rw [if_neg (nI_nle (by omega) (by omega))]
      by_cases e2 : m (18 + i) = m (18 + t)
      · rw [if_pos (by rw [e2])]
        by_cases e3 : m (13 + t) ≤ m (13 + i)
        · rw [if_pos (nI_le e3 (by omega))]
          simp [sCov, e1, e2, Nat.not_lt.mpr e3]
        · rw [if_neg (nI_ge (by omega) (by omega)), zb_t (by simp [sCov, e1, e2]; exact Or.inl (by omega))]
          rfl
      · rw [if_neg (zne e2 (by omega) (by omega))]
        simp [sCov, e1, e2]
theorem c_cov (H : zMi h r th dg m) (v : vM m) {t : Nat} (ht : t < m 0) : f_X3_isCovered r (nI t) h = some (zb (sCov m t (m 0) 0 = true)) :=
  c_cov_b2 H v ht (m 0) 0 zF (by omega) (by have := v.1; show m 0 < 5000; omega)
theorem c_rise (H : zMi h r th dg m) (v : vM m) {t : Nat} (ht : t < m 0) : f_X3_riseOf r (nI t) h = some (nI (sRise m t)) := by
  have vt := v.2.2.2.2 t ht
  have hy := v.2.2.2.1
  have hi := sIron_le m t
  unfold f_X3_riseOf f_X3_riseOf_b74
  rw [H.k, Option.bind_some, c_isUp H v ht, Option.bind_some]
  unfold sRise
  by_cases e0 : m (13 + t) = 0
  · rw [if_neg (by rw [zb_0]; simpa using e0), if_pos e0]; rfl
  · rw [if_pos (by rw [zb_0]; exact e0), if_neg e0, H.f6, Option.bind_some, H.so v ht]
    simp only [Option.bind_some, c_iron H v ht, c_cov H v ht, H.f7, H.de v ht, H.f4]
    by_cases e1 : m (3 + t) = 1
    · rw [if_pos (by rw [e1]; rfl), if_pos e1]
    · rw [if_neg (zne1 e1 (by omega)), if_neg e1]
      by_cases e2 : m (3 + t) = 2
      · rw [if_pos (by rw [e2]; rfl), if_pos e2]
        by_cases e3 : sIron m t = 0
        · rw [if_pos (by rw [e3]; rfl), e3]
          split <;> rfl
        · have e4 : sIron m t = 1 := by omega
          rw [if_neg (by rw [znz (by omega)]; exact e3), e4]
          by_cases e5 : sCov m t (m 0) 0 = true
          · rw [if_neg (by rw [zb_0]; simpa using e5), if_pos e5]; rfl
          · rw [if_pos (by rw [zb_0]; exact e5), if_neg e5]; rfl
      · rw [if_neg (zne2 e2 (by omega)), if_neg e2]
        by_cases e3 : m (3 + t) = 3
        · rw [if_pos (by rw [e3]; rfl), if_pos e3, z2, pk_mul]
          by_cases e4 : m (13 + t) < 2 * sIron m t
          · rw [if_pos (nI_lt e4 (by omega)), if_pos e4]
          · rw [if_neg (nI_nlt (by omega) (by omega)), if_neg e4]
        · rw [if_neg (zne3 e3 (by omega)), if_neg e3]
          by_cases e4 : m (3 + t) = 4
          · rw [if_pos (by rw [e4]; rfl), if_pos e4]; rfl
          · rw [if_neg (zne4 e4 (by omega)), if_neg e4, if_pos (by rw [show m (3 + t) = 5 by omega]; rfl), if_neg (by decide), z5, pk_rem (by omega) (by omega) (by omega)]
            have hr : m 28 % 5 < 5 := Nat.mod_lt _ (by omega)
            by_cases e5 : m 28 % 5 = 4
            · rw [if_pos (by rw [e5]; rfl), if_pos e5]; rfl
            · rw [if_neg (zne4 e5 (by omega)), if_neg e5]; rfl
end RISE
section RISE8
variable {h : zH} {q : Nat} {dg : Int32} {m : Nat → Nat}
theorem r_last (H : zMo h q dg m) (v : vM m) {t x : Nat} (ht : t < m 0) (hx : x ≤ 2) : f_X8_rises_b177 h q (nI t) (nI x) = some (nI (if m (13 + t) < x then m (13 + t) else x)) := by
  have vt := v.2.2.2.2 t ht
  unfold f_X8_rises_b177
  rw [H.de v ht, Option.bind_some]
  by_cases e : m (13 + t) < x
  · rw [if_neg (nI_ge e (by omega)), if_pos e]; rfl
  · rw [if_pos (nI_le (by omega) (by omega)), if_neg e]
/-- what a year's rise is, whether one is covered or not -/
def sRiseU (m : Nat → Nat) (t : Nat) (u : Bool) : Nat :=
  if m (3 + t) = 1 then sIron m t else if m (3 + t) = 2 then (if u = true then 0 else sIron m t) else if m (3 + t) = 3 then (if m (13 + t) < 2 * sIron m t then m (13 + t) else 2 * sIron m t) else if m (3 + t) = 4 then 0 else (if m 28 % 5 = 4 then 1 else 0)
theorem r_rises_b42 (H : zMo h q dg m) (v : vM m) {t : Nat} (ht : t < m 0) (h0 : m (13 + t) ≠ 0) : ∀ (k i n : Nat) (u : Bool), i + k = m 0 → k < n → f_X8_rises_b42 h n q (nI t) (nI (m (3 + t))) (nI (sIron m t)) (zb (u = true)) (nI i) = some (nI (sRiseU m t (u || sCov m t k i))) := by
  intro k
  have h5 := v.1
  have vt := v.2.2.2.2 t ht
  have hi2 := sIron_le m t
  have hy := v.2.2.2.1
  induction k with
  | zero =>
    intro i n u hi hn
    obtain ⟨n, rfl⟩ : ∃ x, n = x + 1 := ⟨n - 1, by omega⟩
    rw [e_X8_rises_b42, H.f0, Option.bind_some, if_pos (nI_le (by omega) (by omega))]
    have l0 := r_last H v ht (x := 0) (by omega)
    have l1 := r_last H v ht (x := 1) (by omega)
    have li := r_last H v ht (x := sIron m t) (by omega)
    have l2 := r_last H v ht (x := 2 * sIron m t) (by omega)
    rw [if_neg (by omega)] at l0
    rw [if_neg (by omega)] at l1
    rw [if_neg (by omega)] at li
    rw [z2, pk_mul, H.f28]
    simp only [Option.bind_some]
    rw [li, l2, show (0 : Int32) = nI 0 from rfl, l0, show (1 : Int32) = nI 1 from rfl, l1]
    unfold sRiseU
    rw [sCov, Bool.or_false]
    by_cases e1 : m (3 + t) = 1
    · rw [if_pos (by rw [e1]), if_pos e1]
    · rw [if_neg (zne (b := 1) e1 (by omega) (by omega)), if_neg e1]
      by_cases e2 : m (3 + t) = 2
      · rw [if_pos (by rw [e2]), if_pos e2]
        cases u with
        | true => rw [if_neg (by decide), if_pos rfl]
        | false => rw [if_pos (by decide), if_neg (by decide)]
      · rw [if_neg (zne (b := 2) e2 (by omega) (by omega)), if_neg e2]
        by_cases e3 : m (3 + t) = 3
        · rw [if_pos (by rw [e3]; rfl), if_pos e3]
        · rw [if_neg (zne3 e3 (by omega)), if_neg e3]
          by_cases e4 : m (3 + t) = 4
          · rw [if_pos (by rw [e4]; rfl), if_pos e4]
          · rw [if_neg (zne4 e4 (by omega)), if_neg e4, if_neg (by decide), z5, pk_rem (by omega) (by omega) (by omega)]
            have hr : m 28 % 5 < 5 := Nat.mod_lt _ (by omega)
            by_cases e5 : m 28 % 5 = 4
            · rw [if_pos (by rw [e5]; rfl), if_pos e5]
            · rw [if_neg (zne4 e5 (by omega)), if_neg e5]
  | succ k ih =>
    intro i n u hi hn
    obtain ⟨n, rfl⟩ : ∃ x, n = x + 1 := ⟨n - 1, by omega⟩
    have vi := v.2.2.2.2 i (by omega)
    rw [e_X8_rises_b42, H.f0, Option.bind_some, if_neg (nI_ge (by omega) (by omega))]
    have J1 : f_X8_rises_b102 h (f_X8_rises_b42 h n) q (nI t) (nI (m (3 + t))) (nI (sIron m t)) (nI i) = some (nI (sRiseU m t (true || sCov m t k (i + 1)))) := by
      unfold f_X8_rises_b102 f_X8_rises_b107
      rw [nI_1]
      exact ih (i + 1) n true (by omega) (by omega)
    have J0 : f_X8_rises_b106 h (f_X8_rises_b42 h n) q (nI t) (nI (m (3 + t))) (nI (sIron m t)) (nI i) = some (nI (sRiseU m t (false || sCov m t k (i + 1)))) := by
      unfold f_X8_rises_b106 f_X8_rises_b107
      rw [nI_1]
      exact ih (i + 1) n false (by omega) (by omega)
    rw [J1, J0]
    cases u with
    | true =>
      rw [if_neg (by decide)]
      simp
    | false =>
      rw [if_pos (by decide)]
      by_cases e0 : i = t
      · rw [if_pos (by rw [e0])]
        subst e0
        simp [sCov]
      · rw [if_neg (zne e0 (by omega) (by omega)), r_lies H v (by omega), Option.bind_some, H.pl v (by omega), H.pl v ht, H.de v (by omega), H.de v ht]
        simp only [Option.bind_some]
        by_cases e1 : m (13 + i) = 0
        · rw [if_pos (by rw [zb_0]; simpa using e1)]
          simp [sCov, e1]
        · rw [if_neg (by rw [zb_0]; simpa using e1)]
          by_cases e2 : m (18 + i) = m (18 + t)
          · rw [if_pos (by rw [e2])]
            by_cases e3 : m (13 + t) ≤ m (13 + i)
            · rw [if_pos (nI_le e3 (by omega))]
              simp [sCov, e1, e2, Nat.not_lt.mpr e3]
            · rw [if_neg (nI_ge (by omega) (by omega))]
              have e4 : m (13 + i) < m (13 + t) := by omega
              simp [sCov, e1, e2, e4]
          · rw [if_neg (zne e2 (by omega) (by omega))]
            simp [sCov, e1, e2]
theorem r_rise (H : zMo h q dg m) (v : vM m) {t : Nat} (ht : t < m 0) : f_X8_rises q (nI t) h = some (nI (sRise m t)) := by
  have vt := v.2.2.2.2 t ht
  have hy := v.2.2.2.1
  unfold f_X8_rises
  rw [r_lies H v ht, Option.bind_some]
  by_cases e0 : m (13 + t) = 0
  · rw [if_pos (by rw [zb_0]; simpa using e0)]
    unfold sRise
    rw [if_pos e0]; rfl
  · rw [if_neg (by rw [zb_0]; simpa using e0), H.so v ht, Option.bind_some, H.f28, Option.bind_some, H.sl v ht, Option.bind_some, if_neg (by rw [znz (by omega)]; omega), pk_rem (by omega) (by omega) (by omega)]
    have key := r_rises_b42 H v ht e0 (m 0) 0 zF false (by omega) (by have := v.1; show m 0 < 5000; omega)
    have e9 : sRise m t = sRiseU m t (false || sCov m t (m 0) 0) := by
      unfold sRise sRiseU
      rw [if_neg e0, Bool.false_or]
    rw [e9]
    unfold f_X8_rises_b35
    have hr : m 28 % m (8 + t) ≤ m 28 := Nat.mod_le _ _
    by_cases e : m 28 % m (8 + t) = 0
    · have e1 : sIron m t = 1 := by unfold sIron; rw [if_pos e]
      rw [if_pos (by rw [e]; rfl)]
      rw [e1] at key
      exact key
    · have e1 : sIron m t = 0 := by unfold sIron; rw [if_neg e]
      rw [if_neg (by rw [znz (by omega)]; exact e)]
      rw [e1] at key
      exact key
end RISE8
