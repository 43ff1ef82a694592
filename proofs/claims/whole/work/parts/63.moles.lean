/-! PURE: moles -/
def zhas (x : Int32) (t : Nat) : Bool := decide ((x >>> (nI t &&& 31)) &&& (1 : Int32) = (1 : Int32))
theorem lN_32 {k : Nat} (h : k < 2147483648) : Int64.toInt32 (lN k) = nI k := by rw [← nI_l h, lg_l2i_i2l]
theorem zhas_or : ∀ (w : Fin 32) (i t : Fin 5), zhas (nI w ||| zbit i) t = (zhas (nI w) t || decide (t = i)) := by decide +kernel
theorem zhas_and : ∀ (w s : Fin 32) (t : Fin 5), zhas (nI w) t = true → zhas (nI s) t = true → ¬ (nI s &&& nI w = 0) := by decide +kernel
theorem zhas_bit : ∀ (s : Fin 32) (t : Fin 5), (nI s >>> (nI t &&& 31)) &&& (1 : Int32) = nI (if zhas (nI s) t = true then 1 else 0) := by decide +kernel
theorem zhas_0 : ∀ (t : Fin 5), zhas 0 t = false := by decide +kernel
theorem sUp_has {m : Nat → Nat} {t : Nat} (ht : t < 5) : ∀ (k i : Nat) (a : Int32), i + k ≤ 5 → zsmall a → zhas (sUp m k i a) t = (zhas a t || decide (i ≤ t ∧ t < i + k ∧ m (13 + t) = 0)) := by
  intro k
  induction k with
  | zero =>
    intro i a _ _
    rw [sUp]
    rw [decide_eq_false (show ¬ (i ≤ t ∧ t < i + 0 ∧ m (13 + t) = 0) by omega), Bool.or_false]
  | succ k ih =>
    intro i a hi ha
    rw [sUp]
    obtain ⟨w, rfl⟩ := ha
    by_cases c : m (13 + i) = 0
    · rw [if_pos c, ih (i + 1) _ (by omega) (zsmall_or w ⟨i, by omega⟩)]
      have e := zhas_or w ⟨i, by omega⟩ ⟨t, ht⟩
      dsimp only at e
      rw [e]
      by_cases q : t = i
      · subst q
        simp [c]
      · have q2 : ¬ (⟨t, ht⟩ : Fin 5) = ⟨i, by omega⟩ := fun z => q (by injection z)
        have e2 : (i ≤ t ∧ t < i + (k + 1) ∧ m (13 + t) = 0) ↔ (i + 1 ≤ t ∧ t < i + 1 + k ∧ m (13 + t) = 0) := by omega
        simp [q2, e2]
    · rw [if_neg c, ih (i + 1) _ (by omega) ⟨w, rfl⟩]
      have e2 : (i ≤ t ∧ t < i + (k + 1) ∧ m (13 + t) = 0) ↔ (i + 1 ≤ t ∧ t < i + 1 + k ∧ m (13 + t) = 0) := by
        constructor
        · rintro ⟨h1, h2, h3⟩
          have : t ≠ i := fun z => c (by rw [← z]; exact h3)
          exact ⟨by omega, by omega, h3⟩
        · rintro ⟨h1, h2, h3⟩
          exact ⟨by omega, by omega, h3⟩
      simp [e2]
theorem sUp_has0 {m : Nat → Nat} {t : Nat} (h5 : m 0 ≤ 5) (ht : t < m 0) : zhas (sUp m (m 0) 0 0) t = decide (m (13 + t) = 0) := by
  rw [sUp_has (by omega) (m 0) 0 0 (by omega) zsmall0, zhas_0 ⟨t, by omega⟩]
  simp [ht]
/-- dug at by the set s, the first i things -/
def sDugP (m : Nat → Nat) (s i : Nat) : Nat → Nat := fun j => if 13 ≤ j ∧ j < 13 + i then m j - (if zhas (nI s) (j - 13) = true then 1 else 0) else m j
def sDug (m : Nat → Nat) (s : Nat) : Nat → Nat := sDugP m s (m 0)
theorem sDugP_0 (m : Nat → Nat) (s : Nat) : sDugP m s 0 = m := by
  funext j
  unfold sDugP
  rw [if_neg (by omega)]
theorem sDugP_s (m : Nat → Nat) (s i : Nat) : sDugP m s (i + 1) = mup (sDugP m s i) (13 + i) (m (13 + i) - (if zhas (nI s) i = true then 1 else 0)) := by
  funext j
  unfold sDugP mup
  by_cases e : j = 13 + i
  · subst e
    rw [if_pos (by omega), if_pos rfl, show 13 + i - 13 = i by omega]
  · rw [if_neg e]
    by_cases c : 13 ≤ j ∧ j < 13 + i
    · rw [if_pos (by omega)]
      dsimp only
      rw [if_pos c]
    · rw [if_neg (by omega)]
      dsimp only
      rw [if_neg c]
theorem sDugP_h (m : Nat → Nat) (s i j : Nat) (h : j < 13 ∨ 18 ≤ j) (hi : i ≤ 5) : sDugP m s i j = m j := by
  unfold sDugP
  rw [if_neg (by omega)]
theorem sDugP_d (m : Nat → Nat) {s i t : Nat} (h : i ≤ t) : sDugP m s i (13 + t) = m (13 + t) := by
  unfold sDugP
  rw [if_neg (by omega)]
theorem sDugP_v {m : Nat → Nat} (v : vM m) {s i : Nat} (hi : i ≤ 5) : vM (sDugP m s i) := by
  obtain ⟨v0, v1, v2, v3, v4⟩ := v
  have h0 : sDugP m s i 0 = m 0 := sDugP_h m s i 0 (by omega) hi
  refine ⟨by rw [h0]; exact v0, by rw [sDugP_h m s i 1 (by omega) hi]; exact v1, by rw [sDugP_h m s i 2 (by omega) hi]; exact v2, by rw [sDugP_h m s i 28 (by omega) hi]; exact v3, fun t ht => ?_⟩
  rw [h0] at ht
  obtain ⟨a, b, c, d, e⟩ := v4 t ht
  refine ⟨by rw [sDugP_h m s i (3 + t) (by omega) hi]; exact a, by rw [sDugP_h m s i (8 + t) (by omega) hi]; exact b, ?_, by rw [sDugP_h m s i (18 + t) (by omega) hi]; exact d, by rw [sDugP_h m s i (23 + t) (by omega) hi]; exact e⟩
  unfold sDugP
  split <;> omega
/-- in how many of ten ways each -/
def sW (m : Nat → Nat) (s c : Nat) : Nat → Nat → Nat → Nat
  | 0, _, a => a
  | k + 1, i, a => sW m s c k (i + 1) (if m (13 + i) = 0 then a else a * (if zhas (nI s) i = true then c else 10 - c))
theorem sW_le {m : Nat → Nat} {s c : Nat} (hc : c ≤ 10) : ∀ (k i a : Nat), sW m s c k i a ≤ a * 10 ^ k := by
  intro k
  induction k with
  | zero => intro i a; rw [sW]; omega
  | succ k ih =>
    intro i a
    rw [sW]
    refine Nat.le_trans (ih _ _) ?_
    rw [Nat.pow_succ, Nat.mul_comm (10 ^ k) 10, ← Nat.mul_assoc]
    apply Nat.mul_le_mul_right
    split
    · omega
    · apply Nat.mul_le_mul_left
      split <;> omega
def sOne (m : Nat → Nat) (d s c : Nat) : Nat := if nI s &&& sUp m (m 0) 0 0 = 0 then (if sUp (sIt (sDug m s) d) (m 0) 0 0 = sUp m (m 0) 0 0 then sW m s c (m 0) 0 1 else 0) else 0
def sAb (m : Nat → Nat) (d c : Nat) : Nat → Nat → Nat → Nat
  | 0, _, a => a
  | k + 1, s, a => sAb m d c k (s + 1) (a + sOne m d s c)
theorem sOne_le {m : Nat → Nat} {d s c : Nat} (hc : c ≤ 10) (h5 : m 0 ≤ 5) : sOne m d s c ≤ 100000 := by
  have h1 := sW_le (m := m) (s := s) hc (m 0) 0 1
  have h2 : 10 ^ m 0 ≤ 10 ^ 5 := Nat.pow_le_pow_right (by omega) h5
  have h3 : (10 : Nat) ^ 5 = 100000 := by decide
  unfold sOne
  split
  · split <;> omega
  · omega
theorem sAb_le {m : Nat → Nat} {d c : Nat} (hc : c ≤ 10) (h5 : m 0 ≤ 5) : ∀ (k s a : Nat), sAb m d c k s a ≤ a + k * 100000 := by
  intro k
  induction k with
  | zero => intro s a; rw [sAb]; omega
  | succ k ih =>
    intro s a
    rw [sAb]
    have h1 := ih (s + 1) (a + sOne m d s c)
    have h2 := sOne_le (d := d) (s := s) hc h5
    have h3 : (k + 1) * 100000 = k * 100000 + 100000 := by omega
    omega
def sBe (m : Nat → Nat) : Nat → Nat → Nat → Nat
  | 0, _, a => a
  | k + 1, i, a => sBe m k (i + 1) (if m (13 + i) = 0 then a else a * 10)
theorem sBe_le {m : Nat → Nat} : ∀ (k i a : Nat), sBe m k i a ≤ a * 10 ^ k ∧ a ≤ sBe m k i a := by
  intro k
  induction k with
  | zero => intro i a; rw [sBe]; omega
  | succ k ih =>
    intro i a
    rw [sBe]
    have h1 := ih (i + 1) (if m (13 + i) = 0 then a else a * 10)
    have h2 : (if m (13 + i) = 0 then a else a * 10) ≤ a * 10 := by split <;> omega
    have h3 : a ≤ (if m (13 + i) = 0 then a else a * 10) := by split <;> omega
    refine ⟨Nat.le_trans h1.1 ?_, by omega⟩
    rw [Nat.pow_succ, Nat.mul_comm (10 ^ k) 10, ← Nat.mul_assoc]
    exact Nat.mul_le_mul_right _ h2
/-! the greatest common divisor, by turns -/
def sG : Nat → Nat → Nat → Nat
  | 0, a, _ => a
  | k + 1, a, b => if b = 0 then a else sG k b (a % b)
theorem sG_gcd : ∀ (j k a b : Nat), b < 2 ^ j → 2 * j + 1 ≤ k → sG k a b = Nat.gcd b a := by
  intro j
  induction j with
  | zero =>
    intro k a b hb hk
    obtain ⟨k, rfl⟩ : ∃ x, k = x + 1 := ⟨k - 1, by omega⟩
    rw [sG]
    have : b = 0 := by simpa using hb
    rw [if_pos this, this, Nat.gcd_zero_left]
  | succ j ih =>
    intro k a b hb hk
    obtain ⟨k, rfl⟩ : ∃ x, k = x + 2 := ⟨k - 2, by omega⟩
    rw [sG]
    by_cases c : b = 0
    · rw [if_pos c, c, Nat.gcd_zero_left]
    · rw [if_neg c, sG]
      have e1 : Nat.gcd b a = Nat.gcd (a % b) b := Nat.gcd_rec b a
      by_cases c2 : a % b = 0
      · rw [if_pos c2, e1, c2, Nat.gcd_zero_left]
      · rw [if_neg c2, e1, Nat.gcd_rec (a % b) b]
        apply ih k _ _ _ (by omega)
        have h1 : a % b < b := Nat.mod_lt _ (by omega)
        have h2 := Nat.div_add_mod b (a % b)
        have h3 : 0 < b / (a % b) := Nat.div_pos (by omega) (by omega)
        have h4 : b % (a % b) < a % b := Nat.mod_lt _ (by omega)
        have h5 : a % b ≤ (a % b) * (b / (a % b)) := Nat.le_mul_of_pos_right _ h3
        have h6 : 2 ^ (j + 1) = 2 * 2 ^ j := by rw [Nat.pow_succ]; omega
        omega
theorem c_gcd_b7 {h : zH} : ∀ (k i n a b : Nat), i + k = 64 → k < n → a < 2147483648 → b < 2147483648 → f_X7_commonDivisor_b7 h n (nI a) (nI b) (nI i) = some (nI (sG k a b)) := by
  intro k
  induction k with
  | zero =>
    intro i n a b hi hn ha hb
    obtain ⟨n, rfl⟩ : ∃ x, n = x + 1 := ⟨n - 1, by omega⟩
    rw [e_X7_commonDivisor_b7, show (64 : Int32) = nI 64 from rfl, if_pos (nI_le (by omega) (by omega))]
    rfl
  | succ k ih =>
    intro i n a b hi hn ha hb
    obtain ⟨n, rfl⟩ : ∃ x, n = x + 1 := ⟨n - 1, by omega⟩
    rw [e_X7_commonDivisor_b7, show (64 : Int32) = nI 64 from rfl, if_neg (nI_ge (by omega) (by omega)), sG]
    by_cases c : b = 0
    · rw [if_pos (by rw [c]; rfl), if_pos c]
    · have c2 : ¬ nI b = 0 := by rw [znz hb]; exact c
      rw [if_neg c2, if_neg c2, if_neg c, zLet_eq, pk_rem ha (by omega) hb, nI_1]
      exact ih (i + 1) n b (a % b) (by omega) (by omega) hb (Nat.lt_trans (Nat.mod_lt _ (by omega)) hb)
theorem r_gcd_end {h : zH} (w : Int32) (p q : Nat) (hp : p < 2147483648) (hq : q < 2147483648) {a n : Nat} (ha : a < 2147483648) (h0 : 0 < a) : f_X8_moles_b262 (n + 1) w (lN p) (lN q) (lN a) (lN 0) h = some (if w = 0 then nI (p / a) else nI (q / a), h) := by
  have e0 : (0 : Int64) = lN 0 := rfl
  have na : ¬ lN a = 0 := by rw [e0, pk_lEQ (by omega) (by omega)]; omega
  rw [e_X8_moles_b262, if_pos (show lg_cmp (lN 0) 0 = 0 from (lg_cmp_eq _ _).mpr rfl)]
  unfold f_X8_moles_b304
  rw [if_neg na, if_neg na, pk_lDiv (by omega) h0 (by omega), pk_lDiv (by omega) h0 (by omega)]
  have d1 : p / a ≤ p := Nat.div_le_self _ _
  have d2 : q / a ≤ q := Nat.div_le_self _ _
  rw [lN_32 (by omega), lN_32 (by omega)]
  split <;> rfl
theorem r_gcd_step {h : zH} (w : Int32) (P Q : Int64) {a b n : Nat} (ha : a < 2147483648) (hb : b < 2147483648) (h0 : b ≠ 0) : f_X8_moles_b262 (n + 1) w P Q (lN a) (lN b) h = f_X8_moles_b262 n w P Q (lN b) (lN (a % b)) h := by
  have e0 : (0 : Int64) = lN 0 := rfl
  have nb : ¬ lN b = 0 := by rw [e0, pk_lEQ (by omega) (by omega)]; exact h0
  rw [e_X8_moles_b262, if_neg (fun z => nb ((lg_cmp_eq _ _).mp z)), if_neg nb, zLet_eq, pk_lRem (by omega) (by omega) (by omega)]
theorem r_gcd {h : zH} (w : Int32) (p q : Nat) (hp : p < 2147483648) (hq : q < 2147483648) : ∀ (j n a b : Nat), b < 2 ^ j → 2 * j + 1 ≤ n → a < 2147483648 → b < 2147483648 → 0 < a → f_X8_moles_b262 n w (lN p) (lN q) (lN a) (lN b) h = some (if w = 0 then nI (p / Nat.gcd b a) else nI (q / Nat.gcd b a), h) := by
  intro j
  induction j with
  | zero =>
    intro n a b hb hn ha hb2 h0
    obtain ⟨n, rfl⟩ : ∃ x, n = x + 1 := ⟨n - 1, by omega⟩
    have : b = 0 := by simpa using hb
    subst this
    rw [r_gcd_end w p q hp hq ha h0, Nat.gcd_zero_left]
  | succ j ih =>
    intro n a b hb hn ha hb2 h0
    obtain ⟨n, rfl⟩ : ∃ x, n = x + 2 := ⟨n - 2, by omega⟩
    by_cases c : b = 0
    · subst c
      rw [r_gcd_end w p q hp hq ha h0, Nat.gcd_zero_left]
    · rw [r_gcd_step w _ _ ha hb2 c]
      have e1 : Nat.gcd b a = Nat.gcd (a % b) b := Nat.gcd_rec b a
      have h1 : a % b < b := Nat.mod_lt _ (by omega)
      by_cases c2 : a % b = 0
      · rw [c2, r_gcd_end w p q hp hq hb2 (by omega), e1, c2, Nat.gcd_zero_left]
      · rw [r_gcd_step w _ _ hb2 (by omega) c2, e1, Nat.gcd_rec (a % b) b]
        have h2 := Nat.div_add_mod b (a % b)
        have h3 : 0 < b / (a % b) := Nat.div_pos (by omega) (by omega)
        have h4 : b % (a % b) < a % b := Nat.mod_lt _ (by omega)
        have h5 : a % b ≤ (a % b) * (b / (a % b)) := Nat.le_mul_of_pos_right _ h3
        have h6 : 2 ^ (j + 1) = 2 * 2 ^ j := by rw [Nat.pow_succ]; omega
        exact ih n _ _ (by omega) (by omega) (by omega) (by omega) (by omega)
theorem sW_le5 {m : Nat → Nat} {s c : Nat} (hc : c ≤ 10) (h5 : m 0 ≤ 5) : sW m s c (m 0) 0 1 ≤ 100000 := by
  have h1 := sW_le (m := m) (s := s) hc (m 0) 0 1
  have h2 : 10 ^ m 0 ≤ 10 ^ 5 := Nat.pow_le_pow_right (by omega) h5
  have h3 : (10 : Nat) ^ 5 = 100000 := by decide
  omega
theorem zpow32 {n : Nat} (h : n ≤ 5) : 2 ^ n ≤ 32 := Nat.pow_le_pow_right (n := 2) (by omega) h
section MOLES
variable {th dg fa st ac sz tr : Int32} {m : Nat → Nat}
theorem zdug {h : zH} {m : Nat → Nat} (h5 : m 0 ≤ 5) {s t : Nat} (hs : s < 32) (ht : t < m 0) (h0 : nI s &&& sUp m (m 0) 0 0 = 0) : (if zhas (nI s) t = true then 1 else 0) ≤ m (13 + t) := by
  split
  · rename_i c
    obtain ⟨w, hw⟩ := sUp_small m (m 0) 0 0 (by omega) zsmall0
    have e := sUp_has0 h5 ht
    rw [hw] at e h0
    rcases Nat.eq_zero_or_pos (m (13 + t)) with z | z
    · exfalso
      rw [z] at e
      exact zhas_and w ⟨s, hs⟩ ⟨t, by omega⟩ e c h0
    · exact z
  · omega
theorem c_letDig_b2 (v : vM m) {s : Nat} (hs : s < 32) (h0 : nI s &&& sUp m (m 0) 0 0 = 0) : ∀ (k i n : Nat) (h : zH), i + k = m 0 → k < n → zMi h 201 th dg (sDugP m s i) → iS h → ∃ h', f_X5_letDig_b2 n 200 (nI s) (nI i) h = some h' ∧ zMi h' 201 th dg (sDug m s) ∧ zFr h h' 201 7 ∧ iS h' := by
  intro k
  have h5 := v.1
  induction k with
  | zero =>
    intro i n h hi hn H S
    obtain ⟨n, rfl⟩ : ∃ x, n = x + 1 := ⟨n - 1, by omega⟩
    have p0 : sDugP m s i 0 = m 0 := sDugP_h m s i 0 (by omega) (by omega)
    rw [e_X5_letDig_b2, S.r0, Option.bind_some, H.f1, p0, Option.bind_some, if_pos (nI_le (by omega) (by omega))]
    exact ⟨h, rfl, by unfold sDug; rw [show m 0 = i by omega]; exact H, zFr.rf, S⟩
  | succ k ih =>
    intro i n h hi hn H S
    obtain ⟨n, rfl⟩ : ∃ x, n = x + 1 := ⟨n - 1, by omega⟩
    have p0 : sDugP m s i 0 = m 0 := sDugP_h m s i 0 (by omega) (by omega)
    have pv : vM (sDugP m s i) := sDugP_v v (by omega)
    have hd := zdug (h := h) h5 hs (t := i) (by omega) h0
    have hb := zhas_bit ⟨s, hs⟩ ⟨i, by omega⟩
    dsimp only at hb
    obtain ⟨e, he, H2⟩ := H.dp (by rw [p0]; exact h5) (i := i) (x := m (13 + i) - (if zhas (nI s) i = true then 1 else 0)) (by rw [p0]; omega)
    have F1 : zFr h (h.set (201 + 2) e) 201 7 := zFr.set (by omega) (by omega)
    have S1 := S.fr F1 H2.sh
    rw [e_X5_letDig_b2, S.r0, Option.bind_some, H.f1, p0, Option.bind_some, if_neg (nI_ge (by omega) (by omega)), Option.bind_some, H.f7, Option.bind_some, H.de pv (by rw [p0]; omega), Option.bind_some, sDugP_d m (Nat.le_refl i), hb, pk_sub hd, he, Option.bind_some, nI_1]
    obtain ⟨h', e1, H', F, S'⟩ := ih (i + 1) n _ (by omega) (by omega) (by rw [sDugP_s]; exact H2) S1
    exact ⟨h', e1, H', F1.tr F, S'⟩
theorem c_weight_b17 {h : zH} (H : zMi h 15 th dg m) (v : vM m) {s c : Nat} (hs : s < 32) (hc : c ≤ 10) : ∀ (k i n a : Nat), i + k = m 0 → k < n → f_X5_weightOf_b17 h n 15 (nI s) (nI c) (nI a) (nI i) = some (nI (sW m s c k i a)) := by
  intro k
  have h5 := v.1
  induction k with
  | zero =>
    intro i n a hi hn
    obtain ⟨n, rfl⟩ : ∃ x, n = x + 1 := ⟨n - 1, by omega⟩
    rw [e_X5_weightOf_b17, H.f1, Option.bind_some, if_pos (nI_le (by omega) (by omega))]
    rfl
  | succ k ih =>
    intro i n a hi hn
    obtain ⟨n, rfl⟩ : ∃ x, n = x + 1 := ⟨n - 1, by omega⟩
    rw [e_X5_weightOf_b17, H.f1, Option.bind_some, if_neg (nI_ge (by omega) (by omega)), H.k, Option.bind_some, c_isUp H v (by omega), Option.bind_some, sW]
    unfold f_X5_weightOf_b55
    rw [zLet_eq, zLet_eq, nI_1, z10, pk_sub hc, pk_mul, pk_mul]
    by_cases e : m (13 + i) = 0
    · rw [if_neg (zb_n e), if_pos e]
      exact ih (i + 1) n a (by omega) (by omega)
    · rw [if_pos (zb_f e), if_neg e]
      by_cases e2 : (nI s >>> (nI i &&& 31)) &&& (1 : Int32) = 1
      · have z : zhas (nI s) i = true := decide_eq_true e2
        rw [if_pos e2, if_pos z]
        exact ih (i + 1) n _ (by omega) (by omega)
      · have z : ¬ zhas (nI s) i = true := by unfold zhas; simpa using e2
        rw [if_neg e2, if_neg z]
        exact ih (i + 1) n _ (by omega) (by omega)
theorem c_be_b4 {h : zH} (H : zMi h 15 th dg m) (v : vM m) : ∀ (k i n a : Nat), i + k = m 0 → k < n → f_X5_weightOfAll_b4 h n 15 (nI a) (nI i) = some (nI (sBe m k i a)) := by
  intro k
  have h5 := v.1
  induction k with
  | zero =>
    intro i n a hi hn
    obtain ⟨n, rfl⟩ : ∃ x, n = x + 1 := ⟨n - 1, by omega⟩
    rw [e_X5_weightOfAll_b4, H.f1, Option.bind_some, if_pos (nI_le (by omega) (by omega))]
    rfl
  | succ k ih =>
    intro i n a hi hn
    obtain ⟨n, rfl⟩ : ∃ x, n = x + 1 := ⟨n - 1, by omega⟩
    rw [e_X5_weightOfAll_b4, H.f1, Option.bind_some, if_neg (nI_ge (by omega) (by omega)), H.k, Option.bind_some, c_isUp H v (by omega), Option.bind_some, sBe, zLet_eq, nI_1, z10, pk_mul]
    by_cases e : m (13 + i) = 0
    · rw [if_neg (zb_n e), if_pos e]
      exact ih (i + 1) n a (by omega) (by omega)
    · rw [if_pos (zb_f e), if_neg e]
      exact ih (i + 1) n _ (by omega) (by omega)
theorem c_ab_b12 (G : gM th m) {d c : Nat} (hd : d ≤ 60) (hc : c ≤ 10) : ∀ (k s n a : Nat) (h : zH), s + k = 2 ^ m 0 → k < n → a + k * 100000 < 1000000000 → zMi h 15 th dg m → iS h → ∃ h', f_X5_weightOfNoneUp_b12 n 200 15 (nI d) (nI c) (sUp m (m 0) 0 0) (nI a) (nI s) h = some (nI (sAb m d c k s a), h') ∧ zFr h h' 201 7 ∧ iS h' := by
  intro k
  have v := G.1
  have h5 := v.1
  have hy := G.2.1
  have hp := zpow6' (show m 0 ≤ 6 by omega)
  have hp5 := zpow32 h5
  induction k with
  | zero =>
    intro s n a h hs hn ha H S
    obtain ⟨n, rfl⟩ : ∃ x, n = x + 1 := ⟨n - 1, by omega⟩
    rw [e_X5_weightOfNoneUp_b12, H.f1, Option.bind_some, hp.1, if_pos (nI_le (by omega) (by omega))]
    exact ⟨h, rfl, zFr.rf, S⟩
  | succ k ih =>
    intro s n a h hs hn ha H S
    obtain ⟨n, rfl⟩ : ∃ x, n = x + 1 := ⟨n - 1, by omega⟩
    have hw := sW_le5 (m := m) (s := s) hc h5
    have ho := sOne_le (m := m) (d := d) (s := s) hc h5
    have hk : (k + 1) * 100000 = k * 100000 + 100000 := Nat.succ_mul k 100000
    rw [hk] at ha
    have hA : a + k * 100000 < 1000000000 := Nat.lt_of_le_of_lt (Nat.add_le_add_left (Nat.le_add_right _ _) a) ha
    have hB : a + sW m s c (m 0) 0 1 + k * 100000 < 1000000000 := by
      rw [Nat.add_assoc, Nat.add_comm (sW m s c (m 0) 0 1)]
      exact Nat.lt_of_le_of_lt (Nat.add_le_add_left (Nat.add_le_add_left hw _) a) ha
    clear ha hk
    rw [e_X5_weightOfNoneUp_b12, H.f1, Option.bind_some, hp.1, if_neg (nI_ge (by omega) (by omega)), S.k, Option.bind_some]
    unfold f_X5_weightOf
    rw [H.k, Option.bind_some, c_allUp H v, Option.bind_some, nI_1, sAb]
    by_cases c0 : nI s &&& sUp m (m 0) 0 0 = 0
    · have ew : f_X5_weightOf_b17 h zF 15 (nI s) (nI c) (1 : Int32) (0 : Int32) = some (nI (sW m s c (m 0) 0 1)) := c_weight_b17 H v (s := s) (c := c) (by omega) hc (m 0) 0 zF 1 (by omega) (by show m 0 < 5000; omega)
      rw [if_pos c0, ew, Option.bind_some]
      by_cases c1 : sW m s c (m 0) 0 1 = 0
      · rw [if_pos (by rw [c1]; decide)]
        have o0 : sOne m d s c = 0 := by
          unfold sOne
          rw [c1]
          simp
        rw [o0, Nat.add_zero]
        obtain ⟨h', e, F, S'⟩ := ih (s + 1) n a h (by omega) (by omega) hA H S
        exact ⟨h', e, F, S'⟩
      · rw [if_neg (show ¬ nI (sW m s c (m 0) 0 1) ≤ (0 : Int32) from nI_ge (a := 0) (by omega) (by omega))]
        obtain ⟨h1, e1, H1, F1, S1⟩ := c_then S H v G.b
        obtain ⟨h2, e2, H2, F2, S2⟩ := c_letDig_b2 v (s := s) (by omega) c0 (m 0) 0 zF h1 (by omega) (by show m 0 < 5000; omega) (by rw [sDugP_0]; exact H1) S1
        have e2' : f_X5_letDig_b2 zF 200 (nI s) (0 : Int32) h1 = some h2 := e2
        have v2 : vM (sDug m s) := sDugP_v v h5
        have y2 : sDug m s 28 = m 28 := sDugP_h m s _ 28 (by omega) h5
        have n2 : sDug m s 0 = m 0 := sDugP_h m s _ 0 (by omega) h5
        obtain ⟨h3, e3, H3, F3⟩ := c_pass (d := d) (by omega) v2 (by rw [y2]; omega) H2 S2.r0
        have S3 := S2.fr F3 H3.sh
        have v3 := sIt_v d _ v2 (by rw [y2]; omega)
        have n3 : sIt (sDug m s) d 0 = m 0 := by rw [sIt_0 _ _ (by rw [n2]; exact h5), n2]
        have F13 := (F1.tr F2).tr F3
        have up3 := c_allUp H3 v3
        rw [n3] at up3
        unfold f_X5_letDig f_X5_weightOfNoneUp_b77
        rw [S.r0, Option.bind_some, S.2.1.k, Option.bind_some, e1, Option.bind_some, S1.k, Option.bind_some, e2', Option.bind_some, S2.k, Option.bind_some, e3, Option.bind_some, S3.r0, Option.bind_some, H3.k, Option.bind_some, up3, Option.bind_some]
        by_cases c2 : sUp (sIt (sDug m s) d) (m 0) 0 0 = sUp m (m 0) 0 0
        · have o1 : sOne m d s c = sW m s c (m 0) 0 1 := by
            unfold sOne
            rw [if_pos c0, if_pos c2]
          rw [if_pos c2, zLet_eq, nI_add, o1]
          obtain ⟨h', e, F, S'⟩ := ih (s + 1) n (a + sW m s c (m 0) 0 1) h3 (by omega) (by omega) hB (H.keep (fun j _ _ => F13 j (by omega))) S3
          refine ⟨h', ?_, F13.tr F, S'⟩
          rw [nI_1]
          exact e
        · have o1 : sOne m d s c = 0 := by
            unfold sOne
            rw [if_pos c0, if_neg c2]
          rw [if_neg c2, zLet_eq, show nI a + (0 : Int32) = nI a from Int32.add_zero _, o1, Nat.add_zero]
          obtain ⟨h', e, F, S'⟩ := ih (s + 1) n a h3 (by omega) (by omega) hA (H.keep (fun j _ _ => F13 j (by omega))) S3
          refine ⟨h', ?_, F13.tr F, S'⟩
          rw [nI_1]
          exact e
    · have o0 : sOne m d s c = 0 := by
        unfold sOne
        rw [if_neg c0]
      rw [if_neg c0, Option.bind_some, if_pos (by decide), o0, Nat.add_zero]
      obtain ⟨h', e, F, S'⟩ := ih (s + 1) n a h (by omega) (by omega) hA H S
      exact ⟨h', e, F, S'⟩
end MOLES
