/-! PURE: whom, halves, as -/
def sAll (m : Nat → Nat) (s : Int32) : Nat → Nat → Bool
  | 0, _ => true
  | k + 1, i => if nI (m (23 + i)) &&& s = 0 then false else sAll m s k (i + 1)
def sPop (s : Nat) : Nat := s % 2 + s / 2 % 2 + s / 4 % 2 + s / 8 % 2 + s / 16 % 2 + s / 32 % 2
theorem bc0 : ∀ s : Fin 64, f_J6_bitCount_0f7a4 (nI s) [] = some (nI (sPop s)) := by decide +kernel
theorem bb0 : ∀ s : Fin 64, f_X8_bits_b4 [] 8 0 (nI s) = some (nI (sPop s)) := by decide +kernel
theorem bb1 (h : zH) : ∀ (n n2 : Nat) (a b v : Int32), n ≤ n2 → f_X8_bits_b4 [] n a b = some v → f_X8_bits_b4 h n2 a b = some v := by
  intro n
  induction n with
  | zero => intro n2 a b v _ e; cases e
  | succ n ih =>
    intro n2 a b v hn e
    obtain ⟨n2, rfl⟩ : ∃ x, n2 = x + 1 := ⟨n2 - 1, by omega⟩
    rw [e_X8_bits_b4] at e ⊢
    by_cases c : b = 0
    · rw [if_pos c] at e ⊢
      exact e
    · rw [if_neg c] at e ⊢
      exact ih n2 _ _ v (by omega) e
theorem c_pop {h : zH} {s : Nat} (hs : s < 64) : f_J6_bitCount_0f7a4 (nI s) h = some (nI (sPop s)) := bc0 ⟨s, hs⟩
theorem r_pop {h : zH} {s : Nat} (hs : s < 64) : f_X8_bits (nI s) h = some (nI (sPop s)) := bb1 h 8 zF 0 (nI s) _ (by show 8 ≤ 5000; omega) (bb0 ⟨s, hs⟩)
theorem sPop_le (s : Nat) : sPop s ≤ 6 := by unfold sPop; omega
/-- the better one of the best ahead and the set s -/
def sBt (s : Nat) : Option Nat → Option Nat
  | none => some s
  | some x => if sPop x ≤ sPop s then some x else some s
theorem sBt_lt {s : Nat} {b : Option Nat} (hs : s < 64) (hb : ∀ x, b = some x → x < 64) : ∀ x, sBt s b = some x → x < 64 := by
  intro x hx
  cases b with
  | none => cases hx; exact hs
  | some y =>
    rw [sBt] at hx
    split at hx
    · exact hb x hx
    · cases hx; exact hs
/-- the least of the fewest, from the set s on, k of them, b the best ahead -/
def sWh (m : Nat → Nat) : Nat → Nat → Option Nat → Option Nat
  | 0, _, b => b
  | k + 1, s, b => sWh m k (s + 1) (if sAll m (nI s) (m 0) 0 = true then sBt s b else b)
theorem zpow6 : ∀ j : Fin 7, (1 : Int32) <<< (nI j &&& 31) = nI (2 ^ j.val) := by decide +kernel
theorem zpow6' {j : Nat} (h : j ≤ 6) : (1 : Int32) <<< (nI j &&& 31) = nI (2 ^ j) ∧ 2 ^ j ≤ 64 := ⟨zpow6 ⟨j, by omega⟩, Nat.pow_le_pow_right (n := 2) (by omega) h⟩
section WHOM
variable {h : zH} {fa st ac sz tr th dg : Int32} {m : Nat → Nat}
theorem c_all_b2 {r : Nat} (H : zMi h r th dg m) (v : vM m) (s : Int32) : ∀ (k i n : Nat), i + k = m 0 → k < n → f_X3_allKnownTo_b2 h n r s (nI i) = some (zb (sAll m s k i = true)) := by
  intro k
  have h5 := v.1
  induction k with
  | zero =>
    intro i n hi hn
    obtain ⟨n, rfl⟩ : ∃ x, n = x + 1 := ⟨n - 1, by omega⟩
    rw [e_X3_allKnownTo_b2, H.f1, Option.bind_some, if_pos (nI_le (by omega) (by omega))]
    rfl
  | succ k ih =>
    intro i n hi hn
    obtain ⟨n, rfl⟩ : ∃ x, n = x + 1 := ⟨n - 1, by omega⟩
    rw [e_X3_allKnownTo_b2, H.f1, Option.bind_some, if_neg (nI_ge (by omega) (by omega)), H.f10, Option.bind_some, H.kn v (by omega), Option.bind_some, nI_1, sAll]
    by_cases c : nI (m (23 + i)) &&& s = 0
    · rw [if_pos c, if_pos c]
      rfl
    · rw [if_neg c, if_neg c, ih (i + 1) n (by omega) (by omega)]
theorem c_fewest_b5 {r : Nat} (H : zMi h r th dg m) (v : vM m) : ∀ (k s n : Nat) (b : Option Nat), s + k = 2 ^ m 2 → k < n → (∀ x, b = some x → x < 64) → f_X3_fewestWhoKnowAll_b5 h n r (zno b) (nI s) = some (zno (sWh m k s b)) := by
  intro k
  have h6 := zpow6' v.2.2.1
  induction k with
  | zero =>
    intro s n b hi hn hb
    obtain ⟨n, rfl⟩ : ∃ x, n = x + 1 := ⟨n - 1, by omega⟩
    rw [e_X3_fewestWhoKnowAll_b5, H.f2, Option.bind_some, h6.1, if_pos (nI_le (by omega) (by omega))]
    rfl
  | succ k ih =>
    intro s n b hi hn hb
    obtain ⟨n, rfl⟩ : ∃ x, n = x + 1 := ⟨n - 1, by omega⟩
    have h5 := v.1
    have ka := c_all_b2 H v (nI s) (m 0) 0 zF (by omega) (by show m 0 < 5000; omega)
    rw [e_X3_fewestWhoKnowAll_b5, H.f2, Option.bind_some, h6.1, if_neg (nI_ge (by omega) (by omega)), H.k, Option.bind_some]
    unfold f_X3_allKnownTo f_X3_fewestWhoKnowAll_b40
    rw [show (0 : Int32) = nI 0 from rfl, ka, Option.bind_some, nI_1, ← show (0 : Int32) = nI 0 from rfl, sWh]
    by_cases c : sAll m (nI s) (m 0) 0 = true
    · rw [if_neg (zb_n c), if_pos c]
      cases b with
      | none =>
        rw [if_pos (show zno none = (-1000000 : Int32) from rfl)]
        exact ih (s + 1) n (some s) (by omega) (by omega) (fun x hx => by cases hx; omega)
      | some x =>
        have hx := hb x rfl
        have p1 := sPop_le x
        have p2 := sPop_le s
        rw [if_neg (show ¬ zno (some x) = (-1000000 : Int32) from zno_ne (by omega))]
        rw [c_pop (s := s) (by omega), Option.bind_some]
        show (f_J6_bitCount_0f7a4 (nI x) h).bind _ = _
        rw [c_pop (s := x) (by omega), Option.bind_some, sBt]
        by_cases c2 : sPop x ≤ sPop s
        · rw [if_pos (nI_le c2 (by omega)), if_pos c2]
          exact ih (s + 1) n (some x) (by omega) (by omega) hb
        · rw [if_neg (nI_ge (by omega) (by omega)), if_neg c2]
          exact ih (s + 1) n (some s) (by omega) (by omega) (fun x hx => by cases hx; omega)
    · rw [if_pos (zb_f c), if_neg c]
      exact ih (s + 1) n b (by omega) (by omega) hb
theorem r_whom_b43 (P : iP h fa st ac sz tr) (H : zMo h 245 dg m) (v : vM m) (K : Nat → Int32 → Int32 → Int32 → Option Int32) (w : Int32) {s : Nat} (hs : s < 64) (b : Option Nat) (hb : ∀ x, b = some x → x < 64) : ∀ (k i n : Nat) (a : Bool), i + k = m 0 → k < n → f_X8_whom_b43 h K n 241 w (zno b) (nI s) (zb (a = true)) (nI i) = K 241 w (zno (if (a && sAll m (nI s) k i) = true then (sBt s b) else b)) (nI (s + 1)) := by
  intro k
  have h5 := v.1
  induction k with
  | zero =>
    intro i n a hi hn
    obtain ⟨n, rfl⟩ : ∃ x, n = x + 1 := ⟨n - 1, by omega⟩
    rw [e_X8_whom_b43, P.r4, Option.bind_some, H.f0, Option.bind_some, if_pos (nI_le (by omega) (by omega))]
    unfold f_X8_whom_b113 f_X8_whom_b109 f_X8_whom_b114
    rw [sAll, Bool.and_true, nI_1]
    by_cases c : a = true
    · rw [if_neg (zb_n c), if_pos c]
      cases b with
      | none => rw [if_pos (show zno none = (-1000000 : Int32) from rfl)]; rfl
      | some x =>
        have hx := hb x rfl
        have p1 := sPop_le x
        have p2 := sPop_le s
        rw [if_neg (show ¬ zno (some x) = (-1000000 : Int32) from zno_ne (by omega)), r_pop (s := s) (by omega), Option.bind_some]
        show (f_X8_bits (nI x) h).bind _ = _
        rw [r_pop (s := x) (by omega), Option.bind_some, sBt]
        by_cases c2 : sPop x ≤ sPop s
        · rw [if_pos (nI_le c2 (by omega)), if_pos c2]
        · rw [if_neg (nI_ge (by omega) (by omega)), if_neg c2]; rfl
    · rw [if_pos (zb_f c), if_neg c]
  | succ k ih =>
    intro i n a hi hn
    obtain ⟨n, rfl⟩ : ∃ x, n = x + 1 := ⟨n - 1, by omega⟩
    rw [e_X8_whom_b43, P.r4, Option.bind_some, H.f0, Option.bind_some, if_neg (nI_ge (by omega) (by omega)), Option.bind_some, H.kn v (by omega), Option.bind_some]
    unfold f_X8_whom_b78 f_X8_whom_b79
    rw [nI_1]
    have i0 := ih (i + 1) n false (by omega) (by omega)
    have i1 := ih (i + 1) n true (by omega) (by omega)
    rw [show zb (false = true) = 0 from rfl] at i0
    rw [show zb (true = true) = 1 from rfl] at i1
    rw [i0, i1, sAll]
    by_cases c : a = true
    · rw [if_neg (zb_n c), c]
      by_cases c2 : nI (m (23 + i)) &&& nI s = 0
      · rw [if_pos c2, if_pos c2]
        simp
      · rw [if_neg c2, if_neg c2]
    · have c9 : a = false := by simpa using c
      rw [if_pos (zb_f c), c9]
      simp
theorem r_whom_b25 (P : iP h fa st ac sz tr) (H : zMo h 245 dg m) (v : vM m) (w : Int32) : ∀ (k s n : Nat) (b : Option Nat), s + k = 2 ^ m 2 → k < n → (∀ x, b = some x → x < 64) → f_X8_whom_b25 h n 241 w (zno b) (nI s) = (match sWh m k s b with
    | none => some (-1000000 : Int32)
    | some x => if w = 1 then some (nI x) else some (nI (sPop x))) := by
  intro k
  have h6 := zpow6' v.2.2.1
  have h5 := v.1
  induction k with
  | zero =>
    intro s n b hi hn hb
    obtain ⟨n, rfl⟩ : ∃ x, n = x + 1 := ⟨n - 1, by omega⟩
    rw [e_X8_whom_b25, P.r4, Option.bind_some, H.f2, Option.bind_some, h6.1, if_pos (nI_le (by omega) (by omega)), sWh]
    unfold f_X8_whom_b132
    cases b with
    | none => rw [if_pos (show zno none = (-1000000 : Int32) from rfl)]; rfl
    | some x =>
      have hx := hb x rfl
      rw [if_neg (show ¬ zno (some x) = (-1000000 : Int32) from zno_ne (by omega))]
      show (if w = 1 then some (nI x) else (f_X8_bits (nI x) h).bind fun q3 => some q3) = _
      rw [r_pop (s := x) (by omega), Option.bind_some]
  | succ k ih =>
    intro s n b hi hn hb
    obtain ⟨n, rfl⟩ : ∃ x, n = x + 1 := ⟨n - 1, by omega⟩
    rw [e_X8_whom_b25, P.r4, Option.bind_some, H.f2, Option.bind_some, h6.1, if_neg (nI_ge (by omega) (by omega)), show (1 : Int32) = zb (true = true) from rfl, show (0 : Int32) = nI 0 from rfl, r_whom_b43 P H v _ w (s := s) (by omega) b hb (m 0) 0 zF true (by omega) (by show m 0 < 5000; omega), Bool.true_and, sWh]
    refine ih (s + 1) n _ (by omega) (by omega) (fun x hx => ?_)
    split at hx
    · exact sBt_lt (by omega) hb x hx
    · exact hb x hx
theorem sWh_lt : ∀ (k s : Nat) (b : Option Nat), s + k ≤ 64 → (∀ x, b = some x → x < 64) → ∀ x, sWh m k s b = some x → x < 64 := by
  intro k
  induction k with
  | zero => exact fun s b _ hb x hx => hb x hx
  | succ k ih =>
    intro s b hs hb x hx
    refine ih (s + 1) _ (by omega) ?_ x hx
    intro y hy
    split at hy
    · exact sBt_lt (by omega) hb y hy
    · exact hb y hy
end WHOM
theorem M_whom {h : zH} (I : INV h) (b : Int32) : zAlike (f_X7_whom 0 b) (f_X8_whom 241 b) h := by
  obtain ⟨fa, st, ac, sz, tr, th, dg, m, O, P, R, T, ⟨N7, N8, G⟩, A, Im, C, S, X, L⟩ := I
  have v := G.1
  have h6 := zpow6' v.2.2.1
  unfold f_X7_whom f_X8_whom zAlike
  dsimp only
  simp only [O.r2, Option.bind_some, N7.f0, P.k, r_isMine P N8 v, c_isTwo, r_isTwo, N7.k]
  by_cases c : 0 < m 2
  · rw [if_neg (G.nz c), if_neg (zb_n c)]
    by_cases c2 : b = 0 ∨ b = 1
    · rw [if_neg (zb_n c2), if_neg (zb_n c2)]
      have e1 := c_fewest_b5 N7 v (2 ^ m 2) 0 zF none (by omega) (by show 2 ^ m 2 < 5000; omega) (fun x hx => by cases hx)
      have e2 := r_whom_b25 P N8 v b (2 ^ m 2) 0 zF none (by omega) (by show 2 ^ m 2 < 5000; omega) (fun x hx => by cases hx)
      rw [show zno none = (-1000000 : Int32) from rfl] at e1 e2
      rw [show nI 0 = (0 : Int32) from rfl] at e1 e2
      unfold f_X3_fewestWhoKnowAll
      rw [e1, e2, Option.bind_some]
      cases hs : sWh m (2 ^ m 2) 0 none with
      | none => exact ⟨_, rfl, rfl⟩
      | some x =>
        have hx := sWh_lt _ _ _ (by omega) (fun y hy => by cases hy) x hs
        rw [if_neg (show ¬ zno (some x) = (-1000000 : Int32) from zno_ne (by omega))]
        show ∃ v, (if b = 0 then (f_J6_bitCount_0f7a4 (nI x) h).bind fun q6 => some q6 else some (nI x)) = some v ∧ (if b = 1 then some (nI x) else some (nI (sPop x))) = some v
        rw [c_pop hx, Option.bind_some]
        rcases c2 with rfl | rfl
        · exact ⟨_, rfl, rfl⟩
        · exact ⟨_, rfl, rfl⟩
    · rw [if_pos (zb_f c2), if_pos (zb_f c2)]
      exact ⟨_, rfl, rfl⟩
  · rw [if_pos (G.z c), if_pos (zb_f c)]
    exact ⟨_, rfl, rfl⟩
/-! halves -/
def sH (m : Nat → Nat) (a b : Nat) : Bool := decide (¬ (nI (m (23 + a)) &&& nI (m (23 + b)) = 0))
def sHc1 (m : Nat → Nat) (a : Nat) : Nat → Nat → Int32 → Int32
  | 0, _, x => x
  | k + 1, i, x => sHc1 m a k (i + 1) (if sH m a i = true then x + 1 else x)
def sHc2 (m : Nat → Nat) : Nat → Nat → Int32 → Int32
  | 0, _, x => x
  | k + 1, a, x => sHc2 m k (a + 1) (sHc1 m a k (a + 1) x)
def sHf1 (m : Nat → Nat) (a : Nat) : Nat → Nat → Option Nat
  | 0, _ => none
  | k + 1, i => if sH m a i = true then some (10 * a + i) else sHf1 m a k (i + 1)
def sHf2 (m : Nat → Nat) : Nat → Nat → Option Nat
  | 0, _ => none
  | k + 1, a => match sHf1 m a k (a + 1) with
    | some x => some x
    | none => sHf2 m k (a + 1)
/-- the one that stands, else the other -/
def zel (f g : Option Nat) : Option Nat := match f with
  | some x => some x
  | none => g
section HALVES
variable {h : zH} {fa st ac sz tr th dg : Int32} {m : Nat → Nat}
theorem c_hc_b16 {r : Nat} (H : zMi h r th dg m) (v : vM m) (K : Nat → Int32 → Int32 → Option Int32) {a : Nat} (ha : a < m 0) : ∀ (k i n : Nat) (x : Int32), i + k = m 0 → k < n → f_X3_countHalves_b16 h K n r x (nI a) (nI i) = K r (sHc1 m a k i x) (nI (a + 1)) := by
  intro k
  have h5 := v.1
  induction k with
  | zero =>
    intro i n x hi hn
    obtain ⟨n, rfl⟩ : ∃ x, n = x + 1 := ⟨n - 1, by omega⟩
    rw [e_X3_countHalves_b16, H.f1, Option.bind_some, if_pos (nI_le (by omega) (by omega)), nI_1]
    rfl
  | succ k ih =>
    intro i n x hi hn
    obtain ⟨n, rfl⟩ : ∃ x, n = x + 1 := ⟨n - 1, by omega⟩
    rw [e_X3_countHalves_b16, H.f1, Option.bind_some, if_neg (nI_ge (by omega) (by omega)), H.f10, Option.bind_some, H.kn v ha, Option.bind_some, Option.bind_some, H.kn v (by omega), Option.bind_some, nI_1, ih (i + 1) n _ (by omega) (by omega), ih (i + 1) n _ (by omega) (by omega), sHc1]
    by_cases c : nI (m (23 + a)) &&& nI (m (23 + i)) = 0
    · rw [if_pos c, if_neg (by simp [sH, c])]
    · rw [if_neg c, if_pos (by simp [sH, c])]
theorem c_hc_b4 {r : Nat} (H : zMi h r th dg m) (v : vM m) : ∀ (k i n : Nat) (x : Int32), i + k = m 0 → k < n → f_X3_countHalves_b4 h n r x (nI i) = some (sHc2 m k i x) := by
  intro k
  have h5 := v.1
  induction k with
  | zero =>
    intro i n x hi hn
    obtain ⟨n, rfl⟩ : ∃ x, n = x + 1 := ⟨n - 1, by omega⟩
    rw [e_X3_countHalves_b4, H.f1, Option.bind_some, if_pos (nI_le (by omega) (by omega))]
    rfl
  | succ k ih =>
    intro i n x hi hn
    obtain ⟨n, rfl⟩ : ∃ x, n = x + 1 := ⟨n - 1, by omega⟩
    rw [e_X3_countHalves_b4, H.f1, Option.bind_some, if_neg (nI_ge (by omega) (by omega)), zLet_eq, nI_1, c_hc_b16 H v _ (by omega) k (i + 1) zF _ (by omega) (by show k < 5000; omega), ih (i + 1) n _ (by omega) (by omega), sHc2]
theorem c_hf_b14 {r : Nat} (H : zMi h r th dg m) (v : vM m) (K : Nat → Int32 → Option Int32) {a : Nat} (ha : a < m 0) : ∀ (k i n : Nat), i + k = m 0 → k < n → f_X3_firstHalves_b14 h K n r (nI a) (nI i) = (match sHf1 m a k i with | some x => some (nI x) | none => K r (nI (a + 1))) := by
  intro k
  have h5 := v.1
  induction k with
  | zero =>
    intro i n hi hn
    obtain ⟨n, rfl⟩ : ∃ x, n = x + 1 := ⟨n - 1, by omega⟩
    rw [e_X3_firstHalves_b14, H.f1, Option.bind_some, if_pos (nI_le (by omega) (by omega)), nI_1]
    rfl
  | succ k ih =>
    intro i n hi hn
    obtain ⟨n, rfl⟩ : ∃ x, n = x + 1 := ⟨n - 1, by omega⟩
    rw [e_X3_firstHalves_b14, H.f1, Option.bind_some, if_neg (nI_ge (by omega) (by omega)), H.f10, Option.bind_some, H.kn v ha, Option.bind_some, Option.bind_some, H.kn v (by omega), Option.bind_some, nI_1, ih (i + 1) n (by omega) (by omega), sHf1, z10ab]
    by_cases c : nI (m (23 + a)) &&& nI (m (23 + i)) = 0
    · rw [if_pos c, if_neg (by simp [sH, c])]
    · rw [if_neg c, if_pos (by simp [sH, c])]
theorem c_hf_b2 {r : Nat} (H : zMi h r th dg m) (v : vM m) : ∀ (k i n : Nat), i + k = m 0 → k < n → f_X3_firstHalves_b2 h n r (nI i) = some (zno (sHf2 m k i)) := by
  intro k
  have h5 := v.1
  induction k with
  | zero =>
    intro i n hi hn
    obtain ⟨n, rfl⟩ : ∃ x, n = x + 1 := ⟨n - 1, by omega⟩
    rw [e_X3_firstHalves_b2, H.f1, Option.bind_some, if_pos (nI_le (by omega) (by omega))]
    rfl
  | succ k ih =>
    intro i n hi hn
    obtain ⟨n, rfl⟩ : ∃ x, n = x + 1 := ⟨n - 1, by omega⟩
    rw [e_X3_firstHalves_b2, H.f1, Option.bind_some, if_neg (nI_ge (by omega) (by omega)), zLet_eq, nI_1, c_hf_b14 H v _ (by omega) k (i + 1) zF (by omega) (by show k < 5000; omega), sHf2]
    cases sHf1 m i k (i + 1) with
    | some x => rfl
    | none => exact ih (i + 1) n (by omega) (by omega)
theorem r_b85_0 (K : Nat → Int32 → Int32 → Int32 → Int32 → Option Int32) (K2 : Nat → Int32 → Int32 → Int32 → Int32 → Int32 → Option Int32) (r : Nat) (a1 a2 a3 a4 a5 : Int32) : f_X8_halves_b85 h K K2 r a1 a2 a3 a4 a5 0 = K2 r a1 (a2 + 0) a3 a4 (a5 + 1) := rfl
theorem r_b85_1 (K : Nat → Int32 → Int32 → Int32 → Int32 → Option Int32) (K2 : Nat → Int32 → Int32 → Int32 → Int32 → Int32 → Option Int32) (r : Nat) (a1 a2 a3 a4 a5 : Int32) : f_X8_halves_b85 h K K2 r a1 a2 a3 a4 a5 1 = if a3 = -1000000 then K2 r a1 (a2 + 1) (((10 : Int32) * a4) + a5) a4 (a5 + 1) else K2 r a1 (a2 + 1) a3 a4 (a5 + 1) := rfl
theorem r_h_b45 (P : iP h fa st ac sz tr) (H : zMo h 245 dg m) (v : vM m) (K : Nat → Int32 → Int32 → Int32 → Int32 → Option Int32) (w : Int32) {a : Nat} (ha : a < m 0) : ∀ (k i n : Nat) (x : Int32) (f : Option Nat), i + k = m 0 → k < n → (∀ y, f = some y → y < 60) → f_X8_halves_b45 h K n 241 w x (zno f) (nI a) (nI i) = K 241 w (sHc1 m a k i x) (zno (zel f (sHf1 m a k i))) (nI (a + 1)) := by
  intro k
  have h5 := v.1
  induction k with
  | zero =>
    intro i n x f hi hn hf
    obtain ⟨n, rfl⟩ : ∃ x, n = x + 1 := ⟨n - 1, by omega⟩
    rw [e_X8_halves_b45, P.r4, Option.bind_some, H.f0, Option.bind_some, if_pos (nI_le (by omega) (by omega)), nI_1]
    cases f <;> rfl
  | succ k ih =>
    intro i n x f hi hn hf
    obtain ⟨n, rfl⟩ : ∃ x, n = x + 1 := ⟨n - 1, by omega⟩
    rw [e_X8_halves_b45, P.r4, Option.bind_some, H.f0, Option.bind_some, if_neg (nI_ge (by omega) (by omega)), Option.bind_some, H.kn v ha, Option.bind_some, Option.bind_some, H.kn v (by omega), Option.bind_some]
    rw [r_b85_0, r_b85_1, sHc1, sHf1, z10ab, nI_1]
    by_cases c : nI (m (23 + a)) &&& nI (m (23 + i)) = 0
    · have q : ¬ sH m a i = true := by unfold sH; simp [c]
      rw [if_pos c, if_neg q, if_neg q, Int32.add_zero]
      exact ih (i + 1) n x f (by omega) (by omega) hf
    · have q : sH m a i = true := by unfold sH; exact decide_eq_true c
      rw [if_neg c, if_pos q, if_pos q]
      cases f with
      | none =>
        rw [if_pos (show zno none = (-1000000 : Int32) from rfl)]
        exact ih (i + 1) n _ (some (10 * a + i)) (by omega) (by omega) (fun y hy => by cases hy; omega)
      | some y =>
        have hy := hf y rfl
        rw [if_neg (show ¬ zno (some y) = (-1000000 : Int32) from zno_ne (by omega))]
        exact ih (i + 1) n _ (some y) (by omega) (by omega) hf
theorem sHf1_lt {a : Nat} (ha : a < 5) : ∀ k i x, i + k ≤ 5 → sHf1 m a k i = some x → x < 60 := by
  intro k
  induction k with
  | zero => intro i x _ hx; cases hx
  | succ k ih =>
    intro i x hi hx
    rw [sHf1] at hx
    split at hx
    · cases hx; omega
    · exact ih _ _ (by omega) hx
theorem r_h_b28 (P : iP h fa st ac sz tr) (H : zMo h 245 dg m) (v : vM m) (w : Int32) : ∀ (k i n : Nat) (x : Int32) (f : Option Nat), i + k = m 0 → k < n → (∀ y, f = some y → y < 60) → f_X8_halves_b28 h n 241 w x (zno f) (nI i) = (if w = 0 then some (sHc2 m k i x) else some (zno (zel f (sHf2 m k i)))) := by
  intro k
  have h5 := v.1
  induction k with
  | zero =>
    intro i n x f hi hn hf
    obtain ⟨n, rfl⟩ : ∃ x, n = x + 1 := ⟨n - 1, by omega⟩
    rw [e_X8_halves_b28, P.r4, Option.bind_some, H.f0, Option.bind_some, if_pos (nI_le (by omega) (by omega))]
    cases f <;> rfl
  | succ k ih =>
    intro i n x f hi hn hf
    obtain ⟨n, rfl⟩ : ∃ x, n = x + 1 := ⟨n - 1, by omega⟩
    rw [e_X8_halves_b28, P.r4, Option.bind_some, H.f0, Option.bind_some, if_neg (nI_ge (by omega) (by omega)), zLet_eq, nI_1, r_h_b45 P H v _ w (by omega) k (i + 1) zF x f (by omega) (by show k < 5000; omega) hf, sHc2, sHf2]
    rw [ih (i + 1) n _ _ (by omega) (by omega) ?_]
    · cases f with
      | some y => rfl
      | none =>
        cases hq : sHf1 m i k (i + 1) with
        | none => rfl
        | some y => rfl
    · intro y hy
      cases f with
      | some z => exact hf y hy
      | none => exact sHf1_lt (by omega) k (i + 1) y (by omega) hy
end HALVES
theorem M_halves {h : zH} (I : INV h) (b : Int32) : zAlike (f_X7_halves 0 b) (f_X8_halves 241 b) h := by
  obtain ⟨fa, st, ac, sz, tr, th, dg, m, O, P, R, T, ⟨N7, N8, G⟩, A, Im, C, S, X, L⟩ := I
  have v := G.1
  have h5 := v.1
  unfold f_X7_halves f_X8_halves zAlike
  dsimp only
  simp only [O.r2, Option.bind_some, N7.f0, P.k, r_isMine P N8 v, c_isTwo, r_isTwo, N7.k]
  by_cases c : 0 < m 2
  · rw [if_neg (G.nz c), if_neg (zb_n c)]
    by_cases c2 : b = 0 ∨ b = 1
    · rw [if_neg (zb_n c2), if_neg (zb_n c2)]
      have e1 := c_hc_b4 N7 v (m 0) 0 zF 0 (by omega) (by show m 0 < 5000; omega)
      have e2 := c_hf_b2 N7 v (m 0) 0 zF (by omega) (by show m 0 < 5000; omega)
      have e3 := r_h_b28 P N8 v b (m 0) 0 zF 0 none (by omega) (by show m 0 < 5000; omega) (fun x hx => by cases hx)
      rw [show zno none = (-1000000 : Int32) from rfl] at e3
      rw [show nI 0 = (0 : Int32) from rfl] at e1 e2 e3
      unfold f_X3_countHalves f_X3_firstHalves
      rw [e1, e2, e3]
      rcases c2 with rfl | rfl
      · exact ⟨_, rfl, rfl⟩
      · exact ⟨_, rfl, rfl⟩
    · rw [if_pos (zb_f c2), if_pos (zb_f c2)]
      exact ⟨_, rfl, rfl⟩
  · rw [if_pos (G.z c), if_pos (zb_f c)]
    exact ⟨_, rfl, rfl⟩
