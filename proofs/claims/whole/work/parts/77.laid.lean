/-! PURE: laying, in numbers: what is alike, what costs what, the best way -/
theorem sPc_lt (n c t : Nat) : sPc n c t < 4 := Nat.mod_lt _ (by omega)
theorem sLaid_h (m : Nat → Nat) (c : Nat) {j : Nat} (h : j < 18 ∨ 23 ≤ j) (h5 : m 0 ≤ 5) : sLaid m c j = m j := by
  unfold sLaid
  rw [if_neg (by omega)]
theorem sLaid_p (m : Nat → Nat) (c : Nat) {t : Nat} (ht : t < m 0) : sLaid m c (18 + t) = sPc (m 0) c t := by
  unfold sLaid
  rw [if_pos (by omega), Nat.add_sub_cancel_left]
theorem sLaid_v {m : Nat → Nat} (v : vM m) (c : Nat) : vM (sLaid m c) := by
  obtain ⟨v0, v1, v2, v3, v4⟩ := v
  have e : ∀ j, j < 18 ∨ 23 ≤ j → sLaid m c j = m j := fun j hj => sLaid_h m c hj v0
  refine ⟨by rw [e 0 (by omega)]; exact v0, by rw [e 1 (by omega)]; exact v1, by rw [e 2 (by omega)]; exact v2, by rw [e 28 (by omega)]; exact v3, fun t ht => ?_⟩
  rw [e 0 (by omega)] at ht
  obtain ⟨a, b, c', d, f⟩ := v4 t ht
  have := sPc_lt (m 0) c t
  refine ⟨by rw [e _ (by omega)]; exact a, by rw [e _ (by omega)]; exact b, by rw [e _ (by omega)]; exact c', by rw [sLaid_p m c ht]; omega, by rw [e _ (by omega)]; exact f⟩
theorem sYear_h (m : Nat → Nat) {j : Nat} (h : j < 13 ∨ 18 ≤ j) (h28 : j ≠ 28) (h5 : m 0 ≤ 5) : sYear m j = m j := by
  unfold sYear
  rw [if_neg h28]
  exact sPart_h m _ j h h5
theorem sYear_d (m : Nat → Nat) {t : Nat} (ht : t < m 0) (h5 : m 0 ≤ 5) : sYear m (13 + t) = m (13 + t) - sRise m t := by
  unfold sYear
  rw [if_neg (by omega)]
  unfold sPart
  rw [if_pos (by omega), Nat.add_sub_cancel_left]
/-! looks alike -/
def sLk (m m' : Nat → Nat) : Prop := m 0 = m' 0 ∧ m 1 = m' 1 ∧ ∀ t, t < m 0 → m (13 + t) = m' (13 + t) ∧ m (18 + t) = m' (18 + t)
def sEq (m m' : Nat → Nat) : Prop := m 28 = m' 28 ∧ sLk m m' ∧ ∀ t, t < m 0 → m (3 + t) = m' (3 + t) ∧ m (8 + t) = m' (8 + t)
section LKCG
variable {m m' : Nat → Nat}
theorem sUp_cg (E : sLk m m') : ∀ (k i : Nat) (a : Int32), i + k ≤ m 0 → sUp m k i a = sUp m' k i a := by
  intro k
  induction k with
  | zero => exact fun _ _ _ => rfl
  | succ k ih =>
    intro i a hi
    rw [sUp, sUp, (E.2.2 i (by omega)).1, ih _ _ (by omega)]
theorem sTNb_cg (E : sLk m m') {a b : Nat} (ha : a < m 0) (hb : b < m 0) : sTNb m a b = sTNb m' a b := by
  obtain ⟨a1, a2⟩ := E.2.2 a ha
  obtain ⟨b1, b2⟩ := E.2.2 b hb
  have e1 := E.2.1
  unfold sTNb
  rw [← a1, ← a2, ← b1, ← b2, ← e1]
theorem sT1_cg (E : sLk m m') {a : Nat} (ha : a < m 0) : ∀ (k i : Nat), i + k ≤ m 0 → sT1 m a k i = sT1 m' a k i := by
  intro k
  induction k with
  | zero => exact fun _ _ => rfl
  | succ k ih =>
    intro i hi
    rw [sT1, sT1, sTNb_cg E ha (by omega), ih _ (by omega)]
theorem sT2_cg (E : sLk m m') : ∀ (k a : Nat), a + k ≤ m 0 → sT2 m k a = sT2 m' k a := by
  intro k
  induction k with
  | zero => exact fun _ _ => rfl
  | succ k ih =>
    intro a ha
    rw [sT2, sT2, sT1_cg E (by omega) k (a + 1) (by omega), ih _ (by omega)]
theorem sCov_cg (E : sLk m m') {t : Nat} (ht : t < m 0) : ∀ (k i : Nat), i + k ≤ m 0 → sCov m t k i = sCov m' t k i := by
  intro k
  induction k with
  | zero => exact fun _ _ => rfl
  | succ k ih =>
    intro i hi
    obtain ⟨a1, a2⟩ := E.2.2 t ht
    obtain ⟨b1, b2⟩ := E.2.2 i (by omega)
    rw [sCov, sCov, ih _ (by omega), ← a1, ← a2, ← b1, ← b2]
theorem sRise_cg (E : sEq m m') {t : Nat} (ht : t < m 0) : sRise m t = sRise m' t := by
  obtain ⟨e28, L, R⟩ := E
  obtain ⟨a1, a2⟩ := L.2.2 t ht
  obtain ⟨b1, b2⟩ := R t ht
  have e0 := L.1
  unfold sRise sIron
  rw [sCov_cg L ht (m 0) 0 (by omega), ← a1, ← b1, ← b2, ← e28, ← e0]
theorem sYear_cg (E : sEq m m') (h5 : m 0 ≤ 5) : sEq (sYear m) (sYear m') := by
  have h5' : m' 0 ≤ 5 := by rw [← E.2.1.1]; exact h5
  have n0 := sYear_0 m h5
  have n0' := sYear_0 m' h5'
  refine ⟨by rw [sYear_28, sYear_28, E.1], ⟨by rw [n0, n0']; exact E.2.1.1, by rw [sYear_h m (by omega) (by omega) h5, sYear_h m' (by omega) (by omega) h5']; exact E.2.1.2.1, fun t ht => ?_⟩, fun t ht => ?_⟩
  · rw [n0] at ht
    have ht' : t < m' 0 := by rw [← E.2.1.1]; exact ht
    obtain ⟨a1, a2⟩ := E.2.1.2.2 t ht
    rw [sYear_d m ht h5, sYear_d m' ht' h5', sYear_h m (by omega) (by omega) h5, sYear_h m' (by omega) (by omega) h5', sRise_cg E ht, a1]
    exact ⟨rfl, a2⟩
  · rw [n0] at ht
    rw [sYear_h m (by omega) (by omega) h5, sYear_h m' (by omega) (by omega) h5', sYear_h m (by omega) (by omega) h5, sYear_h m' (by omega) (by omega) h5']
    exact E.2.2 t ht
theorem sLaid_cg (E : sEq m m') (h5 : m 0 ≤ 5) (c : Nat) : sEq (sLaid m c) (sLaid m' c) := by
  have h5' : m' 0 ≤ 5 := by rw [← E.2.1.1]; exact h5
  have n0 := sLaid_h m c (j := 0) (by omega) h5
  have n0' := sLaid_h m' c (j := 0) (by omega) h5'
  refine ⟨by rw [sLaid_h m c (by omega) h5, sLaid_h m' c (by omega) h5']; exact E.1, ⟨by rw [n0, n0']; exact E.2.1.1, by rw [sLaid_h m c (by omega) h5, sLaid_h m' c (by omega) h5']; exact E.2.1.2.1, fun t ht => ?_⟩, fun t ht => ?_⟩
  · rw [n0] at ht
    have ht' : t < m' 0 := by rw [← E.2.1.1]; exact ht
    rw [sLaid_h m c (by omega) h5, sLaid_h m' c (by omega) h5', sLaid_p m c ht, sLaid_p m' c ht', E.2.1.1]
    exact ⟨(E.2.1.2.2 t ht).1, rfl⟩
  · rw [n0] at ht
    rw [sLaid_h m c (by omega) h5, sLaid_h m' c (by omega) h5', sLaid_h m c (by omega) h5, sLaid_h m' c (by omega) h5']
    exact E.2.2 t ht
theorem sMv_cg (E : sEq m m') (c : Nat) : ∀ (k t : Nat), t + k ≤ m 0 → sMv m c k t = sMv m' c k t := by
  intro k
  induction k with
  | zero => exact fun _ _ => rfl
  | succ k ih =>
    intro t ht
    obtain ⟨a1, a2⟩ := E.2.1.2.2 t (by omega)
    rw [sMv, sMv, ih _ (by omega), ← a1, ← a2, ← E.2.1.1]
end LKCG
theorem sOkY_cg (u : Int32) : ∀ (k : Nat) (m m' : Nat → Nat), sEq m m' → m 0 ≤ 5 → sOkY u k m = sOkY u k m' := by
  intro k
  induction k with
  | zero => exact fun _ _ _ _ => rfl
  | succ k ih =>
    intro m m' E h5
    rw [sOkY, sOkY, sT2_cg E.2.1 (m 0) 0 (by omega), sUp_cg E.2.1 (m 0) 0 0 (by omega), ih _ _ (sYear_cg E h5) (by rw [sYear_0 m h5]; exact h5), E.2.1.1]
section LKCG2
variable {m m' : Nat → Nat}
theorem sOk_cg (E : sEq m m') (h5 : m 0 ≤ 5) (d c : Nat) : sOk m d c = sOk m' d c := by
  unfold sOk
  rw [sOkY_cg _ (d + 1) _ _ (sLaid_cg E h5 c) (by rw [sLaid_h m c (by omega) h5]; exact h5), sUp_cg E.2.1 (m 0) 0 0 (by omega), E.2.1.1]
theorem sFind_cg (E : sEq m m') (h5 : m 0 ≤ 5) (d few : Nat) : ∀ (k c : Nat), sFind m d few k c = sFind m' d few k c := by
  intro k
  induction k with
  | zero => exact fun _ => rfl
  | succ k ih =>
    intro c
    rw [sFind, sFind, ih, sOk_cg E h5, sMv_cg E c (m 0) 0 (by omega), E.2.1.1]
theorem sFew_cg (E : sEq m m') (h5 : m 0 ≤ 5) (d : Nat) : ∀ (k few : Nat), sFew m d k few = sFew m' d k few := by
  intro k
  induction k with
  | zero => exact fun _ => rfl
  | succ k ih =>
    intro few
    rw [sFew, sFew, ih, sFind_cg E h5, E.2.1.1]
theorem sLay_cg (E : sEq m m') (h5 : m 0 ≤ 5) (d : Nat) : sLay m d = sLay m' d := by
  unfold sLay
  rw [sFew_cg E h5, E.2.1.1]
end LKCG2
/-! a year in which nothing rises -/
theorem sSt_z {m : Nat → Nat} : ∀ (k i : Nat), sSt m k i = false → ∀ t, i ≤ t → t < i + k → sRise m t = 0 := by
  intro k
  induction k with
  | zero => intro i h t h1 h2; omega
  | succ k ih =>
    intro i h t h1 h2
    rw [sSt, Bool.or_eq_false_iff] at h
    by_cases e : t = i
    · subst e
      have := of_decide_eq_false h.1
      omega
    · exact ih (i + 1) h.2 t (by omega) (by omega)
theorem sSt_lk {m : Nat → Nat} (h5 : m 0 ≤ 5) (h : sSt m (m 0) 0 = false) : sLk (sYear m) m := by
  refine ⟨sYear_0 m h5, sYear_h m (by omega) (by omega) h5, fun t ht => ?_⟩
  rw [sYear_0 m h5] at ht
  rw [sYear_d m ht h5, sYear_h m (by omega) (by omega) h5, sSt_z _ _ h t (by omega) (by omega)]
  exact ⟨rfl, rfl⟩
/-! but clay ones rise wherever they lie -/
def sNc (m m' : Nat → Nat) : Prop := m 0 = m' 0 ∧ m 28 = m' 28 ∧ ∀ t, t < m 0 → m (3 + t) = m' (3 + t) ∧ m (8 + t) = m' (8 + t) ∧ (m (3 + t) ≠ 2 → m (13 + t) = m' (13 + t))
theorem sNc_rise {m m' : Nat → Nat} (E : sNc m m') {t : Nat} (ht : t < m 0) (h2 : m (3 + t) ≠ 2) : sRise m t = sRise m' t := by
  obtain ⟨a1, a2, a3⟩ := E.2.2 t ht
  have a4 := a3 h2
  have h2' : m' (3 + t) ≠ 2 := by rw [← a1]; exact h2
  have e28 := E.2.1
  unfold sRise sIron
  rw [if_neg h2, if_neg h2', ← a1, ← a2, ← a4, ← e28]
theorem sNc_year {m m' : Nat → Nat} (E : sNc m m') (h5 : m 0 ≤ 5) : sNc (sYear m) (sYear m') := by
  have h5' : m' 0 ≤ 5 := by rw [← E.1]; exact h5
  refine ⟨by rw [sYear_0 m h5, sYear_0 m' h5']; exact E.1, by rw [sYear_28, sYear_28, E.2.1], fun t ht => ?_⟩
  rw [sYear_0 m h5] at ht
  have ht' : t < m' 0 := by rw [← E.1]; exact ht
  obtain ⟨a1, a2, a3⟩ := E.2.2 t ht
  rw [sYear_h m (by omega) (by omega) h5, sYear_h m' (by omega) (by omega) h5', sYear_h m (by omega) (by omega) h5, sYear_h m' (by omega) (by omega) h5']
  refine ⟨a1, a2, fun h2 => ?_⟩
  rw [sYear_d m ht h5, sYear_d m' ht' h5', sNc_rise E ht h2, a3 h2]
theorem sNc_it : ∀ (d : Nat) (m m' : Nat → Nat), sNc m m' → m 0 ≤ 5 → sNc (sIt m d) (sIt m' d) := by
  intro d
  induction d with
  | zero => exact fun _ _ E _ => E
  | succ d ih =>
    intro m m' E h5
    exact ih _ _ (sNc_year E h5) (by rw [sYear_0 m h5]; exact h5)
theorem sIt_h : ∀ (d : Nat) (m : Nat → Nat) {j : Nat}, j < 13 → m 0 ≤ 5 → sIt m d j = m j := by
  intro d
  induction d with
  | zero => exact fun _ _ _ _ => rfl
  | succ d ih =>
    intro m j hj h5
    exact (ih (sYear m) hj (by rw [sYear_0 m h5]; exact h5)).trans (sYear_h m (by omega) (by omega) h5)
theorem sOkY_it (u : Int32) : ∀ (K : Nat) (m : Nat → Nat) (y : Nat), sOkY u K m = true → y < K → sUp (sIt m y) (sIt m y 0) 0 0 = u := by
  intro K
  induction K with
  | zero => intro m y _ h; omega
  | succ K ih =>
    intro m y h hy
    rw [sOkY, Bool.and_eq_true, Bool.and_eq_true] at h
    cases y with
    | zero => exact of_decide_eq_true h.1.2
    | succ y => exact ih (sYear m) y h.2 (by omega)
/-- one that is no clay one comes up, from i on -/
def sRU (m : Nat → Nat) (d : Nat) : Nat → Nat → Bool
  | 0, _ => false
  | k + 1, i => (decide (m (3 + i) ≠ 2) && decide (m (13 + i) ≠ 0) && decide (sIt m d (13 + i) = 0)) || sRU m d k (i + 1)
theorem sRU_t {m : Nat → Nat} {d : Nat} : ∀ (k i : Nat), sRU m d k i = true → ∃ t, t < i + k ∧ m (3 + t) ≠ 2 ∧ m (13 + t) ≠ 0 ∧ sIt m d (13 + t) = 0 := by
  intro k
  induction k with
  | zero => intro i h; cases h
  | succ k ih =>
    intro i h
    rw [sRU, Bool.or_eq_true, Bool.and_eq_true, Bool.and_eq_true] at h
    rcases h with h | h
    · exact ⟨i, by omega, of_decide_eq_true h.1.1, of_decide_eq_true h.1.2, of_decide_eq_true h.2⟩
    · obtain ⟨t, h1, h2⟩ := ih (i + 1) h
      exact ⟨t, by omega, h2⟩
theorem sRU_ok {m : Nat → Nat} {d : Nat} (h5 : m 0 ≤ 5) (h : sRU m d (m 0) 0 = true) (c : Nat) : ¬ sOk m d c = true := by
  intro q
  obtain ⟨t, ht, h2, h0, hd⟩ := sRU_t _ _ h
  rw [Nat.zero_add] at ht
  have n0 : sLaid m c 0 = m 0 := sLaid_h m c (by omega) h5
  have E : sNc m (sLaid m c) := ⟨n0.symm, (sLaid_h m c (by omega) h5).symm, fun t ht => ⟨(sLaid_h m c (by omega) h5).symm, (sLaid_h m c (by omega) h5).symm, fun _ => (sLaid_h m c (by omega) h5).symm⟩⟩
  have E2 := sNc_it d _ _ E h5
  have k0 : sIt m d 0 = m 0 := sIt_0 d m h5
  have k1 : sIt (sLaid m c) d 0 = m 0 := by rw [← E2.1]; exact k0
  have hd2 : sIt (sLaid m c) d (13 + t) = 0 := by
    rw [← (E2.2.2 t (by rw [k0]; exact ht)).2.2 (by rw [sIt_h d m (by omega) h5]; exact h2)]
    exact hd
  have hu := sOkY_it _ (d + 1) _ d q (by omega)
  have b1 := sUp_has0 (m := sIt (sLaid m c) d) (t := t) (by rw [k1]; exact h5) (by rw [k1]; exact ht)
  rw [hu, sUp_has0 h5 ht, hd2] at b1
  simp [h0] at b1
theorem sFind_no {m : Nat → Nat} {d few : Nat} (h : ∀ c, ¬ sOk m d c = true) : ∀ (k c : Nat), sFind m d few k c = none := by
  intro k
  induction k with
  | zero => exact fun _ => rfl
  | succ k ih =>
    intro c
    rw [sFind, if_neg (fun q => h c q.2)]
    exact ih _
theorem sFew_no {m : Nat → Nat} {d : Nat} (h : ∀ c, ¬ sOk m d c = true) : ∀ (k few : Nat), sFew m d k few = none := by
  intro k
  induction k with
  | zero => exact fun _ => rfl
  | succ k ih =>
    intro few
    rw [sFew, sFind_no h]
    exact ih _
theorem sRU_lay {m : Nat → Nat} {d : Nat} (h5 : m 0 ≤ 5) (h : sRU m d (m 0) 0 = true) : sLay m d = none := sFew_no (sRU_ok h5 h) _ _
/-! what a way costs; the best one by costs is the first with fewest -/
def sCost (m : Nat → Nat) (c t : Nat) : Nat := if sPc (m 0) c t = m (18 + t) then 0 else if m (13 + t) = 0 then 1000000 else 1
def sTot (m : Nat → Nat) (c : Nat) : Nat → Nat → Nat
  | 0, _ => 0
  | k + 1, t => sCost m c t + sTot m c k (t + 1)
theorem sCost_le (m : Nat → Nat) (c t : Nat) : sCost m c t ≤ 1000000 := by
  unfold sCost
  split
  · omega
  · split <;> omega
theorem sTot_le (m : Nat → Nat) (c : Nat) : ∀ (k t : Nat), sTot m c k t ≤ k * 1000000 := by
  intro k
  induction k with
  | zero => exact fun _ => Nat.le_refl _
  | succ k ih =>
    intro t
    have := sCost_le m c t
    have := ih (t + 1)
    rw [sTot]
    omega
theorem sMv_some {m : Nat → Nat} {c : Nat} : ∀ (k t x : Nat), sMv m c k t = some x → sTot m c k t = x ∧ x ≤ k := by
  intro k
  induction k with
  | zero =>
    intro t x h
    rw [sMv] at h
    have := Option.some.inj h
    rw [sTot]
    omega
  | succ k ih =>
    intro t x h
    rw [sMv] at h
    rw [sTot, sCost]
    by_cases c1 : sPc (m 0) c t = m (18 + t)
    · rw [if_pos c1] at h ⊢
      have := ih _ _ h
      omega
    · rw [if_neg c1] at h ⊢
      by_cases c2 : m (13 + t) = 0
      · rw [if_pos c2] at h
        cases h
      · rw [if_neg c2] at h ⊢
        cases hs : sMv m c k (t + 1) with
        | none => rw [hs] at h; cases h
        | some y =>
          rw [hs] at h
          have h1 : y + 1 = x := Option.some.inj h
          have := ih _ _ hs
          omega
theorem sMv_of {m : Nat → Nat} {c : Nat} : ∀ (k t : Nat), sTot m c k t < 1000000 → sMv m c k t = some (sTot m c k t) := by
  intro k
  induction k with
  | zero => exact fun _ _ => rfl
  | succ k ih =>
    intro t h
    rw [sTot, sCost] at h ⊢
    rw [sMv]
    by_cases c1 : sPc (m 0) c t = m (18 + t)
    · rw [if_pos c1] at h ⊢
      rw [if_pos c1, ih _ (by omega), Nat.zero_add]
    · rw [if_neg c1] at h ⊢
      rw [if_neg c1]
      by_cases c2 : m (13 + t) = 0
      · rw [if_pos c2] at h
        omega
      · rw [if_neg c2] at h ⊢
        rw [if_neg c2, ih _ (by omega)]
        show some (sTot m c k (t + 1) + 1) = _
        rw [Nat.add_comm]
def sGd (m : Nat → Nat) (d few c : Nat) : Prop := sMv m c (m 0) 0 = some few ∧ sOk m d c = true
theorem sFind_some {m : Nat → Nat} {d few : Nat} : ∀ (k c x : Nat), sFind m d few k c = some x → sGd m d few x ∧ c ≤ x ∧ x < c + k ∧ ∀ y, c ≤ y → y < x → ¬ sGd m d few y := by
  intro k
  induction k with
  | zero => intro c x h; cases h
  | succ k ih =>
    intro c x h
    rw [sFind] at h
    by_cases g : sMv m c (m 0) 0 = some few ∧ sOk m d c = true
    · rw [if_pos g] at h
      have e : c = x := Option.some.inj h
      subst e
      exact ⟨g, Nat.le_refl _, by omega, fun y h1 h2 => by omega⟩
    · rw [if_neg g] at h
      obtain ⟨a, b, c', e⟩ := ih _ _ h
      refine ⟨a, by omega, by omega, fun y h1 h2 => ?_⟩
      by_cases q : y = c
      · subst q; exact g
      · exact e y (by omega) h2
theorem sFind_none {m : Nat → Nat} {d few : Nat} : ∀ (k c : Nat), sFind m d few k c = none → ∀ y, c ≤ y → y < c + k → ¬ sGd m d few y := by
  intro k
  induction k with
  | zero => intro c h y h1 h2; omega
  | succ k ih =>
    intro c h y h1 h2
    rw [sFind] at h
    by_cases g : sMv m c (m 0) 0 = some few ∧ sOk m d c = true
    · rw [if_pos g] at h
      cases h
    · rw [if_neg g] at h
      by_cases q : y = c
      · subst q; exact g
      · exact ih _ h y (by omega) (by omega)
theorem sFew_some {m : Nat → Nat} {d : Nat} : ∀ (k few f x : Nat), sFew m d k few = some (f, x) → few ≤ f ∧ f < few + k ∧ sGd m d f x ∧ x < 4 ^ m 0 ∧ (∀ y, y < x → ¬ sGd m d f y) ∧ ∀ g, few ≤ g → g < f → ∀ y, y < 4 ^ m 0 → ¬ sGd m d g y := by
  intro k
  induction k with
  | zero => intro few f x h; cases h
  | succ k ih =>
    intro few f x h
    rw [sFew] at h
    cases hs : sFind m d few (4 ^ m 0) 0 with
    | some c =>
      rw [hs] at h
      have e := Option.some.inj h
      have e1 : few = f := congrArg Prod.fst e
      have e2 : c = x := congrArg Prod.snd e
      subst e1
      subst e2
      obtain ⟨a, b, c', q⟩ := sFind_some _ _ _ hs
      exact ⟨Nat.le_refl _, by omega, a, by omega, fun y hy => q y (by omega) hy, fun g h1 h2 => by omega⟩
    | none =>
      rw [hs] at h
      obtain ⟨a, b, c', e, q, r⟩ := ih _ _ _ h
      refine ⟨by omega, by omega, c', e, q, fun g h1 h2 y hy => ?_⟩
      by_cases z : g = few
      · subst z
        exact sFind_none _ _ hs y (by omega) (by omega)
      · exact r g (by omega) h2 y hy
theorem sFew_none {m : Nat → Nat} {d : Nat} : ∀ (k few : Nat), sFew m d k few = none → ∀ g, few ≤ g → g < few + k → ∀ y, y < 4 ^ m 0 → ¬ sGd m d g y := by
  intro k
  induction k with
  | zero => intro few h g h1 h2; omega
  | succ k ih =>
    intro few h g h1 h2 y hy
    rw [sFew] at h
    cases hs : sFind m d few (4 ^ m 0) 0 with
    | some c =>
      rw [hs] at h
      cases h
    | none =>
      rw [hs] at h
      by_cases z : g = few
      · subst z
        exact sFind_none _ _ hs y (by omega) (by omega)
      · exact ih _ h g (by omega) (by omega) y hy
def sBn (b : Option (Nat × Nat)) : Nat := match b with
  | none => 1000000
  | some x => x.1
def sBet (m : Nat → Nat) (d c : Nat) (b : Option (Nat × Nat)) : Option (Nat × Nat) := if sTot m c (m 0) 0 < sBn b ∧ sOk m d c = true then some (sTot m c (m 0) 0, c) else b
def sRf (m : Nat → Nat) (d : Nat) : Nat → Nat → Option (Nat × Nat) → Option (Nat × Nat)
  | 0, _, b => b
  | k + 1, c, b => sRf m d k (c + 1) (sBet m d c b)
/-- the best of those below c -/
def sBst (m : Nat → Nat) (d c : Nat) (b : Option (Nat × Nat)) : Prop := match b with
  | none => ∀ y, y < c → ∀ g, ¬ sGd m d g y
  | some (f, x) => f ≤ m 0 ∧ x < c ∧ sGd m d f x ∧ (∀ y, y < c → ∀ g, sGd m d g y → f ≤ g) ∧ ∀ y, y < x → ¬ sGd m d f y
theorem sGd_u {m : Nat → Nat} {d g c : Nat} (h : sGd m d g c) : sTot m c (m 0) 0 = g ∧ g ≤ m 0 := sMv_some _ _ _ h.1
theorem sBet_st {m : Nat → Nat} {d c : Nat} {b : Option (Nat × Nat)} (h5 : m 0 ≤ 5) (B : sBst m d c b) : sBst m d (c + 1) (sBet m d c b) := by
  unfold sBet
  by_cases q : sTot m c (m 0) 0 < sBn b ∧ sOk m d c = true
  · rw [if_pos q]
    have lt : sTot m c (m 0) 0 < 1000000 := by
      cases b with
      | none => exact q.1
      | some x =>
        obtain ⟨f, x⟩ := x
        have h1 := B.1
        have h2 : sTot m c (m 0) 0 < f := q.1
        omega
    have G : sGd m d (sTot m c (m 0) 0) c := ⟨sMv_of _ _ lt, q.2⟩
    refine ⟨(sGd_u G).2, by omega, G, fun y hy g hg => ?_, fun y hy hg => ?_⟩
    · by_cases e : y = c
      · subst e
        exact Nat.le_of_eq (sGd_u hg).1
      · cases b with
        | none => exact absurd hg (B y (by omega) g)
        | some x =>
          obtain ⟨f, x⟩ := x
          have h2 : sTot m c (m 0) 0 < f := q.1
          have := B.2.2.2.1 y (by omega) g hg
          omega
    · cases b with
      | none => exact absurd hg (B y hy _)
      | some x =>
        obtain ⟨f, x⟩ := x
        have h2 : sTot m c (m 0) 0 < f := q.1
        have := B.2.2.2.1 y hy _ hg
        omega
  · rw [if_neg q]
    cases b with
    | none =>
      intro y hy g hg
      by_cases e : y = c
      · subst e
        have h1 := sGd_u hg
        exact q ⟨by show _ < 1000000; omega, hg.2⟩
      · exact B y (by omega) g hg
    | some x =>
      obtain ⟨f, x⟩ := x
      obtain ⟨a, b, c', e, r⟩ := B
      refine ⟨a, by omega, c', fun y hy g hg => ?_, r⟩
      by_cases z : y = c
      · subst z
        have h1 := sGd_u hg
        rcases Nat.lt_or_ge g f with h2 | h2
        · exact absurd ⟨by show _ < f; omega, hg.2⟩ q
        · exact h2
      · exact e y (by omega) g hg
theorem sRf_st {m : Nat → Nat} {d : Nat} (h5 : m 0 ≤ 5) : ∀ (k c : Nat) (b : Option (Nat × Nat)), sBst m d c b → sBst m d (c + k) (sRf m d k c b) := by
  intro k
  induction k with
  | zero => exact fun _ _ B => B
  | succ k ih =>
    intro c b B
    have := ih (c + 1) _ (sBet_st h5 B)
    rw [sRf, show c + (k + 1) = c + 1 + k by omega]
    exact this
theorem sRf_lay {m : Nat → Nat} {d : Nat} (h5 : m 0 ≤ 5) : sRf m d (4 ^ m 0) 0 none = sLay m d := by
  have B := sRf_st h5 (d := d) (4 ^ m 0) 0 none (fun y hy => by omega)
  rw [Nat.zero_add] at B
  unfold sLay
  cases hs : sFew m d (m 0 + 1) 0 with
  | none =>
    have N := sFew_none _ _ hs
    cases hr : sRf m d (4 ^ m 0) 0 none with
    | none => rfl
    | some x =>
      obtain ⟨f, x⟩ := x
      rw [hr] at B
      exact absurd B.2.2.1 (N f (by omega) (by have := B.1; omega) x B.2.1)
  | some w =>
    obtain ⟨g, w⟩ := w
    obtain ⟨a, b, G, hw, n1, n2⟩ := sFew_some _ _ _ _ hs
    cases hr : sRf m d (4 ^ m 0) 0 none with
    | none =>
      rw [hr] at B
      exact absurd G (B w hw g)
    | some x =>
      obtain ⟨f, x⟩ := x
      rw [hr] at B
      obtain ⟨b1, b2, b3, b4, b5⟩ := B
      have h1 := b4 w hw g G
      have h2 : g = f := by
        rcases Nat.lt_or_ge f g with z | z
        · exact absurd b3 (n2 f (by omega) z x b2)
        · omega
      subst h2
      have h3 : w = x := by
        rcases Nat.lt_or_ge x w with z | z
        · exact absurd b3 (n1 x z)
        · rcases Nat.lt_or_ge w x with y | y
          · exact absurd G (b5 w y)
          · omega
      rw [h3]
