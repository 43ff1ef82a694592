/-! PURE: a year goes -/
/-- the depths of the first i things are as behind this year -/
def sPart (m : Nat → Nat) (i : Nat) : Nat → Nat := fun j => if 13 ≤ j ∧ j < 13 + i then m j - sRise m (j - 13) else m j
def sYear (m : Nat → Nat) : Nat → Nat := fun j => if j = 28 then m 28 + 1 else sPart m (m 0) j
/-- whether any of k things from i on rises -/
def sSt (m : Nat → Nat) : Nat → Nat → Bool
  | 0, _ => false
  | k + 1, i => decide (0 < sRise m i) || sSt m k (i + 1)
def mup (m : Nat → Nat) (j x : Nat) : Nat → Nat := fun k => if k = j then x else m k
theorem mup_s (m : Nat → Nat) (j x : Nat) : mup m j x j = x := if_pos rfl
theorem mup_n (m : Nat → Nat) {j k : Nat} (x : Nat) (h : k ≠ j) : mup m j x k = m k := if_neg h
theorem sPart_0 (m : Nat → Nat) : sPart m 0 = m := by
  funext j
  unfold sPart
  rw [if_neg (by omega)]
theorem sPart_s (m : Nat → Nat) (i : Nat) : sPart m (i + 1) = mup (sPart m i) (13 + i) (m (13 + i) - sRise m i) := by
  funext j
  unfold sPart mup
  by_cases e : j = 13 + i
  · subst e
    rw [if_pos (by omega), if_pos rfl]
    congr 2
    omega
  · rw [if_neg e]
    by_cases c : 13 ≤ j ∧ j < 13 + i
    · rw [if_pos (by omega)]
      dsimp only
      rw [if_pos c]
    · rw [if_neg (by omega)]
      dsimp only
      rw [if_neg c]
theorem sPart_z {m : Nat → Nat} {i : Nat} (h : sRise m i = 0) : sPart m (i + 1) = sPart m i := by
  rw [sPart_s]
  funext j
  unfold mup
  by_cases e : j = 13 + i
  · subst e
    rw [if_pos rfl, h]
    unfold sPart
    rw [if_neg (by omega)]
    rfl
  · rw [if_neg e]
theorem sPart_h (m : Nat → Nat) (i j : Nat) (h : j < 13 ∨ 18 ≤ j) (hi : i ≤ 5) : sPart m i j = m j := by
  unfold sPart
  rw [if_neg (by omega)]
theorem sPart_d (m : Nat → Nat) {i t : Nat} (h : i ≤ t) : sPart m i (13 + t) = m (13 + t) := by
  unfold sPart
  rw [if_neg (by omega)]
theorem sPart_v {m : Nat → Nat} (v : vM m) {i : Nat} (hi : i ≤ 5) : vM (sPart m i) := by
  obtain ⟨v0, v1, v2, v3, v4⟩ := v
  have h0 : sPart m i 0 = m 0 := sPart_h m i 0 (by omega) hi
  refine ⟨by rw [h0]; exact v0, by rw [sPart_h m i 1 (by omega) hi]; exact v1, by rw [sPart_h m i 2 (by omega) hi]; exact v2, by rw [sPart_h m i 28 (by omega) hi]; exact v3, fun t ht => ?_⟩
  rw [h0] at ht
  obtain ⟨a, b, c, d, e⟩ := v4 t ht
  refine ⟨by rw [sPart_h m i (3 + t) (by omega) hi]; exact a, by rw [sPart_h m i (8 + t) (by omega) hi]; exact b, ?_, by rw [sPart_h m i (18 + t) (by omega) hi]; exact d, by rw [sPart_h m i (23 + t) (by omega) hi]; exact e⟩
  unfold sPart
  split <;> omega
theorem sYear_0 (m : Nat → Nat) (hm : m 0 ≤ 5) : sYear m 0 = m 0 := by
  show sPart m (m 0) 0 = m 0
  exact sPart_h m _ 0 (by omega) hm
theorem sYear_v {m : Nat → Nat} (v : vM m) (hy : m 28 < 5000) : vM (sYear m) := by
  have w := sPart_v v v.1
  obtain ⟨v0, v1, v2, v3, v4⟩ := w
  refine ⟨v0, v1, v2, ?_, fun t ht => ?_⟩
  · show m 28 + 1 ≤ 5000
    omega
  · have ht2 : t < m 0 := by rw [← sYear_0 m v.1]; exact ht
    have h5 := v.1
    have e : ∀ j, j ≠ 28 → sYear m j = sPart m (m 0) j := fun j hj => by unfold sYear; rw [if_neg hj]
    rw [e _ (by omega), e _ (by omega), e _ (by omega), e _ (by omega), e _ (by omega)]
    exact v4 t (by rw [sPart_h m _ 0 (by omega) v.1]; exact ht2)
/-- a row's place is written -/
theorem zAr.st {h : zH} {k N : Nat} {g : Nat → Nat} (H : zAr h k N g) {i x : Nat} (hi : i < 5) : ∃ e, zS h 0 k (nI i) (nI x) = some (h.set k e) ∧ ∀ N', (∀ t, t < N' → t < N ∨ t = i) → zAr (h.set k e) k N' (mup g i x) := by
  obtain ⟨f, he, hf⟩ := H
  refine ⟨_, zS_of he hi (by omega), fun N' hN => ⟨_, zset_eq he, fun t ht => ?_⟩⟩
  unfold upd
  by_cases c : t = i
  · rw [if_pos c, c, mup_s]
  · rw [if_neg c, mup_n _ _ c]
    exact hf t (by have := hN t ht; omega)
theorem zAr.cg {h : zH} {k N : Nat} {g g' : Nat → Nat} (H : zAr h k N g) (e : ∀ t, t < N → g t = g' t) : zAr h k N g' := by
  obtain ⟨f, he, hf⟩ := H
  exact ⟨f, he, fun t ht => by rw [hf t ht, e t ht]⟩
theorem zAr.le {h : zH} {k N N' : Nat} {g : Nat → Nat} (H : zAr h k N g) (e : N' ≤ N) : zAr h k N' g := by
  obtain ⟨f, he, hf⟩ := H
  exact ⟨f, he, fun t ht => hf t (by omega)⟩
section YEAR
variable {r : Nat} {th dg : Int32} {m : Nat → Nat}
/-- only the row of rises is another one -/
theorem zMi.rs {h : zH} (H : zMi h r th dg m) {e : zE} {g : Nat → Nat} (he : zAr (h.set (r + 6) e) (r + 6) 0 g) : zMi (h.set (r + 6) e) r th dg m := by
  obtain ⟨h0, h1, h2, h3, h4, h5, h6⟩ := H
  exact ⟨by rw [zset_ne (by omega)]; exact h0, h1.keep (zset_ne (by omega)), h2.keep (zset_ne (by omega)), h3.keep (zset_ne (by omega)), h4.keep (zset_ne (by omega)), h5.keep (zset_ne (by omega)), he.cg (fun t ht => by omega)⟩
theorem c_year_b4 : ∀ (k i n : Nat) (h : zH) (a1 : Int32), vM m → i + k = m 0 → k < n → zMi h r th dg m → zAr h (r + 6) i (sRise m) → ∃ h', f_X3_passYear_b4 n r a1 (nI i) h = f_X3_passYear_b31 zF r a1 (nI 0) h' ∧ zMi h' r th dg m ∧ zAr h' (r + 6) (m 0) (sRise m) ∧ zFr h h' r 7 := by
  intro k
  induction k with
  | zero =>
    intro i n h a1 v hi hn H A
    have h5 := v.1
    obtain ⟨n, rfl⟩ : ∃ x, n = x + 1 := ⟨n - 1, by omega⟩
    rw [e_X3_passYear_b4, H.f1, Option.bind_some, if_pos (nI_le (by omega) (by omega))]
    exact ⟨h, rfl, H, by rw [show m 0 = i by omega]; exact A, zFr.rf⟩
  | succ k ih =>
    intro i n h a1 v hi hn H A
    have h5 := v.1
    obtain ⟨n, rfl⟩ : ∃ x, n = x + 1 := ⟨n - 1, by omega⟩
    obtain ⟨e, he, hA⟩ := A.st (i := i) (x := sRise m i) (by omega)
    rw [e_X3_passYear_b4, H.f1, Option.bind_some, if_neg (nI_ge (by omega) (by omega)), H.f11, Option.bind_some, H.k, Option.bind_some, c_rise H v (by omega), Option.bind_some, he, Option.bind_some, nI_1]
    obtain ⟨h', e1, H', A', F⟩ := ih (i + 1) n (h.set (r + 6) e) a1 v (by omega) (by omega) (H.rs (hA 0 (fun t ht => by omega))) ((hA (i + 1) (fun t ht => by omega)).cg (fun t ht => by
      by_cases c : t = i
      · rw [c, mup_s]
      · rw [mup_n _ _ c]))
    exact ⟨h', e1, H', A', (zFr.set (by omega) (by omega)).tr F⟩
theorem zMi.dp {h : zH} (H : zMi h r th dg m) (h5 : m 0 ≤ 5) {i x : Nat} (hi : i < m 0) : ∃ e, zS h 0 (r + 2) (nI i) (nI x) = some (h.set (r + 2) e) ∧ zMi (h.set (r + 2) e) r th dg (mup m (13 + i) x) := by
  obtain ⟨h0, h1, h2, h3, h4, hk, h6⟩ := H
  obtain ⟨e, he, hA⟩ := h2.st (i := i) (x := x) (by omega)
  refine ⟨e, he, ?_⟩
  unfold zMi
  rw [mup_n m x (show (0 : Nat) ≠ 13 + i by omega), mup_n m x (show (1 : Nat) ≠ 13 + i by omega), mup_n m x (show (2 : Nat) ≠ 13 + i by omega), mup_n m x (show (28 : Nat) ≠ 13 + i by omega)]
  refine ⟨by rw [zset_ne (by omega)]; exact h0, (h1.keep (zset_ne (by omega))).cg (fun t ht => ?_), ((hA (m 0) (fun t ht => Or.inl ht))).cg (fun t ht => ?_), (h3.keep (zset_ne (by omega))).cg (fun t ht => ?_), (h4.keep (zset_ne (by omega))).cg (fun t ht => ?_), (hk.keep (zset_ne (by omega))).cg (fun t ht => ?_), h6.keep (zset_ne (by omega))⟩
  · rw [mup_n m x (by omega)]
  · by_cases c : t = i
    · rw [c, mup_s, mup_s]
    · rw [mup_n _ _ c, mup_n m x (by omega)]
  · rw [mup_n m x (by omega)]
  · rw [mup_n m x (by omega)]
  · rw [mup_n m x (by omega)]
theorem zMi.yr {h : zH} (H : zMi h r th dg m) (h5 : m 0 ≤ 5) {x : Nat} : ∃ e, zP h r 3 4 (.int (nI x)) = some (h.set r e) ∧ zMi (h.set r e) r th dg (mup m 28 x) := by
  obtain ⟨h0, h1, h2, h3, h4, hk, h6⟩ := H
  refine ⟨_, zP_of h0 (by simp), ?_⟩
  unfold zMi
  rw [mup_n m x (show (0 : Nat) ≠ 28 by omega), mup_n m x (show (1 : Nat) ≠ 28 by omega), mup_n m x (show (2 : Nat) ≠ 28 by omega), mup_s]
  refine ⟨by rw [zset_eq h0]; rfl, (h1.keep (zset_ne (by omega))).cg (fun t ht => ?_), (h2.keep (zset_ne (by omega))).cg (fun t ht => ?_), (h3.keep (zset_ne (by omega))).cg (fun t ht => ?_), (h4.keep (zset_ne (by omega))).cg (fun t ht => ?_), (hk.keep (zset_ne (by omega))).cg (fun t ht => ?_), h6.keep (zset_ne (by omega))⟩
  all_goals rw [mup_n m x (by omega)]
theorem c_year_b31 (v : vM m) : ∀ (k i n : Nat) (h : zH) (st : Bool), i + k = m 0 → k < n → zMi h r th dg (sPart m i) → zAr h (r + 6) (m 0) (sRise m) → ∃ h', f_X3_passYear_b31 n r (zb (st = true)) (nI i) h = some (zb ((st || sSt m k i) = true), h') ∧ zMi h' r th dg (sYear m) ∧ zFr h h' r 7 := by
  intro k
  have h5 := v.1
  have hy := v.2.2.2.1
  induction k with
  | zero =>
    intro i n h st hi hn H A
    obtain ⟨n, rfl⟩ : ∃ x, n = x + 1 := ⟨n - 1, by omega⟩
    have p0 : sPart m i 0 = m 0 := sPart_h m i 0 (by omega) (by omega)
    have p28 : sPart m i 28 = m 28 := sPart_h m i 28 (by omega) (by omega)
    obtain ⟨e, he, H'⟩ := H.yr (by rw [p0]; exact h5) (x := m 28 + 1)
    rw [e_X3_passYear_b31, H.f1, p0, Option.bind_some, if_pos (nI_le (by omega) (by omega)), H.f4, p28, Option.bind_some, nI_1, he, Option.bind_some, zb_B, Option.bind_some]
    refine ⟨h.set r e, ?_, ?_, zFr.set (by omega) (by omega)⟩
    · rw [sSt, Bool.or_false]
    · have e9 : sYear m = mup (sPart m i) 28 (m 28 + 1) := by
        funext j
        unfold sYear mup
        rw [show m 0 = i by omega]
      rw [e9]
      exact H'
  | succ k ih =>
    intro i n h st hi hn H A
    obtain ⟨n, rfl⟩ : ∃ x, n = x + 1 := ⟨n - 1, by omega⟩
    have p0 : sPart m i 0 = m 0 := sPart_h m i 0 (by omega) (by omega)
    have pv : vM (sPart m i) := sPart_v v (by omega)
    have hr := sRise_le m i
    have hd : m (13 + i) ≤ 40 := (v.2.2.2.2 i (by omega)).2.2.1
    rw [e_X3_passYear_b31, H.f1, p0, Option.bind_some, if_neg (nI_ge (by omega) (by omega)), H.f11, Option.bind_some, A.ld (by omega) (by omega), Option.bind_some, nI_1]
    by_cases c : sRise m i = 0
    · rw [if_pos (by rw [c]; decide)]
      obtain ⟨h', e1, H', F⟩ := ih (i + 1) n h st (by omega) (by omega) (by rw [sPart_z c]; exact H) A
      refine ⟨h', ?_, H', F⟩
      rw [e1, sSt, c]
      rfl
    · rw [if_neg (nI_nle (by omega) (by omega)), H.f7, Option.bind_some, H.de pv (by rw [p0]; omega), Option.bind_some, Option.bind_some, A.ld (by omega) (by omega), Option.bind_some, sPart_d m (Nat.le_refl i), pk_sub hr.1]
      obtain ⟨e, he, H2⟩ := H.dp (by rw [p0]; exact h5) (i := i) (x := m (13 + i) - sRise m i) (by rw [p0]; omega)
      rw [he, Option.bind_some]
      obtain ⟨h', e1, H', F⟩ := ih (i + 1) n (h.set (r + 2) e) true (by omega) (by omega) (by rw [sPart_s]; exact H2) (A.keep (zset_ne (by omega)))
      refine ⟨h', ?_, H', (zFr.set (by omega) (by omega)).tr F⟩
      refine e1.trans ?_
      rw [sSt]
      have c2 : 0 < sRise m i := by omega
      simp [c2]
theorem c_year {h : zH} (H : zMi h r th dg m) (v : vM m) : ∃ h', f_X3_passYear r h = some (zb (sSt m (m 0) 0 = true), h') ∧ zMi h' r th dg (sYear m) ∧ zFr h h' r 7 := by
  have h5 := v.1
  obtain ⟨h1, e1, H1, A1, F1⟩ := c_year_b4 (m 0) 0 zF h 0 v (by omega) (by show m 0 < 5000; omega) H (H.2.2.2.2.2.2.cg (fun t ht => by omega))
  obtain ⟨h2, e2, H2, F2⟩ := c_year_b31 v (m 0) 0 zF h1 false (by omega) (by show m 0 < 5000; omega) (by rw [sPart_0]; exact H1) A1
  refine ⟨h2, ?_, H2, F1.tr F2⟩
  unfold f_X3_passYear
  refine e1.trans (e2.trans ?_)
  rw [Bool.false_or]
end YEAR
section YEAR8
variable {q : Nat} {dg : Int32} {m : Nat → Nat}
theorem zMo.st {h : zH} (H : zMo h q dg m) {j x : Nat} (hj : j < 29) (h0 : j ≠ 0) : ∃ e, zS h 0 q (nI j) (nI x) = some (h.set q e) ∧ zMo (h.set q e) q dg (mup m j x) := by
  obtain ⟨f, he, hf0, hf1, hf2, hf28, hf29, hg⟩ := H
  refine ⟨_, zS_of he (by omega) (by omega), _, zset_eq he, ?_⟩
  have key : ∀ k, f k = nI (m k) → upd f j (nI x) k = nI (mup m j x k) := by
    intro k hk
    unfold upd mup
    by_cases c : k = j
    · rw [if_pos c, if_pos c]
    · rw [if_neg c, if_neg c, hk]
  refine ⟨key 0 hf0, key 1 hf1, key 2 hf2, key 28 hf28, ?_, fun t ht => ?_⟩
  · unfold upd
    rw [if_neg (by omega)]
    exact hf29
  · have ht2 : t < m 0 := by
      rw [mup_n m x (fun z => h0 z.symm)] at ht
      exact ht
    obtain ⟨a, b, c, d, e⟩ := hg t ht2
    exact ⟨key _ a, key _ b, key _ c, key _ d, key _ e⟩
theorem r_year_b2 (v : vM m) {p R : Nat} (hqR : q ≠ R) (hp : p ≠ R) : ∀ (k i n : Nat) (h : zH), i + k = m 0 → k < n → zMo h q dg m → zR h p 8 21 = some R → zAr h R i (sRise m) → ∃ h', f_X8_yearGoes_b2 n p q (nI i) h = f_X8_yearGoes_b28 zF p q (nI 0) h' ∧ zMo h' q dg m ∧ zR h' p 8 21 = some R ∧ zAr h' R (m 0) (sRise m) ∧ ∀ j, j ≠ R → h'[j]? = h[j]? := by
  intro k
  have h5 := v.1
  induction k with
  | zero =>
    intro i n h hi hn H hR A
    obtain ⟨n, rfl⟩ : ∃ x, n = x + 1 := ⟨n - 1, by omega⟩
    rw [e_X8_yearGoes_b2, H.f0, Option.bind_some, if_pos (nI_le (by omega) (by omega))]
    exact ⟨h, rfl, H, hR, by rw [show m 0 = i by omega]; exact A, fun _ _ => rfl⟩
  | succ k ih =>
    intro i n h hi hn H hR A
    obtain ⟨n, rfl⟩ : ∃ x, n = x + 1 := ⟨n - 1, by omega⟩
    obtain ⟨e, he, hA⟩ := A.st (i := i) (x := sRise m i) (by omega)
    rw [e_X8_yearGoes_b2, H.f0, Option.bind_some, if_neg (nI_ge (by omega) (by omega)), hR, Option.bind_some, r_rise H v (by omega), Option.bind_some, he, Option.bind_some, nI_1]
    obtain ⟨h', e1, H', hR', A', F⟩ := ih (i + 1) n (h.set R e) (by omega) (by omega) (H.keep (zset_ne hqR)) (by rw [zR_set hp]; exact hR) ((hA (i + 1) (fun t ht => by omega)).cg (fun t ht => by
      by_cases c : t = i
      · rw [c, mup_s]
      · rw [mup_n _ _ c]))
    exact ⟨h', e1, H', hR', A', fun j hj => (F j hj).trans (zset_ne hj)⟩
theorem r_year_b28 (v : vM m) {p R : Nat} (hqR : q ≠ R) (hp : p ≠ R) (hpq : p ≠ q) : ∀ (k i n : Nat) (h : zH), i + k = m 0 → k < n → zMo h q dg (sPart m i) → zR h p 8 21 = some R → zAr h R (m 0) (sRise m) → ∃ h', f_X8_yearGoes_b28 n p q (nI i) h = some h' ∧ zMo h' q dg (sYear m) ∧ ∀ j, j ≠ q → h'[j]? = h[j]? := by
  intro k
  have h5 := v.1
  have hy := v.2.2.2.1
  induction k with
  | zero =>
    intro i n h hi hn H hR A
    obtain ⟨n, rfl⟩ : ∃ x, n = x + 1 := ⟨n - 1, by omega⟩
    have p0 : sPart m i 0 = m 0 := sPart_h m i 0 (by omega) (by omega)
    have p28 : sPart m i 28 = m 28 := sPart_h m i 28 (by omega) (by omega)
    obtain ⟨e, he, H'⟩ := H.st (j := 28) (x := m 28 + 1) (by omega) (by omega)
    rw [e_X8_yearGoes_b28, H.f0, p0, Option.bind_some, if_pos (nI_le (by omega) (by omega)), H.f28, p28, Option.bind_some, nI_1, z28, he, Option.bind_some]
    refine ⟨_, rfl, ?_, fun j hj => zset_ne hj⟩
    have e9 : sYear m = mup (sPart m i) 28 (m 28 + 1) := by
      funext j
      unfold sYear mup
      rw [show m 0 = i by omega]
    rw [e9]
    exact H'
  | succ k ih =>
    intro i n h hi hn H hR A
    obtain ⟨n, rfl⟩ : ∃ x, n = x + 1 := ⟨n - 1, by omega⟩
    have p0 : sPart m i 0 = m 0 := sPart_h m i 0 (by omega) (by omega)
    have pv : vM (sPart m i) := sPart_v v (by omega)
    have hr := sRise_le m i
    rw [e_X8_yearGoes_b28, H.f0, p0, Option.bind_some, if_neg (nI_ge (by omega) (by omega)), H.de pv (by rw [p0]; omega), Option.bind_some, hR, Option.bind_some, A.ld (by omega) (by omega), Option.bind_some, sPart_d m (Nat.le_refl i), pk_sub hr.1, z13, nI_add, nI_1]
    obtain ⟨e, he, H2⟩ := H.st (j := 13 + i) (x := m (13 + i) - sRise m i) (by omega) (by omega)
    rw [he, Option.bind_some]
    obtain ⟨h', e1, H', F⟩ := ih (i + 1) n (h.set q e) (by omega) (by omega) (by rw [sPart_s]; exact H2) (by rw [zR_set hpq]; exact hR) (A.keep (zset_ne (Ne.symm hqR)))
    exact ⟨h', e1, H', fun j hj => (F j hj).trans (zset_ne hj)⟩
theorem r_year {h : zH} {p R : Nat} (H : zMo h q dg m) (v : vM m) (hqR : q ≠ R) (hp : p ≠ R) (hpq : p ≠ q) (hR : zR h p 8 21 = some R) {g : Nat → Nat} (A : zAr h R 0 g) : ∃ h', f_X8_yearGoes p q h = some h' ∧ zMo h' q dg (sYear m) ∧ zAr h' R 0 g ∧ ∀ j, j ≠ q → j ≠ R → h'[j]? = h[j]? := by
  have h5 := v.1
  obtain ⟨h1, e1, H1, hR1, A1, F1⟩ := r_year_b2 v hqR hp (m 0) 0 zF h (by omega) (by show m 0 < 5000; omega) H hR (A.cg (fun t ht => by omega))
  obtain ⟨h2, e2, H2, F2⟩ := r_year_b28 v hqR hp hpq (m 0) 0 zF h1 (by omega) (by show m 0 < 5000; omega) (by rw [sPart_0]; exact H1) hR1 A1
  refine ⟨h2, ?_, H2, ((A1.le (Nat.zero_le _)).cg (fun t ht => by omega)).keep (F2 R (Ne.symm hqR)), fun j h1 h2 => (F2 j h1).trans (F1 j h2)⟩
  unfold f_X8_yearGoes
  exact e1.trans e2
end YEAR8
