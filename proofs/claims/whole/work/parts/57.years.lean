/-! PURE: years, bury, tell, undo, image, restore -/
def sAcN : Nat → Nat → Nat
  | 0, ac => ac
  | k + 1, ac => sAcN k (sAc ac)
def sDN (dg : Int32) : Nat → Nat → (Nat → Int32) → Nat → Int32
  | 0, _, D => D
  | k + 1, ac, D => sDN dg k (sAc ac) (sPush ac D dg)
def sMN : Nat → Nat → (Nat → Nat → Nat) → (Nat → Nat) → Nat → Nat → Nat
  | 0, _, M, _ => M
  | k + 1, ac, M, m => sMN k (sAc ac) (sPush ac M m) (sYear m)
theorem sYear_2 {m : Nat → Nat} (v : vM m) : sYear m 2 = m 2 := by
  show sPart m (m 0) 2 = m 2
  exact sPart_h m _ 2 (by omega) v.1
theorem gM.year {th : Int32} {m : Nat → Nat} (G : gM th m) (hy : m 28 < 999) : gM th (sYear m) := by
  have v := G.1
  refine ⟨sYear_v v (by omega), by rw [sYear_28]; omega, ?_⟩
  rw [sYear_2 v]
  exact G.2.2
theorem iAc.m5 {h : zH} {ac : Nat} {D : Nat → Int32} {M : Nat → Nat → Nat} (A : iAc h ac D M) : ac ≤ 24 ∧ ∀ j, j < ac → M j 0 ≤ 5 := by
  obtain ⟨hk, top, G, at_, ad, am, h1, h2, h3, h4, h6, h8⟩ := A
  refine ⟨hk, fun j hj => ?_⟩
  rw [← (h8 j hj).2]
  exact (h6 _ (by omega)).2.1.1
theorem sAc_le {ac : Nat} (h : ac ≤ 24) : sAc ac ≤ 24 := by unfold sAc; split <;> omega
theorem sPush5 {ac : Nat} {M : Nat → Nat → Nat} {m : Nat → Nat} (h : ∀ j, j < ac → M j 0 ≤ 5) (h5 : m 0 ≤ 5) : ∀ j, j < sAc ac → sPush ac M m j 0 ≤ 5 := by
  intro j hj
  unfold sPush
  unfold sAc at hj
  by_cases c : ac = 24
  · rw [if_pos c]
    split
    · exact h5
    · exact h _ (by rw [if_pos c] at hj; omega)
  · rw [if_neg c]
    split
    · exact h5
    · exact h _ (by rw [if_neg c] at hj; omega)
section YEARS
variable {th dg fa st sz tr : Int32}
theorem c_years_b47 {N : Nat} (hN : N ≤ 24) : ∀ (k i n : Nat) (h : zH) (m : Nat → Nat) (ac : Nat) (D : Nat → Int32) (M : Nat → Nat → Nat), i + k = N → k < n → gM th m → m 28 + k ≤ 999 → iO h fa st → iAc h ac D M → zMi h 15 th dg m → ∃ h', f_X7_years_b47 n 0 (nI N) (nI i) h = some (sUp (sIt m k) (sIt m k 0) 0 0, h') ∧ iAc h' (sAcN k ac) (sDN dg k ac D) (sMN k ac M m) ∧ zMi h' 15 th dg (sIt m k) ∧ gM th (sIt m k) ∧ ∀ j, (j < 15 ∨ (21 < j ∧ j < 29) ∨ 198 < j) → h'[j]? = h[j]? := by
  intro k
  induction k with
  | zero =>
    intro i n h m ac D M hi hn G hy O A H
    obtain ⟨n, rfl⟩ : ∃ x, n = x + 1 := ⟨n - 1, by omega⟩
    rw [e_X7_years_b47, if_pos (nI_le (by omega) (by omega)), O.r2, Option.bind_some, H.k, Option.bind_some, c_allUp H G.1, Option.bind_some]
    exact ⟨h, rfl, A, H, G, fun _ _ => rfl⟩
  | succ k ih =>
    intro i n h m ac D M hi hn G hy O A H
    obtain ⟨n, rfl⟩ : ∃ x, n = x + 1 := ⟨n - 1, by omega⟩
    obtain ⟨h1, e1, A1, F1⟩ := c_keep A H G
    have H1 : zMi h1 15 th dg m := H.keep (fun j _ _ => F1 j (by omega))
    have O1 : iO h1 fa st := O.keep (F1 _ (by omega))
    obtain ⟨h2, e2, H2, F2⟩ := c_year H1 G.1
    have A2 := A1.keep (h' := h2) (fun j hj => F2 j (by omega))
    have O2 : iO h2 fa st := O1.keep (F2 _ (by omega))
    rw [e_X7_years_b47, if_neg (nI_ge (by omega) (by omega)), O.r4, Option.bind_some, O.r2, Option.bind_some, A.k, Option.bind_some, e1, Option.bind_some, O1.r2, Option.bind_some, H1.k, Option.bind_some, e2, Option.bind_some, nI_1]
    obtain ⟨h3, e3, A3, H3, G3, F3⟩ := ih (i + 1) n h2 _ _ _ _ (by omega) (by omega) (G.year (by omega)) (by rw [sYear_28]; omega) O2 A2 H2
    exact ⟨h3, e3, A3, H3, G3, fun j hj => (F3 j hj).trans ((F2 j (by omega)).trans (F1 j (by omega)))⟩
theorem r_years_b45 {N : Nat} (hN : N ≤ 24) : ∀ (k i n : Nat) (h : zH) (m : Nat → Nat) (ac : Nat) (D : Nat → Int32) (M : Nat → Nat → Nat), i + k = N → k < n → vM m → m 28 + k ≤ 999 → iP h fa st (nI ac) sz tr → ac ≤ 24 → (∀ j, j < ac → M j 0 ≤ 5) → iAr h ac D M → zMo h 245 dg m → zAr h 253 0 (fun _ => 0) → ∃ h', f_X8_years_b45 n 241 (nI N) (nI i) h = some (sUp (sIt m k) (sIt m k 0) 0 0, h') ∧ iP h' fa st (nI (sAcN k ac)) sz tr ∧ iAr h' (sAcN k ac) (sDN dg k ac D) (sMN k ac M m) ∧ zMo h' 245 dg (sIt m k) ∧ zAr h' 253 0 (fun _ => 0) ∧ ∀ j, j ≠ 241 → j ≠ 245 → j ≠ 248 → j ≠ 253 → h'[j]? = h[j]? := by
  intro k
  induction k with
  | zero =>
    intro i n h m ac D M hi hn v hy P hac hM B H Z
    obtain ⟨n, rfl⟩ : ∃ x, n = x + 1 := ⟨n - 1, by omega⟩
    rw [e_X8_years_b45, if_pos (nI_le (by omega) (by omega)), P.r4, Option.bind_some, r_upOf H v, Option.bind_some]
    exact ⟨h, rfl, P, B, H, Z, fun _ _ _ _ _ => rfl⟩
  | succ k ih =>
    intro i n h m ac D M hi hn v hy P hac hM B H Z
    obtain ⟨n, rfl⟩ : ∃ x, n = x + 1 := ⟨n - 1, by omega⟩
    obtain ⟨h1, e1, P1, B1, F1⟩ := r_remember P B hac hM H v
    have H1 : zMo h1 245 dg m := H.keep (F1 _ (by omega) (by omega))
    have Z1 : zAr h1 253 0 (fun _ => 0) := Z.keep (F1 _ (by omega) (by omega))
    obtain ⟨h2, e2, H2, Z2, F2⟩ := r_year H1 v (R := 253) (by omega) (p := 241) (by omega) (by omega) P1.r21 Z1
    have P2 := P1.keep (h' := h2) (F2 _ (by omega) (by omega))
    have B2 := B1.keep (h' := h2) (F2 _ (by omega) (by omega))
    rw [e_X8_years_b45, if_neg (nI_ge (by omega) (by omega)), P.k, Option.bind_some, e1, Option.bind_some, P1.r4, Option.bind_some, P1.k, Option.bind_some, e2, Option.bind_some, nI_1]
    obtain ⟨h3, e3, P3, B3, H3, Z3, F3⟩ := ih (i + 1) n h2 _ _ _ _ (by omega) (by omega) (sYear_v v (by omega)) (by rw [sYear_28]; omega) P2 (sAc_le hac) (sPush5 hM v.1) B2 H2 Z2
    exact ⟨h3, e3, P3, B3, H3, Z3, fun j a b c d => (F3 j a b c d).trans ((F2 j b d).trans (F1 j a c))⟩
end YEARS
theorem iX.st {h h' : zH} (X : iX h) (F : ∀ j, (22 ≤ j ∧ j ≤ 28) ∨ j = 246 ∨ j = 247 ∨ j = 254 ∨ j = 255 → h'[j]? = h[j]?) (Z : zAr h' 253 0 (fun _ => 0)) : iX h' := by
  obtain ⟨x1, ⟨f1, x2⟩, ⟨f2, x3⟩, -, ⟨f4, x5⟩, ⟨f5, x6⟩⟩ := X
  obtain ⟨g, hg, -⟩ := Z
  exact ⟨x1.keep (fun j _ _ => F j (by omega)), ⟨f1, (F _ (by omega)).trans x2⟩, ⟨f2, (F _ (by omega)).trans x3⟩, ⟨g, hg⟩, ⟨f4, (F _ (by omega)).trans x5⟩, ⟨f5, (F _ (by omega)).trans x6⟩⟩
theorem r_between {h : zH} (a : Int32) (l u : Nat) (hl : l < 1000000) (hu : u < 1000000) : f_X8_in (Int32.toInt64 a) (Int32.toInt64 (nI l)) (Int32.toInt64 (nI u)) h = some (zb (∃ r : Nat, r < u + 1 ∧ (l ≤ r ∧ a = nI r))) := by
  rw [r_in]
  congr 1
  apply zb_c
  constructor
  · intro q
    rcases zcase a with z | ⟨r, hr, ra⟩
    · have z1 := Int32.lt_iff_toInt_lt.mp z
      have z2 := Int32.le_iff_toInt_le.mp q.1
      rw [nI_toInt (by omega)] at z2
      have e0 : (0 : Int32).toInt = 0 := rfl
      omega
    · rw [ra] at q
      have q1 := (nI_leI (by omega) hr).mp q.1
      have q2 := (nI_leI hr (by omega)).mp q.2
      exact ⟨r, by omega, q1, ra⟩
  · rintro ⟨r, h1, h2, ra⟩
    rw [ra]
    exact ⟨nI_le h2 (by omega), nI_le (by omega) (by omega)⟩
theorem M_years {h : zH} (I : INV h) (a : Int32) : zBoth (f_X7_years 0 a) (f_X8_years 241 a) h := by
  have I0 := I
  obtain ⟨fa, st, ac, sz, tr, th, dg, m, O, P, R, T, ⟨N7, N8, G⟩, A, Im, C, S, X, L⟩ := I
  have v := G.1
  have hy := G.2.1
  have kin : ∀ h, f_X8_in (Int32.toInt64 a) (1 : Int64) (24 : Int64) h = some (zb (∃ r : Nat, r < 24 + 1 ∧ (1 ≤ r ∧ a = nI r))) := fun h => r_between a 1 24 (by omega) (by omega)
  by_cases c : 0 < m 2
  · by_cases c2 : ∃ r : Nat, r < 24 + 1 ∧ (1 ≤ r ∧ a = nI r)
    · have c2' := c2
      obtain ⟨N, hN, hN1, ra⟩ := c2'
      have b1 : ¬ a < 1 := by rw [ra]; exact nI_nlt (b := 1) hN1 (by omega)
      have b2 : a ≤ 24 := by rw [ra]; exact nI_le (b := 24) (by omega) (by omega)
      by_cases c3 : m 28 + N ≤ 999
      · have b3 : nI (m 28) + a ≤ 999 := by rw [ra, nI_add]; exact nI_le (b := 999) c3 (by omega)
        obtain ⟨D, M, Ac, Ar⟩ := A.un
        obtain ⟨h1, e1, A1, H1, G1, F1⟩ := c_years_b47 (N := N) (by omega) N 0 zF h m ac D M (by omega) (by show N < 5000; omega) G c3 O Ac N7
        have P1 := P.keep (F1 241 (by omega))
        obtain ⟨h2, e2, P2, B2, H2, Z2, F2⟩ := r_years_b45 (N := N) (by omega) N 0 zF h1 m ac D M (by omega) (by show N < 5000; omega) v c3 P1 Ac.m5.1 Ac.m5.2 (Ar.keep (F1 _ (by omega))) (N8.keep (F1 _ (by omega))) ((X.keep (h' := h1) (fun j hj => F1 j (by omega))).z.2)
        have F : ∀ j, (j < 15 ∨ (21 < j ∧ j < 29) ∨ 198 < j) → j ≠ 241 → j ≠ 245 → j ≠ 248 → j ≠ 253 → h2[j]? = h[j]? := fun j q a b c d => (F2 j a b c d).trans (F1 j q)
        refine zBoth.mk (sUp (sIt m N) (sIt m N 0) 0 0) (h1 := h1) (h2 := h2) ?_ ?_ ?_
        · unfold f_X7_years
          rw [O.r2, Option.bind_some, N7.f0, Option.bind_some, if_neg (G.nz c), if_neg b1, if_pos b2, Option.bind_some, N7.f4, Option.bind_some, if_pos b3, ra]
          exact e1
        · unfold f_X8_years
          rw [P1.k, Option.bind_some, r_isMine P1 (N8.keep (F1 _ (by omega))) v, Option.bind_some, if_neg (zb_n c), kin, Option.bind_some, if_neg (zb_n c2), P1.r4, Option.bind_some, (N8.keep (F1 245 (by omega)) : zMo h1 245 dg m).f28, Option.bind_some, if_pos b3, ra]
          exact e2
        · exact ⟨fa, st, sAcN N ac, sz, tr, th, dg, sIt m N, O.keep (F _ (by omega) (by omega) (by omega) (by omega) (by omega)), P2, R.keep (fun j hj => F j (by omega) (by omega) (by omega) (by omega) (by omega)), T.keep (fun j hj => F j (by omega) (by omega) (by omega) (by omega) (by omega)), ⟨H1.keep (fun j _ _ => F2 j (by omega) (by omega) (by omega) (by omega)), H2, G1⟩, iA.mk (A1.keep (fun j hj => F2 j (by omega) (by omega) (by omega) (by omega))) B2, Im.keep (fun j hj => F j (by omega) (by omega) (by omega) (by omega) (by omega)), C.keep (fun j hj => F j (by omega) (by omega) (by omega) (by omega) (by omega)), S.keep (fun j hj => F j (by omega) (by omega) (by omega) (by omega) (by omega)), X.st (fun j hj => F j (by omega) (by omega) (by omega) (by omega) (by omega)) Z2, L.keep (fun j hj => F j (by omega) (by omega) (by omega) (by omega) (by omega))⟩
      · have b3 : ¬ nI (m 28) + a ≤ 999 := by rw [ra, nI_add]; exact nI_ge (a := 999) (by omega) (by omega)
        refine zBoth.same (v := (-1000003 : Int32)) I0 ?_ ?_
        · unfold f_X7_years
          rw [O.r2, Option.bind_some, N7.f0, Option.bind_some, if_neg (G.nz c), if_neg b1, if_pos b2, Option.bind_some, N7.f4, Option.bind_some, if_neg b3]
        · unfold f_X8_years
          rw [P.k, Option.bind_some, r_isMine P N8 v, Option.bind_some, if_neg (zb_n c), kin, Option.bind_some, if_neg (zb_n c2), P.r4, Option.bind_some, N8.f28, Option.bind_some, if_neg b3]
    · refine zBoth.same (v := (-1000001 : Int32)) I0 ?_ ?_
      · unfold f_X7_years
        rw [O.r2, Option.bind_some, N7.f0, Option.bind_some, if_neg (G.nz c)]
        by_cases b1 : a < 1
        · rw [if_pos b1]
        · rw [if_neg b1, if_neg]
          intro q
          rcases zcase a with z | ⟨r, hr, ra⟩
          · apply b1
            rw [Int32.lt_iff_toInt_lt] at z ⊢
            have e0 : (0 : Int32).toInt = 0 := rfl
            have e1 : (1 : Int32).toInt = 1 := rfl
            omega
          · rw [ra] at q b1
            have q2 := (nI_leI (b := 24) hr (by omega)).mp q
            have q1 : 1 ≤ r := Nat.le_of_not_lt (fun z => b1 (nI_lt (b := 1) z (by omega)))
            exact c2 ⟨r, by omega, q1, ra⟩
      · unfold f_X8_years
        rw [P.k, Option.bind_some, r_isMine P N8 v, Option.bind_some, if_neg (zb_n c), kin, Option.bind_some, if_pos (zb_f c2)]
  · refine zBoth.same (v := (-1000002 : Int32)) I0 ?_ ?_
    · unfold f_X7_years
      rw [O.r2, Option.bind_some, N7.f0, Option.bind_some, if_pos (G.z c)]
    · unfold f_X8_years
      rw [P.k, Option.bind_some, r_isMine P N8 v, Option.bind_some, if_pos (zb_f c)]
