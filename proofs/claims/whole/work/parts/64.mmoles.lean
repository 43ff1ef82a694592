/-! PURE: moles, the reference, and both -/
section MOLES8
variable {fa st ac sz tr th dg : Int32} {m : Nat → Nat}
theorem r_hasUp {h : zH} (h5 : m 0 ≤ 5) {i : Nat} (hi : i < m 0) : f_X8_has (sUp m (m 0) 0 0) (nI i) h = some (zb (m (13 + i) = 0)) := by
  rw [r_has]
  congr 1
  apply zb_c
  have e := sUp_has0 h5 hi
  unfold zhas at e
  exact decide_eq_decide.mp e
theorem r_hasSet {h : zH} {s i : Nat} : f_X8_has (nI s) (nI i) h = some (zb (zhas (nI s) i = true)) := by
  rw [r_has]
  congr 1
  apply zb_c
  unfold zhas
  rw [decide_eq_true_iff]
theorem r_be_b69 {h : zH} (P : iP h fa st ac sz tr) (H : zMo h 245 dg m) (v : vM m) (a1 a2 a3 a5 : Int32) (a6 : Int64) : ∀ (k i n a : Nat), i + k = m 0 → k < n → f_X8_moles_b69 n 241 a1 a2 a3 (sUp m (m 0) 0 0) a5 a6 (lN a) (nI i) h = f_X8_moles_b111 zF 241 a1 a2 a3 (sUp m (m 0) 0 0) a5 a6 (lN (sBe m k i a)) (0 : Int32) h := by
  intro k
  have h5 := v.1
  induction k with
  | zero =>
    intro i n a hi hn
    obtain ⟨n, rfl⟩ : ∃ x, n = x + 1 := ⟨n - 1, by omega⟩
    rw [e_X8_moles_b69, P.r4, Option.bind_some, H.f0, Option.bind_some, if_pos (nI_le (by omega) (by omega))]
    rfl
  | succ k ih =>
    intro i n a hi hn
    obtain ⟨n, rfl⟩ : ∃ x, n = x + 1 := ⟨n - 1, by omega⟩
    rw [e_X8_moles_b69, P.r4, Option.bind_some, H.f0, Option.bind_some, if_neg (nI_ge (by omega) (by omega)), r_hasUp h5 (by omega), Option.bind_some, sBe]
    unfold f_X8_moles_b99
    rw [zLet_eq, zLet_eq, nI_1, show (10 : Int64) = lN 10 from rfl, show (1 : Int64) = lN 1 from rfl, lN_mul, lN_mul, Nat.mul_one]
    by_cases c : m (13 + i) = 0
    · rw [if_neg (zb_n c), if_pos c]
      exact ih (i + 1) n a (by omega) (by omega)
    · rw [if_pos (zb_f c), if_neg c]
      exact ih (i + 1) n _ (by omega) (by omega)
theorem r_b136 {K : Nat → Int32 → Int32 → Int32 → Int32 → Int32 → Int64 → Int64 → Int32 → zH → Option (Int32 × zH)} (v : vM m) (hy : m 28 ≤ 999) {d c s ab : Nat} (hd : d ≤ 60) (hc : c ≤ 10) (hs : s < 32) (h0 : nI s &&& sUp m (m 0) 0 0 = 0) (a3 a5 : Int32) (a8 : Int64) : ∀ (k i n a : Nat) (h : zH), i + k = m 0 → k < n → zMo h 245 dg m → zMo h 247 dg (sDugP m s i) → iP h fa st ac sz tr → iZ h → ∃ h', f_X8_moles_b136 K n 241 (nI d) (nI c) a3 (sUp m (m 0) 0 0) a5 (lN ab) a8 (nI s) (lN a) (nI i) h = K 241 (nI d) (nI c) a3 (sUp m (m 0) 0 0) a5 (lN (ab + (if sUp (sIt (sDug m s) d) (m 0) 0 0 = sUp m (m 0) 0 0 then sW m s c k i a else 0))) a8 (nI (s + 1)) h' ∧ iP h' fa st ac sz tr ∧ iZ h' ∧ rFr h h' := by
  intro k
  have h5 := v.1
  induction k with
  | zero =>
    intro i n a h hi hn N H P Z
    obtain ⟨n, rfl⟩ : ∃ x, n = x + 1 := ⟨n - 1, by omega⟩
    have v2 : vM (sDug m s) := sDugP_v v h5
    have y2 : sDug m s 28 = m 28 := sDugP_h m s _ 28 (by omega) h5
    have n2 : sDug m s 0 = m 0 := sDugP_h m s _ 0 (by omega) h5
    have H' : zMo h 247 dg (sDug m s) := by unfold sDug; rw [show m 0 = i by omega]; exact H
    obtain ⟨h3, e3, H3, P3, Z3, F3⟩ := r_go (d := d) (by omega) P H' v2 (by rw [y2]; omega) Z
    have v3 := sIt_v d _ v2 (by rw [y2]; omega)
    have n3 : sIt (sDug m s) d 0 = m 0 := by rw [sIt_0 _ _ (by rw [n2]; exact h5), n2]
    have up3 := r_upOf H3 v3
    rw [n3] at up3
    rw [e_X8_moles_b136, P.r4, Option.bind_some, N.f0, Option.bind_some, if_pos (nI_le (by omega) (by omega)), P.k, Option.bind_some, e3, Option.bind_some, P3.r6, Option.bind_some, up3, Option.bind_some, sW]
    unfold f_X8_moles_b245
    rw [zLet_eq, zLet_eq, nI_1, lN_add, show (0 : Int64) = lN 0 from rfl, lN_add]
    refine ⟨h3, ?_, P3, Z3, F3⟩
    by_cases c2 : sUp (sIt (sDug m s) d) (m 0) 0 0 = sUp m (m 0) 0 0
    · rw [if_pos c2, if_pos c2]
    · rw [if_neg c2, if_neg c2]
  | succ k ih =>
    intro i n a h hi hn N H P Z
    obtain ⟨n, rfl⟩ : ∃ x, n = x + 1 := ⟨n - 1, by omega⟩
    have p0 : sDugP m s i 0 = m 0 := sDugP_h m s i 0 (by omega) (by omega)
    have pv : vM (sDugP m s i) := sDugP_v v (by omega)
    have hdg := zdug (h := h) h5 hs (t := i) (by omega) h0
    have key : ∀ f : Nat, ∃ h', f_X8_moles_b183 K (f_X8_moles_b136 K n) 241 (nI d) (nI c) a3 (sUp m (m 0) 0 0) a5 (lN ab) a8 (nI s) (nI i) (lN a) (lN f) h = K 241 (nI d) (nI c) a3 (sUp m (m 0) 0 0) a5 (lN (ab + (if sUp (sIt (sDug m s) d) (m 0) 0 0 = sUp m (m 0) 0 0 then sW m s c k (i + 1) (a * f) else 0))) a8 (nI (s + 1)) h' ∧ iP h' fa st ac sz tr ∧ iZ h' ∧ rFr h h' := by
      intro f
      obtain ⟨e, e2, H2⟩ := H.st (j := 13 + i) (x := m (13 + i) - (if zhas (nI s) i = true then 1 else 0)) (by omega) (by omega)
      have P2 := P.keep (h' := h.set 247 e) (zset_ne (by omega))
      have Z2 : iZ (h.set 247 e) := ⟨H2.row, Z.2.keep (zset_ne (by omega))⟩
      obtain ⟨h3, e3, P3, Z3, F3⟩ := ih (i + 1) n (a * f) _ (by omega) (by omega) (N.keep (zset_ne (by omega))) (by rw [sDugP_s]; exact H2) P2 Z2
      refine ⟨h3, ?_, P3, Z3, fun j x y => (F3 j x y).trans (zset_ne x)⟩
      have ld := H.de pv (t := i) (by rw [p0]; omega)
      rw [sDugP_d m (Nat.le_refl i)] at ld
      unfold f_X8_moles_b183 f_X8_moles_b212
      rw [zLet_eq, lN_mul, P.r6, Option.bind_some, ld, Option.bind_some, r_hasSet, Option.bind_some]
      by_cases c2 : zhas (nI s) i = true
      · rw [if_pos c2] at e2 hdg
        rw [if_neg (zb_n c2), z1, pk_sub hdg, z13, nI_add, e2, Option.bind_some, nI_add]
        exact e3
      · rw [if_neg c2] at e2 hdg
        rw [if_pos (zb_f c2), show nI (m (13 + i)) - (0 : Int32) = nI (m (13 + i) - 0) from pk_sub (b := 0) (by omega), z13, nI_add, e2, Option.bind_some, nI_1]
        exact e3
    rw [e_X8_moles_b136, P.r4, Option.bind_some, N.f0, Option.bind_some, if_neg (nI_ge (by omega) (by omega)), r_hasUp h5 (by omega), Option.bind_some, r_hasSet, Option.bind_some, z10, pk_sub hc, nI_l (by omega), nI_l (by omega), show (1 : Int64) = lN 1 from rfl, sW]
    by_cases c1 : m (13 + i) = 0
    · have k1 := key 1
      rw [Nat.mul_one] at k1
      rw [if_neg (zb_n c1), if_pos c1]
      exact k1
    · rw [if_pos (zb_f c1), if_neg c1]
      by_cases c2 : zhas (nI s) i = true
      · rw [if_neg (zb_n c2), if_pos c2]
        exact key c
      · rw [if_pos (zb_f c2), if_neg c2]
        exact key (10 - c)
theorem r_ab_b111 (v : vM m) (hy : m 28 ≤ 999) {d c : Nat} (hd : d ≤ 60) (hc : c ≤ 10) (a3 : Int32) (be : Nat) : ∀ (k s n a : Nat) (h : zH), s + k = 2 ^ m 0 → k < n → zMo h 245 dg m → iP h fa st ac sz tr → iZ h → ∃ h', f_X8_moles_b111 n 241 (nI d) (nI c) a3 (sUp m (m 0) 0 0) (nI (2 ^ m 0 - 1)) (lN a) (lN be) (nI s) h = f_X8_moles_b262 zF a3 (lN (sAb m d c k s a)) (lN be) (lN (sAb m d c k s a)) (lN be) h' ∧ iZ h' ∧ rFr h h' := by
  intro k
  have h5 := v.1
  have hp5 := zpow32 h5
  have hpos : 0 < 2 ^ m 0 := Nat.two_pow_pos _
  induction k with
  | zero =>
    intro s n a h hs hn N P Z
    obtain ⟨n, rfl⟩ : ∃ x, n = x + 1 := ⟨n - 1, by omega⟩
    rw [e_X8_moles_b111, if_pos (nI_lt (by omega) (by omega))]
    exact ⟨h, rfl, Z, rFr.rf⟩
  | succ k ih =>
    intro s n a h hs hn N P Z
    obtain ⟨n, rfl⟩ : ∃ x, n = x + 1 := ⟨n - 1, by omega⟩
    rw [e_X8_moles_b111, if_neg (nI_nlt (by omega) (by omega)), sAb]
    by_cases c0 : nI s &&& sUp m (m 0) 0 0 = 0
    · obtain ⟨h1, e1, H1, P1, Z1, F1, F1r⟩ := r_aside P N v Z
      have N1 : zMo h1 245 dg m := N.keep (F1 _ (by omega))
      obtain ⟨h2, e2, P2, Z2, F2⟩ := r_b136 (K := f_X8_moles_b111 n) (ab := a) v hy hd hc (s := s) (by omega) c0 a3 (nI (2 ^ m 0 - 1)) (lN be) (m 0) 0 zF 1 h1 (by omega) (by show m 0 < 5000; omega) N1 (by rw [sDugP_0]; exact H1) P1 Z1
      have N2 : zMo h2 245 dg m := N1.keep (F2 _ (by omega) (by omega))
      have o1 : sOne m d s c = (if sUp (sIt (sDug m s) d) (m 0) 0 0 = sUp m (m 0) 0 0 then sW m s c (m 0) 0 1 else 0) := by
        unfold sOne
        rw [if_pos c0]
      rw [if_pos c0, P.k, Option.bind_some, e1, Option.bind_some]
      obtain ⟨h3, e3, Z3, F3⟩ := ih (s + 1) n (a + sOne m d s c) h2 (by omega) (by omega) N2 P2 Z2
      refine ⟨h3, ?_, Z3, (F1r.tr F2).tr F3⟩
      rw [← o1] at e2
      exact e2.trans e3
    · have o0 : sOne m d s c = 0 := by
        unfold sOne
        rw [if_neg c0]
      rw [if_neg c0, o0, Nat.add_zero, nI_1]
      exact ih (s + 1) n a h (by omega) (by omega) N P Z
end MOLES8
theorem M_moles {h : zH} (I : INV h) (a1 a2 a3 : Int32) : zBoth (f_X7_moles 0 a1 a2 a3) (f_X8_moles 241 a1 a2 a3) h := by
  have I0 := I
  obtain ⟨fa, st, ac, sz, tr, th, dg, m, O, P, R, T, ⟨N7, N8, G⟩, A, Im, C, S, X, L⟩ := I
  have v := G.1
  have h5 := v.1
  have hy := G.2.1
  have hp5 := zpow32 h5
  have kc : ∀ h, f_X8_in (Int32.toInt64 a2) (0 : Int64) (10 : Int64) h = some (zb (∃ r : Nat, r < 11 ∧ a2 = nI r)) := fun h => r_below (N := 11) a2 (by omega)
  by_cases c1 : 0 < m 2
  · by_cases c2 : 0 ≤ a1 ∧ a1 ≤ 60
    · by_cases c3 : ∃ r : Nat, r < 11 ∧ a2 = nI r
      · have c3' := c3
        obtain ⟨c, hc, rc⟩ := c3'
        have q1 : ¬ a2 < 0 := by rw [rc]; exact Int32.not_lt.mpr (nI_pos' (by omega))
        have q2 : ¬ (10 : Int32) < a2 := by rw [rc]; exact nI_nlt (a := 10) (by omega) (by omega)
        by_cases c4 : a3 = 0 ∨ a3 = 1
        · obtain ⟨d, hd, rd⟩ := zspan c2
          obtain ⟨h1, e1, F1, S1⟩ := c_ab_b12 G hd (show c ≤ 10 by omega) (2 ^ m 0) 0 zF 0 h (by omega) (by show 2 ^ m 0 < 5000; omega) (by have := Nat.mul_le_mul_right 100000 hp5; omega) N7 S
          have O1 : iO h1 fa st := O.keep (F1 _ (by omega))
          have M1 : zMi h1 15 th dg m := N7.keep (fun j _ _ => F1 j (by omega))
          have P1 := P.keep (h' := h1) (F1 _ (by omega))
          have N1 : zMo h1 245 dg m := N8.keep (F1 _ (by omega))
          have X1 : iX h1 := X.keep (fun j hj => F1 j (by omega))
          have eb := c_be_b4 M1 v (m 0) 0 zF 1 (by omega) (by show m 0 < 5000; omega)
          have bl := sBe_le (m := m) (m 0) 0 1
          have h10 : 10 ^ m 0 ≤ 10 ^ 5 := Nat.pow_le_pow_right (by omega) h5
          rw [show (10 : Nat) ^ 5 = 100000 by decide] at h10
          have al := sAb_le (m := m) (d := d) (c := c) (by omega) h5 (2 ^ m 0) 0 0
          have al2 : sAb m d c (2 ^ m 0) 0 0 ≤ 3200000 := by
            have := Nat.mul_le_mul_right 100000 hp5
            omega
          clear al
          obtain ⟨be, hbe⟩ : ∃ be, be = sBe m (m 0) 0 1 := ⟨_, rfl⟩
          obtain ⟨ab, hab⟩ : ∃ ab, ab = sAb m d c (2 ^ m 0) 0 0 := ⟨_, rfl⟩
          rw [← hab] at al2 e1
          rw [← hbe] at eb bl
          have b1 : 1 ≤ be := bl.2
          have b2 : be ≤ 100000 := by omega
          have gp : 0 < Nat.gcd be ab := Nat.gcd_pos_of_pos_left _ (by omega)
          have gc := c_gcd_b7 (h := h1) 64 0 zF ab be (by omega) (by show 64 < 5000; omega) (by omega) (by omega)
          rw [sG_gcd 17 64 ab be (Nat.lt_of_le_of_lt b2 (by decide)) (by omega)] at gc
          have gl : Nat.gcd be ab ≤ be := Nat.gcd_le_left _ (by omega)
          obtain ⟨h3, e3, Z3, F3⟩ := r_ab_b111 v hy hd (show c ≤ 10 by omega) a3 be (2 ^ m 0) 0 zF 0 h1 (by omega) (by show 2 ^ m 0 < 5000; omega) N1 P1 X1.z
          rw [← hab] at e3
          have rg := r_gcd (h := h3) a3 ab be (by omega) (by omega) 17 zF ab be (Nat.lt_of_le_of_lt b2 (by decide)) (by show 2 * 17 + 1 ≤ 5000; omega) (by omega) (by omega)
          by_cases ha0 : 0 < ab
          · refine zBoth.mk (if a3 = 0 then nI (ab / Nat.gcd be ab) else nI (be / Nat.gcd be ab)) (h1 := h1) (h2 := h3) ?_ ?_ (I0.sc2 F1 S1 F3 Z3)
            · unfold f_X7_moles f_X5_weightOfNoneUp f_X5_weightOfAll f_X7_commonDivisor f_X7_moles_b97
              have e1' : f_X5_weightOfNoneUp_b12 zF 200 15 a1 a2 (sUp m (m 0) 0 0) (0 : Int32) (0 : Int32) h = some (nI ab, h1) := by rw [rd, rc]; exact e1
              have eb' : f_X5_weightOfAll_b4 h1 zF 15 (1 : Int32) (0 : Int32) = some (nI be) := eb
              have gc' : f_X7_commonDivisor_b7 h1 zF (nI ab) (nI be) (0 : Int32) = some (nI (Nat.gcd be ab)) := gc
              have ng : ¬ nI (Nat.gcd be ab) = 0 := by rw [znz (by omega)]; omega
              rw [O.r2, Option.bind_some, N7.f0, Option.bind_some, if_neg (G.nz c1), c_isSpan, Option.bind_some, if_neg (zb_n c2), if_neg q1, if_neg q2, c_isTwo, Option.bind_some, if_neg (zb_n c4), O.r6, Option.bind_some, Option.bind_some, S.k, Option.bind_some, N7.k, Option.bind_some, c_allUp N7 v, Option.bind_some, e1', Option.bind_some]
              dsimp only
              rw [O1.r6, Option.bind_some, O1.r2, Option.bind_some, S1.k, Option.bind_some, eb', Option.bind_some, gc', Option.bind_some, if_pos (show (1 : Int32) ≤ nI (Nat.gcd be ab) from nI_le (a := 1) gp (by omega)), if_neg ng, if_neg ng, pk_div (by omega) gp (by omega), pk_div (by omega) gp (by omega)]
              split <;> rfl
            · unfold f_X8_moles
              have pw := zpow6' (show m 0 ≤ 6 by omega)
              have hpos : 0 < 2 ^ m 0 := Nat.two_pow_pos _
              have bb := r_be_b69 P1 N1 v a1 a2 a3 (nI (2 ^ m 0 - 1)) (0 : Int64) (m 0) 0 zF 1 (by omega) (by show m 0 < 5000; omega)
              rw [← hbe] at bb
              have bb' : f_X8_moles_b69 zF 241 a1 a2 a3 (sUp m (m 0) 0 0) (nI (2 ^ m 0 - 1)) (0 : Int64) (1 : Int64) (0 : Int32) h1 = f_X8_moles_b111 zF 241 a1 a2 a3 (sUp m (m 0) 0 0) (nI (2 ^ m 0 - 1)) (0 : Int64) (lN be) (0 : Int32) h1 := bb
              have e3' : f_X8_moles_b111 zF 241 a1 a2 a3 (sUp m (m 0) 0 0) (nI (2 ^ m 0 - 1)) (0 : Int64) (lN be) (0 : Int32) h1 = f_X8_moles_b262 zF a3 (lN ab) (lN be) (lN ab) (lN be) h3 := by rw [rd, rc]; exact e3
              rw [P1.k, Option.bind_some, r_isMine P1 N1 v, Option.bind_some, if_neg (zb_n c1), r_isSpan, Option.bind_some, if_neg (zb_n c2), kc, Option.bind_some, if_neg (zb_n c3), r_isTwo, Option.bind_some, if_neg (zb_n c4), P1.r4, Option.bind_some, r_upOf N1 v, Option.bind_some, Option.bind_some, N1.f0, Option.bind_some, pw.1, zLet_eq, show nI (2 ^ m 0) - (1 : Int32) = nI (2 ^ m 0 - 1) from pk_sub (b := 1) hpos, bb', e3', rg ha0]
          · have a0 : ab = 0 := by omega
            have g0 : Nat.gcd be ab = be := by rw [a0, Nat.gcd_zero_right]
            rw [a0] at e1 e3 gc
            rw [Nat.gcd_zero_right] at gc
            have st1 := r_gcd_step (h := h3) (n := 4999) a3 (lN 0) (lN be) (a := 0) (b := be) (by omega) (by omega) (by omega)
            rw [Nat.zero_mod, r_gcd_end a3 0 be (by omega) (by omega) (n := 4998) (by omega) (by omega)] at st1
            refine zBoth.mk (if a3 = 0 then nI (0 / be) else nI (be / be)) (h1 := h1) (h2 := h3) ?_ ?_ (I0.sc2 F1 S1 F3 Z3)
            · unfold f_X7_moles f_X5_weightOfNoneUp f_X5_weightOfAll f_X7_commonDivisor f_X7_moles_b97
              have e1' : f_X5_weightOfNoneUp_b12 zF 200 15 a1 a2 (sUp m (m 0) 0 0) (0 : Int32) (0 : Int32) h = some (nI 0, h1) := by rw [rd, rc]; exact e1
              have eb' : f_X5_weightOfAll_b4 h1 zF 15 (1 : Int32) (0 : Int32) = some (nI be) := eb
              have gc' : f_X7_commonDivisor_b7 h1 zF (nI 0) (nI be) (0 : Int32) = some (nI be) := gc
              have ng : ¬ nI be = 0 := by rw [znz (by omega)]; omega
              rw [O.r2, Option.bind_some, N7.f0, Option.bind_some, if_neg (G.nz c1), c_isSpan, Option.bind_some, if_neg (zb_n c2), if_neg q1, if_neg q2, c_isTwo, Option.bind_some, if_neg (zb_n c4), O.r6, Option.bind_some, Option.bind_some, S.k, Option.bind_some, N7.k, Option.bind_some, c_allUp N7 v, Option.bind_some, e1', Option.bind_some]
              dsimp only
              rw [O1.r6, Option.bind_some, O1.r2, Option.bind_some, S1.k, Option.bind_some, eb', Option.bind_some, gc', Option.bind_some, if_pos (show (1 : Int32) ≤ nI be from nI_le (a := 1) b1 (by omega)), if_neg ng, if_neg ng, pk_div (by omega) b1 (by omega), pk_div (by omega) b1 (by omega)]
              split <;> rfl
            · unfold f_X8_moles
              have pw := zpow6' (show m 0 ≤ 6 by omega)
              have hpos : 0 < 2 ^ m 0 := Nat.two_pow_pos _
              have bb := r_be_b69 P1 N1 v a1 a2 a3 (nI (2 ^ m 0 - 1)) (0 : Int64) (m 0) 0 zF 1 (by omega) (by show m 0 < 5000; omega)
              rw [← hbe] at bb
              have bb' : f_X8_moles_b69 zF 241 a1 a2 a3 (sUp m (m 0) 0 0) (nI (2 ^ m 0 - 1)) (0 : Int64) (1 : Int64) (0 : Int32) h1 = f_X8_moles_b111 zF 241 a1 a2 a3 (sUp m (m 0) 0 0) (nI (2 ^ m 0 - 1)) (0 : Int64) (lN be) (0 : Int32) h1 := bb
              have e3' : f_X8_moles_b111 zF 241 a1 a2 a3 (sUp m (m 0) 0 0) (nI (2 ^ m 0 - 1)) (0 : Int64) (lN be) (0 : Int32) h1 = f_X8_moles_b262 zF a3 (lN 0) (lN be) (lN 0) (lN be) h3 := by rw [rd, rc]; exact e3
              rw [P1.k, Option.bind_some, r_isMine P1 N1 v, Option.bind_some, if_neg (zb_n c1), r_isSpan, Option.bind_some, if_neg (zb_n c2), kc, Option.bind_some, if_neg (zb_n c3), r_isTwo, Option.bind_some, if_neg (zb_n c4), P1.r4, Option.bind_some, r_upOf N1 v, Option.bind_some, Option.bind_some, N1.f0, Option.bind_some, pw.1, zLet_eq, show nI (2 ^ m 0) - (1 : Int32) = nI (2 ^ m 0 - 1) from pk_sub (b := 1) hpos, bb', e3']
              exact st1
        · refine zBoth.same (v := (-1000001 : Int32)) I0 ?_ ?_
          · unfold f_X7_moles
            rw [O.r2, Option.bind_some, N7.f0, Option.bind_some, if_neg (G.nz c1), c_isSpan, Option.bind_some, if_neg (zb_n c2), if_neg q1, if_neg q2, c_isTwo, Option.bind_some, if_pos (zb_f c4)]
          · unfold f_X8_moles
            rw [P.k, Option.bind_some, r_isMine P N8 v, Option.bind_some, if_neg (zb_n c1), r_isSpan, Option.bind_some, if_neg (zb_n c2), kc, Option.bind_some, if_neg (zb_n c3), r_isTwo, Option.bind_some, if_pos (zb_f c4)]
      · refine zBoth.same (v := (-1000001 : Int32)) I0 ?_ ?_
        · unfold f_X7_moles
          rw [O.r2, Option.bind_some, N7.f0, Option.bind_some, if_neg (G.nz c1), c_isSpan, Option.bind_some, if_neg (zb_n c2)]
          by_cases z : a2 < 0
          · rw [if_pos z]
          · rw [if_neg z, if_pos]
            refine Classical.byContradiction fun q => ?_
            rcases zcase a2 with y | ⟨r, hr, ra⟩
            · exact z y
            · rw [ra] at q
              exact c3 ⟨r, Nat.lt_succ_of_le (Nat.le_of_not_lt (fun u => q (nI_lt (a := 10) u hr))), ra⟩
        · unfold f_X8_moles
          rw [P.k, Option.bind_some, r_isMine P N8 v, Option.bind_some, if_neg (zb_n c1), r_isSpan, Option.bind_some, if_neg (zb_n c2), kc, Option.bind_some, if_pos (zb_f c3)]
    · refine zBoth.same (v := (-1000001 : Int32)) I0 ?_ ?_
      · unfold f_X7_moles
        rw [O.r2, Option.bind_some, N7.f0, Option.bind_some, if_neg (G.nz c1), c_isSpan, Option.bind_some, if_pos (zb_f c2)]
      · unfold f_X8_moles
        rw [P.k, Option.bind_some, r_isMine P N8 v, Option.bind_some, if_neg (zb_n c1), r_isSpan, Option.bind_some, if_pos (zb_f c2)]
  · refine zBoth.same (v := (-1000002 : Int32)) I0 ?_ ?_
    · unfold f_X7_moles
      rw [O.r2, Option.bind_some, N7.f0, Option.bind_some, if_pos (G.z c1)]
    · unfold f_X8_moles
      rw [P.k, Option.bind_some, r_isMine P N8 v, Option.bind_some, if_pos (zb_f c1)]
