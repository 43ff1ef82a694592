/-! PURE: fits, whole -/
theorem c_read_b3 {it : Nat → Nat → Int32} {la le ro ls ss : Nat → Int32} {r i N : Nat} (hr : r < 8) (hN : N ≤ 16) (hi : i + N ≤ 40) : ∀ (k x n : Nat) (h : zH) (f : Nat → Int32), x + k = N → k < n → iRh h it la le ro ls ss → h[208]? = some (.inl (0, 16, .inl f)) → (∀ y, y < x → f y = it r (i + y)) → ∃ h' f', f_X4_readRun_b3 n 1 (nI r) (nI i) (nI N) 208 (nI x) h = some h' ∧ h'[208]? = some (.inl (0, 16, .inl f')) ∧ (∀ y, y < N → f' y = it r (i + y)) ∧ ∀ j, j ≠ 208 → h'[j]? = h[j]? := by
  intro k
  induction k with
  | zero =>
    intro x n h f hx hn R hf hy
    obtain ⟨n, rfl⟩ : ∃ x, n = x + 1 := ⟨n - 1, by omega⟩
    rw [e_X4_readRun_b3, if_pos (nI_le (by omega) (by omega))]
    exact ⟨h, f, rfl, hf, fun y hyN => hy y (by omega), fun _ _ => rfl⟩
  | succ k ih =>
    intro x n h f hx hn R hf hy
    obtain ⟨n, rfl⟩ : ∃ x, n = x + 1 := ⟨n - 1, by omega⟩
    obtain ⟨h', f', e, hf', hy', F'⟩ := ih (x + 1) n (h.set 208 (.inl (0, 16, .inl (upd f x (it r (i + x)))))) _ (by omega) (by omega) (R.keep (fun j hj => zset_ne (by omega))) (zset_eq hf) (fun y hyx => by
      unfold upd
      by_cases c : y = x
      · rw [if_pos c, c]
      · rw [if_neg c]
        exact hy y (by omega))
    refine ⟨h', f', ?_, hf', hy', fun j hj => (F' j hj).trans (zset_ne hj)⟩
    rw [e_X4_readRun_b3, if_neg (nI_ge (by omega) (by omega)), R.r0, Option.bind_some, R.lr hr, Option.bind_some, nI_add, R.l3 hr (by omega), Option.bind_some, zS_of hf (by omega) (by omega), Option.bind_some, nI_1]
    exact e
theorem M_fits {h : zH} (I : INV h) (a1 a2 a3 a4 a5 : Int32) : zBoth (f_X7_fits 0 a1 a2 a3 a4 a5) (f_X8_fits 241 a1 a2 a3 a4 a5) h := by
  have I0 := I
  obtain ⟨fa, st, ac, sz, tr, th, dg, m, O, P, R, T, ⟨N7, N8, G⟩, A, Im, C, S, X, L⟩ := I
  have v := G.1
  have h5 := v.1
  have k4 : ∀ h, f_X8_in (Int32.toInt64 a4) (1 : Int64) (16 : Int64) h = some (zb (∃ r : Nat, r < 16 + 1 ∧ (1 ≤ r ∧ a4 = nI r))) := fun h => r_between a4 1 16 (by omega) (by omega)
  have k5 : ∀ h, f_X8_in (Int32.toInt64 a5) (0 : Int64) (2 : Int64) h = some (zb (∃ l : Nat, l < 3 ∧ a5 = nI l)) := fun h => r_below (N := 3) a5 (by omega)
  obtain ⟨it, la, le, ro, ls, ss, H, rel⟩ := R.un
  by_cases c1 : ∃ t, t < m 0 ∧ a1 = nI t
  · by_cases c2 : ∃ r : Nat, r < 8 ∧ a2 = nI r
    · by_cases c4 : ∃ r : Nat, r < 16 + 1 ∧ (1 ≤ r ∧ a4 = nI r)
      · have c4' := c4
        obtain ⟨N, hN, hN1, rn⟩ := c4'
        have q1 : ¬ a4 < 1 := by rw [rn]; exact nI_nlt (b := 1) hN1 (by omega)
        have q2 : ¬ (16 : Int32) < a4 := by rw [rn]; exact nI_nlt (a := 16) (by omega) (by omega)
        by_cases c5 : ∃ l : Nat, l < 3 ∧ a5 = nI l
        · have c1' := c1
          have c2' := c2
          have c5' := c5
          obtain ⟨t, ht, ra⟩ := c1'
          obtain ⟨r, hr, rr⟩ := c2'
          obtain ⟨w, hw, rw5⟩ := c5'
          have q3 : ¬ a5 < 0 := by rw [rw5]; exact Int32.not_lt.mpr (nI_pos' (by omega))
          have q4 : a5 ≤ 2 := by rw [rw5]; exact nI_le (b := 2) (by omega) (by omega)
          obtain ⟨p1, p2, p3⟩ := rel r hr
          rcases p3 with p3 | ⟨Nr, hNr, p4, p5⟩
          · obtain ⟨g1, g2, s1, s2, I2, F1⟩ := both_found I0 1
            have P1 := P.keep (F1 241 (by omega))
            have N1 : zMo g1 245 dg m := N8.keep (F1 _ (by omega))
            have H1 := H.keep (h' := g1) (fun j hj => F1 j (by omega))
            refine zBoth.mk ((-1000010 : Int32) - 1) (h1 := g1) (h2 := g2) ?_ ?_ I2
            · unfold f_X7_fits
              rw [O.k, Option.bind_some, c_isThing O N7 v, Option.bind_some, if_neg (zb_n c1), c_isRow, Option.bind_some, if_neg (zb_n c2), if_neg q1, if_neg q2, if_neg q3, if_pos q4, O.r0, Option.bind_some, H.k, Option.bind_some, rr, c_miss H hr, Option.bind_some, if_neg (zb_n p3), Option.bind_some, s1, Option.bind_some]
            · unfold f_X8_fits
              rw [P1.k, Option.bind_some, r_isThing P1 N1 v, Option.bind_some, if_neg (zb_n c1), r_isRow, Option.bind_some, if_neg (zb_n c2), k4, Option.bind_some, if_neg (zb_n c4), k5, Option.bind_some, if_neg (zb_n c5), P1.r1, Option.bind_some, rr, H1.l243 hr, Option.bind_some, p2, p3, if_neg (by decide), Option.bind_some, s2, Option.bind_some]
          · have nm : ¬ le r = -1 := by rw [p4]; exact znn (by omega)
            have ge : (0 : Int32) ≤ ss r := by rw [p2, p4]; exact nI_pos' (by omega)
            haveI : Decidable (sRun Nr a3 a4) := Classical.propDecidable _
            have run := c_hasRun H hr hNr p4 a3 a4
            by_cases c6 : sRun Nr a3 a4
            · obtain ⟨i, n', ri, rn', hin⟩ := c6.nat (by omega)
              have en : n' = N := by
                rw [rn] at rn'
                rcases Nat.lt_or_ge n' 2147483648 with z | z
                · exact ((nI_eq (by omega) z).mp rn').symm
                · omega
              subst en
              obtain ⟨S1, S2, f0, S3⟩ := S
              obtain ⟨h1, T1, e1, t1, t2, F1⟩ := c_read_b3 (r := r) (i := i) (N := n') hr (by omega) (by omega) n' 0 zF h f0 (by omega) (by show n' < 5000; omega) H S3 (fun y hy => by omega)
              have O1 : iO h1 fa st := O.keep (F1 _ (by omega))
              have M1 : zMi h1 15 th dg m := N7.keep (fun j _ _ => F1 j (by omega))
              have SS : iS h1 := ⟨(F1 _ (by omega)).trans S1, S2.keep (fun j _ _ => F1 j (by omega)), T1, t1⟩
              obtain ⟨h2, e2, F2, SS2⟩ := c_fit G (T := T1) (t := t) (w := w) (N := n') hw (by omega) ht M1 SS t1
              have O2 : iO h2 fa st := O1.keep (F2 _ (by omega))
              have eqT : ∀ x, x < n' → T1 x = ro (40 * r + i + x) := fun x hx => by
                rw [t2 x hx, p5 (i + x) (by omega), Nat.add_assoc]
              have rsl : (if w = 2 then sFit T1 m t w n' 4 0 0 else sFit T1 m t w n' (sMost w) 1 0) = (if w = 2 then sFit (fun x => ro (40 * r + i + x)) m t w n' 4 0 0 else sFit (fun x => ro (40 * r + i + x)) m t w n' (sMost w) 1 0) := by
                rw [sFit_cg eqT, sFit_cg eqT]
              rw [rsl] at e2
              generalize hval : (if w = 2 then sFit (fun x => ro (40 * r + i + x)) m t w n' 4 0 0 else sFit (fun x => ro (40 * r + i + x)) m t w n' (sMost w) 1 0) = val at e2
              obtain ⟨h3, e3, O3, F3⟩ := c_fine O2 val
              have Fa : ∀ j, j ≠ 0 → (j < 201 ∨ 208 < j) → h3[j]? = h[j]? := fun j a b => (F3 j a).trans ((F2 j (by omega)).trans (F1 j (by omega)))
              have P3 := P.keep (h' := h3) (Fa _ (by omega) (by omega))
              have N3 : zMo h3 245 dg m := N8.keep (Fa _ (by omega) (by omega))
              have H3 := H.keep (h' := h3) (fun j hj => Fa j (by omega) (by omega))
              have X3 : iX h3 := X.keep (fun j hj => Fa j (by omega) (by omega))
              have SS3 : iS h3 := SS2.keep (fun j hj => F3 j (by omega))
              have ref : ∃ h4 h5, f_X8_fits 241 a1 a2 a3 a4 a5 h3 = some (val, h5) ∧ f_X8_well 241 val h4 = some (val, h5) ∧ iP h4 fa st (nI ac) (nI sz) (nI tr) ∧ iZ h4 ∧ rFr h3 h4 := by
                have pre : ∀ Z : Option (Int32 × zH), (if a5 = (2 : Int32) then (f_X8_fits_b100 241 a1 a2 a3 a4 a5 (0 : Int32) (0 : Int32) h3) else (f_X8_fits_b100 241 a1 a2 a3 a4 a5 (0 : Int32) (1 : Int32) h3)) = Z → f_X8_fits 241 a1 a2 a3 a4 a5 h3 = Z := by
                  intro Z hZ
                  unfold f_X8_fits
                  rw [P3.k, Option.bind_some, r_isThing P3 N3 v, Option.bind_some, if_neg (zb_n c1), r_isRow, Option.bind_some, if_neg (zb_n c2), k4, Option.bind_some, if_neg (zb_n c4), k5, Option.bind_some, if_neg (zb_n c5), P3.r1, Option.bind_some, show zL h3 0 243 a2 = some (ss r) by rw [rr]; exact H3.l243 hr, Option.bind_some, if_pos ge, if_neg (Int32.not_lt.mpr c6.1), Option.bind_some, show zL h3 0 243 a2 = some (ss r) by rw [rr]; exact H3.l243 hr, Option.bind_some, if_pos (by rw [p2, p4, ri, rn]; exact (zsum2 (by omega) (by omega) (by omega)).mpr hin)]
                  exact hZ
                rcases (show w = 0 ∨ w = 1 ∨ w = 2 by omega) with rfl | rfl | rfl
                · obtain ⟨h4, h5, e4, w4, P4, Z4, F4⟩ := r_fits_b153 G (t := t) (w := 0) (N := n') (r := r) (i := i) hw (by omega) ht hr (by omega) 5 1 zF h3 0 (by decide) (by show 5 < 5000; omega) (by omega) N3 P3 X3.z H3
                  rw [if_neg (show ¬ (0 : Nat) = 2 by decide)] at hval
                  rw [show sFit (fun x => ro (40 * r + i + x)) m t 0 n' 5 1 0 = val from hval] at e4 w4
                  refine ⟨h4, h5, pre _ ?_, w4, P4, Z4, F4⟩
                  unfold f_X8_fits_b100 f_X8_fits_b123 f_X8_fits_b147
                  rw [rw5, if_neg (show ¬ nI 0 = (2 : Int32) by decide), if_pos (show nI 0 = (0 : Int32) from rfl), if_pos (show nI 0 = (0 : Int32) from rfl), ra, rr, ri, rn]
                  exact e4
                · obtain ⟨h4, h5, e4, w4, P4, Z4, F4⟩ := r_fits_b153 G (t := t) (w := 1) (N := n') (r := r) (i := i) hw (by omega) ht hr (by omega) 9 1 zF h3 0 (by decide) (by show 9 < 5000; omega) (by omega) N3 P3 X3.z H3
                  rw [if_neg (show ¬ (1 : Nat) = 2 by decide)] at hval
                  rw [show sFit (fun x => ro (40 * r + i + x)) m t 1 n' 9 1 0 = val from hval] at e4 w4
                  refine ⟨h4, h5, pre _ ?_, w4, P4, Z4, F4⟩
                  unfold f_X8_fits_b100 f_X8_fits_b123 f_X8_fits_b147
                  rw [rw5, if_neg (show ¬ nI 1 = (2 : Int32) by decide), if_neg (show ¬ nI 1 = (0 : Int32) by decide), if_pos (show nI 1 = (1 : Int32) from rfl), if_neg (show ¬ nI 1 = (0 : Int32) by decide), if_pos (show nI 1 = (1 : Int32) from rfl), ra, rr, ri, rn]
                  exact e4
                · obtain ⟨h4, h5, e4, w4, P4, Z4, F4⟩ := r_fits_b153 G (t := t) (w := 2) (N := n') (r := r) (i := i) hw (by omega) ht hr (by omega) 4 0 zF h3 0 (by decide) (by show 4 < 5000; omega) (by omega) N3 P3 X3.z H3
                  rw [if_pos (show (2 : Nat) = 2 from rfl)] at hval
                  rw [hval] at e4 w4
                  refine ⟨h4, h5, pre _ ?_, w4, P4, Z4, F4⟩
                  unfold f_X8_fits_b100 f_X8_fits_b123 f_X8_fits_b147
                  rw [rw5, if_pos (show nI 2 = (2 : Int32) from rfl), if_neg (show ¬ nI 2 = (0 : Int32) by decide), if_neg (show ¬ nI 2 = (1 : Int32) by decide), if_neg (show ¬ nI 2 = (0 : Int32) by decide), if_neg (show ¬ nI 2 = (1 : Int32) by decide), ra, rr, ri, rn]
                  exact e4
              obtain ⟨h4, h5', e4, w4, P4, Z4, F4⟩ := ref
              obtain ⟨h6, w6, P6, F6⟩ := r_well P4 val
              rw [w4] at w6
              cases w6
              have F46 : ∀ j, j ≠ 241 → j ≠ 247 → j ≠ 253 → h5'[j]? = h3[j]? := fun j a b c => (F6 j a).trans (F4 j b c)
              have F : ∀ j, j ≠ 0 → (j < 201 ∨ 208 < j) → j ≠ 241 → j ≠ 247 → j ≠ 253 → h5'[j]? = h[j]? := fun j a b c d e => (F46 j c d e).trans (Fa j a b)
              refine zBoth.mk val (h1 := h3) (h2 := h5') ?_ e4 ?_
              · unfold f_X7_fits f_X4_readRun
                rw [O.k, Option.bind_some, c_isThing O N7 v, Option.bind_some, if_neg (zb_n c1), c_isRow, Option.bind_some, if_neg (zb_n c2), if_neg q1, if_neg q2, if_neg q3, if_pos q4, O.r0, Option.bind_some, H.k, Option.bind_some, rr, c_miss H hr, Option.bind_some, if_pos (zb_f nm), Option.bind_some, H.k, Option.bind_some, run, Option.bind_some, if_neg (zb_n c6), Option.bind_some, O.r6, Option.bind_some, zR_of S1 rfl, Option.bind_some, H.k, Option.bind_some, ri, rn, show (0 : Int32) = nI 0 from rfl, e1, Option.bind_some, O1.r6, Option.bind_some, O1.r2, Option.bind_some, SS.k, Option.bind_some, ra, rw5, e2, Option.bind_some, O2.k, Option.bind_some, e3, Option.bind_some]
              · refine ⟨fa, 0, ac, sz, tr, th, dg, m, O3.keep (F46 _ (by omega) (by omega) (by omega)), P6, (H3.keep (fun j hj => F46 j (by omega) (by omega) (by omega))).mk rel, T.keep (fun j hj => F j (by omega) (by omega) (by omega) (by omega) (by omega)), ⟨N7.keep (fun j _ _ => F j (by omega) (by omega) (by omega) (by omega) (by omega)), N8.keep (F _ (by omega) (by omega) (by omega) (by omega) (by omega)), G⟩, A.keep (fun j hj => F j (by omega) (by omega) (by omega) (by omega) (by omega)), Im.keep (fun j hj => F j (by omega) (by omega) (by omega) (by omega) (by omega)), C.keep (fun j hj => F j (by omega) (by omega) (by omega) (by omega) (by omega)), SS3.keep (fun j hj => F46 j (by omega) (by omega) (by omega)), ?_, L.keep (fun j hj => F j (by omega) (by omega) (by omega) (by omega) (by omega))⟩
                obtain ⟨x1, ⟨y1, x2⟩, -, -, ⟨y4, x5⟩, ⟨y5, x6⟩⟩ := X
                obtain ⟨⟨z1, z2⟩, z3, z4, -⟩ := Z4
                exact ⟨x1.keep (fun j _ _ => F j (by omega) (by omega) (by omega) (by omega) (by omega)), ⟨y1, (F _ (by omega) (by omega) (by omega) (by omega) (by omega)).trans x2⟩, ⟨z1, (F6 _ (by omega)).trans z2⟩, ⟨z3, (F6 _ (by omega)).trans z4⟩, ⟨y4, (F _ (by omega) (by omega) (by omega) (by omega) (by omega)).trans x5⟩, ⟨y5, (F _ (by omega) (by omega) (by omega) (by omega) (by omega)).trans x6⟩⟩
            · obtain ⟨g1, g2, s1, s2, I2, F1⟩ := both_found I0 2
              have P1 := P.keep (F1 241 (by omega))
              have N1 : zMo g1 245 dg m := N8.keep (F1 _ (by omega))
              have H1 := H.keep (h' := g1) (fun j hj => F1 j (by omega))
              have b80 : f_X8_fits_b80 241 g1 = some ((-1000010 : Int32) - 2, g2) := by
                unfold f_X8_fits_b80
                rw [P1.k, Option.bind_some, s2, Option.bind_some]
              refine zBoth.mk ((-1000010 : Int32) - 2) (h1 := g1) (h2 := g2) ?_ ?_ I2
              · unfold f_X7_fits
                rw [O.k, Option.bind_some, c_isThing O N7 v, Option.bind_some, if_neg (zb_n c1), c_isRow, Option.bind_some, if_neg (zb_n c2), if_neg q1, if_neg q2, if_neg q3, if_pos q4, O.r0, Option.bind_some, H.k, Option.bind_some, rr, c_miss H hr, Option.bind_some, if_pos (zb_f nm), Option.bind_some, H.k, Option.bind_some, run, Option.bind_some, if_pos (zb_f c6), Option.bind_some, s1, Option.bind_some]
              · unfold f_X8_fits
                rw [P1.k, Option.bind_some, r_isThing P1 N1 v, Option.bind_some, if_neg (zb_n c1), r_isRow, Option.bind_some, if_neg (zb_n c2), k4, Option.bind_some, if_neg (zb_n c4), k5, Option.bind_some, if_neg (zb_n c5), P1.r1, Option.bind_some, rr, H1.l243 hr, Option.bind_some, if_pos ge, b80]
                by_cases z : a3 < 0
                · rw [if_pos z]
                · rw [if_neg z, Option.bind_some, H1.l243 hr, Option.bind_some, p2, p4]
                  rcases zcase a3 with y | ⟨i, hi, ri⟩
                  · exact absurd y z
                  · rw [if_neg]
                    intro q
                    rw [ri, rn] at q
                    have q9 := (zsum2 hi (by omega) (by omega)).mp q
                    apply c6
                    rw [ri, rn]
                    unfold sRun
                    rw [nI_toInt hi, nI_toInt (by omega)]
                    exact ⟨nI_pos' hi, nI_pos' (by omega), by omega⟩
        · refine zBoth.same (v := (-1000001 : Int32)) I0 ?_ ?_
          · unfold f_X7_fits
            rw [O.k, Option.bind_some, c_isThing O N7 v, Option.bind_some, if_neg (zb_n c1), c_isRow, Option.bind_some, if_neg (zb_n c2), if_neg q1, if_neg q2]
            by_cases z : a5 < 0
            · rw [if_pos z]
            · rw [if_neg z, if_neg]
              intro q
              rcases zcase a5 with y | ⟨r, hr, ra⟩
              · exact z y
              · rw [ra] at q
                exact c5 ⟨r, by have := (nI_leI (b := 2) hr (by omega)).mp q; omega, ra⟩
          · unfold f_X8_fits
            rw [P.k, Option.bind_some, r_isThing P N8 v, Option.bind_some, if_neg (zb_n c1), r_isRow, Option.bind_some, if_neg (zb_n c2), k4, Option.bind_some, if_neg (zb_n c4), k5, Option.bind_some, if_pos (zb_f c5)]
      · refine zBoth.same (v := (-1000001 : Int32)) I0 ?_ ?_
        · unfold f_X7_fits
          rw [O.k, Option.bind_some, c_isThing O N7 v, Option.bind_some, if_neg (zb_n c1), c_isRow, Option.bind_some, if_neg (zb_n c2)]
          by_cases z : a4 < 1
          · rw [if_pos z]
          · rw [if_neg z, if_pos]
            refine Classical.byContradiction fun q => ?_
            rcases zcase a4 with y | ⟨r, hr, ra⟩
            · apply z
              rw [Int32.lt_iff_toInt_lt] at y ⊢
              have e0 : (0 : Int32).toInt = 0 := rfl
              have e1 : (1 : Int32).toInt = 1 := rfl
              omega
            · rw [ra] at q z
              have q2 : r ≤ 16 := Nat.le_of_not_lt (fun u => q (nI_lt (a := 16) u hr))
              have q1 : 1 ≤ r := Nat.le_of_not_lt (fun u => z (nI_lt (b := 1) u (by omega)))
              exact c4 ⟨r, by omega, q1, ra⟩
        · unfold f_X8_fits
          rw [P.k, Option.bind_some, r_isThing P N8 v, Option.bind_some, if_neg (zb_n c1), r_isRow, Option.bind_some, if_neg (zb_n c2), k4, Option.bind_some, if_pos (zb_f c4)]
    · refine zBoth.same (v := (-1000001 : Int32)) I0 ?_ ?_
      · unfold f_X7_fits
        rw [O.k, Option.bind_some, c_isThing O N7 v, Option.bind_some, if_neg (zb_n c1), c_isRow, Option.bind_some, if_pos (zb_f c2)]
      · unfold f_X8_fits
        rw [P.k, Option.bind_some, r_isThing P N8 v, Option.bind_some, if_neg (zb_n c1), r_isRow, Option.bind_some, if_pos (zb_f c2)]
  · refine zBoth.same (v := (-1000001 : Int32)) I0 ?_ ?_
    · unfold f_X7_fits
      rw [O.k, Option.bind_some, c_isThing O N7 v, Option.bind_some, if_pos (zb_f c1)]
    · unfold f_X8_fits
      rw [P.k, Option.bind_some, r_isThing P N8 v, Option.bind_some, if_pos (zb_f c1)]
