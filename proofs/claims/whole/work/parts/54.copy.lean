/-! PURE: copy, feed, as -/
theorem zadd_sub (a b c : Nat) : ((nI a - (1 : Int32)) - nI b) = nI a - nI 1 - nI b := rfl
/-- the reference's copying, number by number, up or down -/
theorem r_copy_b120 {it : Nat → Nat → Int32} {la le ls ss : Nat → Int32} {fa st ac sz tr : Int32} {a b i j N : Nat} (ha : a < 8) (hb : b < 8) (hi : i + N ≤ 40) (hj : j + N ≤ 40) {ro0 : Nat → Int32} : ∀ (k x n : Nat) (h : zH) (ro : Nat → Int32), x + k = N → k < n → iRh h it la le ro ls ss → iP h fa st ac sz tr → (∀ y, ro y = (if j ≤ i then (if 40 * b + j ≤ y ∧ y < 40 * b + j + x then ro0 (40 * a + i + (y - (40 * b + j))) else ro0 y) else (if 40 * b + j + (N - x) ≤ y ∧ y < 40 * b + j + N then ro0 (40 * a + i + (y - (40 * b + j))) else ro0 y))) → ∃ h', f_X8_copy_b120 n 241 (nI a) (nI i) (nI b) (nI j) (nI N) (nI x) h = f_X8_copy_b120 1 241 (nI a) (nI i) (nI b) (nI j) (nI N) (nI N) h' ∧ iRh h' it la le (fun y => if 40 * b + j ≤ y ∧ y < 40 * b + j + N then ro0 (40 * a + i + (y - (40 * b + j))) else ro0 y) ls ss ∧ iP h' fa st ac sz tr ∧ ∀ y, y ≠ 244 → h'[y]? = h[y]? := by
  intro k
  induction k with
  | zero =>
    intro x n h ro hx hn H P hz
    obtain ⟨n, rfl⟩ : ∃ y, n = y + 1 := ⟨n - 1, by omega⟩
    refine ⟨h, ?_, ?_, P, fun _ _ => rfl⟩
    · rw [e_X8_copy_b120, e_X8_copy_b120, if_pos (nI_le (by omega) (by omega)), if_pos (nI_le (by omega) (by omega))]
    · have e : ro = (fun y => if 40 * b + j ≤ y ∧ y < 40 * b + j + N then ro0 (40 * a + i + (y - (40 * b + j))) else ro0 y) := by
        funext y
        rw [hz y]
        have : x = N := by omega
        subst this
        split
        · rfl
        · rw [Nat.sub_self, Nat.add_zero]
      rw [← e]
      exact H
  | succ k ih =>
    intro x n h ro hx hn H P hz
    obtain ⟨n, rfl⟩ : ∃ y, n = y + 1 := ⟨n - 1, by omega⟩
    rw [e_X8_copy_b120, if_neg (nI_ge (by omega) (by omega))]
    have goes : ∀ p, p < N → (if j ≤ i then p = x else p = N - 1 - x) → ∃ h1 ro1, f_X8_copy_b145 (f_X8_copy_b120 n) 241 (nI a) (nI i) (nI b) (nI j) (nI N) (nI x) (nI p) h = f_X8_copy_b120 n 241 (nI a) (nI i) (nI b) (nI j) (nI N) (nI (x + 1)) h1 ∧ iRh h1 it la le ro1 ls ss ∧ iP h1 fa st ac sz tr ∧ (∀ y, ro1 y = (if j ≤ i then (if 40 * b + j ≤ y ∧ y < 40 * b + j + (x + 1) then ro0 (40 * a + i + (y - (40 * b + j))) else ro0 y) else (if 40 * b + j + (N - (x + 1)) ≤ y ∧ y < 40 * b + j + N then ro0 (40 * a + i + (y - (40 * b + j))) else ro0 y))) ∧ ∀ y, y ≠ 244 → h1[y]? = h[y]? := by
      intro p hp hpx
      have src : ro (40 * a + i + p) = ro0 (40 * a + i + p) := by
        rw [hz]
        by_cases d : j ≤ i
        · rw [if_pos d] at hpx ⊢
          subst hpx
          rw [if_neg]
          intro q
          rcases Nat.lt_trichotomy a b with w | w | w
          · omega
          · subst w; omega
          · omega
        · rw [if_neg d] at hpx ⊢
          rw [if_neg]
          intro q
          rcases Nat.lt_trichotomy a b with w | w | w
          · omega
          · subst w; omega
          · omega
      obtain ⟨e, e1, H1⟩ := H.s244 (i := 40 * b + j + p) (by omega) (ro0 (40 * a + i + p))
      refine ⟨h.set 244 e, _, ?_, H1, P.keep (zset_ne (by omega)), fun y => ?_, fun y hy => zset_ne hy⟩
      · unfold f_X8_copy_b145
        rw [P.r2, Option.bind_some, Option.bind_some, z40, pk_mul, nI_add, nI_add, H.l244 (by omega), Option.bind_some, pk_mul, nI_add, nI_add, src, e1, Option.bind_some, nI_1]
      · unfold upd
        by_cases c : y = 40 * b + j + p
        · rw [if_pos c]
          have e9 : ro0 (40 * a + i + p) = ro0 (40 * a + i + (y - (40 * b + j))) := by congr 1; omega
          by_cases d : j ≤ i
          · rw [if_pos d] at hpx ⊢
            rw [if_pos (by omega), e9]
          · rw [if_neg d] at hpx ⊢
            rw [if_pos (by omega), e9]
        · rw [if_neg c, hz y]
          by_cases d : j ≤ i
          · rw [if_pos d] at hpx
            rw [if_pos d, if_pos d]
            by_cases c2 : 40 * b + j ≤ y ∧ y < 40 * b + j + x
            · rw [if_pos c2, if_pos (by omega)]
            · rw [if_neg c2, if_neg (by omega)]
          · rw [if_neg d] at hpx
            rw [if_neg d, if_neg d]
            by_cases c2 : 40 * b + j + (N - x) ≤ y ∧ y < 40 * b + j + N
            · rw [if_pos c2, if_pos (by omega)]
            · rw [if_neg c2, if_neg (by omega)]
    have fin : ∀ p, p < N → (if j ≤ i then p = x else p = N - 1 - x) → ∃ h', f_X8_copy_b145 (f_X8_copy_b120 n) 241 (nI a) (nI i) (nI b) (nI j) (nI N) (nI x) (nI p) h = f_X8_copy_b120 1 241 (nI a) (nI i) (nI b) (nI j) (nI N) (nI N) h' ∧ iRh h' it la le (fun y => if 40 * b + j ≤ y ∧ y < 40 * b + j + N then ro0 (40 * a + i + (y - (40 * b + j))) else ro0 y) ls ss ∧ iP h' fa st ac sz tr ∧ ∀ y, y ≠ 244 → h'[y]? = h[y]? := by
      intro p hp hpx
      obtain ⟨h1, ro1, e1, H1, P1, z1, F1⟩ := goes p hp hpx
      obtain ⟨h2, e2, H2, P2, F2⟩ := ih (x + 1) n h1 ro1 (by omega) (by omega) H1 P1 z1
      exact ⟨h2, e1.trans e2, H2, P2, fun y hy => (F2 y hy).trans (F1 y hy)⟩
    by_cases d : j ≤ i
    · rw [if_pos (nI_le d (by omega))]
      exact fin x (by omega) (by rw [if_pos d])
    · rw [if_neg (nI_ge (by omega) (by omega)), show (nI N - (1 : Int32)) - nI x = nI (N - 1 - x) by rw [z1, pk_sub (by omega), pk_sub (by omega)]]
      exact fin (N - 1 - x) (by omega) (by rw [if_neg d])
theorem zsum {a b N : Nat} (ha : a < 2147483648) (hb : b < 2147483648) (hN : N < 2147483648) : (0 < lg_cmp (Int32.toInt64 (nI a) + Int32.toInt64 (nI b)) (Int32.toInt64 (nI N))) ↔ N < a + b := by
  rw [lg_cmp_gt, Int64.lt_iff_toInt_lt, lg_i2l_add, Int32.toInt_toInt64, nI_toInt ha, nI_toInt hb, nI_toInt hN]
  omega
theorem zsum2 {a b N : Nat} (ha : a < 2147483648) (hb : b < 2147483648) (hN : N < 2147483648) : (lg_cmp (Int32.toInt64 (nI a) + Int32.toInt64 (nI b)) (Int32.toInt64 (nI N)) ≤ 0) ↔ a + b ≤ N := by
  rw [lg_cmp_le, Int64.le_iff_toInt_le, lg_i2l_add, Int32.toInt_toInt64, nI_toInt ha, nI_toInt hb, nI_toInt hN]
  omega
theorem zCp_of {h : zH} {r q n0 n1 s d n : Nat} {f g : Nat → Int32} (h0 : h[r]? = some (.inl (0, n0, .inl f))) (h1 : h[q]? = some (.inl (0, n1, .inl g))) (hs : s + n ≤ n0) (hd : d + n ≤ n1) (b0 : n0 < 1000000) (b1 : n1 < 1000000) : zCp h r (nI s) q (nI d) (nI n) = some (h.set q (.inl (0, n1, .inl (va_cpy f g s d n)))) := by
  unfold zCp
  rw [h0, h1]
  dsimp only
  rw [nI_clamp (n := s) (by omega), nI_clamp (n := d) (by omega), nI_clamp (n := n) (by omega), if_pos ⟨rfl, rfl, Int32.not_lt.mpr (nI_pos' (by omega)), Int32.not_lt.mpr (nI_pos' (by omega)), Int32.not_lt.mpr (nI_pos' (by omega)), hs, hd⟩]
theorem iRh.put3 {h : zH} {it : Nat → Nat → Int32} {la le ro ls ss : Nat → Int32} (H : iRh h it la le ro ls ss) {r : Nat} (hr : r < 8) (f : Nat → Int32) : iRh (h.set (3 + r) (.inl (0, 40, .inl f))) (up2 it r f) la le ro ls ss := by
  obtain ⟨h1, ⟨G, h2, hG⟩, h3, h4, h5, h6, h7, h8⟩ := H
  refine ⟨(zset_ne (by omega)).trans h1, ⟨G, (zset_ne (by omega)).trans h2, hG⟩, fun y hy => ?_, (zset_ne (by omega)).trans h4, (zset_ne (by omega)).trans h5, (zset_ne (by omega)).trans h6, (zset_ne (by omega)).trans h7, (zset_ne (by omega)).trans h8⟩
  unfold up2
  by_cases c : y = r
  · subst c
    rw [if_pos rfl]
    exact zset_eq (h3 y hr)
  · rw [if_neg c, zset_ne (by omega)]
    exact h3 y hy
theorem M_copy {h : zH} (I : INV h) (a1 a2 a3 a4 a5 : Int32) : zBoth (f_X7_copy 0 a1 a2 a3 a4 a5) (f_X8_copy 241 a1 a2 a3 a4 a5) h := by
  obtain ⟨fa, st, ac, sz, tr, th, dg, m, O, P, R, Q⟩ := I.un
  obtain ⟨it, la, le, ro, ls, ss, H, rel⟩ := R.un
  obtain ⟨g1, g2, s1, s2, I2, F1⟩ := both_found I 1
  obtain ⟨g3, g4, s3, s4, I4, F3⟩ := both_found I 2
  obtain ⟨g5, g6, s5, s6, I6, F5⟩ := both_found I 5
  have P1 := P.keep (F1 241 (by omega))
  have P3 := P.keep (F3 241 (by omega))
  have P5 := P.keep (F5 241 (by omega))
  have H1 := H.keep (h' := g1) (fun j hj => F1 j (by omega))
  have H3 := H.keep (h' := g3) (fun j hj => F3 j (by omega))
  have H5 := H.keep (h' := g5) (fun j hj => F5 j (by omega))
  have k1 : f_X7_copy_b39 0 h = some ((-1000010 : Int32) - 1, g1) := by
    unfold f_X7_copy_b39
    rw [O.k, Option.bind_some, s1, Option.bind_some]
  have k2 : f_X7_copy_b101 0 h = some ((-1000010 : Int32) - 2, g3) := by
    unfold f_X7_copy_b101
    rw [O.k, Option.bind_some, s3, Option.bind_some]
  have r1 : f_X8_copy_b35 241 g1 = some ((-1000010 : Int32) - 1, g2) := by
    unfold f_X8_copy_b35
    rw [P1.k, Option.bind_some, s2, Option.bind_some]
  have r2 : f_X8_copy_b111 241 g3 = some ((-1000010 : Int32) - 2, g4) := by
    unfold f_X8_copy_b111
    rw [P3.k, Option.bind_some, s4, Option.bind_some]
  by_cases c1 : ∃ r : Nat, r < 8 ∧ a1 = nI r
  · by_cases c3 : ∃ r : Nat, r < 8 ∧ a3 = nI r
    · have c1' := c1
      have c3' := c3
      obtain ⟨a, ha, ra⟩ := c1'
      obtain ⟨b, hb, rb⟩ := c3'
      obtain ⟨p1, p2, p3⟩ := rel a ha
      obtain ⟨q1, q2, q3⟩ := rel b hb
      rcases p3 with p3 | ⟨Na, hNa, p4, p5⟩
      · refine zBoth.mk ((-1000010 : Int32) - 1) (h1 := g1) (h2 := g2) ?_ ?_ I2
        · unfold f_X7_copy
          rw [c_isRow, Option.bind_some, if_neg (zb_n c1), c_isRow, Option.bind_some, if_neg (zb_n c3), O.r0, Option.bind_some, H.k, Option.bind_some, ra, c_miss H ha, Option.bind_some, if_neg (zb_n p3), k1]
        · unfold f_X8_copy
          rw [r_isRow, Option.bind_some, if_neg (zb_n c1), r_isRow, Option.bind_some, if_neg (zb_n c3), P1.r1, Option.bind_some, ra, H1.l243 ha, Option.bind_some, p2, p3, if_pos (by decide), r1]
      · have nma : ¬ le a = -1 := by rw [p4]; exact znn (by omega)
        have gea : ¬ ss a < 0 := by rw [p2, p4]; exact Int32.not_lt.mpr (nI_pos' (by omega))
        rcases q3 with q3 | ⟨Nb, hNb, q4, q5⟩
        · refine zBoth.mk ((-1000010 : Int32) - 1) (h1 := g1) (h2 := g2) ?_ ?_ I2
          · unfold f_X7_copy
            rw [c_isRow, Option.bind_some, if_neg (zb_n c1), c_isRow, Option.bind_some, if_neg (zb_n c3), O.r0, Option.bind_some, H.k, Option.bind_some, ra, c_miss H ha, Option.bind_some, if_pos (zb_f nma), Option.bind_some, H.k, Option.bind_some, rb, c_miss H hb, Option.bind_some, if_neg (zb_n q3), k1]
          · unfold f_X8_copy
            rw [r_isRow, Option.bind_some, if_neg (zb_n c1), r_isRow, Option.bind_some, if_neg (zb_n c3), P1.r1, Option.bind_some, ra, H1.l243 ha, Option.bind_some, if_neg gea, Option.bind_some, rb, H1.l243 hb, Option.bind_some, q2, q3, if_neg (by decide), r1]
        · have nmb : ¬ le b = -1 := by rw [q4]; exact znn (by omega)
          have geb : (0 : Int32) ≤ ss b := by rw [q2, q4]; exact nI_pos' (by omega)
          by_cases cl : la a = la b
          · haveI : Decidable (sRun Na a2 a5) := Classical.propDecidable _
            haveI : Decidable (sRun Nb a4 a5) := Classical.propDecidable _
            have runa := c_hasRun H ha hNa p4 a2 a5
            have runb := c_hasRun H hb hNb q4 a4 a5
            have cls : ls a = ls b := by rw [p1, q1]; exact cl
            have refd : ¬ (sRun Na a2 a5 ∧ sRun Nb a4 a5) → zBoth (f_X7_copy 0 a1 a2 a3 a4 a5) (f_X8_copy 241 a1 a2 a3 a4 a5) h := by
              intro no
              refine zBoth.mk ((-1000010 : Int32) - 2) (h1 := g3) (h2 := g4) ?_ ?_ I4
              · unfold f_X7_copy
                rw [c_isRow, Option.bind_some, if_neg (zb_n c1), c_isRow, Option.bind_some, if_neg (zb_n c3), O.r0, Option.bind_some, H.k, Option.bind_some, ra, c_miss H ha, Option.bind_some, if_pos (zb_f nma), Option.bind_some, H.k, Option.bind_some, rb, c_miss H hb, Option.bind_some, if_pos (zb_f nmb), Option.bind_some, H.r1, Option.bind_some, H.l11 ha, Option.bind_some, Option.bind_some, H.r1, Option.bind_some, H.l11 hb, Option.bind_some, if_pos cl, Option.bind_some, H.k, Option.bind_some, runa, Option.bind_some]
                by_cases na : sRun Na a2 a5
                · rw [if_neg (zb_n na), Option.bind_some, H.k, Option.bind_some, runb, Option.bind_some, if_pos (zb_f (fun q => no ⟨na, q⟩)), k2]
                · rw [if_pos (zb_f na), k2]
              · unfold f_X8_copy
                rw [r_isRow, Option.bind_some, if_neg (zb_n c1), r_isRow, Option.bind_some, if_neg (zb_n c3), P3.r1, Option.bind_some, ra, H3.l243 ha, Option.bind_some, if_neg gea, Option.bind_some, rb, H3.l243 hb, Option.bind_some, if_pos geb, P3.r0, Option.bind_some, H3.l242 ha, Option.bind_some, Option.bind_some, H3.l242 hb, Option.bind_some, if_pos cls]
                by_cases w1 : a2 < 0
                · rw [if_pos w1, r2]
                · rw [if_neg w1]
                  by_cases w2 : a4 < 0
                  · rw [if_pos w2, r2]
                  · rw [if_neg w2]
                    by_cases w3 : a5 < 0
                    · rw [if_pos w3, r2]
                    · rw [if_neg w3, Option.bind_some, H3.l243 ha, Option.bind_some, p2, p4]
                      rcases zcase a2 with z | ⟨i, hi, ri⟩
                      · exact absurd z w1
                      · rcases zcase a4 with z | ⟨j, hj, rj⟩
                        · exact absurd z w2
                        · rcases zcase a5 with z | ⟨n, hn, rn⟩
                          · exact absurd z w3
                          · have ea : sRun Na a2 a5 ↔ i + n ≤ Na := by
                              unfold sRun
                              rw [ri, rn, nI_toInt hi, nI_toInt hn]
                              exact ⟨fun q => by have := q.2.2; omega, fun q => ⟨nI_pos' hi, nI_pos' hn, by omega⟩⟩
                            have eb : sRun Nb a4 a5 ↔ j + n ≤ Nb := by
                              unfold sRun
                              rw [rj, rn, nI_toInt hj, nI_toInt hn]
                              exact ⟨fun q => by have := q.2.2; omega, fun q => ⟨nI_pos' hj, nI_pos' hn, by omega⟩⟩
                            rw [ri, rj, rn]
                            by_cases y1 : Na < i + n
                            · rw [if_pos ((zsum hi hn (by omega)).mpr y1), r2]
                            · rw [if_neg (fun q => y1 ((zsum hi hn (by omega)).mp q)), Option.bind_some, H3.l243 hb, Option.bind_some, q2, q4, if_neg (fun q => no ⟨ea.mpr (by omega), eb.mpr ((zsum2 hj hn (by omega)).mp q)⟩), r2]
            by_cases no : sRun Na a2 a5 ∧ sRun Nb a4 a5
            · obtain ⟨na, nb⟩ := no
              obtain ⟨i, n, ri, rn, hin⟩ := na.nat (by omega)
              obtain ⟨j, n', rj, rn', hjn⟩ := nb.nat (by omega)
              have en : n' = n := by
                rw [rn] at rn'
                rcases Nat.lt_or_ge n' 2147483648 with w | w
                · exact ((nI_eq (by omega) w).mp rn').symm
                · omega
              subst en
              have sc := zCp_of (s := i) (d := j) (n := n') (H.2.2.1 a ha) (H.2.2.1 b hb) (by omega) (by omega) (by omega) (by omega)
              have K1 := H.put3 hb (va_cpy (it a) (it b) i j n')
              generalize he : (h.set (3 + b) (.inl (0, 40, .inl (va_cpy (it a) (it b) i j n'))) : zH) = k at sc K1
              have Fk : ∀ y, y ≠ 3 + b → k[y]? = h[y]? := fun y hy => by rw [← he]; exact zset_ne hy
              have O1 : iO k fa st := O.keep (Fk _ (by omega))
              obtain ⟨h2, t2, O2, F2⟩ := c_fine O1 a5
              have F02 : ∀ j, 13 ≤ j → h2[j]? = h[j]? := fun j hj => (F2 j (by omega)).trans (Fk _ (by omega))
              have P2 := P.keep (h' := h2) (F02 _ (by omega))
              have H2 := K1.keep (h' := h2) (fun j hj => F2 j (by omega))
              obtain ⟨h3, t3, K3, P3', F3'⟩ := r_copy_b120 (a := a) (b := b) (i := i) (j := j) (N := n') ha hb (by omega) (by omega) (ro0 := ro) n' 0 zF h2 ro (by omega) (by show n' < 5000; omega) H2 P2 (fun y => by
                by_cases d : j ≤ i
                · rw [if_pos d, if_neg (by omega)]
                · rw [if_neg d, if_neg (by omega)])
              obtain ⟨h4, t4, P4, F4⟩ := r_well P3' a5
              have F24 : ∀ j, (j < 241 ∨ 244 < j) → h4[j]? = h2[j]? := fun j hj => (F4 j (by omega)).trans (F3' j (by omega))
              refine zBoth.mk a5 (h1 := h2) (h2 := h4) ?_ ?_ ?_
              · unfold f_X7_copy
                rw [c_isRow, Option.bind_some, if_neg (zb_n c1), c_isRow, Option.bind_some, if_neg (zb_n c3), O.r0, Option.bind_some, H.k, Option.bind_some, ra, c_miss H ha, Option.bind_some, if_pos (zb_f nma), Option.bind_some, H.k, Option.bind_some, rb, c_miss H hb, Option.bind_some, if_pos (zb_f nmb), Option.bind_some, H.r1, Option.bind_some, H.l11 ha, Option.bind_some, Option.bind_some, H.r1, Option.bind_some, H.l11 hb, Option.bind_some, if_pos cl, Option.bind_some, H.k, Option.bind_some, runa, Option.bind_some, if_neg (zb_n na), Option.bind_some, H.k, Option.bind_some, runb, Option.bind_some, if_neg (zb_n nb), Option.bind_some, H.r0, Option.bind_some, H.lr ha, Option.bind_some, Option.bind_some, H.r0, Option.bind_some, H.lr hb, Option.bind_some, ri, rj, rn, sc, Option.bind_some, O1.k, Option.bind_some, ← rn, t2, Option.bind_some]
              · unfold f_X8_copy
                rw [r_isRow, Option.bind_some, if_neg (zb_n c1), r_isRow, Option.bind_some, if_neg (zb_n c3), P2.r1, Option.bind_some, ra, H2.l243 ha, Option.bind_some, if_neg gea, Option.bind_some, rb, H2.l243 hb, Option.bind_some, if_pos geb, P2.r0, Option.bind_some, H2.l242 ha, Option.bind_some, Option.bind_some, H2.l242 hb, Option.bind_some, if_pos cls, if_neg (Int32.not_lt.mpr na.1), if_neg (Int32.not_lt.mpr nb.1), if_neg (Int32.not_lt.mpr na.2.1), Option.bind_some, H2.l243 ha, Option.bind_some, p2, p4, ri, rn, if_neg (fun q => by have := (zsum (by omega) (by omega) (by omega)).mp q; omega), Option.bind_some, H2.l243 hb, Option.bind_some, q2, q4, rj, if_pos ((zsum2 (by omega) (by omega) (by omega)).mpr hjn), show (0 : Int32) = nI 0 from rfl, t3, e_X8_copy_b120, if_pos (nI_le (by omega) (by omega)), P3'.k, Option.bind_some, ← rn, t4, Option.bind_some]
              · refine (Q.keep (h' := h4) (fun j h1 h2 => (F24 j h2).trans (F02 j h1))).inv (O2.keep (F24 _ (by omega))) P4 ((K3.keep (h' := h4) (fun j hj => F4 j (by omega))).mk ?_)
                intro y hy
                obtain ⟨w1, w2, w3⟩ := rel y hy
                refine ⟨w1, w2, ?_⟩
                by_cases cy : y = b
                · subst cy
                  refine Or.inr ⟨Nb, hNb, q4, fun x hx => ?_⟩
                  unfold up2 va_cpy
                  rw [if_pos rfl]
                  dsimp only
                  by_cases cx : j ≤ x ∧ x < j + n'
                  · rw [if_pos cx, if_pos (by omega), show 40 * a + i + (40 * y + x - (40 * y + j)) = 40 * a + (i + (x - j)) by omega]
                    exact p5 _ (by omega)
                  · rw [if_neg cx, if_neg (by omega)]
                    exact q5 x hx
                · rcases w3 with w3 | ⟨nn, hnn, w4, w5⟩
                  · exact Or.inl w3
                  · refine Or.inr ⟨nn, hnn, w4, fun x hx => ?_⟩
                    unfold up2
                    rw [if_neg cy]
                    dsimp only
                    rw [if_neg (by omega)]
                    exact w5 x hx
            · exact refd no
          · have cls : ¬ ls a = ls b := by rw [p1, q1]; exact cl
            refine zBoth.mk ((-1000010 : Int32) - 5) (h1 := g5) (h2 := g6) ?_ ?_ I6
            · unfold f_X7_copy
              rw [c_isRow, Option.bind_some, if_neg (zb_n c1), c_isRow, Option.bind_some, if_neg (zb_n c3), O.r0, Option.bind_some, H.k, Option.bind_some, ra, c_miss H ha, Option.bind_some, if_pos (zb_f nma), Option.bind_some, H.k, Option.bind_some, rb, c_miss H hb, Option.bind_some, if_pos (zb_f nmb), Option.bind_some, H.r1, Option.bind_some, H.l11 ha, Option.bind_some, Option.bind_some, H.r1, Option.bind_some, H.l11 hb, Option.bind_some, if_neg cl, O.k, Option.bind_some, s5, Option.bind_some]
            · unfold f_X8_copy
              rw [r_isRow, Option.bind_some, if_neg (zb_n c1), r_isRow, Option.bind_some, if_neg (zb_n c3), P5.r1, Option.bind_some, ra, H5.l243 ha, Option.bind_some, if_neg gea, Option.bind_some, rb, H5.l243 hb, Option.bind_some, if_pos geb, P5.r0, Option.bind_some, H5.l242 ha, Option.bind_some, Option.bind_some, H5.l242 hb, Option.bind_some, if_neg cls, P5.k, Option.bind_some, s6, Option.bind_some]
    · refine zBoth.same (v := (-1000001 : Int32)) I ?_ ?_
      · unfold f_X7_copy
        rw [c_isRow, Option.bind_some, if_neg (zb_n c1), c_isRow, Option.bind_some, if_pos (zb_f c3)]
      · unfold f_X8_copy
        rw [r_isRow, Option.bind_some, if_neg (zb_n c1), r_isRow, Option.bind_some, if_pos (zb_f c3)]
  · refine zBoth.same (v := (-1000001 : Int32)) I ?_ ?_
    · unfold f_X7_copy
      rw [c_isRow, Option.bind_some, if_pos (zb_f c1)]
    · unfold f_X8_copy
      rw [r_isRow, Option.bind_some, if_pos (zb_f c1)]
