/-! PURE: ahead, up, comesUp, first, trouble, dig -/
theorem zb_n {p : Prop} [Decidable p] (h : p) : ¬ zb p = 0 := by rw [zb_t h]; decide
/-- both sides answer alike, and what must stand between two calls stands again -/
def zBoth (F G : zH → Option (Int32 × zH)) (h : zH) : Prop := ∃ v h1 h2, F h = some (v, h1) ∧ G h1 = some (v, h2) ∧ INV h2 ∧ zK h1 241 8 = some ()
theorem zBoth.same {F G : zH → Option (Int32 × zH)} {h : zH} {v : Int32} (I : INV h) (a : F h = some (v, h)) (b : G h = some (v, h)) : zBoth F G h := by
  have I0 := I
  obtain ⟨fa, st, ac, sz, tr, th, dg, m, O, P, -⟩ := I0
  exact ⟨v, h, h, a, b, I, P.k⟩
theorem zBoth.mk {F G : zH → Option (Int32 × zH)} {h h1 h2 : zH} (v : Int32) (a : F h = some (v, h1)) (b : G h1 = some (v, h2)) (I : INV h2) (K : zK h1 241 8 = some () := by exact iP.k (by assumption)) : zBoth F G h := ⟨v, h1, h2, a, b, I, K⟩
theorem M_ahead {h : zH} (I : INV h) (a b : Int32) : zBoth (f_X7_ahead 0 a b) (f_X8_ahead 241 a b) h := by
  have I0 := I
  obtain ⟨fa, st, ac, sz, tr, th, dg, m, O, P, R, T, ⟨N7, N8, G⟩, A, Im, C, S, X, L⟩ := I
  have v := G.1
  have h5 := v.1
  have hy := G.2.1
  by_cases c : ∃ t, t < m 0 ∧ a = nI t
  · by_cases c2 : 0 ≤ b ∧ b ≤ 60
    · obtain ⟨d, hd, rfl⟩ := zspan c2
      obtain ⟨t, ht, ra⟩ := c
      obtain ⟨h1, e1, H1, F1, S1⟩ := c_behind S N7 v G.b (d := d) (by omega) (by omega)
      have v1 := sIt_v d _ v (by omega)
      have n1 := sIt_0 d _ h5
      have N1 : zMo h1 245 dg m := N8.keep (F1 _ (by omega))
      have P1 := P.keep (F1 _ (by omega))
      have X1 : iX h1 := X.keep (fun j hj => F1 j (by omega))
      obtain ⟨h2, e2, H2, P2, Z2, F2, F2r⟩ := r_aside P1 N1 v X1.z
      obtain ⟨h3, e3, H3, P3, Z3, F3⟩ := r_go (d := d) (by omega) P2 H2 v (by omega) Z2
      refine zBoth.mk (nI (sIt m d (13 + t))) (h1 := h1) (h2 := h3) ?_ ?_ (I0.sc2 F1 S1 (F2r.tr F3) Z3)
      · unfold f_X7_ahead
        rw [O.k, Option.bind_some, c_isThing O N7 v, Option.bind_some, if_neg (zb_n ⟨t, ht, ra⟩), c_isSpan, Option.bind_some, if_neg (zb_n c2), O.r6, Option.bind_some, O.r2, Option.bind_some, S.k, Option.bind_some, e1, Option.bind_some]
        dsimp only
        rw [H1.f7, Option.bind_some, ra, H1.de v1 (by rw [n1]; exact ht), Option.bind_some]
      · unfold f_X8_ahead
        rw [P1.k, Option.bind_some, r_isThing P1 N1 v, Option.bind_some, if_neg (zb_n ⟨t, ht, ra⟩), r_isSpan, Option.bind_some, if_neg (zb_n c2), Option.bind_some, e2, Option.bind_some, P2.k, Option.bind_some, e3, Option.bind_some, P3.r6, Option.bind_some, ra, H3.de v1 (by rw [n1]; exact ht), Option.bind_some]
    · refine zBoth.same (v := (-1000001 : Int32)) I0 ?_ ?_
      · unfold f_X7_ahead
        rw [O.k, Option.bind_some, c_isThing O N7 v, Option.bind_some, if_neg (zb_n c), c_isSpan, Option.bind_some, if_pos (zb_f c2)]
      · unfold f_X8_ahead
        rw [P.k, Option.bind_some, r_isThing P N8 v, Option.bind_some, if_neg (zb_n c), r_isSpan, Option.bind_some, if_pos (zb_f c2)]
  · refine zBoth.same (v := (-1000001 : Int32)) I0 ?_ ?_
    · unfold f_X7_ahead
      rw [O.k, Option.bind_some, c_isThing O N7 v, Option.bind_some, if_pos (zb_f c)]
    · unfold f_X8_ahead
      rw [P.k, Option.bind_some, r_isThing P N8 v, Option.bind_some, if_pos (zb_f c)]
theorem gM.nz {th : Int32} {m : Nat → Nat} (G : gM th m) (h : 0 < m 2) : ¬ th = 0 := by rw [G.2.2]; exact zb_n h
theorem gM.z {th : Int32} {m : Nat → Nat} (G : gM th m) (h : ¬ 0 < m 2) : th = 0 := by rw [G.2.2]; exact zb_f h
theorem gM.ne {th : Int32} {m : Nat → Nat} (G : gM th m) : (th = 0) = ¬ (0 < m 2) := by rw [G.2.2, zb_0]
theorem M_up {h : zH} (I : INV h) (b : Int32) : zBoth (f_X7_up 0 b) (f_X8_up 241 b) h := by
  have I0 := I
  obtain ⟨fa, st, ac, sz, tr, th, dg, m, O, P, R, T, ⟨N7, N8, G⟩, A, Im, C, S, X, L⟩ := I
  have v := G.1
  have h5 := v.1
  have hy := G.2.1
  by_cases c : 0 < m 2
  · by_cases c2 : 0 ≤ b ∧ b ≤ 60
    · obtain ⟨d, hd, rfl⟩ := zspan c2
      obtain ⟨h1, e1, H1, F1, S1⟩ := c_behind S N7 v G.b (d := d) (by omega) (by omega)
      have v1 := sIt_v d _ v (by omega)
      have N1 : zMo h1 245 dg m := N8.keep (F1 _ (by omega))
      have P1 := P.keep (F1 _ (by omega))
      have X1 : iX h1 := X.keep (fun j hj => F1 j (by omega))
      obtain ⟨h2, e2, H2, P2, Z2, F2, F2r⟩ := r_aside P1 N1 v X1.z
      obtain ⟨h3, e3, H3, P3, Z3, F3⟩ := r_go (d := d) (by omega) P2 H2 v (by omega) Z2
      refine zBoth.mk (sUp (sIt m d) (sIt m d 0) 0 0) (h1 := h1) (h2 := h3) ?_ ?_ (I0.sc2 F1 S1 (F2r.tr F3) Z3)
      · unfold f_X7_up
        rw [O.r2, Option.bind_some, N7.f0, Option.bind_some, if_neg (G.nz c), c_isSpan, Option.bind_some, if_neg (zb_n c2), O.r6, Option.bind_some, Option.bind_some, S.k, Option.bind_some, e1, Option.bind_some]
        dsimp only
        rw [H1.k, Option.bind_some, c_allUp H1 v1, Option.bind_some]
      · unfold f_X8_up
        rw [P1.k, Option.bind_some, r_isMine P1 N1 v, Option.bind_some, if_neg (zb_n c), r_isSpan, Option.bind_some, if_neg (zb_n c2), Option.bind_some, e2, Option.bind_some, P2.k, Option.bind_some, e3, Option.bind_some, P3.r6, Option.bind_some, r_upOf H3 v1, Option.bind_some]
    · refine zBoth.same (v := (-1000001 : Int32)) I0 ?_ ?_
      · unfold f_X7_up
        rw [O.r2, Option.bind_some, N7.f0, Option.bind_some, if_neg (G.nz c), c_isSpan, Option.bind_some, if_pos (zb_f c2)]
      · unfold f_X8_up
        rw [P.k, Option.bind_some, r_isMine P N8 v, Option.bind_some, if_neg (zb_n c), r_isSpan, Option.bind_some, if_pos (zb_f c2)]
  · refine zBoth.same (v := (-1000002 : Int32)) I0 ?_ ?_
    · unfold f_X7_up
      rw [O.r2, Option.bind_some, N7.f0, Option.bind_some, if_pos (G.z c)]
    · unfold f_X8_up
      rw [P.k, Option.bind_some, r_isMine P N8 v, Option.bind_some, if_pos (zb_f c)]
theorem M_comesUp {h : zH} (I : INV h) (a : Int32) : zBoth (f_X7_comesUp 0 a) (f_X8_comesUp 241 a) h := by
  have I0 := I
  obtain ⟨fa, st, ac, sz, tr, th, dg, m, O, P, R, T, ⟨N7, N8, G⟩, A, Im, C, S, X, L⟩ := I
  have v := G.1
  have h5 := v.1
  have hy := G.2.1
  by_cases c : ∃ t, t < m 0 ∧ a = nI t
  · obtain ⟨t, ht, ra⟩ := c
    obtain ⟨h1, e1, F1, S1⟩ := c_until S N7 G ht
    have N1 : zMo h1 245 dg m := N8.keep (F1 _ (by omega))
    have P1 := P.keep (F1 _ (by omega))
    have X1 : iX h1 := X.keep (fun j hj => F1 j (by omega))
    obtain ⟨h2, e2, H2, P2, Z2, F2, F2r⟩ := r_aside P1 N1 v X1.z
    obtain ⟨h3, e3, Z3, F3⟩ := r_until_b17 100 0 zF h2 m (by omega) (by show 100 < 5000; omega) v (by omega) ht H2 P2 Z2
    refine zBoth.mk (sCU t 100 0 m) (h1 := h1) (h2 := h3) ?_ ?_ (I0.sc2 F1 S1 (F2r.tr F3) Z3)
    · unfold f_X7_comesUp
      rw [O.k, Option.bind_some, c_isThing O N7 v, Option.bind_some, if_neg (zb_n ⟨t, ht, ra⟩), O.r6, Option.bind_some, O.r2, Option.bind_some, S.k, Option.bind_some, ra, e1, Option.bind_some]
    · unfold f_X8_comesUp
      rw [P1.k, Option.bind_some, r_isThing P1 N1 v, Option.bind_some, if_neg (zb_n ⟨t, ht, ra⟩), Option.bind_some, e2, Option.bind_some, ra, show (0 : Int32) = nI 0 from rfl, e3]
  · refine zBoth.same (v := (-1000001 : Int32)) I0 ?_ ?_
    · unfold f_X7_comesUp
      rw [O.k, Option.bind_some, c_isThing O N7 v, Option.bind_some, if_pos (zb_f c)]
    · unfold f_X8_comesUp
      rw [P.k, Option.bind_some, r_isThing P N8 v, Option.bind_some, if_pos (zb_f c)]
theorem M_dig {h : zH} (I : INV h) (a b : Int32) : zBoth (f_X7_dig 0 a b) (f_X8_dig 241 a b) h := by
  have I0 := I
  obtain ⟨fa, st, ac, sz, tr, th, dg, m, O, P, R, T, ⟨N7, N8, G⟩, A, Im, C, S, X, L⟩ := I
  have v := G.1
  have h5 := v.1
  have hy := G.2.1
  by_cases c : ∃ t, t < m 0 ∧ a = nI t
  · by_cases c2 : 0 ≤ b ∧ b ≤ 60
    · obtain ⟨d, hd, rfl⟩ := zspan c2
      obtain ⟨t, ht, ra⟩ := c
      obtain ⟨h1, e1, F1, S1⟩ := c_dig_b3 G ht hd 40 1 zF h (by omega) (by show 40 < 5000; omega) (by omega) N7 S
      have N1 : zMo h1 245 dg m := N8.keep (F1 _ (by omega))
      have P1 := P.keep (F1 _ (by omega))
      have X1 : iX h1 := X.keep (fun j hj => F1 j (by omega))
      obtain ⟨h3, e3, Z3, F3⟩ := r_dig_b20 v hy ht hd 40 1 zF h1 (by omega) (by show 40 < 5000; omega) (by omega) N1 P1 X1.z
      refine zBoth.mk (sLD m t d 40 1) (h1 := h1) (h2 := h3) ?_ ?_ (I0.sc2 F1 S1 F3 Z3)
      · unfold f_X7_dig f_X5_leastDepth
        rw [O.k, Option.bind_some, c_isThing O N7 v, Option.bind_some, if_neg (zb_n ⟨t, ht, ra⟩), c_isSpan, Option.bind_some, if_neg (zb_n c2), O.r6, Option.bind_some, O.r2, Option.bind_some, S.k, Option.bind_some, ra, z1, e1, Option.bind_some]
      · unfold f_X8_dig
        rw [P1.k, Option.bind_some, r_isThing P1 N1 v, Option.bind_some, if_neg (zb_n ⟨t, ht, ra⟩), r_isSpan, Option.bind_some, if_neg (zb_n c2), ra, z1, e3]
    · refine zBoth.same (v := (-1000001 : Int32)) I0 ?_ ?_
      · unfold f_X7_dig
        rw [O.k, Option.bind_some, c_isThing O N7 v, Option.bind_some, if_neg (zb_n c), c_isSpan, Option.bind_some, if_pos (zb_f c2)]
      · unfold f_X8_dig
        rw [P.k, Option.bind_some, r_isThing P N8 v, Option.bind_some, if_neg (zb_n c), r_isSpan, Option.bind_some, if_pos (zb_f c2)]
  · refine zBoth.same (v := (-1000001 : Int32)) I0 ?_ ?_
    · unfold f_X7_dig
      rw [O.k, Option.bind_some, c_isThing O N7 v, Option.bind_some, if_pos (zb_f c)]
    · unfold f_X8_dig
      rw [P.k, Option.bind_some, r_isThing P N8 v, Option.bind_some, if_pos (zb_f c)]
theorem ztwo {a : Int32} : (if a = 0 then (1 : Int32) else 0) = zb (decide (a = 0) = true) := by
  by_cases c : a = 0
  · rw [if_pos c, zb_t (by simpa using c)]
  · rw [if_neg c, zb_f (by simpa using c)]
theorem M_first {h : zH} (I : INV h) (b : Int32) : zBoth (f_X7_first 0 b) (f_X8_first 241 b) h := by
  have I0 := I
  obtain ⟨fa, st, ac, sz, tr, th, dg, m, O, P, R, T, ⟨N7, N8, G⟩, A, Im, C, S, X, L⟩ := I
  have v := G.1
  have h5 := v.1
  have hy := G.2.1
  by_cases c : 0 < m 2
  · by_cases c2 : b = 0 ∨ b = 1
    · obtain ⟨h1, e1, F1, S1⟩ := c_first S N7 G (decide (b = 0))
      have N1 : zMo h1 245 dg m := N8.keep (F1 _ (by omega))
      have P1 := P.keep (F1 _ (by omega))
      have X1 : iX h1 := X.keep (fun j hj => F1 j (by omega))
      obtain ⟨h2, e2, H2, P2, Z2, F2, F2r⟩ := r_aside P1 N1 v X1.z
      obtain ⟨h3, e3, Z3, F3⟩ := r_first_b34 (b := sUp m (m 0) 0 0) (a1 := b) (w := decide (b = 0)) (by simp) 99 1 zF h2 m (by omega) (by show 99 < 5000; omega) v (by omega) H2 P2 Z2
      refine zBoth.mk (sFU (sUp m (m 0) 0 0) (decide (b = 0)) 99 1 m) (h1 := h1) (h2 := h3) ?_ ?_ (I0.sc2 F1 S1 (F2r.tr F3) Z3)
      · unfold f_X7_first
        rw [O.r2, Option.bind_some, N7.f0, Option.bind_some, if_neg (G.nz c), c_isTwo, Option.bind_some, if_neg (zb_n c2), O.r6, Option.bind_some, Option.bind_some]
        have key : (if b = 0 then f_X7_first_b37 200 15 (1 : Int32) h else f_X7_first_b37 200 15 (0 : Int32) h) = f_X7_first_b37 200 15 (zb (decide (b = 0) = true)) h := by
          rw [← ztwo]
          split <;> rfl
        rw [key]
        unfold f_X7_first_b37
        rw [S.k, Option.bind_some, e1, Option.bind_some]
      · unfold f_X8_first
        rw [P1.k, Option.bind_some, r_isMine P1 N1 v, Option.bind_some, if_neg (zb_n c), r_isTwo, Option.bind_some, if_neg (zb_n c2), P1.r4, Option.bind_some, r_upOf N1 v, Option.bind_some, Option.bind_some, e2, Option.bind_some, z1, e3]
    · refine zBoth.same (v := (-1000001 : Int32)) I0 ?_ ?_
      · unfold f_X7_first
        rw [O.r2, Option.bind_some, N7.f0, Option.bind_some, if_neg (G.nz c), c_isTwo, Option.bind_some, if_pos (zb_f c2)]
      · unfold f_X8_first
        rw [P.k, Option.bind_some, r_isMine P N8 v, Option.bind_some, if_neg (zb_n c), r_isTwo, Option.bind_some, if_pos (zb_f c2)]
  · refine zBoth.same (v := (-1000002 : Int32)) I0 ?_ ?_
    · unfold f_X7_first
      rw [O.r2, Option.bind_some, N7.f0, Option.bind_some, if_pos (G.z c)]
    · unfold f_X8_first
      rw [P.k, Option.bind_some, r_isMine P N8 v, Option.bind_some, if_pos (zb_f c)]
theorem M_trouble {h : zH} (I : INV h) (b : Int32) : zBoth (f_X7_trouble 0 b) (f_X8_trouble 241 b) h := by
  have I0 := I
  obtain ⟨fa, st, ac, sz, tr, th, dg, m, O, P, R, T, ⟨N7, N8, G⟩, A, Im, C, S, X, L⟩ := I
  have v := G.1
  have h5 := v.1
  have hy := G.2.1
  by_cases c : 0 < m 2
  · by_cases c2 : b = 0 ∨ b = 1
    · obtain ⟨h1, e1, F1, S1⟩ := c_trouble S N7 G (decide (b = 0))
      have N1 : zMo h1 245 dg m := N8.keep (F1 _ (by omega))
      have P1 := P.keep (F1 _ (by omega))
      have X1 : iX h1 := X.keep (fun j hj => F1 j (by omega))
      obtain ⟨h2, e2, H2, P2, Z2, F2, F2r⟩ := r_aside P1 N1 v X1.z
      obtain ⟨h3, e3, Z3, F3⟩ := r_trouble_b26 (a1 := b) (w := decide (b = 0)) (by simp) 100 0 zF h2 m (by omega) (by show 100 < 5000; omega) v (by omega) H2 P2 Z2
      refine zBoth.mk (sTr (decide (b = 0)) 100 0 m) (h1 := h1) (h2 := h3) ?_ ?_ (I0.sc2 F1 S1 (F2r.tr F3) Z3)
      · unfold f_X7_trouble
        rw [O.r2, Option.bind_some, N7.f0, Option.bind_some, if_neg (G.nz c), c_isTwo, Option.bind_some, if_neg (zb_n c2), O.r6, Option.bind_some, Option.bind_some]
        have key : (if b = 0 then f_X7_trouble_b37 200 15 (1 : Int32) h else f_X7_trouble_b37 200 15 (0 : Int32) h) = f_X7_trouble_b37 200 15 (zb (decide (b = 0) = true)) h := by
          rw [← ztwo]
          split <;> rfl
        rw [key]
        unfold f_X7_trouble_b37
        rw [S.k, Option.bind_some, e1, Option.bind_some]
      · unfold f_X8_trouble
        rw [P1.k, Option.bind_some, r_isMine P1 N1 v, Option.bind_some, if_neg (zb_n c), r_isTwo, Option.bind_some, if_neg (zb_n c2), Option.bind_some, e2, Option.bind_some]
        exact e3
    · refine zBoth.same (v := (-1000001 : Int32)) I0 ?_ ?_
      · unfold f_X7_trouble
        rw [O.r2, Option.bind_some, N7.f0, Option.bind_some, if_neg (G.nz c), c_isTwo, Option.bind_some, if_pos (zb_f c2)]
      · unfold f_X8_trouble
        rw [P.k, Option.bind_some, r_isMine P N8 v, Option.bind_some, if_neg (zb_n c), r_isTwo, Option.bind_some, if_pos (zb_f c2)]
  · refine zBoth.same (v := (-1000002 : Int32)) I0 ?_ ?_
    · unfold f_X7_trouble
      rw [O.r2, Option.bind_some, N7.f0, Option.bind_some, if_pos (G.z c)]
    · unfold f_X8_trouble
      rw [P.k, Option.bind_some, r_isMine P N8 v, Option.bind_some, if_pos (zb_f c)]
