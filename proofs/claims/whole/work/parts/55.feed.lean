/-! PURE: feed, as -/
theorem M_feed {h : zH} (I : INV h) (a : Int32) : zBoth (f_X7_feed 0 a) (f_X8_feed 241 a) h := by
  obtain ⟨fa, st, ac, sz, tr, th, dg, m, O, P, R, T, N, A, Im, C, S, X, L⟩ := I
  have I0 : INV h := ⟨fa, st, ac, sz, tr, th, dg, m, O, P, R, T, N, A, Im, C, S, X, L⟩
  obtain ⟨hk, a1, a2, w, f, g, t1, t2, t3, t4⟩ := T
  have kin : f_X8_in (Int32.toInt64 a) (0 : Int64) (255 : Int64) h = some (zb (∃ r : Nat, r < 256 ∧ a = nI r)) := r_below (N := 256) a (by omega)
  by_cases c : ∃ r : Nat, r < 256 ∧ a = nI r
  · have c' := c
    obtain ⟨r, hr, ra⟩ := c'
    have c1 : ¬ a < 0 := by rw [ra]; exact Int32.not_lt.mpr (nI_pos' (by omega))
    have c2 : a ≤ 255 := by rw [ra]; exact nI_le (b := 255) (by omega) (by omega)
    by_cases cs : sz = 100
    · refine zBoth.same (v := (-1000003 : Int32)) I0 ?_ ?_
      · unfold f_X7_feed
        rw [if_neg c1, if_pos c2, O.r1, Option.bind_some, zI_of t1 rfl, Option.bind_some, if_neg (by rw [cs]; decide)]
      · unfold f_X8_feed
        rw [kin, Option.bind_some, if_neg (zb_n c), P.i12, Option.bind_some, if_pos (by rw [cs]; rfl)]
    · have lt : nI sz < 100 := nI_lt (b := 100) (by omega) (by omega)
      have ne : ¬ nI sz = 100 := zne (b := 100) cs (by omega) (by omega)
      have z1 := zS_of t2 (j := sz) (x := nI r) (by omega) (by omega)
      generalize he : (h.set 14 (.inl (0, 100, .inl (upd f sz (nI r)))) : zH) = k1 at z1
      have F1 : ∀ y, y ≠ 14 → k1[y]? = h[y]? := fun y hy => by rw [← he]; exact zset_ne hy
      have w1 : k1[13]? = _ := (F1 13 (by omega)).trans t1
      have z2 := zP_of (v := .int (nI (sz + 1))) w1 (k := 1) (by simp)
      generalize he2 : (k1.set 13 _ : zH) = k2 at z2
      have F2 : ∀ y, y ≠ 13 → k2[y]? = k1[y]? := fun y hy => by rw [← he2]; exact zset_ne hy
      have w2 : k2[13]? = some (.inr (6, [.ref 14, .int (nI (sz + 1)), .int a1, .int a2])) := by rw [← he2, zset_eq w1]; rfl
      have F02 : ∀ y, y ≠ 13 → y ≠ 14 → k2[y]? = h[y]? := fun y a b => (F2 y a).trans (F1 y b)
      have O2 : iO k2 fa st := O.keep (F02 _ (by omega) (by omega))
      have P2 : iP k2 fa st (nI ac) (nI sz) (nI tr) := P.keep (F02 _ (by omega) (by omega))
      have z3 := zS_of ((F02 251 (by omega) (by omega)).trans t3) (j := sz) (x := nI r) (by omega) (by omega)
      generalize he3 : (k2.set 251 _ : zH) = k3 at z3
      have F3 : ∀ y, y ≠ 251 → k3[y]? = k2[y]? := fun y hy => by rw [← he3]; exact zset_ne hy
      have P3 : iP k3 fa st (nI ac) (nI sz) (nI tr) := P2.keep (F3 _ (by omega))
      obtain ⟨e4, z4, P4⟩ := P3.p12 (nI (sz + 1))
      have F4 : ∀ y, y ≠ 241 → y ≠ 251 → (k3.set 241 e4)[y]? = k2[y]? := fun y a b => (zset_ne a).trans (F3 y b)
      have F : ∀ y, y ≠ 13 → y ≠ 14 → y ≠ 241 → y ≠ 251 → (k3.set 241 e4)[y]? = h[y]? := fun y a b c d => (F4 y c d).trans (F02 y a b)
      refine zBoth.mk (nI (sz + 1)) (h1 := k2) (h2 := k3.set 241 e4) ?_ ?_ ?_
      · unfold f_X7_feed f_X6_append
        rw [if_neg c1, if_pos c2, O.r1, Option.bind_some, zI_of t1 rfl, Option.bind_some, if_pos lt, Option.bind_some, zK_of t1, Option.bind_some, zI_of t1 rfl, Option.bind_some, if_neg (show ¬ (100 : Int32) ≤ nI sz from nI_ge (a := sz) (b := 100) (by omega) (by omega)), zR_of t1 rfl, Option.bind_some, Option.bind_some, ra, z1, Option.bind_some, zI_of w1 rfl, Option.bind_some, nI_1, z2, Option.bind_some, Option.bind_some, O2.r1, Option.bind_some, zI_of w2 rfl, Option.bind_some]
      · have kin2 : f_X8_in (Int32.toInt64 a) (0 : Int64) (255 : Int64) k2 = some (zb (∃ r : Nat, r < 256 ∧ a = nI r)) := r_below (N := 256) a (by omega)
        unfold f_X8_feed
        rw [kin2, Option.bind_some, if_neg (zb_n c), P2.i12, Option.bind_some, if_neg ne, P2.r11, Option.bind_some, Option.bind_some, ra, z3, Option.bind_some, P3.i12, Option.bind_some, nI_1, z4, Option.bind_some, P4.i12, Option.bind_some]
      · refine ⟨fa, st, ac, sz + 1, tr, th, dg, m, O2.keep (F4 _ (by omega) (by omega)), P4, R.keep (fun j _ => F j (by omega) (by omega) (by omega) (by omega)), ⟨by omega, a1, a2, fun i => if i = sz then r else w i, upd f sz (nI r), upd g sz (nI r), (F4 _ (by omega) (by omega)).trans w2, ?_, ?_, ?_⟩, N.keep (fun j _ => F j (by omega) (by omega) (by omega) (by omega)), A.keep (fun j _ => F j (by omega) (by omega) (by omega) (by omega)), Im.keep (fun j _ => F j (by omega) (by omega) (by omega) (by omega)), C.keep (fun j _ => F j (by omega) (by omega) (by omega) (by omega)), S.keep (fun j _ => F j (by omega) (by omega) (by omega) (by omega)), X.keep (fun j _ => F j (by omega) (by omega) (by omega) (by omega)), L.keep (fun j _ => F j (by omega) (by omega) (by omega) (by omega))⟩
        · rw [F4 _ (by omega) (by omega), F2 _ (by omega), ← he]
          exact zset_eq t2
        · rw [zset_ne (by omega), ← he3]
          exact zset_eq ((F02 251 (by omega) (by omega)).trans t3)
        · intro i hi
          unfold upd
          dsimp only
          by_cases ci : i = sz
          · rw [if_pos ci, if_pos ci, if_pos ci]
            exact ⟨by omega, rfl, rfl⟩
          · rw [if_neg ci, if_neg ci, if_neg ci]
            exact t4 i (by omega)
  · refine zBoth.same (v := (-1000001 : Int32)) I0 ?_ ?_
    · unfold f_X7_feed
      by_cases c1 : a < 0
      · rw [if_pos c1]
      · rw [if_neg c1, if_neg]
        intro q
        rcases zcase a with z | ⟨r, hr, ra⟩
        · exact c1 z
        · rw [ra] at q
          exact c ⟨r, by have := (nI_leI (b := 255) hr (by omega)).mp q; omega, ra⟩
    · unfold f_X8_feed
      rw [kin, Option.bind_some, if_pos (zb_f c)]
/-! as -/
theorem kind_h (h : zH) : ∀ (n : Nat) (a b c : Int32), f_X7_isOfKind_b4 h n a b c = f_X7_isOfKind_b4 [] n a b c := by
  intro n
  induction n with
  | zero => exact fun _ _ _ => rfl
  | succ n ih =>
    intro a b c
    rw [e_X7_isOfKind_b4, e_X7_isOfKind_b4]
    simp only [ih]
    rfl
theorem kind_n : ∀ (n n2 : Nat) (a b c v : Int32), n ≤ n2 → f_X7_isOfKind_b4 [] n a b c = some v → f_X7_isOfKind_b4 [] n2 a b c = some v := by
  intro n
  induction n with
  | zero => intro n2 a b c v _ e; cases e
  | succ n ih =>
    intro n2 a b c v hn e
    obtain ⟨n2, rfl⟩ : ∃ x, n2 = x + 1 := ⟨n2 - 1, by omega⟩
    rw [e_X7_isOfKind_b4] at e ⊢
    by_cases c1 : (5 : Int32) ≤ c
    · rw [if_pos c1] at e ⊢
      exact e
    · rw [if_neg c1] at e ⊢
      by_cases c2 : b = a
      · rw [if_pos c2] at e ⊢
        exact e
      · rw [if_neg c2] at e ⊢
        cases q : f_X7_kindAbove b [] with
        | none => rw [q] at e; cases e
        | some y =>
          rw [q, Option.bind_some] at e
          rw [Option.bind_some]
          exact ih n2 _ _ _ v (by omega) e
theorem kind_all : ∀ (s k : Fin 6), f_X7_isOfKind_b4 [] 7 (nI k) (nI s) 0 = f_X8_isOf (nI s) (nI k) [] ∧ (f_X8_isOf (nI s) (nI k) []).isSome = true := by decide +kernel
theorem both_kind {h h2 : zH} {s k : Nat} (hs : s < 6) (hk : k < 6) : ∃ v, f_X7_isOfKind (nI s) (nI k) h = some v ∧ f_X8_isOf (nI s) (nI k) h2 = some v := by
  obtain ⟨e, q⟩ := kind_all ⟨s, hs⟩ ⟨k, hk⟩
  obtain ⟨v, hv⟩ := Option.isSome_iff_exists.mp q
  refine ⟨v, ?_, hv⟩
  unfold f_X7_isOfKind
  rw [kind_h]
  exact kind_n 7 zF _ _ _ v (by show 7 ≤ 5000; omega) (e.trans hv)
theorem M_as {h : zH} (I : INV h) (a b : Int32) : zBoth (f_X7_as 0 a b) (f_X8_as 241 a b) h := by
  have I0 := I
  obtain ⟨fa, st, ac, sz, tr, th, dg, m, O, P, R, T, ⟨N7, N8, G⟩, A, Im, C, S, X, L⟩ := I
  have v := G.1
  have kb : (¬ b < 0 ∧ ¬ (6 : Int32) ≤ b) ↔ ∃ l : Nat, l < 6 ∧ b = nI l := zthing (N := 6) (by omega)
  have k2 : f_X8_in (Int32.toInt64 b) (0 : Int64) (5 : Int64) = fun h => some (zb (∃ l : Nat, l < 6 ∧ b = nI l)) := by
    funext h
    exact r_below (N := 6) b (by omega)
  by_cases c : ∃ t, t < m 0 ∧ a = nI t
  · by_cases c2 : ∃ l : Nat, l < 6 ∧ b = nI l
    · have c' := c
      have c2' := c2
      obtain ⟨t, ht, ra⟩ := c'
      obtain ⟨l, hl, rb⟩ := c2'
      have vt := v.2.2.2.2 t ht
      have b1 : ¬ b < 0 := (kb.mpr c2).1
      have b2 : b ≤ 5 := by rw [rb]; exact nI_le (b := 5) (by omega) (by omega)
      by_cases q : ∃ x, f_X7_isOfKind (nI (m (3 + t))) (nI l) h = some x ∧ x = 0
      · obtain ⟨x, q1, q0⟩ := q
        obtain ⟨g1, g2, s1, s2, I2, F1⟩ := both_found I0 3
        have P1 := P.keep (F1 241 (by omega))
        have N1 : zMo g1 245 dg m := N8.keep (F1 _ (by omega))
        obtain ⟨y, y1, y2⟩ := both_kind (h := h) (h2 := g1) (s := m (3 + t)) (k := l) (by omega) hl
        have e : y = 0 := by rw [q1] at y1; cases y1; exact q0
        refine zBoth.mk ((-1000010 : Int32) - 3) (h1 := g1) (h2 := g2) ?_ ?_ I2
        · unfold f_X7_as
          rw [O.k, Option.bind_some, c_isThing O N7 v, Option.bind_some, if_neg (zb_n c), if_neg b1, if_pos b2, O.r2, Option.bind_some, N7.f6, Option.bind_some, ra, N7.so v ht, Option.bind_some, rb, q1, Option.bind_some, if_pos q0, Option.bind_some, s1, Option.bind_some]
        · unfold f_X8_as
          rw [P1.k, Option.bind_some, r_isThing P1 N1 v, Option.bind_some, if_neg (zb_n c), k2]
          dsimp only
          rw [Option.bind_some, if_neg (zb_n c2), P1.r4, Option.bind_some, ra, N1.so v ht, Option.bind_some, rb, y2, Option.bind_some, if_pos e, Option.bind_some, s2, Option.bind_some]
      · obtain ⟨g1, g2, s1, s2, I2, F1⟩ := both_well I0 a
        have P1 := P.keep (F1 241 (by omega))
        have N1 : zMo g1 245 dg m := N8.keep (F1 _ (by omega))
        obtain ⟨y, y1, y2⟩ := both_kind (h := h) (h2 := g1) (s := m (3 + t)) (k := l) (by omega) hl
        have e : ¬ y = 0 := fun z => q ⟨y, y1, z⟩
        refine zBoth.mk a (h1 := g1) (h2 := g2) ?_ ?_ I2
        · unfold f_X7_as
          rw [O.k, Option.bind_some, c_isThing O N7 v, Option.bind_some, if_neg (zb_n c), if_neg b1, if_pos b2, O.r2, Option.bind_some, N7.f6, Option.bind_some, ra, N7.so v ht, Option.bind_some, rb, y1, Option.bind_some, if_neg e, Option.bind_some, ← ra, s1, Option.bind_some]
        · unfold f_X8_as
          rw [P1.k, Option.bind_some, r_isThing P1 N1 v, Option.bind_some, if_neg (zb_n c), k2]
          dsimp only
          rw [Option.bind_some, if_neg (zb_n c2), P1.r4, Option.bind_some, ra, N1.so v ht, Option.bind_some, rb, y2, Option.bind_some, if_neg e, Option.bind_some, ← ra, s2, Option.bind_some]
    · refine zBoth.same (v := (-1000001 : Int32)) I0 ?_ ?_
      · unfold f_X7_as
        rw [O.k, Option.bind_some, c_isThing O N7 v, Option.bind_some, if_neg (zb_n c)]
        by_cases b1 : b < 0
        · rw [if_pos b1]
        · rw [if_neg b1, if_neg]
          intro q
          rcases zcase b with z | ⟨r, hr, rb⟩
          · exact b1 z
          · rw [rb] at q
            exact c2 ⟨r, by have := (nI_leI (b := 5) hr (by omega)).mp q; omega, rb⟩
      · unfold f_X8_as
        rw [P.k, Option.bind_some, r_isThing P N8 v, Option.bind_some, if_neg (zb_n c), k2]
        dsimp only
        rw [Option.bind_some, if_pos (zb_f c2)]
  · refine zBoth.same (v := (-1000001 : Int32)) I0 ?_ ?_
    · unfold f_X7_as
      rw [O.k, Option.bind_some, c_isThing O N7 v, Option.bind_some, if_pos (zb_f c)]
    · unfold f_X8_as
      rw [P.k, Option.bind_some, r_isThing P N8 v, Option.bind_some, if_pos (zb_f c)]
