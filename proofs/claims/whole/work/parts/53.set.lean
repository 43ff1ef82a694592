/-! PURE: set, drop, copy -/
section ROWC
variable {h : zH} {it : Nat → Nat → Int32} {la le ro ls ss : Nat → Int32} {fa st ac sz tr : Int32}
theorem c_miss (H : iRh h it la le ro ls ss) {r : Nat} (hr : r < 8) : f_X4_isMissing 1 (nI r) h = some (zb (le r = -1)) := by
  unfold f_X4_isMissing
  rw [H.r2, Option.bind_some, H.l12 hr, Option.bind_some]
  by_cases c : le r = -1
  · rw [if_pos c, zb_t c]; rfl
  · rw [if_neg c, zb_f c]; rfl
theorem znn {n : Nat} (hn : n < 2147483648) : ¬ nI n = -1 := by
  intro q
  have h := nI_pos' hn
  rw [q] at h
  exact absurd h (by decide)
/-- from i on n numbers stand in a row of N -/
def sRun (N : Nat) (i n : Int32) : Prop := 0 ≤ i ∧ 0 ≤ n ∧ i.toInt + n.toInt ≤ (N : Int)
theorem sRun.nat {N : Nat} {i n : Int32} (hN : N < 2147483648) (q : sRun N i n) : ∃ a b, i = nI a ∧ n = nI b ∧ a + b ≤ N := by
  obtain ⟨h1, h2, h3⟩ := q
  rcases zcase i with c | ⟨a, ha, rfl⟩
  · exact absurd c (Int32.not_lt.mpr h1)
  · rcases zcase n with c | ⟨b, hb, rfl⟩
    · exact absurd c (Int32.not_lt.mpr h2)
    · rw [nI_toInt ha, nI_toInt hb] at h3
      exact ⟨a, b, rfl, rfl, by omega⟩
theorem c_hasRun (H : iRh h it la le ro ls ss) {r N : Nat} (hr : r < 8) (hN : N ≤ 40) (hl : le r = nI N) (i n : Int32) [Decidable (sRun N i n)] : f_X4_hasRun 1 (nI r) i n h = some (zb (sRun N i n)) := by
  unfold f_X4_hasRun
  by_cases c1 : i < 0
  · rw [if_pos c1, zb_f (fun q => Int32.not_lt.mpr q.1 c1)]; rfl
  · rw [if_neg c1]
    by_cases c2 : n < 0
    · rw [if_pos c2, zb_f (fun q => Int32.not_lt.mpr q.2.1 c2)]; rfl
    · rw [if_neg c2, H.r2, Option.bind_some, H.l12 hr, Option.bind_some, hl]
      rcases zcase i with c | ⟨a, ha, rfl⟩
      · exact absurd c c1
      · rcases zcase n with c | ⟨b, hb, rfl⟩
        · exact absurd c c2
        · have e : sRun N (nI a) (nI b) ↔ a + b ≤ N := by
            unfold sRun
            rw [nI_toInt ha, nI_toInt hb]
            refine ⟨fun q => by have := q.2.2; omega, fun q => ⟨Int32.not_lt.mp c1, Int32.not_lt.mp c2, by omega⟩⟩
          by_cases c3 : nI N < nI a
          · rw [if_pos c3, zb_f (fun q => by have := e.mp q; have := (nI_ltI (by omega) ha).mp c3; omega)]; rfl
          · have c3' : a ≤ N := Nat.le_of_not_lt (fun q => c3 (nI_lt q ha))
            rw [if_neg c3, Option.bind_some, H.l12 hr, Option.bind_some, hl, pk_sub c3']
            by_cases c4 : nI (N - a) < nI b
            · rw [if_pos c4, zb_f (fun q => by have := e.mp q; have := (nI_ltI (by omega) hb).mp c4; omega)]; rfl
            · have c4' : b ≤ N - a := Nat.le_of_not_lt (fun q => c4 (nI_lt q hb))
              rw [if_neg c4, zb_t (e.mpr (by omega))]; rfl
end ROWC
def sPut (l v : Int32) : Int32 := if l = 0 then Int8.toInt32 (Int32.toInt8 v) else if l = 1 then Int16.toInt32 (Int32.toInt16 v) else v
theorem c_put {h : zH} {it : Nat → Nat → Int32} {la le ro ls ss : Nat → Int32} (H : iRh h it la le ro ls ss) {r t : Nat} (hr : r < 8) (ht : t < 40) (v : Int32) : ∃ e, f_X4_put 1 (nI r) (nI t) v h = some (sPut (la r) v, h.set (3 + r) e) ∧ iRh (h.set (3 + r) e) (up2 it r (upd (it r) t (sPut (la r) v))) la le ro ls ss := by
  obtain ⟨e, e1, H1⟩ := H.s3 hr ht (sPut (la r) v)
  refine ⟨e, ?_, H1⟩
  unfold f_X4_put f_X4_put_b33
  rw [H.r1, Option.bind_some, H.l11 hr, Option.bind_some, H.r0]
  simp only [Option.bind_some, H.lr hr, zLet_eq, H.l11 hr]
  by_cases c0 : la r = 0
  · have q : sPut (la r) v = Int8.toInt32 (Int32.toInt8 v) := by unfold sPut; rw [if_pos c0]
    rw [if_pos c0, ← q, e1, Option.bind_some]
  · rw [if_neg c0]
    by_cases c1 : la r = 1
    · have q : sPut (la r) v = Int16.toInt32 (Int32.toInt16 v) := by unfold sPut; rw [if_neg c0, if_pos c1]
      rw [if_pos c1, ← q, e1, Option.bind_some]
    · have q : sPut (la r) v = v := by unfold sPut; rw [if_neg c0, if_neg c1]
      rw [if_neg c1]
      rw [q] at e1 ⊢
      rw [e1, Option.bind_some]
theorem M_set {h : zH} (I : INV h) (a b c : Int32) : zBoth (f_X7_set 0 a b c) (f_X8_set 241 a b c) h := by
  obtain ⟨fa, st, ac, sz, tr, th, dg, m, O, P, R, Q⟩ := I.un
  obtain ⟨it, la, le, ro, ls, ss, H, rel⟩ := R.un
  by_cases c1 : ∃ r : Nat, r < 8 ∧ a = nI r
  · have c1' := c1
    obtain ⟨r, hr, ra⟩ := c1'
    obtain ⟨q1, q2, q3⟩ := rel r hr
    rcases q3 with q3 | ⟨N, hN, q4, q5⟩
    · obtain ⟨h1, h2, s1, s2, I2, F1⟩ := both_found I 1
      have P1 := P.keep (F1 241 (by omega))
      have H1 := H.keep (h' := h1) (fun j hj => F1 j (by omega))
      refine zBoth.mk ((-1000010 : Int32) - 1) (h1 := h1) (h2 := h2) ?_ ?_ I2
      · unfold f_X7_set
        rw [c_isRow, Option.bind_some, if_neg (zb_n c1), O.r0, Option.bind_some, H.k, Option.bind_some, ra, c_miss H hr, Option.bind_some, if_neg (zb_n q3), O.k, Option.bind_some, s1, Option.bind_some]
      · unfold f_X8_set
        rw [r_isRow, Option.bind_some, if_neg (zb_n c1), P1.r1, Option.bind_some, ra, H1.l243 hr, Option.bind_some, q2, q3, if_neg (by decide), P1.k, Option.bind_some, s2, Option.bind_some]
    · have nm : ¬ le r = -1 := by rw [q4]; exact znn (by omega)
      have ge : (0 : Int32) ≤ ss r := by rw [q2, q4]; exact nI_pos' (by omega)
      haveI : Decidable (sRun N b 1) := Classical.propDecidable _
      have run := c_hasRun H hr hN q4 b 1
      have rz : sRun N b 1 ↔ ∃ t : Nat, t < N ∧ b = nI t := by
        constructor
        · intro q
          obtain ⟨x, y, rx, ry, hxy⟩ := q.nat (by omega)
          have : y = 1 := by
            have e : nI 1 = nI y := ry
            rcases Nat.lt_or_ge y 2147483648 with hy | hy
            · exact ((nI_eq (by omega) hy).mp e).symm
            · omega
          exact ⟨x, by omega, rx⟩
        · rintro ⟨t, ht, rfl⟩
          refine ⟨nI_pos' (by omega), by decide, ?_⟩
          rw [nI_toInt (by omega)]
          have : (1 : Int32).toInt = 1 := rfl
          omega
      by_cases c2 : ∃ t : Nat, t < N ∧ b = nI t
      · have c2' := c2
        obtain ⟨t, ht, rb⟩ := c2'
        obtain ⟨e1, s1, H1⟩ := c_put H hr (t := t) (by omega) c
        have O1 : iO (h.set (3 + r) e1) fa st := O.keep (zset_ne (by omega))
        obtain ⟨h2, s2, O2, F2⟩ := c_fine O1 (sPut (la r) c)
        have F02 : ∀ j, 13 ≤ j → h2[j]? = h[j]? := fun j hj => (F2 j (by omega)).trans (zset_ne (by omega))
        have P2 := P.keep (h' := h2) (F02 _ (by omega))
        have H2 := H1.keep (h' := h2) (fun j hj => F2 j (by omega))
        obtain ⟨e3, s3, H3⟩ := H2.s244 (i := 40 * r + t) (by omega) (sPut (la r) c)
        have P3 : iP (h2.set 244 e3) fa st (nI ac) (nI sz) (nI tr) := P2.keep (zset_ne (by omega))
        obtain ⟨h4, s4, P4, F4⟩ := r_well P3 (sPut (la r) c)
        have F24 : ∀ j, (j < 241 ∨ 244 < j) → h4[j]? = h2[j]? := fun j hj => (F4 j (by omega)).trans (zset_ne (by omega))
        refine zBoth.mk (sPut (la r) c) (h1 := h2) (h2 := h4) ?_ ?_ ?_
        · unfold f_X7_set
          rw [c_isRow, Option.bind_some, if_neg (zb_n c1), O.r0, Option.bind_some, H.k, Option.bind_some, ra, c_miss H hr, Option.bind_some, if_pos (zb_f nm), Option.bind_some, H.k, Option.bind_some, run, Option.bind_some, if_neg (zb_n (rz.mpr c2)), Option.bind_some, H.k, Option.bind_some, rb, s1, Option.bind_some]
          dsimp only
          rw [O1.k, Option.bind_some, s2, Option.bind_some]
        · have key : f_X8_set_b89 241 (nI r) (nI t) 244 (((40 : Int32) * nI r) + nI t) (sPut (la r) c) h2 = some (sPut (la r) c, h4) := by
            unfold f_X8_set_b89
            rw [z40, pk_mul, nI_add, s3, Option.bind_some, P3.r2, Option.bind_some, H3.l244 (by omega), upd_s, Option.bind_some, P3.k, Option.bind_some, s4, Option.bind_some]
          unfold f_X8_set
          rw [r_isRow, Option.bind_some, if_neg (zb_n c1), P2.r1, Option.bind_some, ra, H2.l243 hr, Option.bind_some, if_pos ge, Option.bind_some, H2.l243 hr, Option.bind_some, q2, q4, r_below _ (by omega), Option.bind_some, if_neg (zb_n c2), P2.r2, Option.bind_some, P2.r0, Option.bind_some, H2.l242 hr, Option.bind_some, q1, rb]
          by_cases d0 : la r = 0
          · have z : sPut (la r) c = Int8.toInt32 (Int32.toInt8 c) := by unfold sPut; rw [if_pos d0]
            rw [if_pos d0, ← z]
            exact key
          · rw [if_neg d0, Option.bind_some, H2.l242 hr, Option.bind_some, q1]
            by_cases d1 : la r = 1
            · have z : sPut (la r) c = Int16.toInt32 (Int32.toInt16 c) := by unfold sPut; rw [if_neg d0, if_pos d1]
              rw [if_pos d1, ← z]
              exact key
            · have z : sPut (la r) c = c := by unfold sPut; rw [if_neg d0, if_neg d1]
              rw [if_neg d1]
              rw [z] at key ⊢
              exact key
        · refine (Q.keep (h' := h4) (fun j h1 h2 => (F24 j h2).trans (F02 j h1))).inv (O2.keep (F24 _ (by omega))) P4 ((H3.keep (h' := h4) (fun j hj => F4 j (by omega))).mk ?_)
          intro y hy
          obtain ⟨w1, w2, w3⟩ := rel y hy
          refine ⟨w1, w2, ?_⟩
          by_cases cy : y = r
          · subst cy
            refine Or.inr ⟨N, hN, q4, fun i hi => ?_⟩
            unfold up2
            rw [if_pos rfl]
            unfold upd
            by_cases ci : i = t
            · rw [if_pos ci, if_pos (by omega)]
            · rw [if_neg ci, if_neg (by omega)]
              exact q5 i hi
          · rcases w3 with w3 | ⟨n, hn, w4, w5⟩
            · exact Or.inl w3
            · refine Or.inr ⟨n, hn, w4, fun i hi => ?_⟩
              unfold up2
              rw [if_neg cy, upd_n (by omega)]
              exact w5 i hi
      · obtain ⟨h1, h2, s1, s2, I2, F1⟩ := both_found I 2
        have P1 := P.keep (F1 241 (by omega))
        have H1 := H.keep (h' := h1) (fun j hj => F1 j (by omega))
        refine zBoth.mk ((-1000010 : Int32) - 2) (h1 := h1) (h2 := h2) ?_ ?_ I2
        · unfold f_X7_set
          rw [c_isRow, Option.bind_some, if_neg (zb_n c1), O.r0, Option.bind_some, H.k, Option.bind_some, ra, c_miss H hr, Option.bind_some, if_pos (zb_f nm), Option.bind_some, H.k, Option.bind_some, run, Option.bind_some, if_pos (zb_f (fun q => c2 (rz.mp q))), O.k, Option.bind_some, s1, Option.bind_some]
        · unfold f_X8_set
          rw [r_isRow, Option.bind_some, if_neg (zb_n c1), P1.r1, Option.bind_some, ra, H1.l243 hr, Option.bind_some, if_pos ge, Option.bind_some, H1.l243 hr, Option.bind_some, q2, q4, r_below _ (by omega), Option.bind_some, if_pos (zb_f c2), P1.k, Option.bind_some, s2, Option.bind_some]
  · refine zBoth.same (v := (-1000001 : Int32)) I ?_ ?_
    · unfold f_X7_set
      rw [c_isRow, Option.bind_some, if_pos (zb_f c1)]
    · unfold f_X8_set
      rw [r_isRow, Option.bind_some, if_pos (zb_f c1)]
theorem M_drop {h : zH} (I : INV h) (a : Int32) : zBoth (f_X7_drop 0 a) (f_X8_drop 241 a) h := by
  obtain ⟨fa, st, ac, sz, tr, th, dg, m, O, P, R, Q⟩ := I.un
  obtain ⟨it, la, le, ro, ls, ss, H, rel⟩ := R.un
  by_cases c1 : ∃ r : Nat, r < 8 ∧ a = nI r
  · have c1' := c1
    obtain ⟨r, hr, ra⟩ := c1'
    obtain ⟨q1, q2, q3⟩ := rel r hr
    rcases q3 with q3 | ⟨N, hN, q4, q5⟩
    · obtain ⟨h1, h2, s1, s2, I2, F1⟩ := both_found I 1
      have P1 := P.keep (F1 241 (by omega))
      have H1 := H.keep (h' := h1) (fun j hj => F1 j (by omega))
      refine zBoth.mk ((-1000010 : Int32) - 1) (h1 := h1) (h2 := h2) ?_ ?_ I2
      · unfold f_X7_drop
        rw [c_isRow, Option.bind_some, if_neg (zb_n c1), O.r0, Option.bind_some, H.k, Option.bind_some, ra, c_miss H hr, Option.bind_some, if_neg (zb_n q3), O.k, Option.bind_some, s1, Option.bind_some]
      · unfold f_X8_drop
        rw [r_isRow, Option.bind_some, if_neg (zb_n c1), P1.r1, Option.bind_some, ra, H1.l243 hr, Option.bind_some, q2, q3, if_neg (by decide), P1.k, Option.bind_some, s2, Option.bind_some]
    · have nm : ¬ le r = -1 := by rw [q4]; exact znn (by omega)
      have ge : (0 : Int32) ≤ ss r := by rw [q2, q4]; exact nI_pos' (by omega)
      obtain ⟨e1, s1, H1⟩ := H.s12 hr (-1)
      have O1 : iO (h.set 12 e1) fa st := O.keep (zset_ne (by omega))
      obtain ⟨h2, s2, O2, F2⟩ := c_fine O1 (le r)
      have F02 : ∀ j, 13 ≤ j → h2[j]? = h[j]? := fun j hj => (F2 j (by omega)).trans (zset_ne (by omega))
      have P2 := P.keep (h' := h2) (F02 _ (by omega))
      have H2 := H1.keep (h' := h2) (fun j hj => F2 j (by omega))
      obtain ⟨e3, s3, H3⟩ := H2.s243 hr (-1)
      have P3 : iP (h2.set 243 e3) fa st (nI ac) (nI sz) (nI tr) := P2.keep (zset_ne (by omega))
      obtain ⟨h4, s4, P4, F4⟩ := r_well P3 (le r)
      have F24 : ∀ j, (j < 241 ∨ 244 < j) → h4[j]? = h2[j]? := fun j hj => (F4 j (by omega)).trans (zset_ne (by omega))
      refine zBoth.mk (le r) (h1 := h2) (h2 := h4) ?_ ?_ ?_
      · unfold f_X7_drop
        rw [c_isRow, Option.bind_some, if_neg (zb_n c1), O.r0, Option.bind_some, H.k, Option.bind_some, ra, c_miss H hr, Option.bind_some, if_pos (zb_f nm), Option.bind_some, H.r2, Option.bind_some, H.l12 hr, Option.bind_some, Option.bind_some, H.r2, Option.bind_some, s1, Option.bind_some, O1.k, Option.bind_some, s2, Option.bind_some]
      · unfold f_X8_drop
        rw [r_isRow, Option.bind_some, if_neg (zb_n c1), P2.r1, Option.bind_some, ra, H2.l243 hr, Option.bind_some, if_pos ge, Option.bind_some, H2.l243 hr, Option.bind_some, Option.bind_some, s3, Option.bind_some, P3.k, Option.bind_some, q2, s4, Option.bind_some]
      · refine (Q.keep (h' := h4) (fun j h1 h2 => (F24 j h2).trans (F02 j h1))).inv (O2.keep (F24 _ (by omega))) P4 ((H3.keep (h' := h4) (fun j hj => F4 j (by omega))).mk ?_)
        intro y hy
        obtain ⟨w1, w2, w3⟩ := rel y hy
        by_cases cy : y = r
        · subst cy
          exact ⟨w1, by rw [upd_s, upd_s], Or.inl upd_s⟩
        · refine ⟨w1, by rw [upd_n cy, upd_n cy]; exact w2, ?_⟩
          rw [upd_n cy]
          exact w3
  · refine zBoth.same (v := (-1000001 : Int32)) I ?_ ?_
    · unfold f_X7_drop
      rw [c_isRow, Option.bind_some, if_pos (zb_f c1)]
    · unfold f_X8_drop
      rw [r_isRow, Option.bind_some, if_pos (zb_f c1)]
