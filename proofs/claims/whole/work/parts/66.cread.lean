/-! PURE: the class reads a mine -/
def sSo (b : Nat) : Nat := if b = 99 then 2 else if b = 103 then 5 else if b = 105 then 1 else if b = 115 then 4 else if b = 119 then 3 else 0
/-- one more thing -/
def sExt (u : Nat → Nat) (a b c d e : Nat) : Nat → Nat := fun j => if j = 0 then u 0 + 1 else if j = 3 + u 0 then a else if j = 13 + u 0 then b else if j = 18 + u 0 then c else if j = 8 + u 0 then d else if j = 23 + u 0 then e else u j
def cT1 (w : Nat → Nat) (k p : Nat) : Nat × Nat × Nat := cF w k (p + 1, 0) 0 40 44
def cT2 (w : Nat → Nat) (k p : Nat) : Nat × Nat × Nat := cF w k (cT1 w k p).2 0 3 44
def cT3 (w : Nat → Nat) (k p : Nat) : Nat × Nat × Nat := cF w k (cT2 w k p).2 1 9 44
def cT4 (w : Nat → Nat) (k p men : Nat) : Nat × Nat × Nat := cF w k (cT3 w k p).2 0 (2 ^ men - 1) 59
def cT (w : Nat → Nat) (k p : Nat) (u : Nat → Nat) : (Nat × Nat) × (Nat → Nat) := if sSo (w p) = 0 then ((p, 1), u) else if u 0 < 5 then ((cT4 w k p (u 2)).2, sExt u (sSo (w p)) (cT1 w k p).1 (cT2 w k p).1 (cT3 w k p).1 (cT4 w k p (u 2)).1) else ((p, 3), u)
def cL (w : Nat → Nat) (k : Nat) : Nat → Nat × Nat → (Nat → Nat) → (Nat × Nat) × (Nat → Nat)
  | 0, s, u => (s, u)
  | n + 1, s, u => if s.2 = 0 then (if s.1 < k then cL w k n (cT w k s.1 u).1 (cT w k s.1 u).2 else (s, u)) else (s, u)
theorem sSo_le (b : Nat) : sSo b ≤ 5 := by
  unfold sSo
  repeat' split
  all_goals omega
theorem cF_v {w : Nat → Nat} {k : Nat} {s : Nat × Nat} {l u c : Nat} (hl : l ≤ u) (hs : s.1 ≤ k) (h3 : s.2 ≤ 3) : l ≤ (cF w k s l u c).1 ∧ (cF w k s l u c).1 ≤ u ∧ (cF w k s l u c).2.1 ≤ k ∧ (cF w k s l u c).2.2 ≤ 3 := by
  have h := cN_v (w := w) (k := k) (s := s) hl hs h3
  have h2 := cP_v (w := w) (k := k) (s := (cN w k s l u).2) (c := c) h.2.2.1 h.2.2.2
  exact ⟨h.1, h.2.1, h2.1, h2.2⟩
theorem sExt_v {u : Nat → Nat} (v : vM u) (h0 : u 0 < 5) {a b c d e : Nat} (ha : 1 ≤ a ∧ a ≤ 5) (hb : b ≤ 40) (hc : c ≤ 3) (hd : 1 ≤ d ∧ d ≤ 9) (he : e < 64) : vM (sExt u a b c d e) := by
  obtain ⟨v0, v1, v2, v3, v4⟩ := v
  have e0 : sExt u a b c d e 0 = u 0 + 1 := if_pos rfl
  have el : ∀ j, 0 < j → j < 3 ∨ 28 ≤ j → sExt u a b c d e j = u j := by
    intro j hj h
    unfold sExt
    rw [if_neg (by omega), if_neg (by omega), if_neg (by omega), if_neg (by omega), if_neg (by omega), if_neg (by omega)]
  refine ⟨by rw [e0]; omega, by rw [el 1 (by omega) (by omega)]; exact v1, by rw [el 2 (by omega) (by omega)]; exact v2, by rw [el 28 (by omega) (by omega)]; exact v3, fun t ht => ?_⟩
  rw [e0] at ht
  by_cases c0 : t = u 0
  · subst c0
    refine ⟨?_, ?_, ?_, ?_, ?_⟩
    all_goals (unfold sExt; repeat' split)
    all_goals omega
  · obtain ⟨q1, q2, q3, q4, q5⟩ := v4 t (by omega)
    refine ⟨?_, ?_, ?_, ?_, ?_⟩
    all_goals (unfold sExt; repeat' split)
    all_goals omega
theorem zpow63 {n : Nat} (h : n ≤ 6) : 2 ^ n - 1 ≤ 63 ∧ 1 ≤ 2 ^ n := by
  have := Nat.pow_le_pow_right (n := 2) (by omega) h
  have h6 : (2 : Nat) ^ 6 = 64 := by decide
  have := Nat.two_pow_pos n
  omega
theorem cT_v {w : Nat → Nat} {k p : Nat} {u : Nat → Nat} (v : vM u) (hp : p < k) : vM (cT w k p u).2 ∧ (cT w k p u).1.1 ≤ k ∧ (cT w k p u).1.2 ≤ 3 := by
  unfold cT
  have hso := sSo_le (w p)
  have h6 := zpow63 v.2.2.1
  have h1 := cF_v (w := w) (k := k) (s := (p + 1, 0)) (l := 0) (u := 40) (c := 44) (by omega) hp (by omega)
  have h2 := cF_v (w := w) (k := k) (s := (cT1 w k p).2) (l := 0) (u := 3) (c := 44) (by omega) h1.2.2.1 h1.2.2.2
  have h3 := cF_v (w := w) (k := k) (s := (cT2 w k p).2) (l := 1) (u := 9) (c := 44) (by omega) h2.2.2.1 h2.2.2.2
  have h4 := cF_v (w := w) (k := k) (s := (cT3 w k p).2) (l := 0) (u := 2 ^ u 2 - 1) (c := 59) (by omega) h3.2.2.1 h3.2.2.2
  split
  · exact ⟨v, by show p ≤ k; omega, by show 1 ≤ 3; omega⟩
  · rename_i c1
    split
    · rename_i c2
      exact ⟨sExt_v v c2 ⟨by omega, hso⟩ h1.2.1 h2.2.1 ⟨h3.1, h3.2.1⟩ (Nat.lt_of_le_of_lt h4.2.1 (by omega)), h4.2.2.1, h4.2.2.2⟩
    · exact ⟨v, by show p ≤ k; omega, by show 3 ≤ 3; omega⟩
/-- the draft -/
def zPt (h : zH) (u : Nat → Nat) (t n1 n2 n3 n4 n5 : Nat) : Prop := h[22]? = some (.inr (3, [.int 1, .int (nI t), .int (nI (u 2)), .int (nI (u 1)), .int (nI (u 28)), .int 0, .ref 23, .ref 24, .ref 25, .ref 26, .ref 27, .ref 28])) ∧ zAr h 23 n1 (fun i => u (3 + i)) ∧ zAr h 24 n2 (fun i => u (13 + i)) ∧ zAr h 25 n3 (fun i => u (18 + i)) ∧ zAr h 26 n4 (fun i => u (8 + i)) ∧ zAr h 27 n5 (fun i => u (23 + i)) ∧ zAr h 28 0 (fun _ => 0)
theorem zAr.ext {h : zH} {k t : Nat} {g : Nat → Nat} (H : zAr h k t g) (ht : t < 5) : ∃ e, zS h 0 k (nI t) (nI (g t)) = some (h.set k e) ∧ zAr (h.set k e) k (t + 1) g := by
  obtain ⟨e, e1, H1⟩ := H.st (i := t) (x := g t) ht
  refine ⟨e, e1, (H1 (t + 1) (fun y hy => by omega)).cg (fun y hy => ?_)⟩
  unfold mup
  split
  · rename_i c
    rw [c]
  · rfl
section CREAD
variable {w : Nat → Nat} {k : Nat} {u : Nat → Nat} {t n1 n2 n3 n4 n5 : Nat}
theorem zPt.keep {h h' : zH} (H : zPt h u t n1 n2 n3 n4 n5) (e : ∀ j, 22 ≤ j ∧ j ≤ 28 → h'[j]? = h[j]?) : zPt h' u t n1 n2 n3 n4 n5 := by
  obtain ⟨h0, h1, h2, h3, h4, h5, h6⟩ := H
  exact ⟨(e _ (by omega)).trans h0, h1.keep (e _ (by omega)), h2.keep (e _ (by omega)), h3.keep (e _ (by omega)), h4.keep (e _ (by omega)), h5.keep (e _ (by omega)), h6.keep (e _ (by omega))⟩
theorem c_sortOf {h : zH} {x : Nat} (hx : x ≤ 255) : f_X6_sortOf (nI x) h = some (nI (sSo x)) := by
  unfold f_X6_sortOf sSo
  rw [show (99 : Int32) = nI 99 from rfl, show (103 : Int32) = nI 103 from rfl, show (105 : Int32) = nI 105 from rfl, show (115 : Int32) = nI 115 from rfl, show (119 : Int32) = nI 119 from rfl]
  have q : ∀ c, c < 1000 → ((nI (x) = nI c) ↔ (x = c)) := fun c hc => nI_eq (by omega) (by omega)
  by_cases c1 : x = 99
  · rw [if_pos ((q _ (by omega)).mpr c1), if_pos c1]; rfl
  · rw [if_neg (fun z => c1 ((q _ (by omega)).mp z)), if_neg c1]
    by_cases c2 : x = 103
    · rw [if_pos ((q _ (by omega)).mpr c2), if_pos c2]; rfl
    · rw [if_neg (fun z => c2 ((q _ (by omega)).mp z)), if_neg c2]
      by_cases c3 : x = 105
      · rw [if_pos ((q _ (by omega)).mpr c3), if_pos c3]; rfl
      · rw [if_neg (fun z => c3 ((q _ (by omega)).mp z)), if_neg c3]
        by_cases c4 : x = 115
        · rw [if_pos ((q _ (by omega)).mpr c4), if_pos c4]; rfl
        · rw [if_neg (fun z => c4 ((q _ (by omega)).mp z)), if_neg c4]
          by_cases c5 : x = 119
          · rw [if_pos ((q _ (by omega)).mpr c5), if_pos c5]; rfl
          · rw [if_neg (fun z => c5 ((q _ (by omega)).mp z)), if_neg c5]; rfl
theorem c_field {g : zH} {s : Nat × Nat} {l uu c r t : Nat} (Xg : tX w k g s) (ht : t < 5) (hl : l < 1000) (huu : uu < 1000) (hc : c < 1000) (hr1 : 24 ≤ r) {G : Nat → Nat} (q1 : zAr g r t G) (q2 : G t = (cF w k s l uu c).1) : ∃ g1 x g3, f_X6_number 13 (nI l) (nI uu) g = some (nI (cF w k s l uu c).1, g1) ∧ zS g1 0 r (nI t) (nI (cF w k s l uu c).1) = some (g1.set r x) ∧ f_X6_pass 13 (nI c) (g1.set r x) = some g3 ∧ tX w k (g1.set r x) (cN w k s l uu).2 ∧ tX w k g3 (cF w k s l uu c).2 ∧ (∀ j, j ≠ 13 → j ≠ r → g3[j]? = g[j]?) ∧ zAr g3 r (t + 1) G := by
  obtain ⟨g1, y1, Y1, G1⟩ := c_num Xg hl huu
  obtain ⟨x, y2, q3⟩ := (q1.keep (G1 r (by omega))).ext ht
  rw [q2] at y2
  have Y2 : tX w k (g1.set r x) (cN w k s l uu).2 := Y1.keep (fun j hj => zset_ne (by omega))
  obtain ⟨g3, y3, Y3, G3⟩ := c_sign Y2 hc
  exact ⟨g1, x, g3, y1, y2, y3, Y2, Y3, fun j a b => (G3 j a).trans ((zset_ne b).trans (G1 j a)), q3.keep (G3 r (by omega))⟩
theorem c_thing {h : zH} {p : Nat} (X : tX w k h (p, 0)) (hp : p < k) (H : zMi h 22 1 0 u) (v : vM u) : ∃ h', f_X6_readThing 13 22 h = some h' ∧ tX w k h' (cT w k p u).1 ∧ zMi h' 22 1 0 (cT w k p u).2 ∧ ∀ j, j ≠ 13 → (j < 22 ∨ 28 < j) → h'[j]? = h[j]? := by
  have hw := X.2.2.1 p hp
  have hk := X.2.1
  have h5 := v.1
  have h6 := zpow63 v.2.2.1
  have by0 : sBy w k p = nI (w p) := if_pos hp
  have so := c_sortOf (h := h) hw
  have hso := sSo_le (w p)
  unfold f_X6_readThing
  rw [X.k6, Option.bind_some, c_next X, Option.bind_some, show sBy w k (p, 0).1 = nI (w p) from by0, so, Option.bind_some]
  unfold cT
  by_cases c1 : sSo (w p) = 0
  · obtain ⟨h', e1, X1, F1⟩ := c_fail X (e := 1) rfl (by omega)
    rw [if_pos (show nI (sSo (w p)) = 0 by rw [c1]; rfl), Option.bind_some, z1, e1, Option.bind_some, if_pos c1]
    exact ⟨h', rfl, X1, H.keep (fun j _ _ => F1 j (by omega)), fun j a b => F1 j a⟩
  · rw [if_neg (show ¬ nI (sSo (w p)) = 0 by rw [znz (by omega)]; exact c1), H.f1, Option.bind_some, if_neg c1]
    by_cases c2 : u 0 < 5
    · rw [if_pos (show nI (u 0) < (5 : Int32) from nI_lt (b := 5) c2 (by omega)), if_pos c2, X.i2, Option.bind_some]
      have vE := (cT_v (w := w) v hp).1
      unfold cT at vE
      rw [if_neg c1, if_pos c2] at vE
      have a1 := cF_v (w := w) (k := k) (s := (p + 1, 0)) (l := 0) (u := 40) (c := 44) (by omega) hp (by omega)
      -- the draft as it will be
      obtain ⟨U, hU⟩ : ∃ U, U = sExt u (sSo (w p)) (cT1 w k p).1 (cT2 w k p).1 (cT3 w k p).1 (cT4 w k p (u 2)).1 := ⟨_, rfl⟩
      rw [← hU] at vE ⊢
      have U3 : U (3 + u 0) = sSo (w p) := by rw [hU]; unfold sExt; rw [if_neg (by omega), if_pos rfl]
      have U13 : U (13 + u 0) = (cT1 w k p).1 := by rw [hU]; unfold sExt; rw [if_neg (by omega), if_neg (by omega), if_pos rfl]
      have U18 : U (18 + u 0) = (cT2 w k p).1 := by rw [hU]; unfold sExt; rw [if_neg (by omega), if_neg (by omega), if_neg (by omega), if_pos rfl]
      have U8 : U (8 + u 0) = (cT3 w k p).1 := by rw [hU]; unfold sExt; rw [if_neg (by omega), if_neg (by omega), if_neg (by omega), if_neg (by omega), if_pos rfl]
      have U23 : U (23 + u 0) = (cT4 w k p (u 2)).1 := by rw [hU]; unfold sExt; rw [if_neg (by omega), if_neg (by omega), if_neg (by omega), if_neg (by omega), if_neg (by omega), if_pos rfl]
      have U0 : U 0 = u 0 + 1 := by rw [hU]; exact if_pos rfl
      have Uo : ∀ j, 0 < j → (j < 3 ∨ 28 ≤ j) → U j = u j := by
        intro j hj q
        rw [hU]
        unfold sExt
        rw [if_neg (by omega), if_neg (by omega), if_neg (by omega), if_neg (by omega), if_neg (by omega), if_neg (by omega)]
      have Ua : ∀ o i, i < u 0 → (o = 3 ∨ o = 8 ∨ o = 13 ∨ o = 18 ∨ o = 23) → u (o + i) = U (o + i) := by
        intro o i hi q
        rw [hU]
        unfold sExt
        rw [if_neg (by omega), if_neg (by omega), if_neg (by omega), if_neg (by omega), if_neg (by omega), if_neg (by omega)]
      have P0 : zPt h U (u 0) (u 0) (u 0) (u 0) (u 0) (u 0) := by
        obtain ⟨b0, b1, b2, b3, b4, b5, b6⟩ := H
        exact ⟨by rw [Uo 2 (by omega) (by omega), Uo 1 (by omega) (by omega), Uo 28 (by omega) (by omega)]; exact b0, b1.cg (fun i hi => Ua 3 i hi (by omega)), b2.cg (fun i hi => Ua 13 i hi (by omega)), b3.cg (fun i hi => Ua 18 i hi (by omega)), b4.cg (fun i hi => Ua 8 i hi (by omega)), b5.cg (fun i hi => Ua 23 i hi (by omega)), b6⟩
      obtain ⟨x1, e1, X1⟩ := X.p2 (p := p + 1) (by omega)
      have P1 := P0.keep (h' := h.set 13 x1) (fun j hj => zset_ne (by omega))
      obtain ⟨d0, d1, d2, d3, d4, d5, d6⟩ := P1
      obtain ⟨x2, e2, d1'⟩ := d1.ext c2
      rw [U3] at e2
      have F12 : ∀ j, j ≠ 13 → j ≠ 23 → ((h.set 13 x1).set 23 x2)[j]? = h[j]? := fun j a b => (zset_ne b).trans (zset_ne a)
      have P2 : zPt ((h.set 13 x1).set 23 x2) U (u 0) (u 0 + 1) (u 0) (u 0) (u 0) (u 0) := ⟨(zset_ne (by omega)).trans d0, d1', d2.keep (zset_ne (by omega)), d3.keep (zset_ne (by omega)), d4.keep (zset_ne (by omega)), d5.keep (zset_ne (by omega)), d6.keep (zset_ne (by omega))⟩
      have X2 : tX w k ((h.set 13 x1).set 23 x2) (p + 1, 0) := X1.keep (fun j hj => zset_ne (by omega))
      -- four numbers
      obtain ⟨e0', e1', e2', e3', e4', e5', e6'⟩ := P2
      obtain ⟨g1, xa, g3, f1, f2, f3, Y2, Y3, G3, A3⟩ := c_field (l := 0) (uu := 40) (c := 44) X2 c2 (by decide) (by decide) (by decide) (by decide) e2' U13
      have Y3 : tX w k g3 (cT1 w k p).2 := Y3
      have Q3 : zPt g3 U (u 0) (u 0 + 1) (u 0 + 1) (u 0) (u 0) (u 0) := ⟨(G3 _ (by decide) (by decide)).trans e0', e1'.keep (G3 _ (by decide) (by decide)), A3, e3'.keep (G3 _ (by decide) (by decide)), e4'.keep (G3 _ (by decide) (by decide)), e5'.keep (G3 _ (by decide) (by decide)), e6'.keep (G3 _ (by decide) (by decide))⟩
      obtain ⟨i0, i1, i2, i3, i4, i5, i6⟩ := Q3
      obtain ⟨g4, xb, g6, f4, f5, f6, Y5, Y6, G6, A6⟩ := c_field (l := 0) (uu := 3) (c := 44) Y3 c2 (by decide) (by decide) (by decide) (by decide) i3 U18
      have Y6 : tX w k g6 (cT2 w k p).2 := Y6
      have Q6 : zPt g6 U (u 0) (u 0 + 1) (u 0 + 1) (u 0 + 1) (u 0) (u 0) := ⟨(G6 _ (by decide) (by decide)).trans i0, i1.keep (G6 _ (by decide) (by decide)), i2.keep (G6 _ (by decide) (by decide)), A6, i4.keep (G6 _ (by decide) (by decide)), i5.keep (G6 _ (by decide) (by decide)), i6.keep (G6 _ (by decide) (by decide))⟩
      obtain ⟨j0, j1, j2, j3, j4, j5, j6⟩ := Q6
      obtain ⟨g7, xc, g9, f7, f8, f9, Y8, Y9, G9, A9⟩ := c_field (l := 1) (uu := 9) (c := 44) Y6 c2 (by decide) (by decide) (by decide) (by decide) j4 U8
      have Y9 : tX w k g9 (cT3 w k p).2 := Y9
      have Q9 : zPt g9 U (u 0) (u 0 + 1) (u 0 + 1) (u 0 + 1) (u 0 + 1) (u 0) := ⟨(G9 _ (by decide) (by decide)).trans j0, j1.keep (G9 _ (by decide) (by decide)), j2.keep (G9 _ (by decide) (by decide)), j3.keep (G9 _ (by decide) (by decide)), A9, j5.keep (G9 _ (by decide) (by decide)), j6.keep (G9 _ (by decide) (by decide))⟩
      obtain ⟨l0, l1, l2, l3, l4, l5, l6⟩ := Q9
      obtain ⟨ga, xd, gc, fa, fb, fc, Yb, Yc, Gc, Ac⟩ := c_field (l := 0) (uu := 2 ^ u 2 - 1) (c := 59) Y9 c2 (by decide) (Nat.lt_of_le_of_lt h6.1 (by decide)) (by decide) (by decide) l5 U23
      have oc : gc[22]? = some (.inr (3, [.int 1, .int (nI (u 0)), .int (nI (U 2)), .int (nI (U 1)), .int (nI (U 28)), .int 0, .ref 23, .ref 24, .ref 25, .ref 26, .ref 27, .ref 28])) := (Gc _ (by decide) (by decide)).trans l0
      have pz : zP gc 22 3 1 (.int (nI (u 0 + 1))) = some (gc.set 22 (.inr (3, [.int 1, .int (nI (u 0 + 1)), .int (nI (U 2)), .int (nI (U 1)), .int (nI (U 28)), .int 0, .ref 23, .ref 24, .ref 25, .ref 26, .ref 27, .ref 28]))) := zP_of oc (by simp)
      generalize hE : (.inr (3, [.int 1, .int (nI (u 0 + 1)), .int (nI (U 2)), .int (nI (U 1)), .int (nI (U 28)), .int 0, .ref 23, .ref 24, .ref 25, .ref 26, .ref 27, .ref 28]) : zE) = E at pz
      have Yk : tX w k (gc.set 22 E) (cF w k (cT3 w k p).2 0 (2 ^ u 2 - 1) 59).2 := Yc.keep (fun j hj => by rcases hj with rfl | rfl <;> exact zset_ne (by decide))
      dsimp only
      refine ⟨gc.set 22 E, ?_, by unfold cT4; exact Yk, ?_, fun j a b => ?_⟩
      · have pw := zpow6' v.2.2.1
        have hpos := Nat.two_pow_pos (u 2)
        rw [nI_1, e1, Option.bind_some, zR_of d0 rfl, Option.bind_some, e2, Option.bind_some, zR_of e0' rfl, Option.bind_some, X2.k6, Option.bind_some]
        have f1' : f_X6_number 13 (0 : Int32) (40 : Int32) ((h.set 13 x1).set 23 x2) = some (nI (cF w k (p + 1, 0) 0 40 44).1, g1) := f1
        rw [f1', Option.bind_some]
        dsimp only
        rw [f2, Option.bind_some, Y2.k6, Option.bind_some]
        have f3' : f_X6_pass 13 (44 : Int32) (g1.set 24 xa) = some g3 := f3
        have f4' : f_X6_number 13 (0 : Int32) (3 : Int32) g3 = some (nI (cF w k (cT1 w k p).2 0 3 44).1, g4) := f4
        rw [f3', Option.bind_some, zR_of i0 rfl, Option.bind_some, Y3.k6, Option.bind_some, f4', Option.bind_some]
        dsimp only
        rw [f5, Option.bind_some, Y5.k6, Option.bind_some]
        have f6' : f_X6_pass 13 (44 : Int32) (g4.set 25 xb) = some g6 := f6
        have f7' : f_X6_number 13 (1 : Int32) (9 : Int32) g6 = some (nI (cF w k (cT2 w k p).2 1 9 44).1, g7) := f7
        rw [f6', Option.bind_some, zR_of j0 rfl, Option.bind_some, Y6.k6, Option.bind_some, f7', Option.bind_some]
        dsimp only
        rw [f8, Option.bind_some, Y8.k6, Option.bind_some]
        have f9' : f_X6_pass 13 (44 : Int32) (g7.set 26 xc) = some g9 := f9
        have fa' : f_X6_number 13 (0 : Int32) (nI (2 ^ u 2 - 1)) g9 = some (nI (cF w k (cT3 w k p).2 0 (2 ^ u 2 - 1) 59).1, ga) := fa
        rw [f9', Option.bind_some, zR_of l0 rfl, Option.bind_some, zI_of l0 rfl, Option.bind_some, Y9.k6, Option.bind_some, Uo 2 (by omega) (by omega), pw.1, show nI (2 ^ u 2) - (1 : Int32) = nI (2 ^ u 2 - 1) from pk_sub (b := 1) hpos, fa', Option.bind_some]
        dsimp only
        rw [fb, Option.bind_some, Yb.k6, Option.bind_some]
        have fc' : f_X6_pass 13 (59 : Int32) (ga.set 27 xd) = some gc := fc
        rw [fc', Option.bind_some, nI_1, pz, Option.bind_some]
      · unfold zMi
        rw [U0]
        exact ⟨by rw [← hE]; exact zset_eq oc, (l1.keep (Gc _ (by decide) (by decide))).keep (zset_ne (by omega)), (l2.keep (Gc _ (by decide) (by decide))).keep (zset_ne (by omega)), (l3.keep (Gc _ (by decide) (by decide))).keep (zset_ne (by omega)), (l4.keep (Gc _ (by decide) (by decide))).keep (zset_ne (by omega)), Ac.keep (zset_ne (by omega)), (l6.keep (Gc _ (by decide) (by decide))).keep (zset_ne (by omega))⟩
      · exact (zset_ne (by omega)).trans ((Gc j a (by omega)).trans ((G9 j a (by omega)).trans ((G6 j a (by omega)).trans ((G3 j a (by omega)).trans (F12 j a (by omega))))))
    · obtain ⟨h', e1, X1, F1⟩ := c_fail X (e := 3) rfl (by omega)
      rw [if_neg (show ¬ nI (u 0) < (5 : Int32) from nI_nlt (b := 5) (by omega) (by omega)), Option.bind_some, z3, e1, Option.bind_some, if_neg c2]
      exact ⟨h', rfl, X1, H.keep (fun j _ _ => F1 j (by omega)), fun j a b => F1 j a⟩
theorem c_into_b37 : ∀ (m i n : Nat) (h : zH) (s : Nat × Nat) (u : Nat → Nat), i + m = 100 → m < n → tX w k h s → zMi h 22 1 0 u → vM u → ∃ h', f_X6_readInto_b37 n 13 22 (nI i) h = some (nI (cL w k m s u).1.2, h') ∧ tX w k h' (cL w k m s u).1 ∧ zMi h' 22 1 0 (cL w k m s u).2 ∧ vM (cL w k m s u).2 ∧ ∀ j, j ≠ 13 → (j < 22 ∨ 28 < j) → h'[j]? = h[j]? := by
  intro m
  induction m with
  | zero =>
    intro i n h s u hi hn X H v
    obtain ⟨n, rfl⟩ : ∃ x, n = x + 1 := ⟨n - 1, by omega⟩
    rw [e_X6_readInto_b37, if_pos (show (100 : Int32) ≤ nI i from nI_le (a := 100) (by omega) (by omega))]
    unfold f_X6_readInto_b72
    rw [X.i3, Option.bind_some]
    exact ⟨h, rfl, X, H, v, fun _ _ _ => rfl⟩
  | succ m ih =>
    intro i n h s u hi hn X H v
    obtain ⟨n, rfl⟩ : ∃ x, n = x + 1 := ⟨n - 1, by omega⟩
    have hk := X.2.1
    have hsk := X.2.2.2.1
    have hs3 := X.2.2.2.2
    rw [e_X6_readInto_b37, if_neg (show ¬ (100 : Int32) ≤ nI i from nI_ge (b := 100) (by omega) (by omega)), X.i3, Option.bind_some, cL]
    unfold f_X6_readInto_b72
    by_cases c0 : s.2 = 0
    · rw [if_pos (show nI s.2 = 0 by rw [c0]; rfl), if_pos c0, X.i2, Option.bind_some, X.i1, Option.bind_some]
      by_cases c1 : s.1 < k
      · have X' : tX w k h (s.1, 0) := by rw [← c0]; exact X
        obtain ⟨h1, e1, X1, H1, F1⟩ := c_thing X' c1 H v
        rw [if_neg (nI_ge c1 (by omega)), X.k6, Option.bind_some, e1, Option.bind_some, nI_1, if_pos c1]
        obtain ⟨h2, e2, X2, H2, v2, F2⟩ := ih (i + 1) n h1 _ _ (by omega) (by omega) X1 H1 (cT_v v c1).1
        exact ⟨h2, e2, X2, H2, v2, fun j a b => (F2 j a b).trans (F1 j a b)⟩
      · rw [if_pos (nI_le (by omega) (by omega)), X.i3, Option.bind_some, if_neg c1]
        exact ⟨h, rfl, X, H, v, fun _ _ _ => rfl⟩
    · rw [if_neg (show ¬ nI s.2 = 0 by rw [znz (by omega)]; exact c0), if_neg c0, X.i3, Option.bind_some]
      exact ⟨h, rfl, X, H, v, fun _ _ _ => rfl⟩
end CREAD
