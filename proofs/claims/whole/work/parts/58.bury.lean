/-! PURE: bury, tell, undo, image, restore -/
def sBury (m : Nat → Nat) (t p d : Nat) : Nat → Nat := mup (mup m (18 + t) p) (13 + t) d
theorem sBury_c (m : Nat → Nat) {t p d : Nat} (ht : t < 5) : mup (mup m (13 + t) d) (18 + t) p = sBury m t p d := by
  funext j
  unfold sBury mup
  by_cases a : j = 18 + t
  · rw [if_pos a, if_neg (by omega), if_pos a]
  · rw [if_neg a]
    by_cases b : j = 13 + t
    · rw [if_pos b, if_pos b]
    · rw [if_neg b, if_neg b, if_neg a]
theorem mup_vp {m : Nat → Nat} (v : vM m) {t x : Nat} (hx : x ≤ 3) (ht : t < 5) : vM (mup m (18 + t) x) := by
  obtain ⟨v0, v1, v2, v3, v4⟩ := v
  have e : ∀ j, j < 18 ∨ 23 ≤ j → mup m (18 + t) x j = m j := fun j hj => mup_n m x (by omega)
  refine ⟨by rw [e 0 (by omega)]; exact v0, by rw [e 1 (by omega)]; exact v1, by rw [e 2 (by omega)]; exact v2, by rw [e 28 (by omega)]; exact v3, fun y hy => ?_⟩
  rw [e 0 (by omega)] at hy
  obtain ⟨a, b, c, d, f⟩ := v4 y hy
  refine ⟨by rw [e _ (by omega)]; exact a, by rw [e _ (by omega)]; exact b, by rw [e _ (by omega)]; exact c, ?_, by rw [e _ (by omega)]; exact f⟩
  unfold mup
  split <;> omega
theorem mup_vk {m : Nat → Nat} (v : vM m) {t x : Nat} (hx : x < 64) (ht : t < 5) : vM (mup m (23 + t) x) := by
  obtain ⟨v0, v1, v2, v3, v4⟩ := v
  have e : ∀ j, j < 23 ∨ j = 28 → mup m (23 + t) x j = m j := fun j hj => mup_n m x (by omega)
  refine ⟨by rw [e 0 (by omega)]; exact v0, by rw [e 1 (by omega)]; exact v1, by rw [e 2 (by omega)]; exact v2, by rw [e 28 (by omega)]; exact v3, fun y hy => ?_⟩
  rw [e 0 (by omega)] at hy
  have h5 : y < 5 := by omega
  obtain ⟨a, b, c, d, f⟩ := v4 y hy
  refine ⟨by rw [e _ (by omega)]; exact a, by rw [e _ (by omega)]; exact b, by rw [e _ (by omega)]; exact c, by rw [e _ (by omega)]; exact d, ?_⟩
  unfold mup
  split <;> omega
theorem gM.of {th : Int32} {m m' : Nat → Nat} (G : gM th m) (v : vM m') (e2 : m' 2 = m 2) (e28 : m' 28 = m 28) : gM th m' := ⟨v, by rw [e28]; exact G.2.1, by rw [e2]; exact G.2.2⟩
theorem M_bury {h : zH} (I : INV h) (a b c : Int32) : zBoth (f_X7_bury 0 a b c) (f_X8_bury 241 a b c) h := by
  have I0 := I
  obtain ⟨fa, st, ac, sz, tr, th, dg, m, O, P, R, T, ⟨N7, N8, G⟩, A, Im, C, S, X, L⟩ := I
  have v := G.1
  have h5 := v.1
  have kb : (¬ b < 0 ∧ ¬ (4 : Int32) ≤ b) ↔ ∃ l : Nat, l < 4 ∧ b = nI l := zthing (N := 4) (by omega)
  have k2 : ∀ h, f_X8_in (Int32.toInt64 b) (0 : Int64) (3 : Int64) h = some (zb (∃ l : Nat, l < 4 ∧ b = nI l)) := fun h => r_below (N := 4) b (by omega)
  have k3 : ∀ h, f_X8_in (Int32.toInt64 c) (1 : Int64) (40 : Int64) h = some (zb (∃ r : Nat, r < 40 + 1 ∧ (1 ≤ r ∧ c = nI r))) := fun h => r_between c 1 40 (by omega) (by omega)
  by_cases c1 : ∃ t, t < m 0 ∧ a = nI t
  · by_cases c2 : ∃ l : Nat, l < 4 ∧ b = nI l
    · by_cases c3 : ∃ r : Nat, r < 40 + 1 ∧ (1 ≤ r ∧ c = nI r)
      · have c1' := c1
        have c2' := c2
        have c3' := c3
        obtain ⟨t, ht, ra⟩ := c1'
        obtain ⟨p, hp, rb⟩ := c2'
        obtain ⟨d, hd, hd1, rc⟩ := c3'
        have q1 : ¬ c < 1 := by rw [rc]; exact nI_nlt (b := 1) hd1 (by omega)
        have q2 : c ≤ 40 := by rw [rc]; exact nI_le (b := 40) (by omega) (by omega)
        obtain ⟨D, M, Ac, Ar⟩ := A.un
        obtain ⟨h1, e1, A1, F1⟩ := c_keep Ac N7 G
        have H1 : zMi h1 15 th dg m := N7.keep (fun j _ _ => F1 j (by omega))
        have O1 : iO h1 fa st := O.keep (F1 _ (by omega))
        obtain ⟨x2, e2, H2⟩ := H1.dgp (dg + (nI (m (13 + t)) + c))
        have O2 : iO (h1.set 15 x2) fa st := O1.keep (zset_ne (by omega))
        obtain ⟨x3, e3, H3⟩ := H2.pp h5 (i := t) (x := p) ht
        have O3 : iO ((h1.set 15 x2).set (15 + 3) x3) fa st := O2.keep (zset_ne (by omega))
        obtain ⟨x4, e4, H4⟩ := H3.dp (by rw [mup_n m p (by omega)]; exact h5) (i := t) (x := d) (by rw [mup_n m p (by omega)]; exact ht)
        generalize hk : (((h1.set 15 x2).set (15 + 3) x3).set (15 + 2) x4 : zH) = k4 at e4 H4
        have Fk : ∀ j, (j < 15 ∨ 21 < j) → k4[j]? = h1[j]? := fun j hj => by rw [← hk]; exact (zset_ne (by omega)).trans ((zset_ne (by omega)).trans (zset_ne (by omega)))
        have O4 : iO k4 fa st := O1.keep (Fk _ (by omega))
        have Fa : ∀ j, (j < 15 ∨ (21 < j ∧ j < 29) ∨ 198 < j) → k4[j]? = h[j]? := fun j hj => (Fk j (by omega)).trans (F1 j (by omega))
        have P4 := P.keep (h' := k4) (Fa _ (by omega))
        have N4 : zMo k4 245 dg m := N8.keep (Fa _ (by omega))
        obtain ⟨h5', e5, P5, B5, F5⟩ := r_remember P4 (Ar.keep (h' := k4) (Fa _ (by omega))) Ac.m5.1 Ac.m5.2 N4 v
        have N5 : zMo h5' 245 dg m := N4.keep (F5 _ (by omega) (by omega))
        obtain ⟨x6, e6, N6⟩ := N5.s29 h5 (dg + (nI (m (13 + t)) + c))
        have P6 : iP (h5'.set 245 x6) fa st (nI (sAc ac)) (nI sz) (nI tr) := P5.keep (zset_ne (by omega))
        obtain ⟨x7, e7, N7'⟩ := N6.st (j := 13 + t) (x := d) (by omega) (by omega)
        have P7 : iP ((h5'.set 245 x6).set 245 x7) fa st (nI (sAc ac)) (nI sz) (nI tr) := P6.keep (zset_ne (by omega))
        obtain ⟨x8, e8, N8'⟩ := N7'.st (j := 18 + t) (x := p) (by omega) (by omega)
        rw [sBury_c m (by omega)] at N8'
        generalize hk8 : (((h5'.set 245 x6).set 245 x7).set 245 x8 : zH) = k8 at e8 N8'
        have Fb : ∀ j, j ≠ 245 → k8[j]? = h5'[j]? := fun j hj => by rw [← hk8]; exact (zset_ne hj).trans ((zset_ne hj).trans (zset_ne hj))
        have P8 := P5.keep (h' := k8) (Fb _ (by omega))
        have F : ∀ j, (j < 15 ∨ (21 < j ∧ j < 29) ∨ 198 < j) → j ≠ 241 → j ≠ 245 → j ≠ 248 → k8[j]? = h[j]? := fun j q a b c => (Fb j b).trans ((F5 j a c).trans (Fa j q))
        have F2 : ∀ j, j ≠ 241 → j ≠ 245 → j ≠ 248 → k8[j]? = k4[j]? := fun j a b c => (Fb j b).trans (F5 j a c)
        have vB : vM (sBury m t p d) := mup_v (mup_vp v (by omega) (by omega)) (by omega) (by omega)
        refine zBoth.mk (dg + (nI (m (13 + t)) + c)) (h1 := k4) (h2 := k8) ?_ ?_ ?_
        · unfold f_X7_bury
          rw [O.k, Option.bind_some, c_isThing O N7 v, Option.bind_some, if_neg (zb_n c1), if_neg (kb.mpr c2).1, if_neg (kb.mpr c2).2, if_neg q1, if_pos q2, O.r4, Option.bind_some, O.r2, Option.bind_some, Ac.k, Option.bind_some, e1, Option.bind_some, O1.r2, Option.bind_some, H1.f5, Option.bind_some, Option.bind_some, H1.f7, Option.bind_some, ra, H1.de v ht, Option.bind_some, e2, Option.bind_some, O2.r2, Option.bind_some, H2.f8, Option.bind_some, rb, e3, Option.bind_some, O3.r2, Option.bind_some, H3.f7, Option.bind_some, rc, e4, Option.bind_some, O4.r2, Option.bind_some, H4.f5, Option.bind_some, ← rc]
        · unfold f_X8_bury
          rw [P4.k, Option.bind_some, r_isThing P4 N4 v, Option.bind_some, if_neg (zb_n c1), k2, Option.bind_some, if_neg (zb_n c2), k3, Option.bind_some, if_neg (zb_n c3), Option.bind_some, e5, Option.bind_some, P5.r4, Option.bind_some, N5.f29, Option.bind_some, Option.bind_some, ra, N5.de v ht, Option.bind_some, e6, Option.bind_some, P6.r4, Option.bind_some, z13, nI_add, rc, e7, Option.bind_some, P7.r4, Option.bind_some, z18, nI_add, rb, e8, Option.bind_some, P8.r4, Option.bind_some, N8'.f29, Option.bind_some, ← rc]
        · exact ⟨fa, st, sAc ac, sz, tr, th, _, sBury m t p d, O4.keep (F2 _ (by omega) (by omega) (by omega)), P8, R.keep (fun j hj => F j (by omega) (by omega) (by omega) (by omega)), T.keep (fun j hj => F j (by omega) (by omega) (by omega) (by omega)), ⟨H4.keep (fun j _ _ => F2 j (by omega) (by omega) (by omega)), N8', G.of vB (by unfold sBury; rw [mup_n _ d (by omega), mup_n _ p (by omega)]) (by unfold sBury; rw [mup_n _ d (by omega), mup_n _ p (by omega)])⟩, iA.mk (A1.keep (fun j hj => (F2 j (by omega) (by omega) (by omega)).trans (Fk j (by omega)))) (B5.keep (Fb _ (by omega))), Im.keep (fun j hj => F j (by omega) (by omega) (by omega) (by omega)), C.keep (fun j hj => F j (by omega) (by omega) (by omega) (by omega)), S.keep (fun j hj => F j (by omega) (by omega) (by omega) (by omega)), X.keep (fun j hj => F j (by omega) (by omega) (by omega) (by omega)), L.keep (fun j hj => F j (by omega) (by omega) (by omega) (by omega))⟩
      · refine zBoth.same (v := (-1000001 : Int32)) I0 ?_ ?_
        · unfold f_X7_bury
          rw [O.k, Option.bind_some, c_isThing O N7 v, Option.bind_some, if_neg (zb_n c1), if_neg (kb.mpr c2).1, if_neg (kb.mpr c2).2]
          by_cases b1 : c < 1
          · rw [if_pos b1]
          · rw [if_neg b1, if_neg]
            intro q
            rcases zcase c with z | ⟨r, hr, rc⟩
            · apply b1
              rw [Int32.lt_iff_toInt_lt] at z ⊢
              have e0 : (0 : Int32).toInt = 0 := rfl
              have e1 : (1 : Int32).toInt = 1 := rfl
              omega
            · rw [rc] at q b1
              have q2 := (nI_leI (b := 40) hr (by omega)).mp q
              have q1 : 1 ≤ r := Nat.le_of_not_lt (fun z => b1 (nI_lt (b := 1) z (by omega)))
              exact c3 ⟨r, by omega, q1, rc⟩
        · unfold f_X8_bury
          rw [P.k, Option.bind_some, r_isThing P N8 v, Option.bind_some, if_neg (zb_n c1), k2, Option.bind_some, if_neg (zb_n c2), k3, Option.bind_some, if_pos (zb_f c3)]
    · refine zBoth.same (v := (-1000001 : Int32)) I0 ?_ ?_
      · unfold f_X7_bury
        rw [O.k, Option.bind_some, c_isThing O N7 v, Option.bind_some, if_neg (zb_n c1)]
        by_cases q : b < 0
        · rw [if_pos q]
        · rw [if_neg q, if_pos (Classical.byContradiction fun z => c2 (kb.mp ⟨q, z⟩))]
      · unfold f_X8_bury
        rw [P.k, Option.bind_some, r_isThing P N8 v, Option.bind_some, if_neg (zb_n c1), k2, Option.bind_some, if_pos (zb_f c2)]
  · refine zBoth.same (v := (-1000001 : Int32)) I0 ?_ ?_
    · unfold f_X7_bury
      rw [O.k, Option.bind_some, c_isThing O N7 v, Option.bind_some, if_pos (zb_f c1)]
    · unfold f_X8_bury
      rw [P.k, Option.bind_some, r_isThing P N8 v, Option.bind_some, if_pos (zb_f c1)]
theorem zxor : ∀ (k : Fin 64) (j : Fin 6), ∃ w : Fin 64, nI k ^^^ ((1 : Int32) <<< (nI j &&& 31)) = nI w := by decide +kernel
theorem zbit01 : ∀ (k : Fin 64) (j : Fin 6), (nI k >>> (nI j &&& 31)) &&& (1 : Int32) = 0 ∨ (nI k >>> (nI j &&& 31)) &&& (1 : Int32) = 1 := by decide +kernel
theorem M_tell {h : zH} (I : INV h) (a b c : Int32) : zBoth (f_X7_tell 0 a b c) (f_X8_tell 241 a b c) h := by
  have I0 := I
  obtain ⟨fa, st, ac, sz, tr, th, dg, m, O, P, R, T, ⟨N7, N8, G⟩, A, Im, C, S, X, L⟩ := I
  have v := G.1
  have h5 := v.1
  have h6 := v.2.2.1
  by_cases c1 : ∃ t, t < m 0 ∧ a = nI t
  · by_cases c2 : ∃ t, t < m 2 ∧ b = nI t
    · by_cases c3 : c = 0 ∨ c = 1
      · have c1' := c1
        have c2' := c2
        obtain ⟨t, ht, ra⟩ := c1'
        obtain ⟨j, hj, rb⟩ := c2'
        have q1 : ¬ c < 0 := by rcases c3 with rfl | rfl <;> decide
        have q2 : c ≤ 1 := by rcases c3 with rfl | rfl <;> decide
        have vk := (v.2.2.2.2 t ht).2.2.2.2
        have bit := zbit01 ⟨m (23 + t), vk⟩ ⟨j, by omega⟩
        dsimp only at bit
        have eqv : zb ((nI (m (23 + t)) >>> (nI j &&& 31)) &&& (1 : Int32) = 1) = (nI (m (23 + t)) >>> (nI j &&& 31)) &&& (1 : Int32) := by
          rcases bit with w | w
          · rw [zb_f (by rw [w]; decide), w]
          · rw [zb_t w, w]
        by_cases c4 : (nI (m (23 + t)) >>> (nI j &&& 31)) &&& (1 : Int32) = c
        · refine zBoth.same (v := (-1000002 : Int32)) I0 ?_ ?_
          · unfold f_X7_tell
            rw [O.k, Option.bind_some, c_isThing O N7 v, Option.bind_some, if_neg (zb_n c1), Option.bind_some, c_isMan O N7 v, Option.bind_some, if_neg (zb_n c2), if_neg q1, if_pos q2, O.r2, Option.bind_some, N7.f10, Option.bind_some, ra, N7.kn v ht, Option.bind_some, rb, if_pos c4]
          · unfold f_X8_tell f_X8_tell_b59
            rw [P.k, Option.bind_some, r_isThing P N8 v, Option.bind_some, if_neg (zb_n c1), P.r4, Option.bind_some, N8.f2, Option.bind_some, r_isMan N8 v, Option.bind_some, if_neg (zb_n c2), r_isTwo, Option.bind_some, if_neg (zb_n c3), Option.bind_some, ra, N8.kn v ht, Option.bind_some, rb, r_has, Option.bind_some, eqv]
            rcases c3 with rfl | rfl
            · rw [if_neg (by decide), if_pos c4]
            · rw [if_pos rfl, if_pos c4]
        · obtain ⟨w, hw⟩ := zxor ⟨m (23 + t), vk⟩ ⟨j, by omega⟩
          dsimp only at hw
          obtain ⟨D, M, Ac, Ar⟩ := A.un
          obtain ⟨h1, e1, A1, F1⟩ := c_keep Ac N7 G
          have H1 : zMi h1 15 th dg m := N7.keep (fun j _ _ => F1 j (by omega))
          have O1 : iO h1 fa st := O.keep (F1 _ (by omega))
          obtain ⟨x2, e2, H2⟩ := H1.kp h5 (i := t) (x := w.val) ht
          have O2 : iO (h1.set (15 + 5) x2) fa st := O1.keep (zset_ne (by omega))
          have vB : vM (mup m (23 + t) w.val) := mup_vk v w.isLt (by omega)
          have n0 : mup m (23 + t) w.val 0 = m 0 := mup_n m _ (by omega)
          have Fa : ∀ j, (j < 15 ∨ (21 < j ∧ j < 29) ∨ 198 < j) → (h1.set (15 + 5) x2)[j]? = h[j]? := fun j hj => (zset_ne (by omega)).trans (F1 j (by omega))
          have P4 := P.keep (h' := h1.set (15 + 5) x2) (Fa _ (by omega))
          have N4 : zMo (h1.set (15 + 5) x2) 245 dg m := N8.keep (Fa _ (by omega))
          obtain ⟨h5', e5, P5, B5, F5⟩ := r_remember P4 (Ar.keep (Fa _ (by omega))) Ac.m5.1 Ac.m5.2 N4 v
          have N5 : zMo h5' 245 dg m := N4.keep (F5 _ (by omega) (by omega))
          obtain ⟨x7, e7, N7'⟩ := N5.st (j := 23 + t) (x := w.val) (by omega) (by omega)
          have P7 : iP (h5'.set 245 x7) fa st (nI (sAc ac)) (nI sz) (nI tr) := P5.keep (zset_ne (by omega))
          have F2 : ∀ j, j ≠ 241 → j ≠ 245 → j ≠ 248 → (h5'.set 245 x7)[j]? = (h1.set (15 + 5) x2)[j]? := fun j a b c => (zset_ne b).trans (F5 j a c)
          have F : ∀ j, (j < 15 ∨ (21 < j ∧ j < 29) ∨ 198 < j) → j ≠ 241 → j ≠ 245 → j ≠ 248 → (h5'.set 245 x7)[j]? = h[j]? := fun j q a b c => (F2 j a b c).trans (Fa j q)
          have l8 := N7'.kn vB (t := t) (by rw [n0]; exact ht)
          have l7 := H2.kn vB (t := t) (by rw [n0]; exact ht)
          rw [mup_s] at l7 l8
          refine zBoth.mk (nI w.val) (h1 := h1.set (15 + 5) x2) (h2 := h5'.set 245 x7) ?_ ?_ ?_
          · unfold f_X7_tell
            rw [O.k, Option.bind_some, c_isThing O N7 v, Option.bind_some, if_neg (zb_n c1), Option.bind_some, c_isMan O N7 v, Option.bind_some, if_neg (zb_n c2), if_neg q1, if_pos q2, O.r2, Option.bind_some, N7.f10, Option.bind_some, ra, N7.kn v ht, Option.bind_some, rb, if_neg c4, O.r4, Option.bind_some, Option.bind_some, Ac.k, Option.bind_some, e1, Option.bind_some, O1.r2, Option.bind_some, H1.f10, Option.bind_some, H1.kn v ht, Option.bind_some, hw, e2, Option.bind_some, O2.r2, Option.bind_some, H2.f10, Option.bind_some, l7, Option.bind_some]
          · have key : f_X8_tell_b59 241 (nI t) (nI j) ((nI (m (23 + t)) >>> (nI j &&& 31)) &&& (1 : Int32)) c (h1.set (15 + 5) x2) = some (nI w.val, h5'.set 245 x7) := by
              unfold f_X8_tell_b59
              rw [if_neg c4, P4.k, Option.bind_some, e5, Option.bind_some, P5.r4, Option.bind_some, N5.kn v ht, Option.bind_some, hw, z23, nI_add, e7, Option.bind_some, P7.r4, Option.bind_some, ← nI_add, ← z23, l8, Option.bind_some]
            unfold f_X8_tell
            rw [P4.k, Option.bind_some, r_isThing P4 N4 v, Option.bind_some, if_neg (zb_n c1), P4.r4, Option.bind_some, N4.f2, Option.bind_some, r_isMan N4 v, Option.bind_some, if_neg (zb_n c2), r_isTwo, Option.bind_some, if_neg (zb_n c3), Option.bind_some, ra, N4.kn v ht, Option.bind_some, rb, r_has, Option.bind_some, eqv]
            rcases c3 with rfl | rfl
            · rw [if_neg (by decide)]
              exact key
            · rw [if_pos rfl]
              exact key
          · exact ⟨fa, st, sAc ac, sz, tr, th, dg, mup m (23 + t) w.val, O2.keep (F2 _ (by omega) (by omega) (by omega)), P7, R.keep (fun j hj => F j (by omega) (by omega) (by omega) (by omega)), T.keep (fun j hj => F j (by omega) (by omega) (by omega) (by omega)), ⟨H2.keep (fun j _ _ => F2 j (by omega) (by omega) (by omega)), N7', G.of vB (mup_n _ _ (by omega)) (mup_n _ _ (by omega))⟩, iA.mk (A1.keep (fun j hj => (F2 j (by omega) (by omega) (by omega)).trans (zset_ne (by omega)))) (B5.keep (zset_ne (by omega))), Im.keep (fun j hj => F j (by omega) (by omega) (by omega) (by omega)), C.keep (fun j hj => F j (by omega) (by omega) (by omega) (by omega)), S.keep (fun j hj => F j (by omega) (by omega) (by omega) (by omega)), X.keep (fun j hj => F j (by omega) (by omega) (by omega) (by omega)), L.keep (fun j hj => F j (by omega) (by omega) (by omega) (by omega))⟩
      · refine zBoth.same (v := (-1000001 : Int32)) I0 ?_ ?_
        · unfold f_X7_tell
          rw [O.k, Option.bind_some, c_isThing O N7 v, Option.bind_some, if_neg (zb_n c1), Option.bind_some, c_isMan O N7 v, Option.bind_some, if_neg (zb_n c2)]
          by_cases q : c < 0
          · rw [if_pos q]
          · rw [if_neg q, if_neg]
            intro w
            rcases zcase c with z | ⟨r, hr, rc⟩
            · exact q z
            · rw [rc] at w
              have q2 := (nI_leI (b := 1) hr (by omega)).mp w
              apply c3
              rw [rc]
              rcases (show r = 0 ∨ r = 1 by omega) with rfl | rfl
              · exact Or.inl rfl
              · exact Or.inr rfl
        · unfold f_X8_tell
          rw [P.k, Option.bind_some, r_isThing P N8 v, Option.bind_some, if_neg (zb_n c1), P.r4, Option.bind_some, N8.f2, Option.bind_some, r_isMan N8 v, Option.bind_some, if_neg (zb_n c2), r_isTwo, Option.bind_some, if_pos (zb_f c3)]
    · refine zBoth.same (v := (-1000001 : Int32)) I0 ?_ ?_
      · unfold f_X7_tell
        rw [O.k, Option.bind_some, c_isThing O N7 v, Option.bind_some, if_neg (zb_n c1), Option.bind_some, c_isMan O N7 v, Option.bind_some, if_pos (zb_f c2)]
      · unfold f_X8_tell
        rw [P.k, Option.bind_some, r_isThing P N8 v, Option.bind_some, if_neg (zb_n c1), P.r4, Option.bind_some, N8.f2, Option.bind_some, r_isMan N8 v, Option.bind_some, if_pos (zb_f c2)]
  · refine zBoth.same (v := (-1000001 : Int32)) I0 ?_ ?_
    · unfold f_X7_tell
      rw [O.k, Option.bind_some, c_isThing O N7 v, Option.bind_some, if_pos (zb_f c1)]
    · unfold f_X8_tell
      rw [P.k, Option.bind_some, r_isThing P N8 v, Option.bind_some, if_pos (zb_f c1)]
