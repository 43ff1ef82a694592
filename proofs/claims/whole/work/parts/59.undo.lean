/-! PURE: undo, image, restore -/
theorem M_undo {h : zH} (I : INV h) : zBoth (f_X7_undo 0) (f_X8_undo 241) h := by
  have I0 := I
  obtain ⟨fa, st, ac, sz, tr, th, dg, m, O, P, R, T, ⟨N7, N8, G⟩, A, Im, C, S, X, L⟩ := I
  obtain ⟨D, M, Ac, Ar⟩ := A.un
  have hac := Ac.m5.1
  by_cases c : ac = 0
  · refine zBoth.same (v := (-1000002 : Int32)) I0 ?_ ?_
    · unfold f_X7_undo
      rw [O.r4, Option.bind_some, Ac.i2, Option.bind_some, if_pos (by rw [c]; rfl)]
    · unfold f_X8_undo
      rw [P.i8, Option.bind_some, if_pos (by rw [c]; rfl)]
  · obtain ⟨h1, th', e1, A1, H1, G1, F1⟩ := c_takeBack Ac (by omega) N7.sh
    have O1 : iO h1 fa st := O.keep (F1 _ (by omega) (by omega))
    have P1 := P.keep (F1 241 (by omega) (by omega))
    obtain ⟨f, hf, -⟩ := N8
    have hf1 := (F1 245 (by omega) (by omega)).trans hf
    obtain ⟨pa, hp, rel⟩ := Ar
    have hp1 := (F1 248 (by omega) (by omega)).trans hp
    obtain ⟨x2, e2, P2⟩ := P1.p8 (nI (ac - 1))
    have F2 : ∀ j, j ≠ 241 → (h1.set 241 x2)[j]? = h1[j]? := fun j hj => zset_ne hj
    obtain ⟨h3, e3, hb, F3⟩ := r_copies (i := 30 * (ac - 1)) (j := 0) (n0 := 720) (n1 := 30) (a := 248) (b := 245) (by omega) (by omega) (by omega) (by omega) (by omega) ((F2 _ (by omega)).trans hp1) ((F2 _ (by omega)).trans hf1)
    have P3 := P2.keep (h' := h3) (F3 _ (by omega))
    have F : ∀ j, (j < 15 ∨ 21 < j) → j ≠ 29 → j ≠ 241 → j ≠ 245 → h3[j]? = h[j]? := fun j a b c d => (F3 j d).trans ((F2 j c).trans (F1 j a b))
    have F13 : ∀ j, j ≠ 241 → j ≠ 245 → h3[j]? = h1[j]? := fun j a b => (F3 j b).trans (F2 j a)
    refine zBoth.mk (nI (ac - 1)) (h1 := h1) (h2 := h3) ?_ ?_ ?_
    · unfold f_X7_undo
      rw [O.r4, Option.bind_some, Ac.i2, Option.bind_some, if_neg (by rw [znz (by omega)]; exact c), Option.bind_some, O.r2, Option.bind_some, Ac.k, Option.bind_some, e1, Option.bind_some, O1.r4, Option.bind_some, A1.i2, Option.bind_some]
    · unfold f_X8_undo
      rw [P1.i8, Option.bind_some, if_neg (by rw [znz (by omega)]; exact c), Option.bind_some, z1, pk_sub (by omega), e2, Option.bind_some, P2.r7, Option.bind_some, P2.i8, Option.bind_some, P2.r4, Option.bind_some, z30, pk_mul, show (0 : Int32) = nI 0 from rfl, e3, Option.bind_some, P3.i8, Option.bind_some]
    · have hm5 := Ac.m5.2 (ac - 1) (by omega)
      have N3 : zMo h3 245 (D (ac - 1)) (M (ac - 1)) := by
        refine ⟨_, hb, zAg.cg (rel (ac - 1) (by omega)) hm5 (fun x hx => ?_)⟩
        unfold zcp30
        rw [if_pos (by omega), Nat.sub_zero]
      exact ⟨fa, st, ac - 1, sz, tr, th', D (ac - 1), M (ac - 1), O1.keep (F13 _ (by omega) (by omega)), P3, R.keep (fun j hj => F j (by omega) (by omega) (by omega) (by omega)), T.keep (fun j hj => F j (by omega) (by omega) (by omega) (by omega)), ⟨H1.keep (fun j _ _ => F13 j (by omega) (by omega)), N3, G1⟩, iA.mk (A1.keep (fun j hj => F13 j (by omega) (by omega))) ⟨pa, (F13 _ (by omega) (by omega)).trans hp1, fun j hj => rel j (by omega)⟩, Im.keep (fun j hj => F j (by omega) (by omega) (by omega) (by omega)), C.keep (fun j hj => F j (by omega) (by omega) (by omega) (by omega)), S.keep (fun j hj => F j (by omega) (by omega) (by omega) (by omega)), X.keep (fun j hj => F j (by omega) (by omega) (by omega) (by omega)), L.keep (fun j hj => F j (by omega) (by omega) (by omega) (by omega))⟩
/-- nothing to be undone: both sides forget -/
theorem c_forget {h : zH} {ac : Nat} {D : Nat → Int32} {M : Nat → Nat → Nat} (A : iAc h ac D M) : ∃ h', f_X0_forgetAll 29 h = some h' ∧ iAc h' 0 D M ∧ ∀ j, j ≠ 29 → h'[j]? = h[j]? := by
  obtain ⟨hk, top, G, at_, ad, am, h1, h2, h3, h4, h6, h8⟩ := A
  have p : zP h 29 0 2 (.int (nI 0)) = some (h.set 29 (.inr (0, [.ref 30, .int (nI top), .int (nI 0)]))) := zP_of h2 (by simp)
  unfold f_X0_forgetAll
  rw [show (0 : Int32) = nI 0 from rfl, p, Option.bind_some]
  exact ⟨_, rfl, ⟨by omega, top, G, at_, ad, am, h1, zset_eq h2, (zset_ne (by omega)).trans h3, h4, fun k hk => ⟨(h6 k hk).1.keep (fun j _ _ => zset_ne (by omega)), (h6 k hk).2⟩, fun j hj => by omega⟩, fun j hj => zset_ne hj⟩
theorem c_isImage {h : zH} (a : Int32) : f_X7_isImage a h = some (zb (∃ k : Nat, k < 2 ∧ a = nI k)) := by
  have key := zthing (a := a) (N := 2) (by omega)
  unfold f_X7_isImage
  by_cases h1 : a < 0
  · rw [if_pos h1, zb_f (fun q => (key.mpr q).1 h1)]; rfl
  · rw [if_neg h1, z2]
    by_cases h2 : nI 2 ≤ a
    · rw [if_pos h2, zb_f (fun q => (key.mpr q).2 h2)]; rfl
    · rw [if_neg h2, zb_t (key.mp ⟨h1, h2⟩)]; rfl
theorem r_isImage {h : zH} (a : Int32) : f_X8_isTwo a h = some (zb (∃ k : Nat, k < 2 ∧ a = nI k)) := by
  unfold f_X8_isTwo
  rw [show (1 : Int64) = Int32.toInt64 (nI 2 - 1) from rfl, r_below _ (by omega), Option.bind_some, zb_B]
theorem M_image {h : zH} (I : INV h) (a : Int32) : zBoth (f_X7_image 0 a) (f_X8_image 241 a) h := by
  have I0 := I
  obtain ⟨fa, st, ac, sz, tr, th, dg, m, O, P, R, T, ⟨N7, N8, G⟩, A, Im, C, S, X, L⟩ := I
  have v := G.1
  by_cases c1 : ∃ k : Nat, k < 2 ∧ a = nI k
  · by_cases c2 : 0 < m 2
    · have c1' := c1
      obtain ⟨k, hk, ra⟩ := c1'
      obtain ⟨Gr, ia, ke, it, ig, im, i1, i2, i3, i4, i5⟩ := Im
      obtain ⟨h1, e1, H1, F1⟩ := c_become N7 v.1 G.b (i5 k hk).1.sh (by omega)
      have P1 := P.keep (h' := h1) (F1 _ (by omega))
      have N1 : zMo h1 245 dg m := N8.keep (F1 _ (by omega))
      obtain ⟨f, hf, hz⟩ := N1
      obtain ⟨h2, e2, hb, F2⟩ := r_copies (i := 0) (j := 30 * k) (n0 := 30) (n1 := 60) (a := 245) (b := 249) (by omega) (by omega) (by omega) (by omega) (by omega) hf ((F1 249 (by omega)).trans i3)
      have P2 := P1.keep (h' := h2) (F2 _ (by omega))
      have w : h2[250]? = _ := (F2 250 (by omega)).trans ((F1 250 (by omega)).trans i4)
      have p3 : zS h2 1 250 (nI k) (1 : Int32) = some (h2.set 250 (.inl (1, 2, .inl (upd ke k 1)))) := zS_of w hk (by omega)
      have F : ∀ j, (j < 227 + 7 * k ∨ 227 + 7 * k + 7 ≤ j) → j ≠ 249 → j ≠ 250 → (h2.set 250 (.inl (1, 2, .inl (upd ke k 1))))[j]? = h[j]? := fun j a b c => (zset_ne c).trans ((F2 j b).trans (F1 j a))
      have ht1 : th = 1 := by rw [G.2.2]; exact zb_t c2
      refine zBoth.mk (1 : Int32) (h1 := h1) (h2 := h2.set 250 (.inl (1, 2, .inl (upd ke k 1)))) ?_ ?_ ?_
      · unfold f_X7_image
        rw [c_isImage, Option.bind_some, if_neg (zb_n c1), O.r2, Option.bind_some, N7.f0, Option.bind_some, if_neg (G.nz c2), O.r5, Option.bind_some, ra, zLr_of i1 hk (by omega) (i2 k hk), Option.bind_some, Option.bind_some, (i5 k hk).1.k, Option.bind_some, e1, Option.bind_some]
      · unfold f_X8_image
        rw [r_isImage, Option.bind_some, if_neg (zb_n c1), P1.k, Option.bind_some, r_isMine P1 ⟨f, hf, hz⟩ v, Option.bind_some, if_neg (zb_n c2), P1.r4, Option.bind_some, P1.r9, Option.bind_some, ra, z30, pk_mul, show (0 : Int32) = nI 0 from rfl, e2, Option.bind_some, P2.r10, Option.bind_some, zB1, Option.bind_some, p3, Option.bind_some]
      · refine ⟨fa, st, ac, sz, tr, th, dg, m, O.keep (F _ (by omega) (by omega) (by omega)), P.keep (F _ (by omega) (by omega) (by omega)), R.keep (fun j hj => F j (by omega) (by omega) (by omega)), T.keep (fun j hj => F j (by omega) (by omega) (by omega)), ⟨N7.keep (fun j _ _ => F j (by omega) (by omega) (by omega)), N8.keep (F _ (by omega) (by omega) (by omega)), G⟩, A.keep (fun j hj => F j (by omega) (by omega) (by omega)), ⟨Gr, _, _, fun i => if i = k then th else it i, fun i => if i = k then dg else ig i, fun i => if i = k then m else im i, (F _ (by omega) (by omega) (by omega)).trans i1, i2, (zset_ne (by omega)).trans hb, zset_eq w, fun i hi => ?_⟩, C.keep (fun j hj => F j (by omega) (by omega) (by omega)), S.keep (fun j hj => F j (by omega) (by omega) (by omega)), X.keep (fun j hj => F j (by omega) (by omega) (by omega)), L.keep (fun j hj => F j (by omega) (by omega) (by omega))⟩
        dsimp only
        by_cases ci : i = k
        · subst ci
          rw [if_pos rfl, if_pos rfl, if_pos rfl, upd_s]
          refine ⟨H1.keep (fun j _ _ => (zset_ne (by omega)).trans (F2 j (by omega))), G, ht1.symm, fun _ => zAg.cg hz v.1 (fun x hx => ?_)⟩
          unfold zcp30
          rw [if_pos (by omega)]
          exact congrArg f (by omega)
        · obtain ⟨q1, q2, q3, q4⟩ := i5 i hi
          rw [if_neg ci, if_neg ci, if_neg ci, upd_n ci]
          refine ⟨q1.keep (fun j _ _ => F j (by omega) (by omega) (by omega)), q2, q3, fun ht => zAg.cg (q4 ht) q2.1.1 (fun x hx => ?_)⟩
          unfold zcp30
          rw [if_neg (by omega)]
    · refine zBoth.same (v := (-1000002 : Int32)) I0 ?_ ?_
      · unfold f_X7_image
        rw [c_isImage, Option.bind_some, if_neg (zb_n c1), O.r2, Option.bind_some, N7.f0, Option.bind_some, if_pos (G.z c2)]
      · unfold f_X8_image
        rw [r_isImage, Option.bind_some, if_neg (zb_n c1), P.k, Option.bind_some, r_isMine P N8 v, Option.bind_some, if_pos (zb_f c2)]
  · refine zBoth.same (v := (-1000001 : Int32)) I0 ?_ ?_
    · unfold f_X7_image
      rw [c_isImage, Option.bind_some, if_pos (zb_f c1)]
    · unfold f_X8_image
      rw [r_isImage, Option.bind_some, if_pos (zb_f c1)]
theorem M_restore {h : zH} (I : INV h) (a : Int32) : zBoth (f_X7_restore 0 a) (f_X8_restore 241 a) h := by
  have I0 := I
  obtain ⟨fa, st, ac, sz, tr, th, dg, m, O, P, R, T, ⟨N7, N8, G⟩, A, Im, C, S, X, L⟩ := I
  by_cases c1 : ∃ k : Nat, k < 2 ∧ a = nI k
  · have c1' := c1
    obtain ⟨k, hk, ra⟩ := c1'
    have Im0 := Im
    obtain ⟨Gr, ia, ke, it, ig, im, i1, i2, i3, i4, i5⟩ := Im
    obtain ⟨q1, q2, q3, q4⟩ := i5 k hk
    have v := q2.1
    by_cases c2 : it k = 0
    · refine zBoth.same (v := (-1000002 : Int32)) I0 ?_ ?_
      · unfold f_X7_restore
        rw [c_isImage, Option.bind_some, if_neg (zb_n c1), O.r5, Option.bind_some, ra, zLr_of i1 hk (by omega) (i2 k hk), Option.bind_some, q1.f0, Option.bind_some, if_pos c2]
      · unfold f_X8_restore
        rw [r_isImage, Option.bind_some, if_neg (zb_n c1), P.r10, Option.bind_some, ra, zL_of i4 hk (by omega), Option.bind_some, q3, if_pos c2]
    · have t1 : it k = 1 := by
        rcases q2.b with z | z
        · exact absurd z c2
        · exact z
      obtain ⟨D, M, Ac, Ar⟩ := A.un
      obtain ⟨h1, e1, H1, F1⟩ := c_become q1 v.1 q2.b N7.sh (by omega)
      have O1 : iO h1 fa st := O.keep (F1 _ (by omega))
      have A1 := Ac.keep (h' := h1) (fun j hj => F1 j (by omega))
      obtain ⟨h2, e2, A2, F2⟩ := c_forget A1
      have Fa : ∀ j, (j < 15 ∨ 22 ≤ j) → j ≠ 29 → h2[j]? = h[j]? := fun j a b => (F2 j b).trans (F1 j a)
      have P2 := P.keep (h' := h2) (Fa _ (by omega) (by omega))
      obtain ⟨f, hf, -⟩ := N8
      obtain ⟨h3, e3, hb, F3⟩ := r_copies (i := 30 * k) (j := 0) (n0 := 60) (n1 := 30) (a := 249) (b := 245) (by omega) (by omega) (by omega) (by omega) (by omega) ((Fa 249 (by omega) (by omega)).trans i3) ((Fa 245 (by omega) (by omega)).trans hf)
      have P3 := P2.keep (h' := h3) (F3 _ (by omega))
      obtain ⟨x4, e4, P4⟩ := P3.p8 (nI 0)
      have F4 : ∀ j, j ≠ 241 → j ≠ 245 → (h3.set 241 x4)[j]? = h2[j]? := fun j a b => (zset_ne a).trans (F3 j b)
      have F : ∀ j, (j < 15 ∨ 22 ≤ j) → j ≠ 29 → j ≠ 241 → j ≠ 245 → (h3.set 241 x4)[j]? = h[j]? := fun j a b c d => (F4 j c d).trans (Fa j a b)
      refine zBoth.mk (1 : Int32) (h1 := h2) (h2 := h3.set 241 x4) ?_ ?_ ?_
      · unfold f_X7_restore
        rw [c_isImage, Option.bind_some, if_neg (zb_n c1), O.r5, Option.bind_some, ra, zLr_of i1 hk (by omega) (i2 k hk), Option.bind_some, q1.f0, Option.bind_some, if_neg c2, O.r2, Option.bind_some, Option.bind_some, zLr_of i1 hk (by omega) (i2 k hk), Option.bind_some, N7.k, Option.bind_some, e1, Option.bind_some, O1.r4, Option.bind_some, A1.k, Option.bind_some, e2, Option.bind_some]
      · unfold f_X8_restore
        rw [r_isImage, Option.bind_some, if_neg (zb_n c1), P2.r10, Option.bind_some, ra, zL_of ((Fa 250 (by omega) (by omega)).trans i4) hk (by omega), Option.bind_some, q3, if_neg c2, P2.r9, Option.bind_some, P2.r4, Option.bind_some, z30, pk_mul, show (0 : Int32) = nI 0 from rfl, e3, Option.bind_some, e4, Option.bind_some]
      · have N4 : zMo (h3.set 241 x4) 245 (ig k) (im k) := by
          refine ⟨_, (zset_ne (by omega)).trans hb, zAg.cg (q4 t1) v.1 (fun x hx => ?_)⟩
          unfold zcp30
          rw [if_pos (by omega), Nat.sub_zero]
        exact ⟨fa, st, 0, sz, tr, it k, ig k, im k, O1.keep ((F4 _ (by omega) (by omega)).trans (F2 _ (by omega))), P4, R.keep (fun j hj => F j (by omega) (by omega) (by omega) (by omega)), T.keep (fun j hj => F j (by omega) (by omega) (by omega) (by omega)), ⟨H1.keep (fun j _ _ => (F4 j (by omega) (by omega)).trans (F2 j (by omega))), N4, q2⟩, iA.mk (A2.keep (fun j hj => F4 j (by omega) (by omega))) ⟨_, (F 248 (by omega) (by omega) (by omega) (by omega)).trans Ar.choose_spec.1, fun j hj => by omega⟩, Im0.keep (fun j hj => F j (by omega) (by omega) (by omega) (by omega)), C.keep (fun j hj => F j (by omega) (by omega) (by omega) (by omega)), S.keep (fun j hj => F j (by omega) (by omega) (by omega) (by omega)), X.keep (fun j hj => F j (by omega) (by omega) (by omega) (by omega)), L.keep (fun j hj => F j (by omega) (by omega) (by omega) (by omega))⟩
  · refine zBoth.same (v := (-1000001 : Int32)) I0 ?_ ?_
    · unfold f_X7_restore
      rw [c_isImage, Option.bind_some, if_pos (zb_f c1)]
    · unfold f_X8_restore
      rw [r_isImage, Option.bind_some, if_pos (zb_f c1)]
