/-! PURE: rows -/
def iRh (h : zH) (it : Nat → Nat → Int32) (la le ro ls ss : Nat → Int32) : Prop := h[1]? = some (.inr (4, [.ref 2, .ref 11, .ref 12])) ∧ (∃ G, h[2]? = some (.inl (3, 8, .inr G)) ∧ ∀ r, r < 8 → G r = some (3 + r)) ∧ (∀ r, r < 8 → h[3 + r]? = some (.inl (0, 40, .inl (it r)))) ∧ h[11]? = some (.inl (0, 8, .inl la)) ∧ h[12]? = some (.inl (0, 8, .inl le)) ∧ h[242]? = some (.inl (0, 8, .inl ls)) ∧ h[243]? = some (.inl (0, 8, .inl ss)) ∧ h[244]? = some (.inl (0, 320, .inl ro))
def iRr (it : Nat → Nat → Int32) (la le ro ls ss : Nat → Int32) : Prop := ∀ r, r < 8 → ls r = la r ∧ ss r = le r ∧ (le r = -1 ∨ ∃ n, n ≤ 40 ∧ le r = nI n ∧ ∀ i, i < n → it r i = ro (40 * r + i))
theorem iR.un {h : zH} (R : iR h) : ∃ it la le ro ls ss, iRh h it la le ro ls ss ∧ iRr it la le ro ls ss := by
  obtain ⟨h1, h2, it, la, le, ro, ls, ss, h3, h4, h5, h6, h7, h8, h9⟩ := R
  exact ⟨it, la, le, ro, ls, ss, ⟨h1, h2, h3, h4, h5, h6, h7, h8⟩, h9⟩
theorem iRh.mk {h : zH} {it : Nat → Nat → Int32} {la le ro ls ss : Nat → Int32} (H : iRh h it la le ro ls ss) (r : iRr it la le ro ls ss) : iR h := by
  obtain ⟨h1, h2, h3, h4, h5, h6, h7, h8⟩ := H
  exact ⟨h1, h2, it, la, le, ro, ls, ss, h3, h4, h5, h6, h7, h8, r⟩
def up2 (it : Nat → Nat → Int32) (r : Nat) (f : Nat → Int32) : Nat → Nat → Int32 := fun y => if y = r then f else it y
theorem upd_s {f : Nat → Int32} {k : Nat} {x : Int32} : upd f k x k = x := if_pos rfl
theorem upd_n {f : Nat → Int32} {k j : Nat} {x : Int32} (h : j ≠ k) : upd f k x j = f j := if_neg h
section IRH
variable {h : zH} {it : Nat → Nat → Int32} {la le ro ls ss : Nat → Int32}
theorem iRh.keep {h' : zH} (H : iRh h it la le ro ls ss) (e : ∀ j, (1 ≤ j ∧ j ≤ 12) ∨ (242 ≤ j ∧ j ≤ 244) → h'[j]? = h[j]?) : iRh h' it la le ro ls ss := by
  obtain ⟨h1, ⟨G, h2, hG⟩, h3, h4, h5, h6, h7, h8⟩ := H
  exact ⟨(e _ (by omega)).trans h1, ⟨G, (e _ (by omega)).trans h2, hG⟩, fun r hr => (e _ (by omega)).trans (h3 r hr), (e _ (by omega)).trans h4, (e _ (by omega)).trans h5, (e _ (by omega)).trans h6, (e _ (by omega)).trans h7, (e _ (by omega)).trans h8⟩
theorem iRh.k (H : iRh h it la le ro ls ss) : zK h 1 4 = some () := zK_of H.1
theorem iRh.r0 (H : iRh h it la le ro ls ss) : zR h 1 4 0 = some 2 := zR_of H.1 rfl
theorem iRh.r1 (H : iRh h it la le ro ls ss) : zR h 1 4 1 = some 11 := zR_of H.1 rfl
theorem iRh.r2 (H : iRh h it la le ro ls ss) : zR h 1 4 2 = some 12 := zR_of H.1 rfl
theorem iRh.lr (H : iRh h it la le ro ls ss) {r : Nat} (hr : r < 8) : zLr h 3 2 (nI r) = some (3 + r) := by
  obtain ⟨h1, ⟨G, h2, hG⟩, -⟩ := H
  exact zLr_of h2 hr (by omega) (hG r hr)
theorem iRh.l3 (H : iRh h it la le ro ls ss) {r i : Nat} (hr : r < 8) (hi : i < 40) : zL h 0 (3 + r) (nI i) = some (it r i) := zL_of (H.2.2.1 r hr) hi (by omega)
theorem iRh.l11 (H : iRh h it la le ro ls ss) {r : Nat} (hr : r < 8) : zL h 0 11 (nI r) = some (la r) := zL_of H.2.2.2.1 hr (by omega)
theorem iRh.l12 (H : iRh h it la le ro ls ss) {r : Nat} (hr : r < 8) : zL h 0 12 (nI r) = some (le r) := zL_of H.2.2.2.2.1 hr (by omega)
theorem iRh.l242 (H : iRh h it la le ro ls ss) {r : Nat} (hr : r < 8) : zL h 0 242 (nI r) = some (ls r) := zL_of H.2.2.2.2.2.1 hr (by omega)
theorem iRh.l243 (H : iRh h it la le ro ls ss) {r : Nat} (hr : r < 8) : zL h 0 243 (nI r) = some (ss r) := zL_of H.2.2.2.2.2.2.1 hr (by omega)
theorem iRh.l244 (H : iRh h it la le ro ls ss) {i : Nat} (hi : i < 320) : zL h 0 244 (nI i) = some (ro i) := zL_of H.2.2.2.2.2.2.2 hi (by omega)
theorem iRh.s3 (H : iRh h it la le ro ls ss) {r i : Nat} (hr : r < 8) (hi : i < 40) (x : Int32) : ∃ e, zS h 0 (3 + r) (nI i) x = some (h.set (3 + r) e) ∧ iRh (h.set (3 + r) e) (up2 it r (upd (it r) i x)) la le ro ls ss := by
  obtain ⟨h1, ⟨G, h2, hG⟩, h3, h4, h5, h6, h7, h8⟩ := H
  refine ⟨_, zS_of (h3 r hr) hi (by omega), (zset_ne (by omega)).trans h1, ⟨G, (zset_ne (by omega)).trans h2, hG⟩, fun y hy => ?_, (zset_ne (by omega)).trans h4, (zset_ne (by omega)).trans h5, (zset_ne (by omega)).trans h6, (zset_ne (by omega)).trans h7, (zset_ne (by omega)).trans h8⟩
  unfold up2
  by_cases c : y = r
  · subst c
    rw [if_pos rfl]
    exact zset_eq (h3 y hr)
  · rw [if_neg c, zset_ne (by omega)]
    exact h3 y hy
theorem iRh.s11 (H : iRh h it la le ro ls ss) {r : Nat} (hr : r < 8) (x : Int32) : ∃ e, zS h 0 11 (nI r) x = some (h.set 11 e) ∧ iRh (h.set 11 e) it (upd la r x) le ro ls ss := by
  obtain ⟨h1, ⟨G, h2, hG⟩, h3, h4, h5, h6, h7, h8⟩ := H
  exact ⟨_, zS_of h4 hr (by omega), (zset_ne (by omega)).trans h1, ⟨G, (zset_ne (by omega)).trans h2, hG⟩, fun y hy => (zset_ne (by omega)).trans (h3 y hy), zset_eq h4, (zset_ne (by omega)).trans h5, (zset_ne (by omega)).trans h6, (zset_ne (by omega)).trans h7, (zset_ne (by omega)).trans h8⟩
theorem iRh.s12 (H : iRh h it la le ro ls ss) {r : Nat} (hr : r < 8) (x : Int32) : ∃ e, zS h 0 12 (nI r) x = some (h.set 12 e) ∧ iRh (h.set 12 e) it la (upd le r x) ro ls ss := by
  obtain ⟨h1, ⟨G, h2, hG⟩, h3, h4, h5, h6, h7, h8⟩ := H
  exact ⟨_, zS_of h5 hr (by omega), (zset_ne (by omega)).trans h1, ⟨G, (zset_ne (by omega)).trans h2, hG⟩, fun y hy => (zset_ne (by omega)).trans (h3 y hy), (zset_ne (by omega)).trans h4, zset_eq h5, (zset_ne (by omega)).trans h6, (zset_ne (by omega)).trans h7, (zset_ne (by omega)).trans h8⟩
theorem iRh.s242 (H : iRh h it la le ro ls ss) {r : Nat} (hr : r < 8) (x : Int32) : ∃ e, zS h 0 242 (nI r) x = some (h.set 242 e) ∧ iRh (h.set 242 e) it la le ro (upd ls r x) ss := by
  obtain ⟨h1, ⟨G, h2, hG⟩, h3, h4, h5, h6, h7, h8⟩ := H
  exact ⟨_, zS_of h6 hr (by omega), (zset_ne (by omega)).trans h1, ⟨G, (zset_ne (by omega)).trans h2, hG⟩, fun y hy => (zset_ne (by omega)).trans (h3 y hy), (zset_ne (by omega)).trans h4, (zset_ne (by omega)).trans h5, zset_eq h6, (zset_ne (by omega)).trans h7, (zset_ne (by omega)).trans h8⟩
theorem iRh.s243 (H : iRh h it la le ro ls ss) {r : Nat} (hr : r < 8) (x : Int32) : ∃ e, zS h 0 243 (nI r) x = some (h.set 243 e) ∧ iRh (h.set 243 e) it la le ro ls (upd ss r x) := by
  obtain ⟨h1, ⟨G, h2, hG⟩, h3, h4, h5, h6, h7, h8⟩ := H
  exact ⟨_, zS_of h7 hr (by omega), (zset_ne (by omega)).trans h1, ⟨G, (zset_ne (by omega)).trans h2, hG⟩, fun y hy => (zset_ne (by omega)).trans (h3 y hy), (zset_ne (by omega)).trans h4, (zset_ne (by omega)).trans h5, (zset_ne (by omega)).trans h6, zset_eq h7, (zset_ne (by omega)).trans h8⟩
theorem iRh.s244 (H : iRh h it la le ro ls ss) {i : Nat} (hi : i < 320) (x : Int32) : ∃ e, zS h 0 244 (nI i) x = some (h.set 244 e) ∧ iRh (h.set 244 e) it la le (upd ro i x) ls ss := by
  obtain ⟨h1, ⟨G, h2, hG⟩, h3, h4, h5, h6, h7, h8⟩ := H
  exact ⟨_, zS_of h8 hi (by omega), (zset_ne (by omega)).trans h1, ⟨G, (zset_ne (by omega)).trans h2, hG⟩, fun y hy => (zset_ne (by omega)).trans (h3 y hy), (zset_ne (by omega)).trans h4, (zset_ne (by omega)).trans h5, (zset_ne (by omega)).trans h6, (zset_ne (by omega)).trans h7, zset_eq h8⟩
end IRH
/-! all but the rows and the two objects -/
def iRest (h : zH) (ac sz tr : Nat) (th dg : Int32) (m : Nat → Nat) : Prop := iT h sz ∧ iN h th dg m ∧ iA h ac ∧ iI h ∧ iC h tr ∧ iS h ∧ iX h ∧ iL h
theorem iRest.keep {h h' : zH} {ac sz tr : Nat} {th dg : Int32} {m : Nat → Nat} (Q : iRest h ac sz tr th dg m) (F : ∀ j, 13 ≤ j → (j < 241 ∨ 244 < j) → h'[j]? = h[j]?) : iRest h' ac sz tr th dg m := by
  obtain ⟨T, N, A, Im, C, S, X, L⟩ := Q
  exact ⟨T.keep (fun j _ => F j (by omega) (by omega)), N.keep (fun j _ => F j (by omega) (by omega)), A.keep (fun j _ => F j (by omega) (by omega)), Im.keep (fun j _ => F j (by omega) (by omega)), C.keep (fun j _ => F j (by omega) (by omega)), S.keep (fun j _ => F j (by omega) (by omega)), X.keep (fun j _ => F j (by omega) (by omega)), L.keep (fun j _ => F j (by omega) (by omega))⟩
theorem INV.un {h : zH} (I : INV h) : ∃ (fa st : Int32) (ac sz tr : Nat) (th dg : Int32) (m : Nat → Nat), iO h fa st ∧ iP h fa st (nI ac) (nI sz) (nI tr) ∧ iR h ∧ iRest h ac sz tr th dg m := by
  obtain ⟨fa, st, ac, sz, tr, th, dg, m, O, P, R, Q⟩ := I
  exact ⟨fa, st, ac, sz, tr, th, dg, m, O, P, R, Q⟩
theorem iRest.inv {h : zH} {fa st : Int32} {ac sz tr : Nat} {th dg : Int32} {m : Nat → Nat} (Q : iRest h ac sz tr th dg m) (O : iO h fa st) (P : iP h fa st (nI ac) (nI sz) (nI tr)) (R : iR h) : INV h := ⟨fa, st, ac, sz, tr, th, dg, m, O, P, R, Q⟩
section FINE
variable {h : zH} {fa st ac sz tr : Int32}
theorem c_found (O : iO h fa st) (n : Int32) : ∃ h', f_X7_found 0 n h = some ((-1000010 : Int32) - n, h') ∧ iO h' fa n ∧ ∀ j, j ≠ 0 → h'[j]? = h[j]? := by
  obtain ⟨e, e1, O'⟩ := O.p10 n
  unfold f_X7_found
  rw [e1, Option.bind_some]
  exact ⟨_, rfl, O', fun j hj => zset_ne hj⟩
theorem c_fine (O : iO h fa st) (n : Int32) : ∃ h', f_X7_fine 0 n h = some (n, h') ∧ iO h' fa 0 ∧ ∀ j, j ≠ 0 → h'[j]? = h[j]? := by
  obtain ⟨e, e1, O'⟩ := O.p10 0
  unfold f_X7_fine
  rw [e1, Option.bind_some]
  exact ⟨_, rfl, O', fun j hj => zset_ne hj⟩
theorem r_found (P : iP h fa st ac sz tr) (n : Int32) : ∃ h', f_X8_found 241 n h = some ((-1000010 : Int32) - n, h') ∧ iP h' fa n ac sz tr ∧ ∀ j, j ≠ 241 → h'[j]? = h[j]? := by
  obtain ⟨e, e1, O'⟩ := P.p3 n
  unfold f_X8_found
  rw [e1, Option.bind_some]
  exact ⟨_, rfl, O', fun j hj => zset_ne hj⟩
theorem r_well (P : iP h fa st ac sz tr) (n : Int32) : ∃ h', f_X8_well 241 n h = some (n, h') ∧ iP h' fa 0 ac sz tr ∧ ∀ j, j ≠ 241 → h'[j]? = h[j]? := by
  obtain ⟨e, e1, O'⟩ := P.p3 0
  unfold f_X8_well
  rw [e1, Option.bind_some]
  exact ⟨_, rfl, O', fun j hj => zset_ne hj⟩
end FINE
theorem c_isRow {h : zH} (a : Int32) : f_X7_isRow a h = some (zb (∃ r : Nat, r < 8 ∧ a = nI r)) := by
  have key := zthing (a := a) (N := 8) (by omega)
  unfold f_X7_isRow
  by_cases h1 : a < 0
  · rw [if_pos h1, zb_f (fun q => (key.mpr q).1 h1)]; rfl
  · rw [if_neg h1, z8]
    by_cases h2 : nI 8 ≤ a
    · rw [if_pos h2, zb_f (fun q => (key.mpr q).2 h2)]; rfl
    · rw [if_neg h2, zb_t (key.mp ⟨h1, h2⟩)]; rfl
theorem r_below {h : zH} (a : Int32) {N : Nat} (hN : N < 1000000) : f_X8_in (Int32.toInt64 a) (0 : Int64) (Int32.toInt64 (nI N - 1)) h = some (zb (∃ r : Nat, r < N ∧ a = nI r)) := by
  rw [show (0 : Int64) = Int32.toInt64 0 from rfl, r_in]
  congr 1
  apply zb_c
  rw [zpred hN]
  exact zthing (by omega)
theorem r_isRow {h : zH} (a : Int32) : f_X8_isRow a h = some (zb (∃ r : Nat, r < 8 ∧ a = nI r)) := by
  unfold f_X8_isRow
  rw [show (7 : Int64) = Int32.toInt64 (nI 8 - 1) from rfl, r_below _ (by omega), Option.bind_some, zb_B]
/-- the found and well of both sides, after the rows have become what they are -/
theorem both_found {h : zH} (I : INV h) (n : Int32) : ∃ h1 h2, f_X7_found 0 n h = some ((-1000010 : Int32) - n, h1) ∧ f_X8_found 241 n h1 = some ((-1000010 : Int32) - n, h2) ∧ INV h2 ∧ ∀ j, j ≠ 0 → h1[j]? = h[j]? := by
  obtain ⟨fa, st, ac, sz, tr, th, dg, m, O, P, R, Q⟩ := I.un
  obtain ⟨h1, e1, O1, F1⟩ := c_found O n
  obtain ⟨h2, e2, P2, F2⟩ := r_found (P.keep (F1 _ (by omega))) n
  have F : ∀ j, j ≠ 0 → j ≠ 241 → h2[j]? = h[j]? := fun j a b => (F2 j b).trans (F1 j a)
  exact ⟨h1, h2, e1, e2, (Q.keep (fun j _ _ => F j (by omega) (by omega))).inv (O1.keep (F2 _ (by omega))) P2 (R.keep (fun j _ => F j (by omega) (by omega))), F1⟩
theorem both_well {h : zH} (I : INV h) (n : Int32) : ∃ h1 h2, f_X7_fine 0 n h = some (n, h1) ∧ f_X8_well 241 n h1 = some (n, h2) ∧ INV h2 ∧ ∀ j, j ≠ 0 → h1[j]? = h[j]? := by
  obtain ⟨fa, st, ac, sz, tr, th, dg, m, O, P, R, Q⟩ := I.un
  obtain ⟨h1, e1, O1, F1⟩ := c_fine O n
  obtain ⟨h2, e2, P2, F2⟩ := r_well (P.keep (F1 _ (by omega))) n
  have F : ∀ j, j ≠ 0 → j ≠ 241 → h2[j]? = h[j]? := fun j a b => (F2 j b).trans (F1 j a)
  exact ⟨h1, h2, e1, e2, (Q.keep (fun j _ _ => F j (by omega) (by omega))).inv (O1.keep (F2 _ (by omega))) P2 (R.keep (fun j _ => F j (by omega) (by omega))), F1⟩
/-! row -/
theorem c_make_b17 {la le ro ls ss : Nat → Int32} {r N : Nat} (hr : r < 8) (hN : N ≤ 40) : ∀ (k i n : Nat) (h : zH) (it : Nat → Nat → Int32), i + k = N → k < n → iRh h it la le ro ls ss → (∀ x, x < i → it r x = 0) → ∃ h' it', f_X4_makeAnew_b17 n 1 (nI r) (nI N) (nI i) h = some h' ∧ iRh h' it' la le ro ls ss ∧ (∀ x, x < N → it' r x = 0) ∧ (∀ y, y ≠ r → it' y = it y) ∧ ∀ j, j ≠ 3 + r → h'[j]? = h[j]? := by
  intro k
  induction k with
  | zero =>
    intro i n h it hi hn H hz
    obtain ⟨n, rfl⟩ : ∃ x, n = x + 1 := ⟨n - 1, by omega⟩
    rw [e_X4_makeAnew_b17, if_pos (nI_le (by omega) (by omega))]
    exact ⟨h, it, rfl, H, by rw [show N = i by omega]; exact hz, fun _ _ => rfl, fun _ _ => rfl⟩
  | succ k ih =>
    intro i n h it hi hn H hz
    obtain ⟨n, rfl⟩ : ∃ x, n = x + 1 := ⟨n - 1, by omega⟩
    obtain ⟨e, e1, H1⟩ := H.s3 hr (i := i) (by omega) 0
    rw [e_X4_makeAnew_b17, if_neg (nI_ge (by omega) (by omega)), H.r0, Option.bind_some, H.lr hr, Option.bind_some, e1, Option.bind_some, nI_1]
    obtain ⟨h', it', e2, H2, z2, y2, F2⟩ := ih (i + 1) n _ _ (by omega) (by omega) H1 (fun x hx => by
      unfold up2
      rw [if_pos rfl]
      unfold upd
      split
      · rfl
      · exact hz x (by omega))
    refine ⟨h', it', e2, H2, z2, fun y hy => (y2 y hy).trans ?_, fun j hj => (F2 j hj).trans (zset_ne hj)⟩
    unfold up2
    rw [if_neg hy]
theorem r_row_b55 {it : Nat → Nat → Int32} {la le ls ss : Nat → Int32} {fa st ac sz tr : Int32} {r : Nat} (hr : r < 8) (a3 : Int32) : ∀ (k i n : Nat) (h : zH) (ro : Nat → Int32), i + k = 40 → k < n → iRh h it la le ro ls ss → iP h fa st ac sz tr → (∀ x, x < i → ro (40 * r + x) = 0) → ∃ h' ro', f_X8_row_b55 n 241 (nI r) a3 (nI i) h = f_X8_row_b55 1 241 (nI r) a3 (nI 40) h' ∧ iRh h' it la le ro' ls ss ∧ iP h' fa st ac sz tr ∧ (∀ x, x < 40 → ro' (40 * r + x) = 0) ∧ (∀ y x, y ≠ r → x < 40 → ro' (40 * y + x) = ro (40 * y + x)) ∧ ∀ j, j ≠ 244 → h'[j]? = h[j]? := by
  intro k
  induction k with
  | zero =>
    intro i n h ro hi hn H P hz
    obtain ⟨n, rfl⟩ : ∃ x, n = x + 1 := ⟨n - 1, by omega⟩
    refine ⟨h, ro, ?_, H, P, fun x hx => hz x (by omega), fun _ _ _ _ => rfl, fun _ _ => rfl⟩
    rw [e_X8_row_b55, e_X8_row_b55, z40, if_pos (nI_le (by omega) (by omega)), if_pos (nI_le (by omega) (by omega))]
  | succ k ih =>
    intro i n h ro hi hn H P hz
    obtain ⟨n, rfl⟩ : ∃ x, n = x + 1 := ⟨n - 1, by omega⟩
    obtain ⟨e, e1, H1⟩ := H.s244 (i := 40 * r + i) (by omega) 0
    obtain ⟨h', ro', e2, H2, P2, z2, y2, F2⟩ := ih (i + 1) n _ _ (by omega) (by omega) H1 (P.keep (zset_ne (by omega))) (fun x hx => by
      unfold upd
      split
      · rfl
      · exact hz x (by omega))
    refine ⟨h', ro', ?_, H2, P2, z2, fun y x hy hx => (y2 y x hy hx).trans (upd_n (by omega)), fun j hj => (F2 j hj).trans (zset_ne hj)⟩
    rw [e_X8_row_b55, z40, if_neg (nI_ge (by omega) (by omega)), P.r2, Option.bind_some, pk_mul, nI_add, e1, Option.bind_some, nI_1, ← z40]
    exact e2
theorem M_row {h : zH} (I : INV h) (a b c : Int32) : zBoth (f_X7_row 0 a b c) (f_X8_row 241 a b c) h := by
  obtain ⟨fa, st, ac, sz, tr, th, dg, m, O, P, R, Q⟩ := I.un
  have kb : (¬ b < 0 ∧ ¬ (3 : Int32) ≤ b) ↔ ∃ l : Nat, l < 3 ∧ b = nI l := zthing (N := 3) (by omega)
  have k2 : f_X8_in (Int32.toInt64 b) (0 : Int64) (2 : Int64) = fun h => some (zb (∃ l : Nat, l < 3 ∧ b = nI l)) := by
    funext h
    exact r_below (N := 3) b (by omega)
  by_cases c1 : ∃ r : Nat, r < 8 ∧ a = nI r
  · by_cases c2 : ∃ l : Nat, l < 3 ∧ b = nI l
    · have c2' := kb.mpr c2
      by_cases c3 : c ≤ 40
      · by_cases c4 : 0 ≤ c
        · have c1' := c1
          obtain ⟨r, hr, ra⟩ := c1'
          obtain ⟨N, hN, rc⟩ : ∃ N, N ≤ 40 ∧ c = nI N := by
            rcases zcase c with q | ⟨N, hN, rfl⟩
            · exact absurd q (Int32.not_lt.mpr c4)
            · exact ⟨N, (nI_leI hN (by omega)).mp c3, rfl⟩
          obtain ⟨it, la, le, ro, ls, ss, H, rel⟩ := R.un
          obtain ⟨e1, s1, H1⟩ := H.s11 hr b
          obtain ⟨e2, s2, H2⟩ := H1.s12 hr c
          obtain ⟨h3, it3, s3, H3, z3, y3, F3⟩ := c_make_b17 hr hN N 0 zF _ _ (by omega) (by show N < 5000; omega) H2 (fun x hx => by omega)
          have O3 : iO h3 fa st := O.keep ((F3 _ (by omega)).trans ((zset_ne (by omega)).trans (zset_ne (by omega))))
          obtain ⟨h4, s4, O4, F4⟩ := c_fine O3 c
          have F04 : ∀ j, 13 ≤ j → h4[j]? = h[j]? := fun j hj => (F4 j (by omega)).trans ((F3 j (by omega)).trans ((zset_ne (by omega)).trans (zset_ne (by omega))))
          have H4 := H3.keep (h' := h4) (fun j hj => F4 j (by omega))
          have P4 := P.keep (h' := h4) (F04 _ (by omega))
          obtain ⟨e5, s5, H5⟩ := H4.s242 hr b
          obtain ⟨e6, s6, H6⟩ := H5.s243 hr c
          have P5 : iP (h4.set 242 e5) fa st (nI ac) (nI sz) (nI tr) := P4.keep (zset_ne (by omega))
          have P6 : iP ((h4.set 242 e5).set 243 e6) fa st (nI ac) (nI sz) (nI tr) := P5.keep (zset_ne (by omega))
          obtain ⟨h7, ro7, s7, H7, P7, z7, y7, F7⟩ := r_row_b55 hr c 40 0 zF _ _ (by omega) (by show 40 < 5000; omega) H6 P6 (fun x hx => by omega)
          obtain ⟨h8, s8, P8, F8⟩ := r_well P7 c
          have F48 : ∀ j, (j < 241 ∨ 244 < j) → h8[j]? = h4[j]? := fun j hj => (F8 j (by omega)).trans ((F7 j (by omega)).trans ((zset_ne (by omega)).trans (zset_ne (by omega))))
          refine zBoth.mk c (h1 := h4) (h2 := h8) ?_ ?_ ?_
          · unfold f_X7_row f_X4_makeAnew
            rw [c_isRow, Option.bind_some, if_neg (zb_n c1), if_neg c2'.1, if_neg c2'.2, if_pos c3, if_pos c4, O.r0, Option.bind_some, H.k, Option.bind_some, H.r1, Option.bind_some, ra, s1, Option.bind_some, H1.r2, Option.bind_some, s2, Option.bind_some]
            rw [show (0 : Int32) = nI 0 from rfl]
            have s3' := s3
            rw [← rc] at s3'
            rw [s3', Option.bind_some, O3.k, Option.bind_some, s4, Option.bind_some]
          · unfold f_X8_row
            rw [r_isRow, Option.bind_some, if_neg (zb_n c1), k2]
            dsimp only
            rw [Option.bind_some, if_neg (zb_n c2), if_pos c3, if_pos c4, P4.r0, Option.bind_some, ra, s5, Option.bind_some, P5.r1, Option.bind_some, s6, Option.bind_some, show (0 : Int32) = nI 0 from rfl]
            refine s7.trans ?_
            rw [e_X8_row_b55, z40, if_pos (nI_le (by omega) (by omega)), P7.k, Option.bind_some, s8, Option.bind_some]
          · refine (Q.keep (h' := h8) (fun j h1 h2 => (F48 j h2).trans (F04 j h1))).inv (O4.keep (F48 _ (by omega))) P8 ((H7.keep (h' := h8) (fun j hj => F8 j (by omega))).mk ?_)
            intro y hy
            by_cases cy : y = r
            · subst cy
              refine ⟨by rw [upd_s, upd_s], by rw [upd_s, upd_s], Or.inr ⟨N, hN, by rw [upd_s]; exact rc, fun i hi => ?_⟩⟩
              rw [z3 i hi, z7 i (by omega)]
            · obtain ⟨q1, q2, q3⟩ := rel y hy
              refine ⟨by rw [upd_n cy, upd_n cy]; exact q1, by rw [upd_n cy, upd_n cy]; exact q2, ?_⟩
              rw [upd_n cy]
              rcases q3 with q3 | ⟨n, hn, q4, q5⟩
              · exact Or.inl q3
              · exact Or.inr ⟨n, hn, q4, fun i hi => by rw [y3 y cy, y7 y i cy (by omega)]; exact q5 i hi⟩
        · obtain ⟨h1, h2, s1, s2, I2, F1⟩ := both_found I 4
          have P1 := P.keep (F1 241 (by omega))
          refine zBoth.mk ((-1000010 : Int32) - 4) (h1 := h1) (h2 := h2) ?_ ?_ I2
          · unfold f_X7_row
            rw [c_isRow, Option.bind_some, if_neg (zb_n c1), if_neg c2'.1, if_neg c2'.2, if_pos c3, if_neg c4, O.k, Option.bind_some, s1, Option.bind_some]
          · unfold f_X8_row
            rw [r_isRow, Option.bind_some, if_neg (zb_n c1), k2]
            dsimp only
            rw [Option.bind_some, if_neg (zb_n c2), if_pos c3, if_neg c4, P1.k, Option.bind_some, s2, Option.bind_some]
      · refine zBoth.same (v := (-1000001 : Int32)) I ?_ ?_
        · unfold f_X7_row
          rw [c_isRow, Option.bind_some, if_neg (zb_n c1), if_neg c2'.1, if_neg c2'.2, if_neg c3]
        · unfold f_X8_row
          rw [r_isRow, Option.bind_some, if_neg (zb_n c1), k2]
          dsimp only
          rw [Option.bind_some, if_neg (zb_n c2), if_neg c3]
    · refine zBoth.same (v := (-1000001 : Int32)) I ?_ ?_
      · unfold f_X7_row
        rw [c_isRow, Option.bind_some, if_neg (zb_n c1)]
        by_cases q : b < 0
        · rw [if_pos q]
        · rw [if_neg q, if_pos (Classical.byContradiction fun z => c2 (kb.mp ⟨q, z⟩))]
      · unfold f_X8_row
        rw [r_isRow, Option.bind_some, if_neg (zb_n c1), k2]
        dsimp only
        rw [Option.bind_some, if_pos (zb_f c2)]
  · refine zBoth.same (v := (-1000001 : Int32)) I ?_ ?_
    · unfold f_X7_row
      rw [c_isRow, Option.bind_some, if_pos (zb_f c1)]
    · unfold f_X8_row
      rw [r_isRow, Option.bind_some, if_pos (zb_f c1)]
