/-! PURE: how a mine is read from the tape: in numbers, and by the class -/
def sDig (w : Nat → Nat) (k p : Nat) : Bool := decide (p < k) && decide (48 ≤ w p) && decide (w p ≤ 57)
def sRng (l u v q : Nat) : Nat ⊕ (Nat × Nat) := if l ≤ v ∧ v ≤ u then .inr (v, q) else .inl 2
/-- a number: what is wrong, or its value and the next place -/
def sNum (w : Nat → Nat) (k p l u : Nat) : Nat ⊕ (Nat × Nat) :=
  if sDig w k p = true then (if sDig w k (p + 1) = true then (if sDig w k (p + 2) = true then .inl 1 else sRng l u (10 * (w p - 48) + (w (p + 1) - 48)) (p + 2)) else sRng l u (w p - 48) (p + 1)) else .inl 1
def sIs (w : Nat → Nat) (k p c : Nat) : Bool := decide (p < k) && decide (w p = c)
/-- a number and the sign behind it: what is wrong and where, or its value and the next place -/
def sField (w : Nat → Nat) (k p l u c : Nat) : (Nat × Nat) ⊕ (Nat × Nat) := match sNum w k p l u with
  | .inl e => .inl (e, p)
  | .inr x => if sIs w k x.2 c = true then .inr (x.1, x.2 + 1) else .inl (1, x.2)
/-- the class's: value, place, fault -/
def cN (w : Nat → Nat) (k : Nat) (s : Nat × Nat) (l u : Nat) : Nat × Nat × Nat := if s.2 = 0 then (match sNum w k s.1 l u with
  | .inl e => (l, s.1, e)
  | .inr x => (x.1, x.2, 0)) else (l, s.1, s.2)
def cP (w : Nat → Nat) (k : Nat) (s : Nat × Nat) (c : Nat) : Nat × Nat := if s.2 = 0 then (if sIs w k s.1 c = true then (s.1 + 1, 0) else (s.1, 1)) else s
def cF (w : Nat → Nat) (k : Nat) (s : Nat × Nat) (l u c : Nat) : Nat × Nat × Nat := ((cN w k s l u).1, cP w k (cN w k s l u).2 c)
theorem sNum_e {w : Nat → Nat} {k p l u e : Nat} (h : sNum w k p l u = .inl e) : 1 ≤ e ∧ e ≤ 2 := by
  unfold sNum sRng at h
  split at h
  · split at h
    · split at h
      · cases h; omega
      · split at h
        · cases h
        · cases h; omega
    · split at h
      · cases h
      · cases h; omega
  · cases h; omega
theorem sNum_v {w : Nat → Nat} {k p l u : Nat} {x : Nat × Nat} (h : sNum w k p l u = .inr x) : l ≤ x.1 ∧ x.1 ≤ u ∧ x.2 ≤ k ∧ p < x.2 := by
  unfold sNum sRng at h
  split at h
  · rename_i d0
    unfold sDig at d0
    have d0' : p < k := by simp at d0; omega
    split at h
    · rename_i d1
      unfold sDig at d1
      have d1' : p + 1 < k := by simp at d1; omega
      split at h
      · cases h
      · split at h
        · cases h
          rename_i q
          exact ⟨q.1, q.2, by show p + 2 ≤ k; omega, by show p < p + 2; omega⟩
        · cases h
    · split at h
      · cases h
        rename_i q
        exact ⟨q.1, q.2, by show p + 1 ≤ k; omega, by show p < p + 1; omega⟩
      · cases h
  · cases h
theorem cN_v {w : Nat → Nat} {k : Nat} {s : Nat × Nat} {l u : Nat} (hl : l ≤ u) (hs : s.1 ≤ k) (h3 : s.2 ≤ 3) : l ≤ (cN w k s l u).1 ∧ (cN w k s l u).1 ≤ u ∧ (cN w k s l u).2.1 ≤ k ∧ (cN w k s l u).2.2 ≤ 3 := by
  unfold cN
  split
  · cases hq : sNum w k s.1 l u with
    | inl e =>
      have := sNum_e hq
      exact ⟨Nat.le_refl _, hl, hs, by show e ≤ 3; omega⟩
    | inr x =>
      have := sNum_v hq
      exact ⟨this.1, this.2.1, this.2.2.1, by show 0 ≤ 3; omega⟩
  · exact ⟨Nat.le_refl _, hl, hs, h3⟩
theorem cP_v {w : Nat → Nat} {k : Nat} {s : Nat × Nat} {c : Nat} (hs : s.1 ≤ k) (h3 : s.2 ≤ 3) : (cP w k s c).1 ≤ k ∧ (cP w k s c).2 ≤ 3 := by
  unfold cP
  split
  · split
    · rename_i q
      unfold sIs at q
      have : s.1 < k := by simp at q; exact q.1
      exact ⟨by show s.1 + 1 ≤ k; omega, by show 0 ≤ 3; omega⟩
    · exact ⟨hs, by show 1 ≤ 3; omega⟩
  · exact ⟨hs, h3⟩
/-- the class's field and the reference's -/
theorem cF_0 {w : Nat → Nat} {k p l u c : Nat} : cF w k (p, 0) l u c = (match sField w k p l u c with
  | .inl x => ((cF w k (p, 0) l u c).1, x.2, x.1)
  | .inr x => (x.1, x.2, 0)) := by
  unfold cF cN sField
  dsimp only
  rw [if_pos rfl]
  cases hq : sNum w k p l u with
  | inl e =>
    have he := sNum_e hq
    dsimp only
    unfold cP
    dsimp only
    rw [if_neg (show ¬ e = 0 by omega)]
  | inr x =>
    dsimp only
    unfold cP
    dsimp only
    rw [if_pos rfl]
    by_cases c1 : sIs w k x.2 c = true
    · rw [if_pos c1, if_pos c1]
    · rw [if_neg c1, if_neg c1]
theorem cF_f {w : Nat → Nat} {k : Nat} {s : Nat × Nat} {l u c : Nat} (h : s.2 ≠ 0) : (cF w k s l u c).2 = s := by
  unfold cF cN cP
  rw [if_neg h]
  dsimp only
  rw [if_neg h]
/-- the tape, the place, the fault -/
def tX (w : Nat → Nat) (k : Nat) (h : zH) (s : Nat × Nat) : Prop := (∃ g : Nat → Int32, h[13]? = some (.inr (6, [.ref 14, .int (nI k), .int (nI s.1), .int (nI s.2)])) ∧ h[14]? = some (.inl (0, 100, .inl g)) ∧ ∀ i, i < k → g i = nI (w i)) ∧ k ≤ 100 ∧ (∀ i, i < k → w i ≤ 255) ∧ s.1 ≤ k ∧ s.2 ≤ 3
section PARSE
variable {w : Nat → Nat} {k : Nat} {h : zH} {s : Nat × Nat}
theorem tX.keep {h' : zH} (X : tX w k h s) (e : ∀ j, j = 13 ∨ j = 14 → h'[j]? = h[j]?) : tX w k h' s := by
  obtain ⟨⟨g, h1, h2, h3⟩, r⟩ := X
  exact ⟨⟨g, (e _ (by omega)).trans h1, (e _ (by omega)).trans h2, h3⟩, r⟩
theorem tX.k6 (X : tX w k h s) : zK h 13 6 = some () := by
  obtain ⟨⟨g, h1, h2, h3⟩, r⟩ := X
  exact zK_of h1
theorem tX.i1 (X : tX w k h s) : zI h 13 6 1 = some (nI k) := by
  obtain ⟨⟨g, h1, h2, h3⟩, r⟩ := X
  exact zI_of h1 rfl
theorem tX.i2 (X : tX w k h s) : zI h 13 6 2 = some (nI s.1) := by
  obtain ⟨⟨g, h1, h2, h3⟩, r⟩ := X
  exact zI_of h1 rfl
theorem tX.i3 (X : tX w k h s) : zI h 13 6 3 = some (nI s.2) := by
  obtain ⟨⟨g, h1, h2, h3⟩, r⟩ := X
  exact zI_of h1 rfl
theorem tX.p2 (X : tX w k h s) {p : Nat} (hp : p ≤ k) : ∃ e, zP h 13 6 2 (.int (nI p)) = some (h.set 13 e) ∧ tX w k (h.set 13 e) (p, s.2) := by
  obtain ⟨⟨g, h1, h2, h3⟩, r1, r2, r3, r4⟩ := X
  exact ⟨_, zP_of h1 (by simp), ⟨g, zset_eq h1, (zset_ne (by omega)).trans h2, h3⟩, r1, r2, hp, r4⟩
theorem tX.p3 (X : tX w k h s) {f : Nat} (hf : f ≤ 3) : ∃ e, zP h 13 6 3 (.int (nI f)) = some (h.set 13 e) ∧ tX w k (h.set 13 e) (s.1, f) := by
  obtain ⟨⟨g, h1, h2, h3⟩, r1, r2, r3, r4⟩ := X
  exact ⟨_, zP_of h1 (by simp), ⟨g, zset_eq h1, (zset_ne (by omega)).trans h2, h3⟩, r1, r2, r3, hf⟩
def sBy (w : Nat → Nat) (k q : Nat) : Int32 := if q < k then nI (w q) else -1
theorem c_byte (X : tX w k h s) {q : Nat} (hq : q < 1000) : f_X6_byteAt 13 (nI q) h = some (sBy w k q) := by
  obtain ⟨⟨g, h1, h2, h3⟩, r1, r2, r3, r4⟩ := X
  unfold f_X6_byteAt sBy
  rw [if_neg (Int32.not_lt.mpr (nI_pos' (by omega))), zI_of h1 rfl, Option.bind_some]
  by_cases c : q < k
  · rw [if_neg (nI_ge c (by omega)), if_neg (show ¬ (100 : Int32) ≤ nI q from nI_ge (b := 100) (by omega) (by omega)), zR_of h1 rfl, Option.bind_some, zL_of h2 (by omega) (by omega), Option.bind_some, if_pos c, h3 q c]
  · rw [if_pos (nI_le (by omega) (by omega)), if_neg c]
theorem c_next (X : tX w k h s) : f_X6_next 13 h = some (sBy w k s.1) := by
  unfold f_X6_next
  rw [X.i2, Option.bind_some, X.k6, Option.bind_some, c_byte X (by have := X.2.1; have := X.2.2.2.1; omega), Option.bind_some]
theorem c_fig (X : tX w k h s) (q : Nat) : f_X6_isFigure 13 (sBy w k q) h = some (zb (sDig w k q = true)) := by
  have h255 := X.2.2.1
  unfold f_X6_isFigure sBy sDig
  by_cases c : q < k
  · have hw := h255 q c
    rw [if_pos c]
    by_cases c1 : w q < 48
    · rw [if_pos (show nI (w q) < (48 : Int32) from nI_lt (b := 48) c1 (by omega)), zb_f (by simp; omega)]; rfl
    · rw [if_neg (show ¬ nI (w q) < (48 : Int32) from nI_nlt (b := 48) (by omega) (by omega))]
      by_cases c2 : 57 < w q
      · rw [if_pos (show (57 : Int32) < nI (w q) from nI_lt (a := 57) c2 (by omega)), zb_f (by simp; omega)]; rfl
      · rw [if_neg (show ¬ (57 : Int32) < nI (w q) from nI_nlt (a := 57) (by omega) (by omega)), zb_t (by simp; omega)]; rfl
  · rw [if_neg c, if_pos (by decide), zb_f (by simp; omega)]; rfl
theorem c_fail (X : tX w k h s) {e : Nat} (h0 : s.2 = 0) (he : e ≤ 3) : ∃ h', f_X6_fail 13 (nI e) h = some h' ∧ tX w k h' (s.1, e) ∧ ∀ j, j ≠ 13 → h'[j]? = h[j]? := by
  obtain ⟨x, e1, X1⟩ := X.p3 he
  unfold f_X6_fail
  rw [X.i3, Option.bind_some, if_pos (by rw [h0]; rfl), e1, Option.bind_some]
  exact ⟨_, rfl, X1, fun j hj => zset_ne hj⟩
theorem c_sign (X : tX w k h s) {c : Nat} (hc : c < 1000) : ∃ h', f_X6_pass 13 (nI c) h = some h' ∧ tX w k h' (cP w k s c) ∧ ∀ j, j ≠ 13 → h'[j]? = h[j]? := by
  have h255 := X.2.2.1
  have hk := X.2.1
  unfold f_X6_pass cP
  rw [X.i3, Option.bind_some]
  by_cases h0 : s.2 = 0
  · rw [if_pos (show nI s.2 = 0 by rw [h0]; rfl), X.k6, Option.bind_some, c_next X, Option.bind_some, if_pos h0]
    unfold sIs sBy
    by_cases c1 : s.1 < k
    · have hw := h255 _ c1
      rw [if_pos c1]
      by_cases c2 : w s.1 = c
      · obtain ⟨x, e1, X1⟩ := X.p2 (p := s.1 + 1) (by omega)
        rw [h0] at X1
        rw [if_pos (by rw [c2]), X.i2, Option.bind_some, nI_1, e1, Option.bind_some, if_pos (by simp [c1, c2])]
        exact ⟨_, rfl, X1, fun j hj => zset_ne hj⟩
      · obtain ⟨h', e1, X1, F1⟩ := c_fail X (e := 1) h0 (by omega)
        rw [if_neg (zne c2 (by omega) (by omega)), Option.bind_some, z1, e1, Option.bind_some, if_neg (by simp [c2])]
        exact ⟨_, rfl, X1, F1⟩
    · obtain ⟨h', e1, X1, F1⟩ := c_fail X (e := 1) h0 (by omega)
      rw [if_neg c1, if_neg (fun q => znn (show c < 2147483648 by omega) q.symm), Option.bind_some, z1, e1, Option.bind_some, if_neg (by simp [c1])]
      exact ⟨_, rfl, X1, F1⟩
  · have h3 := X.2.2.2.2
    rw [if_neg (show ¬ nI s.2 = 0 by rw [znz (by omega)]; exact h0), if_neg h0]
    exact ⟨h, rfl, X, fun _ _ => rfl⟩
theorem c_b72 (X : tX w k h s) (h0 : s.2 = 0) {l u f v : Nat} (hl : l < 1000) (hu : u < 1000) (hv : v < 10000) (hf : f ≤ 3) (hp : f = 1 ∨ f = 2 → s.1 + f ≤ k) : ∃ h', f_X6_number_b72 13 (nI l) (nI u) (nI f) (nI v) h = some (nI (match (if f = 1 ∨ f = 2 then sRng l u v (s.1 + f) else .inl 1) with | .inl _ => l | .inr x => x.1), h') ∧ tX w k h' (match (if f = 1 ∨ f = 2 then sRng l u v (s.1 + f) else .inl 1) with | .inl e => (s.1, e) | .inr x => (x.2, 0)) ∧ ∀ j, j ≠ 13 → h'[j]? = h[j]? := by
  unfold f_X6_number_b72 f_X6_number_b82 f_X6_number_b101
  rw [X.k6]
  simp only [Option.bind_some]
  obtain ⟨g1, e1, X1, F1⟩ := c_fail X (e := 1) h0 (by omega)
  obtain ⟨g2, e2, X2, F2⟩ := c_fail X (e := 2) h0 (by omega)
  rw [z1, z2, e1, e2]
  simp only [Option.bind_some]
  by_cases c1 : f = 1 ∨ f = 2
  · rw [if_neg (nI_nlt (by omega) (by omega)), if_pos (nI_le (by omega) (by omega)), if_pos c1]
    unfold sRng
    by_cases c2 : l ≤ v ∧ v ≤ u
    · obtain ⟨x, e3, X3⟩ := X.p2 (p := s.1 + f) (hp c1)
      rw [h0] at X3
      rw [if_neg (nI_nlt (by omega) (by omega)), if_pos (nI_le c2.2 (by omega)), if_pos c2, X.i2, Option.bind_some, nI_add, e3, Option.bind_some]
      exact ⟨_, rfl, X3, fun j hj => zset_ne hj⟩
    · rw [if_neg c2]
      by_cases c3 : v < l
      · rw [if_pos (nI_lt c3 (by omega))]
        exact ⟨_, rfl, X2, F2⟩
      · rw [if_neg (nI_nlt (by omega) (by omega)), if_neg (nI_ge (by omega) (by omega))]
        exact ⟨_, rfl, X2, F2⟩
  · rw [if_neg c1]
    by_cases c2 : f < 1
    · rw [if_pos (nI_lt c2 (by omega))]
      exact ⟨_, rfl, X1, F1⟩
    · rw [if_neg (nI_nlt (by omega) (by omega)), if_neg (nI_ge (by omega) (by omega))]
      exact ⟨_, rfl, X1, F1⟩
theorem sDig_v {q : Nat} (d : sDig w k q = true) : q < k ∧ 48 ≤ w q ∧ w q ≤ 57 := by
  unfold sDig at d
  simp at d
  omega
theorem c_num (X : tX w k h s) {l u : Nat} (hl : l < 1000) (hu : u < 1000) : ∃ h', f_X6_number 13 (nI l) (nI u) h = some (nI (cN w k s l u).1, h') ∧ tX w k h' (cN w k s l u).2 ∧ ∀ j, j ≠ 13 → h'[j]? = h[j]? := by
  have hk := X.2.1
  have hsk := X.2.2.2.1
  unfold f_X6_number cN
  rw [X.i3, Option.bind_some]
  by_cases h0 : s.2 = 0
  · rw [if_pos (show nI s.2 = 0 by rw [h0]; rfl), if_pos h0]
    have key : ∀ (f v q : Nat), f ≤ 3 → v < 10000 → (f = 1 ∨ f = 2 → s.1 + f ≤ k) → (if f = 1 ∨ f = 2 then sRng l u v (s.1 + f) else .inl 1) = sNum w k s.1 l u → ∃ h', f_X6_number_b72 13 (nI l) (nI u) (nI f) (nI v) h = some (nI (match sNum w k s.1 l u with
        | .inl e => (l, s.1, e)
        | .inr x => (x.1, x.2, 0)).1, h') ∧ tX w k h' (match sNum w k s.1 l u with
        | .inl e => (l, s.1, e)
        | .inr x => (x.1, x.2, 0)).2 ∧ ∀ j, j ≠ 13 → h'[j]? = h[j]? := by
      intro f v q hf hv hp he
      obtain ⟨h', e1, X1, F1⟩ := c_b72 X h0 (l := l) (u := u) (f := f) (v := v) hl hu hv hf hp
      rw [he] at e1 X1
      refine ⟨h', ?_, ?_, F1⟩
      · rw [e1]
        cases sNum w k s.1 l u <;> rfl
      · cases hq : sNum w k s.1 l u with
        | inl e => rw [hq] at X1; exact X1
        | inr x => rw [hq] at X1; exact X1
    unfold zF
    rw [e_X6_number_b17, if_neg (by decide), X.i2, Option.bind_some, X.k6, Option.bind_some, show nI s.1 + (0 : Int32) = nI s.1 from Int32.add_zero _, c_byte X (by omega), Option.bind_some, Option.bind_some, c_fig X, Option.bind_some]
    by_cases d0 : sDig w k s.1 = true
    · have d0' := sDig_v d0
      have b0 : sBy w k s.1 = nI (w s.1) := if_pos d0'.1
      rw [if_neg (zb_n d0), Option.bind_some, Option.bind_some, show nI s.1 + (0 : Int32) = nI s.1 from Int32.add_zero _, c_byte X (by omega), Option.bind_some, zLet_eq, b0, show ((((10 : Int32) * 0) + nI (w s.1)) - (48 : Int32)) = nI (w s.1 - 48) by rw [show (10 : Int32) * 0 = nI 0 from rfl, nI_add, Nat.zero_add, show (48 : Int32) = nI 48 from rfl, pk_sub d0'.2.1], show (0 : Int32) + (1 : Int32) = nI 1 from rfl]
      rw [e_X6_number_b17, if_neg (show ¬ (3 : Int32) ≤ nI 1 by decide), X.i2, Option.bind_some, X.k6, Option.bind_some, nI_add, c_byte X (by omega), Option.bind_some, Option.bind_some, c_fig X, Option.bind_some]
      by_cases d1 : sDig w k (s.1 + 1) = true
      · have d1' := sDig_v d1
        have b1 : sBy w k (s.1 + 1) = nI (w (s.1 + 1)) := if_pos d1'.1
        rw [if_neg (zb_n d1), Option.bind_some, Option.bind_some, nI_add, c_byte X (by omega), Option.bind_some, zLet_eq, b1, show ((((10 : Int32) * nI (w s.1 - 48)) + nI (w (s.1 + 1))) - (48 : Int32)) = nI (10 * (w s.1 - 48) + (w (s.1 + 1) - 48)) by rw [z10, pk_mul, nI_add, show (48 : Int32) = nI 48 from rfl, pk_sub (by omega), Nat.add_sub_assoc d1'.2.1], show nI 1 + (1 : Int32) = nI 2 from rfl]
        rw [e_X6_number_b17, if_neg (show ¬ (3 : Int32) ≤ nI 2 by decide), X.i2, Option.bind_some, X.k6, Option.bind_some, nI_add, c_byte X (by omega), Option.bind_some, Option.bind_some, c_fig X, Option.bind_some]
        by_cases d2 : sDig w k (s.1 + 2) = true
        · have d2' := sDig_v d2
          have b2 : sBy w k (s.1 + 2) = nI (w (s.1 + 2)) := if_pos d2'.1
          rw [if_neg (zb_n d2), Option.bind_some, Option.bind_some, nI_add, c_byte X (by omega), Option.bind_some, zLet_eq, b2, show ((((10 : Int32) * nI (10 * (w s.1 - 48) + (w (s.1 + 1) - 48))) + nI (w (s.1 + 2))) - (48 : Int32)) = nI (10 * (10 * (w s.1 - 48) + (w (s.1 + 1) - 48)) + (w (s.1 + 2) - 48)) by rw [z10, pk_mul, nI_add, show (48 : Int32) = nI 48 from rfl, pk_sub (by omega), Nat.add_sub_assoc d2'.2.1], show nI 2 + (1 : Int32) = nI 3 from rfl]
          rw [e_X6_number_b17, if_pos (show (3 : Int32) ≤ nI 3 by decide)]
          exact key 3 _ 0 (by omega) (by omega) (by omega) (by rw [if_neg (by omega)]; unfold sNum; rw [if_pos d0, if_pos d1, if_pos d2])
        · rw [if_pos (zb_f d2)]
          exact key 2 _ 0 (by omega) (by omega) (by omega) (by rw [if_pos (by omega)]; unfold sNum; rw [if_pos d0, if_pos d1, if_neg d2])
      · rw [if_pos (zb_f d1)]
        exact key 1 _ 0 (by omega) (by omega) (by omega) (by rw [if_pos (by omega)]; unfold sNum; rw [if_pos d0, if_neg d1])
    · rw [if_pos (zb_f d0)]
      exact key 0 0 0 (by omega) (by omega) (by omega) (by rw [if_neg (by omega)]; unfold sNum; rw [if_neg d0])
  · have h3 := X.2.2.2.2
    rw [if_neg (show ¬ nI s.2 = 0 by rw [znz (by omega)]; exact h0), if_neg h0]
    exact ⟨h, rfl, X, fun _ _ => rfl⟩
end PARSE
