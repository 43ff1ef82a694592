/-! PURE: mine, both -/
def cL1 (w : Nat → Nat) (k : Nat) : Nat × Nat × Nat := cF w k (cP w k (0, 0) 109) 0 9 44
def cL2 (w : Nat → Nat) (k : Nat) : Nat × Nat × Nat := cF w k (cL1 w k).2 1 6 59
def cMu (w : Nat → Nat) (k : Nat) : Nat → Nat := fun j => if j = 1 then (cL1 w k).1 else if j = 2 then (cL2 w k).1 else 0
def cRd (w : Nat → Nat) (k : Nat) : (Nat × Nat) × (Nat → Nat) := cL w k 100 (cL2 w k).2 (cMu w k)
theorem cL_f {w : Nat → Nat} {k : Nat} {s : Nat × Nat} {u : Nat → Nat} (h : s.2 ≠ 0) : ∀ n, cL w k n s u = (s, u) := by
  intro n
  cases n with
  | zero => rfl
  | succ n => rw [cL, if_neg h]
theorem cL_keep {w : Nat → Nat} {k : Nat} : ∀ (n : Nat) (s : Nat × Nat) (u : Nat → Nat), (cL w k n s u).2 2 = u 2 ∧ (cL w k n s u).2 28 = u 28 := by
  intro n
  induction n with
  | zero => exact fun _ _ => ⟨rfl, rfl⟩
  | succ n ih =>
    intro s u
    rw [cL]
    split
    · split
      · have e := ih (cT w k s.1 u).1 (cT w k s.1 u).2
        rw [e.1, e.2]
        unfold cT
        split
        · exact ⟨rfl, rfl⟩
        · split
          · rename_i c
            constructor <;> (dsimp only; unfold sExt; rw [if_neg (by omega), if_neg (by omega), if_neg (by omega), if_neg (by omega), if_neg (by omega), if_neg (by omega)])
          · exact ⟨rfl, rfl⟩
      · exact ⟨rfl, rfl⟩
    · exact ⟨rfl, rfl⟩
theorem cMu_v (w : Nat → Nat) (k : Nat) : vM (cMu w k) ∧ 1 ≤ cMu w k 2 ∧ (cL2 w k).2.1 ≤ k ∧ (cL2 w k).2.2 ≤ 3 := by
  have p0 := cP_v (w := w) (k := k) (s := (0, 0)) (c := 109) (Nat.zero_le k) (by show (0 : Nat) ≤ 3; omega)
  have h1 := cF_v (w := w) (k := k) (s := cP w k (0, 0) 109) (l := 0) (u := 9) (c := 44) (by omega) p0.1 p0.2
  have h2 := cF_v (w := w) (k := k) (s := (cL1 w k).2) (l := 1) (u := 6) (c := 59) (by omega) h1.2.2.1 h1.2.2.2
  refine ⟨⟨Nat.zero_le _, h1.2.1, h2.2.1, Nat.zero_le _, fun t ht => ?_⟩, h2.1, h2.2.2.1, h2.2.2.2⟩
  have : cMu w k 0 = 0 := rfl
  omega
/-- the draft at the outset -/
def zDr (h : zH) (a2 a3 : Int32) : Prop := h[22]? = some (.inr (3, [.int 1, .int (nI 0), .int a2, .int a3, .int (nI 0), .int 0, .ref 23, .ref 24, .ref 25, .ref 26, .ref 27, .ref 28])) ∧ ∀ j, 1 ≤ j → j ≤ 6 → ∃ f, h[22 + j]? = some (.inl (0, 5, .inl f))
section MINE
variable {w : Nat → Nat} {k : Nat}
theorem zDr.keep {h h' : zH} {a2 a3 : Int32} (D : zDr h a2 a3) (e : ∀ j, 22 ≤ j ∧ j ≤ 28 → h'[j]? = h[j]?) : zDr h' a2 a3 := by
  obtain ⟨h1, h2⟩ := D
  refine ⟨(e _ (by omega)).trans h1, fun j a b => ?_⟩
  obtain ⟨f, hf⟩ := h2 j a b
  exact ⟨f, (e _ (by omega)).trans hf⟩
theorem zDr.set {h : zH} {a2 a3 b2 b3 : Int32} (D : zDr h a2 a3) : zDr (h.set 22 (.inr (3, [.int 1, .int (nI 0), .int b2, .int b3, .int (nI 0), .int 0, .ref 23, .ref 24, .ref 25, .ref 26, .ref 27, .ref 28]))) b2 b3 := by
  obtain ⟨h1, h2⟩ := D
  refine ⟨zset_eq h1, fun j a b => ?_⟩
  obtain ⟨f, hf⟩ := h2 j a b
  exact ⟨f, (zset_ne (by omega)).trans hf⟩
theorem c_law {h : zH} {a2 a3 : Int32} (X : tX w k h (0, 0)) (D : zDr h a2 a3) : ∃ h', f_X6_readLaw 13 22 h = some h' ∧ tX w k h' (cL2 w k).2 ∧ zMi h' 22 1 0 (cMu w k) ∧ ∀ j, j ≠ 13 → j ≠ 22 → h'[j]? = h[j]? := by
  obtain ⟨h1, e1, X1, F1⟩ := c_sign X (c := 109) (by omega)
  obtain ⟨h2, e2, X2, F2⟩ := c_num X1 (l := 0) (u := 9) (by omega) (by omega)
  have D2 : zDr h2 a2 a3 := D.keep (fun j hj => (F2 j (by omega)).trans (F1 j (by omega)))
  have p3 : zP h2 22 3 3 (.int (nI (cL1 w k).1)) = some (h2.set 22 (.inr (3, [.int 1, .int (nI 0), .int a2, .int (nI (cL1 w k).1), .int (nI 0), .int 0, .ref 23, .ref 24, .ref 25, .ref 26, .ref 27, .ref 28]))) := zP_of D2.1 (by simp)
  have D3 := D2.set (b2 := a2) (b3 := nI (cL1 w k).1)
  have F3 : ∀ j, j ≠ 22 → (h2.set 22 (.inr (3, [.int 1, .int (nI 0), .int a2, .int (nI (cL1 w k).1), .int (nI 0), .int 0, .ref 23, .ref 24, .ref 25, .ref 26, .ref 27, .ref 28])) : zH)[j]? = h2[j]? := fun j hj => zset_ne hj
  generalize (h2.set 22 (.inr (3, [.int 1, .int (nI 0), .int a2, .int (nI (cL1 w k).1), .int (nI 0), .int 0, .ref 23, .ref 24, .ref 25, .ref 26, .ref 27, .ref 28])) : zH) = h3 at p3 D3 F3
  have X3 := X2.keep (h' := h3) (fun j hj => F3 j (by omega))
  obtain ⟨h4, e4, X4, F4⟩ := c_sign X3 (c := 44) (by omega)
  have X4 : tX w k h4 (cL1 w k).2 := X4
  obtain ⟨h5, e5, X5, F5⟩ := c_num X4 (l := 1) (u := 6) (by omega) (by omega)
  have D5 := D3.keep (h' := h5) (fun j hj => (F5 j (by omega)).trans (F4 j (by omega)))
  have p6 : zP h5 22 3 2 (.int (nI (cL2 w k).1)) = some (h5.set 22 (.inr (3, [.int 1, .int (nI 0), .int (nI (cL2 w k).1), .int (nI (cL1 w k).1), .int (nI 0), .int 0, .ref 23, .ref 24, .ref 25, .ref 26, .ref 27, .ref 28]))) := zP_of D5.1 (by simp)
  have D6 := D5.set (b2 := nI (cL2 w k).1) (b3 := nI (cL1 w k).1)
  have F6 : ∀ j, j ≠ 22 → (h5.set 22 (.inr (3, [.int 1, .int (nI 0), .int (nI (cL2 w k).1), .int (nI (cL1 w k).1), .int (nI 0), .int 0, .ref 23, .ref 24, .ref 25, .ref 26, .ref 27, .ref 28])) : zH)[j]? = h5[j]? := fun j hj => zset_ne hj
  generalize (h5.set 22 (.inr (3, [.int 1, .int (nI 0), .int (nI (cL2 w k).1), .int (nI (cL1 w k).1), .int (nI 0), .int 0, .ref 23, .ref 24, .ref 25, .ref 26, .ref 27, .ref 28])) : zH) = h6 at p6 D6 F6
  have X6 := X5.keep (h' := h6) (fun j hj => F6 j (by omega))
  obtain ⟨h7, e7, X7, F7⟩ := c_sign X6 (c := 59) (by omega)
  have D7 := D6.keep (h' := h7) (fun j hj => F7 j (by omega))
  refine ⟨h7, ?_, X7, ?_, fun j a b => (F7 j a).trans ((F6 j b).trans ((F5 j a).trans ((F4 j a).trans ((F3 j b).trans ((F2 j a).trans (F1 j a))))))⟩
  · unfold f_X6_readLaw
    have e1' : f_X6_pass 13 (109 : Int32) h = some h1 := e1
    have e2' : f_X6_number 13 (0 : Int32) (9 : Int32) h1 = some (nI (cL1 w k).1, h2) := e2
    have e4' : f_X6_pass 13 (44 : Int32) h3 = some h4 := e4
    have e5' : f_X6_number 13 (1 : Int32) (6 : Int32) h4 = some (nI (cL2 w k).1, h5) := e5
    have e7' : f_X6_pass 13 (59 : Int32) h6 = some h7 := e7
    rw [X.k6, Option.bind_some, e1', Option.bind_some, X1.k6, Option.bind_some, e2', Option.bind_some]
    dsimp only
    rw [p3, Option.bind_some, X3.k6, Option.bind_some, e4', Option.bind_some, X4.k6, Option.bind_some, e5', Option.bind_some]
    dsimp only
    rw [p6, Option.bind_some, X6.k6, Option.bind_some, e7', Option.bind_some]
  · obtain ⟨d0, d1⟩ := D7
    have z0' : cMu w k 0 = 0 := rfl
    have ar : ∀ j (g : Nat → Nat), 1 ≤ j → j ≤ 6 → zAr h7 (22 + j) 0 g := by
      intro j g a b
      obtain ⟨f, hf⟩ := d1 j a b
      exact ⟨f, hf, fun t ht => by omega⟩
    unfold zMi
    rw [z0']
    exact ⟨d0, ar 1 _ (by omega) (by omega), ar 2 _ (by omega) (by omega), ar 3 _ (by omega) (by omega), ar 4 _ (by omega) (by omega), ar 5 _ (by omega) (by omega), ar 6 _ (by omega) (by omega)⟩
theorem c_readInto {h : zH} {a1 a2 : Int32} {g : Nat → Int32} (hk : k ≤ 100) (hw : ∀ i, i < k → w i ≤ 255 ∧ g i = nI (w i)) (h13 : h[13]? = some (.inr (6, [.ref 14, .int (nI k), .int a1, .int a2]))) (h14 : h[14]? = some (.inl (0, 100, .inl g))) (Sh : zSh h 22) : ∃ h', f_X6_readInto 13 22 h = some (nI (cRd w k).1.2, h') ∧ tX w k h' (cRd w k).1 ∧ zMi h' 22 1 0 (cRd w k).2 ∧ vM (cRd w k).2 ∧ ∀ j, j ≠ 13 → (j < 22 ∨ 28 < j) → h'[j]? = h[j]? := by
  have p1 : zP h 13 6 2 (.int (0 : Int32)) = some (h.set 13 (.inr (6, [.ref 14, .int (nI k), .int 0, .int a2]))) := zP_of h13 (by simp)
  have w1 := zset_eq (e := .inr (6, [.ref 14, .int (nI k), .int 0, .int a2])) h13
  have G1 : ∀ j, j ≠ 13 → (h.set 13 (.inr (6, [.ref 14, .int (nI k), .int 0, .int a2])) : zH)[j]? = h[j]? := fun j hj => zset_ne hj
  generalize (h.set 13 (.inr (6, [.ref 14, .int (nI k), .int 0, .int a2])) : zH) = h1 at p1 w1 G1
  have p2 : zP h1 13 6 3 (.int (0 : Int32)) = some (h1.set 13 (.inr (6, [.ref 14, .int (nI k), .int 0, .int 0]))) := zP_of w1 (by simp)
  have w2 := zset_eq (e := .inr (6, [.ref 14, .int (nI k), .int 0, .int 0])) w1
  have G2 : ∀ j, j ≠ 13 → (h1.set 13 (.inr (6, [.ref 14, .int (nI k), .int 0, .int 0])) : zH)[j]? = h1[j]? := fun j hj => zset_ne hj
  generalize (h1.set 13 (.inr (6, [.ref 14, .int (nI k), .int 0, .int 0])) : zH) = h2 at p2 w2 G2
  obtain ⟨⟨b0, b1, b2, b3, b4, b5, o⟩, rows⟩ := Sh
  have o2 := (G2 22 (by omega)).trans ((G1 22 (by omega)).trans o)
  have p3 : zP h2 22 3 0 (.int (1 : Int32)) = some (h2.set 22 (.inr (3, [.int 1, .int b1, .int b2, .int b3, .int b4, .int b5, .ref (22 + 1), .ref (22 + 2), .ref (22 + 3), .ref (22 + 4), .ref (22 + 5), .ref (22 + 6)]))) := zP_of o2 (by simp)
  have o3 := zset_eq (e := .inr (3, [.int 1, .int b1, .int b2, .int b3, .int b4, .int b5, .ref (22 + 1), .ref (22 + 2), .ref (22 + 3), .ref (22 + 4), .ref (22 + 5), .ref (22 + 6)])) o2
  have G3 : ∀ j, j ≠ 22 → (h2.set 22 (.inr (3, [.int 1, .int b1, .int b2, .int b3, .int b4, .int b5, .ref (22 + 1), .ref (22 + 2), .ref (22 + 3), .ref (22 + 4), .ref (22 + 5), .ref (22 + 6)])) : zH)[j]? = h2[j]? := fun j hj => zset_ne hj
  generalize (h2.set 22 (.inr (3, [.int 1, .int b1, .int b2, .int b3, .int b4, .int b5, .ref (22 + 1), .ref (22 + 2), .ref (22 + 3), .ref (22 + 4), .ref (22 + 5), .ref (22 + 6)])) : zH) = h3 at p3 o3 G3
  have p4 : zP h3 22 3 1 (.int (0 : Int32)) = some (h3.set 22 (.inr (3, [.int 1, .int 0, .int b2, .int b3, .int b4, .int b5, .ref (22 + 1), .ref (22 + 2), .ref (22 + 3), .ref (22 + 4), .ref (22 + 5), .ref (22 + 6)]))) := zP_of o3 (by simp)
  have o4 := zset_eq (e := .inr (3, [.int 1, .int 0, .int b2, .int b3, .int b4, .int b5, .ref (22 + 1), .ref (22 + 2), .ref (22 + 3), .ref (22 + 4), .ref (22 + 5), .ref (22 + 6)])) o3
  have G4 : ∀ j, j ≠ 22 → (h3.set 22 (.inr (3, [.int 1, .int 0, .int b2, .int b3, .int b4, .int b5, .ref (22 + 1), .ref (22 + 2), .ref (22 + 3), .ref (22 + 4), .ref (22 + 5), .ref (22 + 6)])) : zH)[j]? = h3[j]? := fun j hj => zset_ne hj
  generalize (h3.set 22 (.inr (3, [.int 1, .int 0, .int b2, .int b3, .int b4, .int b5, .ref (22 + 1), .ref (22 + 2), .ref (22 + 3), .ref (22 + 4), .ref (22 + 5), .ref (22 + 6)])) : zH) = h4 at p4 o4 G4
  have p5 : zP h4 22 3 4 (.int (0 : Int32)) = some (h4.set 22 (.inr (3, [.int 1, .int 0, .int b2, .int b3, .int 0, .int b5, .ref (22 + 1), .ref (22 + 2), .ref (22 + 3), .ref (22 + 4), .ref (22 + 5), .ref (22 + 6)]))) := zP_of o4 (by simp)
  have o5 := zset_eq (e := .inr (3, [.int 1, .int 0, .int b2, .int b3, .int 0, .int b5, .ref (22 + 1), .ref (22 + 2), .ref (22 + 3), .ref (22 + 4), .ref (22 + 5), .ref (22 + 6)])) o4
  have G5 : ∀ j, j ≠ 22 → (h4.set 22 (.inr (3, [.int 1, .int 0, .int b2, .int b3, .int 0, .int b5, .ref (22 + 1), .ref (22 + 2), .ref (22 + 3), .ref (22 + 4), .ref (22 + 5), .ref (22 + 6)])) : zH)[j]? = h4[j]? := fun j hj => zset_ne hj
  generalize (h4.set 22 (.inr (3, [.int 1, .int 0, .int b2, .int b3, .int 0, .int b5, .ref (22 + 1), .ref (22 + 2), .ref (22 + 3), .ref (22 + 4), .ref (22 + 5), .ref (22 + 6)])) : zH) = h5 at p5 o5 G5
  have p6 : zP h5 22 3 5 (.int (0 : Int32)) = some (h5.set 22 (.inr (3, [.int 1, .int 0, .int b2, .int b3, .int 0, .int 0, .ref (22 + 1), .ref (22 + 2), .ref (22 + 3), .ref (22 + 4), .ref (22 + 5), .ref (22 + 6)]))) := zP_of o5 (by simp)
  have o6 := zset_eq (e := .inr (3, [.int 1, .int 0, .int b2, .int b3, .int 0, .int 0, .ref (22 + 1), .ref (22 + 2), .ref (22 + 3), .ref (22 + 4), .ref (22 + 5), .ref (22 + 6)])) o5
  have G6 : ∀ j, j ≠ 22 → (h5.set 22 (.inr (3, [.int 1, .int 0, .int b2, .int b3, .int 0, .int 0, .ref (22 + 1), .ref (22 + 2), .ref (22 + 3), .ref (22 + 4), .ref (22 + 5), .ref (22 + 6)])) : zH)[j]? = h5[j]? := fun j hj => zset_ne hj
  generalize (h5.set 22 (.inr (3, [.int 1, .int 0, .int b2, .int b3, .int 0, .int 0, .ref (22 + 1), .ref (22 + 2), .ref (22 + 3), .ref (22 + 4), .ref (22 + 5), .ref (22 + 6)])) : zH) = h6 at p6 o6 G6
  have G26 : ∀ j, j ≠ 22 → h6[j]? = h2[j]? := fun j hj => (G6 j hj).trans ((G5 j hj).trans ((G4 j hj).trans (G3 j hj)))
  have G06 : ∀ j, j ≠ 13 → j ≠ 22 → h6[j]? = h[j]? := fun j a b => (G26 j b).trans ((G2 j a).trans (G1 j a))
  have X6 : tX w k h6 (0, 0) := ⟨⟨g, (G26 _ (by omega)).trans w2, (G06 _ (by omega) (by omega)).trans h14, fun i hi => (hw i hi).2⟩, hk, fun i hi => (hw i hi).1, Nat.zero_le _, by show (0 : Nat) ≤ 3; omega⟩
  have D6 : zDr h6 b2 b3 := ⟨o6, fun j a b => by
    obtain ⟨f, hf⟩ := rows j a b
    exact ⟨f, (G06 _ (by omega) (by omega)).trans hf⟩⟩
  obtain ⟨h7, e7, X7, H7, F7⟩ := c_law X6 D6
  have mv := cMu_v w k
  obtain ⟨h8, e8, X8, H8, v8, F8⟩ := c_into_b37 100 0 zF h7 _ _ (by omega) (by show 100 < 5000; omega) X7 H7 mv.1
  have e8' : f_X6_readInto_b37 zF 13 22 (0 : Int32) h7 = some (nI (cRd w k).1.2, h8) := e8
  refine ⟨h8, ?_, X8, H8, v8, fun j a b => (F8 j a b).trans ((F7 j a (by omega)).trans (G06 j a (by omega)))⟩
  unfold f_X6_readInto
  rw [p1, Option.bind_some, p2, Option.bind_some, zB1, Option.bind_some, p3, Option.bind_some, p4, Option.bind_some, p5, Option.bind_some, p6, Option.bind_some, X6.k6, Option.bind_some, e7, Option.bind_some, e8']
end MINE
