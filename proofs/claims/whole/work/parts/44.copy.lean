/-! PURE: a mine becomes as another one -/
theorem zI_set {h : zH} {p r ci k : Nat} {e : zE} (hp : r ≠ p) : zI (h.set p e) r ci k = zI h r ci k := by
  unfold zI
  rw [zset_ne hp]
theorem zR_set {h : zH} {p r ci k : Nat} {e : zE} (hp : r ≠ p) : zR (h.set p e) r ci k = zR h r ci k := by
  unfold zR
  rw [zset_ne hp]
theorem zK_set {h : zH} {p r ci : Nat} {e : zE} (hp : r ≠ p) : zK (h.set p e) r ci = zK h r ci := by
  unfold zK
  rw [zset_ne hp]
/-- outside of the n cells from r on nothing has changed -/
def zFr (h h' : zH) (r n : Nat) : Prop := ∀ j, (j < r ∨ r + n ≤ j) → h'[j]? = h[j]?
theorem zFr.rf {h : zH} {r n : Nat} : zFr h h r n := fun _ _ => rfl
theorem zFr.tr {h h1 h2 : zH} {r n : Nat} (a : zFr h h1 r n) (b : zFr h1 h2 r n) : zFr h h2 r n := fun j hj => (b j hj).trans (a j hj)
theorem zFr.set {h : zH} {r n p : Nat} {e : zE} (h1 : r ≤ p) (h2 : p < r + n) : zFr h (h.set p e) r n := fun j hj => zset_ne (by omega)
theorem zFr.wd {h h' : zH} {r n r2 n2 : Nat} (a : zFr h h' r n) (h1 : r2 ≤ r) (h2 : r + n ≤ r2 + n2) : zFr h h' r2 n2 := fun j hj => a j (by omega)
/-- what a mine of the class is made of, whatever it holds -/
def zSh (h : zH) (r : Nat) : Prop := (∃ a0 a1 a2 a3 a4 a5 : Int32, h[r]? = some (.inr (3, [.int a0, .int a1, .int a2, .int a3, .int a4, .int a5, .ref (r + 1), .ref (r + 2), .ref (r + 3), .ref (r + 4), .ref (r + 5), .ref (r + 6)]))) ∧ ∀ k, 1 ≤ k → k ≤ 6 → ∃ f, h[r + k]? = some (.inl (0, 5, .inl f))
theorem zMi.sh {h : zH} {r : Nat} {th dg : Int32} {m : Nat → Nat} (H : zMi h r th dg m) : zSh h r := by
  obtain ⟨h0, ⟨f1, e1, -⟩, ⟨f2, e2, -⟩, ⟨f3, e3, -⟩, ⟨f4, e4, -⟩, ⟨f5, e5, -⟩, ⟨f6, e6, -⟩⟩ := H
  refine ⟨⟨_, _, _, _, _, _, h0⟩, fun k h1 h2 => ?_⟩
  rcases (show k = 1 ∨ k = 2 ∨ k = 3 ∨ k = 4 ∨ k = 5 ∨ k = 6 by omega) with rfl | rfl | rfl | rfl | rfl | rfl
  · exact ⟨_, e1⟩
  · exact ⟨_, e2⟩
  · exact ⟨_, e3⟩
  · exact ⟨_, e4⟩
  · exact ⟨_, e5⟩
  · exact ⟨_, e6⟩
theorem zSh.keep {h h' : zH} {r : Nat} (H : zSh h r) (e : ∀ k, r ≤ k → k < r + 7 → h'[k]? = h[k]?) : zSh h' r := by
  obtain ⟨⟨a0, a1, a2, a3, a4, a5, h0⟩, h1⟩ := H
  refine ⟨⟨a0, a1, a2, a3, a4, a5, by rw [e r (by omega) (by omega)]; exact h0⟩, fun k k1 k2 => ?_⟩
  obtain ⟨f, hf⟩ := h1 k k1 k2
  exact ⟨f, by rw [e _ (by omega) (by omega)]; exact hf⟩
theorem zSh.k {h : zH} {r : Nat} (H : zSh h r) : zK h r 3 = some () := by
  obtain ⟨⟨a0, a1, a2, a3, a4, a5, h0⟩, -⟩ := H
  exact zK_of h0
/-- while rows are copied -/
def zPB (h : zH) (r o : Nat) (F G : Nat → Nat → Int32) : Prop := ∀ k, 1 ≤ k → k ≤ 5 → zR h r 3 (5 + k) = some (r + k) ∧ zR h o 3 (5 + k) = some (o + k) ∧ h[r + k]? = some (.inl (0, 5, .inl (F k))) ∧ h[o + k]? = some (.inl (0, 5, .inl (G k)))
theorem zPB.step {h : zH} {r o : Nat} {F G : Nat → Nat → Int32} (P : zPB h r o F G) (hd : o + 7 ≤ r ∨ r + 7 ≤ o) {k i : Nat} (h1 : 1 ≤ k) (h2 : k ≤ 5) (hi : i < 5) {α : Type} (K : zH → Option α) :
    ((zR h r 3 (5 + k)).bind fun v1 => (zR h o 3 (5 + k)).bind fun v2 => (zL h 0 v2 (nI i)).bind fun v3 => (zS h 0 v1 (nI i) v3).bind K) = K (h.set (r + k) (.inl (0, 5, .inl (upd (F k) i (G k i))))) ∧ zPB (h.set (r + k) (.inl (0, 5, .inl (upd (F k) i (G k i))))) r o (fun j => if j = k then upd (F k) i (G k i) else F j) G := by
  obtain ⟨a, b, c, d⟩ := P k h1 h2
  refine ⟨?_, fun j j1 j2 => ?_⟩
  · rw [a, Option.bind_some, b, Option.bind_some, zL_of d hi (by omega), Option.bind_some, zS_of c hi (by omega), Option.bind_some]
  · obtain ⟨a', b', c', d'⟩ := P j j1 j2
    refine ⟨by rw [zR_set (by omega)]; exact a', by rw [zR_set (by omega)]; exact b', ?_, by rw [zset_ne (by omega)]; exact d'⟩
    by_cases e : j = k
    · subst e
      dsimp only
      rw [if_pos rfl, zset_eq c]
    · dsimp only
      rw [if_neg e, zset_ne (by omega)]
      exact c'
theorem c_become_b50 {r o : Nat} {G : Nat → Nat → Int32} (hd : o + 7 ≤ r ∨ r + 7 ≤ o) : ∀ (k i n : Nat) (h : zH) (F : Nat → Nat → Int32), i + k = 5 → k < n → zPB h r o F G → (∀ j, 1 ≤ j → j ≤ 5 → ∀ t, t < i → F j t = G j t) → ∃ h', f_X3_become_b50 n r o (nI i) h = some h' ∧ (∃ F', zPB h' r o F' G ∧ ∀ j, 1 ≤ j → j ≤ 5 → ∀ t, t < 5 → F' j t = G j t) ∧ ∀ j, (j ≤ r ∨ r + 6 ≤ j) → h'[j]? = h[j]? := by
  intro k
  induction k with
  | zero =>
    intro i n h F hi hn P hF
    obtain ⟨n, rfl⟩ : ∃ x, n = x + 1 := ⟨n - 1, by omega⟩
    rw [e_X3_become_b50, z5, if_pos (nI_le (by omega) (by omega))]
    exact ⟨h, rfl, ⟨F, P, by rw [show i = 5 by omega] at hF; exact hF⟩, fun _ _ => rfl⟩
  | succ k ih =>
    intro i n h F hi hn P hF
    obtain ⟨n, rfl⟩ : ∃ x, n = x + 1 := ⟨n - 1, by omega⟩
    rw [e_X3_become_b50, z5, if_neg (nI_ge (by omega) (by omega)), nI_1]
    have i5 : i < 5 := by omega
    have s1 := P.step hd (k := 1) (by omega) (by omega) i5 (α := zH)
    generalize hH1 : h.set (r + 1) (.inl (0, 5, .inl (upd (F 1) i (G 1 i)))) = H1 at s1
    have P1 := (s1 (fun _ => none)).2
    have s2 := P1.step hd (k := 2) (by omega) (by omega) i5 (α := zH)
    generalize hH2 : H1.set (r + 2) _ = H2 at s2
    have P2 := (s2 (fun _ => none)).2
    have s3 := P2.step hd (k := 3) (by omega) (by omega) i5 (α := zH)
    generalize hH3 : H2.set (r + 3) _ = H3 at s3
    have P3 := (s3 (fun _ => none)).2
    have s4 := P3.step hd (k := 4) (by omega) (by omega) i5 (α := zH)
    generalize hH4 : H3.set (r + 4) _ = H4 at s4
    have P4 := (s4 (fun _ => none)).2
    have s5 := P4.step hd (k := 5) (by omega) (by omega) i5 (α := zH)
    generalize hH5 : H4.set (r + 5) _ = H5 at s5
    have P5 := (s5 (fun _ => none)).2
    obtain ⟨h', e, hP', hk⟩ := ih (i + 1) n H5 _ (by omega) (by omega) P5 (by
      intro j j1 j2 t ht
      rcases (show j = 1 ∨ j = 2 ∨ j = 3 ∨ j = 4 ∨ j = 5 by omega) with rfl | rfl | rfl | rfl | rfl <;>
        (simp only [upd, Nat.reduceEqDiff, if_true, if_false, ite_true, ite_false, reduceIte]
         by_cases ti : t = i
         · simp [ti]
         · simp [ti]
           exact hF _ (by omega) (by omega) t (by omega)))
    refine ⟨h', ?_, hP', fun j hj => ?_⟩
    · refine (s1 _).1.trans ((s2 _).1.trans ((s3 _).1.trans ((s4 _).1.trans ((s5 _).1.trans e))))
    · rw [hk j hj, ← hH5, zset_ne (by omega), ← hH4, zset_ne (by omega), ← hH3, zset_ne (by omega), ← hH2, zset_ne (by omega), ← hH1, zset_ne (by omega)]
theorem c_become {h : zH} {r o : Nat} {th dg : Int32} {m : Nat → Nat} (H : zMi h o th dg m) (h5 : m 0 ≤ 5) (hth : th = 0 ∨ th = 1) (S : zSh h r) (hd : o + 7 ≤ r ∨ r + 7 ≤ o) : ∃ h', f_X3_become r o h = some h' ∧ zMi h' r th dg m ∧ zFr h h' r 7 := by
  obtain ⟨⟨a0, a1, a2, a3, a4, a5, h0⟩, hs⟩ := S
  have hB : zB th = some th := by rcases hth with rfl | rfl <;> rfl
  have ne : o ≠ r := by omega
  unfold f_X3_become
  rw [H.f0, Option.bind_some, hB, Option.bind_some, zP_of h0 (by simp), Option.bind_some, zI_set ne, H.f1, Option.bind_some, zP_of (zset_eq h0) (by simp), Option.bind_some, List.set_set, zI_set ne, H.f2, Option.bind_some, zP_of (zset_eq h0) (by simp), Option.bind_some, List.set_set, zI_set ne, H.f3, Option.bind_some, zP_of (zset_eq h0) (by simp), Option.bind_some, List.set_set, zI_set ne, H.f4, Option.bind_some, zP_of (zset_eq h0) (by simp), Option.bind_some, List.set_set, zI_set ne, H.f5, Option.bind_some, zP_of (zset_eq h0) (by simp), Option.bind_some, List.set_set]
  simp only [List.set_cons_zero, List.set_cons_succ]
  generalize hH1 : h.set r _ = H1
  have e0 : H1[r]? = some (.inr (3, [.int th, .int (nI (m 0)), .int (nI (m 2)), .int (nI (m 1)), .int (nI (m 28)), .int dg, .ref (r + 1), .ref (r + 2), .ref (r + 3), .ref (r + 4), .ref (r + 5), .ref (r + 6)])) := by rw [← hH1]; exact zset_eq h0
  have k1 : ∀ j, j ≠ r → H1[j]? = h[j]? := fun j hj => by rw [← hH1]; exact zset_ne hj
  obtain ⟨hO, ⟨g1, G1, q1⟩, ⟨g2, G2, q2⟩, ⟨g3, G3, q3⟩, ⟨g4, G4, q4⟩, ⟨g5, G5, q5⟩, -⟩ := H
  obtain ⟨f1, F1⟩ := hs 1 (by omega) (by omega)
  obtain ⟨f2, F2⟩ := hs 2 (by omega) (by omega)
  obtain ⟨f3, F3⟩ := hs 3 (by omega) (by omega)
  obtain ⟨f4, F4⟩ := hs 4 (by omega) (by omega)
  obtain ⟨f5, F5⟩ := hs 5 (by omega) (by omega)
  obtain ⟨f6, F6⟩ := hs 6 (by omega) (by omega)
  have P : zPB H1 r o (fun k => match k with | 1 => f1 | 2 => f2 | 3 => f3 | 4 => f4 | _ => f5) (fun k => match k with | 1 => g1 | 2 => g2 | 3 => g3 | 4 => g4 | _ => g5) := by
    intro k h1 h2
    rcases (show k = 1 ∨ k = 2 ∨ k = 3 ∨ k = 4 ∨ k = 5 by omega) with rfl | rfl | rfl | rfl | rfl
    · exact ⟨zR_of e0 rfl, zR_of ((k1 o ne).trans hO) rfl, (k1 _ (by omega)).trans F1, (k1 _ (by omega)).trans G1⟩
    · exact ⟨zR_of e0 rfl, zR_of ((k1 o ne).trans hO) rfl, (k1 _ (by omega)).trans F2, (k1 _ (by omega)).trans G2⟩
    · exact ⟨zR_of e0 rfl, zR_of ((k1 o ne).trans hO) rfl, (k1 _ (by omega)).trans F3, (k1 _ (by omega)).trans G3⟩
    · exact ⟨zR_of e0 rfl, zR_of ((k1 o ne).trans hO) rfl, (k1 _ (by omega)).trans F4, (k1 _ (by omega)).trans G4⟩
    · exact ⟨zR_of e0 rfl, zR_of ((k1 o ne).trans hO) rfl, (k1 _ (by omega)).trans F5, (k1 _ (by omega)).trans G5⟩
  obtain ⟨h', e, ⟨F', P', hF'⟩, hk⟩ := c_become_b50 hd 5 0 zF H1 _ (by omega) (by show 5 < 5000; omega) P (fun j _ _ t ht => by omega)
  refine ⟨h', e, ⟨(hk r (by omega)).trans e0, ?_, ?_, ?_, ?_, ?_, ⟨f6, (hk _ (by omega)).trans ((k1 _ (by omega)).trans F6), fun t ht => by omega⟩⟩, fun j hj => (hk j (by omega)).trans (k1 j (by omega))⟩
  · exact ⟨_, (P' 1 (by omega) (by omega)).2.2.1, fun t ht => (hF' 1 (by omega) (by omega) t (by omega)).trans (q1 t ht)⟩
  · exact ⟨_, (P' 2 (by omega) (by omega)).2.2.1, fun t ht => (hF' 2 (by omega) (by omega) t (by omega)).trans (q2 t ht)⟩
  · exact ⟨_, (P' 3 (by omega) (by omega)).2.2.1, fun t ht => (hF' 3 (by omega) (by omega) t (by omega)).trans (q3 t ht)⟩
  · exact ⟨_, (P' 4 (by omega) (by omega)).2.2.1, fun t ht => (hF' 4 (by omega) (by omega) t (by omega)).trans (q4 t ht)⟩
  · exact ⟨_, (P' 5 (by omega) (by omega)).2.2.1, fun t ht => (hF' 5 (by omega) (by omega) t (by omega)).trans (q5 t ht)⟩
/-! the reference: thirty numbers from one row to another -/
def zcp30 (f : Nat → Int32) (i : Nat) (g : Nat → Int32) (j k : Nat) : Nat → Int32 := fun x => if j ≤ x ∧ x < j + k then f (i + (x - j)) else g x
theorem r_copies_b3 {a b i j n0 n1 : Nat} {f : Nat → Int32} (hab : a ≠ b) (h0 : i + 30 ≤ n0) (h1 : j + 30 ≤ n1) (b0 : n0 < 1000000) (b1 : n1 < 1000000) : ∀ (k x n : Nat) (h : zH) (g : Nat → Int32), x + k = 30 → k < n → h[a]? = some (.inl (0, n0, .inl f)) → h[b]? = some (.inl (0, n1, .inl g)) → ∃ h', f_X8_copies_b3 n a (nI i) b (nI j) (nI x) h = some h' ∧ h'[b]? = some (.inl (0, n1, .inl (zcp30 (fun y => f (x + y)) i g (j + x) k))) ∧ ∀ y, y ≠ b → h'[y]? = h[y]? := by
  intro k
  induction k with
  | zero =>
    intro x n h g hx hn ha hb
    obtain ⟨n, rfl⟩ : ∃ y, n = y + 1 := ⟨n - 1, by omega⟩
    rw [e_X8_copies_b3, z30, if_pos (nI_le (by omega) (by omega))]
    refine ⟨h, rfl, ?_, fun _ _ => rfl⟩
    rw [hb]
    congr 4
    refine congrArg Sum.inl ?_
    funext y
    rw [zcp30, if_neg (by omega)]
  | succ k ih =>
    intro x n h g hx hn ha hb
    obtain ⟨n, rfl⟩ : ∃ y, n = y + 1 := ⟨n - 1, by omega⟩
    rw [e_X8_copies_b3, z30, if_neg (nI_ge (by omega) (by omega)), nI_add, nI_add, nI_1, zL_of ha (by omega) (by omega), Option.bind_some, zS_of hb (by omega) (by omega), Option.bind_some]
    obtain ⟨h', e, hb', hk⟩ := ih (x + 1) n (h.set b (.inl (0, n1, .inl (upd g (j + x) (f (i + x)))))) (upd g (j + x) (f (i + x))) (by omega) (by omega) (by rw [zset_ne hab]; exact ha) (zset_eq hb)
    refine ⟨h', e, ?_, fun y hy => (hk y hy).trans (zset_ne hy)⟩
    rw [hb']
    congr 4
    refine congrArg Sum.inl ?_
    funext y
    unfold zcp30 upd
    by_cases c1 : y = j + x
    · rw [if_neg (by omega), if_pos c1, if_pos (by omega)]
      show f _ = f _
      congr 1
      omega
    · by_cases c2 : j + (x + 1) ≤ y ∧ y < j + (x + 1) + k
      · rw [if_pos c2, if_pos (by omega)]
        show f _ = f _
        congr 1
        omega
      · rw [if_neg c2, if_neg c1, if_neg (by omega)]
theorem r_copies {a b i j n0 n1 : Nat} {f g : Nat → Int32} {h : zH} (hab : a ≠ b) (h0 : i + 30 ≤ n0) (h1 : j + 30 ≤ n1) (b0 : n0 < 1000000) (b1 : n1 < 1000000) (ha : h[a]? = some (.inl (0, n0, .inl f))) (hb : h[b]? = some (.inl (0, n1, .inl g))) : ∃ h', f_X8_copies a (nI i) b (nI j) h = some h' ∧ h'[b]? = some (.inl (0, n1, .inl (zcp30 f i g j 30))) ∧ ∀ y, y ≠ b → h'[y]? = h[y]? := by
  obtain ⟨h', e, hb', hk⟩ := r_copies_b3 hab h0 h1 b0 b1 30 0 zF h g (by omega) (by show 30 < 5000; omega) ha hb
  refine ⟨h', e, ?_, hk⟩
  rw [hb']
  congr 4
  refine congrArg Sum.inl ?_
  funext y
  unfold zcp30
  rw [Nat.add_zero]
  split
  · show f (0 + _) = f _
    rw [Nat.zero_add]
  · rfl
