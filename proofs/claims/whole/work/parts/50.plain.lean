/-! PURE: what is answered without any change: kind, thing, knows, whom, halves, fault, status, trace, count; and as -/
def zAlike (F G : zH → Option Int32) (h : zH) : Prop := ∃ v, F h = some v ∧ G h = some v
theorem M_fault {h : zH} (I : INV h) : zAlike (f_X7_fault 0) (f_X8_fault 241) h := by
  obtain ⟨fa, st, ac, sz, tr, th, dg, m, O, P, -⟩ := I
  refine ⟨fa, ?_, ?_⟩
  · unfold f_X7_fault
    rw [O.i9, Option.bind_some]
  · unfold f_X8_fault
    rw [P.i13, Option.bind_some]
theorem M_status {h : zH} (I : INV h) : zAlike (f_X7_status 0) (f_X8_status 241) h := by
  obtain ⟨fa, st, ac, sz, tr, th, dg, m, O, P, -⟩ := I
  refine ⟨st, ?_, ?_⟩
  · unfold f_X7_status
    rw [O.i10, Option.bind_some]
  · unfold f_X8_status
    rw [P.i3, Option.bind_some]
theorem M_kind {h : zH} (I : INV h) (a : Int32) : zAlike (f_X7_kind 0 a) (f_X8_kind 241 a) h := by
  obtain ⟨fa, st, ac, sz, tr, th, dg, m, O, P, R, T, ⟨N7, N8, G⟩, A, Im, C, S, X, L⟩ := I
  have v := G.1
  by_cases c : ∃ t, t < m 0 ∧ a = nI t
  · have c' := c
    obtain ⟨t, ht, ra⟩ := c'
    refine ⟨nI (m (3 + t)), ?_, ?_⟩
    · unfold f_X7_kind
      rw [O.k, Option.bind_some, c_isThing O N7 v, Option.bind_some, if_neg (zb_n c), O.r2, Option.bind_some, N7.f6, Option.bind_some, ra, N7.so v ht, Option.bind_some]
    · unfold f_X8_kind
      rw [P.k, Option.bind_some, r_isThing P N8 v, Option.bind_some, if_neg (zb_n c), P.r4, Option.bind_some, ra, N8.so v ht, Option.bind_some]
  · refine ⟨(-1000001 : Int32), ?_, ?_⟩
    · unfold f_X7_kind
      rw [O.k, Option.bind_some, c_isThing O N7 v, Option.bind_some, if_pos (zb_f c)]
    · unfold f_X8_kind
      rw [P.k, Option.bind_some, r_isThing P N8 v, Option.bind_some, if_pos (zb_f c)]
theorem M_thing {h : zH} (I : INV h) (a b : Int32) : zAlike (f_X7_thing 0 a b) (f_X8_thing 241 a b) h := by
  obtain ⟨fa, st, ac, sz, tr, th, dg, m, O, P, R, T, ⟨N7, N8, G⟩, A, Im, C, S, X, L⟩ := I
  have v := G.1
  by_cases c : ∃ t, t < m 0 ∧ a = nI t
  · have c' := c
    obtain ⟨t, ht, ra⟩ := c'
    unfold f_X7_thing f_X8_thing zAlike
    dsimp only
    rw [O.k, Option.bind_some, c_isThing O N7 v, Option.bind_some, if_neg (zb_n c), P.k, Option.bind_some, r_isThing P N8 v, Option.bind_some, if_neg (zb_n c), O.r2, P.r4, ra]
    simp only [Option.bind_some, N7.f7, N7.f8, N7.f9, N7.f10, N7.k, N7.de v ht, N7.pl v ht, N7.sl v ht, N7.kn v ht, c_nearTo N7 v ht, c_rise N7 v ht, N8.de v ht, N8.pl v ht, N8.sl v ht, N8.kn v ht, r_nearTo N8 v ht, r_rise N8 v ht]
    by_cases b0 : b = 0
    · simp [b0]
    · by_cases b1 : b = 1
      · simp [b1]
      · by_cases b2 : b = 2
        · simp [b2]
        · by_cases b3 : b = 3
          · simp [b3]
          · by_cases b4 : b = 4
            · simp [b4]
            · by_cases b5 : b = 5
              · simp [b5]
              · simp [b0, b1, b2, b3, b4, b5]
  · refine ⟨(-1000001 : Int32), ?_, ?_⟩
    · unfold f_X7_thing
      rw [O.k, Option.bind_some, c_isThing O N7 v, Option.bind_some, if_pos (zb_f c)]
    · unfold f_X8_thing
      rw [P.k, Option.bind_some, r_isThing P N8 v, Option.bind_some, if_pos (zb_f c)]
/-! knows -/
def sKn (m : Nat → Nat) (a : Int32) : Nat → Nat → Int32 → Int32
  | 0, _, x => x
  | k + 1, i, x => sKn m a k (i + 1) (x ||| (((nI (m (23 + i)) >>> (a &&& 31)) &&& (1 : Int32)) <<< (nI i &&& 31)))
theorem zand1 : ∀ (k : Fin 64) (j : Fin 6) (i : Fin 5), (((nI k >>> (nI j &&& 31)) &&& (1 : Int32)) <<< (nI i &&& 31)) = (if (nI k >>> (nI j &&& 31)) &&& (1 : Int32) = (1 : Int32) then (1 : Int32) <<< (nI i &&& 31) else 0) := by decide +kernel
theorem c_isMan {h : zH} {fa st th dg : Int32} {m : Nat → Nat} (O : iO h fa st) (H : zMi h 15 th dg m) (v : vM m) (a : Int32) : f_X7_isMan 0 a h = some (zb (∃ t, t < m 2 ∧ a = nI t)) := by
  have h5 := v.2.2.1
  unfold f_X7_isMan
  have key := zthing (a := a) (N := m 2) (by omega)
  by_cases h1 : a < 0
  · rw [if_pos h1, zb_f (fun q => (key.mpr q).1 h1)]; rfl
  · rw [if_neg h1, O.r2, Option.bind_some, H.f2, Option.bind_some]
    by_cases h2 : nI (m 2) ≤ a
    · rw [if_pos h2, zb_f (fun q => (key.mpr q).2 h2)]; rfl
    · rw [if_neg h2, zb_t (key.mp ⟨h1, h2⟩)]; rfl
theorem r_isMan {h : zH} {dg : Int32} {m : Nat → Nat} (H : zMo h 245 dg m) (v : vM m) (a : Int32) : f_X8_in (Int32.toInt64 a) (0 : Int64) (Int32.toInt64 (nI (m 2) - (1 : Int32))) h = some (zb (∃ t, t < m 2 ∧ a = nI t)) := by
  have h5 := v.2.2.1
  rw [show (0 : Int64) = Int32.toInt64 0 from rfl, r_in]
  congr 1
  apply zb_c
  rw [zpred (by omega)]
  exact zthing (by omega)
theorem c_knows_b4 {h : zH} {r : Nat} {th dg : Int32} {m : Nat → Nat} (H : zMi h r th dg m) (v : vM m) (a : Int32) : ∀ (k i n : Nat) (x : Int32), i + k = m 0 → k < n → f_X3_knownTo_b4 h n r a x (nI i) = some (sKn m a k i x) := by
  intro k
  have h5 := v.1
  induction k with
  | zero =>
    intro i n x hi hn
    obtain ⟨n, rfl⟩ : ∃ x, n = x + 1 := ⟨n - 1, by omega⟩
    rw [e_X3_knownTo_b4, H.f1, Option.bind_some, if_pos (nI_le (by omega) (by omega))]
    rfl
  | succ k ih =>
    intro i n x hi hn
    obtain ⟨n, rfl⟩ : ∃ x, n = x + 1 := ⟨n - 1, by omega⟩
    rw [e_X3_knownTo_b4, H.f1, Option.bind_some, if_neg (nI_ge (by omega) (by omega)), H.f10, Option.bind_some, H.kn v (by omega), Option.bind_some, zLet_eq, nI_1, ih (i + 1) n _ (by omega) (by omega), sKn]
theorem r_knows_b25 {h : zH} {fa st ac sz tr dg : Int32} {m : Nat → Nat} (P : iP h fa st ac sz tr) (H : zMo h 245 dg m) (v : vM m) {j : Nat} (hj : j < 6) : ∀ (k i n : Nat) (x : Int32), i + k = m 0 → k < n → f_X8_knows_b25 h n 241 (nI j) x (nI i) = some (sKn m (nI j) k i x) := by
  intro k
  have h5 := v.1
  induction k with
  | zero =>
    intro i n x hi hn
    obtain ⟨n, rfl⟩ : ∃ x, n = x + 1 := ⟨n - 1, by omega⟩
    rw [e_X8_knows_b25, P.r4, Option.bind_some, H.f0, Option.bind_some, if_pos (nI_le (by omega) (by omega))]
    rfl
  | succ k ih =>
    intro i n x hi hn
    obtain ⟨n, rfl⟩ : ∃ x, n = x + 1 := ⟨n - 1, by omega⟩
    have hk := (v.2.2.2.2 i (by omega)).2.2.2.2
    have key := zand1 ⟨m (23 + i), hk⟩ ⟨j, hj⟩ ⟨i, by omega⟩
    dsimp only at key
    rw [e_X8_knows_b25, P.r4, Option.bind_some, H.f0, Option.bind_some, if_neg (nI_ge (by omega) (by omega)), Option.bind_some, H.kn v (by omega), Option.bind_some, r_has, Option.bind_some, sKn, key]
    unfold f_X8_knows_b59
    rw [zLet_eq, zLet_eq, nI_1]
    by_cases c : (nI (m (23 + i)) >>> (nI j &&& 31)) &&& (1 : Int32) = (1 : Int32)
    · rw [if_neg (zb_n c), if_pos c, ih (i + 1) n _ (by omega) (by omega)]
    · rw [if_pos (zb_f c), if_neg c, ih (i + 1) n _ (by omega) (by omega)]
theorem M_knows {h : zH} (I : INV h) (a : Int32) : zAlike (f_X7_knows 0 a) (f_X8_knows 241 a) h := by
  obtain ⟨fa, st, ac, sz, tr, th, dg, m, O, P, R, T, ⟨N7, N8, G⟩, A, Im, C, S, X, L⟩ := I
  have v := G.1
  have h5 := v.1
  have h6 := v.2.2.1
  by_cases c : ∃ t, t < m 2 ∧ a = nI t
  · have c' := c
    obtain ⟨t, ht, ra⟩ := c'
    refine ⟨sKn m a (m 0) 0 0, ?_, ?_⟩
    · unfold f_X7_knows f_X3_knownTo
      rw [O.k, Option.bind_some, c_isMan O N7 v, Option.bind_some, if_neg (zb_n c), O.r2, Option.bind_some, N7.k, Option.bind_some]
      have e := c_knows_b4 N7 v a (m 0) 0 zF 0 (by omega) (by show m 0 < 5000; omega)
      exact congrArg (fun o => o.bind some) e
    · unfold f_X8_knows
      rw [P.r4, Option.bind_some, N8.f2, Option.bind_some, r_isMan N8 v, Option.bind_some, if_neg (zb_n c), ra]
      exact r_knows_b25 P N8 v (by omega) (m 0) 0 zF 0 (by omega) (by show m 0 < 5000; omega)
  · refine ⟨(-1000001 : Int32), ?_, ?_⟩
    · unfold f_X7_knows
      rw [O.k, Option.bind_some, c_isMan O N7 v, Option.bind_some, if_pos (zb_f c)]
    · unfold f_X8_knows
      rw [P.r4, Option.bind_some, N8.f2, Option.bind_some, r_isMan N8 v, Option.bind_some, if_pos (zb_f c)]
/-! trace -/
theorem M_trace {h : zH} (I : INV h) (a : Int32) : zAlike (f_X7_trace 0 a) (f_X8_trace 241 a) h := by
  obtain ⟨fa, st, ac, sz, tr, th, dg, m, O, P, R, T, N, A, Im, C, S, X, L⟩ := I
  obtain ⟨hk, f, g, h1, h2, h3, h4⟩ := C
  have key := zthing (a := a) (N := tr) (by omega)
  have kz : f_X8_in (Int32.toInt64 a) (0 : Int64) (Int32.toInt64 (nI tr - (1 : Int32))) h = some (zb (∃ t, t < tr ∧ a = nI t)) := by
    rw [show (0 : Int64) = Int32.toInt64 0 from rfl, r_in]
    congr 1
    apply zb_c
    rw [zpred (by omega)]
    exact zthing (by omega)
  by_cases c : ∃ t, t < tr ∧ a = nI t
  · have c' := c
    obtain ⟨t, ht, ra⟩ := c'
    have kc := key.mpr c
    refine ⟨f t, ?_, ?_⟩
    · unfold f_X7_trace
      rw [if_neg kc.1, O.r8, Option.bind_some, zI_of h1 rfl, Option.bind_some, if_neg kc.2, Option.bind_some, zR_of h1 rfl, Option.bind_some, ra, zL_of h2 (by omega) (by omega), Option.bind_some]
    · unfold f_X8_trace
      rw [P.i15, Option.bind_some, kz, Option.bind_some, if_neg (zb_n c), P.r14, Option.bind_some, ra, zL_of h3 (by omega) (by omega), Option.bind_some, h4 t ht]
  · refine ⟨(-1000000 : Int32), ?_, ?_⟩
    · unfold f_X7_trace
      by_cases c1 : a < 0
      · rw [if_pos c1]
      · rw [if_neg c1, O.r8, Option.bind_some, zI_of h1 rfl, Option.bind_some]
        by_cases c2 : nI tr ≤ a
        · rw [if_pos c2]
        · exact absurd (key.mp ⟨c1, c2⟩) c
    · unfold f_X8_trace
      rw [P.i15, Option.bind_some, kz, Option.bind_some, if_pos (zb_f c)]
/-! count -/
def sCt (le : Nat → Int32) : Nat → Nat → Int32 → Int32
  | 0, _, x => x
  | k + 1, i, x => sCt le k (i + 1) (if le i = -1 then x else x + 1)
theorem M_count {h : zH} (I : INV h) (a : Int32) : zAlike (f_X7_count 0 a) (f_X8_count 241 a) h := by
  obtain ⟨fa, st, ac, sz, tr, th, dg, m, O, P, R, T, ⟨N7, N8, G⟩, A, Im, C, S, X, L⟩ := I
  obtain ⟨h1, ⟨Gr, h2, hG⟩, it, la, le, ro, ls, ss, h3, h4, h5, h6, h7, h8, h9⟩ := R
  obtain ⟨hk, a1, a2, w, f, g, t1, t2, t3, t4⟩ := T
  obtain ⟨ak, top, Ga, pa, at_, ad, am, b1, b2, b3⟩ := A
  have c1 : ∀ (k i n : Nat) (x : Int32), i + k = 8 → k < n → f_X4_countThere_b4 h n 1 x (nI i) = some (sCt le k i x) := by
    intro k
    induction k with
    | zero =>
      intro i n x hi hn
      obtain ⟨n, rfl⟩ : ∃ x, n = x + 1 := ⟨n - 1, by omega⟩
      rw [e_X4_countThere_b4, z8, if_pos (nI_le (by omega) (by omega))]
      rfl
    | succ k ih =>
      intro i n x hi hn
      obtain ⟨n, rfl⟩ : ∃ x, n = x + 1 := ⟨n - 1, by omega⟩
      rw [e_X4_countThere_b4, z8, if_neg (nI_ge (by omega) (by omega)), zK_of h1, Option.bind_some]
      unfold f_X4_isMissing
      rw [zR_of h1 rfl, Option.bind_some, zL_of h5 (by omega) (by omega), Option.bind_some, nI_1, sCt]
      by_cases c : le i = -1
      · rw [if_pos c, if_pos c, zB1, Option.bind_some, if_neg (by decide), ih (i + 1) n _ (by omega) (by omega)]
      · rw [if_neg c, if_neg c, zB0, Option.bind_some, if_pos rfl, ih (i + 1) n _ (by omega) (by omega)]
  have c2 : ∀ (k i n : Nat) (x : Int32), i + k = 8 → k < n → f_X8_count_b4 h n 241 a x (nI i) = f_X8_count_b4 h 1 241 a (sCt le k i x) (nI 8) := by
    intro k
    induction k with
    | zero =>
      intro i n x hi hn
      obtain ⟨n, rfl⟩ : ∃ x, n = x + 1 := ⟨n - 1, by omega⟩
      rw [e_X8_count_b4, e_X8_count_b4, z8, if_pos (nI_le (by omega) (by omega)), if_pos (nI_le (by omega) (by omega))]
      rfl
    | succ k ih =>
      intro i n x hi hn
      obtain ⟨n, rfl⟩ : ∃ x, n = x + 1 := ⟨n - 1, by omega⟩
      rw [e_X8_count_b4, z8, if_neg (nI_ge (by omega) (by omega)), P.r1, Option.bind_some, zL_of h7 (by omega) (by omega), Option.bind_some, sCt, (h9 i (by omega)).2.1]
      unfold f_X8_count_b25
      rw [zLet_eq, zLet_eq, nI_1]
      rcases (h9 i (by omega)).2.2 with c | ⟨l, hl, c, -⟩
      · rw [c, if_neg (by decide), if_pos rfl, show x + (0 : Int32) = x from Int32.add_zero x, ih (i + 1) n _ (by omega) (by omega)]
      · have hp := nI_pos' (n := l) (by omega)
        rw [c, if_pos hp, if_neg (by intro q; rw [q] at hp; exact absurd hp (by decide)), ih (i + 1) n _ (by omega) (by omega)]
  unfold f_X7_count f_X8_count f_X4_countThere zAlike
  dsimp only
  rw [show (0 : Int32) = nI 0 from rfl, c2 8 0 zF _ (by omega) (by show 8 < 5000; omega), ← show (0 : Int32) = nI 0 from rfl, e_X8_count_b4, z8, if_pos (nI_le (by omega) (by omega)), O.r0, O.r2, O.r1, O.r4, P.r4, P.i8, P.i12]
  have c3 := c1 8 0 zF 0 (by omega) (by show 8 < 5000; omega)
  rw [show nI 0 = (0 : Int32) from rfl] at c3
  simp only [Option.bind_some, zK_of h1, c3, N7.f1, N7.f2, N7.f3, N7.f4, N7.f5, N8.f0, N8.f1, N8.f2, N8.f28, N8.f29, zI_of b2 (k := 2) rfl, zI_of t1 (k := 1) rfl]
  by_cases b0 : a = 0
  · simp [b0]
  · by_cases b1 : a = 1
    · simp [b1]
    · by_cases b2 : a = 2
      · simp [b2]
      · by_cases b3 : a = 3
        · simp [b3]
        · by_cases b4 : a = 4
          · simp [b4]
          · by_cases b5 : a = 5
            · simp [b5]
            · by_cases b6 : a = 6
              · simp [b6]
              · by_cases b7 : a = 7
                · simp [b7]
                · simp [b0, b1, b2, b3, b4, b5, b6, b7]
