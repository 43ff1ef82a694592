/-! PURE: the law's loop -/
/-- a call's three numbers and more stand in the script -/
theorem zSc_of {xs : Nat → Int32} {L p k : Nat} {a : Int32} (ha : a = nI p) (hk : p + k < L) (hL : L < 1000000) (i : Int32) (hi : i = nI k) : zSc xs L (a + i) = some (xs (p + k)) := by
  unfold zSc
  rw [ha, hi, nI_add, if_neg (zin hk (by omega)), nI_clamp (by omega)]
theorem zSc_0 {xs : Nat → Int32} {L p : Nat} {a : Int32} (ha : a = nI p) (hk : p < L) (hL : L < 1000000) : zSc xs L a = some (xs p) := by
  unfold zSc
  rw [ha, if_neg (zin hk (by omega)), nI_clamp (by omega)]
section LOOP
variable {xs : Nat → Int32} {L p : Nat} {a : Int32} {h : zH} {K : Nat → Nat → Int32 → zH → Option Int32}
theorem l_row (I : INV h) (ha : a = nI p) (hp : p + 6 ≤ L) (hL : L < 1000000) (go : ∀ h', INV h' → K 0 241 (a + 6) h' = some 1) : f_L_law_b176 xs L K 0 241 a h = some 1 := by
  have s1 := zSc_of (xs := xs) (k := 1) ha (by omega) hL (1 : Int32) rfl
  have s2 := zSc_of (xs := xs) (k := 2) ha (by omega) hL (2 : Int32) rfl
  have s3 := zSc_of (xs := xs) (k := 3) ha (by omega) hL (3 : Int32) rfl
  have k0 : zK h 0 7 = some () := by
    obtain ⟨fa, st, ac, sz, tr, th, dg, m, O, P, -⟩ := I
    exact O.k
  obtain ⟨v, h1, h2, e1, e2, I2, k1⟩ := M_row I (xs (p + 1)) (xs (p + 2)) (xs (p + 3))
  unfold f_L_law_b176 f_L_law_b1112
  rw [s1, Option.bind_some, s2, Option.bind_some, s3, Option.bind_some, k0, Option.bind_some, e1, Option.bind_some]
  dsimp only
  rw [Option.bind_some, Option.bind_some, Option.bind_some, k1, Option.bind_some, e2, Option.bind_some]
  dsimp only
  rw [if_pos rfl]
  exact go h2 I2
theorem l_set (I : INV h) (ha : a = nI p) (hp : p + 6 ≤ L) (hL : L < 1000000) (go : ∀ h', INV h' → K 0 241 (a + 6) h' = some 1) : f_L_law_b219 xs L K 0 241 a h = some 1 := by
  have s1 := zSc_of (xs := xs) (k := 1) ha (by omega) hL (1 : Int32) rfl
  have s2 := zSc_of (xs := xs) (k := 2) ha (by omega) hL (2 : Int32) rfl
  have s3 := zSc_of (xs := xs) (k := 3) ha (by omega) hL (3 : Int32) rfl
  have k0 : zK h 0 7 = some () := by
    obtain ⟨fa, st, ac, sz, tr, th, dg, m, O, P, -⟩ := I
    exact O.k
  obtain ⟨v, h1, h2, e1, e2, I2, k1⟩ := M_set I (xs (p + 1)) (xs (p + 2)) (xs (p + 3))
  unfold f_L_law_b219 f_L_law_b1112
  rw [s1, Option.bind_some, s2, Option.bind_some, s3, Option.bind_some, k0, Option.bind_some, e1, Option.bind_some]
  dsimp only
  rw [Option.bind_some, Option.bind_some, Option.bind_some, k1, Option.bind_some, e2, Option.bind_some]
  dsimp only
  rw [if_pos rfl]
  exact go h2 I2
theorem l_copy (I : INV h) (ha : a = nI p) (hp : p + 6 ≤ L) (hL : L < 1000000) (go : ∀ h', INV h' → K 0 241 (a + 6) h' = some 1) : f_L_law_b262 xs L K 0 241 a h = some 1 := by
  have s1 := zSc_of (xs := xs) (k := 1) ha (by omega) hL (1 : Int32) rfl
  have s2 := zSc_of (xs := xs) (k := 2) ha (by omega) hL (2 : Int32) rfl
  have s3 := zSc_of (xs := xs) (k := 3) ha (by omega) hL (3 : Int32) rfl
  have s4 := zSc_of (xs := xs) (k := 4) ha (by omega) hL (4 : Int32) rfl
  have s5 := zSc_of (xs := xs) (k := 5) ha (by omega) hL (5 : Int32) rfl
  have k0 : zK h 0 7 = some () := by
    obtain ⟨fa, st, ac, sz, tr, th, dg, m, O, P, -⟩ := I
    exact O.k
  obtain ⟨v, h1, h2, e1, e2, I2, k1⟩ := M_copy I (xs (p + 1)) (xs (p + 2)) (xs (p + 3)) (xs (p + 4)) (xs (p + 5))
  unfold f_L_law_b262 f_L_law_b1112
  rw [s1, Option.bind_some, s2, Option.bind_some, s3, Option.bind_some, s4, Option.bind_some, s5, Option.bind_some, k0, Option.bind_some, e1, Option.bind_some]
  dsimp only
  rw [Option.bind_some, Option.bind_some, Option.bind_some, Option.bind_some, Option.bind_some, k1, Option.bind_some, e2, Option.bind_some]
  dsimp only
  rw [if_pos rfl]
  exact go h2 I2
theorem l_drop (I : INV h) (ha : a = nI p) (hp : p + 6 ≤ L) (hL : L < 1000000) (go : ∀ h', INV h' → K 0 241 (a + 6) h' = some 1) : f_L_law_b325 xs L K 0 241 a h = some 1 := by
  have s1 := zSc_of (xs := xs) (k := 1) ha (by omega) hL (1 : Int32) rfl
  have k0 : zK h 0 7 = some () := by
    obtain ⟨fa, st, ac, sz, tr, th, dg, m, O, P, -⟩ := I
    exact O.k
  obtain ⟨v, h1, h2, e1, e2, I2, k1⟩ := M_drop I (xs (p + 1))
  unfold f_L_law_b325 f_L_law_b1112
  rw [s1, Option.bind_some, k0, Option.bind_some, e1, Option.bind_some]
  dsimp only
  rw [Option.bind_some, k1, Option.bind_some, e2, Option.bind_some]
  dsimp only
  rw [if_pos rfl]
  exact go h2 I2
theorem l_feed (I : INV h) (ha : a = nI p) (hp : p + 6 ≤ L) (hL : L < 1000000) (go : ∀ h', INV h' → K 0 241 (a + 6) h' = some 1) : f_L_law_b348 xs L K 0 241 a h = some 1 := by
  have s1 := zSc_of (xs := xs) (k := 1) ha (by omega) hL (1 : Int32) rfl
  have k0 : zK h 0 7 = some () := by
    obtain ⟨fa, st, ac, sz, tr, th, dg, m, O, P, -⟩ := I
    exact O.k
  obtain ⟨v, h1, h2, e1, e2, I2, k1⟩ := M_feed I (xs (p + 1))
  unfold f_L_law_b348 f_L_law_b1112
  rw [s1, Option.bind_some, k0, Option.bind_some, e1, Option.bind_some]
  dsimp only
  rw [Option.bind_some, k1, Option.bind_some, e2, Option.bind_some]
  dsimp only
  rw [if_pos rfl]
  exact go h2 I2
theorem l_mine (I : INV h) (ha : a = nI p) (hp : p + 6 ≤ L) (hL : L < 1000000) (go : ∀ h', INV h' → K 0 241 (a + 6) h' = some 1) : f_L_law_b371 xs L K 0 241 a h = some 1 := by
  have k0 : zK h 0 7 = some () := by
    obtain ⟨fa, st, ac, sz, tr, th, dg, m, O, P, -⟩ := I
    exact O.k
  obtain ⟨v, h1, h2, e1, e2, I2, k1⟩ := M_mine I
  unfold f_L_law_b371 f_L_law_b1112
  rw [k0, Option.bind_some, e1, Option.bind_some]
  dsimp only
  rw [k1, Option.bind_some, e2, Option.bind_some]
  dsimp only
  rw [if_pos rfl]
  exact go h2 I2
theorem l_fault (I : INV h) (ha : a = nI p) (hp : p + 6 ≤ L) (hL : L < 1000000) (go : ∀ h', INV h' → K 0 241 (a + 6) h' = some 1) : f_L_law_b384 xs L K 0 241 a h = some 1 := by
  have k0 : zK h 0 7 = some () := by
    obtain ⟨fa, st, ac, sz, tr, th, dg, m, O, P, -⟩ := I
    exact O.k
  have k1 : zK h 241 8 = some () := by
    obtain ⟨fa, st, ac, sz, tr, th, dg, m, O, P, -⟩ := I
    exact P.k
  obtain ⟨v, e1, e2⟩ := M_fault I
  unfold f_L_law_b384 f_L_law_b1112
  rw [k0, Option.bind_some, e1, Option.bind_some, k1, Option.bind_some, e2, Option.bind_some, if_pos rfl]
  exact go h I
theorem l_years (I : INV h) (ha : a = nI p) (hp : p + 6 ≤ L) (hL : L < 1000000) (go : ∀ h', INV h' → K 0 241 (a + 6) h' = some 1) : f_L_law_b397 xs L K 0 241 a h = some 1 := by
  have s1 := zSc_of (xs := xs) (k := 1) ha (by omega) hL (1 : Int32) rfl
  have k0 : zK h 0 7 = some () := by
    obtain ⟨fa, st, ac, sz, tr, th, dg, m, O, P, -⟩ := I
    exact O.k
  obtain ⟨v, h1, h2, e1, e2, I2, k1⟩ := M_years I (xs (p + 1))
  unfold f_L_law_b397 f_L_law_b1112
  rw [s1, Option.bind_some, k0, Option.bind_some, e1, Option.bind_some]
  dsimp only
  rw [Option.bind_some, k1, Option.bind_some, e2, Option.bind_some]
  dsimp only
  rw [if_pos rfl]
  exact go h2 I2
theorem l_bury (I : INV h) (ha : a = nI p) (hp : p + 6 ≤ L) (hL : L < 1000000) (go : ∀ h', INV h' → K 0 241 (a + 6) h' = some 1) : f_L_law_b420 xs L K 0 241 a h = some 1 := by
  have s1 := zSc_of (xs := xs) (k := 1) ha (by omega) hL (1 : Int32) rfl
  have s2 := zSc_of (xs := xs) (k := 2) ha (by omega) hL (2 : Int32) rfl
  have s3 := zSc_of (xs := xs) (k := 3) ha (by omega) hL (3 : Int32) rfl
  have k0 : zK h 0 7 = some () := by
    obtain ⟨fa, st, ac, sz, tr, th, dg, m, O, P, -⟩ := I
    exact O.k
  obtain ⟨v, h1, h2, e1, e2, I2, k1⟩ := M_bury I (xs (p + 1)) (xs (p + 2)) (xs (p + 3))
  unfold f_L_law_b420 f_L_law_b1112
  rw [s1, Option.bind_some, s2, Option.bind_some, s3, Option.bind_some, k0, Option.bind_some, e1, Option.bind_some]
  dsimp only
  rw [Option.bind_some, Option.bind_some, Option.bind_some, k1, Option.bind_some, e2, Option.bind_some]
  dsimp only
  rw [if_pos rfl]
  exact go h2 I2
theorem l_tell (I : INV h) (ha : a = nI p) (hp : p + 6 ≤ L) (hL : L < 1000000) (go : ∀ h', INV h' → K 0 241 (a + 6) h' = some 1) : f_L_law_b463 xs L K 0 241 a h = some 1 := by
  have s1 := zSc_of (xs := xs) (k := 1) ha (by omega) hL (1 : Int32) rfl
  have s2 := zSc_of (xs := xs) (k := 2) ha (by omega) hL (2 : Int32) rfl
  have s3 := zSc_of (xs := xs) (k := 3) ha (by omega) hL (3 : Int32) rfl
  have k0 : zK h 0 7 = some () := by
    obtain ⟨fa, st, ac, sz, tr, th, dg, m, O, P, -⟩ := I
    exact O.k
  obtain ⟨v, h1, h2, e1, e2, I2, k1⟩ := M_tell I (xs (p + 1)) (xs (p + 2)) (xs (p + 3))
  unfold f_L_law_b463 f_L_law_b1112
  rw [s1, Option.bind_some, s2, Option.bind_some, s3, Option.bind_some, k0, Option.bind_some, e1, Option.bind_some]
  dsimp only
  rw [Option.bind_some, Option.bind_some, Option.bind_some, k1, Option.bind_some, e2, Option.bind_some]
  dsimp only
  rw [if_pos rfl]
  exact go h2 I2
theorem l_undo (I : INV h) (ha : a = nI p) (hp : p + 6 ≤ L) (hL : L < 1000000) (go : ∀ h', INV h' → K 0 241 (a + 6) h' = some 1) : f_L_law_b506 xs L K 0 241 a h = some 1 := by
  have k0 : zK h 0 7 = some () := by
    obtain ⟨fa, st, ac, sz, tr, th, dg, m, O, P, -⟩ := I
    exact O.k
  obtain ⟨v, h1, h2, e1, e2, I2, k1⟩ := M_undo I
  unfold f_L_law_b506 f_L_law_b1112
  rw [k0, Option.bind_some, e1, Option.bind_some]
  dsimp only
  rw [k1, Option.bind_some, e2, Option.bind_some]
  dsimp only
  rw [if_pos rfl]
  exact go h2 I2
theorem l_thing (I : INV h) (ha : a = nI p) (hp : p + 6 ≤ L) (hL : L < 1000000) (go : ∀ h', INV h' → K 0 241 (a + 6) h' = some 1) : f_L_law_b519 xs L K 0 241 a h = some 1 := by
  have s1 := zSc_of (xs := xs) (k := 1) ha (by omega) hL (1 : Int32) rfl
  have s2 := zSc_of (xs := xs) (k := 2) ha (by omega) hL (2 : Int32) rfl
  have k0 : zK h 0 7 = some () := by
    obtain ⟨fa, st, ac, sz, tr, th, dg, m, O, P, -⟩ := I
    exact O.k
  have k1 : zK h 241 8 = some () := by
    obtain ⟨fa, st, ac, sz, tr, th, dg, m, O, P, -⟩ := I
    exact P.k
  obtain ⟨v, e1, e2⟩ := M_thing I (xs (p + 1)) (xs (p + 2))
  unfold f_L_law_b519 f_L_law_b1112
  rw [s1, Option.bind_some, s2, Option.bind_some, k0, Option.bind_some, e1, Option.bind_some, Option.bind_some, Option.bind_some, k1, Option.bind_some, e2, Option.bind_some, if_pos rfl]
  exact go h I
theorem l_knows (I : INV h) (ha : a = nI p) (hp : p + 6 ≤ L) (hL : L < 1000000) (go : ∀ h', INV h' → K 0 241 (a + 6) h' = some 1) : f_L_law_b552 xs L K 0 241 a h = some 1 := by
  have s1 := zSc_of (xs := xs) (k := 1) ha (by omega) hL (1 : Int32) rfl
  have k0 : zK h 0 7 = some () := by
    obtain ⟨fa, st, ac, sz, tr, th, dg, m, O, P, -⟩ := I
    exact O.k
  have k1 : zK h 241 8 = some () := by
    obtain ⟨fa, st, ac, sz, tr, th, dg, m, O, P, -⟩ := I
    exact P.k
  obtain ⟨v, e1, e2⟩ := M_knows I (xs (p + 1))
  unfold f_L_law_b552 f_L_law_b1112
  rw [s1, Option.bind_some, k0, Option.bind_some, e1, Option.bind_some, Option.bind_some, k1, Option.bind_some, e2, Option.bind_some, if_pos rfl]
  exact go h I
theorem l_ahead (I : INV h) (ha : a = nI p) (hp : p + 6 ≤ L) (hL : L < 1000000) (go : ∀ h', INV h' → K 0 241 (a + 6) h' = some 1) : f_L_law_b575 xs L K 0 241 a h = some 1 := by
  have s1 := zSc_of (xs := xs) (k := 1) ha (by omega) hL (1 : Int32) rfl
  have s2 := zSc_of (xs := xs) (k := 2) ha (by omega) hL (2 : Int32) rfl
  have k0 : zK h 0 7 = some () := by
    obtain ⟨fa, st, ac, sz, tr, th, dg, m, O, P, -⟩ := I
    exact O.k
  obtain ⟨v, h1, h2, e1, e2, I2, k1⟩ := M_ahead I (xs (p + 1)) (xs (p + 2))
  unfold f_L_law_b575 f_L_law_b1112
  rw [s1, Option.bind_some, s2, Option.bind_some, k0, Option.bind_some, e1, Option.bind_some]
  dsimp only
  rw [Option.bind_some, Option.bind_some, k1, Option.bind_some, e2, Option.bind_some]
  dsimp only
  rw [if_pos rfl]
  exact go h2 I2
theorem l_up (I : INV h) (ha : a = nI p) (hp : p + 6 ≤ L) (hL : L < 1000000) (go : ∀ h', INV h' → K 0 241 (a + 6) h' = some 1) : f_L_law_b608 xs L K 0 241 a h = some 1 := by
  have s1 := zSc_of (xs := xs) (k := 1) ha (by omega) hL (1 : Int32) rfl
  have k0 : zK h 0 7 = some () := by
    obtain ⟨fa, st, ac, sz, tr, th, dg, m, O, P, -⟩ := I
    exact O.k
  obtain ⟨v, h1, h2, e1, e2, I2, k1⟩ := M_up I (xs (p + 1))
  unfold f_L_law_b608 f_L_law_b1112
  rw [s1, Option.bind_some, k0, Option.bind_some, e1, Option.bind_some]
  dsimp only
  rw [Option.bind_some, k1, Option.bind_some, e2, Option.bind_some]
  dsimp only
  rw [if_pos rfl]
  exact go h2 I2
theorem l_comesUp (I : INV h) (ha : a = nI p) (hp : p + 6 ≤ L) (hL : L < 1000000) (go : ∀ h', INV h' → K 0 241 (a + 6) h' = some 1) : f_L_law_b631 xs L K 0 241 a h = some 1 := by
  have s1 := zSc_of (xs := xs) (k := 1) ha (by omega) hL (1 : Int32) rfl
  have k0 : zK h 0 7 = some () := by
    obtain ⟨fa, st, ac, sz, tr, th, dg, m, O, P, -⟩ := I
    exact O.k
  obtain ⟨v, h1, h2, e1, e2, I2, k1⟩ := M_comesUp I (xs (p + 1))
  unfold f_L_law_b631 f_L_law_b1112
  rw [s1, Option.bind_some, k0, Option.bind_some, e1, Option.bind_some]
  dsimp only
  rw [Option.bind_some, k1, Option.bind_some, e2, Option.bind_some]
  dsimp only
  rw [if_pos rfl]
  exact go h2 I2
theorem l_first (I : INV h) (ha : a = nI p) (hp : p + 6 ≤ L) (hL : L < 1000000) (go : ∀ h', INV h' → K 0 241 (a + 6) h' = some 1) : f_L_law_b654 xs L K 0 241 a h = some 1 := by
  have s1 := zSc_of (xs := xs) (k := 1) ha (by omega) hL (1 : Int32) rfl
  have k0 : zK h 0 7 = some () := by
    obtain ⟨fa, st, ac, sz, tr, th, dg, m, O, P, -⟩ := I
    exact O.k
  obtain ⟨v, h1, h2, e1, e2, I2, k1⟩ := M_first I (xs (p + 1))
  unfold f_L_law_b654 f_L_law_b1112
  rw [s1, Option.bind_some, k0, Option.bind_some, e1, Option.bind_some]
  dsimp only
  rw [Option.bind_some, k1, Option.bind_some, e2, Option.bind_some]
  dsimp only
  rw [if_pos rfl]
  exact go h2 I2
theorem l_trouble (I : INV h) (ha : a = nI p) (hp : p + 6 ≤ L) (hL : L < 1000000) (go : ∀ h', INV h' → K 0 241 (a + 6) h' = some 1) : f_L_law_b677 xs L K 0 241 a h = some 1 := by
  have s1 := zSc_of (xs := xs) (k := 1) ha (by omega) hL (1 : Int32) rfl
  have k0 : zK h 0 7 = some () := by
    obtain ⟨fa, st, ac, sz, tr, th, dg, m, O, P, -⟩ := I
    exact O.k
  obtain ⟨v, h1, h2, e1, e2, I2, k1⟩ := M_trouble I (xs (p + 1))
  unfold f_L_law_b677 f_L_law_b1112
  rw [s1, Option.bind_some, k0, Option.bind_some, e1, Option.bind_some]
  dsimp only
  rw [Option.bind_some, k1, Option.bind_some, e2, Option.bind_some]
  dsimp only
  rw [if_pos rfl]
  exact go h2 I2
theorem l_lay (I : INV h) (ha : a = nI p) (hp : p + 6 ≤ L) (hL : L < 1000000) (go : ∀ h', INV h' → K 0 241 (a + 6) h' = some 1) : f_L_law_b700 xs L K 0 241 a h = some 1 := by
  have s1 := zSc_of (xs := xs) (k := 1) ha (by omega) hL (1 : Int32) rfl
  have s2 := zSc_of (xs := xs) (k := 2) ha (by omega) hL (2 : Int32) rfl
  have k0 : zK h 0 7 = some () := by
    obtain ⟨fa, st, ac, sz, tr, th, dg, m, O, P, -⟩ := I
    exact O.k
  obtain ⟨v, h1, h2, e1, e2, I2, k1⟩ := M_lay I (xs (p + 1)) (xs (p + 2))
  unfold f_L_law_b700 f_L_law_b1112
  rw [s1, Option.bind_some, s2, Option.bind_some, k0, Option.bind_some, e1, Option.bind_some]
  dsimp only
  rw [Option.bind_some, Option.bind_some, k1, Option.bind_some, e2, Option.bind_some]
  dsimp only
  rw [if_pos rfl]
  exact go h2 I2
theorem l_dig (I : INV h) (ha : a = nI p) (hp : p + 6 ≤ L) (hL : L < 1000000) (go : ∀ h', INV h' → K 0 241 (a + 6) h' = some 1) : f_L_law_b733 xs L K 0 241 a h = some 1 := by
  have s1 := zSc_of (xs := xs) (k := 1) ha (by omega) hL (1 : Int32) rfl
  have s2 := zSc_of (xs := xs) (k := 2) ha (by omega) hL (2 : Int32) rfl
  have k0 : zK h 0 7 = some () := by
    obtain ⟨fa, st, ac, sz, tr, th, dg, m, O, P, -⟩ := I
    exact O.k
  obtain ⟨v, h1, h2, e1, e2, I2, k1⟩ := M_dig I (xs (p + 1)) (xs (p + 2))
  unfold f_L_law_b733 f_L_law_b1112
  rw [s1, Option.bind_some, s2, Option.bind_some, k0, Option.bind_some, e1, Option.bind_some]
  dsimp only
  rw [Option.bind_some, Option.bind_some, k1, Option.bind_some, e2, Option.bind_some]
  dsimp only
  rw [if_pos rfl]
  exact go h2 I2
theorem l_whom (I : INV h) (ha : a = nI p) (hp : p + 6 ≤ L) (hL : L < 1000000) (go : ∀ h', INV h' → K 0 241 (a + 6) h' = some 1) : f_L_law_b766 xs L K 0 241 a h = some 1 := by
  have s1 := zSc_of (xs := xs) (k := 1) ha (by omega) hL (1 : Int32) rfl
  have k0 : zK h 0 7 = some () := by
    obtain ⟨fa, st, ac, sz, tr, th, dg, m, O, P, -⟩ := I
    exact O.k
  have k1 : zK h 241 8 = some () := by
    obtain ⟨fa, st, ac, sz, tr, th, dg, m, O, P, -⟩ := I
    exact P.k
  obtain ⟨v, e1, e2⟩ := M_whom I (xs (p + 1))
  unfold f_L_law_b766 f_L_law_b1112
  rw [s1, Option.bind_some, k0, Option.bind_some, e1, Option.bind_some, Option.bind_some, k1, Option.bind_some, e2, Option.bind_some, if_pos rfl]
  exact go h I
theorem l_halves (I : INV h) (ha : a = nI p) (hp : p + 6 ≤ L) (hL : L < 1000000) (go : ∀ h', INV h' → K 0 241 (a + 6) h' = some 1) : f_L_law_b789 xs L K 0 241 a h = some 1 := by
  have s1 := zSc_of (xs := xs) (k := 1) ha (by omega) hL (1 : Int32) rfl
  have k0 : zK h 0 7 = some () := by
    obtain ⟨fa, st, ac, sz, tr, th, dg, m, O, P, -⟩ := I
    exact O.k
  have k1 : zK h 241 8 = some () := by
    obtain ⟨fa, st, ac, sz, tr, th, dg, m, O, P, -⟩ := I
    exact P.k
  obtain ⟨v, e1, e2⟩ := M_halves I (xs (p + 1))
  unfold f_L_law_b789 f_L_law_b1112
  rw [s1, Option.bind_some, k0, Option.bind_some, e1, Option.bind_some, Option.bind_some, k1, Option.bind_some, e2, Option.bind_some, if_pos rfl]
  exact go h I
theorem l_fits (I : INV h) (ha : a = nI p) (hp : p + 6 ≤ L) (hL : L < 1000000) (go : ∀ h', INV h' → K 0 241 (a + 6) h' = some 1) : f_L_law_b812 xs L K 0 241 a h = some 1 := by
  have s1 := zSc_of (xs := xs) (k := 1) ha (by omega) hL (1 : Int32) rfl
  have s2 := zSc_of (xs := xs) (k := 2) ha (by omega) hL (2 : Int32) rfl
  have s3 := zSc_of (xs := xs) (k := 3) ha (by omega) hL (3 : Int32) rfl
  have s4 := zSc_of (xs := xs) (k := 4) ha (by omega) hL (4 : Int32) rfl
  have s5 := zSc_of (xs := xs) (k := 5) ha (by omega) hL (5 : Int32) rfl
  have k0 : zK h 0 7 = some () := by
    obtain ⟨fa, st, ac, sz, tr, th, dg, m, O, P, -⟩ := I
    exact O.k
  obtain ⟨v, h1, h2, e1, e2, I2, k1⟩ := M_fits I (xs (p + 1)) (xs (p + 2)) (xs (p + 3)) (xs (p + 4)) (xs (p + 5))
  unfold f_L_law_b812 f_L_law_b1112
  rw [s1, Option.bind_some, s2, Option.bind_some, s3, Option.bind_some, s4, Option.bind_some, s5, Option.bind_some, k0, Option.bind_some, e1, Option.bind_some]
  dsimp only
  rw [Option.bind_some, Option.bind_some, Option.bind_some, Option.bind_some, Option.bind_some, k1, Option.bind_some, e2, Option.bind_some]
  dsimp only
  rw [if_pos rfl]
  exact go h2 I2
theorem l_moles (I : INV h) (ha : a = nI p) (hp : p + 6 ≤ L) (hL : L < 1000000) (go : ∀ h', INV h' → K 0 241 (a + 6) h' = some 1) : f_L_law_b875 xs L K 0 241 a h = some 1 := by
  have s1 := zSc_of (xs := xs) (k := 1) ha (by omega) hL (1 : Int32) rfl
  have s2 := zSc_of (xs := xs) (k := 2) ha (by omega) hL (2 : Int32) rfl
  have s3 := zSc_of (xs := xs) (k := 3) ha (by omega) hL (3 : Int32) rfl
  have k0 : zK h 0 7 = some () := by
    obtain ⟨fa, st, ac, sz, tr, th, dg, m, O, P, -⟩ := I
    exact O.k
  obtain ⟨v, h1, h2, e1, e2, I2, k1⟩ := M_moles I (xs (p + 1)) (xs (p + 2)) (xs (p + 3))
  unfold f_L_law_b875 f_L_law_b1112
  rw [s1, Option.bind_some, s2, Option.bind_some, s3, Option.bind_some, k0, Option.bind_some, e1, Option.bind_some]
  dsimp only
  rw [Option.bind_some, Option.bind_some, Option.bind_some, k1, Option.bind_some, e2, Option.bind_some]
  dsimp only
  rw [if_pos rfl]
  exact go h2 I2
theorem l_image (I : INV h) (ha : a = nI p) (hp : p + 6 ≤ L) (hL : L < 1000000) (go : ∀ h', INV h' → K 0 241 (a + 6) h' = some 1) : f_L_law_b918 xs L K 0 241 a h = some 1 := by
  have s1 := zSc_of (xs := xs) (k := 1) ha (by omega) hL (1 : Int32) rfl
  have k0 : zK h 0 7 = some () := by
    obtain ⟨fa, st, ac, sz, tr, th, dg, m, O, P, -⟩ := I
    exact O.k
  obtain ⟨v, h1, h2, e1, e2, I2, k1⟩ := M_image I (xs (p + 1))
  unfold f_L_law_b918 f_L_law_b1112
  rw [s1, Option.bind_some, k0, Option.bind_some, e1, Option.bind_some]
  dsimp only
  rw [Option.bind_some, k1, Option.bind_some, e2, Option.bind_some]
  dsimp only
  rw [if_pos rfl]
  exact go h2 I2
theorem l_restore (I : INV h) (ha : a = nI p) (hp : p + 6 ≤ L) (hL : L < 1000000) (go : ∀ h', INV h' → K 0 241 (a + 6) h' = some 1) : f_L_law_b941 xs L K 0 241 a h = some 1 := by
  have s1 := zSc_of (xs := xs) (k := 1) ha (by omega) hL (1 : Int32) rfl
  have k0 : zK h 0 7 = some () := by
    obtain ⟨fa, st, ac, sz, tr, th, dg, m, O, P, -⟩ := I
    exact O.k
  obtain ⟨v, h1, h2, e1, e2, I2, k1⟩ := M_restore I (xs (p + 1))
  unfold f_L_law_b941 f_L_law_b1112
  rw [s1, Option.bind_some, k0, Option.bind_some, e1, Option.bind_some]
  dsimp only
  rw [Option.bind_some, k1, Option.bind_some, e2, Option.bind_some]
  dsimp only
  rw [if_pos rfl]
  exact go h2 I2
theorem l_kind (I : INV h) (ha : a = nI p) (hp : p + 6 ≤ L) (hL : L < 1000000) (go : ∀ h', INV h' → K 0 241 (a + 6) h' = some 1) : f_L_law_b964 xs L K 0 241 a h = some 1 := by
  have s1 := zSc_of (xs := xs) (k := 1) ha (by omega) hL (1 : Int32) rfl
  have k0 : zK h 0 7 = some () := by
    obtain ⟨fa, st, ac, sz, tr, th, dg, m, O, P, -⟩ := I
    exact O.k
  have k1 : zK h 241 8 = some () := by
    obtain ⟨fa, st, ac, sz, tr, th, dg, m, O, P, -⟩ := I
    exact P.k
  obtain ⟨v, e1, e2⟩ := M_kind I (xs (p + 1))
  unfold f_L_law_b964 f_L_law_b1112
  rw [s1, Option.bind_some, k0, Option.bind_some, e1, Option.bind_some, Option.bind_some, k1, Option.bind_some, e2, Option.bind_some, if_pos rfl]
  exact go h I
theorem l_as (I : INV h) (ha : a = nI p) (hp : p + 6 ≤ L) (hL : L < 1000000) (go : ∀ h', INV h' → K 0 241 (a + 6) h' = some 1) : f_L_law_b987 xs L K 0 241 a h = some 1 := by
  have s1 := zSc_of (xs := xs) (k := 1) ha (by omega) hL (1 : Int32) rfl
  have s2 := zSc_of (xs := xs) (k := 2) ha (by omega) hL (2 : Int32) rfl
  have k0 : zK h 0 7 = some () := by
    obtain ⟨fa, st, ac, sz, tr, th, dg, m, O, P, -⟩ := I
    exact O.k
  obtain ⟨v, h1, h2, e1, e2, I2, k1⟩ := M_as I (xs (p + 1)) (xs (p + 2))
  unfold f_L_law_b987 f_L_law_b1112
  rw [s1, Option.bind_some, s2, Option.bind_some, k0, Option.bind_some, e1, Option.bind_some]
  dsimp only
  rw [Option.bind_some, Option.bind_some, k1, Option.bind_some, e2, Option.bind_some]
  dsimp only
  rw [if_pos rfl]
  exact go h2 I2
theorem l_ask (I : INV h) (ha : a = nI p) (hp : p + 6 ≤ L) (hL : L < 1000000) (go : ∀ h', INV h' → K 0 241 (a + 6) h' = some 1) : f_L_law_b1020 xs L K 0 241 a h = some 1 := by
  have s1 := zSc_of (xs := xs) (k := 1) ha (by omega) hL (1 : Int32) rfl
  have s2 := zSc_of (xs := xs) (k := 2) ha (by omega) hL (2 : Int32) rfl
  have k0 : zK h 0 7 = some () := by
    obtain ⟨fa, st, ac, sz, tr, th, dg, m, O, P, -⟩ := I
    exact O.k
  obtain ⟨v, h1, h2, e1, e2, I2, k1⟩ := M_ask I (xs (p + 1)) (xs (p + 2))
  unfold f_L_law_b1020 f_L_law_b1112
  rw [s1, Option.bind_some, s2, Option.bind_some, k0, Option.bind_some, e1, Option.bind_some]
  dsimp only
  rw [Option.bind_some, Option.bind_some, k1, Option.bind_some, e2, Option.bind_some]
  dsimp only
  rw [if_pos rfl]
  exact go h2 I2
theorem l_trace (I : INV h) (ha : a = nI p) (hp : p + 6 ≤ L) (hL : L < 1000000) (go : ∀ h', INV h' → K 0 241 (a + 6) h' = some 1) : f_L_law_b1053 xs L K 0 241 a h = some 1 := by
  have s1 := zSc_of (xs := xs) (k := 1) ha (by omega) hL (1 : Int32) rfl
  have k0 : zK h 0 7 = some () := by
    obtain ⟨fa, st, ac, sz, tr, th, dg, m, O, P, -⟩ := I
    exact O.k
  have k1 : zK h 241 8 = some () := by
    obtain ⟨fa, st, ac, sz, tr, th, dg, m, O, P, -⟩ := I
    exact P.k
  obtain ⟨v, e1, e2⟩ := M_trace I (xs (p + 1))
  unfold f_L_law_b1053 f_L_law_b1112
  rw [s1, Option.bind_some, k0, Option.bind_some, e1, Option.bind_some, Option.bind_some, k1, Option.bind_some, e2, Option.bind_some, if_pos rfl]
  exact go h I
theorem l_count (I : INV h) (ha : a = nI p) (hp : p + 6 ≤ L) (hL : L < 1000000) (go : ∀ h', INV h' → K 0 241 (a + 6) h' = some 1) : f_L_law_b1076 xs L K 0 241 a h = some 1 := by
  have s1 := zSc_of (xs := xs) (k := 1) ha (by omega) hL (1 : Int32) rfl
  have k0 : zK h 0 7 = some () := by
    obtain ⟨fa, st, ac, sz, tr, th, dg, m, O, P, -⟩ := I
    exact O.k
  have k1 : zK h 241 8 = some () := by
    obtain ⟨fa, st, ac, sz, tr, th, dg, m, O, P, -⟩ := I
    exact P.k
  obtain ⟨v, e1, e2⟩ := M_count I (xs (p + 1))
  unfold f_L_law_b1076 f_L_law_b1112
  rw [s1, Option.bind_some, k0, Option.bind_some, e1, Option.bind_some, Option.bind_some, k1, Option.bind_some, e2, Option.bind_some, if_pos rfl]
  exact go h I
theorem l_status (I : INV h) (ha : a = nI p) (hp : p + 6 ≤ L) (hL : L < 1000000) (go : ∀ h', INV h' → K 0 241 (a + 6) h' = some 1) : f_L_law_b1099 xs L K 0 241 a h = some 1 := by
  have k0 : zK h 0 7 = some () := by
    obtain ⟨fa, st, ac, sz, tr, th, dg, m, O, P, -⟩ := I
    exact O.k
  have k1 : zK h 241 8 = some () := by
    obtain ⟨fa, st, ac, sz, tr, th, dg, m, O, P, -⟩ := I
    exact P.k
  obtain ⟨v, e1, e2⟩ := M_status I
  unfold f_L_law_b1099 f_L_law_b1112
  rw [k0, Option.bind_some, e1, Option.bind_some, k1, Option.bind_some, e2, Option.bind_some, if_pos rfl]
  exact go h I
end LOOP
theorem l_loop {xs : Nat → Int32} {L : Nat} (hL : L ≤ 384) : ∀ (k c n : Nat) (h : zH), 6 * c ≤ L → c + k = 64 → k < n → INV h → f_L_law_b18 xs L n 0 241 (nI (6 * c)) h = some 1 := by
  intro k
  induction k with
  | zero =>
    intro c n h hc hk hn I
    obtain ⟨n, rfl⟩ : ∃ x, n = x + 1 := ⟨n - 1, by omega⟩
    rw [e_L_law_b18, if_pos]
    show nI L - nI 6 < nI (6 * c)
    rw [Int32.lt_iff_toInt_lt, pk_sub_toInt (by omega) (by omega), nI_toInt (by omega)]
    omega
  | succ k ih =>
    intro c n h hc hk hn I
    obtain ⟨n, rfl⟩ : ∃ x, n = x + 1 := ⟨n - 1, by omega⟩
    have ce : (((Int32.ofNat L) - (6 : Int32)) < nI (6 * c)) = (L < 6 * c + 6) := by
      show (nI L - nI 6 < nI (6 * c)) = _
      rw [Int32.lt_iff_toInt_lt, pk_sub_toInt (by omega) (by omega), nI_toInt (by omega)]
      exact propext ⟨fun q => by omega, fun q => by omega⟩
    rw [e_L_law_b18]
    by_cases cl : L < 6 * c + 6
    · rw [if_pos (by rw [ce]; exact cl)]
    rw [if_neg (by rw [ce]; exact cl)]
    have go : ∀ h', INV h' → f_L_law_b18 xs L n 0 241 (nI (6 * c) + 6) h' = some 1 := fun h' I' => by
      have := ih (c + 1) n h' (by omega) (by omega) (by omega) I'
      rw [show 6 * (c + 1) = 6 * c + 6 by omega, ← nI_add] at this
      exact this
    have ha : nI (6 * c) = nI (6 * c) := rfl
    have hp : 6 * c + 6 ≤ L := by omega
    have hL' : L < 1000000 := by omega
    generalize 6 * c = p at ha hp go
    rw [zSc_0 ha (by omega) hL', Option.bind_some]
    by_cases c0 : xs p &&& (31 : Int32) = 0
    · rw [if_pos c0]
      exact l_row I ha hp hL' go
    rw [if_neg c0]
    by_cases c1 : xs p &&& (31 : Int32) = 1
    · rw [if_pos c1]
      exact l_set I ha hp hL' go
    rw [if_neg c1]
    by_cases c2 : xs p &&& (31 : Int32) = 2
    · rw [if_pos c2]
      exact l_copy I ha hp hL' go
    rw [if_neg c2]
    by_cases c3 : xs p &&& (31 : Int32) = 3
    · rw [if_pos c3]
      exact l_drop I ha hp hL' go
    rw [if_neg c3]
    by_cases c4 : xs p &&& (31 : Int32) = 4
    · rw [if_pos c4]
      exact l_feed I ha hp hL' go
    rw [if_neg c4]
    by_cases c5 : xs p &&& (31 : Int32) = 5
    · rw [if_pos c5]
      exact l_mine I ha hp hL' go
    rw [if_neg c5]
    by_cases c6 : xs p &&& (31 : Int32) = 6
    · rw [if_pos c6]
      exact l_fault I ha hp hL' go
    rw [if_neg c6]
    by_cases c7 : xs p &&& (31 : Int32) = 7
    · rw [if_pos c7]
      exact l_years I ha hp hL' go
    rw [if_neg c7]
    by_cases c8 : xs p &&& (31 : Int32) = 8
    · rw [if_pos c8]
      exact l_bury I ha hp hL' go
    rw [if_neg c8]
    by_cases c9 : xs p &&& (31 : Int32) = 9
    · rw [if_pos c9]
      exact l_tell I ha hp hL' go
    rw [if_neg c9]
    by_cases c10 : xs p &&& (31 : Int32) = 10
    · rw [if_pos c10]
      exact l_undo I ha hp hL' go
    rw [if_neg c10]
    by_cases c11 : xs p &&& (31 : Int32) = 11
    · rw [if_pos c11]
      exact l_thing I ha hp hL' go
    rw [if_neg c11]
    by_cases c12 : xs p &&& (31 : Int32) = 12
    · rw [if_pos c12]
      exact l_knows I ha hp hL' go
    rw [if_neg c12]
    by_cases c13 : xs p &&& (31 : Int32) = 13
    · rw [if_pos c13]
      exact l_ahead I ha hp hL' go
    rw [if_neg c13]
    by_cases c14 : xs p &&& (31 : Int32) = 14
    · rw [if_pos c14]
      exact l_up I ha hp hL' go
    rw [if_neg c14]
    by_cases c15 : xs p &&& (31 : Int32) = 15
    · rw [if_pos c15]
      exact l_comesUp I ha hp hL' go
    rw [if_neg c15]
    by_cases c16 : xs p &&& (31 : Int32) = 16
    · rw [if_pos c16]
      exact l_first I ha hp hL' go
    rw [if_neg c16]
    by_cases c17 : xs p &&& (31 : Int32) = 17
    · rw [if_pos c17]
      exact l_trouble I ha hp hL' go
    rw [if_neg c17]
    by_cases c18 : xs p &&& (31 : Int32) = 18
    · rw [if_pos c18]
      exact l_lay I ha hp hL' go
    rw [if_neg c18]
    by_cases c19 : xs p &&& (31 : Int32) = 19
    · rw [if_pos c19]
      exact l_dig I ha hp hL' go
    rw [if_neg c19]
    by_cases c20 : xs p &&& (31 : Int32) = 20
    · rw [if_pos c20]
      exact l_whom I ha hp hL' go
    rw [if_neg c20]
    by_cases c21 : xs p &&& (31 : Int32) = 21
    · rw [if_pos c21]
      exact l_halves I ha hp hL' go
    rw [if_neg c21]
    by_cases c22 : xs p &&& (31 : Int32) = 22
    · rw [if_pos c22]
      exact l_fits I ha hp hL' go
    rw [if_neg c22]
    by_cases c23 : xs p &&& (31 : Int32) = 23
    · rw [if_pos c23]
      exact l_moles I ha hp hL' go
    rw [if_neg c23]
    by_cases c24 : xs p &&& (31 : Int32) = 24
    · rw [if_pos c24]
      exact l_image I ha hp hL' go
    rw [if_neg c24]
    by_cases c25 : xs p &&& (31 : Int32) = 25
    · rw [if_pos c25]
      exact l_restore I ha hp hL' go
    rw [if_neg c25]
    by_cases c26 : xs p &&& (31 : Int32) = 26
    · rw [if_pos c26]
      exact l_kind I ha hp hL' go
    rw [if_neg c26]
    by_cases c27 : xs p &&& (31 : Int32) = 27
    · rw [if_pos c27]
      exact l_as I ha hp hL' go
    rw [if_neg c27]
    by_cases c28 : xs p &&& (31 : Int32) = 28
    · rw [if_pos c28]
      exact l_ask I ha hp hL' go
    rw [if_neg c28]
    by_cases c29 : xs p &&& (31 : Int32) = 29
    · rw [if_pos c29]
      exact l_trace I ha hp hL' go
    rw [if_neg c29]
    by_cases c30 : xs p &&& (31 : Int32) = 30
    · rw [if_pos c30]
      exact l_count I ha hp hL' go
    rw [if_neg c30]
    by_cases c31 : xs p &&& (31 : Int32) = 31
    · rw [if_pos c31]
      exact l_status I ha hp hL' go
    rw [if_neg c31]
    unfold f_L_law_b1112
    exact go h I
theorem zlaw (xs : Nat → Int32) {L : Nat} (hL : L ≤ 384) : f_L_law xs L [] = some 1 := by
  obtain ⟨h, I, e⟩ := zMade
  have e2 := e (fun r1 r2 q => f_L_law_b18 xs L zF r1 r2 (0 : Int32) q)
  exact e2.trans (l_loop hL 64 0 zF h (by omega) (by omega) (by show 64 < 5000; omega) I)
