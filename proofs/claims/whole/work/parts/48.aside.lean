/-! PURE: where all are to lie, in numbers (the proofs come later); what stands between two calls, whole -/
def sPc (n c t : Nat) : Nat := c / 4 ^ (n - 1 - t) % 4
def sLaid (m : Nat → Nat) (c : Nat) : Nat → Nat := fun j => if 18 ≤ j ∧ j < 18 + m 0 then sPc (m 0) c (j - 18) else m j
/-- how many a way moves, from t on; none, if one that is up -/
def sMv (m : Nat → Nat) (c : Nat) : Nat → Nat → Option Nat
  | 0, _ => some 0
  | k + 1, t => if sPc (m 0) c t = m (18 + t) then sMv m c k (t + 1) else if m (13 + t) = 0 then none else (sMv m c k (t + 1)).map (fun x => x + 1)
/-- k years go in which none are too near and those up are u -/
def sOkY (u : Int32) : Nat → (Nat → Nat) → Bool
  | 0, _ => true
  | k + 1, m => decide (sT2 m (m 0) 0 = none) && decide (sUp m (m 0) 0 0 = u) && sOkY u k (sYear m)
def sOk (m : Nat → Nat) (d c : Nat) : Bool := sOkY (sUp m (m 0) 0 0) (d + 1) (sLaid m c)
/-- the first way, from c on, that moves few and holds -/
def sFind (m : Nat → Nat) (d few : Nat) : Nat → Nat → Option Nat
  | 0, _ => none
  | k + 1, c => if sMv m c (m 0) 0 = some few ∧ sOk m d c = true then some c else sFind m d few k (c + 1)
def sFew (m : Nat → Nat) (d : Nat) : Nat → Nat → Option (Nat × Nat)
  | 0, _ => none
  | k + 1, few => match sFind m d few (4 ^ m 0) 0 with
    | some c => some (few, c)
    | none => sFew m d k (few + 1)
def sLay (m : Nat → Nat) (d : Nat) : Option (Nat × Nat) := sFew m d (m 0 + 1) 0
def sLayN (o : Option (Nat × Nat)) : Int32 := match o with
  | none => -1000000
  | some x => nI x.1
def iL (h : zH) : Prop := ∃ (ay : Int32) (f : Nat → Int32) (th dg : Int32) (m : Nat → Nat) (mv : Int32), h[209]? = some (.inr (2, [.ref 210, .ref 217, .int ay, .ref 224, .int mv])) ∧ zSh h 210 ∧ zMi h 217 th dg m ∧ gM th m ∧ h[224]? = some (.inl (0, 5, .inl f)) ∧ (ay = -1 ∨ ∃ d, d ≤ 60 ∧ ay = nI d ∧ mv = sLayN (sLay m d) ∧ ∀ few c, sLay m d = some (few, c) → ∀ t, t < m 0 → f t = nI (sPc (m 0) c t))
theorem iL.keep {h h' : zH} (H : iL h) (e : ∀ j, 209 ≤ j ∧ j ≤ 224 → h'[j]? = h[j]?) : iL h' := by
  obtain ⟨ay, f, th, dg, m, mv, h1, h2, h3, h4, h5, h6⟩ := H
  exact ⟨ay, f, th, dg, m, mv, (e _ (by omega)).trans h1, h2.keep (fun j _ _ => e j (by omega)), h3.keep (fun j _ _ => e j (by omega)), h4, (e _ (by omega)).trans h5, h6⟩
def INV (h : zH) : Prop := ∃ (fa st : Int32) (ac sz tr : Nat) (th dg : Int32) (m : Nat → Nat), iO h fa st ∧ iP h fa st (nI ac) (nI sz) (nI tr) ∧ iR h ∧ iT h sz ∧ iN h th dg m ∧ iA h ac ∧ iI h ∧ iC h tr ∧ iS h ∧ iX h ∧ iL h
/-- the reference's own room -/
def iZ (h : zH) : Prop := (∃ f, h[247]? = some (.inl (0, 30, .inl f))) ∧ zAr h 253 0 (fun _ => 0)
theorem iX.z {h : zH} (X : iX h) : iZ h := by
  obtain ⟨h1, h2, h3, ⟨f, h4⟩, h5⟩ := X
  exact ⟨h3, f, h4, fun t ht => by omega⟩
theorem zMo.row {h : zH} {q : Nat} {dg : Int32} {m : Nat → Nat} (H : zMo h q dg m) : ∃ f, h[q]? = some (.inl (0, 30, .inl f)) := by
  obtain ⟨f, hf, -⟩ := H
  exact ⟨f, hf⟩
/-- only what looks ahead has been used -/
def sFr (h h' : zH) : Prop := ∀ j, (j < 201 ∨ 207 < j) → j ≠ 247 → j ≠ 253 → h'[j]? = h[j]?
theorem INV.sc {h h' : zH} (I : INV h) (F : sFr h h') (s : zSh h' 201) (z : iZ h') : INV h' := by
  obtain ⟨fa, st, ac, sz, tr, th, dg, m, O, P, R, T, N, A, Im, C, S, X, L⟩ := I
  obtain ⟨s1, s2, f, s3⟩ := S
  obtain ⟨x1, x2, x3, x4, x5, x6⟩ := X
  obtain ⟨z1, ⟨g, z2, -⟩⟩ := z
  refine ⟨fa, st, ac, sz, tr, th, dg, m, O.keep (F _ (by omega) (by omega) (by omega)), P.keep (F _ (by omega) (by omega) (by omega)), R.keep (fun j _ => F j (by omega) (by omega) (by omega)), T.keep (fun j _ => F j (by omega) (by omega) (by omega)), N.keep (fun j _ => F j (by omega) (by omega) (by omega)), A.keep (fun j _ => F j (by omega) (by omega) (by omega)), Im.keep (fun j _ => F j (by omega) (by omega) (by omega)), C.keep (fun j _ => F j (by omega) (by omega) (by omega)), ⟨(F _ (by omega) (by omega) (by omega)).trans s1, s, f, (F _ (by omega) (by omega) (by omega)).trans s3⟩, ⟨x1.keep (fun j _ _ => F j (by omega) (by omega) (by omega)), ?_, z1, ⟨g, z2⟩, ?_, ?_⟩, L.keep (fun j _ => F j (by omega) (by omega) (by omega))⟩
  · rw [F _ (by omega) (by omega) (by omega)]; exact x2
  · rw [F _ (by omega) (by omega) (by omega)]; exact x5
  · rw [F _ (by omega) (by omega) (by omega)]; exact x6
def rFr (h h' : zH) : Prop := ∀ j, j ≠ 247 → j ≠ 253 → h'[j]? = h[j]?
theorem rFr.rf {h : zH} : rFr h h := fun _ _ _ => rfl
theorem rFr.tr {h h1 h2 : zH} (a : rFr h h1) (b : rFr h1 h2) : rFr h h2 := fun j x y => (b j x y).trans (a j x y)
/-- both sides have looked ahead -/
theorem INV.sc2 {h h1 h2 : zH} (I : INV h) (F1 : zFr h h1 201 7) (S1 : iS h1) (F2 : rFr h1 h2) (z : iZ h2) : INV h2 :=
  I.sc (fun j a b c => (F2 j b c).trans (F1 j (by omega))) (S1.2.1.keep (fun j _ _ => F2 j (by omega) (by omega))) z
section ASIDE
variable {fa st ac sz tr dg : Int32} {m : Nat → Nat}
theorem r_aside {h : zH} (P : iP h fa st ac sz tr) (H : zMo h 245 dg m) (v : vM m) (Z : iZ h) : ∃ h', f_X8_layAside 241 h = some h' ∧ zMo h' 247 dg m ∧ iP h' fa st ac sz tr ∧ iZ h' ∧ (∀ j, j ≠ 247 → h'[j]? = h[j]?) ∧ rFr h h' := by
  obtain ⟨f, hf, g1, g2, g3, g4, g5, g6⟩ := H
  obtain ⟨⟨g, hg⟩, z2⟩ := Z
  have h5 := v.1
  obtain ⟨h', e, hb, k⟩ := r_copies (i := 0) (j := 0) (n0 := 30) (n1 := 30) (a := 245) (b := 247) (by omega) (by omega) (by omega) (by omega) (by omega) hf hg
  have key : ∀ x, x < 30 → zcp30 f 0 g 0 30 x = f x := fun x hx => by
    unfold zcp30
    rw [if_pos (by omega), Nat.zero_add, Nat.sub_zero]
  unfold f_X8_layAside
  rw [P.r4, Option.bind_some, P.r6, Option.bind_some, show (0 : Int32) = nI 0 from rfl, e, Option.bind_some]
  refine ⟨h', rfl, ⟨_, hb, ?_⟩, P.keep (k _ (by omega)), ⟨⟨_, hb⟩, z2.keep (k _ (by omega))⟩, k, fun j a _ => k j a⟩
  refine ⟨(key _ (by omega)).trans g1, (key _ (by omega)).trans g2, (key _ (by omega)).trans g3, (key _ (by omega)).trans g4, (key _ (by omega)).trans g5, fun t ht => ?_⟩
  obtain ⟨a, b, c, d, e⟩ := g6 t ht
  exact ⟨(key _ (by omega)).trans a, (key _ (by omega)).trans b, (key _ (by omega)).trans c, (key _ (by omega)).trans d, (key _ (by omega)).trans e⟩
theorem r_yr {h : zH} (P : iP h fa st ac sz tr) (H : zMo h 247 dg m) (v : vM m) (Z : iZ h) : ∃ h', f_X8_yearGoes 241 247 h = some h' ∧ zMo h' 247 dg (sYear m) ∧ iP h' fa st ac sz tr ∧ iZ h' ∧ rFr h h' := by
  obtain ⟨h', e, H', A', F⟩ := r_year H v (R := 253) (by omega) (p := 241) (by omega) (by omega) P.r21 Z.2
  exact ⟨h', e, H', P.keep (F _ (by omega) (by omega)), ⟨H'.row, A'⟩, F⟩
theorem r_go_b2 {d : Nat} (hd : d ≤ 1000) : ∀ (k i n : Nat) (h : zH) (m : Nat → Nat), i + k = d → k < n → vM m → m 28 + k ≤ 5000 → zMo h 247 dg m → iP h fa st ac sz tr → iZ h → ∃ h', f_X8_go_b2 n 241 (nI d) (nI i) h = some h' ∧ zMo h' 247 dg (sIt m k) ∧ iP h' fa st ac sz tr ∧ iZ h' ∧ rFr h h' := by
  intro k
  induction k with
  | zero =>
    intro i n h m hi hn v hy H P Z
    obtain ⟨n, rfl⟩ : ∃ x, n = x + 1 := ⟨n - 1, by omega⟩
    rw [e_X8_go_b2, if_pos (nI_le (by omega) (by omega))]
    exact ⟨h, rfl, H, P, Z, rFr.rf⟩
  | succ k ih =>
    intro i n h m hi hn v hy H P Z
    obtain ⟨n, rfl⟩ : ∃ x, n = x + 1 := ⟨n - 1, by omega⟩
    obtain ⟨h1, e1, H1, P1, Z1, F1⟩ := r_yr P H v Z
    rw [e_X8_go_b2, if_neg (nI_ge (by omega) (by omega)), P.r6, Option.bind_some, P.k, Option.bind_some, e1, Option.bind_some, nI_1]
    obtain ⟨h2, e2, H2, P2, Z2, F2⟩ := ih (i + 1) n h1 _ (by omega) (by omega) (sYear_v v (by omega)) (by rw [sYear_28]; omega) H1 P1 Z1
    exact ⟨h2, e2, H2, P2, Z2, F1.tr F2⟩
theorem r_go {h : zH} {d : Nat} (hd : d ≤ 1000) (P : iP h fa st ac sz tr) (H : zMo h 247 dg m) (v : vM m) (hy : m 28 + d ≤ 5000) (Z : iZ h) : ∃ h', f_X8_go 241 (nI d) h = some h' ∧ zMo h' 247 dg (sIt m d) ∧ iP h' fa st ac sz tr ∧ iZ h' ∧ rFr h h' :=
  r_go_b2 hd d 0 zF h m (by omega) (by show d < 5000; omega) v hy H P Z
theorem r_go1 {h : zH} (P : iP h fa st ac sz tr) (H : zMo h 247 dg m) (v : vM m) (hy : m 28 + 1 ≤ 5000) (Z : iZ h) : ∃ h', f_X8_go 241 (1 : Int32) h = some h' ∧ zMo h' 247 dg (sYear m) ∧ iP h' fa st ac sz tr ∧ iZ h' ∧ rFr h h' := r_go (d := 1) (by omega) P H v hy Z
theorem r_until_b17 {t : Nat} : ∀ (k i n : Nat) (h : zH) (m : Nat → Nat), i + k = 100 → k < n → vM m → m 28 + k ≤ 5000 → t < m 0 → zMo h 247 dg m → iP h fa st ac sz tr → iZ h → ∃ h', f_X8_comesUp_b17 n 241 (nI t) (nI i) h = some (sCU t k i m, h') ∧ iZ h' ∧ rFr h h' := by
  intro k
  induction k with
  | zero =>
    intro i n h m hi hn v hy ht H P Z
    obtain ⟨n, rfl⟩ : ∃ x, n = x + 1 := ⟨n - 1, by omega⟩
    rw [e_X8_comesUp_b17, z100, if_pos (nI_le (by omega) (by omega))]
    exact ⟨h, rfl, Z, rFr.rf⟩
  | succ k ih =>
    intro i n h m hi hn v hy ht H P Z
    obtain ⟨n, rfl⟩ : ∃ x, n = x + 1 := ⟨n - 1, by omega⟩
    have h5 := v.1
    rw [e_X8_comesUp_b17, z100, if_neg (nI_ge (by omega) (by omega)), P.r6, Option.bind_some, r_lies H v ht, Option.bind_some, sCU]
    by_cases c : m (13 + t) = 0
    · rw [if_pos (by rw [zb_0]; simpa using c), if_pos c]
      exact ⟨h, rfl, Z, rFr.rf⟩
    · obtain ⟨h1, e1, H1, P1, Z1, F1⟩ := r_go1 P H v (by omega) Z
      rw [if_neg (by rw [zb_0]; simpa using c), if_neg c, P.k, Option.bind_some, e1, Option.bind_some, nI_1]
      obtain ⟨h2, e2, Z2, F2⟩ := ih (i + 1) n h1 _ (by omega) (by omega) (sYear_v v (by omega)) (by rw [sYear_28]; omega) (by rw [sYear_0 m h5]; exact ht) H1 P1 Z1
      exact ⟨h2, e2, Z2, F1.tr F2⟩
theorem r_first_b61 {K : Nat → Int32 → Int32 → Int32 → zH → Option (Int32 × zH)} {h : zH} (a1 b a3 x : Int32) : ∀ (k t n : Nat), t + k = 5 → k < n → f_X8_first_b61 K n 241 a1 b a3 x (nI t) h = (match sLeast x k t with
    | none => K 241 a1 b (a3 + 1) h
    | some y => if a1 = 0 then some (nI y, h) else some (a3, h)) := by
  intro k
  induction k with
  | zero =>
    intro t n ht hn
    obtain ⟨n, rfl⟩ : ∃ y, n = y + 1 := ⟨n - 1, by omega⟩
    rw [e_X8_first_b61, z5, if_pos (nI_le (by omega) (by omega))]
    rfl
  | succ k ih =>
    intro t n ht hn
    obtain ⟨n, rfl⟩ : ∃ y, n = y + 1 := ⟨n - 1, by omega⟩
    rw [e_X8_first_b61, z5, if_neg (nI_ge (by omega) (by omega)), nI_1, sLeast, r_has, Option.bind_some]
    by_cases c : (x >>> (nI t &&& 31)) &&& (1 : Int32) = (1 : Int32)
    · rw [if_neg (by rw [zb_0]; simpa using c), if_pos c]
    · rw [if_pos (by rw [zb_0]; exact c), if_neg c, ih (t + 1) n (by omega) (by omega)]
theorem r_first_b34 {b a1 : Int32} {w : Bool} (hw : (a1 = 0) ↔ w = true) : ∀ (k i n : Nat) (h : zH) (m : Nat → Nat), i + k = 100 → k < n → vM m → m 28 + k ≤ 5000 → zMo h 247 dg m → iP h fa st ac sz tr → iZ h → ∃ h', f_X8_first_b34 n 241 a1 b (nI i) h = some (sFU b w k i m, h') ∧ iZ h' ∧ rFr h h' := by
  intro k
  induction k with
  | zero =>
    intro i n h m hi hn v hy H P Z
    obtain ⟨n, rfl⟩ : ∃ x, n = x + 1 := ⟨n - 1, by omega⟩
    rw [e_X8_first_b34, z100, if_pos (nI_le (by omega) (by omega))]
    exact ⟨h, rfl, Z, rFr.rf⟩
  | succ k ih =>
    intro i n h m hi hn v hy H P Z
    obtain ⟨n, rfl⟩ : ∃ x, n = x + 1 := ⟨n - 1, by omega⟩
    have h5 := v.1
    obtain ⟨h1, e1, H1, P1, Z1, F1⟩ := r_go1 P H v (by omega) Z
    have v1 := sYear_v v (by omega)
    obtain ⟨h2, e2, Z2, F2⟩ := ih (i + 1) n h1 _ (by omega) (by omega) v1 (by rw [sYear_28]; omega) H1 P1 Z1
    rw [e_X8_first_b34, z100, if_neg (nI_ge (by omega) (by omega)), P.k, Option.bind_some, e1, Option.bind_some, P1.r6, Option.bind_some, r_upOf H1 v1, Option.bind_some, zLet_eq, sYear_0 m h5, show (0 : Int32) = nI 0 from rfl, r_first_b61 _ _ _ _ 5 0 zF (by omega) (by show 5 < 5000; omega), ← show (0 : Int32) = nI 0 from rfl, nI_1, e2, sFU]
    cases hs : sLeast (sUp (sYear m) (m 0) 0 0 &&& (b ^^^ (-1 : Int32))) 5 0 with
    | none => exact ⟨h2, rfl, Z2, F1.tr F2⟩
    | some t =>
      dsimp only
      by_cases c : a1 = 0
      · rw [if_pos c, if_pos (hw.mp c)]
        exact ⟨h1, rfl, Z1, F1⟩
      · rw [if_neg c, if_neg (fun q => c (hw.mpr q))]
        exact ⟨h1, rfl, Z1, F1⟩
theorem r_trouble_b26 {a1 : Int32} {w : Bool} (hw : (a1 = 0) ↔ w = true) : ∀ (k i n : Nat) (h : zH) (m : Nat → Nat), i + k = 100 → k < n → vM m → m 28 + k ≤ 5000 → zMo h 247 dg m → iP h fa st ac sz tr → iZ h → ∃ h', f_X8_trouble_b26 n 241 a1 (nI i) h = some (sTr w k i m, h') ∧ iZ h' ∧ rFr h h' := by
  intro k
  induction k with
  | zero =>
    intro i n h m hi hn v hy H P Z
    obtain ⟨n, rfl⟩ : ∃ x, n = x + 1 := ⟨n - 1, by omega⟩
    rw [e_X8_trouble_b26, z100, if_pos (nI_le (by omega) (by omega))]
    exact ⟨h, rfl, Z, rFr.rf⟩
  | succ k ih =>
    intro i n h m hi hn v hy H P Z
    obtain ⟨n, rfl⟩ : ∃ x, n = x + 1 := ⟨n - 1, by omega⟩
    have h5 := v.1
    rw [e_X8_trouble_b26, z100, if_neg (nI_ge (by omega) (by omega)), P.r6, Option.bind_some, r_two H v, Option.bind_some, sTr]
    cases hs : sT2 m (m 0) 0 with
    | none =>
      obtain ⟨h1, e1, H1, P1, Z1, F1⟩ := r_go1 P H v (by omega) Z
      obtain ⟨h2, e2, Z2, F2⟩ := ih (i + 1) n h1 _ (by omega) (by omega) (sYear_v v (by omega)) (by rw [sYear_28]; omega) H1 P1 Z1
      rw [if_pos (show zno none = (-1000000 : Int32) from rfl), P.k, Option.bind_some, e1, Option.bind_some, nI_1]
      exact ⟨h2, e2, Z2, F1.tr F2⟩
    | some x =>
      have hx := sT2_lt _ _ hs
      rw [if_neg (show ¬ zno (some x) = (-1000000 : Int32) from zno_ne (by omega))]
      by_cases c : a1 = 0
      · rw [if_pos c]
        dsimp only
        rw [if_pos (hw.mp c)]
        exact ⟨h, rfl, Z, rFr.rf⟩
      · rw [if_neg c]
        dsimp only
        rw [if_neg (fun q => c (hw.mpr q))]
        exact ⟨h, rfl, Z, rFr.rf⟩
theorem r_dig_b20 (v : vM m) (hy : m 28 ≤ 999) {t d : Nat} (ht : t < m 0) (hd : d ≤ 60) : ∀ (k i n : Nat) (h : zH), i + k = 41 → k < n → 1 ≤ i → zMo h 245 dg m → iP h fa st ac sz tr → iZ h → ∃ h', f_X8_dig_b20 n 241 (nI t) (nI d) (nI i) h = some (sLD m t d k i, h') ∧ iZ h' ∧ rFr h h' := by
  intro k
  have h5 := v.1
  induction k with
  | zero =>
    intro i n h hi hn h1 H P Z
    obtain ⟨n, rfl⟩ : ∃ x, n = x + 1 := ⟨n - 1, by omega⟩
    rw [e_X8_dig_b20, z41, if_pos (nI_le (by omega) (by omega))]
    exact ⟨h, rfl, Z, rFr.rf⟩
  | succ k ih =>
    intro i n h hi hn hi1 H P Z
    obtain ⟨n, rfl⟩ : ∃ x, n = x + 1 := ⟨n - 1, by omega⟩
    obtain ⟨h1, e1, H1, P1, Z1, F1, F1r⟩ := r_aside P H v Z
    obtain ⟨e, e2, H2⟩ := H1.st (j := 13 + t) (x := i) (by omega) (by omega)
    have F2 : rFr h1 (h1.set 247 e) := fun j a b => zset_ne a
    have P2 := P1.keep (h' := h1.set 247 e) (zset_ne (by omega))
    have Z2 : iZ (h1.set 247 e) := ⟨H2.row, Z1.2.keep (zset_ne (by omega))⟩
    have v2 : vM (mup m (13 + t) i) := mup_v v (by omega) (by omega)
    have y2 : mup m (13 + t) i 28 = m 28 := mup_n m i (by omega)
    have n2 : mup m (13 + t) i 0 = m 0 := mup_n m i (by omega)
    obtain ⟨h3, e3, H3, P3, Z3, F3⟩ := r_go (d := d) (by omega) P2 H2 v2 (by rw [y2]; omega) Z2
    have v3 := sIt_v d _ v2 (by rw [y2]; omega)
    have F13 := (F1r.tr F2).tr F3
    rw [e_X8_dig_b20, z41, if_neg (nI_ge (by omega) (by omega)), P.k, Option.bind_some, e1, Option.bind_some, P1.r6, Option.bind_some, z13, nI_add, e2, Option.bind_some, P2.k, Option.bind_some, e3, Option.bind_some, P3.r6, Option.bind_some, r_lies H3 v3 (by rw [sIt_0 _ _ v2.1, n2]; exact ht), Option.bind_some, sLD, nI_1]
    by_cases c : sIt (mup m (13 + t) i) d (13 + t) = 0
    · rw [if_pos (by rw [zb_0]; simpa using c), if_pos c]
      obtain ⟨h4, e4, Z4, F4⟩ := ih (i + 1) n h3 (by omega) (by omega) (by omega) (H.keep (F13 _ (by omega) (by omega))) P3 Z3
      exact ⟨h4, e4, Z4, F13.tr F4⟩
    · rw [if_neg (by rw [zb_0]; simpa using c), if_neg c]
      exact ⟨h3, rfl, Z3, F13⟩
end ASIDE
