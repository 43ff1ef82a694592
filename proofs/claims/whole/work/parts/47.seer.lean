/-! PURE: years ahead, on both sides -/
/-- d years go -/
def sIt (m : Nat → Nat) : Nat → Nat → Nat
  | 0 => m
  | d + 1 => sIt (sYear m) d
theorem sYear_28 (m : Nat → Nat) : sYear m 28 = m 28 + 1 := if_pos rfl
theorem sIt_0 (d : Nat) : ∀ m : Nat → Nat, m 0 ≤ 5 → sIt m d 0 = m 0 := by
  induction d with
  | zero => exact fun _ _ => rfl
  | succ d ih =>
    intro m h
    have e := sYear_0 m h
    show sIt (sYear m) d 0 = m 0
    rw [ih _ (by omega), e]
theorem sIt_28 (d : Nat) : ∀ m : Nat → Nat, sIt m d 28 = m 28 + d := by
  induction d with
  | zero => exact fun _ => rfl
  | succ d ih =>
    intro m
    show sIt (sYear m) d 28 = _
    rw [ih, sYear_28]
    omega
theorem sIt_v (d : Nat) : ∀ m : Nat → Nat, vM m → m 28 + d ≤ 5000 → vM (sIt m d) := by
  induction d with
  | zero => exact fun _ v _ => v
  | succ d ih =>
    intro m v h
    exact ih _ (sYear_v v (by omega)) (by rw [sYear_28]; omega)
theorem zR_fr {h h' : zH} {r n s ci k : Nat} (F : zFr h h' r n) (hs : s < r ∨ r + n ≤ s) : zR h' s ci k = zR h s ci k := by
  unfold zR
  rw [F s hs]
theorem zK_fr {h h' : zH} {r n s ci : Nat} (F : zFr h h' r n) (hs : s < r ∨ r + n ≤ s) : zK h' s ci = zK h s ci := by
  unfold zK
  rw [F s hs]
theorem mup_v {m : Nat → Nat} (v : vM m) {t x : Nat} (hx : x ≤ 40) (ht : t < 5) : vM (mup m (13 + t) x) := by
  obtain ⟨v0, v1, v2, v3, v4⟩ := v
  have e : ∀ j, j < 13 ∨ 18 ≤ j → mup m (13 + t) x j = m j := fun j hj => mup_n m x (by omega)
  refine ⟨by rw [e 0 (by omega)]; exact v0, by rw [e 1 (by omega)]; exact v1, by rw [e 2 (by omega)]; exact v2, by rw [e 28 (by omega)]; exact v3, fun y hy => ?_⟩
  rw [e 0 (by omega)] at hy
  obtain ⟨a, b, c, d, f⟩ := v4 y hy
  refine ⟨by rw [e _ (by omega)]; exact a, by rw [e _ (by omega)]; exact b, ?_, by rw [e _ (by omega)]; exact d, by rw [e _ (by omega)]; exact f⟩
  unfold mup
  split <;> omega
/-! numbers of bits -/
def zsmall (x : Int32) : Prop := ∃ w : Fin 32, x = nI w
theorem zsmall_or : ∀ (w : Fin 32) (i : Fin 5), ∃ w' : Fin 32, nI w ||| zbit i = nI w' := by decide +kernel
theorem sUp_small (m : Nat → Nat) : ∀ (k i : Nat) (a : Int32), i + k ≤ 5 → zsmall a → zsmall (sUp m k i a) := by
  intro k
  induction k with
  | zero => exact fun _ _ _ h => h
  | succ k ih =>
    intro i a hi h
    rw [sUp]
    apply ih _ _ (by omega)
    split
    · obtain ⟨w, rfl⟩ := h
      exact zsmall_or w ⟨i, by omega⟩
    · exact h
theorem zsmall0 : zsmall 0 := ⟨0, rfl⟩
/-- the least one of five bits -/
def sLeast (x : Int32) : Nat → Nat → Option Nat
  | 0, _ => none
  | k + 1, t => if (x >>> (nI t &&& 31)) &&& (1 : Int32) = (1 : Int32) then some t else sLeast x k (t + 1)
theorem sLeast_none : ∀ u b : Fin 32, (sLeast (nI u &&& (nI b ^^^ (-1 : Int32))) 5 0).isNone = true ↔ (nI u &&& (nI b ^^^ (-1 : Int32))) = 0 := by decide +kernel
theorem c_least_b2 {h : zH} (x : Int32) : ∀ (k t n : Nat), t + k = 5 → k < n → f_X7_leastOf_b2 h n x (nI t) = some (zno (sLeast x k t)) := by
  intro k
  induction k with
  | zero =>
    intro t n ht hn
    obtain ⟨n, rfl⟩ : ∃ y, n = y + 1 := ⟨n - 1, by omega⟩
    rw [e_X7_leastOf_b2, z5, if_pos (nI_le (by omega) (by omega))]
    rfl
  | succ k ih =>
    intro t n ht hn
    obtain ⟨n, rfl⟩ : ∃ y, n = y + 1 := ⟨n - 1, by omega⟩
    rw [e_X7_leastOf_b2, z5, if_neg (nI_ge (by omega) (by omega)), nI_1, sLeast]
    by_cases c : (x >>> (nI t &&& 31)) &&& (1 : Int32) = (1 : Int32)
    · rw [if_pos c, if_pos c]; rfl
    · rw [if_neg c, if_neg c, ih (t + 1) n (by omega) (by omega)]
theorem r_has {h : zH} (x a : Int32) : f_X8_has x a h = some (zb ((x >>> (a &&& 31)) &&& (1 : Int32) = (1 : Int32))) := by
  unfold f_X8_has
  by_cases c : (x >>> (a &&& 31)) &&& (1 : Int32) = (1 : Int32)
  · rw [if_pos c, zb_t c]; rfl
  · rw [if_neg c, zb_f c]; rfl
theorem sT1_lt {m : Nat → Nat} {a x : Nat} : ∀ k i, sT1 m a k i = some x → x < 10 * a + (i + k) := by
  intro k
  induction k with
  | zero => intro i h; cases h
  | succ k ih =>
    intro i h
    rw [sT1] at h
    split at h
    · cases h; omega
    · have := ih _ h; omega
theorem sT2_lt {m : Nat → Nat} {x : Nat} : ∀ k a, sT2 m k a = some x → x < 11 * (a + k) := by
  intro k
  induction k with
  | zero => intro i h; cases h
  | succ k ih =>
    intro a h
    rw [sT2] at h
    split at h
    · rename_i y hy
      cases h
      have := sT1_lt _ _ hy
      omega
    · have := ih _ h; omega
theorem zno_ne {x : Nat} (hx : x < 2147483648) : ¬ nI x = (-1000000 : Int32) := by
  intro q
  have h := nI_pos' hx
  rw [q] at h
  exact absurd h (by decide)
/-! what is told of the years ahead -/
def sCU (t : Nat) : Nat → Nat → (Nat → Nat) → Int32
  | 0, _, _ => -1000000
  | k + 1, i, m => if m (13 + t) = 0 then nI i else sCU t k (i + 1) (sYear m)
def sFU (b : Int32) (w : Bool) : Nat → Nat → (Nat → Nat) → Int32
  | 0, _, _ => -1000000
  | k + 1, i, m => match sLeast (sUp (sYear m) (m 0) 0 0 &&& (b ^^^ (-1 : Int32))) 5 0 with
    | none => sFU b w k (i + 1) (sYear m)
    | some t => if w = true then nI t else nI i
def sTr (w : Bool) : Nat → Nat → (Nat → Nat) → Int32
  | 0, _, _ => -1000000
  | k + 1, i, m => match sT2 m (m 0) 0 with
    | none => sTr w k (i + 1) (sYear m)
    | some x => if w = true then nI i else nI x
def sLD (m : Nat → Nat) (t d : Nat) : Nat → Nat → Int32
  | 0, _ => -1000000
  | k + 1, dep => if sIt (mup m (13 + t) dep) d (13 + t) = 0 then sLD m t d k (dep + 1) else nI dep
theorem z99 : (99 : Int32) = nI 99 := rfl
theorem z100 : (100 : Int32) = nI 100 := rfl
theorem z40 : (40 : Int32) = nI 40 := rfl
theorem z41 : (41 : Int32) = nI 41 := rfl
section SEER
variable {th dg : Int32} {m : Nat → Nat}
theorem c_pass_b2 {d : Nat} (hd : d ≤ 1000) : ∀ (k i n : Nat) (h : zH) (m : Nat → Nat), i + k = d → k < n → vM m → m 28 + k ≤ 5000 → zMi h 201 th dg m → zR h 200 5 0 = some 201 → ∃ h', f_X5_passYears_b2 n 200 (nI d) (nI i) h = some h' ∧ zMi h' 201 th dg (sIt m k) ∧ zFr h h' 201 7 := by
  intro k
  induction k with
  | zero =>
    intro i n h m hi hn v hy H hr
    obtain ⟨n, rfl⟩ : ∃ x, n = x + 1 := ⟨n - 1, by omega⟩
    rw [e_X5_passYears_b2, if_pos (nI_le (by omega) (by omega))]
    exact ⟨h, rfl, H, zFr.rf⟩
  | succ k ih =>
    intro i n h m hi hn v hy H hr
    obtain ⟨n, rfl⟩ : ∃ x, n = x + 1 := ⟨n - 1, by omega⟩
    obtain ⟨h1, e1, H1, F1⟩ := c_year H v
    rw [e_X5_passYears_b2, if_neg (nI_ge (by omega) (by omega)), hr, Option.bind_some, H.k, Option.bind_some, e1, Option.bind_some, nI_1]
    obtain ⟨h2, e2, H2, F2⟩ := ih (i + 1) n h1 _ (by omega) (by omega) (sYear_v v (by omega)) (by rw [sYear_28]; omega) H1 (by rw [zR_fr F1 (by omega)]; exact hr)
    exact ⟨h2, e2, H2, F1.tr F2⟩
theorem c_pass {h : zH} {d : Nat} (hd : d ≤ 1000) (v : vM m) (hy : m 28 + d ≤ 5000) (H : zMi h 201 th dg m) (hr : zR h 200 5 0 = some 201) : ∃ h', f_X5_passYears 200 (nI d) h = some h' ∧ zMi h' 201 th dg (sIt m d) ∧ zFr h h' 201 7 :=
  c_pass_b2 hd d 0 zF h m (by omega) (by show d < 5000; omega) v hy H hr
theorem iS.r0 {h : zH} (S : iS h) : zR h 200 5 0 = some 201 := zR_of S.1 rfl
theorem iS.r1 {h : zH} (S : iS h) : zR h 200 5 1 = some 208 := zR_of S.1 rfl
theorem iS.k {h : zH} (S : iS h) : zK h 200 5 = some () := zK_of S.1
theorem iS.fr {h h' : zH} (S : iS h) (F : zFr h h' 201 7) (s : zSh h' 201) : iS h' := by
  obtain ⟨h1, h2, f, h3⟩ := S
  exact ⟨(F _ (by omega)).trans h1, s, f, (F _ (by omega)).trans h3⟩
theorem c_then {h : zH} (S : iS h) (H : zMi h 15 th dg m) (v : vM m) (hb : th = 0 ∨ th = 1) : ∃ h', f_X3_become 201 15 h = some h' ∧ zMi h' 201 th dg m ∧ zFr h h' 201 7 ∧ iS h' := by
  obtain ⟨h', e, H', F⟩ := c_become H v.1 hb S.2.1 (by omega)
  exact ⟨h', e, H', F, S.fr F H'.sh⟩
theorem c_behind {h : zH} (S : iS h) (H : zMi h 15 th dg m) (v : vM m) (hb : th = 0 ∨ th = 1) {d : Nat} (hd : d ≤ 1000) (hy : m 28 + d ≤ 5000) : ∃ h', f_X5_behind 200 15 (nI d) h = some (201, h') ∧ zMi h' 201 th dg (sIt m d) ∧ zFr h h' 201 7 ∧ iS h' := by
  obtain ⟨h1, e1, H1, F1, S1⟩ := c_then S H v hb
  obtain ⟨h2, e2, H2, F2⟩ := c_pass hd v hy H1 S1.r0
  have S2 := S1.fr F2 H2.sh
  unfold f_X5_behind
  rw [S.r0, Option.bind_some, S.2.1.k, Option.bind_some, e1, Option.bind_some, S1.k, Option.bind_some, e2, Option.bind_some, S2.r0, Option.bind_some]
  exact ⟨h2, rfl, H2, F1.tr F2, S2⟩
theorem c_until_b10 {t : Nat} : ∀ (k i n : Nat) (h : zH) (m : Nat → Nat), i + k = 100 → k < n → vM m → m 28 + k ≤ 5000 → t < m 0 → zMi h 201 th dg m → iS h → ∃ h', f_X5_yearsUntilUp_b10 n 200 (nI t) (nI i) h = some (sCU t k i m, h') ∧ zFr h h' 201 7 ∧ iS h' := by
  intro k
  induction k with
  | zero =>
    intro i n h m hi hn v hy ht H S
    obtain ⟨n, rfl⟩ : ∃ x, n = x + 1 := ⟨n - 1, by omega⟩
    rw [e_X5_yearsUntilUp_b10, z99, if_pos (nI_lt (by omega) (by omega))]
    exact ⟨h, rfl, zFr.rf, S⟩
  | succ k ih =>
    intro i n h m hi hn v hy ht H S
    obtain ⟨n, rfl⟩ : ∃ x, n = x + 1 := ⟨n - 1, by omega⟩
    have h5 := v.1
    obtain ⟨h1, e1, H1, F1⟩ := c_year H v
    rw [e_X5_yearsUntilUp_b10, z99, if_neg (nI_nlt (by omega) (by omega)), S.r0, Option.bind_some, H.k, Option.bind_some, c_isUp H v ht, Option.bind_some, sCU]
    by_cases c : m (13 + t) = 0
    · rw [if_neg (by rw [zb_0]; simpa using c), if_pos c]
      exact ⟨h, rfl, zFr.rf, S⟩
    · rw [if_pos (by rw [zb_0]; exact c), if_neg c, Option.bind_some, H.k, Option.bind_some, e1, Option.bind_some, nI_1]
      obtain ⟨h2, e2, F2, S2⟩ := ih (i + 1) n h1 _ (by omega) (by omega) (sYear_v v (by omega)) (by rw [sYear_28]; omega) (by rw [sYear_0 m h5]; exact ht) H1 (S.fr F1 H1.sh)
      exact ⟨h2, e2, F1.tr F2, S2⟩
theorem c_until {h : zH} (S : iS h) (H : zMi h 15 th dg m) (G : gM th m) {t : Nat} (ht : t < m 0) : ∃ h', f_X5_yearsUntilUp 200 15 (nI t) h = some (sCU t 100 0 m, h') ∧ zFr h h' 201 7 ∧ iS h' := by
  obtain ⟨h1, e1, H1, F1, S1⟩ := c_then S H G.1 G.b
  have hy := G.2.1
  obtain ⟨h2, e2, F2, S2⟩ := c_until_b10 100 0 zF h1 m (by omega) (by show 100 < 5000; omega) G.1 (by omega) ht H1 S1
  unfold f_X5_yearsUntilUp
  rw [S.r0, Option.bind_some, S.2.1.k, Option.bind_some, e1, Option.bind_some]
  exact ⟨h2, e2, F1.tr F2, S2⟩
theorem c_first_b16 {b : Int32} (hb : zsmall b) {w : Bool} : ∀ (k i n : Nat) (h : zH) (m : Nat → Nat), i + k = 100 → k < n → vM m → m 28 + k ≤ 5000 → zMi h 201 th dg m → iS h → ∃ h', f_X5_firstUp_b16 n 200 (zb (w = true)) b (nI i) h = some (sFU b w k i m, h') ∧ zFr h h' 201 7 ∧ iS h' := by
  intro k
  induction k with
  | zero =>
    intro i n h m hi hn v hy H S
    obtain ⟨n, rfl⟩ : ∃ x, n = x + 1 := ⟨n - 1, by omega⟩
    rw [e_X5_firstUp_b16, z99, if_pos (nI_lt (by omega) (by omega))]
    exact ⟨h, rfl, zFr.rf, S⟩
  | succ k ih =>
    intro i n h m hi hn v hy H S
    obtain ⟨n, rfl⟩ : ∃ x, n = x + 1 := ⟨n - 1, by omega⟩
    have h5 := v.1
    obtain ⟨h1, e1, H1, F1⟩ := c_year H v
    have v1 := sYear_v v (by omega)
    have S1 := S.fr F1 H1.sh
    obtain ⟨h2, e2, F2, S2⟩ := ih (i + 1) n h1 _ (by omega) (by omega) v1 (by rw [sYear_28]; omega) H1 S1
    rw [e_X5_firstUp_b16, z99, if_neg (nI_nlt (by omega) (by omega)), S.r0, Option.bind_some, H.k, Option.bind_some, e1, Option.bind_some]
    dsimp only
    rw [S1.r0, Option.bind_some, H1.k, Option.bind_some, c_allUp H1 v1, Option.bind_some, zLet_eq, nI_1, e2, sYear_0 m h5, sFU]
    obtain ⟨wb, rfl⟩ := hb
    obtain ⟨wu, hu⟩ := sUp_small (sYear m) (m 0) 0 0 (by omega) zsmall0
    rw [hu]
    have key := sLeast_none wu wb
    have kl := c_least_b2 (h := h1) (nI wu &&& (nI wb ^^^ (-1 : Int32))) 5 0 zF (by omega) (by show 5 < 5000; omega)
    cases hs : sLeast (nI wu &&& (nI wb ^^^ (-1 : Int32))) 5 0 with
    | none =>
      rw [hs] at key
      rw [if_pos (key.mp rfl)]
      exact ⟨h2, rfl, F1.tr F2, S2⟩
    | some t =>
      rw [hs] at key kl
      rw [if_neg (fun q => by have := key.mpr q; simp at this)]
      unfold f_X7_leastOf
      rw [show (0 : Int32) = nI 0 from rfl, kl, ← show (0 : Int32) = nI 0 from rfl]
      cases w with
      | true => exact ⟨h1, by rw [if_neg (by rw [zb_0]; simp)]; rfl, F1, S1⟩
      | false => exact ⟨h1, by rw [if_pos (by rw [zb_0]; simp)]; rfl, F1, S1⟩
theorem c_first {h : zH} (S : iS h) (H : zMi h 15 th dg m) (G : gM th m) (w : Bool) : ∃ h', f_X5_firstUp 200 15 (zb (w = true)) h = some (sFU (sUp m (m 0) 0 0) w 99 1 m, h') ∧ zFr h h' 201 7 ∧ iS h' := by
  obtain ⟨h1, e1, H1, F1, S1⟩ := c_then S H G.1 G.b
  have hy := G.2.1
  have h5 := G.1.1
  obtain ⟨h2, e2, F2, S2⟩ := c_first_b16 (sUp_small m (m 0) 0 0 (by omega) zsmall0) (w := w) 99 1 zF h1 m (by omega) (by show 99 < 5000; omega) G.1 (by omega) H1 S1
  unfold f_X5_firstUp
  rw [H.k, Option.bind_some, c_allUp H G.1, Option.bind_some, S.r0, Option.bind_some, S.2.1.k, Option.bind_some, e1, Option.bind_some]
  exact ⟨h2, e2, F1.tr F2, S2⟩
theorem c_trouble_b10 {w : Bool} : ∀ (k i n : Nat) (h : zH) (m : Nat → Nat), i + k = 100 → k < n → vM m → m 28 + k ≤ 5000 → zMi h 201 th dg m → iS h → ∃ h', f_X5_firstTrouble_b10 n 200 (zb (w = true)) (nI i) h = some (sTr w k i m, h') ∧ zFr h h' 201 7 ∧ iS h' := by
  intro k
  induction k with
  | zero =>
    intro i n h m hi hn v hy H S
    obtain ⟨n, rfl⟩ : ∃ x, n = x + 1 := ⟨n - 1, by omega⟩
    rw [e_X5_firstTrouble_b10, z99, if_pos (nI_lt (by omega) (by omega))]
    exact ⟨h, rfl, zFr.rf, S⟩
  | succ k ih =>
    intro i n h m hi hn v hy H S
    obtain ⟨n, rfl⟩ : ∃ x, n = x + 1 := ⟨n - 1, by omega⟩
    have h5 := v.1
    obtain ⟨h1, e1, H1, F1⟩ := c_year H v
    rw [e_X5_firstTrouble_b10, z99, if_neg (nI_nlt (by omega) (by omega)), S.r0, Option.bind_some, H.k, Option.bind_some, c_two H v, Option.bind_some, sTr]
    cases hs : sT2 m (m 0) 0 with
    | none =>
      rw [if_pos (show zno none = (-1000000 : Int32) from rfl), Option.bind_some, H.k, Option.bind_some, e1, Option.bind_some, nI_1]
      obtain ⟨h2, e2, F2, S2⟩ := ih (i + 1) n h1 _ (by omega) (by omega) (sYear_v v (by omega)) (by rw [sYear_28]; omega) H1 (S.fr F1 H1.sh)
      exact ⟨h2, e2, F1.tr F2, S2⟩
    | some x =>
      have hx := sT2_lt _ _ hs
      rw [if_neg (show ¬ zno (some x) = (-1000000 : Int32) from zno_ne (by omega))]
      cases w with
      | true => exact ⟨h, by rw [if_neg (by rw [zb_0]; simp)]; rfl, zFr.rf, S⟩
      | false => exact ⟨h, by rw [if_pos (by rw [zb_0]; simp)]; rfl, zFr.rf, S⟩
theorem c_trouble {h : zH} (S : iS h) (H : zMi h 15 th dg m) (G : gM th m) (w : Bool) : ∃ h', f_X5_firstTrouble 200 15 (zb (w = true)) h = some (sTr w 100 0 m, h') ∧ zFr h h' 201 7 ∧ iS h' := by
  obtain ⟨h1, e1, H1, F1, S1⟩ := c_then S H G.1 G.b
  have hy := G.2.1
  obtain ⟨h2, e2, F2, S2⟩ := c_trouble_b10 (w := w) 100 0 zF h1 m (by omega) (by show 100 < 5000; omega) G.1 (by omega) H1 S1
  unfold f_X5_firstTrouble
  rw [S.r0, Option.bind_some, S.2.1.k, Option.bind_some, e1, Option.bind_some]
  exact ⟨h2, e2, F1.tr F2, S2⟩
theorem c_dig_b3 (G : gM th m) {t d : Nat} (ht : t < m 0) (hd : d ≤ 60) : ∀ (k i n : Nat) (h : zH), i + k = 41 → k < n → 1 ≤ i → zMi h 15 th dg m → iS h → ∃ h', f_X5_leastDepth_b3 n 200 15 (nI t) (nI d) (nI i) h = some (sLD m t d k i, h') ∧ zFr h h' 201 7 ∧ iS h' := by
  intro k
  have v := G.1
  have h5 := v.1
  have hy := G.2.1
  induction k with
  | zero =>
    intro i n h hi hn h1 H S
    obtain ⟨n, rfl⟩ : ∃ x, n = x + 1 := ⟨n - 1, by omega⟩
    rw [e_X5_leastDepth_b3, z40, if_pos (nI_lt (by omega) (by omega))]
    exact ⟨h, rfl, zFr.rf, S⟩
  | succ k ih =>
    intro i n h hi hn hi1 H S
    obtain ⟨n, rfl⟩ : ∃ x, n = x + 1 := ⟨n - 1, by omega⟩
    obtain ⟨h1, e1, H1, F1, S1⟩ := c_then S H v G.b
    obtain ⟨e, e2, H2⟩ := H1.dp h5 (i := t) (x := i) ht
    have F2 : zFr h1 (h1.set (201 + 2) e) 201 7 := zFr.set (by omega) (by omega)
    have S2 := S1.fr F2 H2.sh
    have v2 : vM (mup m (13 + t) i) := mup_v v (by omega) (by omega)
    have y2 : mup m (13 + t) i 28 = m 28 := mup_n m i (by omega)
    have n2 : mup m (13 + t) i 0 = m 0 := mup_n m i (by omega)
    obtain ⟨h3, e3, H3, F3⟩ := c_pass (d := d) (by omega) v2 (by rw [y2]; omega) H2 S2.r0
    have S3 := S2.fr F3 H3.sh
    have v3 := sIt_v d _ v2 (by rw [y2]; omega)
    have F13 := (F1.tr F2).tr F3
    rw [e_X5_leastDepth_b3, z40, if_neg (nI_nlt (by omega) (by omega)), S.r0, Option.bind_some, S.2.1.k, Option.bind_some, e1, Option.bind_some, S1.r0, Option.bind_some, H1.f7, Option.bind_some, e2, Option.bind_some, S2.k, Option.bind_some, e3, Option.bind_some, S3.r0, Option.bind_some, H3.k, Option.bind_some, c_isUp H3 v3 (by rw [sIt_0 _ _ v2.1, n2]; exact ht), Option.bind_some, sLD, nI_1]
    by_cases c : sIt (mup m (13 + t) i) d (13 + t) = 0
    · rw [if_neg (by rw [zb_0]; simpa using c), if_pos c]
      obtain ⟨h4, e4, F4, S4⟩ := ih (i + 1) n h3 (by omega) (by omega) (by omega) (H.keep (fun j _ _ => F13 j (by omega))) S3
      exact ⟨h4, e4, F13.tr F4, S4⟩
    · rw [if_pos (by rw [zb_0]; exact c), if_neg c]
      exact ⟨h3, rfl, F13, S3⟩
end SEER
