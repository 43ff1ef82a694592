/-! PURE: the reference's laying; lay -/
/-- the places of the things from j on are as a way has them -/
def sLdD (m : Nat → Nat) (c j : Nat) : Nat → Nat := fun x => if 18 + j ≤ x ∧ x < 18 + m 0 then sPc (m 0) c (x - 18) else m x
theorem sLdD_e (m : Nat → Nat) (c : Nat) : sLdD m c (m 0) = m := by
  funext x
  unfold sLdD
  rw [if_neg (by omega)]
theorem sLdD_0 (m : Nat → Nat) (c : Nat) : sLdD m c 0 = sLaid m c := rfl
theorem sLdD_s (m : Nat → Nat) (c : Nat) {j : Nat} (hj : j < m 0) : sLdD m c j = mup (sLdD m c (j + 1)) (18 + j) (sPc (m 0) c j) := by
  funext x
  unfold sLdD mup
  by_cases e : x = 18 + j
  · subst e
    rw [if_pos (by omega), if_pos rfl, Nat.add_sub_cancel_left]
  · rw [if_neg e]
    by_cases q : 18 + j ≤ x ∧ x < 18 + m 0
    · rw [if_pos q]
      dsimp only
      rw [if_pos (by omega)]
    · rw [if_neg q]
      dsimp only
      rw [if_neg (by omega)]
def rPl (h : zH) (n c j : Nat) : Prop := ∃ f, h[254]? = some (.inl (0, 5, .inl f)) ∧ ∀ t, j ≤ t → t < n → f t = nI (sPc n c t)
def rFL (h h' : zH) : Prop := ∀ j, j ≠ 247 → j ≠ 253 → j ≠ 254 → j ≠ 255 → h'[j]? = h[j]?
theorem rFL.rf {h : zH} : rFL h h := fun _ _ _ _ _ => rfl
theorem rFL.tr {h h1 h2 : zH} (a : rFL h h1) (b : rFL h1 h2) : rFL h h2 := fun j x y z w => (b j x y z w).trans (a j x y z w)
section REFLAY
variable {fa st ac sz tr dg : Int32} {m : Nat → Nat}
theorem r_lp_b18 (v : vM m) {c : Nat} (hc : c < 2147483648) : ∀ (j n a : Nat) (h : zH), j ≤ m 0 → j < n → a = sTot m c (m 0 - j) j → zMo h 245 dg m → iP h fa st ac sz tr → zMo h 247 dg (sLdD m c j) → rPl h (m 0) c j → ∃ h', f_X8_layPlaces_b18 n 241 (nI (c / 4 ^ (m 0 - j))) (nI a) (nI j + (-1 : Int32)) h = some (nI (sTot m c (m 0) 0), h') ∧ zMo h' 247 dg (sLaid m c) ∧ rPl h' (m 0) c 0 ∧ ∀ y, y ≠ 247 → y ≠ 254 → h'[y]? = h[y]? := by
  intro j
  have h5 := v.1
  induction j with
  | zero =>
    intro n a h hj hn ha N P H A
    obtain ⟨n, rfl⟩ : ∃ x, n = x + 1 := ⟨n - 1, by omega⟩
    rw [e_X8_layPlaces_b18, if_pos (by decide)]
    refine ⟨h, ?_, H, A, fun _ _ _ => rfl⟩
    rw [ha, Nat.sub_zero]
  | succ j ih =>
    intro n a h hj hn ha N P H A
    obtain ⟨n, rfl⟩ : ∃ x, n = x + 1 := ⟨n - 1, by omega⟩
    obtain ⟨f, hf, fA⟩ := A
    have jm : j < m 0 := by omega
    have vj := v.2.2.2.2 j jm
    have hx : c / 4 ^ (m 0 - (j + 1)) ≤ c := Nat.div_le_self _ _
    have p4 := sPc_lt (m 0) c j
    have er : nI (c / 4 ^ (m 0 - (j + 1))) - nI (c / 4 ^ (m 0 - (j + 1))) / nI 4 * nI 4 = nI (sPc (m 0) c j) := by
      rw [pk_rem (by omega) (by omega) (by omega)]
      unfold sPc
      rw [show m 0 - (j + 1) = m 0 - 1 - j by omega]
    have ed : nI (c / 4 ^ (m 0 - (j + 1))) / nI 4 = nI (c / 4 ^ (m 0 - j)) := by
      rw [pk_div (by omega) (by omega) (by omega), Nat.div_div_eq_div_mul, ← Nat.pow_succ, show (m 0 - (j + 1)).succ = m 0 - j by omega]
    have h254 : (h.set 254 (.inl (0, 5, .inl (upd f j (nI (sPc (m 0) c j))))))[254]? = some (.inl (0, 5, .inl (upd f j (nI (sPc (m 0) c j))))) := zset_eq hf
    generalize hk : (h.set 254 (.inl (0, 5, .inl (upd f j (nI (sPc (m 0) c j))))) : zH) = k at h254
    have kF : ∀ y, y ≠ 254 → k[y]? = h[y]? := fun y hy => by rw [← hk]; exact zset_ne hy
    have Nk : zMo k 245 dg m := N.keep (kF _ (by omega))
    have Pk : iP k fa st ac sz tr := P.keep (kF _ (by omega))
    have Hk : zMo k 247 dg (sLdD m c (j + 1)) := H.keep (kF _ (by omega))
    obtain ⟨e, es, He⟩ := Hk.st (j := 18 + j) (x := sPc (m 0) c j) (by omega) (by omega)
    rw [← sLdD_s m c jm] at He
    have lj : zL k 0 254 (nI j) = some (nI (sPc (m 0) c j)) := by
      rw [zL_of h254 (by omega) (by omega)]
      unfold upd
      rw [if_pos rfl]
    have key : ∀ x : Nat, f_X8_layPlaces_b92 (f_X8_layPlaces_b18 n) 241 (nI (c / 4 ^ (m 0 - j))) (nI j) (nI a) (nI x) k = f_X8_layPlaces_b18 n 241 (nI (c / 4 ^ (m 0 - j))) (nI (a + x)) (nI j + (-1 : Int32)) (k.set 247 e) := by
      intro x
      unfold f_X8_layPlaces_b92
      rw [zLet_eq, Pk.r6, Option.bind_some, Pk.r22, Option.bind_some, lj, Option.bind_some, z18, nI_add, nI_add, es, Option.bind_some]
    have goon : ∀ x : Nat, x = sCost m c j → ∃ h', f_X8_layPlaces_b92 (f_X8_layPlaces_b18 n) 241 (nI (c / 4 ^ (m 0 - j))) (nI j) (nI a) (nI x) k = some (nI (sTot m c (m 0) 0), h') ∧ zMo h' 247 dg (sLaid m c) ∧ rPl h' (m 0) c 0 ∧ ∀ y, y ≠ 247 → y ≠ 254 → h'[y]? = h[y]? := by
      intro x hx
      obtain ⟨h', e1, r1, r2, r3⟩ := ih n (a + x) (k.set 247 e) (by omega) (by omega) (by
        rw [show m 0 - j = m 0 - (j + 1) + 1 by omega, sTot, ← ha, hx, Nat.add_comm]) (Nk.keep (zset_ne (by omega))) (Pk.keep (zset_ne (by omega))) He ⟨_, (zset_ne (by omega)).trans h254, fun t h1 h2 => by
          unfold upd
          by_cases z : t = j
          · rw [if_pos z, z]
          · rw [if_neg z]
            exact fA t (by omega) h2⟩
      exact ⟨h', (key x).trans e1, r1, r2, fun y a b => (r3 y a b).trans ((zset_ne a).trans (kF y b))⟩
    rw [e_X8_layPlaces_b18, pk_m1, if_neg (nI_pos (by omega)), P.r22, Option.bind_some, if_neg (by decide), z4, er, zS_of hf (by omega) (by omega), Option.bind_some, hk, if_neg (by decide), ed, zLet_eq, Pk.r22, Option.bind_some, lj, Option.bind_some, Pk.r4, Option.bind_some, Nk.pl v jm, Option.bind_some]
    by_cases c1 : sPc (m 0) c j = m (18 + j)
    · rw [if_pos (by rw [c1])]
      unfold f_X8_layPlaces_b62
      rw [if_pos rfl]
      exact goon 0 (by unfold sCost; rw [if_pos c1])
    · rw [if_neg (zne c1 (by omega) (by omega))]
      unfold f_X8_layPlaces_b62
      rw [if_neg (by decide), Pk.r4, Option.bind_some, r_lies Nk v jm, Option.bind_some]
      by_cases c2 : m (13 + j) = 0
      · rw [if_pos (zb_f (by simpa using c2))]
        exact goon 1000000 (by unfold sCost; rw [if_neg c1, if_pos c2])
      · rw [if_neg (zb_n c2)]
        exact goon 1 (by unfold sCost; rw [if_neg c1, if_neg c2])
theorem r_lp {h : zH} (v : vM m) {c : Nat} (hc : c < 2147483648) (N : zMo h 245 dg m) (P : iP h fa st ac sz tr) (Z : iZ h) (B : ∃ f, h[254]? = some (.inl (0, 5, .inl f))) : ∃ h', f_X8_layPlaces 241 (nI c) h = some (nI (sTot m c (m 0) 0), h') ∧ zMo h' 247 dg (sLaid m c) ∧ rPl h' (m 0) c 0 ∧ ∀ y, y ≠ 247 → y ≠ 254 → h'[y]? = h[y]? := by
  obtain ⟨h1, e1, H1, P1, Z1, F1, -⟩ := r_aside P N v Z
  obtain ⟨f, hf⟩ := B
  have N1 : zMo h1 245 dg m := N.keep (F1 _ (by omega))
  obtain ⟨h2, e2, H2, A2, F2⟩ := r_lp_b18 v hc (m 0) zF 0 h1 (Nat.le_refl _) (by have := v.1; show m 0 < 5000; omega) (by rw [Nat.sub_self]; rfl) N1 P1 (by rw [sLdD_e]; exact H1) ⟨f, (F1 _ (by omega)).trans hf, fun t h1 h2 => by omega⟩
  rw [Nat.sub_self, Nat.pow_zero, Nat.div_one] at e2
  refine ⟨h2, ?_, H2, A2, fun y a b => (F2 y a b).trans (F1 y a)⟩
  unfold f_X8_layPlaces
  rw [P.k, Option.bind_some, e1, Option.bind_some, P1.r4, Option.bind_some, N1.f0, Option.bind_some, zLet_eq, Int32.sub_eq_add_neg]
  exact e2
theorem r_rest_b10 {u : Int32} {d : Nat} (hd : d ≤ 60) : ∀ (k i n : Nat) (h : zH) (mm : Nat → Nat), i + k = d + 1 → k < n → vM mm → mm 28 + k ≤ 4000 → zMo h 247 dg mm → iP h fa st ac sz tr → iZ h → ∃ h', f_X8_rests_b10 n 241 (nI d) u (nI i) h = some (zb (sOkY u k mm = true), h') ∧ iZ h' ∧ rFr h h' := by
  intro k
  induction k with
  | zero =>
    intro i n h mm hi hn v hy H P Z
    obtain ⟨n, rfl⟩ : ∃ x, n = x + 1 := ⟨n - 1, by omega⟩
    rw [e_X8_rests_b10, if_pos (nI_lt (by omega) (by omega))]
    exact ⟨h, by rw [zb_t (show sOkY u 0 mm = true from rfl)]; rfl, Z, rFr.rf⟩
  | succ k ih =>
    intro i n h mm hi hn v hy H P Z
    obtain ⟨n, rfl⟩ : ∃ x, n = x + 1 := ⟨n - 1, by omega⟩
    rw [e_X8_rests_b10, if_neg (nI_nlt (by omega) (by omega)), P.r6, Option.bind_some, r_two H v, Option.bind_some, sOkY]
    by_cases c2 : sT2 mm (mm 0) 0 = none
    · rw [if_pos (by rw [c2]; rfl), decide_eq_true c2, Bool.true_and, Option.bind_some, r_upOf H v, Option.bind_some]
      by_cases c1 : sUp mm (mm 0) 0 0 = u
      · obtain ⟨h1, e1, H1, P1, Z1, F1⟩ := r_go1 P H v (by omega) Z
        rw [if_pos c1, decide_eq_true c1, Bool.true_and, P.k, Option.bind_some, e1, Option.bind_some, nI_1]
        obtain ⟨h2, e2, Z2, F2⟩ := ih (i + 1) n h1 (sYear mm) (by omega) (by omega) (sYear_v v (by omega)) (by rw [sYear_28]; omega) H1 P1 Z1
        exact ⟨h2, e2, Z2, F1.tr F2⟩
      · rw [if_neg c1, decide_eq_false c1, Bool.false_and]
        exact ⟨h, by rw [zb_f (by simp)]; rfl, Z, rFr.rf⟩
    · rw [if_neg (by rw [zno_n (sT2_b v.1)]; exact c2), decide_eq_false c2, Bool.false_and, Bool.false_and]
      exact ⟨h, by rw [zb_f (by simp)]; rfl, Z, rFr.rf⟩
theorem r_rest {h : zH} (v : vM m) (hy : m 28 ≤ 999) {c d : Nat} (hd : d ≤ 60) (N : zMo h 245 dg m) (H : zMo h 247 dg (sLaid m c)) (P : iP h fa st ac sz tr) (Z : iZ h) : ∃ h', f_X8_rests 241 (nI d) h = some (zb (sOk m d c = true), h') ∧ iZ h' ∧ rFr h h' := by
  unfold f_X8_rests
  rw [P.r4, Option.bind_some, r_upOf N v, Option.bind_some]
  exact r_rest_b10 hd (d + 1) 0 zF h (sLaid m c) (by omega) (by show d + 1 < 5000; omega) (sLaid_v v c) (by rw [sLaid_h m c (by omega) v.1]; omega) H P Z
theorem r_b83 {K : Nat → Int32 → Int32 → Int32 → Int32 → zH → Option (Int32 × zH)} (a1 a2 a3 a4 : Int32) {f : Nat → Int32} : ∀ (k i n : Nat) (h : zH), i + k = 5 → k < n → iP h fa st ac sz tr → h[254]? = some (.inl (0, 5, .inl f)) → (∃ g, h[255]? = some (.inl (0, 5, .inl g)) ∧ ∀ t, t < i → g t = f t) → ∃ h', f_X8_lay_b83 K n 241 a1 a2 a3 a4 (nI i) h = K 241 a1 a2 a3 (a4 + (1 : Int32)) h' ∧ (∃ g, h'[255]? = some (.inl (0, 5, .inl g)) ∧ ∀ t, t < 5 → g t = f t) ∧ ∀ y, y ≠ 255 → h'[y]? = h[y]? := by
  intro k
  induction k with
  | zero =>
    intro i n h hi hn P hf hg
    obtain ⟨n, rfl⟩ : ∃ x, n = x + 1 := ⟨n - 1, by omega⟩
    rw [e_X8_lay_b83, z5, if_pos (nI_le (by omega) (by omega))]
    obtain ⟨g, g1, g2⟩ := hg
    exact ⟨h, rfl, ⟨g, g1, fun t ht => g2 t (by omega)⟩, fun _ _ => rfl⟩
  | succ k ih =>
    intro i n h hi hn P hf hg
    obtain ⟨n, rfl⟩ : ∃ x, n = x + 1 := ⟨n - 1, by omega⟩
    obtain ⟨g, g1, g2⟩ := hg
    rw [e_X8_lay_b83, z5, if_neg (nI_ge (by omega) (by omega)), P.r23, Option.bind_some, P.r22, Option.bind_some, zL_of hf (by omega) (by omega), Option.bind_some, zS_of g1 (by omega) (by omega), Option.bind_some, nI_1]
    obtain ⟨h', e1, q1, q2⟩ := ih (i + 1) n _ (by omega) (by omega) (P.keep (h' := h.set 255 (.inl (0, 5, .inl (upd g i (f i))))) (zset_ne (by omega))) ((zset_ne (by omega)).trans hf) ⟨_, zset_eq g1, fun t ht => by
      unfold upd
      by_cases z : t = i
      · rw [if_pos z, z]
      · rw [if_neg z]
        exact g2 t (by omega)⟩
    exact ⟨h', e1, q1, fun y hy => (q2 y hy).trans (zset_ne hy)⟩
/-- what is answered, from the best way -/
def rAn (m : Nat → Nat) (a : Int32) (b : Option (Nat × Nat)) (x : Int32) : Prop := (b = none → x = -1000000) ∧ ∀ f c, b = some (f, c) → (a = -1 → x = nI f) ∧ ∀ t, a = nI t → t < 2147483648 → (t < m 0 → x = nI (sPc (m 0) c t)) ∧ (m 0 ≤ t → x = -1000000)
theorem rAn_u {a x y : Int32} {b : Option (Nat × Nat)} (ha : a = -1 ∨ ∃ t, t < 2147483648 ∧ a = nI t) (X : rAn m a b x) (Y : rAn m a b y) : x = y := by
  cases b with
  | none => rw [X.1 rfl, Y.1 rfl]
  | some w =>
    obtain ⟨f, c⟩ := w
    obtain ⟨x1, x2⟩ := X.2 f c rfl
    obtain ⟨y1, y2⟩ := Y.2 f c rfl
    rcases ha with ha | ⟨t, ht, ha⟩
    · rw [x1 ha, y1 ha]
    · rcases Nat.lt_or_ge t (m 0) with z | z
      · rw [(x2 t ha ht).1 z, (y2 t ha ht).1 z]
      · rw [(x2 t ha ht).2 z, (y2 t ha ht).2 z]
/-- the reference's rows for laying -/
def rRw (h : zH) (n : Nat) (b : Option (Nat × Nat)) : Prop := iZ h ∧ (∃ f, h[254]? = some (.inl (0, 5, .inl f))) ∧ ∃ g, h[255]? = some (.inl (0, 5, .inl g)) ∧ ∀ f c, b = some (f, c) → ∀ t, t < n → g t = nI (sPc n c t)
theorem r_lay_b40 (v : vM m) (hy : m 28 ≤ 999) {d : Nat} (hd : d ≤ 60) {a : Int32} (ha : a = -1 ∨ ∃ t, t < 2147483648 ∧ a = nI t) : ∀ (k c n : Nat) (h : zH) (b : Option (Nat × Nat)), c + k = 4 ^ m 0 → k < n → (∀ x, b = some x → x.1 < 1000000) → zMo h 245 dg m → iP h fa st ac sz tr → rRw h (m 0) b → ∃ (x : Int32) (h' : zH), f_X8_lay_b40 n 241 (nI d) a (nI (sBn b)) (nI c) h = some (x, h') ∧ rAn m a (sRf m d k c b) x ∧ rRw h' (m 0) none ∧ rFL h h' := by
  intro k
  have h5 := v.1
  have zp : (1 : Int32) <<< (((2 : Int32) * nI (m 0)) &&& 31) = nI (4 ^ m 0) := zpow4 ⟨m 0, by omega⟩
  have hN : 4 ^ m 0 ≤ 1024 := Nat.le_trans (Nat.pow_le_pow_right (by omega) h5) (by decide)
  induction k with
  | zero =>
    intro c n h b hc hn hb N P R
    obtain ⟨n, rfl⟩ : ∃ x, n = x + 1 := ⟨n - 1, by omega⟩
    obtain ⟨Z, B, g, g1, g2⟩ := R
    rw [e_X8_lay_b40, P.r4, Option.bind_some, N.f0, Option.bind_some, zp, if_pos (nI_le (by omega) (by omega)), sRf]
    have R' : rRw h (m 0) none := ⟨Z, B, g, g1, fun f c q => by cases q⟩
    cases b with
    | none =>
      rw [if_pos (show nI (sBn none) = (1000000 : Int32) from rfl)]
      exact ⟨_, h, rfl, ⟨fun _ => rfl, fun f c q => by cases q⟩, R', rFL.rf⟩
    | some w =>
      obtain ⟨f, c'⟩ := w
      have hf : f < 1000000 := hb _ rfl
      rw [if_neg (show ¬ nI (sBn (some (f, c'))) = (1000000 : Int32) from zne (a := f) (b := 1000000) (by omega) (by omega) (by omega))]
      rcases ha with ha | ⟨t, ht, ha⟩
      · rw [if_pos ha]
        refine ⟨_, h, rfl, ⟨fun q => (by cases q), fun f1 c1 q => ?_⟩, R', rFL.rf⟩
        have e1 : f = f1 := congrArg Prod.fst (Option.some.inj q)
        subst e1
        refine ⟨fun _ => rfl, fun t e h0 => ?_⟩
        rw [ha] at e
        exact absurd e.symm (fun z => by have := nI_pos' h0; rw [z] at this; exact absurd this (by decide))
      · rw [if_neg (fun z => by have := nI_pos' ht; rw [← ha, z] at this; exact absurd this (by decide)), P.k, Option.bind_some, r_isThing P N v, Option.bind_some]
        have an : ∀ x : Int32, (t < m 0 → x = nI (sPc (m 0) c' t)) → (m 0 ≤ t → x = -1000000) → rAn m a (some (f, c')) x := by
          intro x x1 x2
          refine ⟨fun q => (by cases q), fun f1 c1 q => ⟨fun z => ?_, fun t' e h0 => ?_⟩⟩
          · have := nI_pos' ht
            rw [← ha, z] at this
            exact absurd this (by decide)
          · have e1 : c' = c1 := congrArg Prod.snd (Option.some.inj q)
            subst e1
            have e2 : t' = t := by
              rw [ha, zeq ht h0] at e
              exact e.symm
            subst e2
            exact ⟨x1, x2⟩
        by_cases c3 : t < m 0
        · rw [if_neg (zb_n ⟨t, c3, ha⟩), P.r23, Option.bind_some, ha, zL_of g1 (by omega) (by omega), Option.bind_some]
          refine ⟨_, h, rfl, ?_, R', rFL.rf⟩
          rw [← ha]
          exact an _ (fun _ => g2 f c' rfl t c3) (fun z => by omega)
        · rw [if_pos (zb_f (by
            rintro ⟨t', h1, h2⟩
            rw [ha, zeq ht (by omega)] at h2
            omega))]
          exact ⟨_, h, rfl, an _ (fun z => by omega) (fun _ => rfl), R', rFL.rf⟩
  | succ k ih =>
    intro c n h b hc hn hb N P R
    obtain ⟨n, rfl⟩ : ∃ x, n = x + 1 := ⟨n - 1, by omega⟩
    obtain ⟨Z, B, g, g1, g2⟩ := R
    obtain ⟨h1, e1, H1, ⟨f1, A1, A1'⟩, F1⟩ := r_lp v (c := c) (by omega) N P Z B
    have N1 : zMo h1 245 dg m := N.keep (F1 _ (by omega) (by omega))
    have P1 : iP h1 fa st ac sz tr := P.keep (F1 _ (by omega) (by omega))
    have Z1 : iZ h1 := ⟨H1.row, Z.2.keep (F1 _ (by omega) (by omega))⟩
    have F1' : rFL h h1 := fun j a _ b _ => F1 j a b
    have tl := sTot_le m c (m 0) 0
    have bl : sBn b ≤ 1000000 := by
      cases b with
      | none => exact Nat.le_refl _
      | some x => exact Nat.le_of_lt (hb x rfl)
    have g1' : h1[255]? = some (.inl (0, 5, .inl g)) := (F1 _ (by omega) (by omega)).trans g1
    rw [e_X8_lay_b40, P.r4, Option.bind_some, N.f0, Option.bind_some, zp, if_neg (nI_ge (by omega) (by omega)), P.k, Option.bind_some, e1, Option.bind_some, sRf, nI_1]
    dsimp only
    by_cases q1 : sBn b ≤ sTot m c (m 0) 0
    · have eb : sBet m d c b = b := if_neg (fun q => by have := q.1; omega)
      rw [if_pos (nI_le q1 (by omega)), eb]
      obtain ⟨x, h2, e2, X2, R2, F2⟩ := ih (c + 1) n h1 b (by omega) (by omega) hb N1 P1 ⟨Z1, ⟨f1, A1⟩, g, g1', g2⟩
      exact ⟨x, h2, e2, X2, R2, F1'.tr F2⟩
    · obtain ⟨h2, e2, Z2, F2⟩ := r_rest v hy (c := c) hd N1 H1 P1 Z1
      have N2 : zMo h2 245 dg m := N1.keep (F2 _ (by omega) (by omega))
      have P2 : iP h2 fa st ac sz tr := P1.keep (F2 _ (by omega) (by omega))
      have F2' : rFL h1 h2 := fun j a b _ _ => F2 j a b
      have A2 : h2[254]? = some (.inl (0, 5, .inl f1)) := (F2 _ (by omega) (by omega)).trans A1
      have g2' : h2[255]? = some (.inl (0, 5, .inl g)) := (F2 _ (by omega) (by omega)).trans g1'
      rw [if_neg (nI_ge (by omega) (by omega)), P1.k, Option.bind_some, e2, Option.bind_some]
      dsimp only
      by_cases q2 : sOk m d c = true
      · have eb : sBet m d c b = some (sTot m c (m 0) 0, c) := if_pos ⟨by omega, q2⟩
        rw [if_neg (zb_n q2), eb]
        obtain ⟨h3, e3, ⟨g3, G3, G3'⟩, F3⟩ := r_b83 (K := f_X8_lay_b40 n) (nI d) a (nI (sTot m c (m 0) 0)) (nI c) 5 0 zF h2 (by omega) (by show 5 < 5000; omega) P2 A2 ⟨g, g2', fun t ht => by omega⟩
        have N3 : zMo h3 245 dg m := N2.keep (F3 _ (by omega))
        have P3 : iP h3 fa st ac sz tr := P2.keep (F3 _ (by omega))
        have Z3 : iZ h3 := ⟨by rw [F3 _ (by omega)]; exact Z2.1, Z2.2.keep (F3 _ (by omega))⟩
        obtain ⟨x, h4, e4, X4, R4, F4⟩ := ih (c + 1) n h3 (some (sTot m c (m 0) 0, c)) (by omega) (by omega) (fun x hx => by cases hx; show sTot m c (m 0) 0 < 1000000; omega) N3 P3 ⟨Z3, ⟨f1, (F3 _ (by omega)).trans A2⟩, g3, G3, fun f c' q t ht => by
          have e1 : c = c' := congrArg Prod.snd (Option.some.inj q)
          subst e1
          rw [G3' t (by omega)]
          exact A1' t (by omega) ht⟩
        refine ⟨x, h4, ?_, X4, R4, ((F1'.tr F2').tr (fun j _ _ _ w => F3 j w)).tr F4⟩
        refine (e3.trans ?_)
        rw [nI_1]
        exact e4
      · have eb : sBet m d c b = b := if_neg (fun q => q2 q.2)
        rw [if_pos (zb_f q2), eb]
        obtain ⟨x, h3, e3, X3, R3, F3⟩ := ih (c + 1) n h2 b (by omega) (by omega) hb N2 P2 ⟨Z2, ⟨f1, A2⟩, g, g2', g2⟩
        exact ⟨x, h3, e3, X3, R3, (F1'.tr F2').tr F3⟩
end REFLAY
theorem zm1 {a : Int32} (h : -1 ≤ a ∧ a ≤ 4) : a = -1 ∨ ∃ t, t < 5 ∧ a = nI t := by
  rcases zcase a with h1 | ⟨k, hk, rfl⟩
  · left
    have e1 : (-1 : Int32).toInt = -1 := rfl
    have e0 : (0 : Int32).toInt = 0 := rfl
    have h2 := h.1
    rw [Int32.lt_iff_toInt_lt] at h1
    rw [Int32.le_iff_toInt_le] at h2
    rw [← Int32.toInt_inj]
    omega
  · right
    have := (nI_leI (a := k) (b := 4) (by omega) (by omega)).mp h.2
    exact ⟨k, by omega, rfl⟩
theorem INV.ly {h h1 h2 : zH} {m : Nat → Nat} (I : INV h) (F1 : ∀ j, (j < 209 ∨ 224 < j) → h1[j]? = h[j]?) (L1 : iL h1) {n : Nat} (R : rRw h2 n none) (F2 : rFL h1 h2) : INV h2 := by
  obtain ⟨fa, st, ac, sz, tr, th, dg, m, O, P, R0, T, N, A, Im, C, S, X, L⟩ := I
  obtain ⟨x1, x2, x3, x4, x5, x6⟩ := X
  obtain ⟨⟨z1, ⟨g, z2, -⟩⟩, r2, ⟨g3, r3, -⟩⟩ := R
  have F : ∀ j, (j < 209 ∨ 224 < j) → j ≠ 247 → j ≠ 253 → j ≠ 254 → j ≠ 255 → h2[j]? = h[j]? := fun j a b c d e => (F2 j b c d e).trans (F1 j a)
  refine ⟨fa, st, ac, sz, tr, th, dg, m, O.keep (F _ (by omega) (by omega) (by omega) (by omega) (by omega)), P.keep (F _ (by omega) (by omega) (by omega) (by omega) (by omega)), R0.keep (fun j _ => F j (by omega) (by omega) (by omega) (by omega) (by omega)), T.keep (fun j _ => F j (by omega) (by omega) (by omega) (by omega) (by omega)), N.keep (fun j _ => F j (by omega) (by omega) (by omega) (by omega) (by omega)), A.keep (fun j _ => F j (by omega) (by omega) (by omega) (by omega) (by omega)), Im.keep (fun j _ => F j (by omega) (by omega) (by omega) (by omega) (by omega)), C.keep (fun j _ => F j (by omega) (by omega) (by omega) (by omega) (by omega)), S.keep (fun j _ => F j (by omega) (by omega) (by omega) (by omega) (by omega)), ⟨x1.keep (fun j _ _ => F j (by omega) (by omega) (by omega) (by omega) (by omega)), ?_, z1, ⟨g, z2⟩, r2, ⟨g3, r3⟩⟩, L1.keep (fun j _ => F2 j (by omega) (by omega) (by omega) (by omega))⟩
  rw [F _ (by omega) (by omega) (by omega) (by omega) (by omega)]
  exact x2
theorem iL.k {h : zH} (L : iL h) : zK h 209 2 = some () := by
  obtain ⟨ay, f, th, dg, m, mv, h1, -⟩ := L
  exact zK_of h1
theorem M_lay {h : zH} (I : INV h) (a b : Int32) : zBoth (f_X7_lay 0 a b) (f_X8_lay 241 a b) h := by
  have I0 := I
  obtain ⟨fa, st, ac, sz, tr, th, dg, m, O, P, R, T, ⟨N7, N8, G⟩, A, Im, C, S, X, L⟩ := I
  have v := G.1
  have h5 := v.1
  have hy := G.2.1
  have kin : ∀ h, f_X8_in (Int32.toInt64 b) (-1 : Int64) (4 : Int64) h = some (zb (-1 ≤ b ∧ b ≤ 4)) := fun h => r_in b (-1) 4
  by_cases c : 0 < m 2
  · by_cases c2 : 0 ≤ a ∧ a ≤ 60
    · by_cases c3 : -1 ≤ b ∧ b ≤ 4
      · obtain ⟨d, hd, rfl⟩ := zspan c2
        have hb := zm1 c3
        have hb' : b = -1 ∨ ∃ t, t < 2147483648 ∧ b = nI t := by
          rcases hb with hb | ⟨t, ht, hb⟩
          · exact Or.inl hb
          · exact Or.inr ⟨t, by omega, hb⟩
        have q1 : ¬ b < -1 := Int32.not_lt.mpr c3.1
        have q2 : b < 5 := by
          have e4 : (4 : Int32).toInt = 4 := rfl
          have e5 : (5 : Int32).toInt = 5 := rfl
          have := c3.2
          rw [Int32.le_iff_toInt_le] at this
          rw [Int32.lt_iff_toInt_lt]
          omega
        obtain ⟨h1, e1, F1, L1, ay, Ls, La⟩ := c_find G hd L N7
        have O1 : iO h1 fa st := O.keep (F1 _ (by omega))
        have H1 : zMi h1 15 th dg m := N7.keep (fun j _ _ => F1 j (by omega))
        have N1 : zMo h1 245 dg m := N8.keep (F1 _ (by omega))
        have P1 := P.keep (F1 _ (by omega))
        have X1 : iX h1 := X.keep (fun j hj => F1 j (by omega))
        have R1 : rRw h1 (m 0) none := by
          have z := X1.z
          obtain ⟨x1, x2, x3, x4, x5, ⟨g, x6⟩⟩ := X1
          exact ⟨z, x5, g, x6, fun f c q => by cases q⟩
        have hN : 4 ^ m 0 ≤ 1024 := Nat.le_trans (Nat.pow_le_pow_right (by omega) h5) (by decide)
        obtain ⟨x, h2, e2, X2, R2, F2⟩ := r_lay_b40 v hy hd hb' (4 ^ m 0) 0 zF h1 none (by omega) (by show 4 ^ m 0 < 5000; omega) (fun x q => by cases q) N1 P1 R1
        rw [sRf_lay h5] at X2
        have cls : ∃ y, f_X7_lay 0 (nI d) b h = some (y, h1) ∧ rAn m b (sLay m d) y := by
          unfold f_X7_lay
          rw [O.r2, Option.bind_some, N7.f0, Option.bind_some, if_neg (G.nz c), c_isSpan, Option.bind_some, if_neg (zb_n c2), if_neg q1, if_pos q2, O.r7, Option.bind_some, Option.bind_some, iL.k L, Option.bind_some, e1, Option.bind_some, O1.r7, Option.bind_some, Ls.i4, Option.bind_some]
          cases hs : sLay m d with
          | none =>
            rw [if_pos (show sLayN none = (-1000000 : Int32) from rfl)]
            exact ⟨_, rfl, fun _ => rfl, fun f c q => by cases q⟩
          | some w =>
            obtain ⟨f, w⟩ := w
            have fl : f < 10 := by
              have := (sFew_some _ _ _ _ hs).2.1
              omega
            have Aw := La f w hs
            have l4 := Ls.i4
            rw [hs] at l4
            rw [if_neg (show ¬ sLayN (some (f, w)) = (-1000000 : Int32) from zno_ne (x := f) (by omega)), O1.r2, Option.bind_some, H1.f1, Option.bind_some]
            rcases hb with hb | ⟨t, ht, hb⟩
            · rw [hb, if_pos (show (-1 : Int32) < nI (m 0) by
                rw [Int32.lt_iff_toInt_lt, nI_toInt (by omega)]
                have e1 : (-1 : Int32).toInt = -1 := rfl
                omega), if_pos rfl, Option.bind_some, l4, Option.bind_some]
              refine ⟨_, rfl, fun q => (by cases q), fun f1 c1 q => ⟨fun _ => ?_, fun t e h0 => ?_⟩⟩
              · have e1 : f = f1 := congrArg Prod.fst (Option.some.inj q)
                rw [← e1]
                rfl
              · exact absurd e.symm (fun z => by have := nI_pos' h0; rw [z] at this; exact absurd this (by decide))
            · have an : ∀ y : Int32, (t < m 0 → y = nI (sPc (m 0) w t)) → (m 0 ≤ t → y = -1000000) → rAn m b (some (f, w)) y := by
                intro y y1 y2
                refine ⟨fun q => (by cases q), fun f1 c1 q => ⟨fun z => ?_, fun t' e h0 => ?_⟩⟩
                · have := nI_pos' (n := t) (by omega)
                  rw [← hb, z] at this
                  exact absurd this (by decide)
                · have e1 : w = c1 := congrArg Prod.snd (Option.some.inj q)
                  subst e1
                  have e2 : t' = t := by
                    rw [hb, zeq (by omega) h0] at e
                    exact e.symm
                  subst e2
                  exact ⟨y1, y2⟩
              by_cases c4 : t < m 0
              · have n1 : ¬ b = -1 := fun z => by
                  have := nI_pos' (n := t) (by omega)
                  rw [← hb, z] at this
                  exact absurd this (by decide)
                rw [if_pos (by rw [hb]; exact nI_lt c4 (by omega)), if_neg n1, Option.bind_some, Ls.r3, Option.bind_some]
                refine ⟨_, ?_, an (nI (sPc (m 0) w t)) (fun _ => rfl) (fun z => by omega)⟩
                rw [hb, Aw.ld c4 (by omega), Option.bind_some]
              · rw [if_neg (by rw [hb]; exact nI_nlt (by omega) (by omega))]
                exact ⟨_, rfl, an _ (fun z => absurd z c4) (fun _ => rfl)⟩
        obtain ⟨y, e3, Y⟩ := cls
        have exy := rAn_u hb' Y X2
        subst exy
        refine zBoth.mk y (h1 := h1) (h2 := h2) e3 ?_ (I0.ly (m := m) F1 L1 R2 F2)
        unfold f_X8_lay
        rw [P1.k, Option.bind_some, r_isMine P1 N1 v, Option.bind_some, if_neg (zb_n c), r_isSpan, Option.bind_some, if_neg (zb_n c2), kin, Option.bind_some, if_neg (zb_n c3)]
        exact e2
      · refine zBoth.same (v := (-1000001 : Int32)) I0 ?_ ?_
        · unfold f_X7_lay
          rw [O.r2, Option.bind_some, N7.f0, Option.bind_some, if_neg (G.nz c), c_isSpan, Option.bind_some, if_neg (zb_n c2)]
          by_cases q1 : b < -1
          · rw [if_pos q1]
          · rw [if_neg q1]
            have q2 : ¬ b < 5 := by
              intro q2
              refine c3 ⟨Int32.not_lt.mp q1, ?_⟩
              have e4 : (4 : Int32).toInt = 4 := rfl
              have e5 : (5 : Int32).toInt = 5 := rfl
              rw [Int32.lt_iff_toInt_lt] at q2
              rw [Int32.le_iff_toInt_le]
              omega
            rw [if_neg q2]
        · unfold f_X8_lay
          rw [P.k, Option.bind_some, r_isMine P N8 v, Option.bind_some, if_neg (zb_n c), r_isSpan, Option.bind_some, if_neg (zb_n c2), kin, Option.bind_some, if_pos (zb_f c3)]
    · refine zBoth.same (v := (-1000001 : Int32)) I0 ?_ ?_
      · unfold f_X7_lay
        rw [O.r2, Option.bind_some, N7.f0, Option.bind_some, if_neg (G.nz c), c_isSpan, Option.bind_some, if_pos (zb_f c2)]
      · unfold f_X8_lay
        rw [P.k, Option.bind_some, r_isMine P N8 v, Option.bind_some, if_neg (zb_n c), r_isSpan, Option.bind_some, if_pos (zb_f c2)]
  · refine zBoth.same (v := (-1000002 : Int32)) I0 ?_ ?_
    · unfold f_X7_lay
      rw [O.r2, Option.bind_some, N7.f0, Option.bind_some, if_pos (G.z c)]
    · unfold f_X8_lay
      rw [P.k, Option.bind_some, r_isMine P N8 v, Option.bind_some, if_pos (zb_f c)]
