/-! PURE: fits -/
def sSeen (m : Nat → Nat) (t w : Nat) : Int32 := if w = 2 then sNr m t (m 0) 0 0 else nI (m (13 + t))
def sGo (T : Nat → Int32) (t w : Nat) : Nat → Nat → (Nat → Nat) → Bool
  | 0, _, _ => true
  | k + 1, y, m => if sSeen (sYear m) t w = T y then sGo T t w k (y + 1) (sYear m) else false
/-- where the guess is put -/
def sOff (w : Nat) : Nat := if w = 0 then 3 else if w = 1 then 8 else 18
def sMost (w : Nat) : Nat := if w = 0 then 5 else if w = 1 then 9 else 3
def sFit (T : Nat → Int32) (m : Nat → Nat) (t w N : Nat) : Nat → Nat → Int32 → Int32
  | 0, _, a => a
  | k + 1, g, a => sFit T m t w N k (g + 1) (if sGo T t w N 0 (mup m (sOff w + t) g) = true then a ||| zbit g else a)
theorem sGo_cg {T T' : Nat → Int32} {t w : Nat} : ∀ (k y : Nat) (m : Nat → Nat), (∀ x, x < y + k → T x = T' x) → sGo T t w k y m = sGo T' t w k y m := by
  intro k
  induction k with
  | zero => exact fun _ _ _ => rfl
  | succ k ih =>
    intro y m h
    rw [sGo, sGo, h y (by omega), ih (y + 1) _ (fun x hx => h x (by omega))]
theorem sFit_cg {T T' : Nat → Int32} {m : Nat → Nat} {t w N : Nat} (h : ∀ x, x < N → T x = T' x) : ∀ (k g : Nat) (a : Int32), sFit T m t w N k g a = sFit T' m t w N k g a := by
  intro k
  induction k with
  | zero => exact fun _ _ => rfl
  | succ k ih =>
    intro g a
    rw [sFit, sFit, sGo_cg N 0 _ (fun x hx => h x (by omega)), ih]
theorem mup_vg {m : Nat → Nat} (v : vM m) {t w g : Nat} (hw : w < 3) (h1 : w = 2 ∨ 1 ≤ g) (h2 : g ≤ sMost w) (ht : t < 5) : vM (mup m (sOff w + t) g) ∧ mup m (sOff w + t) g 0 = m 0 ∧ mup m (sOff w + t) g 28 = m 28 := by
  obtain ⟨v0, v1, v2, v3, v4⟩ := v
  rcases (show w = 0 ∨ w = 1 ∨ w = 2 by omega) with rfl | rfl | rfl
  · have e : ∀ j, j < 3 ∨ 8 ≤ j → mup m (sOff 0 + t) g j = m j := fun j hj => mup_n m g (by show j ≠ 3 + t; omega)
    have hg : 1 ≤ g ∧ g ≤ 5 := ⟨by omega, h2⟩
    refine ⟨⟨by rw [e 0 (by omega)]; exact v0, by rw [e 1 (by omega)]; exact v1, by rw [e 2 (by omega)]; exact v2, by rw [e 28 (by omega)]; exact v3, fun y hy => ?_⟩, e 0 (by omega), e 28 (by omega)⟩
    rw [e 0 (by omega)] at hy
    obtain ⟨a, b, c, d, f⟩ := v4 y hy
    refine ⟨?_, by rw [e _ (by omega)]; exact b, by rw [e _ (by omega)]; exact c, by rw [e _ (by omega)]; exact d, by rw [e _ (by omega)]; exact f⟩
    unfold mup
    split <;> omega
  · have e : ∀ j, j < 8 ∨ 13 ≤ j → mup m (sOff 1 + t) g j = m j := fun j hj => mup_n m g (by show j ≠ 8 + t; omega)
    have hg : 1 ≤ g ∧ g ≤ 9 := ⟨by omega, h2⟩
    refine ⟨⟨by rw [e 0 (by omega)]; exact v0, by rw [e 1 (by omega)]; exact v1, by rw [e 2 (by omega)]; exact v2, by rw [e 28 (by omega)]; exact v3, fun y hy => ?_⟩, e 0 (by omega), e 28 (by omega)⟩
    rw [e 0 (by omega)] at hy
    obtain ⟨a, b, c, d, f⟩ := v4 y hy
    refine ⟨by rw [e _ (by omega)]; exact a, ?_, by rw [e _ (by omega)]; exact c, by rw [e _ (by omega)]; exact d, by rw [e _ (by omega)]; exact f⟩
    unfold mup
    split <;> omega
  · have hg : g ≤ 3 := h2
    refine ⟨mup_vp ⟨v0, v1, v2, v3, v4⟩ hg ht, mup_n m g (by show 0 ≠ 18 + t; omega), mup_n m g (by show 28 ≠ 18 + t; omega)⟩
section FITS
variable {th dg fa st ac sz tr : Int32}
theorem iS.fr2 {h h' : zH} (S : iS h) (F : zFr h h' 201 7) (s : zSh h' 201) : iS h' := S.fr F s
theorem c_go_b3 {T : Nat → Int32} {t w N : Nat} (hw : w < 3) (hN : N ≤ 16) : ∀ (k y n : Nat) (h : zH) (m : Nat → Nat), y + k = N → k < n → vM m → m 28 + k ≤ 5000 → t < m 0 → zMi h 201 th dg m → iS h → h[208]? = some (.inl (0, 16, .inl T)) → ∃ h', f_X5_goesAsTold_b3 n 200 (nI t) (nI N) (nI w) (nI y) h = some (zb (sGo T t w k y m = true), h') ∧ zFr h h' 201 7 ∧ iS h' := by
  intro k
  induction k with
  | zero =>
    intro y n h m hy hn v hm ht H S hT
    obtain ⟨n, rfl⟩ : ∃ x, n = x + 1 := ⟨n - 1, by omega⟩
    rw [e_X5_goesAsTold_b3, if_pos (nI_le (by omega) (by omega))]
    exact ⟨h, rfl, zFr.rf, S⟩
  | succ k ih =>
    intro y n h m hy hn v hm ht H S hT
    obtain ⟨n, rfl⟩ : ∃ x, n = x + 1 := ⟨n - 1, by omega⟩
    have h5 := v.1
    obtain ⟨h1, e1, H1, F1⟩ := c_year H v
    have v1 := sYear_v v (by omega)
    have S1 := S.fr F1 H1.sh
    have n1 := sYear_0 m h5
    have hT1 := (F1 208 (by omega)).trans hT
    rw [e_X5_goesAsTold_b3, if_neg (nI_ge (by omega) (by omega)), S.r0, Option.bind_some, H.k, Option.bind_some, e1, Option.bind_some]
    dsimp only
    rw [S1.r0, Option.bind_some, H1.k, Option.bind_some, c_nearTo H1 v1 (by rw [n1]; exact ht), Option.bind_some, Option.bind_some, H1.f7, Option.bind_some, H1.de v1 (by rw [n1]; exact ht), Option.bind_some]
    have both : ∃ h', f_X5_goesAsTold_b42 (f_X5_goesAsTold_b3 n) 200 (nI t) (nI N) (nI w) (nI y) (sSeen (sYear m) t w) h1 = some (zb (sGo T t w (k + 1) y m = true), h') ∧ zFr h h' 201 7 ∧ iS h' := by
      unfold f_X5_goesAsTold_b42
      rw [S1.r1, Option.bind_some, zL_of hT1 (by omega) (by omega), Option.bind_some, sGo]
      by_cases c : sSeen (sYear m) t w = T y
      · obtain ⟨h2, e2, F2, S2⟩ := ih (y + 1) n h1 _ (by omega) (by omega) v1 (by rw [sYear_28]; omega) (by rw [n1]; exact ht) H1 S1 hT1
        rw [if_pos c, if_pos c, nI_1]
        exact ⟨h2, e2, F1.tr F2, S2⟩
      · rw [if_neg c, if_neg c]
        exact ⟨h1, rfl, F1, S1⟩
    unfold sSeen at both
    by_cases c2 : w = 2
    · rw [if_pos c2] at both
      rw [if_pos (show nI w = (2 : Int32) by rw [c2]; rfl)]
      exact both
    · rw [if_neg c2] at both
      rw [if_neg (show ¬ nI w = (2 : Int32) from zne (b := 2) c2 (by omega) (by omega))]
      exact both
theorem c_fit_b43 {m : Nat → Nat} (G : gM th m) {T : Nat → Int32} {t w N : Nat} (hw : w < 3) (hN : N ≤ 16) (ht : t < m 0) : ∀ (k g n : Nat) (h : zH) (a : Int32), g + k = sMost w + 1 → k < n → (w = 2 ∨ 1 ≤ g) → zMi h 15 th dg m → iS h → h[208]? = some (.inl (0, 16, .inl T)) → ∃ h', f_X5_thatFit_b43 n 200 15 (nI t) (nI N) (nI w) (nI (sMost w)) a (nI g) h = some (sFit T m t w N k g a, h') ∧ zFr h h' 201 7 ∧ iS h' := by
  intro k
  have v := G.1
  have h5 := v.1
  have hy := G.2.1
  have hmo : sMost w ≤ 9 := by unfold sMost; repeat' split
                               all_goals omega
  induction k with
  | zero =>
    intro g n h a hg hn h1 H S hT
    obtain ⟨n, rfl⟩ : ∃ x, n = x + 1 := ⟨n - 1, by omega⟩
    rw [e_X5_thatFit_b43, if_pos (nI_lt (by omega) (by omega))]
    exact ⟨h, rfl, zFr.rf, S⟩
  | succ k ih =>
    intro g n h a hg hn hg1 H S hT
    obtain ⟨n, rfl⟩ : ∃ x, n = x + 1 := ⟨n - 1, by omega⟩
    obtain ⟨h1, e1, H1, F1, S1⟩ := c_then S H v G.b
    obtain ⟨vg, n2, y2⟩ := mup_vg v (t := t) hw hg1 (show g ≤ sMost w by omega) (by omega)
    have both : ∀ h2 : zH, zMi h2 201 th dg (mup m (sOff w + t) g) → zFr h1 h2 201 7 → ∃ h', f_X5_thatFit_b108 (f_X5_thatFit_b43 n) 200 15 (nI t) (nI N) (nI w) (nI (sMost w)) a (nI g) h2 = some (sFit T m t w N (k + 1) g a, h') ∧ zFr h h' 201 7 ∧ iS h' := by
      intro h2 H2 F2
      have S2 := S1.fr F2 H2.sh
      have F02 := F1.tr F2
      obtain ⟨h3, e3, F3, S3⟩ := c_go_b3 (T := T) (t := t) (w := w) hw hN N 0 zF h2 _ (by omega) (by show N < 5000; omega) vg (by rw [y2]; omega) (by rw [n2]; exact ht) H2 S2 ((F02 208 (by omega)).trans hT)
      have F03 := F02.tr F3
      unfold f_X5_thatFit_b108 f_X5_goesAsTold
      rw [S2.k, Option.bind_some, show (0 : Int32) = nI 0 from rfl, e3, Option.bind_some, sFit]
      dsimp only
      rw [zLet_eq, nI_1, ← show (0 : Int32) = nI 0 from rfl]
      by_cases c : sGo T t w N 0 (mup m (sOff w + t) g) = true
      · rw [if_neg (zb_n c), if_pos c]
        obtain ⟨h4, e4, F4, S4⟩ := ih (g + 1) n h3 (a ||| zbit g) (by omega) (by omega) (by omega) (H.keep (fun j _ _ => F03 j (by omega))) S3 ((F03 208 (by omega)).trans hT)
        exact ⟨h4, e4, F03.tr F4, S4⟩
      · rw [if_pos (zb_f c), if_neg c]
        obtain ⟨h4, e4, F4, S4⟩ := ih (g + 1) n h3 a (by omega) (by omega) (by omega) (H.keep (fun j _ _ => F03 j (by omega))) S3 ((F03 208 (by omega)).trans hT)
        exact ⟨h4, e4, F03.tr F4, S4⟩
    rw [e_X5_thatFit_b43, if_neg (nI_nlt (by omega) (by omega)), S.r0, Option.bind_some, S.2.1.k, Option.bind_some, e1, Option.bind_some, S1.r0]
    simp only [Option.bind_some]
    rcases (show w = 0 ∨ w = 1 ∨ w = 2 by omega) with rfl | rfl | rfl
    · obtain ⟨e, e2, H2⟩ := H1.sp h5 (i := t) (x := g) ht
      rw [if_pos (show nI 0 = (0 : Int32) from rfl), H1.f6, Option.bind_some, e2, Option.bind_some]
      exact both _ H2 (zFr.set (by omega) (by omega))
    · obtain ⟨e, e2, H2⟩ := H1.lp h5 (i := t) (x := g) ht
      rw [if_neg (show ¬ nI 1 = (0 : Int32) by decide), if_pos (show nI 1 = (1 : Int32) from rfl), H1.f9, Option.bind_some, e2, Option.bind_some]
      exact both _ H2 (zFr.set (by omega) (by omega))
    · obtain ⟨e, e2, H2⟩ := H1.pp h5 (i := t) (x := g) ht
      rw [if_neg (show ¬ nI 2 = (0 : Int32) by decide), if_neg (show ¬ nI 2 = (1 : Int32) by decide), H1.f8, Option.bind_some, e2, Option.bind_some]
      exact both _ H2 (zFr.set (by omega) (by omega))
theorem c_fit {m : Nat → Nat} (G : gM th m) {T : Nat → Int32} {t w N : Nat} (hw : w < 3) (hN : N ≤ 16) (ht : t < m 0) {h : zH} (H : zMi h 15 th dg m) (S : iS h) (hT : h[208]? = some (.inl (0, 16, .inl T))) : ∃ h', f_X5_thatFit 200 15 (nI t) (nI N) (nI w) h = some (if w = 2 then sFit T m t w N 4 0 0 else sFit T m t w N (sMost w) 1 0, h') ∧ zFr h h' 201 7 ∧ iS h' := by
  unfold f_X5_thatFit f_X5_thatFit_b11 f_X5_thatFit_b34
  rcases (show w = 0 ∨ w = 1 ∨ w = 2 by omega) with rfl | rfl | rfl
  · obtain ⟨h', e, F, S'⟩ := c_fit_b43 G (T := T) (t := t) (w := 0) (N := N) hw hN ht (sMost 0) 1 zF h 0 (by decide) (by show 5 < 5000; omega) (by omega) H S hT
    rw [if_neg (show ¬ nI 0 = (2 : Int32) by decide), if_pos (show nI 0 = (0 : Int32) from rfl), if_neg (show ¬ (0 : Nat) = 2 by decide), show (5 : Int32) = nI (sMost 0) from rfl]
    exact ⟨h', e, F, S'⟩
  · obtain ⟨h', e, F, S'⟩ := c_fit_b43 G (T := T) (t := t) (w := 1) (N := N) hw hN ht (sMost 1) 1 zF h 0 (by decide) (by show 9 < 5000; omega) (by omega) H S hT
    rw [if_neg (show ¬ nI 1 = (2 : Int32) by decide), if_neg (show ¬ nI 1 = (0 : Int32) by decide), if_pos (show nI 1 = (1 : Int32) from rfl), if_neg (show ¬ (1 : Nat) = 2 by decide), show (9 : Int32) = nI (sMost 1) from rfl]
    exact ⟨h', e, F, S'⟩
  · obtain ⟨h', e, F, S'⟩ := c_fit_b43 G (T := T) (t := t) (w := 2) (N := N) hw hN ht (4) 0 zF h 0 (by decide) (by show 4 < 5000; omega) (by omega) H S hT
    rw [if_pos (show nI 2 = (2 : Int32) from rfl), if_neg (show ¬ nI 2 = (0 : Int32) by decide), if_neg (show ¬ nI 2 = (1 : Int32) by decide), if_pos (show (2 : Nat) = 2 from rfl), show (3 : Int32) = nI (sMost 2) from rfl]
    exact ⟨h', e, F, S'⟩
/-! the reference -/
theorem r_comes_b6 {it : Nat → Nat → Int32} {la le ro ls ss : Nat → Int32} {t w N s : Nat} (hw : w < 3) (hN : N ≤ 16) (hs : s + N ≤ 320) : ∀ (k y n : Nat) (h : zH) (m : Nat → Nat) (so : Bool), y + k = N → k < n → vM m → m 28 + k ≤ 5000 → t < m 0 → zMo h 247 dg m → iP h fa st ac sz tr → iZ h → iRh h it la le ro ls ss → ∃ h', f_X8_comes_b6 n 241 (nI t) (nI s) (nI N) (zb (w = 2)) (zb (so = true)) (nI y) h = some (zb ((so && sGo (fun x => ro (s + x)) t w k y m) = true), h') ∧ iP h' fa st ac sz tr ∧ iZ h' ∧ rFr h h' := by
  intro k
  induction k with
  | zero =>
    intro y n h m so hy hn v hm ht H P Z R
    obtain ⟨n, rfl⟩ : ∃ x, n = x + 1 := ⟨n - 1, by omega⟩
    rw [e_X8_comes_b6, if_pos (nI_le (by omega) (by omega)), zb_B, Option.bind_some, sGo, Bool.and_true]
    exact ⟨h, rfl, P, Z, rFr.rf⟩
  | succ k ih =>
    intro y n h m so hy hn v hm ht H P Z R
    obtain ⟨n, rfl⟩ : ∃ x, n = x + 1 := ⟨n - 1, by omega⟩
    have h5 := v.1
    obtain ⟨h1, e1, H1, P1, Z1, F1⟩ := r_go1 P H v (by omega) Z
    have v1 := sYear_v v (by omega)
    have n1 := sYear_0 m h5
    have R1 := R.keep (h' := h1) (fun j _ => F1 j (by omega) (by omega))
    have nx : ∀ b : Bool, ∃ h', f_X8_comes_b6 n 241 (nI t) (nI s) (nI N) (zb (w = 2)) (zb (b = true)) (nI (y + 1)) h1 = some (zb ((b && sGo (fun x => ro (s + x)) t w k (y + 1) (sYear m)) = true), h') ∧ iP h' fa st ac sz tr ∧ iZ h' ∧ rFr h h' := by
      intro b
      obtain ⟨h2, e2, P2, Z2, F2⟩ := ih (y + 1) n h1 _ b (by omega) (by omega) v1 (by rw [sYear_28]; omega) (by rw [n1]; exact ht) H1 P1 Z1 R1
      exact ⟨h2, e2, P2, Z2, F1.tr F2⟩
    rw [e_X8_comes_b6, if_neg (nI_ge (by omega) (by omega)), P.k, Option.bind_some, e1, Option.bind_some]
    cases so with
    | false =>
      rw [if_pos (zb_f (by decide))]
      obtain ⟨h2, e2, r2⟩ := nx false
      refine ⟨h2, ?_, r2⟩
      unfold f_X8_comes_b63 f_X8_comes_b64
      rw [nI_1]
      exact e2
    | true =>
      rw [if_neg (zb_n rfl), P1.r2, Option.bind_some, nI_add, R1.l244 (by omega), Option.bind_some, P1.r6]
      simp only [Option.bind_some]
      rw [H1.de v1 (t := t) (by rw [n1]; exact ht), Option.bind_some, r_nearTo H1 v1 (by rw [n1]; exact ht), Option.bind_some]
      have both : ∃ h', f_X8_comes_b56 (f_X8_comes_b6 n) 241 (nI t) (nI s) (nI N) (zb (w = 2)) (nI y) (ro (s + y)) (sSeen (sYear m) t w) h1 = some (zb ((true && sGo (fun x => ro (s + x)) t w (k + 1) y m) = true), h') ∧ iP h' fa st ac sz tr ∧ iZ h' ∧ rFr h h' := by
        unfold f_X8_comes_b56 f_X8_comes_b63 f_X8_comes_b64
        rw [nI_1, sGo]
        by_cases c : sSeen (sYear m) t w = ro (s + y)
        · rw [if_pos c.symm, if_pos c]
          exact nx true
        · rw [if_neg (fun q => c q.symm), if_neg c]
          exact nx false
      unfold sSeen at both
      by_cases c2 : w = 2
      · rw [if_pos c2] at both
        rw [if_neg (zb_n c2)]
        exact both
      · rw [if_neg c2] at both
        rw [if_pos (zb_f c2)]
        exact both
theorem zMo.st2 {h : zH} {m : Nat → Nat} (H : zMo h 247 dg m) {t w x : Nat} (hw : w < 3) (ht : t < 5) : ∃ e, zS h 0 247 (nI (sOff w) + nI t) (nI x) = some (h.set 247 e) ∧ zMo (h.set 247 e) 247 dg (mup m (sOff w + t) x) := by
  rw [nI_add]
  exact H.st (by unfold sOff; repeat' split
                 all_goals omega) (by unfold sOff; repeat' split
                                      all_goals omega)
theorem r_fits_b153 {it : Nat → Nat → Int32} {la le ro ls ss : Nat → Int32} {m : Nat → Nat} (G : gM th m) {t w N r i : Nat} (hw : w < 3) (hN : N ≤ 16) (ht : t < m 0) (hr : r < 8) (hi : i + N ≤ 40) : ∀ (k g n : Nat) (h : zH) (a : Int32), g + k = sMost w + 1 → k < n → (w = 2 ∨ 1 ≤ g) → zMo h 245 dg m → iP h fa st ac sz tr → iZ h → iRh h it la le ro ls ss → ∃ h' h'', f_X8_fits_b153 n 241 (nI t) (nI r) (nI i) (nI N) (nI w) a (nI (sMost w)) (nI (sOff w)) (nI g) h = some (sFit (fun x => ro (40 * r + i + x)) m t w N k g a, h'') ∧ f_X8_well 241 (sFit (fun x => ro (40 * r + i + x)) m t w N k g a) h' = some (sFit (fun x => ro (40 * r + i + x)) m t w N k g a, h'') ∧ iP h' fa st ac sz tr ∧ iZ h' ∧ rFr h h' := by
  intro k
  have v := G.1
  have h5 := v.1
  have hy := G.2.1
  have hmo : sMost w ≤ 9 := by unfold sMost; repeat' split
                               all_goals omega
  induction k with
  | zero =>
    intro g n h a hg hn h1 H P Z R
    obtain ⟨n, rfl⟩ : ∃ x, n = x + 1 := ⟨n - 1, by omega⟩
    obtain ⟨h2, e2, -⟩ := r_well P a
    rw [e_X8_fits_b153, if_pos (nI_lt (by omega) (by omega)), P.k, Option.bind_some, e2, Option.bind_some]
    exact ⟨h, h2, rfl, e2, P, Z, rFr.rf⟩
  | succ k ih =>
    intro g n h a hg hn hg1 H P Z R
    obtain ⟨n, rfl⟩ : ∃ x, n = x + 1 := ⟨n - 1, by omega⟩
    obtain ⟨h1, e1, H1, P1, Z1, F1, F1r⟩ := r_aside P H v Z
    obtain ⟨vg, n2, y2⟩ := mup_vg v (t := t) hw hg1 (show g ≤ sMost w by omega) (by omega)
    obtain ⟨e, e2, H2⟩ := H1.st2 (t := t) (w := w) (x := g) hw (by omega)
    have F2 : rFr h1 (h1.set 247 e) := fun j a b => zset_ne a
    have P2 := P1.keep (h' := h1.set 247 e) (zset_ne (by omega))
    have Z2 : iZ (h1.set 247 e) := ⟨H2.row, Z1.2.keep (zset_ne (by omega))⟩
    have R2 := R.keep (h' := h1.set 247 e) (fun j hj => (zset_ne (by omega)).trans (F1 j (by omega)))
    obtain ⟨h3, e3, P3, Z3, F3⟩ := r_comes_b6 (t := t) (w := w) (N := N) (s := 40 * r + i) hw hN (by omega) N 0 zF _ _ true (by omega) (by show N < 5000; omega) vg (by rw [y2]; omega) (by rw [n2]; exact ht) H2 P2 Z2 R2
    rw [Bool.true_and] at e3
    have F03 := (F1r.tr F2).tr F3
    have R3 := R.keep (h' := h3) (fun j hj => F03 j (by omega) (by omega))
    have H3 : zMo h3 245 dg m := H.keep (F03 _ (by omega) (by omega))
    have key : ∃ h' h'', f_X8_fits_b198 (f_X8_fits_b153 n) 241 (nI t) (nI r) (nI i) (nI N) (nI w) (nI (sMost w)) (nI (sOff w)) (nI g) a 241 (nI t) ((((40 : Int32) * nI r) + nI i)) (nI N) (zb (w = 2)) (h1.set 247 e) = some (sFit (fun x => ro (40 * r + i + x)) m t w N (k + 1) g a, h'') ∧ f_X8_well 241 (sFit (fun x => ro (40 * r + i + x)) m t w N (k + 1) g a) h' = some (sFit (fun x => ro (40 * r + i + x)) m t w N (k + 1) g a, h'') ∧ iP h' fa st ac sz tr ∧ iZ h' ∧ rFr h h' := by
      unfold f_X8_fits_b198 f_X8_comes f_X8_fits_b212
      rw [P2.k, Option.bind_some, z40, pk_mul, nI_add, show (1 : Int32) = zb (true = true) from rfl, show (0 : Int32) = nI 0 from rfl, e3, Option.bind_some, sFit]
      dsimp only
      rw [zLet_eq, zLet_eq, ← show (0 : Int32) = nI 0 from rfl, ← show (1 : Int32) = zb (true = true) from rfl, nI_1, zor0]
      by_cases c : sGo (fun x => ro (40 * r + i + x)) t w N 0 (mup m (sOff w + t) g) = true
      · rw [if_neg (zb_n c), if_pos c]
        obtain ⟨h4, h5', e4, w4, P4, Z4, F4⟩ := ih (g + 1) n h3 (a ||| zbit g) (by omega) (by omega) (by omega) H3 P3 Z3 R3
        exact ⟨h4, h5', e4, w4, P4, Z4, F03.tr F4⟩
      · rw [if_pos (zb_f c), if_neg c]
        obtain ⟨h4, h5', e4, w4, P4, Z4, F4⟩ := ih (g + 1) n h3 a (by omega) (by omega) (by omega) H3 P3 Z3 R3
        exact ⟨h4, h5', e4, w4, P4, Z4, F03.tr F4⟩
    rw [e_X8_fits_b153, if_neg (nI_nlt (by omega) (by omega)), P.k, Option.bind_some, e1, Option.bind_some, P1.r6, Option.bind_some, e2, Option.bind_some]
    by_cases c2 : w = 2
    · rw [zb_t c2] at key
      rw [if_pos (show nI w = (2 : Int32) by rw [c2]; rfl)]
      exact key
    · rw [zb_f c2] at key
      rw [if_neg (show ¬ nI w = (2 : Int32) from zne (b := 2) c2 (by omega) (by omega))]
      exact key
end FITS
