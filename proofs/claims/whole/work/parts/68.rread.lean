/-! PURE: the reference reads: numbers, things -/
def sVal (w : Nat → Nat) (k p : Nat) : Option (Nat × Nat) := if sDig w k p = true then (if sDig w k (p + 1) = true then (if sDig w k (p + 2) = true then none else some (10 * (w p - 48) + (w (p + 1) - 48), p + 2)) else some (w p - 48, p + 1)) else none
theorem sNum_val (w : Nat → Nat) (k p l u : Nat) : sNum w k p l u = (match sVal w k p with
  | none => .inl 1
  | some x => sRng l u x.1 x.2) := by
  unfold sNum sVal
  split
  · split
    · split <;> rfl
    · rfl
  · rfl
theorem sVal_le {w : Nat → Nat} {k p : Nat} {x : Nat × Nat} (h : sVal w k p = some x) : x.1 ≤ 99 ∧ x.2 ≤ k ∧ p < x.2 := by
  unfold sVal at h
  split at h
  · rename_i d0
    have v0 := sDig_v d0
    split at h
    · rename_i d1
      have v1 := sDig_v d1
      split at h
      · cases h
      · cases h
        exact ⟨by show 10 * (w p - 48) + (w (p + 1) - 48) ≤ 99; omega, by show p + 2 ≤ k; omega, by show p < p + 2; omega⟩
    · cases h
      exact ⟨by show w p - 48 ≤ 99; omega, by show p + 1 ≤ k; omega, by show p < p + 1; omega⟩
  · cases h
theorem tokN {w : Nat → Nat} {k p q : Nat} {t v : Int32} (T : sTok w k p q t v) : (sVal w k p = none → ¬ t = 2) ∧ (∀ x, sVal w k p = some x → t = 2 ∧ v = nI x.1 ∧ q = x.2) := by
  obtain ⟨t0, t1, t3, t4, t5, t6, t7⟩ := T
  unfold sVal
  by_cases d0 : sDig w k p = true
  · rw [if_pos d0]
    by_cases d1 : sDig w k (p + 1) = true
    · rw [if_pos d1]
      by_cases d2 : sDig w k (p + 2) = true
      · rw [if_pos d2]
        exact ⟨fun _ => by rw [t7 d0 d1 d2]; decide, fun x hx => by cases hx⟩
      · rw [if_neg d2]
        exact ⟨fun z => (by cases z), fun x hx => by cases hx; exact t6 d0 d1 d2⟩
    · rw [if_neg d1]
      exact ⟨fun z => (by cases z), fun x hx => by cases hx; exact t5 d0 d1⟩
  · rw [if_neg d0]
    refine ⟨fun _ => ?_, fun x hx => by cases hx⟩
    by_cases c : p < k
    · by_cases l : 97 ≤ w p ∧ w p ≤ 122
      · rw [(t1 c l).1]; decide
      · by_cases s : w p = 44 ∨ w p = 59
        · rw [(t3 c l d0 s).1]; decide
        · rw [t4 c l d0 s]; decide
    · rw [(t0 c).1]; decide
theorem tokS {w : Nat → Nat} {k p q c : Nat} {t v : Int32} (T : sTok w k p q t v) (h255 : ∀ i, i < k → w i ≤ 255) (hc : c = 44 ∨ c = 59) : (t = 3 ∧ v = nI c ↔ sIs w k p c = true) ∧ (sIs w k p c = true → q = p + 1) := by
  obtain ⟨t0, t1, t3, t4, t5, t6, t7⟩ := T
  have key : sIs w k p c = true ↔ p < k ∧ w p = c := by
    unfold sIs
    simp
  rw [key]
  by_cases cp : p < k
  · have hw := h255 p cp
    by_cases l : 97 ≤ w p ∧ w p ≤ 122
    · refine ⟨⟨fun z => ?_, fun z => by omega⟩, fun z => by omega⟩
      rw [(t1 cp l).1] at z
      exact absurd z.1 (by decide)
    · by_cases d0 : sDig w k p = true
      · have v0 := sDig_v d0
        refine ⟨⟨fun z => ?_, fun z => by omega⟩, fun z => by omega⟩
        exfalso
        by_cases d1 : sDig w k (p + 1) = true
        · by_cases d2 : sDig w k (p + 2) = true
          · rw [t7 d0 d1 d2] at z
            exact absurd z.1 (by decide)
          · rw [(t6 d0 d1 d2).1] at z
            exact absurd z.1 (by decide)
        · rw [(t5 d0 d1).1] at z
          exact absurd z.1 (by decide)
      · by_cases s : w p = 44 ∨ w p = 59
        · obtain ⟨a, b, e⟩ := t3 cp l d0 s
          refine ⟨⟨fun z => ⟨cp, ?_⟩, fun z => ⟨a, by rw [b, z.2]⟩⟩, fun _ => e⟩
          rw [b] at z
          exact (nI_eq (by omega) (by omega)).mp z.2
        · refine ⟨⟨fun z => ?_, fun z => by omega⟩, fun z => by omega⟩
          rw [t4 cp l d0 s] at z
          exact absurd z.1 (by decide)
  · refine ⟨⟨fun z => ?_, fun z => by omega⟩, fun z => by omega⟩
    rw [(t0 cp).1] at z
    exact absurd z.1 (by decide)
section RREAD
variable {fa st ac tr : Int32} {w : Nat → Nat} {k : Nat}
theorem r_fails {h : zH} {a b t v e : Int32} {f : Nat → Int32} (S : rS fa st ac tr w k h a b t v e f) (n : Int32) : ∃ h', f_X8_fails 241 n h = some ((0 : Int32), h') ∧ rS fa st ac tr w k h' a b t v n f ∧ ∀ j, j ≠ 241 → h'[j]? = h[j]? := by
  obtain ⟨z, e1, S1⟩ := S.p20 n
  unfold f_X8_fails
  rw [e1, Option.bind_some]
  exact ⟨_, rfl, S1, fun j hj => zset_ne hj⟩
def rF (h h' : zH) : Prop := ∀ j, j ≠ 241 → j ≠ 246 → h'[j]? = h[j]?
theorem rF.nx {h h1 h2 : zH} (a : rF h h1) (b : rF h1 h2) : rF h h2 := fun j x y => (b j x y).trans (a j x y)
theorem rF.of {h h' : zH} (a : ∀ j, j ≠ 241 → h'[j]? = h[j]?) : rF h h' := fun j x _ => a j x
/-- what a number and its sign leave -/
def rNum (fa st ac tr : Int32) (w : Nat → Nat) (k : Nat) (h : zH) (e : Int32) (f : Nat → Int32) (j : Nat) (r : (Nat × Nat) ⊕ (Nat × Nat)) (o : Option (Int32 × zH)) : Prop := match r with
  | .inl x => ∃ h' a' t' v' f', o = some ((0 : Int32), h') ∧ rS fa st ac tr w k h' a' (nI x.2) t' v' (nI x.1) f' ∧ rF h h'
  | .inr x => ∃ h' b' t' v', o = some ((1 : Int32), h') ∧ rS fa st ac tr w k h' (nI x.2) b' t' v' e (upd f j (nI x.1)) ∧ x.2 ≤ k ∧ rF h h'
theorem r_number {p j l u c : Nat} {h : zH} {b t v e : Int32} {f : Nat → Int32} (hp : p ≤ k) (hj : j < 30) (hl : l < 1000) (hu : u < 1000) (hc : c = 44 ∨ c = 59) (S : rS fa st ac tr w k h (nI p) b t v e f) : rNum fa st ac tr w k h e f j (sField w k p l u c) (f_X8_number 241 (nI j) (nI l) (nI u) (nI c) h) := by
  obtain ⟨h1, q1, t1, v1, e1, S1, hq1, T1, F1⟩ := r_step hp S
  have T1' := tokN T1
  have h255 := S.2.2.2.2
  unfold f_X8_number sField
  rw [S.zk, Option.bind_some, e1, Option.bind_some, S1.i18, Option.bind_some, sNum_val]
  cases hv : sVal w k p with
  | none =>
    obtain ⟨h2, e2, S2, F2⟩ := r_fails S1 1
    rw [if_neg (T1'.1 hv), S1.zk, Option.bind_some, e2, Option.bind_some]
    exact ⟨h2, _, _, _, _, rfl, S2, (rF.of F1).nx (rF.of F2)⟩
  | some x =>
    obtain ⟨a1, a2, a3⟩ := T1'.2 x hv
    have xb := sVal_le hv
    rw [a1, a2, a3] at S1
    rw [if_pos a1, S1.i19, Option.bind_some, r_inN (by omega) (by omega) (by omega), Option.bind_some]
    dsimp only
    unfold sRng
    by_cases g : l ≤ x.1 ∧ x.1 ≤ u
    · obtain ⟨z, e2, S2⟩ := S1.s246 hj (nI x.1)
      obtain ⟨h3, q3, t3, v3, e3, S3, hq3, T3, F3⟩ := r_step xb.2.1 S2
      have T3' := tokS T3 h255 hc
      rw [if_neg (zb_n g), if_pos g, S1.r5, Option.bind_some, Option.bind_some, e2, Option.bind_some, S2.zk, Option.bind_some, e3, Option.bind_some, S3.i18, Option.bind_some, S3.i19]
      simp only [Option.bind_some]
      have F13 : rF h h3 := fun y a b => (F3 y a).trans ((zset_ne b).trans (F1 y a))
      have bad : ¬ sIs w k x.2 c = true → rNum fa st ac tr w k h e f j (.inl (1, x.2)) (f_X8_number_b70 241 h3) := by
        intro _
        obtain ⟨h4, e4, S4, F4⟩ := r_fails S3 1
        unfold f_X8_number_b70
        rw [S3.zk, Option.bind_some, e4, Option.bind_some]
        exact ⟨h4, _, _, _, _, rfl, S4, F13.nx (rF.of F4)⟩
      by_cases y : sIs w k x.2 c = true
      · obtain ⟨y1, y2⟩ := T3'.1.mpr y
        have y3 := T3'.2 y
        rw [if_pos y1, if_pos y2, if_pos y]
        unfold f_X8_number_b78
        rw [y3] at S3 hq3
        exact ⟨h3, _, _, _, rfl, S3, hq3, F13⟩
      · rw [if_neg y]
        by_cases y1 : t3 = 3
        · rw [if_pos y1, if_neg (fun y2 => y (T3'.1.mp ⟨y1, y2⟩))]
          exact bad y
        · rw [if_neg y1]
          exact bad y
    · obtain ⟨h2, e2, S2, F2⟩ := r_fails S1 2
      rw [if_pos (zb_f g), if_neg g, S1.zk, Option.bind_some, e2, Option.bind_some]
      exact ⟨h2, _, _, _, _, rfl, S2, (rF.of F1).nx (rF.of F2)⟩
theorem r_sortOf {h : zH} {x : Nat} (hx : x ≤ 255) : f_X8_sortOf (nI x) h = some (nI (sSo x)) := by
  unfold f_X8_sortOf sSo
  rw [show (99 : Int32) = nI 99 from rfl, show (103 : Int32) = nI 103 from rfl, show (105 : Int32) = nI 105 from rfl, show (115 : Int32) = nI 115 from rfl, show (119 : Int32) = nI 119 from rfl]
  have q : ∀ c, c < 1000 → ((nI x = nI c) ↔ (x = c)) := fun c hc => nI_eq (by omega) (by omega)
  by_cases c3 : x = 105
  · rw [if_pos ((q _ (by omega)).mpr c3), c3]; rfl
  · rw [if_neg (fun z => c3 ((q _ (by omega)).mp z))]
    by_cases c1 : x = 99
    · rw [if_pos ((q _ (by omega)).mpr c1), c1]; rfl
    · rw [if_neg (fun z => c1 ((q _ (by omega)).mp z)), if_neg c1]
      by_cases c5 : x = 119
      · rw [if_pos ((q _ (by omega)).mpr c5), c5]; rfl
      · rw [if_neg (fun z => c5 ((q _ (by omega)).mp z))]
        by_cases c4 : x = 115
        · rw [if_pos ((q _ (by omega)).mpr c4), c4]; rfl
        · rw [if_neg (fun z => c4 ((q _ (by omega)).mp z))]
          by_cases c2 : x = 103
          · rw [if_pos ((q _ (by omega)).mpr c2), c2]; rfl
          · rw [if_neg (fun z => c2 ((q _ (by omega)).mp z)), if_neg c2, if_neg c3, if_neg c4, if_neg c5]; rfl
/-- the sort of the letter at p, as the reference's token tells it -/
theorem sSo_nl {x : Nat} (h : ¬ (97 ≤ x ∧ x ≤ 122)) : sSo x = 0 := by
  unfold sSo
  rw [if_neg (by omega), if_neg (by omega), if_neg (by omega), if_neg (by omega), if_neg (by omega)]
/-- the class's fields, by the reference's -/
theorem cF_in {p l u c : Nat} {x : Nat × Nat} (h : sField w k p l u c = .inr x) : cF w k (p, 0) l u c = (x.1, x.2, 0) := by
  rw [cF_0, h]
theorem cF_er {p l u c : Nat} {x : Nat × Nat} (h : sField w k p l u c = .inl x) : (cF w k (p, 0) l u c).2 = (x.2, x.1) := by
  rw [cF_0, h]
theorem sField_e {p l u c : Nat} {x : Nat × Nat} (h : sField w k p l u c = .inl x) : x.1 ≠ 0 := by
  unfold sField at h
  cases hn : sNum w k p l u with
  | inl e =>
    have := sNum_e hn
    rw [hn] at h
    cases h
    show e ≠ 0
    omega
  | inr y =>
    rw [hn] at h
    dsimp only at h
    split at h
    · cases h
    · cases h
      show (1 : Nat) ≠ 0
      omega
/-- a thing, by the reference: where the class's fault is 0, all stands in the row; else wrong and begin tell it -/
theorem r_thing {p : Nat} {h : zH} {q0 : Nat} {t v e : Int32} {f : Nat → Int32} {u : Nat → Nat} (hp : p < k) (hq0 : q0 ≤ k) (T : sTok w k p q0 t v) (S : rS fa st ac tr w k h (nI q0) (nI p) t v e f) (vu : vM u) (A : zAg f 0 u) : ∃ h', (((cT w k p u).1.2 = 0 ∧ ∃ b' t' v' f', f_X8_readsThing 241 h = some ((1 : Int32), h') ∧ rS fa st ac tr w k h' (nI (cT w k p u).1.1) b' t' v' e f' ∧ zAg f' 0 (cT w k p u).2 ∧ (cT w k p u).2 0 = u 0 + 1) ∨ ((cT w k p u).1.2 ≠ 0 ∧ ∃ a' t' v' f', f_X8_readsThing 241 h = some ((0 : Int32), h') ∧ rS fa st ac tr w k h' a' (nI (cT w k p u).1.1) t' v' (nI (cT w k p u).1.2) f')) ∧ rF h h' := by
  have h5 := vu.1
  have h6 := zpow63 vu.2.2.1
  have h255 := S.2.2.2.2
  have hw := h255 p hp
  obtain ⟨A0, A1, A2, A28, A29, At⟩ := A
  have l0 : zL h 0 246 (0 : Int32) = some (nI (u 0)) := by rw [z0, zL_of S.2.2.1 (by omega) (by omega), A0]
  have pre : f_X8_readsThing 241 h = f_X8_readsThing_b26 241 (nI (u 0)) (nI (sSo (w p))) h := by
    unfold f_X8_readsThing
    rw [S.r5, Option.bind_some, l0, Option.bind_some, S.i18, Option.bind_some]
    by_cases l : 97 ≤ w p ∧ w p ≤ 122
    · obtain ⟨a, b, c⟩ := T.2.1 hp l
      rw [if_pos a, S.i19, Option.bind_some, b, r_sortOf hw, Option.bind_some]
    · have n1 : ¬ t = 1 := by
        have T' := tokN T
        intro z
        by_cases d0 : sDig w k p = true
        · cases hv : sVal w k p with
          | none =>
            unfold sVal at hv
            rw [if_pos d0] at hv
            by_cases d1 : sDig w k (p + 1) = true
            · rw [if_pos d1] at hv
              by_cases d2 : sDig w k (p + 2) = true
              · have := T.2.2.2.2.2.2 d0 d1 d2
                rw [this] at z
                exact absurd z (by decide)
              · rw [if_neg d2] at hv
                cases hv
            · rw [if_neg d1] at hv
              cases hv
          | some x =>
            rw [(T'.2 x hv).1] at z
            exact absurd z (by decide)
        · by_cases s : w p = 44 ∨ w p = 59
          · rw [(T.2.2.1 hp l d0 s).1] at z
            exact absurd z (by decide)
          · rw [T.2.2.2.1 hp l d0 s] at z
            exact absurd z (by decide)
      rw [if_neg n1, sSo_nl l]
      rfl
  rw [pre]
  unfold f_X8_readsThing_b26
  have hso := sSo_le (w p)
  by_cases c1 : sSo (w p) = 0
  · have ct : cT w k p u = ((p, 1), u) := by unfold cT; rw [if_pos c1]
    obtain ⟨h1, e1, S1, F1⟩ := r_fails S 1
    rw [ct, if_pos (show nI (sSo (w p)) = 0 by rw [c1]; rfl), S.zk, Option.bind_some, e1, Option.bind_some]
    exact ⟨h1, Or.inr ⟨by show (1 : Nat) ≠ 0; omega, _, _, _, _, rfl, S1⟩, rF.of F1⟩
  · rw [if_neg (show ¬ nI (sSo (w p)) = 0 by rw [znz (by omega)]; exact c1)]
    by_cases c2 : u 0 < 5
    · have lt : 97 ≤ w p ∧ w p ≤ 122 := Classical.byContradiction fun z => c1 (sSo_nl z)
      have eq0 : q0 = p + 1 := (T.2.1 hp lt).2.2
      subst eq0
      rw [if_neg (show ¬ nI (u 0) = (5 : Int32) from zne (b := 5) (by omega) (by omega) (by omega)), S.r5, Option.bind_some, show (3 : Int32) + nI (u 0) = nI (3 + u 0) from nI_add 3 _]
      obtain ⟨x1, e1, S1⟩ := S.s246 (i := 3 + u 0) (by omega) (nI (sSo (w p)))
      obtain ⟨x2, e2, S2⟩ := S1.s246 (i := 0) (by omega) (nI (u 0 + 1))
      have l1 : zL (h.set 246 x1) 0 246 (0 : Int32) = some (nI (u 0)) := by
        rw [z0, zL_of S1.2.2.1 (by omega) (by omega), upd_n (by omega), A0]
      have e2' : zS (h.set 246 x1) 0 246 (0 : Int32) (nI (u 0 + 1)) = some ((h.set 246 x1).set 246 x2) := e2
      have F02 : rF h ((h.set 246 x1).set 246 x2) := fun j a b => (zset_ne b).trans (zset_ne b)
      rw [e1, Option.bind_some, S1.r5, Option.bind_some, l1, Option.bind_some, nI_1, e2', Option.bind_some, S2.zk, Option.bind_some, z13, nI_add]
      generalize ((h.set 246 x1).set 246 x2 : zH) = g2 at S2 F02
      have ct : cT w k p u = ((cT4 w k p (u 2)).2, sExt u (sSo (w p)) (cT1 w k p).1 (cT2 w k p).1 (cT3 w k p).1 (cT4 w k p (u 2)).1) := by unfold cT; rw [if_neg c1, if_pos c2]
      rw [ct]
      dsimp only
      have N1 := r_number (j := 13 + u 0) (l := 0) (u := 40) (c := 44) (show p + 1 ≤ k by omega) (by omega) (by omega) (by omega) (Or.inl rfl) S2
      cases hf1 : sField w k (p + 1) 0 40 44 with
      | inl x =>
        rw [hf1] at N1
        obtain ⟨g3, a3, t3, v3, f3, e3, S3, F3⟩ := N1
        have e3' : f_X8_number 241 (nI (13 + u 0)) (0 : Int32) (40 : Int32) (44 : Int32) g2 = some ((0 : Int32), g3) := e3
        have k1 : (cT1 w k p).2 = (x.2, x.1) := cF_er hf1
        have ne := sField_e hf1
        have k2 : (cT2 w k p).2 = (x.2, x.1) := by unfold cT2; rw [k1]; exact cF_f ne
        have k3 : (cT3 w k p).2 = (x.2, x.1) := by unfold cT3; rw [k2]; exact cF_f ne
        have k4 : (cT4 w k p (u 2)).2 = (x.2, x.1) := by unfold cT4; rw [k3]; exact cF_f ne
        rw [e3', Option.bind_some, if_pos rfl, k4]
        exact ⟨g3, Or.inr ⟨ne, _, _, _, _, rfl, S3⟩, F02.nx F3⟩
      | inr x =>
        rw [hf1] at N1
        obtain ⟨g3, b3, t3, v3, e3, S3, hx, F3⟩ := N1
        have e3' : f_X8_number 241 (nI (13 + u 0)) (0 : Int32) (40 : Int32) (44 : Int32) g2 = some ((1 : Int32), g3) := e3
        have k1 : cT1 w k p = (x.1, x.2, 0) := cF_in hf1
        rw [e3', Option.bind_some]
        dsimp only
        rw [if_neg (show ¬ (1 : Int32) = 0 by decide)]
        rw [S3.zk, Option.bind_some, z18, nI_add]
        have N2 := r_number (j := 18 + u 0) (l := 0) (u := 3) (c := 44) hx (by omega) (by omega) (by omega) (Or.inl rfl) S3
        cases hf2 : sField w k x.2 0 3 44 with
        | inl y =>
          rw [hf2] at N2
          obtain ⟨g4, a4, t4, v4, f4, e4, S4, F4⟩ := N2
          have e4' : f_X8_number 241 (nI (18 + u 0)) (0 : Int32) (3 : Int32) (44 : Int32) g3 = some ((0 : Int32), g4) := e4
          have ne := sField_e hf2
          have k2 : (cT2 w k p).2 = (y.2, y.1) := by unfold cT2; rw [k1]; exact cF_er hf2
          have k3 : (cT3 w k p).2 = (y.2, y.1) := by unfold cT3; rw [k2]; exact cF_f ne
          have k4 : (cT4 w k p (u 2)).2 = (y.2, y.1) := by unfold cT4; rw [k3]; exact cF_f ne
          rw [e4', Option.bind_some, if_pos rfl, k4]
          exact ⟨g4, Or.inr ⟨ne, _, _, _, _, rfl, S4⟩, (F02.nx F3).nx F4⟩
        | inr y =>
          rw [hf2] at N2
          obtain ⟨g4, b4, t4, v4, e4, S4, hy, F4⟩ := N2
          have e4' : f_X8_number 241 (nI (18 + u 0)) (0 : Int32) (3 : Int32) (44 : Int32) g3 = some ((1 : Int32), g4) := e4
          have k2 : cT2 w k p = (y.1, y.2, 0) := by unfold cT2; rw [k1]; exact cF_in hf2
          rw [e4', Option.bind_some]
          dsimp only
          rw [if_neg (show ¬ (1 : Int32) = 0 by decide)]
          rw [S4.zk, Option.bind_some, z8, nI_add]
          have N3 := r_number (j := 8 + u 0) (l := 1) (u := 9) (c := 44) hy (by omega) (by omega) (by omega) (Or.inl rfl) S4
          cases hf3 : sField w k y.2 1 9 44 with
          | inl z =>
            rw [hf3] at N3
            obtain ⟨g5, a5, t5, v5, f5, e5, S5, F5⟩ := N3
            have e5' : f_X8_number 241 (nI (8 + u 0)) (1 : Int32) (9 : Int32) (44 : Int32) g4 = some ((0 : Int32), g5) := e5
            have ne := sField_e hf3
            have k3 : (cT3 w k p).2 = (z.2, z.1) := by unfold cT3; rw [k2]; exact cF_er hf3
            have k4 : (cT4 w k p (u 2)).2 = (z.2, z.1) := by unfold cT4; rw [k3]; exact cF_f ne
            rw [e5', Option.bind_some, if_pos rfl, k4]
            exact ⟨g5, Or.inr ⟨ne, _, _, _, _, rfl, S5⟩, ((F02.nx F3).nx F4).nx F5⟩
          | inr z =>
            rw [hf3] at N3
            obtain ⟨g5, b5, t5, v5, e5, S5, hz, F5⟩ := N3
            have e5' : f_X8_number 241 (nI (8 + u 0)) (1 : Int32) (9 : Int32) (44 : Int32) g4 = some ((1 : Int32), g5) := e5
            have k3 : cT3 w k p = (z.1, z.2, 0) := by unfold cT3; rw [k2]; exact cF_in hf3
            have pw := zpow6' vu.2.2.1
            have hpos := Nat.two_pow_pos (u 2)
            have l2 : zL g5 0 246 (2 : Int32) = some (nI (u 2)) := by
              rw [z2, zL_of S5.2.2.1 (by omega) (by omega), upd_n (by omega), upd_n (by omega), upd_n (by omega), upd_n (by omega), upd_n (by omega), A2]
            rw [e5', Option.bind_some]
            dsimp only
            rw [if_neg (show ¬ (1 : Int32) = 0 by decide)]
            rw [S5.r5, Option.bind_some, l2, Option.bind_some, S5.zk, Option.bind_some, z23, nI_add, pw.1, show nI (2 ^ u 2) - (1 : Int32) = nI (2 ^ u 2 - 1) from pk_sub (b := 1) hpos]
            have N4 := r_number (j := 23 + u 0) (l := 0) (u := 2 ^ u 2 - 1) (c := 59) hz (by omega) (by omega) (by omega) (Or.inr rfl) S5
            cases hf4 : sField w k z.2 0 (2 ^ u 2 - 1) 59 with
            | inl y4 =>
              rw [hf4] at N4
              obtain ⟨g6, a6, t6, v6, f6, e6, S6, F6⟩ := N4
              have e6' : f_X8_number 241 (nI (23 + u 0)) (0 : Int32) (nI (2 ^ u 2 - 1)) (59 : Int32) g5 = some ((0 : Int32), g6) := e6
              have ne := sField_e hf4
              have k4 : (cT4 w k p (u 2)).2 = (y4.2, y4.1) := by unfold cT4; rw [k3]; exact cF_er hf4
              rw [e6', Option.bind_some, if_pos rfl, k4]
              exact ⟨g6, Or.inr ⟨ne, _, _, _, _, rfl, S6⟩, (((F02.nx F3).nx F4).nx F5).nx F6⟩
            | inr y4 =>
              rw [hf4] at N4
              obtain ⟨g6, b6, t6, v6, e6, S6, hy4, F6⟩ := N4
              have e6' : f_X8_number 241 (nI (23 + u 0)) (0 : Int32) (nI (2 ^ u 2 - 1)) (59 : Int32) g5 = some ((1 : Int32), g6) := e6
              have k4 : cT4 w k p (u 2) = (y4.1, y4.2, 0) := by unfold cT4; rw [k3]; exact cF_in hf4
              rw [e6', Option.bind_some]
              dsimp only
              rw [if_neg (show ¬ (1 : Int32) = 0 by decide), k4, k1, k2, k3]
              refine ⟨g6, Or.inl ⟨rfl, _, _, _, _, rfl, S6, ?_, if_pos rfl⟩, (((F02.nx F3).nx F4).nx F5).nx F6⟩
              have o : ∀ i, i < 30 → i ≠ 0 → i ≠ 3 + u 0 → i ≠ 13 + u 0 → i ≠ 18 + u 0 → i ≠ 8 + u 0 → i ≠ 23 + u 0 → upd (upd (upd (upd (upd (upd f (3 + u 0) (nI (sSo (w p)))) 0 (nI (u 0 + 1))) (13 + u 0) (nI x.1)) (18 + u 0) (nI y.1)) (8 + u 0) (nI z.1)) (23 + u 0) (nI y4.1) i = f i := by
                intro i _ a b c d e' g
                rw [upd_n g, upd_n e', upd_n d, upd_n c, upd_n a, upd_n b]
              refine ⟨?_, ?_, ?_, ?_, ?_, fun i hi => ?_⟩
              · rw [upd_n (by omega), upd_n (by omega), upd_n (by omega), upd_n (by omega), upd_s]
                rfl
              · rw [o 1 (by omega) (by omega) (by omega) (by omega) (by omega) (by omega) (by omega), A1]
                unfold sExt
                rw [if_neg (by omega), if_neg (by omega), if_neg (by omega), if_neg (by omega), if_neg (by omega), if_neg (by omega)]
              · rw [o 2 (by omega) (by omega) (by omega) (by omega) (by omega) (by omega) (by omega), A2]
                unfold sExt
                rw [if_neg (by omega), if_neg (by omega), if_neg (by omega), if_neg (by omega), if_neg (by omega), if_neg (by omega)]
              · rw [o 28 (by omega) (by omega) (by omega) (by omega) (by omega) (by omega) (by omega), A28]
                unfold sExt
                rw [if_neg (by omega), if_neg (by omega), if_neg (by omega), if_neg (by omega), if_neg (by omega), if_neg (by omega)]
              · rw [o 29 (by omega) (by omega) (by omega) (by omega) (by omega) (by omega) (by omega), A29]
              · have hi' : i < u 0 + 1 := hi
                by_cases ci : i = u 0
                · subst ci
                  refine ⟨?_, ?_, ?_, ?_, ?_⟩
                  · rw [upd_n (by omega), upd_n (by omega), upd_n (by omega), upd_n (by omega), upd_n (by omega), upd_s]
                    unfold sExt
                    rw [if_neg (by omega), if_pos rfl]
                  · rw [upd_n (by omega), upd_s]
                    unfold sExt
                    rw [if_neg (by omega), if_neg (by omega), if_neg (by omega), if_neg (by omega), if_pos rfl]
                  · rw [upd_n (by omega), upd_n (by omega), upd_n (by omega), upd_s]
                    unfold sExt
                    rw [if_neg (by omega), if_neg (by omega), if_pos rfl]
                  · rw [upd_n (by omega), upd_n (by omega), upd_s]
                    unfold sExt
                    rw [if_neg (by omega), if_neg (by omega), if_neg (by omega), if_pos rfl]
                  · rw [upd_s]
                    unfold sExt
                    rw [if_neg (by omega), if_neg (by omega), if_neg (by omega), if_neg (by omega), if_neg (by omega), if_pos rfl]
                · obtain ⟨b1, b2, b3, b4, b5⟩ := At i (by omega)
                  have ex : ∀ c, (c = 3 ∨ c = 8 ∨ c = 13 ∨ c = 18 ∨ c = 23) → sExt u (sSo (w p)) x.1 y.1 z.1 y4.1 (c + i) = u (c + i) := by
                    intro c hc
                    unfold sExt
                    rw [if_neg (by omega), if_neg (by omega), if_neg (by omega), if_neg (by omega), if_neg (by omega), if_neg (by omega)]
                  exact ⟨(o _ (by omega) (by omega) (by omega) (by omega) (by omega) (by omega) (by omega)).trans (b1.trans (congrArg nI (ex 3 (by omega)).symm)), (o _ (by omega) (by omega) (by omega) (by omega) (by omega) (by omega) (by omega)).trans (b2.trans (congrArg nI (ex 8 (by omega)).symm)), (o _ (by omega) (by omega) (by omega) (by omega) (by omega) (by omega) (by omega)).trans (b3.trans (congrArg nI (ex 13 (by omega)).symm)), (o _ (by omega) (by omega) (by omega) (by omega) (by omega) (by omega) (by omega)).trans (b4.trans (congrArg nI (ex 18 (by omega)).symm)), (o _ (by omega) (by omega) (by omega) (by omega) (by omega) (by omega) (by omega)).trans (b5.trans (congrArg nI (ex 23 (by omega)).symm))⟩
    · obtain ⟨h1, e1, S1, F1⟩ := r_fails S 3
      have ct : cT w k p u = ((p, 3), u) := by unfold cT; rw [if_neg c1, if_neg c2]
      rw [ct, if_pos (show nI (u 0) = (5 : Int32) by rw [show u 0 = 5 by omega]; rfl), S.zk, Option.bind_some, e1, Option.bind_some]
      exact ⟨h1, Or.inr ⟨by show (3 : Nat) ≠ 0; omega, _, _, _, _, rfl, S1⟩, rF.of F1⟩
end RREAD
