/-! PURE: the reference reads all; mine -/
theorem tok_nz {w : Nat → Nat} {k p q : Nat} {t v : Int32} (T : sTok w k p q t v) (hp : p < k) : ¬ t = 0 := by
  obtain ⟨t0, t1, t3, t4, t5, t6, t7⟩ := T
  by_cases l : 97 ≤ w p ∧ w p ≤ 122
  · rw [(t1 hp l).1]; decide
  · by_cases d0 : sDig w k p = true
    · by_cases d1 : sDig w k (p + 1) = true
      · by_cases d2 : sDig w k (p + 2) = true
        · rw [t7 d0 d1 d2]; decide
        · rw [(t6 d0 d1 d2).1]; decide
      · rw [(t5 d0 d1).1]; decide
    · by_cases s : w p = 44 ∨ w p = 59
      · rw [(t3 hp l d0 s).1]; decide
      · rw [t4 hp l d0 s]; decide
section RMINE
variable {fa st ac tr : Int32} {w : Nat → Nat} {k : Nat}
/-- what the reading of all leaves -/
def rAll (fa st ac tr : Int32) (w : Nat → Nat) (k : Nat) (h : zH) (R : (Nat × Nat) × (Nat → Nat)) (o : Option (Int32 × zH)) : Prop := ∃ h', ((R.1.2 = 0 ∧ ∃ a' b' t' v' e' f', o = some ((1 : Int32), h') ∧ rS fa st ac tr w k h' a' b' t' v' e' f' ∧ zAg f' 0 R.2) ∨ (R.1.2 ≠ 0 ∧ ∃ a' t' v' f', o = some ((0 : Int32), h') ∧ rS fa st ac tr w k h' a' (nI R.1.1) t' v' (nI R.1.2) f')) ∧ rF h h'
theorem r_reads_b85 : ∀ (n N p q0 : Nat) (h : zH) (t v e : Int32) (f : Nat → Int32) (u : Nat → Nat), n < N → 7 ≤ u 0 + n → p ≤ k → q0 ≤ k → sTok w k p q0 t v → rS fa st ac tr w k h (nI q0) (nI p) t v e f → vM u → zAg f 0 u → rAll fa st ac tr w k h (cL w k n (p, 0) u) (f_X8_reads_b85 N 241 h) := by
  intro n
  induction n with
  | zero =>
    intro N p q0 h t v e f u hN hu hp hq T S vu A
    have := vu.1
    omega
  | succ n ih =>
    intro N p q0 h t v e f u hN hu hp hq T S vu A
    obtain ⟨N, rfl⟩ : ∃ x, N = x + 1 := ⟨N - 1, by omega⟩
    rw [e_X8_reads_b85, S.i18, Option.bind_some, cL]
    dsimp only
    rw [if_pos rfl]
    by_cases c : p < k
    · rw [if_neg (tok_nz T c), if_pos c, S.zk, Option.bind_some]
      obtain ⟨h1, r1, F1⟩ := r_thing c hq T S vu A
      have cv := cT_v (w := w) vu c
      rcases r1 with ⟨z, b', t', v', f', e1, S1, A1, u1⟩ | ⟨z, a', t', v', f', e1, S1⟩
      · obtain ⟨h2, q2, t2, v2, e2, S2, hq2, T2, F2⟩ := r_step cv.2.1 S1
        rw [e1, Option.bind_some]
        dsimp only
        rw [if_neg (show ¬ (1 : Int32) = 0 by decide), S1.zk, Option.bind_some, e2, Option.bind_some]
        have es : (cT w k p u).1 = ((cT w k p u).1.1, 0) := by rw [← z]
        rw [es]
        obtain ⟨h3, r3, F3⟩ := ih N _ q2 h2 t2 v2 e f' _ (by omega) (by omega) cv.2.1 hq2 T2 S2 cv.1 A1
        exact ⟨h3, r3, (F1.nx (rF.of F2)).nx F3⟩
      · rw [e1, Option.bind_some]
        dsimp only
        rw [if_pos rfl, cL_f z]
        exact ⟨h1, Or.inr ⟨z, a', t', v', f', rfl, S1⟩, F1⟩
    · rw [if_pos (T.1 c).1, if_neg c]
      exact ⟨h, Or.inl ⟨rfl, _, _, _, _, _, _, rfl, S, A⟩, fun _ _ _ => rfl⟩
theorem r_zero : ∀ (j i n : Nat) (h : zH) (a b t v e : Int32) (f : Nat → Int32), i + j = 30 → j < n → rS fa st ac tr w k h a b t v e f → (∀ x, x < i → f x = 0) → ∃ h' f', f_X8_reads_b2 n 241 (nI i) h = f_X8_reads_b2 1 241 (nI 30) h' ∧ rS fa st ac tr w k h' a b t v e f' ∧ (∀ x, x < 30 → f' x = 0) ∧ rF h h' := by
  intro j
  induction j with
  | zero =>
    intro i n h a b t v e f hi hn S hz
    obtain ⟨n, rfl⟩ : ∃ x, n = x + 1 := ⟨n - 1, by omega⟩
    refine ⟨h, f, ?_, S, fun x hx => hz x (by omega), fun _ _ _ => rfl⟩
    rw [e_X8_reads_b2, e_X8_reads_b2, z30, if_pos (nI_le (by omega) (by omega)), if_pos (nI_le (by omega) (by omega))]
  | succ j ih =>
    intro i n h a b t v e f hi hn S hz
    obtain ⟨n, rfl⟩ : ∃ x, n = x + 1 := ⟨n - 1, by omega⟩
    obtain ⟨x1, e1, S1⟩ := S.s246 (i := i) (by omega) 0
    obtain ⟨h', f', e2, S2, z2, F2⟩ := ih (i + 1) n _ a b t v e _ (by omega) (by omega) S1 (fun x hx => by
      unfold upd
      split
      · rfl
      · exact hz x (by omega))
    refine ⟨h', f', ?_, S2, z2, fun y p q => (F2 y p q).trans (zset_ne q)⟩
    rw [e_X8_reads_b2, z30, if_neg (nI_ge (by omega) (by omega)), S.r5, Option.bind_some, e1, Option.bind_some, nI_1, ← z30]
    exact e2
theorem r_reads {h : zH} {a b t v e : Int32} {f : Nat → Int32} (S : rS fa st ac tr w k h a b t v e f) : rAll fa st ac tr w k h (cRd w k) (f_X8_reads 241 h) := by
  have h255 := S.2.2.2.2
  obtain ⟨g1, f1, e1, S1, z1', F1⟩ := r_zero 30 0 zF h a b t v e f (by omega) (by show 30 < 5000; omega) S (fun x hx => by omega)
  have e1' : f_X8_reads_b2 zF 241 (0 : Int32) h = f_X8_reads_b2 1 241 (nI 30) g1 := e1
  obtain ⟨x2, e2, S2⟩ := S1.p16 (nI 0)
  have F2 : rF g1 (g1.set 241 x2) := fun y p q => zset_ne p
  obtain ⟨g3, q3, t3, v3, e3, S3, hq3, T3, F3⟩ := r_step (Nat.zero_le k) S2
  have F03 := (F1.nx F2).nx (rF.of F3)
  unfold f_X8_reads
  rw [e1', e_X8_reads_b2, z30, if_pos (nI_le (by omega) (by omega)), show (0 : Int32) = nI 0 from rfl, e2, Option.bind_some, S2.zk, Option.bind_some, e3, Option.bind_some, S3.i18, Option.bind_some, S3.i19]
  simp only [Option.bind_some]
  have T3' : (t3 = 1 ∧ v3 = nI 109) ↔ sIs w k 0 109 = true := by
    unfold sIs
    simp only [Bool.and_eq_true, decide_eq_true_eq]
    constructor
    · rintro ⟨a1, a2⟩
      by_cases c : 0 < k
      · refine ⟨c, ?_⟩
        by_cases l : 97 ≤ w 0 ∧ w 0 ≤ 122
        · have := (T3.2.1 c l).2.1
          rw [this] at a2
          have := h255 0 c
          exact (nI_eq (by omega) (by omega)).mp a2
        · exfalso
          have tn := tokN T3
          by_cases d0 : sDig w k 0 = true
          · by_cases d1 : sDig w k (0 + 1) = true
            · by_cases d2 : sDig w k (0 + 2) = true
              · rw [T3.2.2.2.2.2.2 d0 d1 d2] at a1
                exact absurd a1 (by decide)
              · rw [(T3.2.2.2.2.2.1 d0 d1 d2).1] at a1
                exact absurd a1 (by decide)
            · rw [(T3.2.2.2.2.1 d0 d1).1] at a1
              exact absurd a1 (by decide)
          · by_cases s : w 0 = 44 ∨ w 0 = 59
            · rw [(T3.2.2.1 c l d0 s).1] at a1
              exact absurd a1 (by decide)
            · rw [T3.2.2.2.1 c l d0 s] at a1
              exact absurd a1 (by decide)
      · rw [(T3.1 c).1] at a1
        exact absurd a1 (by decide)
    · rintro ⟨c, c2⟩
      obtain ⟨b1, b2, -⟩ := T3.2.1 c (by omega)
      exact ⟨b1, by rw [b2, c2]⟩
  have bad : ¬ sIs w k 0 109 = true → rAll fa st ac tr w k h (cRd w k) (f_X8_reads_b47 241 g3) := by
    intro ny
    obtain ⟨g4, e4, S4, F4⟩ := r_fails S3 1
    have c0 : cP w k (0, 0) 109 = (0, 1) := by
      unfold cP
      dsimp only
      rw [if_pos rfl, if_neg ny]
    have c1 : (cL1 w k).2 = (0, 1) := by unfold cL1; rw [c0]; exact cF_f (by show (1 : Nat) ≠ 0; omega)
    have c2 : (cL2 w k).2 = (0, 1) := by unfold cL2; rw [c1]; exact cF_f (by show (1 : Nat) ≠ 0; omega)
    have cr : cRd w k = ((0, 1), cMu w k) := by unfold cRd; rw [c2, cL_f (by show (1 : Nat) ≠ 0; omega)]
    unfold f_X8_reads_b47
    rw [cr, S3.zk, Option.bind_some, e4, Option.bind_some]
    exact ⟨g4, Or.inr ⟨by show (1 : Nat) ≠ 0; omega, _, _, _, _, rfl, S4⟩, F03.nx (rF.of F4)⟩
  by_cases y : sIs w k 0 109 = true
  · obtain ⟨y1, y2⟩ := T3'.mpr y
    have c0 : cP w k (0, 0) 109 = (1, 0) := by
      unfold cP
      dsimp only
      rw [if_pos rfl, if_pos y]
    have hk0 : 0 < k ∧ w 0 = 109 := by
      unfold sIs at y
      simpa using y
    have q1 : q3 = 1 := (T3.2.1 hk0.1 (by omega)).2.2
    subst q1
    rw [if_pos y1, if_pos (show v3 = (109 : Int32) from y2), S3.zk]
    simp only [Option.bind_some]
    have N1 := r_number (j := 1) (l := 0) (u := 9) (c := 44) hq3 (by omega) (by omega) (by omega) (Or.inl rfl) S3
    cases hf1 : sField w k 1 0 9 44 with
    | inl x =>
      rw [hf1] at N1
      obtain ⟨g4, a4, t4, v4, f4, e4, S4, F4⟩ := N1
      have e4' : f_X8_number 241 (1 : Int32) (nI 0) (9 : Int32) (44 : Int32) g3 = some ((0 : Int32), g4) := e4
      have ne := sField_e hf1
      have c1 : (cL1 w k).2 = (x.2, x.1) := by unfold cL1; rw [c0]; exact cF_er hf1
      have c2 : (cL2 w k).2 = (x.2, x.1) := by unfold cL2; rw [c1]; exact cF_f ne
      have cr : cRd w k = ((x.2, x.1), cMu w k) := by unfold cRd; rw [c2, cL_f (show (x.2, x.1).2 ≠ 0 from ne)]
      rw [cr, e4', Option.bind_some]
      exact ⟨g4, Or.inr ⟨ne, _, _, _, _, rfl, S4⟩, F03.nx F4⟩
    | inr x =>
      rw [hf1] at N1
      obtain ⟨g4, b4, t4, v4, e4, S4, hx, F4⟩ := N1
      have e4' : f_X8_number 241 (1 : Int32) (nI 0) (9 : Int32) (44 : Int32) g3 = some ((1 : Int32), g4) := e4
      have c1 : cL1 w k = (x.1, x.2, 0) := by unfold cL1; rw [c0]; exact cF_in hf1
      rw [e4', Option.bind_some]
      dsimp only
      rw [if_neg (show ¬ (1 : Int32) = nI 0 by decide), S4.zk, Option.bind_some]
      have N2 := r_number (j := 2) (l := 1) (u := 6) (c := 59) hx (by omega) (by omega) (by omega) (Or.inr rfl) S4
      cases hf2 : sField w k x.2 1 6 59 with
      | inl y2 =>
        rw [hf2] at N2
        obtain ⟨g5, a5, t5, v5, f5, e5, S5, F5⟩ := N2
        have e5' : f_X8_number 241 (2 : Int32) (1 : Int32) (6 : Int32) (59 : Int32) g4 = some ((0 : Int32), g5) := e5
        have ne := sField_e hf2
        have c2 : (cL2 w k).2 = (y2.2, y2.1) := by unfold cL2; rw [c1]; exact cF_er hf2
        have cr : cRd w k = ((y2.2, y2.1), cMu w k) := by unfold cRd; rw [c2, cL_f (show (y2.2, y2.1).2 ≠ 0 from ne)]
        rw [cr, e5', Option.bind_some]
        exact ⟨g5, Or.inr ⟨ne, _, _, _, _, rfl, S5⟩, (F03.nx F4).nx F5⟩
      | inr y2 =>
        rw [hf2] at N2
        obtain ⟨g5, b5, t5, v5, e5, S5, hy, F5⟩ := N2
        have e5' : f_X8_number 241 (2 : Int32) (1 : Int32) (6 : Int32) (59 : Int32) g4 = some ((1 : Int32), g5) := e5
        have c2 : cL2 w k = (y2.1, y2.2, 0) := by unfold cL2; rw [c1]; exact cF_in hf2
        obtain ⟨g6, q6, t6, v6, e6, S6, hq6, T6, F6⟩ := r_step hy S5
        rw [e5', Option.bind_some]
        dsimp only
        rw [if_neg (show ¬ (1 : Int32) = nI 0 by decide), S5.zk, Option.bind_some, e6, Option.bind_some]
        have mu : cMu w k = fun j => if j = 1 then x.1 else if j = 2 then y2.1 else 0 := by
          unfold cMu
          rw [c1, c2]
        have A6 : zAg (upd (upd f1 1 (nI x.1)) 2 (nI y2.1)) 0 (cMu w k) := by
          rw [mu]
          refine ⟨?_, ?_, ?_, ?_, ?_, fun i hi => ?_⟩
          · rw [upd_n (by omega), upd_n (by omega), z1' 0 (by omega)]; rfl
          · rw [upd_n (by omega), upd_s]; rfl
          · rw [upd_s]; rfl
          · rw [upd_n (by omega), upd_n (by omega), z1' 28 (by omega)]; rfl
          · rw [upd_n (by omega), upd_n (by omega), z1' 29 (by omega)]
          · have : (0 : Nat) < 0 := Nat.lt_of_le_of_lt (Nat.zero_le i) hi
            omega
        have mv := (cMu_v w k).1
        obtain ⟨g7, r7, F7⟩ := r_reads_b85 100 zF y2.2 q6 g6 t6 v6 e _ (cMu w k) (by show 100 < 5000; omega) (by omega) hy hq6 T6 S6 mv A6
        have cr : cRd w k = cL w k 100 (y2.2, 0) (cMu w k) := by unfold cRd; rw [c2]
        rw [cr]
        exact ⟨g7, r7, ((F03.nx F4).nx F5).nx ((rF.of F6).nx F7)⟩
  · by_cases y1 : t3 = 1
    · rw [if_pos y1, if_neg (fun z => y (T3'.mp ⟨y1, z⟩))]
      exact bad y
    · rw [if_neg y1]
      exact bad y
end RMINE
