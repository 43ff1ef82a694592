/-! PURE: the reference reads all; mine -/
theorem tok_nz {w : Nat → Nat} {k p q : Nat} {t v : Int32} (T : sTok w k p q t v) (hp : p < k) : ¬ t = 0 := by
  obtain ⟨t0, t1, t3, t4, t5, t6, t7⟩ := T
  by_cases l : 97 ≤ w p ∧ w p ≤ 122
  · rw [(t1 hp l).1]; decide
  · by_cases d0 : sDig w k p = true
    · by_cases d1 : sDig w k (p + 1) = true
      · by_cases d2 : sDig w k (p + 2) = true
        · rw [t7 d0 d1 d2]; decide
        · rw [(t6 d0 d1 d2).1]; decide
      · rw [(t5 d0 d1).1]; decide
    · by_cases s : w p = 44 ∨ w p = 59
      · rw [(t3 hp l d0 s).1]; decide
      · rw [t4 hp l d0 s]; decide
section RMINE
variable {fa st ac tr : Int32} {w : Nat → Nat} {k : Nat}
/-- what the reading of all leaves -/
def rAll (fa st ac tr : Int32) (w : Nat → Nat) (k : Nat) (h : zH) (R : (Nat × Nat) × (Nat → Nat)) (o : Option (Int32 × zH)) : Prop := ∃ h', ((R.1.2 = 0 ∧ ∃ a' b' t' v' e' f', o = some ((1 : Int32), h') ∧ rS fa st ac tr w k h' a' b' t' v' e' f' ∧ zAg f' 0 R.2) ∨ (R.1.2 ≠ 0 ∧ ∃ a' t' v' f', o = some ((0 : Int32), h') ∧ rS fa st ac tr w k h' a' (nI R.1.1) t' v' (nI R.1.2) f')) ∧ rF h h'
theorem r_reads_b85 : ∀ (n N p q0 : Nat) (h : zH) (t v e : Int32) (f : Nat → Int32) (u : Nat → Nat), n < N → 7 ≤ u 0 + n → p ≤ k → q0 ≤ k → sTok w k p q0 t v → rS fa st ac tr w k h (nI q0) (nI p) t v e f → vM u → zAg f 0 u → rAll fa st ac tr w k h (cL w k n (p, 0) u) (f_X8_reads_b85 N 241 h) := by
  intro n
  induction n with
  | zero =>
    intro N p q0 h t v e f u hN hu hp hq T S vu A
    have := vu.1
    omega
  | succ n ih =>
    intro N p q0 h t v e f u hN hu hp hq T S vu A
    obtain ⟨N, rfl⟩ : ∃ x, N = x + 1 := ⟨N - 1, by omega⟩
    rw [e_X8_reads_b85, S.i18, Option.bind_some, cL]
    dsimp only
    rw [if_pos rfl]
    by_cases c : p < k
    · rw [if_neg (tok_nz T c), if_pos c, S.zk, Option.bind_some]
      obtain ⟨h1, r1, F1⟩ := r_thing c hq T S vu A
      have cv := cT_v (w := w) vu c
      rcases r1 with ⟨z, b', t', v', f', e1, S1, A1, u1⟩ | ⟨z, a', t', v', f', e1, S1⟩
      · obtain ⟨h2, q2, t2, v2, e2, S2, hq2, T2, F2⟩ := r_step cv.2.1 S1
        rw [e1, Option.bind_some]
        dsimp only
        rw [if_neg (show ¬ (1 : Int32) = 0 by decide), S1.zk, Option.bind_some, e2, Option.bind_some]
        have es : (cT w k p u).1 = ((cT w k p u).1.1, 0) := by rw [← z]
        rw [es]
        obtain ⟨h3, r3, F3⟩ := ih N _ q2 h2 t2 v2 e f' _ (by omega) (by omega) cv.2.1 hq2 T2 S2 cv.1 A1
        exact ⟨h3, r3, (F1.nx (rF.of F2)).nx F3⟩
      · rw [e1, Option.bind_some]
        dsimp only
        rw [if_pos rfl, cL_f z]
        exact ⟨h1, Or.inr ⟨z, a', t', v', f', rfl, S1⟩, F1⟩
    · rw [if_pos (T.1 c).1, if_neg c]
      exact ⟨h, Or.inl ⟨rfl, _, _, _, _, _, _, rfl, S, A⟩, fun _ _ _ => rfl⟩
theorem r_zero : ∀ (j i n : Nat) (h : zH) (a b t v e : Int32) (f : Nat → Int32), i + j = 30 → j < n → rS fa st ac tr w k h a b t v e f → (∀ x, x < i → f x = 0) → ∃ h' f', f_X8_reads_b2 n 241 (nI i) h = f_X8_reads_b2 1 241 (nI 30) h' ∧ rS fa st ac tr w k h' a b t v e f' ∧ (∀ x, x < 30 → f' x = 0) ∧ rF h h' := by
  intro j
  induction j with
  | zero =>
    intro i n h a b t v e f hi hn S hz
    obtain ⟨n, rfl⟩ : ∃ x, n = x + 1 := ⟨n - 1, by omega⟩
    refine ⟨h, f, ?_, S, fun x hx => hz x (by omega), fun _ _ _ => rfl⟩
    rw [e_X8_reads_b2, e_X8_reads_b2, z30, if_pos (nI_le (by omega) (by omega)), if_pos (nI_le (by omega) (by omega))]
  | succ j ih =>
    intro i n h a b t v e f hi hn S hz
    obtain ⟨n, rfl⟩ : ∃ x, n = x + 1 := ⟨n - 1, by omega⟩
    obtain ⟨x1, e1, S1⟩ := S.s246 (i := i) (by omega) 0
    obtain ⟨h', f', e2, S2, z2, F2⟩ := ih (i + 1) n _ a b t v e _ (by omega) (by omega) S1 (fun x hx => by
      unfold upd
      split
      · rfl
      · exact hz x (by omega))
    refine ⟨h', f', ?_, S2, z2, fun y p q => (F2 y p q).trans (zset_ne q)⟩
    rw [e_X8_reads_b2, z30, if_neg (nI_ge (by omega) (by omega)), S.r5, Option.bind_some, e1, Option.bind_some, nI_1, ← z30]
    exact e2
theorem r_reads {h : zH} {a b t v e : Int32} {f : Nat → Int32} (S : rS fa st ac tr w k h a b t v e f) : rAll fa st ac tr w k h (cRd w k) (f_X8_reads 241 h) := by
  have h255 := S.2.2.2.2
  obtain ⟨g1, f1, e1, S1, z1', F1⟩ := r_zero 30 0 zF h a b t v e f (by omega) (by show 30 < 5000; omega) S (fun x hx => by omega)
  have e1' : f_X8_reads_b2 zF 241 (0 : Int32) h = f_X8_reads_b2 1 241 (nI 30) g1 := e1
  obtain ⟨x2, e2, S2⟩ := S1.p16 (nI 0)
  have F2 : rF g1 (g1.set 241 x2) := fun y p q => zset_ne p
  obtain ⟨g3, q3, t3, v3, e3, S3, hq3, T3, F3⟩ := r_step (Nat.zero_le k) S2
  have F03 := (F1.nx F2).nx (rF.of F3)
  unfold f_X8_reads
  rw [e1', e_X8_reads_b2, z30, if_pos (nI_le (by omega) (by omega)), show (0 : Int32) = nI 0 from rfl, e2, Option.bind_some, S2.zk, Option.bind_some, e3, Option.bind_some, S3.i18, Option.bind_some, S3.i19]
  simp only [Option.bind_some]
  have T3' : (t3 = 1 ∧ v3 = nI 109) ↔ sIs w k 0 109 = true := by
    unfold sIs
    simp only [Bool.and_eq_true, decide_eq_true_eq]
    constructor
    · rintro ⟨a1, a2⟩
      by_cases c : 0 < k
      · refine ⟨c, ?_⟩
        by_cases l : 97 ≤ w 0 ∧ w 0 ≤ 122
        · have := (T3.2.1 c l).2.1
          rw [this] at a2
          have := h255 0 c
          exact (nI_eq (by omega) (by omega)).mp a2
        · exfalso
          have tn := tokN T3
          by_cases d0 : sDig w k 0 = true
          · by_cases d1 : sDig w k (0 + 1) = true
            · by_cases d2 : sDig w k (0 + 2) = true
              · rw [T3.2.2.2.2.2.2 d0 d1 d2] at a1
                exact absurd a1 (by decide)
              · rw [(T3.2.2.2.2.2.1 d0 d1 d2).1] at a1
                exact absurd a1 (by decide)
            · rw [(T3.2.2.2.2.1 d0 d1).1] at a1
              exact absurd a1 (by decide)
          · by_cases s : w 0 = 44 ∨ w 0 = 59
            · rw [(T3.2.2.1 c l d0 s).1] at a1
              exact absurd a1 (by decide)
            · rw [T3.2.2.2.1 c l d0 s] at a1
              exact absurd a1 (by decide)
      · rw [(T3.1 c).1] at a1
        exact absurd a1 (by decide)
    · rintro ⟨c, c2⟩
      obtain ⟨b1, b2, -⟩ := T3.2.1 c (by omega)
      exact ⟨b1, by rw [b2, c2]⟩
  have bad : ¬ sIs w k 0 109 = true → rAll fa st ac tr w k h (cRd w k) (f_X8_reads_b47 241 g3) := by
    intro ny
    obtain ⟨g4, e4, S4, F4⟩ := r_fails S3 1
    have c0 : cP w k (0, 0) 109 = (0, 1) := by
      unfold cP
      dsimp only
      rw [if_pos rfl, if_neg ny]
    have c1 : (cL1 w k).2 = (0, 1) := by unfold cL1; rw [c0]; exact cF_f (by show (1 : Nat) ≠ 0; omega)
    have c2 : (cL2 w k).2 = (0, 1) := by unfold cL2; rw [c1]; exact cF_f (by show (1 : Nat) ≠ 0; omega)
    have cr : cRd w k = ((0, 1), cMu w k) := by unfold cRd; rw [c2, cL_f (by show (1 : Nat) ≠ 0; omega)]
    unfold f_X8_reads_b47
    rw [cr, S3.zk, Option.bind_some, e4, Option.bind_some]
    exact ⟨g4, Or.inr ⟨by show (1 : Nat) ≠ 0; omega, _, _, _, _, rfl, S4⟩, F03.nx (rF.of F4)⟩
  by_cases y : sIs w k 0 109 = true
  · obtain ⟨y1, y2⟩ := T3'.mpr y
    have c0 : cP w k (0, 0) 109 = (1, 0) := by
      unfold cP
      dsimp only
      rw [if_pos rfl, if_pos y]
    have hk0 : 0 < k ∧ w 0 = 109 := by
      unfold sIs at y
      simpa using y
    have q1 : q3 = 1 := (T3.2.1 hk0.1 (by omega)).2.2
    subst q1
    rw [if_pos y1, if_pos (show v3 = (109 : Int32) from y2), S3.zk]
    simp only [Option.bind_some]
    have N1 := r_number (j := 1) (l := 0) (u := 9) (c := 44) hq3 (by omega) (by omega) (by omega) (Or.inl rfl) S3
    cases hf1 : sField w k 1 0 9 44 with
    | inl x =>
      rw [hf1] at N1
      obtain ⟨g4, a4, t4, v4, f4, e4, S4, F4⟩ := N1
      have e4' : f_X8_number 241 (1 : Int32) (nI 0) (9 : Int32) (44 : Int32) g3 = some ((0 : Int32), g4) := e4
      have ne := sField_e hf1
      have c1 : (cL1 w k).2 = (x.2, x.1) := by unfold cL1; rw [c0]; exact cF_er hf1
      have c2 : (cL2 w k).2 = (x.2, x.1) := by unfold cL2; rw [c1]; exact cF_f ne
      have cr : cRd w k = ((x.2, x.1), cMu w k) := by unfold cRd; rw [c2, cL_f (show (x.2, x.1).2 ≠ 0 from ne)]
      rw [cr, e4', Option.bind_some]
      exact ⟨g4, Or.inr ⟨ne, _, _, _, _, rfl, S4⟩, F03.nx F4⟩
    | inr x =>
      rw [hf1] at N1
      obtain ⟨g4, b4, t4, v4, e4, S4, hx, F4⟩ := N1
      have e4' : f_X8_number 241 (1 : Int32) (nI 0) (9 : Int32) (44 : Int32) g3 = some ((1 : Int32), g4) := e4
      have c1 : cL1 w k = (x.1, x.2, 0) := by unfold cL1; rw [c0]; exact cF_in hf1
      rw [e4', Option.bind_some]
      dsimp only
      rw [if_neg (show ¬ (1 : Int32) = nI 0 by decide), S4.zk, Option.bind_some]
      have N2 := r_number (j := 2) (l := 1) (u := 6) (c := 59) hx (by omega) (by omega) (by omega) (Or.inr rfl) S4
      cases hf2 : sField w k x.2 1 6 59 with
      | inl y2 =>
        rw [hf2] at N2
        obtain ⟨g5, a5, t5, v5, f5, e5, S5, F5⟩ := N2
        have e5' : f_X8_number 241 (2 : Int32) (1 : Int32) (6 : Int32) (59 : Int32) g4 = some ((0 : Int32), g5) := e5
        have ne := sField_e hf2
        have c2 : (cL2 w k).2 = (y2.2, y2.1) := by unfold cL2; rw [c1]; exact cF_er hf2
        have cr : cRd w k = ((y2.2, y2.1), cMu w k) := by unfold cRd; rw [c2, cL_f (show (y2.2, y2.1).2 ≠ 0 from ne)]
        rw [cr, e5', Option.bind_some]
        exact ⟨g5, Or.inr ⟨ne, _, _, _, _, rfl, S5⟩, (F03.nx F4).nx F5⟩
      | inr y2 =>
        rw [hf2] at N2
        obtain ⟨g5, b5, t5, v5, e5, S5, hy, F5⟩ := N2
        have e5' : f_X8_number 241 (2 : Int32) (1 : Int32) (6 : Int32) (59 : Int32) g4 = some ((1 : Int32), g5) := e5
        have c2 : cL2 w k = (y2.1, y2.2, 0) := by unfold cL2; rw [c1]; exact cF_in hf2
        obtain ⟨g6, q6, t6, v6, e6, S6, hq6, T6, F6⟩ := r_step hy S5
        rw [e5', Option.bind_some]
        dsimp only
        rw [if_neg (show ¬ (1 : Int32) = nI 0 by decide), S5.zk, Option.bind_some, e6, Option.bind_some]
        have mu : cMu w k = fun j => if j = 1 then x.1 else if j = 2 then y2.1 else 0 := by
          unfold cMu
          rw [c1, c2]
        have A6 : zAg (upd (upd f1 1 (nI x.1)) 2 (nI y2.1)) 0 (cMu w k) := by
          rw [mu]
          refine ⟨?_, ?_, ?_, ?_, ?_, fun i hi => ?_⟩
          · rw [upd_n (by omega), upd_n (by omega), z1' 0 (by omega)]; rfl
          · rw [upd_n (by omega), upd_s]; rfl
          · rw [upd_s]; rfl
          · rw [upd_n (by omega), upd_n (by omega), z1' 28 (by omega)]; rfl
          · rw [upd_n (by omega), upd_n (by omega), z1' 29 (by omega)]
          · have : (0 : Nat) < 0 := Nat.lt_of_le_of_lt (Nat.zero_le i) hi
            omega
        have mv := (cMu_v w k).1
        obtain ⟨g7, r7, F7⟩ := r_reads_b85 100 zF y2.2 q6 g6 t6 v6 e _ (cMu w k) (by show 100 < 5000; omega) (by omega) hy hq6 T6 S6 mv A6
        have cr : cRd w k = cL w k 100 (y2.2, 0) (cMu w k) := by unfold cRd; rw [c2]
        rw [cr]
        exact ⟨g7, r7, ((F03.nx F4).nx F5).nx ((rF.of F6).nx F7)⟩
  · by_cases y1 : t3 = 1
    · rw [if_pos y1, if_neg (show ¬ v3 = (109 : Int32) from fun z => y (T3'.mp ⟨y1, z⟩))]
      exact bad y
    · rw [if_neg y1]
      exact bad y
end RMINE

theorem M_mine {h : zH} (I : INV h) : zBoth (f_X7_mine 0) (f_X8_mine 241) h := by
  obtain ⟨fa, st, ac, sz, tr, th, dg, m, O, P, R, T, ⟨N7, N8, G⟩, A, Im, C, S, X, L⟩ := I
  obtain ⟨hk, a1, a2, w, gc, gt, t1, t2, t3, t4⟩ := T
  obtain ⟨D, M, Ac, Ar⟩ := A.un
  obtain ⟨h1, e1, X1, H1, v1, F1⟩ := c_readInto (w := w) (k := sz) hk (fun i hi => ⟨(t4 i hi).1, (t4 i hi).2.1⟩) t1 t2 X.1
  have kp := cL_keep (w := w) (k := sz) 100 (cL2 w sz).2 (cMu w sz)
  have mv := cMu_v w sz
  have r2 : 1 ≤ (cRd w sz).2 2 := by
    have e : (cRd w sz).2 2 = cMu w sz 2 := kp.1
    rw [e]
    exact mv.2.1
  have r28 : (cRd w sz).2 28 = 0 := kp.2
  obtain ⟨⟨g1, b1, b2, b3⟩, -, -, hp, hf3⟩ := X1
  have p2 : zP h1 13 6 1 (.int (0 : Int32)) = some (h1.set 13 (.inr (6, [.ref 14, .int (nI 0), .int (nI (cRd w sz).1.1), .int (nI (cRd w sz).1.2)]))) := zP_of b1 (by simp)
  have w2 := zset_eq (e := .inr (6, [.ref 14, .int (nI 0), .int (nI (cRd w sz).1.1), .int (nI (cRd w sz).1.2)])) b1
  have F2 : ∀ j, j ≠ 13 → (h1.set 13 (.inr (6, [.ref 14, .int (nI 0), .int (nI (cRd w sz).1.1), .int (nI (cRd w sz).1.2)])) : zH)[j]? = h1[j]? := fun j hj => zset_ne hj
  generalize (h1.set 13 (.inr (6, [.ref 14, .int (nI 0), .int (nI (cRd w sz).1.1), .int (nI (cRd w sz).1.2)])) : zH) = h2 at p2 w2 F2
  have F02 : ∀ j, j ≠ 13 → (j < 22 ∨ 28 < j) → h2[j]? = h[j]? := fun j a b => (F2 j a).trans (F1 j a b)
  have O1 : iO h1 fa st := O.keep (F1 _ (by omega) (by omega))
  have O2 : iO h2 fa st := O.keep (F02 _ (by omega) (by omega))
  have H2 : zMi h2 22 1 0 (cRd w sz).2 := H1.keep (fun j _ _ => F2 j (by omega))
  have tape2 : h2[14]? = some (.inl (0, 100, .inl g1)) := (F2 _ (by omega)).trans b2
  -- the reference's room, whatever the class has done to its own
  have ref : ∀ hh : zH, (∀ j, 241 ≤ j → hh[j]? = h[j]?) → rAll fa st (nI ac) (nI tr) w sz hh (cRd w sz) (f_X8_reads 241 hh) := by
    intro hh Fh
    obtain ⟨q16, q17, q18, q19, q20, o⟩ := P
    obtain ⟨-, ⟨fr, x2⟩, -⟩ := X
    exact r_reads (f := fr) ⟨(Fh _ (by omega)).trans o, ⟨gt, (Fh _ (by omega)).trans t3, fun i hi => (t4 i hi).2.2⟩, (Fh _ (by omega)).trans x2, hk, fun i hi => (t4 i hi).1⟩
  by_cases c : (cRd w sz).1.2 = 0
  · obtain ⟨h3, e3, H3, F3⟩ := c_become H2 v1.1 (Or.inr rfl) (N7.sh.keep (h' := h2) (fun j _ _ => F02 j (by omega) (by omega))) (by omega)
    have A3 := Ac.keep (h' := h3) (fun j hj => (F3 j (by omega)).trans (F02 j (by omega) (by omega)))
    obtain ⟨h4, e4, A4, F4⟩ := c_forget A3
    have F24 : ∀ j, (j < 15 ∨ 22 ≤ j) → j ≠ 29 → h4[j]? = h2[j]? := fun j a b => (F4 j b).trans (F3 j a)
    have F04 : ∀ j, j ≠ 13 → (j < 15 ∨ 28 < j) → j ≠ 29 → h4[j]? = h[j]? := fun j a b d => (F24 j (by omega) d).trans (F02 j a (by omega))
    have O3 : iO h3 fa st := O2.keep (F3 _ (by omega))
    have O4 : iO h4 fa st := O3.keep (F4 _ (by omega))
    have H4 : zMi h4 15 1 0 (cRd w sz).2 := H3.keep (fun j _ _ => F4 j (by omega))
    obtain ⟨g5, r5, F5⟩ := ref h4 (fun j hj => F04 j (by omega) (by omega) (by omega))
    rcases r5 with ⟨-, a', b', t', v', e', f', z1, S5, A5⟩ | ⟨ne, -⟩
    · obtain ⟨o5, -, row5, -⟩ := S5
      have p6 : zP g5 241 8 12 (.int (0 : Int32)) = some (g5.set 241 (.inr (8, [.ref 242, .ref 243, .ref 244, .int st, .ref 245, .ref 246, .ref 247, .ref 248, .int (nI ac), .ref 249, .ref 250, .ref 251, .int (nI 0), .int fa, .ref 252, .int (nI tr), .int a', .int b', .int t', .int v', .int e', .ref 253, .ref 254, .ref 255]))) := zP_of o5 (by simp)
      have P6 : iP (g5.set 241 (.inr (8, [.ref 242, .ref 243, .ref 244, .int st, .ref 245, .ref 246, .ref 247, .ref 248, .int (nI ac), .ref 249, .ref 250, .ref 251, .int (nI 0), .int fa, .ref 252, .int (nI tr), .int a', .int b', .int t', .int v', .int e', .ref 253, .ref 254, .ref 255]))) fa st (nI ac) (nI 0) (nI tr) := ⟨a', b', t', v', e', zset_eq o5⟩
      have F6 : ∀ j, j ≠ 241 → (g5.set 241 (.inr (8, [.ref 242, .ref 243, .ref 244, .int st, .ref 245, .ref 246, .ref 247, .ref 248, .int (nI ac), .ref 249, .ref 250, .ref 251, .int (nI 0), .int fa, .ref 252, .int (nI tr), .int a', .int b', .int t', .int v', .int e', .ref 253, .ref 254, .ref 255])) : zH)[j]? = g5[j]? := fun j hj => zset_ne hj
      generalize (g5.set 241 (.inr (8, [.ref 242, .ref 243, .ref 244, .int st, .ref 245, .ref 246, .ref 247, .ref 248, .int (nI ac), .ref 249, .ref 250, .ref 251, .int (nI 0), .int fa, .ref 252, .int (nI tr), .int a', .int b', .int t', .int v', .int e', .ref 253, .ref 254, .ref 255])) : zH) = g6 at p6 P6 F6
      obtain ⟨fn, hfn, -⟩ := N8
      have F46 : ∀ j, j ≠ 241 → j ≠ 246 → g6[j]? = h4[j]? := fun j a b => (F6 j a).trans (F5 j a b)
      obtain ⟨g7, e7, hb, F7⟩ := r_copies (i := 0) (j := 0) (n0 := 30) (n1 := 30) (a := 246) (b := 245) (by omega) (by omega) (by omega) (by omega) (by omega) ((F6 _ (by omega)).trans row5) ((F46 245 (by omega) (by omega)).trans ((F04 245 (by omega) (by omega) (by omega)).trans hfn))
      have P7 := P6.keep (h' := g7) (F7 _ (by omega))
      obtain ⟨x8, e8, P8⟩ := P7.p8 (nI 0)
      have N8' : zMo (g7.set 241 x8) 245 0 (cRd w sz).2 := by
        refine ⟨_, (zset_ne (by omega)).trans hb, zAg.cg A5 v1.1 (fun x hx => ?_)⟩
        unfold zcp30
        rw [if_pos (by omega), Nat.zero_add, Nat.sub_zero]
      have F48 : ∀ j, j ≠ 241 → j ≠ 245 → j ≠ 246 → (g7.set 241 x8)[j]? = h4[j]? := fun j a b d => (zset_ne a).trans ((F7 j b).trans (F46 j a d))
      have F08 : ∀ j, j ≠ 13 → (j < 15 ∨ 28 < j) → j ≠ 29 → j ≠ 241 → j ≠ 245 → j ≠ 246 → (g7.set 241 x8)[j]? = h[j]? := fun j a b d p q r => (F48 j p q r).trans (F04 j a b d)
      have P4 := P.keep (h' := h4) (F04 _ (by omega) (by omega) (by omega))
      refine zBoth.mk (nI ((cRd w sz).2 0)) (h1 := h4) (h2 := g7.set 241 x8) ?_ ?_ ?_
      · unfold f_X7_mine
        rw [O.r1, Option.bind_some, O.r3, Option.bind_some, zK_of t1, Option.bind_some, e1, Option.bind_some]
        dsimp only
        rw [O1.r1, Option.bind_some, p2, Option.bind_some, if_pos (show nI (cRd w sz).1.2 = 0 by rw [c]; rfl), O2.r2, Option.bind_some, O2.r3, Option.bind_some, zK_of ((F02 15 (by omega) (by omega)).trans N7.1), Option.bind_some, e3, Option.bind_some, O3.r4, Option.bind_some, A3.k, Option.bind_some, e4, Option.bind_some, O4.r2, Option.bind_some, H4.f1, Option.bind_some]
      · unfold f_X8_mine
        have P4 := P.keep (h' := h4) (F04 _ (by omega) (by omega) (by omega))
        rw [P4.k, Option.bind_some, z1, Option.bind_some]
        dsimp only
        rw [p6, Option.bind_some, if_neg (show ¬ (1 : Int32) = 0 by decide), P6.r5, Option.bind_some, P6.r4, Option.bind_some, show (0 : Int32) = nI 0 from rfl, e7, Option.bind_some, e8, Option.bind_some, P8.r4, Option.bind_some, ← show (0 : Int32) = nI 0 from rfl, N8'.f0, Option.bind_some]
      · refine ⟨fa, st, 0, 0, tr, 1, 0, (cRd w sz).2, O4.keep (F48 _ (by omega) (by omega) (by omega)), P8, R.keep (fun j hj => F08 j (by omega) (by omega) (by omega) (by omega) (by omega) (by omega)), ⟨by omega, nI (cRd w sz).1.1, nI (cRd w sz).1.2, w, g1, gt, (F48 _ (by omega) (by omega) (by omega)).trans ((F24 _ (by omega) (by omega)).trans w2), (F48 _ (by omega) (by omega) (by omega)).trans ((F24 _ (by omega) (by omega)).trans tape2), (F08 _ (by omega) (by omega) (by omega) (by omega) (by omega) (by omega)).trans t3, fun i hi => by omega⟩, ⟨H4.keep (fun j _ _ => F48 j (by omega) (by omega) (by omega)), N8', v1, by rw [r28]; omega, (zb_t r2).symm⟩, iA.mk (A4.keep (fun j hj => F48 j (by omega) (by omega) (by omega))) ?_, Im.keep (fun j hj => F08 j (by omega) (by omega) (by omega) (by omega) (by omega) (by omega)), C.keep (fun j hj => F08 j (by omega) (by omega) (by omega) (by omega) (by omega) (by omega)), S.keep (fun j hj => F08 j (by omega) (by omega) (by omega) (by omega) (by omega) (by omega)), ?_, L.keep (fun j hj => F08 j (by omega) (by omega) (by omega) (by omega) (by omega) (by omega))⟩
        · obtain ⟨pa, hpa, -⟩ := Ar
          exact ⟨pa, (F08 _ (by omega) (by omega) (by omega) (by omega) (by omega) (by omega)).trans hpa, fun j hj => by omega⟩
        · obtain ⟨-, -, ⟨y2, x3⟩, ⟨y3, x4⟩, ⟨y4, x5⟩, ⟨y5, x6⟩⟩ := X
          exact ⟨H2.sh.keep (fun j _ _ => (F48 j (by omega) (by omega) (by omega)).trans (F24 j (by omega) (by omega))), ⟨f', (zset_ne (by omega)).trans ((F7 _ (by omega)).trans ((F6 _ (by omega)).trans row5))⟩, ⟨y2, (F08 _ (by omega) (by omega) (by omega) (by omega) (by omega) (by omega)).trans x3⟩, ⟨y3, (F08 _ (by omega) (by omega) (by omega) (by omega) (by omega) (by omega)).trans x4⟩, ⟨y4, (F08 _ (by omega) (by omega) (by omega) (by omega) (by omega) (by omega)).trans x5⟩, ⟨y5, (F08 _ (by omega) (by omega) (by omega) (by omega) (by omega) (by omega)).trans x6⟩⟩
    · exact absurd c ne
  · obtain ⟨x3, e3, O3⟩ := O2.p9 (nI (cRd w sz).1.2)
    have F3 : ∀ j, j ≠ 0 → (h2.set 0 x3)[j]? = h2[j]? := fun j hj => zset_ne hj
    generalize (h2.set 0 x3 : zH) = h3 at e3 O3 F3
    have F03 : ∀ j, j ≠ 0 → j ≠ 13 → (j < 22 ∨ 28 < j) → h3[j]? = h[j]? := fun j a b d => (F3 j a).trans (F02 j b d)
    have w3 := (F3 13 (by omega)).trans w2
    obtain ⟨g5, r5, F5⟩ := ref h3 (fun j hj => F03 j (by omega) (by omega) (by omega))
    rcases r5 with ⟨z, -⟩ | ⟨-, a', t', v', f', z1, S5⟩
    · exact absurd z c
    · obtain ⟨o5, -, row5, -⟩ := S5
      have p6 : zP g5 241 8 12 (.int (0 : Int32)) = some (g5.set 241 (.inr (8, [.ref 242, .ref 243, .ref 244, .int st, .ref 245, .ref 246, .ref 247, .ref 248, .int (nI ac), .ref 249, .ref 250, .ref 251, .int (nI 0), .int fa, .ref 252, .int (nI tr), .int a', .int (nI (cRd w sz).1.1), .int t', .int v', .int (nI (cRd w sz).1.2), .ref 253, .ref 254, .ref 255]))) := zP_of o5 (by simp)
      have o6 := zset_eq (e := .inr (8, [.ref 242, .ref 243, .ref 244, .int st, .ref 245, .ref 246, .ref 247, .ref 248, .int (nI ac), .ref 249, .ref 250, .ref 251, .int (nI 0), .int fa, .ref 252, .int (nI tr), .int a', .int (nI (cRd w sz).1.1), .int t', .int v', .int (nI (cRd w sz).1.2), .ref 253, .ref 254, .ref 255])) o5
      have F6 : ∀ j, j ≠ 241 → (g5.set 241 (.inr (8, [.ref 242, .ref 243, .ref 244, .int st, .ref 245, .ref 246, .ref 247, .ref 248, .int (nI ac), .ref 249, .ref 250, .ref 251, .int (nI 0), .int fa, .ref 252, .int (nI tr), .int a', .int (nI (cRd w sz).1.1), .int t', .int v', .int (nI (cRd w sz).1.2), .ref 253, .ref 254, .ref 255])) : zH)[j]? = g5[j]? := fun j hj => zset_ne hj
      generalize (g5.set 241 (.inr (8, [.ref 242, .ref 243, .ref 244, .int st, .ref 245, .ref 246, .ref 247, .ref 248, .int (nI ac), .ref 249, .ref 250, .ref 251, .int (nI 0), .int fa, .ref 252, .int (nI tr), .int a', .int (nI (cRd w sz).1.1), .int t', .int v', .int (nI (cRd w sz).1.2), .ref 253, .ref 254, .ref 255])) : zH) = g6 at p6 o6 F6
      have p7 : zP g6 241 8 13 (.int (nI (cRd w sz).1.2)) = some (g6.set 241 (.inr (8, [.ref 242, .ref 243, .ref 244, .int st, .ref 245, .ref 246, .ref 247, .ref 248, .int (nI ac), .ref 249, .ref 250, .ref 251, .int (nI 0), .int (nI (cRd w sz).1.2), .ref 252, .int (nI tr), .int a', .int (nI (cRd w sz).1.1), .int t', .int v', .int (nI (cRd w sz).1.2), .ref 253, .ref 254, .ref 255]))) := zP_of o6 (by simp)
      have o7 := zset_eq (e := .inr (8, [.ref 242, .ref 243, .ref 244, .int st, .ref 245, .ref 246, .ref 247, .ref 248, .int (nI ac), .ref 249, .ref 250, .ref 251, .int (nI 0), .int (nI (cRd w sz).1.2), .ref 252, .int (nI tr), .int a', .int (nI (cRd w sz).1.1), .int t', .int v', .int (nI (cRd w sz).1.2), .ref 253, .ref 254, .ref 255])) o6
      have F7 : ∀ j, j ≠ 241 → (g6.set 241 (.inr (8, [.ref 242, .ref 243, .ref 244, .int st, .ref 245, .ref 246, .ref 247, .ref 248, .int (nI ac), .ref 249, .ref 250, .ref 251, .int (nI 0), .int (nI (cRd w sz).1.2), .ref 252, .int (nI tr), .int a', .int (nI (cRd w sz).1.1), .int t', .int v', .int (nI (cRd w sz).1.2), .ref 253, .ref 254, .ref 255])) : zH)[j]? = g6[j]? := fun j hj => zset_ne hj
      generalize (g6.set 241 (.inr (8, [.ref 242, .ref 243, .ref 244, .int st, .ref 245, .ref 246, .ref 247, .ref 248, .int (nI ac), .ref 249, .ref 250, .ref 251, .int (nI 0), .int (nI (cRd w sz).1.2), .ref 252, .int (nI tr), .int a', .int (nI (cRd w sz).1.1), .int t', .int v', .int (nI (cRd w sz).1.2), .ref 253, .ref 254, .ref 255])) : zH) = g7 at p7 o7 F7
      have P7 : iP g7 (nI (cRd w sz).1.2) st (nI ac) (nI 0) (nI tr) := ⟨_, _, _, _, _, o7⟩
      have F37 : ∀ j, j ≠ 241 → j ≠ 246 → g7[j]? = h3[j]? := fun j a b => (F7 j a).trans ((F6 j a).trans (F5 j a b))
      have F : ∀ j, j ≠ 0 → j ≠ 13 → (j < 22 ∨ 28 < j) → j ≠ 241 → j ≠ 246 → g7[j]? = h[j]? := fun j a b d p q => (F37 j p q).trans (F03 j a b d)
      have P3 := P.keep (h' := h3) (F03 _ (by omega) (by omega) (by omega))
      refine zBoth.mk ((-1000100 : Int32) - nI (cRd w sz).1.1) (h1 := h3) (h2 := g7) ?_ ?_ ?_
      · unfold f_X7_mine
        rw [O.r1, Option.bind_some, O.r3, Option.bind_some, zK_of t1, Option.bind_some, e1, Option.bind_some]
        dsimp only
        rw [O1.r1, Option.bind_some, p2, Option.bind_some, if_neg (show ¬ nI (cRd w sz).1.2 = 0 by rw [znz (by omega)]; exact c), e3, Option.bind_some, O3.r1, Option.bind_some, zI_of w3 rfl, Option.bind_some]
      · unfold f_X8_mine
        have P3 := P.keep (h' := h3) (F03 _ (by omega) (by omega) (by omega))
        rw [P3.k, Option.bind_some, z1, Option.bind_some]
        dsimp only
        rw [p6, Option.bind_some, if_pos rfl, zI_of o6 rfl, Option.bind_some, p7, Option.bind_some, zI_of o7 rfl, Option.bind_some]
      · refine ⟨nI (cRd w sz).1.2, st, ac, 0, tr, th, dg, m, O3.keep (F37 _ (by omega) (by omega)), P7, R.keep (fun j hj => F j (by omega) (by omega) (by omega) (by omega) (by omega)), ⟨by omega, nI (cRd w sz).1.1, nI (cRd w sz).1.2, w, g1, gt, (F37 _ (by omega) (by omega)).trans w3, (F37 _ (by omega) (by omega)).trans ((F3 _ (by omega)).trans tape2), (F _ (by omega) (by omega) (by omega) (by omega) (by omega)).trans t3, fun i hi => by omega⟩, ⟨N7.keep (fun j _ _ => F j (by omega) (by omega) (by omega) (by omega) (by omega)), N8.keep (F _ (by omega) (by omega) (by omega) (by omega) (by omega)), G⟩, A.keep (fun j hj => F j (by omega) (by omega) (by omega) (by omega) (by omega)), Im.keep (fun j hj => F j (by omega) (by omega) (by omega) (by omega) (by omega)), C.keep (fun j hj => F j (by omega) (by omega) (by omega) (by omega) (by omega)), S.keep (fun j hj => F j (by omega) (by omega) (by omega) (by omega) (by omega)), ?_, L.keep (fun j hj => F j (by omega) (by omega) (by omega) (by omega) (by omega))⟩
        obtain ⟨-, -, ⟨y2, x3⟩, ⟨y3, x4⟩, ⟨y4, x5⟩, ⟨y5, x6⟩⟩ := X
        exact ⟨H2.sh.keep (fun j _ _ => (F37 j (by omega) (by omega)).trans (F3 j (by omega))), ⟨f', (F7 _ (by omega)).trans ((F6 _ (by omega)).trans row5)⟩, ⟨y2, (F _ (by omega) (by omega) (by omega) (by omega) (by omega)).trans x3⟩, ⟨y3, (F _ (by omega) (by omega) (by omega) (by omega) (by omega)).trans x4⟩, ⟨y4, (F _ (by omega) (by omega) (by omega) (by omega) (by omega)).trans x5⟩, ⟨y5, (F _ (by omega) (by omega) (by omega) (by omega) (by omega)).trans x6⟩⟩
