/-! PURE: the reference reads: a step -/
def rS (fa st ac tr : Int32) (w : Nat → Nat) (k : Nat) (h : zH) (a b t v e : Int32) (f : Nat → Int32) : Prop := h[241]? = some (.inr (8, [.ref 242, .ref 243, .ref 244, .int st, .ref 245, .ref 246, .ref 247, .ref 248, .int ac, .ref 249, .ref 250, .ref 251, .int (nI k), .int fa, .ref 252, .int tr, .int a, .int b, .int t, .int v, .int e, .ref 253, .ref 254, .ref 255])) ∧ (∃ g : Nat → Int32, h[251]? = some (.inl (0, 100, .inl g)) ∧ ∀ i, i < k → g i = nI (w i)) ∧ h[246]? = some (.inl (0, 30, .inl f)) ∧ k ≤ 100 ∧ ∀ i, i < k → w i ≤ 255
section RSTEP
variable {fa st ac tr : Int32} {w : Nat → Nat} {k : Nat} {h : zH} {a b t v e : Int32} {f : Nat → Int32}
theorem rS.zk (S : rS fa st ac tr w k h a b t v e f) : zK h 241 8 = some () := zK_of S.1
theorem rS.i12 (S : rS fa st ac tr w k h a b t v e f) : zI h 241 8 12 = some (nI k) := zI_of S.1 rfl
theorem rS.i16 (S : rS fa st ac tr w k h a b t v e f) : zI h 241 8 16 = some a := zI_of S.1 rfl
theorem rS.i17 (S : rS fa st ac tr w k h a b t v e f) : zI h 241 8 17 = some b := zI_of S.1 rfl
theorem rS.i18 (S : rS fa st ac tr w k h a b t v e f) : zI h 241 8 18 = some t := zI_of S.1 rfl
theorem rS.i19 (S : rS fa st ac tr w k h a b t v e f) : zI h 241 8 19 = some v := zI_of S.1 rfl
theorem rS.i20 (S : rS fa st ac tr w k h a b t v e f) : zI h 241 8 20 = some e := zI_of S.1 rfl
theorem rS.r5 (S : rS fa st ac tr w k h a b t v e f) : zR h 241 8 5 = some 246 := zR_of S.1 rfl
theorem rS.r11 (S : rS fa st ac tr w k h a b t v e f) : zR h 241 8 11 = some 251 := zR_of S.1 rfl
theorem rS.o {x : zE} (S : rS fa st ac tr w k h a b t v e f) {a' b' t' v' e' : Int32} (hx : (h.set 241 x)[241]? = some (.inr (8, [.ref 242, .ref 243, .ref 244, .int st, .ref 245, .ref 246, .ref 247, .ref 248, .int ac, .ref 249, .ref 250, .ref 251, .int (nI k), .int fa, .ref 252, .int tr, .int a', .int b', .int t', .int v', .int e', .ref 253, .ref 254, .ref 255]))) : rS fa st ac tr w k (h.set 241 x) a' b' t' v' e' f := by
  obtain ⟨h1, ⟨g, h2, h3⟩, h4, h5⟩ := S
  exact ⟨hx, ⟨g, (zset_ne (by omega)).trans h2, h3⟩, (zset_ne (by omega)).trans h4, h5⟩
theorem rS.p16 (S : rS fa st ac tr w k h a b t v e f) (x : Int32) : ∃ z, zP h 241 8 16 (.int x) = some (h.set 241 z) ∧ rS fa st ac tr w k (h.set 241 z) x b t v e f := ⟨_, zP_of S.1 (by simp), S.o (zset_eq S.1)⟩
theorem rS.p17 (S : rS fa st ac tr w k h a b t v e f) (x : Int32) : ∃ z, zP h 241 8 17 (.int x) = some (h.set 241 z) ∧ rS fa st ac tr w k (h.set 241 z) a x t v e f := ⟨_, zP_of S.1 (by simp), S.o (zset_eq S.1)⟩
theorem rS.p18 (S : rS fa st ac tr w k h a b t v e f) (x : Int32) : ∃ z, zP h 241 8 18 (.int x) = some (h.set 241 z) ∧ rS fa st ac tr w k (h.set 241 z) a b x v e f := ⟨_, zP_of S.1 (by simp), S.o (zset_eq S.1)⟩
theorem rS.p19 (S : rS fa st ac tr w k h a b t v e f) (x : Int32) : ∃ z, zP h 241 8 19 (.int x) = some (h.set 241 z) ∧ rS fa st ac tr w k (h.set 241 z) a b t x e f := ⟨_, zP_of S.1 (by simp), S.o (zset_eq S.1)⟩
theorem rS.p20 (S : rS fa st ac tr w k h a b t v e f) (x : Int32) : ∃ z, zP h 241 8 20 (.int x) = some (h.set 241 z) ∧ rS fa st ac tr w k (h.set 241 z) a b t v x f := ⟨_, zP_of S.1 (by simp), S.o (zset_eq S.1)⟩
theorem rS.s246 (S : rS fa st ac tr w k h a b t v e f) {i : Nat} (hi : i < 30) (x : Int32) : ∃ z, zS h 0 246 (nI i) x = some (h.set 246 z) ∧ rS fa st ac tr w k (h.set 246 z) a b t v e (upd f i x) := by
  obtain ⟨h1, ⟨g, h2, h3⟩, h4, h5⟩ := S
  exact ⟨_, zS_of h4 hi (by omega), (zset_ne (by omega)).trans h1, ⟨g, (zset_ne (by omega)).trans h2, h3⟩, zset_eq h4, h5⟩
theorem r_here {q : Nat} (S : rS fa st ac tr w k h (nI q) b t v e f) (hq : q < 1000) : f_X8_here 241 h = some (sBy w k q) := by
  obtain ⟨h1, ⟨g, h2, h3⟩, h4, h5, h6⟩ := S
  unfold f_X8_here sBy
  rw [zI_of h1 rfl, Option.bind_some, zI_of h1 rfl, Option.bind_some]
  by_cases c : q < k
  · rw [if_neg (nI_ge c (by omega)), zR_of h1 rfl, Option.bind_some, Option.bind_some, zL_of h2 (by omega) (by omega), Option.bind_some, if_pos c, h3 q c]
  · rw [if_pos (nI_le (by omega) (by omega)), if_neg c]
theorem r_inN {h : zH} {x l u : Nat} (hx : x < 2147483648) (hl : l < 2147483648) (hu : u < 2147483648) : f_X8_in (Int32.toInt64 (nI x)) (Int32.toInt64 (nI l)) (Int32.toInt64 (nI u)) h = some (zb (l ≤ x ∧ x ≤ u)) := by
  rw [r_in]
  congr 1
  apply zb_c
  rw [nI_leI hl hx, nI_leI hx hu]
theorem r_isDig {h : zH} (h255 : ∀ i, i < k → w i ≤ 255) (q : Nat) : f_X8_in (Int32.toInt64 (sBy w k q)) (48 : Int64) (57 : Int64) h = some (zb (sDig w k q = true)) := by
  unfold sBy sDig
  by_cases c : q < k
  · have := h255 q c
    rw [if_pos c, show (48 : Int64) = Int32.toInt64 (nI 48) from rfl, show (57 : Int64) = Int32.toInt64 (nI 57) from rfl, r_inN (by omega) (by omega) (by omega)]
    congr 1
    apply zb_c
    simp
    omega
  · rw [if_neg c, zb_f (by simp; omega)]
    rfl
theorem r_run {p : Nat} : ∀ (j q n : Nat) (h : zH) (t v : Int32), q + j = k → j < n → p + 2 ≤ q → rS fa st ac tr w k h (nI q) (nI p) t v e f → ∃ h' q' t', f_X8_step_b131 n 241 h = some h' ∧ rS fa st ac tr w k h' (nI q') (nI p) t' v e f ∧ q' ≤ k ∧ (∀ y, y ≠ 241 → h'[y]? = h[y]?) ∧ (sDig w k q = true → t' = 4) ∧ (¬ sDig w k q = true → q' = q ∧ t' = (if q ≤ p + 2 then 2 else 4)) := by
  intro j
  induction j with
  | zero =>
    intro q n h t v hq hn hp S
    obtain ⟨n, rfl⟩ : ∃ x, n = x + 1 := ⟨n - 1, by omega⟩
    have h100 := S.2.2.2.1
    have nd : ¬ sDig w k q = true := by unfold sDig; simp; omega
    rw [e_X8_step_b131, S.zk, Option.bind_some, r_here S (by omega), Option.bind_some, r_isDig S.2.2.2.2, Option.bind_some, if_pos (zb_f nd), S.i16, Option.bind_some, S.i17, Option.bind_some, pk_sub (by omega)]
    unfold f_X8_step_b219
    by_cases c : q ≤ p + 2
    · obtain ⟨z, e1, S1⟩ := S.p18 2
      rw [if_pos (show nI (q - p) ≤ (2 : Int32) from nI_le (b := 2) (by omega) (by omega)), e1, Option.bind_some]
      exact ⟨_, q, 2, rfl, S1, by omega, fun y hy => zset_ne hy, fun d => absurd d nd, fun _ => ⟨rfl, by rw [if_pos c]⟩⟩
    · obtain ⟨z, e1, S1⟩ := S.p18 4
      rw [if_neg (show ¬ nI (q - p) ≤ (2 : Int32) from nI_ge (a := 2) (by omega) (by omega)), e1, Option.bind_some]
      exact ⟨_, q, 4, rfl, S1, by omega, fun y hy => zset_ne hy, fun d => absurd d nd, fun _ => ⟨rfl, by rw [if_neg c]⟩⟩
  | succ j ih =>
    intro q n h t v hq hn hp S
    obtain ⟨n, rfl⟩ : ∃ x, n = x + 1 := ⟨n - 1, by omega⟩
    have h100 := S.2.2.2.1
    rw [e_X8_step_b131, S.zk, Option.bind_some, r_here S (by omega), Option.bind_some, r_isDig S.2.2.2.2, Option.bind_some]
    by_cases d : sDig w k q = true
    · obtain ⟨z1', e1, S1⟩ := S.p19 v
      obtain ⟨z2', e2, S2⟩ := S1.p16 (nI (q + 1))
      rw [if_neg (zb_n d), S.i16, Option.bind_some, S.i17, Option.bind_some, pk_sub (by omega), if_pos (show (2 : Int32) ≤ nI (q - p) from nI_le (a := 2) (by omega) (by omega)), S.i19, Option.bind_some]
      unfold f_X8_step_b184
      rw [e1, Option.bind_some, S1.i16, Option.bind_some, nI_1, e2, Option.bind_some]
      obtain ⟨h', q', t', e3, S3, hq', F3, y1, y2⟩ := ih (q + 1) n _ _ _ (by omega) (by omega) (by omega) S2
      refine ⟨h', q', t', e3, S3, hq', fun y hy => (F3 y hy).trans ((zset_ne hy).trans (zset_ne hy)), fun _ => ?_, fun nd => absurd d nd⟩
      by_cases d2 : sDig w k (q + 1) = true
      · exact y1 d2
      · rw [(y2 d2).2, if_neg (by omega)]
    · rw [if_pos (zb_f d), S.i16, Option.bind_some, S.i17, Option.bind_some, pk_sub (by omega)]
      unfold f_X8_step_b219
      by_cases c : q ≤ p + 2
      · obtain ⟨z, e1, S1⟩ := S.p18 2
        rw [if_pos (show nI (q - p) ≤ (2 : Int32) from nI_le (b := 2) (by omega) (by omega)), e1, Option.bind_some]
        exact ⟨_, q, 2, rfl, S1, by omega, fun y hy => zset_ne hy, fun z => absurd z d, fun _ => ⟨rfl, by rw [if_pos c]⟩⟩
      · obtain ⟨z, e1, S1⟩ := S.p18 4
        rw [if_neg (show ¬ nI (q - p) ≤ (2 : Int32) from nI_ge (a := 2) (by omega) (by omega)), e1, Option.bind_some]
        exact ⟨_, q, 4, rfl, S1, by omega, fun y hy => zset_ne hy, fun z => absurd z d, fun _ => ⟨rfl, by rw [if_neg c]⟩⟩
/-- one digit of the first two -/
theorem r_one {p q n x : Nat} {h : zH} {t : Int32} (hq : q < p + 2) (hpq : p ≤ q) (S : rS fa st ac tr w k h (nI q) (nI p) t (nI x) e f) (d : sDig w k q = true) : ∃ h', f_X8_step_b131 (n + 1) 241 h = f_X8_step_b131 n 241 h' ∧ rS fa st ac tr w k h' (nI (q + 1)) (nI p) t (nI (10 * x + (w q - 48))) e f ∧ ∀ y, y ≠ 241 → h'[y]? = h[y]? := by
  have d' := sDig_v d
  have h100 := S.2.2.2.1
  have b0 : sBy w k q = nI (w q) := if_pos d'.1
  obtain ⟨z1', e1, S1⟩ := S.p19 (nI (10 * x + (w q - 48)))
  obtain ⟨z2', e2, S2⟩ := S1.p16 (nI (q + 1))
  refine ⟨(h.set 241 z1').set 241 z2', ?_, S2, fun y hy => (zset_ne hy).trans (zset_ne hy)⟩
  rw [e_X8_step_b131, S.zk, Option.bind_some, r_here S (by omega), Option.bind_some, r_isDig S.2.2.2.2, Option.bind_some, if_neg (zb_n d), S.i16, Option.bind_some, S.i17, Option.bind_some, pk_sub hpq, if_neg (show ¬ (2 : Int32) ≤ nI (q - p) from nI_ge (b := 2) (by omega) (by omega)), S.i19, Option.bind_some, Option.bind_some, Option.bind_some, b0, z10, pk_mul, nI_add, show (48 : Int32) = nI 48 from rfl, pk_sub (by omega), Nat.add_sub_assoc d'.2.1]
  unfold f_X8_step_b184
  rw [e1, Option.bind_some, S1.i16, Option.bind_some, nI_1, e2, Option.bind_some]
/-- the end of a run of one digit -/
theorem r_fin {p q n : Nat} {h : zH} {t v : Int32} (hp : p ≤ q) (hq : q ≤ p + 2) (hk : q ≤ k) (S : rS fa st ac tr w k h (nI q) (nI p) t v e f) (d : ¬ sDig w k q = true) : ∃ h', f_X8_step_b131 (n + 1) 241 h = some h' ∧ rS fa st ac tr w k h' (nI q) (nI p) 2 v e f ∧ ∀ y, y ≠ 241 → h'[y]? = h[y]? := by
  have h100 := S.2.2.2.1
  obtain ⟨z, e1, S1⟩ := S.p18 2
  refine ⟨h.set 241 z, ?_, S1, fun y hy => zset_ne hy⟩
  rw [e_X8_step_b131, S.zk, Option.bind_some, r_here S (by omega), Option.bind_some, r_isDig S.2.2.2.2, Option.bind_some, if_pos (zb_f d), S.i16, Option.bind_some, S.i17, Option.bind_some, pk_sub hp]
  unfold f_X8_step_b219
  rw [if_pos (show nI (q - p) ≤ (2 : Int32) from nI_le (b := 2) (by omega) (by omega)), e1, Option.bind_some]
/-- what a step tells of the place p -/
def sTok (w : Nat → Nat) (k p : Nat) (q : Nat) (t v : Int32) : Prop :=
  (¬ p < k → t = 0 ∧ q = p) ∧
  (p < k → 97 ≤ w p ∧ w p ≤ 122 → t = 1 ∧ v = nI (w p) ∧ q = p + 1) ∧
  (p < k → ¬ (97 ≤ w p ∧ w p ≤ 122) → ¬ sDig w k p = true → (w p = 44 ∨ w p = 59) → t = 3 ∧ v = nI (w p) ∧ q = p + 1) ∧
  (p < k → ¬ (97 ≤ w p ∧ w p ≤ 122) → ¬ sDig w k p = true → ¬ (w p = 44 ∨ w p = 59) → t = 4) ∧
  (sDig w k p = true → ¬ sDig w k (p + 1) = true → t = 2 ∧ v = nI (w p - 48) ∧ q = p + 1) ∧
  (sDig w k p = true → sDig w k (p + 1) = true → ¬ sDig w k (p + 2) = true → t = 2 ∧ v = nI (10 * (w p - 48) + (w (p + 1) - 48)) ∧ q = p + 2) ∧
  (sDig w k p = true → sDig w k (p + 1) = true → sDig w k (p + 2) = true → t = 4)
theorem r_b93 {p : Nat} {h : zH} {t v : Int32} (S : rS fa st ac tr w k h (nI p) (nI p) t v e f) {tok : Int32} (h2 : ¬ tok = 2) : ∃ h', f_X8_step_b93 241 241 tok h = some h' ∧ rS fa st ac tr w k h' (nI (p + (if tok = 0 then 0 else 1))) (nI p) tok v e f ∧ ∀ y, y ≠ 241 → h'[y]? = h[y]? := by
  obtain ⟨z1', e1, S1⟩ := S.p18 tok
  unfold f_X8_step_b93 f_X8_step_b121
  rw [e1, Option.bind_some, S1.i18, Option.bind_some, if_neg h2, S1.i16, Option.bind_some, Option.bind_some]
  by_cases c : tok = 0
  · obtain ⟨z2', e2, S2⟩ := S1.p16 (nI p)
    rw [if_pos c, if_pos c, show nI p + (0 : Int32) = nI p from Int32.add_zero _, e2, Option.bind_some]
    exact ⟨_, rfl, S2, fun y hy => (zset_ne hy).trans (zset_ne hy)⟩
  · obtain ⟨z2', e2, S2⟩ := S1.p16 (nI (p + 1))
    rw [if_neg c, if_neg c, nI_1, e2, Option.bind_some]
    exact ⟨_, rfl, S2, fun y hy => (zset_ne hy).trans (zset_ne hy)⟩
theorem r_step {p : Nat} {h : zH} {b t v : Int32} (hp : p ≤ k) (S : rS fa st ac tr w k h (nI p) b t v e f) : ∃ h' q t' v', f_X8_step 241 h = some h' ∧ rS fa st ac tr w k h' (nI q) (nI p) t' v' e f ∧ q ≤ k ∧ sTok w k p q t' v' ∧ ∀ y, y ≠ 241 → h'[y]? = h[y]? := by
  have h100 := S.2.2.2.1
  have h255 := S.2.2.2.2
  obtain ⟨z1', e1, S1⟩ := S.p17 (nI p)
  obtain ⟨z2', e2, S2⟩ := S1.p19 (sBy w k p)
  have F2 : ∀ y, y ≠ 241 → ((h.set 241 z1').set 241 z2')[y]? = h[y]? := fun y hy => (zset_ne hy).trans (zset_ne hy)
  unfold f_X8_step
  rw [S.i16, Option.bind_some, e1, Option.bind_some, S1.zk, Option.bind_some, r_here S1 (by omega), Option.bind_some, e2, Option.bind_some, S2.i19, Option.bind_some]
  by_cases c : p < k
  · have hw := h255 p c
    have b0 : sBy w k p = nI (w p) := if_pos c
    rw [b0] at S2 ⊢
    rw [if_pos (nI_pos' (by omega)), Option.bind_some, show (97 : Int64) = Int32.toInt64 (nI 97) from rfl, show (122 : Int64) = Int32.toInt64 (nI 122) from rfl, r_inN (by omega) (by omega) (by omega), Option.bind_some]
    by_cases l : 97 ≤ w p ∧ w p ≤ 122
    · obtain ⟨h', e3, S3, F3⟩ := r_b93 S2 (tok := 1) (by decide)
      rw [if_neg (zb_n l), e3]
      rw [if_neg (show ¬ (1 : Int32) = 0 by decide)] at S3
      have nd : ¬ sDig w k p = true := by unfold sDig; simp; omega
      exact ⟨h', p + 1, 1, _, rfl, S3, by omega, ⟨fun z => absurd c z, fun _ _ => ⟨rfl, rfl, rfl⟩, fun _ z => absurd l z, fun _ z => absurd l z, fun z => absurd z nd, fun z => absurd z nd, fun z => absurd z nd⟩, fun y hy => (F3 y hy).trans (F2 y hy)⟩
    · rw [if_pos (zb_f l), Option.bind_some, show Int32.toInt64 (nI (w p)) = Int32.toInt64 (sBy w k p) by rw [b0], r_isDig h255, Option.bind_some]
      by_cases d : sDig w k p = true
      · rw [if_neg (zb_n d)]
        obtain ⟨z3', e3, S3⟩ := S2.p18 2
        obtain ⟨z4', e4, S4⟩ := S3.p19 (nI 0)
        have F4 : ∀ y, y ≠ 241 → ((((h.set 241 z1').set 241 z2').set 241 z3').set 241 z4')[y]? = h[y]? := fun y hy => (zset_ne hy).trans ((zset_ne hy).trans (F2 y hy))
        unfold f_X8_step_b93 zF
        rw [e3, Option.bind_some, S3.i18, Option.bind_some, if_pos rfl, show (0 : Int32) = nI 0 from rfl, e4, Option.bind_some]
        obtain ⟨g1, f1, T1, G1⟩ := r_one (n := 4999) (show p < p + 2 by omega) (Nat.le_refl p) S4 d
        rw [Nat.mul_zero, Nat.zero_add] at T1
        rw [f1]
        have dv := sDig_v d
        by_cases d1 : sDig w k (p + 1) = true
        · obtain ⟨g2, f2, T2, G2⟩ := r_one (n := 4998) (show p + 1 < p + 2 by omega) (by omega) T1 d1
          rw [f2]
          have dv1 := sDig_v d1
          obtain ⟨g3, q3, t3, f3, T3, hq3, G3, y1, y2⟩ := r_run (k - (p + 2)) (p + 2) 4998 g2 _ _ (by omega) (by omega) (by omega) T2
          refine ⟨g3, q3, t3, _, f3, T3, hq3, ⟨fun z => absurd c z, fun _ z => absurd z l, fun _ _ z => absurd d z, fun _ _ z => absurd d z, fun _ z => absurd d1 z, fun _ _ z => ?_, fun _ _ z => y1 z⟩, fun y hy => (G3 y hy).trans ((G2 y hy).trans ((G1 y hy).trans (F4 y hy)))⟩
          have := y2 z
          rw [if_pos (Nat.le_refl _)] at this
          exact ⟨this.2, rfl, this.1⟩
        · obtain ⟨g2, f2, T2, G2⟩ := r_fin (n := 4998) (show p ≤ p + 1 by omega) (by omega) (by omega) T1 d1
          rw [f2]
          exact ⟨g2, p + 1, 2, _, rfl, T2, by omega, ⟨fun z => absurd c z, fun _ z => absurd z l, fun _ _ z => absurd d z, fun _ _ z => absurd d z, fun _ _ => ⟨rfl, rfl, rfl⟩, fun _ z => absurd z d1, fun _ z => absurd z d1⟩, fun y hy => (G2 y hy).trans ((G1 y hy).trans (F4 y hy))⟩
      · rw [if_pos (zb_f d), Option.bind_some]
        unfold f_X8_step_b88
        have q44 : (nI (w p) = (44 : Int32)) ↔ w p = 44 := nI_eq (b := 44) (by omega) (by omega)
        have q59 : (nI (w p) = (59 : Int32)) ↔ w p = 59 := nI_eq (b := 59) (by omega) (by omega)
        obtain ⟨h3, e3, S3, F3⟩ := r_b93 S2 (tok := 3) (by decide)
        rw [if_neg (show ¬ (3 : Int32) = 0 by decide)] at S3
        obtain ⟨h4, e4, S4, F4⟩ := r_b93 S2 (tok := 4) (by decide)
        rw [if_neg (show ¬ (4 : Int32) = 0 by decide)] at S4
        rw [e3, e4]
        by_cases c44 : w p = 44
        · rw [if_pos (q44.mpr c44)]
          exact ⟨h3, p + 1, 3, _, rfl, S3, by omega, ⟨fun z => absurd c z, fun _ z => absurd z l, fun _ _ _ _ => ⟨rfl, rfl, rfl⟩, fun _ _ _ z => absurd (Or.inl c44) z, fun z => absurd z d, fun z => absurd z d, fun z => absurd z d⟩, fun y hy => (F3 y hy).trans (F2 y hy)⟩
        · rw [if_neg (fun z => c44 (q44.mp z)), Option.bind_some]
          by_cases c59 : w p = 59
          · rw [if_pos (q59.mpr c59)]
            exact ⟨h3, p + 1, 3, _, rfl, S3, by omega, ⟨fun z => absurd c z, fun _ z => absurd z l, fun _ _ _ _ => ⟨rfl, rfl, rfl⟩, fun _ _ _ z => absurd (Or.inr c59) z, fun z => absurd z d, fun z => absurd z d, fun z => absurd z d⟩, fun y hy => (F3 y hy).trans (F2 y hy)⟩
          · rw [if_neg (fun z => c59 (q59.mp z))]
            exact ⟨h4, p + 1, 4, _, rfl, S4, by omega, ⟨fun z => absurd c z, fun _ z => absurd z l, fun _ _ _ z => absurd z (fun y => y.elim c44 c59), fun _ _ _ _ => rfl, fun z => absurd z d, fun z => absurd z d, fun z => absurd z d⟩, fun y hy => (F4 y hy).trans (F2 y hy)⟩
  · have b0 : sBy w k p = -1 := if_neg c
    have nd : ¬ sDig w k p = true := by unfold sDig; simp; omega
    rw [b0] at S2 ⊢
    obtain ⟨h', e3, S3, F3⟩ := r_b93 S2 (tok := 0) (by decide)
    rw [if_neg (show ¬ (0 : Int32) ≤ -1 by decide), e3]
    rw [if_pos rfl, Nat.add_zero] at S3
    exact ⟨h', p, 0, _, rfl, S3, hp, ⟨fun _ => ⟨rfl, rfl⟩, fun z => absurd z c, fun z => absurd z c, fun z => absurd z c, fun z => absurd z nd, fun z => absurd z nd, fun z => absurd z nd⟩, fun y hy => (F3 y hy).trans (F2 y hy)⟩
end RSTEP
