/-! PURE: a row of a mine is written; acts -/
theorem zMi.sp {th dg : Int32} {m : Nat → Nat} {r : Nat} {h : zH} (H : zMi h r th dg m) (h5 : m 0 ≤ 5) {i x : Nat} (hi : i < m 0) : ∃ e, zS h 0 (r + 1) (nI i) (nI x) = some (h.set (r + 1) e) ∧ zMi (h.set (r + 1) e) r th dg (mup m (3 + i) x) := by
  obtain ⟨h0, h1, h2, h3, h4, hk, h6⟩ := H
  obtain ⟨e, he, hA⟩ := h1.st (i := i) (x := x) (by omega)
  refine ⟨e, he, ?_⟩
  unfold zMi
  rw [mup_n m x (show (0 : Nat) ≠ 3 + i by omega), mup_n m x (show (1 : Nat) ≠ 3 + i by omega), mup_n m x (show (2 : Nat) ≠ 3 + i by omega), mup_n m x (show (28 : Nat) ≠ 3 + i by omega)]
  refine ⟨by rw [zset_ne (by omega)]; exact h0, ((hA (m 0) (fun t ht => Or.inl ht))).cg (fun t ht => ?_), (h2.keep (zset_ne (by omega))).cg (fun t ht => ?_), (h3.keep (zset_ne (by omega))).cg (fun t ht => ?_), (h4.keep (zset_ne (by omega))).cg (fun t ht => ?_), (hk.keep (zset_ne (by omega))).cg (fun t ht => ?_), h6.keep (zset_ne (by omega))⟩
  · by_cases c : t = i
    · rw [c, mup_s, mup_s]
    · rw [mup_n _ _ c, mup_n m x (by omega)]
  · rw [mup_n m x (by omega)]
  · rw [mup_n m x (by omega)]
  · rw [mup_n m x (by omega)]
  · rw [mup_n m x (by omega)]
theorem zMi.pp {th dg : Int32} {m : Nat → Nat} {r : Nat} {h : zH} (H : zMi h r th dg m) (h5 : m 0 ≤ 5) {i x : Nat} (hi : i < m 0) : ∃ e, zS h 0 (r + 3) (nI i) (nI x) = some (h.set (r + 3) e) ∧ zMi (h.set (r + 3) e) r th dg (mup m (18 + i) x) := by
  obtain ⟨h0, h1, h2, h3, h4, hk, h6⟩ := H
  obtain ⟨e, he, hA⟩ := h3.st (i := i) (x := x) (by omega)
  refine ⟨e, he, ?_⟩
  unfold zMi
  rw [mup_n m x (show (0 : Nat) ≠ 18 + i by omega), mup_n m x (show (1 : Nat) ≠ 18 + i by omega), mup_n m x (show (2 : Nat) ≠ 18 + i by omega), mup_n m x (show (28 : Nat) ≠ 18 + i by omega)]
  refine ⟨by rw [zset_ne (by omega)]; exact h0, (h1.keep (zset_ne (by omega))).cg (fun t ht => ?_), (h2.keep (zset_ne (by omega))).cg (fun t ht => ?_), ((hA (m 0) (fun t ht => Or.inl ht))).cg (fun t ht => ?_), (h4.keep (zset_ne (by omega))).cg (fun t ht => ?_), (hk.keep (zset_ne (by omega))).cg (fun t ht => ?_), h6.keep (zset_ne (by omega))⟩
  · rw [mup_n m x (by omega)]
  · rw [mup_n m x (by omega)]
  · by_cases c : t = i
    · rw [c, mup_s, mup_s]
    · rw [mup_n _ _ c, mup_n m x (by omega)]
  · rw [mup_n m x (by omega)]
  · rw [mup_n m x (by omega)]
theorem zMi.lp {th dg : Int32} {m : Nat → Nat} {r : Nat} {h : zH} (H : zMi h r th dg m) (h5 : m 0 ≤ 5) {i x : Nat} (hi : i < m 0) : ∃ e, zS h 0 (r + 4) (nI i) (nI x) = some (h.set (r + 4) e) ∧ zMi (h.set (r + 4) e) r th dg (mup m (8 + i) x) := by
  obtain ⟨h0, h1, h2, h3, h4, hk, h6⟩ := H
  obtain ⟨e, he, hA⟩ := h4.st (i := i) (x := x) (by omega)
  refine ⟨e, he, ?_⟩
  unfold zMi
  rw [mup_n m x (show (0 : Nat) ≠ 8 + i by omega), mup_n m x (show (1 : Nat) ≠ 8 + i by omega), mup_n m x (show (2 : Nat) ≠ 8 + i by omega), mup_n m x (show (28 : Nat) ≠ 8 + i by omega)]
  refine ⟨by rw [zset_ne (by omega)]; exact h0, (h1.keep (zset_ne (by omega))).cg (fun t ht => ?_), (h2.keep (zset_ne (by omega))).cg (fun t ht => ?_), (h3.keep (zset_ne (by omega))).cg (fun t ht => ?_), ((hA (m 0) (fun t ht => Or.inl ht))).cg (fun t ht => ?_), (hk.keep (zset_ne (by omega))).cg (fun t ht => ?_), h6.keep (zset_ne (by omega))⟩
  · rw [mup_n m x (by omega)]
  · rw [mup_n m x (by omega)]
  · rw [mup_n m x (by omega)]
  · by_cases c : t = i
    · rw [c, mup_s, mup_s]
    · rw [mup_n _ _ c, mup_n m x (by omega)]
  · rw [mup_n m x (by omega)]
theorem zMi.kp {th dg : Int32} {m : Nat → Nat} {r : Nat} {h : zH} (H : zMi h r th dg m) (h5 : m 0 ≤ 5) {i x : Nat} (hi : i < m 0) : ∃ e, zS h 0 (r + 5) (nI i) (nI x) = some (h.set (r + 5) e) ∧ zMi (h.set (r + 5) e) r th dg (mup m (23 + i) x) := by
  obtain ⟨h0, h1, h2, h3, h4, hk, h6⟩ := H
  obtain ⟨e, he, hA⟩ := hk.st (i := i) (x := x) (by omega)
  refine ⟨e, he, ?_⟩
  unfold zMi
  rw [mup_n m x (show (0 : Nat) ≠ 23 + i by omega), mup_n m x (show (1 : Nat) ≠ 23 + i by omega), mup_n m x (show (2 : Nat) ≠ 23 + i by omega), mup_n m x (show (28 : Nat) ≠ 23 + i by omega)]
  refine ⟨by rw [zset_ne (by omega)]; exact h0, (h1.keep (zset_ne (by omega))).cg (fun t ht => ?_), (h2.keep (zset_ne (by omega))).cg (fun t ht => ?_), (h3.keep (zset_ne (by omega))).cg (fun t ht => ?_), (h4.keep (zset_ne (by omega))).cg (fun t ht => ?_), ((hA (m 0) (fun t ht => Or.inl ht))).cg (fun t ht => ?_), h6.keep (zset_ne (by omega))⟩
  · rw [mup_n m x (by omega)]
  · rw [mup_n m x (by omega)]
  · rw [mup_n m x (by omega)]
  · rw [mup_n m x (by omega)]
  · by_cases c : t = i
    · rw [c, mup_s, mup_s]
    · rw [mup_n _ _ c, mup_n m x (by omega)]
theorem zMi.dgp {th dg : Int32} {m : Nat → Nat} {r : Nat} {h : zH} (H : zMi h r th dg m) (x : Int32) : ∃ e, zP h r 3 5 (.int x) = some (h.set r e) ∧ zMi (h.set r e) r th x m := by
  obtain ⟨h0, h1, h2, h3, h4, hk, h6⟩ := H
  exact ⟨_, zP_of h0 (by simp), zset_eq h0, h1.keep (zset_ne (by omega)), h2.keep (zset_ne (by omega)), h3.keep (zset_ne (by omega)), h4.keep (zset_ne (by omega)), hk.keep (zset_ne (by omega)), h6.keep (zset_ne (by omega))⟩
theorem zMo.s29 {dg : Int32} {m : Nat → Nat} {q : Nat} {h : zH} (H : zMo h q dg m) (h5 : m 0 ≤ 5) (x : Int32) : ∃ e, zS h 0 q (29 : Int32) x = some (h.set q e) ∧ zMo (h.set q e) q x m := by
  obtain ⟨f, he, hf0, hf1, hf2, hf28, hf29, hg⟩ := H
  refine ⟨_, by rw [z29]; exact zS_of he (by omega) (by omega), _, zset_eq he, ?_⟩
  have key : ∀ k, k ≠ 29 → upd f 29 x k = f k := fun k hk => upd_n hk
  refine ⟨(key _ (by omega)).trans hf0, (key _ (by omega)).trans hf1, (key _ (by omega)).trans hf2, (key _ (by omega)).trans hf28, upd_s, fun t ht => ?_⟩
  obtain ⟨a, b, c, d, e⟩ := hg t ht
  exact ⟨(key _ (by omega)).trans a, (key _ (by omega)).trans b, (key _ (by omega)).trans c, (key _ (by omega)).trans d, (key _ (by omega)).trans e⟩
theorem zAg.cg {f g : Nat → Int32} {dg : Int32} {m : Nat → Nat} (H : zAg f dg m) (h5 : m 0 ≤ 5) (e : ∀ x, x < 30 → g x = f x) : zAg g dg m := by
  obtain ⟨hf0, hf1, hf2, hf28, hf29, hg⟩ := H
  refine ⟨(e _ (by omega)).trans hf0, (e _ (by omega)).trans hf1, (e _ (by omega)).trans hf2, (e _ (by omega)).trans hf28, (e _ (by omega)).trans hf29, fun t ht => ?_⟩
  obtain ⟨a, b, c, d, w⟩ := hg t ht
  exact ⟨(e _ (by omega)).trans a, (e _ (by omega)).trans b, (e _ (by omega)).trans c, (e _ (by omega)).trans d, (e _ (by omega)).trans w⟩
/-! the acts, oldest first: what was dug, and the mine -/
def sAc (ac : Nat) : Nat := if ac = 24 then 24 else ac + 1
def sPush {α : Type} (ac : Nat) (D : Nat → α) (x : α) : Nat → α := fun j => if ac = 24 then (if j = 23 then x else D (j + 1)) else (if j = ac then x else D j)
def iAc (h : zH) (ac : Nat) (D : Nat → Int32) (M : Nat → Nat → Nat) : Prop := ac ≤ 24 ∧ ∃ (top : Nat) (G : Nat → Option Nat) (at_ ad : Nat → Int32) (am : Nat → Nat → Nat), top < 24 ∧ h[29]? = some (.inr (0, [.ref 30, .int (nI top), .int (nI ac)])) ∧ h[30]? = some (.inl (2, 24, .inr G)) ∧ (∀ k, k < 24 → G k = some (31 + 7 * k)) ∧ (∀ k, k < 24 → zMi h (31 + 7 * k) (at_ k) (ad k) (am k) ∧ gM (at_ k) (am k)) ∧ ∀ j, j < ac → ad ((top + 24 - ac + j) % 24) = D j ∧ am ((top + 24 - ac + j) % 24) = M j
def iAr (h : zH) (ac : Nat) (D : Nat → Int32) (M : Nat → Nat → Nat) : Prop := ∃ pa, h[248]? = some (.inl (0, 720, .inl pa)) ∧ ∀ j, j < ac → zAg (fun x => pa (30 * j + x)) (D j) (M j)
theorem iA.un {h : zH} {ac : Nat} (A : iA h ac) : ∃ D M, iAc h ac D M ∧ iAr h ac D M := by
  obtain ⟨hk, top, G, pa, at_, ad, am, h1, h2, h3, h4, h5, h6, h7⟩ := A
  exact ⟨fun j => ad ((top + 24 - ac + j) % 24), fun j => am ((top + 24 - ac + j) % 24), ⟨hk, top, G, at_, ad, am, h1, h2, h3, h4, h6, fun j _ => ⟨rfl, rfl⟩⟩, pa, h5, h7⟩
theorem iA.mk {h : zH} {ac : Nat} {D : Nat → Int32} {M : Nat → Nat → Nat} (A : iAc h ac D M) (B : iAr h ac D M) : iA h ac := by
  obtain ⟨hk, top, G, at_, ad, am, h1, h2, h3, h4, h6, h8⟩ := A
  obtain ⟨pa, h5, h7⟩ := B
  refine ⟨hk, top, G, pa, at_, ad, am, h1, h2, h3, h4, h5, h6, fun j hj => ?_⟩
  obtain ⟨e1, e2⟩ := h8 j hj
  rw [e1, e2]
  exact h7 j hj
section ACTS
variable {h h' : zH} {ac : Nat} {D : Nat → Int32} {M : Nat → Nat → Nat} {th dg fa st sz tr : Int32} {m : Nat → Nat}
theorem iAc.keep (A : iAc h ac D M) (e : ∀ j, 29 ≤ j ∧ j ≤ 198 → h'[j]? = h[j]?) : iAc h' ac D M := by
  obtain ⟨hk, top, G, at_, ad, am, h1, h2, h3, h4, h6, h8⟩ := A
  exact ⟨hk, top, G, at_, ad, am, h1, (e _ (by omega)).trans h2, (e _ (by omega)).trans h3, h4, fun k hk => ⟨(h6 k hk).1.keep (fun j _ _ => e j (by omega)), (h6 k hk).2⟩, h8⟩
theorem iAr.keep (A : iAr h ac D M) (e : h'[248]? = h[248]?) : iAr h' ac D M := by
  obtain ⟨pa, h5, h7⟩ := A
  exact ⟨pa, e.trans h5, h7⟩
theorem iAc.k (A : iAc h ac D M) : zK h 29 0 = some () := by
  obtain ⟨hk, top, G, at_, ad, am, h1, h2, -⟩ := A
  exact zK_of h2
theorem iAc.i2 (A : iAc h ac D M) : zI h 29 0 2 = some (nI ac) := by
  obtain ⟨hk, top, G, at_, ad, am, h1, h2, -⟩ := A
  exact zI_of h2 rfl
theorem c_keep (A : iAc h ac D M) (H : zMi h 15 th dg m) (G : gM th m) : ∃ h', f_X0_keep 29 15 h = some h' ∧ iAc h' (sAc ac) (sPush ac D dg) (sPush ac M m) ∧ ∀ j, (j < 29 ∨ 198 < j) → h'[j]? = h[j]? := by
  obtain ⟨hk, top, Gr, at_, ad, am, h1, h2, h3, h4, h6, h8⟩ := A
  have h5 := G.1.1
  obtain ⟨h9, e9, H9, F9⟩ := c_become H h5 G.b (h6 top h1).1.sh (by omega)
  have w2 := (F9 29 (by omega)).trans h2
  have w3 := (F9 30 (by omega)).trans h3
  -- the ring's two numbers
  have key : ∀ T : Nat, T < 24 → (T = (if top + 1 < 24 then top + 1 else 0)) → ∃ h', f_X0_keep_b35 29 29 (nI T) h9 = some h' ∧ h'[29]? = some (.inr (0, [.ref 30, .int (nI T), .int (nI (sAc ac))])) ∧ ∀ j, j ≠ 29 → h'[j]? = h9[j]? := by
    intro T hT eT
    have p1 : zP h9 29 0 1 (.int (nI T)) = some (h9.set 29 (.inr (0, [.ref 30, .int (nI T), .int (nI ac)]))) := zP_of w2 (by simp)
    have w4 := zset_eq (e := .inr (0, [.ref 30, .int (nI T), .int (nI ac)])) w2
    have p2 : zP (h9.set 29 (.inr (0, [.ref 30, .int (nI T), .int (nI ac)]))) 29 0 2 (.int (nI (sAc ac))) = some ((h9.set 29 (.inr (0, [.ref 30, .int (nI T), .int (nI ac)]))).set 29 (.inr (0, [.ref 30, .int (nI T), .int (nI (sAc ac))]))) := zP_of w4 (by simp)
    have ez : (if (24 : Int32) < nI (ac + 1) then (24 : Int32) else nI (ac + 1)) = nI (sAc ac) := by
      unfold sAc
      by_cases c : ac = 24
      · rw [if_pos c, if_pos (show (24 : Int32) < nI (ac + 1) from nI_lt (a := 24) (by omega) (by omega))]
        rfl
      · rw [if_neg c, if_neg (show ¬ (24 : Int32) < nI (ac + 1) from nI_nlt (a := 24) (by omega) (by omega))]
    unfold f_X0_keep_b35
    refine ⟨_, ?_, zset_eq w4, fun j hj => ?_⟩
    · rw [p1, Option.bind_some, zI_of w4 rfl, Option.bind_some, nI_1, ez, p2, Option.bind_some]
    · rw [zset_ne hj]
      exact zset_ne hj
  obtain ⟨T, hT, eT⟩ : ∃ T, T < 24 ∧ T = (if top + 1 < 24 then top + 1 else 0) := ⟨_, by split <;> omega, rfl⟩
  obtain ⟨h', k1, k2, k3⟩ := key T hT eT
  refine ⟨h', ?_, ⟨?_, T, Gr, fun k => if k = top then th else at_ k, fun k => if k = top then dg else ad k, fun k => if k = top then m else am k, hT, k2, ?_, h4, fun k hk2 => ?_, fun j hj => ?_⟩, fun j hj => (k3 j (by omega)).trans (F9 j (by omega))⟩
  · unfold f_X0_keep
    rw [zR_of h2 rfl, Option.bind_some, zI_of h2 rfl, Option.bind_some, zLr_of h3 h1 (by omega) (h4 top h1), Option.bind_some, (h6 top h1).1.k, Option.bind_some, e9, Option.bind_some, zI_of w2 rfl, Option.bind_some, nI_1]
    by_cases c : top + 1 < 24
    · rw [if_neg (show ¬ (24 : Int32) ≤ nI (top + 1) from nI_ge (a := top + 1) (b := 24) (by omega) (by omega)), Option.bind_some, nI_1]
      rw [if_pos c] at eT
      rw [eT] at k1
      exact k1
    · rw [if_pos (show (24 : Int32) ≤ nI (top + 1) from nI_le (a := 24) (by omega) (by omega))]
      rw [if_neg c] at eT
      rw [eT] at k1
      exact k1
  · unfold sAc; split <;> omega
  · exact (k3 30 (by omega)).trans w3
  · dsimp only
    by_cases c : k = top
    · subst c
      rw [if_pos rfl, if_pos rfl, if_pos rfl]
      exact ⟨H9.keep (fun j _ _ => k3 j (by omega)), G⟩
    · rw [if_neg c, if_neg c, if_neg c]
      exact ⟨(h6 k hk2).1.keep (fun j _ _ => (k3 j (by omega)).trans (F9 j (by omega))), (h6 k hk2).2⟩
  · unfold sPush
    unfold sAc at hj ⊢
    dsimp only
    by_cases c : ac = 24
    · subst c
      rw [if_pos rfl] at hj ⊢
      rw [if_pos rfl, if_pos rfl]
      by_cases c2 : j = 23
      · subst c2
        rw [if_pos rfl, if_pos rfl, if_pos (by split at eT <;> omega), if_pos (by split at eT <;> omega)]
        exact ⟨rfl, rfl⟩
      · have e8 := h8 (j + 1) (by omega)
        rw [if_neg c2, if_neg c2, if_neg (by split at eT <;> omega), if_neg (by split at eT <;> omega), show (T + 24 - 24 + j) % 24 = (top + 24 - 24 + (j + 1)) % 24 by split at eT <;> omega]
        exact e8
    · rw [if_neg c] at hj ⊢
      rw [if_neg c, if_neg c]
      by_cases c2 : j = ac
      · subst c2
        rw [if_pos rfl, if_pos rfl, if_pos (by split at eT <;> omega), if_pos (by split at eT <;> omega)]
        exact ⟨rfl, rfl⟩
      · have e8 := h8 j (by omega)
        rw [if_neg c2, if_neg c2, if_neg (by split at eT <;> omega), if_neg (by split at eT <;> omega), show (T + 24 - (ac + 1) + j) % 24 = (top + 24 - ac + j) % 24 by split at eT <;> omega]
        exact e8
theorem c_takeBack (A : iAc h ac D M) (h0 : 0 < ac) (S : zSh h 15) : ∃ h' th', f_X0_takeBack 29 15 h = some h' ∧ iAc h' (ac - 1) D M ∧ zMi h' 15 th' (D (ac - 1)) (M (ac - 1)) ∧ gM th' (M (ac - 1)) ∧ ∀ j, (j < 15 ∨ 21 < j) → j ≠ 29 → h'[j]? = h[j]? := by
  obtain ⟨hk, top, Gr, at_, ad, am, h1, h2, h3, h4, h6, h8⟩ := A
  have key : ∀ T : Nat, T < 24 → T = (top + 23) % 24 → ∃ h' th', f_X0_takeBack_b26 29 15 29 (nI T) h = some h' ∧ iAc h' (ac - 1) D M ∧ zMi h' 15 th' (D (ac - 1)) (M (ac - 1)) ∧ gM th' (M (ac - 1)) ∧ ∀ j, (j < 15 ∨ 21 < j) → j ≠ 29 → h'[j]? = h[j]? := by
    intro T hT eT
    have p1 : zP h 29 0 1 (.int (nI T)) = some (h.set 29 (.inr (0, [.ref 30, .int (nI T), .int (nI ac)]))) := zP_of h2 (by simp)
    have w4 := zset_eq (e := .inr (0, [.ref 30, .int (nI T), .int (nI ac)])) h2
    have p2 : zP (h.set 29 (.inr (0, [.ref 30, .int (nI T), .int (nI ac)]))) 29 0 2 (.int (nI (ac - 1))) = some ((h.set 29 (.inr (0, [.ref 30, .int (nI T), .int (nI ac)]))).set 29 (.inr (0, [.ref 30, .int (nI T), .int (nI (ac - 1))]))) := zP_of w4 (by simp)
    have w5 := zset_eq (e := .inr (0, [.ref 30, .int (nI T), .int (nI (ac - 1))])) w4
    generalize hh : (h.set 29 (.inr (0, [.ref 30, .int (nI T), .int (nI ac)]))).set 29 (.inr (0, [.ref 30, .int (nI T), .int (nI (ac - 1))])) = k at w5 p2
    have Fk : ∀ j, j ≠ 29 → k[j]? = h[j]? := fun j hj => by rw [← hh, zset_ne hj]; exact zset_ne hj
    have e8 := h8 (ac - 1) (by omega)
    have eT2 : (top + 24 - ac + (ac - 1)) % 24 = T := by omega
    rw [eT2] at e8
    have Z := (h6 T hT).1.keep (h' := k) (fun j _ _ => Fk j (by omega))
    have S' := S.keep (h' := k) (fun j _ _ => Fk j (by omega))
    obtain ⟨h', e9, H9, F9⟩ := c_become Z (h6 T hT).2.1.1 (h6 T hT).2.b S' (by omega)
    have w30 : k[30]? = _ := (Fk 30 (by omega)).trans h3
    refine ⟨h', at_ T, ?_, ⟨by omega, T, Gr, at_, ad, am, hT, (F9 _ (by omega)).trans w5, (F9 _ (by omega)).trans w30, h4, fun i hi => ⟨(h6 i hi).1.keep (fun j _ _ => (F9 j (by omega)).trans (Fk j (by omega))), (h6 i hi).2⟩, fun j hj => ?_⟩, ?_, ?_, fun j a b => (F9 j (by omega)).trans (Fk j b)⟩
    · unfold f_X0_takeBack_b26
      rw [p1, Option.bind_some, zI_of w4 rfl, Option.bind_some, z1, pk_sub (by omega), p2, Option.bind_some, zR_of w5 rfl, Option.bind_some, zI_of w5 rfl, Option.bind_some, zLr_of w30 hT (by omega) (h4 T hT), Option.bind_some, S'.k, Option.bind_some, e9, Option.bind_some]
    · have := h8 j (by omega)
      rw [show (T + 24 - (ac - 1) + j) % 24 = (top + 24 - ac + j) % 24 by omega]
      exact this
    · rw [← e8.1, ← e8.2]
      exact H9
    · rw [← e8.2]
      exact (h6 T hT).2
  unfold f_X0_takeBack
  rw [zI_of h2 rfl, Option.bind_some, if_neg (nI_nle h0 (by omega)), zI_of h2 rfl, Option.bind_some]
  by_cases c : top = 0
  · rw [if_pos (by rw [c]; decide)]
    exact key 23 (by omega) (by omega)
  · rw [if_neg (nI_nle (by omega) (by omega)), Option.bind_some, z1, pk_sub (by omega)]
    exact key (top - 1) (by omega) (by omega)
/-! the reference's past -/
theorem r_shift {fa st ac' sz tr : Int32} : ∀ (k x n : Nat) (h : zH) (pa : Nat → Int32), x + k = 690 → k < n → iP h fa st ac' sz tr → h[248]? = some (.inl (0, 720, .inl pa)) → ∃ h', f_X8_remember_b11 n 241 (nI x) h = f_X8_remember_b11 1 241 (nI 690) h' ∧ iP h' fa st ac' sz tr ∧ h'[248]? = some (.inl (0, 720, .inl (fun y => if x ≤ y ∧ y < 690 then pa (y + 30) else pa y))) ∧ ∀ j, j ≠ 248 → h'[j]? = h[j]? := by
  intro k
  induction k with
  | zero =>
    intro x n h pa hx hn P hp
    obtain ⟨n, rfl⟩ : ∃ y, n = y + 1 := ⟨n - 1, by omega⟩
    refine ⟨h, ?_, P, ?_, fun _ _ => rfl⟩
    · rw [e_X8_remember_b11, e_X8_remember_b11, show (690 : Int32) = nI 690 from rfl, if_pos (nI_le (by omega) (by omega)), if_pos (nI_le (by omega) (by omega))]
    · rw [hp]
      congr 4
      refine congrArg Sum.inl ?_
      funext y
      rw [if_neg (by omega)]
  | succ k ih =>
    intro x n h pa hx hn P hp
    obtain ⟨n, rfl⟩ : ∃ y, n = y + 1 := ⟨n - 1, by omega⟩
    obtain ⟨h', e, P', hp', F'⟩ := ih (x + 1) n (h.set 248 (.inl (0, 720, .inl (upd pa x (pa (x + 30)))))) _ (by omega) (by omega) (P.keep (zset_ne (by omega))) (zset_eq hp)
    refine ⟨h', ?_, P', ?_, fun j hj => (F' j hj).trans (zset_ne hj)⟩
    · rw [e_X8_remember_b11, show (690 : Int32) = nI 690 from rfl, if_neg (nI_ge (by omega) (by omega)), P.r7, Option.bind_some, Option.bind_some, z30, nI_add, zL_of hp (by omega) (by omega), Option.bind_some, zS_of hp (by omega) (by omega), Option.bind_some, nI_1]
      exact e
    · rw [hp']
      congr 4
      refine congrArg Sum.inl ?_
      funext y
      unfold upd
      by_cases c : y = x
      · subst c
        rw [if_neg (by omega), if_pos rfl, if_pos (by omega)]
      · by_cases c2 : x + 1 ≤ y ∧ y < 690
        · rw [if_pos c2, if_neg (by omega), if_pos (by omega)]
        · rw [if_neg c2, if_neg c, if_neg (by omega)]
theorem r_remember {ac : Nat} {D : Nat → Int32} {M : Nat → Nat → Nat} (P : iP h fa st (nI ac) sz tr) (B : iAr h ac D M) (hac : ac ≤ 24) (hM : ∀ j, j < ac → M j 0 ≤ 5) (H : zMo h 245 dg m) (v : vM m) : ∃ h', f_X8_remember 241 h = some h' ∧ iP h' fa st (nI (sAc ac)) sz tr ∧ iAr h' (sAc ac) (sPush ac D dg) (sPush ac M m) ∧ ∀ j, j ≠ 241 → j ≠ 248 → h'[j]? = h[j]? := by
  obtain ⟨f, hf, hz⟩ := H
  obtain ⟨pa, hpa, rel⟩ := B
  have h5 := v.1
  have last : ∀ (h0 : zH) (a : Nat) (pb : Nat → Int32), a < 24 → iP h0 fa st (nI a) sz tr → h0[245]? = some (.inl (0, 30, .inl f)) → h0[248]? = some (.inl (0, 720, .inl pb)) → ∃ h', f_X8_remember_b49 241 h0 = some h' ∧ iP h' fa st (nI (a + 1)) sz tr ∧ h'[248]? = some (.inl (0, 720, .inl (zcp30 f 0 pb (30 * a) 30))) ∧ ∀ j, j ≠ 241 → j ≠ 248 → h'[j]? = h0[j]? := by
    intro h0 a pb ha P0 e1 e2
    obtain ⟨h', e, hb, k⟩ := r_copies (i := 0) (j := 30 * a) (n0 := 30) (n1 := 720) (a := 245) (b := 248) (by omega) (by omega) (by omega) (by omega) (by omega) e1 e2
    have P1 : iP h' fa st (nI a) sz tr := P0.keep (k _ (by omega))
    obtain ⟨e9, z9, P9⟩ := P1.p8 (nI (a + 1))
    refine ⟨h'.set 241 e9, ?_, P9, (zset_ne (by omega)).trans hb, fun j x y => (zset_ne x).trans (k j y)⟩
    unfold f_X8_remember_b49
    rw [P0.r4, Option.bind_some, P0.r7, Option.bind_some, P0.i8, Option.bind_some, z30, pk_mul, show (0 : Int32) = nI 0 from rfl, e, Option.bind_some, P1.i8, Option.bind_some, nI_1, z9, Option.bind_some]
  unfold f_X8_remember
  rw [P.i8, Option.bind_some]
  by_cases c : ac = 24
  · subst c
    rw [if_pos (show nI 24 = (24 : Int32) from rfl)]
    obtain ⟨h1, e1, P1, hp1, F1⟩ := r_shift 690 0 zF h pa (by omega) (by show 690 < 5000; omega) P hpa
    obtain ⟨e2, z2, P2⟩ := P1.p8 (nI 23)
    have w1 : (h1.set 241 e2)[245]? = _ := ((zset_ne (by omega)).trans (F1 245 (by omega))).trans hf
    have w2 : (h1.set 241 e2)[248]? = _ := (zset_ne (by omega)).trans hp1
    obtain ⟨h3, e3, P3, hp3, F3⟩ := last (h1.set 241 e2) 23 _ (by omega) P2 w1 w2
    refine ⟨h3, ?_, P3, ⟨_, hp3, fun j hj => ?_⟩, fun j x y => (F3 j x y).trans ((zset_ne x).trans (F1 j y))⟩
    · rw [show (0 : Int32) = nI 0 from rfl]
      refine e1.trans ?_
      rw [e_X8_remember_b11, show (690 : Int32) = nI 690 from rfl, if_pos (nI_le (by omega) (by omega)), P1.i8, Option.bind_some, z1, pk_sub (by omega)]
      rw [show 24 - 1 = 23 from rfl, z2, Option.bind_some]
      exact e3
    · have hj' : j < 24 := hj
      unfold sPush
      rw [if_pos rfl, if_pos rfl]
      by_cases c2 : j = 23
      · subst c2
        rw [if_pos rfl, if_pos rfl]
        refine zAg.cg hz h5 (fun x hx => ?_)
        unfold zcp30
        rw [if_pos (by omega)]
        exact congrArg f (by omega)
      · rw [if_neg c2, if_neg c2]
        refine zAg.cg (rel (j + 1) (by omega)) (hM _ (by omega)) (fun x hx => ?_)
        unfold zcp30
        rw [if_neg (by omega)]
        dsimp only
        rw [if_pos (by omega)]
        exact congrArg pa (by omega)
  · rw [if_neg (show ¬ nI ac = (24 : Int32) from zne (b := 24) c (by omega) (by omega))]
    obtain ⟨h3, e3, P3, hp3, F3⟩ := last h ac pa (by omega) P hf hpa
    have es : sAc ac = ac + 1 := by unfold sAc; rw [if_neg c]
    rw [es]
    refine ⟨h3, e3, P3, ⟨_, hp3, fun j hj => ?_⟩, F3⟩
    unfold sPush
    rw [if_neg c, if_neg c]
    by_cases c2 : j = ac
    · subst c2
      rw [if_pos rfl, if_pos rfl]
      refine zAg.cg hz h5 (fun x hx => ?_)
      unfold zcp30
      rw [if_pos (by omega)]
      congr 1
      omega
    · rw [if_neg c2, if_neg c2]
      refine zAg.cg (rel j (by omega)) (hM _ (by omega)) (fun x hx => ?_)
      unfold zcp30
      rw [if_neg (by omega)]
end ACTS
