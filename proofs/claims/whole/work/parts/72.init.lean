/-! PURE: the constructors: acts -/
def zRaw3 : zE := .inr (3, [.int 0, .int 0, .int 0, .int 0, .int 0, .int 0, .null, .null, .null, .null, .null, .null])
/-- k mines from the place r on -/
def zNews (r : Nat) : Nat → List zE
  | 0 => []
  | k + 1 => zNews r k ++ zNew (r + 7 * k)
theorem zNews_len (r : Nat) : ∀ k, (zNews r k).length = 7 * k := by
  intro k
  induction k with
  | zero => rfl
  | succ k ih =>
    rw [zNews, List.length_append, ih]
    have : (zNew (r + 7 * k)).length = 7 := rfl
    omega
def zRef (r : Nat) (k : Nat) : Nat → Option Nat := fun i => if i < k then some (r + 7 * i) else none
theorem zRef_s (r k : Nat) : va_up (zRef r k) k (some (r + 7 * k)) = zRef r (k + 1) := by
  funext i
  unfold va_up zRef
  by_cases c : i = k
  · subst c
    rw [if_pos rfl, if_pos (by omega)]
  · rw [if_neg c]
    by_cases c2 : i < k
    · rw [if_pos c2, if_pos (by omega)]
    · rw [if_neg c2, if_neg (by omega)]
theorem zSr_of {h : zH} {t r n j v : Nat} {g : Nat → Option Nat} (he : h[r]? = some (.inl (t, n, .inr g))) (hj : j < n) (hn : n < 2147483648) : zSr h t r (nI j) v = some (h.set r (.inl (t, n, .inr (va_up g j (some v))))) := by
  have h1 := zin hj hn
  have h2 : (nI j).toNatClampNeg = j := nI_clamp (Nat.lt_trans hj hn)
  unfold zSr
  rw [he]
  show (if t = t ∧ ¬ (nI j < 0 ∨ n ≤ (nI j).toNatClampNeg) then some (h.set r (.inl (t, n, .inr (va_up g (nI j).toNatClampNeg (some v))))) else none) = _
  rw [if_pos ⟨rfl, h1⟩, h2]
/-- one more mine, its reference kept in the row at the place a (of N) -/
theorem zStep {α : Type} {h : zH} {o a N k ci fi r : Nat} {fs : List Value} (ho : h[o]? = some (.inr (ci, fs))) (hf : fs[fi]? = some (.ref a)) (ha : h[a]? = some (.inl (2, N, .inr (zRef r k)))) (hN : N < 1000) (hk : k < N) (hr : h.length = r + 7 * k) {i : Int32} (hi : i = nI k) (hal : a < h.length) (K : zH → Option α) :
    ((zR h o ci fi).bind fun v => (zMk h zRaw3).bind fun q => (f_X3_init q.1 q.2).bind fun q' => (zK q' q.1 3).bind fun _ => (zSr q' 2 v i q.1).bind K) = K ((h ++ zNew (r + 7 * k)).set a (.inl (2, N, .inr (zRef r (k + 1))))) := by
  rw [zR_of ho hf, Option.bind_some]
  have e1 : zMk h zRaw3 = some (h.length, h ++ [zRaw3]) := rfl
  rw [e1, Option.bind_some]
  dsimp only
  have e2 : f_X3_init h.length (h ++ [zRaw3]) = some (h ++ zNew h.length) := new_mine h
  have e3 : (h ++ zNew h.length)[h.length]? = some (.inr (3, [.int 0, .int 0, .int 0, .int 0, .int 0, .int 0, .ref (h.length + 1), .ref (h.length + 2), .ref (h.length + 3), .ref (h.length + 4), .ref (h.length + 5), .ref (h.length + 6)])) := by
    have := zap_at (h := h) (l := zNew h.length) (k := 0)
    exact this
  rw [e2, Option.bind_some, zK_of e3, Option.bind_some, hi, zSr_of ((zap_lt hal).trans ha) hk (by omega), Option.bind_some, ← hr]
  rw [← zRef_s, ← hr]
theorem new_acts (h : zH) : f_X0_init h.length (h ++ [.inr (0, [.null, .int 0, .int 0])]) = some (h ++ ((.inr (0, [.ref (h.length + 1), .int 0, .int 0])) :: (.inl (2, 24, .inr (zRef (h.length + 2) 24))) :: zNews (h.length + 2) 24)) := by
  have go : ∀ k, k < 24 → ∀ {α : Type} (K : zH → Option α) (i : Int32), i = nI k → ((zR (h ++ ((.inr (0, [.ref (h.length + 1), .int 0, .int 0])) :: (.inl (2, 24, .inr (zRef (h.length + 2) k))) :: zNews (h.length + 2) k)) h.length 0 0).bind fun v => (zMk (h ++ ((.inr (0, [.ref (h.length + 1), .int 0, .int 0])) :: (.inl (2, 24, .inr (zRef (h.length + 2) k))) :: zNews (h.length + 2) k)) zRaw3).bind fun q => (f_X3_init q.1 q.2).bind fun q' => (zK q' q.1 3).bind fun _ => (zSr q' 2 v i q.1).bind K) = K (h ++ ((.inr (0, [.ref (h.length + 1), .int 0, .int 0])) :: (.inl (2, 24, .inr (zRef (h.length + 2) (k + 1)))) :: zNews (h.length + 2) (k + 1))) := by
    intro k hk α K i hi
    have o := zap_at (h := h) (l := (.inr (0, [.ref (h.length + 1), .int 0, .int 0])) :: (.inl (2, 24, .inr (zRef (h.length + 2) k))) :: zNews (h.length + 2) k) (k := 0)
    have a := zap_at (h := h) (l := (.inr (0, [.ref (h.length + 1), .int 0, .int 0])) :: (.inl (2, 24, .inr (zRef (h.length + 2) k))) :: zNews (h.length + 2) k) (k := 1)
    have len : (h ++ ((.inr (0, [.ref (h.length + 1), .int 0, .int 0]) : zE) :: (.inl (2, 24, .inr (zRef (h.length + 2) k))) :: zNews (h.length + 2) k)).length = (h.length + 2) + 7 * k := by
      rw [List.length_append, List.length_cons, List.length_cons, zNews_len]
      omega
    rw [zStep (ci := 0) (fi := 0) (N := 24) (k := k) (r := h.length + 2) (o := h.length) (a := h.length + 1) (fs := [.ref (h.length + 1), .int 0, .int 0]) o rfl a (by omega) hk len hi (by rw [len]; omega) K]
    congr 1
    rw [List.append_assoc, List.set_append_right _ _ (by omega), show h.length + 1 - h.length = 1 by omega]
    rfl
  unfold f_X0_init
  rw [zMk_ap, Option.bind_some]
  dsimp only [List.cons_append, List.nil_append]
  rw [zP_ap (by simp), Option.bind_some, zP_ap (by simp), Option.bind_some, zP_ap (by simp), Option.bind_some]
  have g0 : zRef (h.length + 2) 0 = fun _ => none := by
    funext i
    unfold zRef
    rw [if_neg (by omega)]
  rw [← g0]
  refine (go 0 (by omega) _ _ rfl).trans ?_
  refine (go 1 (by omega) _ _ rfl).trans ?_
  refine (go 2 (by omega) _ _ rfl).trans ?_
  refine (go 3 (by omega) _ _ rfl).trans ?_
  refine (go 4 (by omega) _ _ rfl).trans ?_
  refine (go 5 (by omega) _ _ rfl).trans ?_
  refine (go 6 (by omega) _ _ rfl).trans ?_
  refine (go 7 (by omega) _ _ rfl).trans ?_
  refine (go 8 (by omega) _ _ rfl).trans ?_
  refine (go 9 (by omega) _ _ rfl).trans ?_
  refine (go 10 (by omega) _ _ rfl).trans ?_
  refine (go 11 (by omega) _ _ rfl).trans ?_
  refine (go 12 (by omega) _ _ rfl).trans ?_
  refine (go 13 (by omega) _ _ rfl).trans ?_
  refine (go 14 (by omega) _ _ rfl).trans ?_
  refine (go 15 (by omega) _ _ rfl).trans ?_
  refine (go 16 (by omega) _ _ rfl).trans ?_
  refine (go 17 (by omega) _ _ rfl).trans ?_
  refine (go 18 (by omega) _ _ rfl).trans ?_
  refine (go 19 (by omega) _ _ rfl).trans ?_
  refine (go 20 (by omega) _ _ rfl).trans ?_
  refine (go 21 (by omega) _ _ rfl).trans ?_
  refine (go 22 (by omega) _ _ rfl).trans ?_
  exact go 23 (by omega) _ _ rfl
