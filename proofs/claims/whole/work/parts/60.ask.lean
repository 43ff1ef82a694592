/-! PURE: ask, and the trace of the bodies -/
def iCc (h : zH) (l : List Nat) : Prop := l.length ≤ 16 ∧ ∃ f : Nat → Int32, h[225]? = some (.inr (1, [.ref 226, .int (nI l.length)])) ∧ h[226]? = some (.inl (0, 16, .inl f)) ∧ ∀ i x, l[i]? = some x → f i = nI x
def cQ (h0 h : zH) (l : List Nat) : Prop := iCc h l ∧ ∀ j, j ≠ 225 → j ≠ 226 → h[j]? = h0[j]?
theorem zapp {f : Nat → Int32} {l : List Nat} {b : Nat} (hf : ∀ i x, l[i]? = some x → f i = nI x) : ∀ i x, (l ++ [b])[i]? = some x → upd f l.length (nI b) i = nI x := by
  intro i x hi
  unfold upd
  by_cases c : i = l.length
  · subst c
    rw [if_pos rfl]
    simp at hi
    rw [hi]
  · rw [if_neg c]
    have hl : i < (l ++ [b]).length := (List.getElem?_eq_some_iff.mp hi).1
    rw [List.length_append] at hl
    have h1 : ([b] : List Nat).length = 1 := rfl
    rw [List.getElem?_append_left (by omega)] at hi
    exact hf i x hi
theorem c_note {h0 h : zH} {l : List Nat} (Q : cQ h0 h l) (hl : l.length < 16) (b : Nat) : ∃ h', f_X1_note 225 (nI b) h = some h' ∧ cQ h0 h' (l ++ [b]) := by
  obtain ⟨⟨hk, f, h1, h2, h3⟩, F⟩ := Q
  have z1 : zS h 0 226 (nI l.length) (nI b) = some (h.set 226 (.inl (0, 16, .inl (upd f l.length (nI b))))) := zS_of h2 hl (by omega)
  have w1 := (zset_ne (h := h) (r := 226) (k := 225) (e := .inl (0, 16, .inl (upd f l.length (nI b)))) (by omega)).trans h1
  have z2 : zP (h.set 226 (.inl (0, 16, .inl (upd f l.length (nI b))))) 225 1 1 (.int (nI (l.length + 1))) = some ((h.set 226 (.inl (0, 16, .inl (upd f l.length (nI b))))).set 225 (.inr (1, [.ref 226, .int (nI (l.length + 1))]))) := zP_of w1 (by simp)
  refine ⟨(h.set 226 (.inl (0, 16, .inl (upd f l.length (nI b))))).set 225 (.inr (1, [.ref 226, .int (nI (l.length + 1))])), ?_, ⟨⟨by rw [List.length_append]; exact hl, upd f l.length (nI b), ?_, ?_, zapp h3⟩, fun j a b => (zset_ne a).trans ((zset_ne b).trans (F j a b))⟩⟩
  · unfold f_X1_note
    rw [zI_of h1 rfl, Option.bind_some, if_neg (show ¬ (16 : Int32) ≤ nI l.length from nI_ge (b := 16) hl (by omega)), zR_of h1 rfl, Option.bind_some, Option.bind_some, z1, Option.bind_some, zI_of w1 rfl, Option.bind_some, nI_1, z2, Option.bind_some]
  · rw [List.length_append]
    exact zset_eq w1
  · rw [zset_ne (by omega)]
    exact zset_eq h2
theorem cQ.k {h0 h : zH} {l : List Nat} (Q : cQ h0 h l) : zK h 225 1 = some () := by
  obtain ⟨⟨hk, f, h1, -⟩, -⟩ := Q
  exact zK_of h1
theorem cQ.mi {h0 h : zH} {l : List Nat} {th dg : Int32} {m : Nat → Nat} (Q : cQ h0 h l) (H : zMi h0 15 th dg m) : zMi h 15 th dg m := H.keep (fun j _ _ => Q.2 j (by omega) (by omega))
theorem bf11 (h : zH) : f_X1_bodyFor (nI 1) 1 h = some (nI 21) := rfl
theorem bf21 (h : zH) : f_X1_bodyFor (nI 2) 1 h = some (nI 24) := rfl
theorem bf31 (h : zH) : f_X1_bodyFor (nI 3) 1 h = some (nI 22) := rfl
theorem bf41 (h : zH) : f_X1_bodyFor (nI 4) 1 h = some (nI 23) := rfl
theorem bf51 (h : zH) : f_X1_bodyFor (nI 5) 1 h = some (nI 23) := rfl
theorem bf10 (h : zH) : f_X1_bodyFor (nI 1) 0 h = some (nI 11) := rfl
theorem bf20 (h : zH) : f_X1_bodyFor (nI 2) 0 h = some (nI 12) := rfl
theorem bf30 (h : zH) : f_X1_bodyFor (nI 3) 0 h = some (nI 11) := rfl
theorem bf40 (h : zH) : f_X1_bodyFor (nI 4) 0 h = some (nI 13) := rfl
theorem bf50 (h : zH) : f_X1_bodyFor (nI 5) 0 h = some (nI 14) := rfl
/-- what a body of the class gives, and what it leaves -/
def cGive (h0 : zH) (t n body lev : Nat) (v : Int32) (p : List Nat) : Prop := ∀ h l, cQ h0 h l → l.length + p.length ≤ 16 → ∃ h', f_X1_give n 225 15 (nI t) (nI body) (nI lev) h = some (v, h') ∧ cQ h0 h' (l ++ p)
def cAns (h0 : zH) (t n lev : Nat) (w v : Int32) (p : List Nat) : Prop := ∀ h l, cQ h0 h l → l.length + p.length ≤ 16 → ∃ h', f_X1_answer (f_X1_give n) 225 15 (nI t) w (nI lev) h = some (v, h') ∧ cQ h0 h' (l ++ p)
section ASKC
variable {h0 : zH} {th dg : Int32} {m : Nat → Nat} {t n lev : Nat}
theorem cg_start {h : zH} {l : List Nat} (Q : cQ h0 h l) (hl : l.length < 16) (hv : lev < 12) (body : Nat) : ∃ h1, cQ h0 h1 (l ++ [body]) ∧ zK h 225 1 = some () ∧ f_X1_note 225 (nI body) h = some h1 ∧ nI lev < (12 : Int32) ∧ nI lev + (1 : Int32) = nI (lev + 1) := by
  obtain ⟨h1, e1, Q1⟩ := c_note Q hl body
  exact ⟨h1, Q1, Q.k, e1, nI_lt (b := 12) hv (by omega), nI_1 lev⟩
theorem cg10 (H : zMi h0 15 th dg m) (v : vM m) (ht : t < m 0) (hv : lev < 12) : cGive h0 t (n + 1) 10 lev (nI (m (8 + t))) [10] := by
  intro h l Q hl
  have hl' : l.length + 1 ≤ 16 := hl
  obtain ⟨h1, Q1, k, e1, lt, nx⟩ := cg_start Q (by omega) hv 10
  refine ⟨h1, ?_, Q1⟩
  show f1_X1_give (f_X1_give n) 225 15 (nI t) (nI 10) (nI lev) h = _
  unfold f1_X1_give
  rw [if_pos lt, k, Option.bind_some, e1, Option.bind_some, zLet_eq, if_pos (show nI 10 = (10 : Int32) from rfl), (Q1.mi H).f9, Option.bind_some, (Q1.mi H).sl v ht, Option.bind_some]
theorem cg20 (hv : lev < 12) : cGive h0 t (n + 1) 20 lev (nI t) [20] := by
  intro h l Q hl
  have hl' : l.length + 1 ≤ 16 := hl
  obtain ⟨h1, Q1, k, e1, lt, nx⟩ := cg_start Q (by omega) hv 20
  refine ⟨h1, ?_, Q1⟩
  show f1_X1_give (f_X1_give n) 225 15 (nI t) (nI 20) (nI lev) h = _
  unfold f1_X1_give
  rw [if_pos lt, k, Option.bind_some, e1, Option.bind_some, zLet_eq]
  rfl
theorem cg13 {x : Int32} {p : List Nat} (g : cGive h0 t n 10 (lev + 1) x p) (hv : lev < 12) : cGive h0 t (n + 1) 13 lev (x - 100) (13 :: p) := by
  intro h l Q hl
  have hl' : l.length + (p.length + 1) ≤ 16 := hl
  obtain ⟨h1, Q1, k, e1, lt, nx⟩ := cg_start Q (by omega) hv 13
  obtain ⟨h2, e2, Q2⟩ := g h1 _ Q1 (by rw [List.length_append]; show l.length + 1 + p.length ≤ 16; omega)
  refine ⟨h2, ?_, by rw [List.append_assoc] at Q2; exact Q2⟩
  show f1_X1_give (f_X1_give n) 225 15 (nI t) (nI 13) (nI lev) h = _
  unfold f1_X1_give
  rw [if_pos lt, k, Option.bind_some, e1, Option.bind_some, zLet_eq, nx]
  show ((zK h1 225 1).bind fun _ => (f_X1_give n 225 15 (nI t) (nI 10) (nI (lev + 1)) h1).bind fun q8 => some ((q8.1 - (100 : Int32)), q8.2)) = _
  rw [Q1.k, Option.bind_some, e2, Option.bind_some]
theorem cg12 {x : Int32} {p : List Nat} (g : cGive h0 t n 11 (lev + 1) x p) (hv : lev < 12) : cGive h0 t (n + 1) 12 lev (-x) (12 :: p) := by
  intro h l Q hl
  have hl' : l.length + (p.length + 1) ≤ 16 := hl
  obtain ⟨h1, Q1, k, e1, lt, nx⟩ := cg_start Q (by omega) hv 12
  obtain ⟨h2, e2, Q2⟩ := g h1 _ Q1 (by rw [List.length_append]; show l.length + 1 + p.length ≤ 16; omega)
  refine ⟨h2, ?_, by rw [List.append_assoc] at Q2; exact Q2⟩
  show f1_X1_give (f_X1_give n) 225 15 (nI t) (nI 12) (nI lev) h = _
  unfold f1_X1_give
  rw [if_pos lt, k, Option.bind_some, e1, Option.bind_some, zLet_eq, nx]
  show ((zK h1 225 1).bind fun _ => (f_X1_give n 225 15 (nI t) (nI 11) (nI (lev + 1)) h1).bind fun q8 => some ((-q8.1), q8.2)) = _
  rw [Q1.k, Option.bind_some, e2, Option.bind_some]
theorem cg14 {x : Int32} {p : List Nat} (g : cGive h0 t n 13 (lev + 1) x p) (hv : lev < 12) : cGive h0 t (n + 1) 14 lev (2 * x) (14 :: p) := by
  intro h l Q hl
  have hl' : l.length + (p.length + 1) ≤ 16 := hl
  obtain ⟨h1, Q1, k, e1, lt, nx⟩ := cg_start Q (by omega) hv 14
  obtain ⟨h2, e2, Q2⟩ := g h1 _ Q1 (by rw [List.length_append]; show l.length + 1 + p.length ≤ 16; omega)
  refine ⟨h2, ?_, by rw [List.append_assoc] at Q2; exact Q2⟩
  show f1_X1_give (f_X1_give n) 225 15 (nI t) (nI 14) (nI lev) h = _
  unfold f1_X1_give
  rw [if_pos lt, k, Option.bind_some, e1, Option.bind_some, zLet_eq, nx]
  show ((zK h1 225 1).bind fun _ => (f_X1_give n 225 15 (nI t) (nI 13) (nI (lev + 1)) h1).bind fun q8 => some (((2 : Int32) * q8.1), q8.2)) = _
  rw [Q1.k, Option.bind_some, e2, Option.bind_some]
theorem cg22 {x : Int32} {p : List Nat} (g : cGive h0 t n 21 (lev + 1) x p) (hv : lev < 12) : cGive h0 t (n + 1) 22 lev (x - 1000) (22 :: p) := by
  intro h l Q hl
  have hl' : l.length + (p.length + 1) ≤ 16 := hl
  obtain ⟨h1, Q1, k, e1, lt, nx⟩ := cg_start Q (by omega) hv 22
  obtain ⟨h2, e2, Q2⟩ := g h1 _ Q1 (by rw [List.length_append]; show l.length + 1 + p.length ≤ 16; omega)
  refine ⟨h2, ?_, by rw [List.append_assoc] at Q2; exact Q2⟩
  show f1_X1_give (f_X1_give n) 225 15 (nI t) (nI 22) (nI lev) h = _
  unfold f1_X1_give
  rw [if_pos lt, k, Option.bind_some, e1, Option.bind_some, zLet_eq, nx]
  show ((zK h1 225 1).bind fun _ => (f_X1_give n 225 15 (nI t) (nI 21) (nI (lev + 1)) h1).bind fun q8 => some ((q8.1 - (1000 : Int32)), q8.2)) = _
  rw [Q1.k, Option.bind_some, e2, Option.bind_some]
theorem cg24 {x : Int32} {p : List Nat} (g : cGive h0 t n 21 (lev + 1) x p) (hv : lev < 12) : cGive h0 t (n + 1) 24 lev (2 * x) (24 :: p) := by
  intro h l Q hl
  have hl' : l.length + (p.length + 1) ≤ 16 := hl
  obtain ⟨h1, Q1, k, e1, lt, nx⟩ := cg_start Q (by omega) hv 24
  obtain ⟨h2, e2, Q2⟩ := g h1 _ Q1 (by rw [List.length_append]; show l.length + 1 + p.length ≤ 16; omega)
  refine ⟨h2, ?_, by rw [List.append_assoc] at Q2; exact Q2⟩
  show f1_X1_give (f_X1_give n) 225 15 (nI t) (nI 24) (nI lev) h = _
  unfold f1_X1_give
  rw [if_pos lt, k, Option.bind_some, e1, Option.bind_some, zLet_eq, nx]
  show ((zK h1 225 1).bind fun _ => (f_X1_give n 225 15 (nI t) (nI 21) (nI (lev + 1)) h1).bind fun q8 => some (((2 : Int32) * q8.1), q8.2)) = _
  rw [Q1.k, Option.bind_some, e2, Option.bind_some]
theorem cg21 (H : zMi h0 15 th dg m) (v : vM m) (ht : t < m 0) {x : Int32} {p : List Nat} (g : cGive h0 t n 20 (lev + 1) x p) (hv : lev < 12) : cGive h0 t (n + 1) 21 lev (x + nI (m (13 + t))) (21 :: p) := by
  intro h l Q hl
  have hl' : l.length + (p.length + 1) ≤ 16 := hl
  obtain ⟨h1, Q1, k, e1, lt, nx⟩ := cg_start Q (by omega) hv 21
  obtain ⟨h2, e2, Q2⟩ := g h1 _ Q1 (by rw [List.length_append]; show l.length + 1 + p.length ≤ 16; omega)
  refine ⟨h2, ?_, by rw [List.append_assoc] at Q2; exact Q2⟩
  show f1_X1_give (f_X1_give n) 225 15 (nI t) (nI 21) (nI lev) h = _
  unfold f1_X1_give
  rw [if_pos lt, k, Option.bind_some, e1, Option.bind_some, zLet_eq, nx]
  show ((zK h1 225 1).bind fun _ => (f_X1_give n 225 15 (nI t) (nI 20) (nI (lev + 1)) h1).bind fun q10 => (zR q10.2 15 3 7).bind fun v11 => (zL q10.2 0 v11 (nI t)).bind fun v12 => some ((q10.1 + v12), q10.2)) = _
  rw [Q1.k, Option.bind_some, e2, Option.bind_some]
  dsimp only
  rw [(Q2.mi H).f7, Option.bind_some, (Q2.mi H).de v ht, Option.bind_some]
theorem cg11 {x y : Int32} {p q : List Nat} (g : cGive h0 t n 10 (lev + 1) x p) (a : cAns h0 t n (lev + 1) 1 y q) (hv : lev < 12) : cGive h0 t (n + 1) 11 lev (x + y) (11 :: (p ++ q)) := by
  intro h l Q hl
  have hl' : l.length + ((p.length + q.length) + 1) ≤ 16 := by
    have := hl
    rw [List.length_cons, List.length_append] at this
    exact this
  obtain ⟨h1, Q1, k, e1, lt, nx⟩ := cg_start Q (by omega) hv 11
  obtain ⟨h2, e2, Q2⟩ := g h1 _ Q1 (by rw [List.length_append]; show l.length + 1 + p.length ≤ 16; omega)
  obtain ⟨h3, e3, Q3⟩ := a h2 _ Q2 (by rw [List.length_append, List.length_append]; show l.length + 1 + p.length + q.length ≤ 16; omega)
  refine ⟨h3, ?_, by rw [List.append_assoc, List.append_assoc] at Q3; exact Q3⟩
  show f1_X1_give (f_X1_give n) 225 15 (nI t) (nI 11) (nI lev) h = _
  unfold f1_X1_give
  rw [if_pos lt, k, Option.bind_some, e1, Option.bind_some, zLet_eq, nx]
  show ((zK h1 225 1).bind fun _ => (f_X1_give n 225 15 (nI t) (nI 10) (nI (lev + 1)) h1).bind fun q5 => (zK q5.2 225 1).bind fun _ => (f_X1_answer (f_X1_give n) 225 15 (nI t) (1 : Int32) (nI (lev + 1)) q5.2).bind fun q6 => some ((q5.1 + q6.1), q6.2)) = _
  rw [Q1.k, Option.bind_some, e2, Option.bind_some]
  dsimp only
  rw [Q2.k, Option.bind_some, e3, Option.bind_some]
theorem cg23 {x y : Int32} {p q : List Nat} (g : cGive h0 t n 20 (lev + 1) x p) (a : cAns h0 t n (lev + 1) 0 y q) (hv : lev < 12) : cGive h0 t (n + 1) 23 lev (x - y) (23 :: (p ++ q)) := by
  intro h l Q hl
  have hl' : l.length + ((p.length + q.length) + 1) ≤ 16 := by
    have := hl
    rw [List.length_cons, List.length_append] at this
    exact this
  obtain ⟨h1, Q1, k, e1, lt, nx⟩ := cg_start Q (by omega) hv 23
  obtain ⟨h2, e2, Q2⟩ := g h1 _ Q1 (by rw [List.length_append]; show l.length + 1 + p.length ≤ 16; omega)
  obtain ⟨h3, e3, Q3⟩ := a h2 _ Q2 (by rw [List.length_append, List.length_append]; show l.length + 1 + p.length + q.length ≤ 16; omega)
  refine ⟨h3, ?_, by rw [List.append_assoc, List.append_assoc] at Q3; exact Q3⟩
  show f1_X1_give (f_X1_give n) 225 15 (nI t) (nI 23) (nI lev) h = _
  unfold f1_X1_give
  rw [if_pos lt, k, Option.bind_some, e1, Option.bind_some, zLet_eq, nx]
  show ((zK h1 225 1).bind fun _ => (f_X1_give n 225 15 (nI t) (nI 20) (nI (lev + 1)) h1).bind fun q5 => (zK q5.2 225 1).bind fun _ => (f_X1_answer (f_X1_give n) 225 15 (nI t) (0 : Int32) (nI (lev + 1)) q5.2).bind fun q6 => some ((q5.1 - q6.1), q6.2)) = _
  rw [Q1.k, Option.bind_some, e2, Option.bind_some]
  dsimp only
  rw [Q2.k, Option.bind_some, e3, Option.bind_some]
theorem ca (H : zMi h0 15 th dg m) (v : vM m) (ht : t < m 0) {w x : Int32} {p : List Nat} {body : Nat} (hb : ∀ h, f_X1_bodyFor (nI (m (3 + t))) w h = some (nI body)) (g : cGive h0 t n body lev x p) : cAns h0 t n lev w x p := by
  intro h l Q hl
  obtain ⟨h1, e1, Q1⟩ := g h l Q hl
  refine ⟨h1, ?_, Q1⟩
  unfold f_X1_answer
  rw [(Q.mi H).f6, Option.bind_some, (Q.mi H).so v ht, Option.bind_some, hb, Option.bind_some, Q.k, Option.bind_some, e1, Option.bind_some]
end ASKC
/-- what is answered, and the trace -/
def sMark (m : Nat → Nat) (t : Nat) : Int32 := if m (3 + t) = 2 then 2 * (nI t + nI (m (13 + t))) else if m (3 + t) = 3 then nI t + nI (m (13 + t)) - 1000 else nI t + nI (m (13 + t))
def sMarkL (m : Nat → Nat) (t : Nat) : List Nat := if m (3 + t) = 2 then [24, 21, 20] else if m (3 + t) = 3 then [22, 21, 20] else [21, 20]
def sSize (m : Nat → Nat) (t : Nat) : Int32 := if m (3 + t) = 5 then 2 * (nI (m (8 + t)) - 100) else nI (m (8 + t)) - 100
def sSizeL (m : Nat → Nat) (t : Nat) : List Nat := if m (3 + t) = 5 then [14, 13, 10] else [13, 10]
def sAsk (m : Nat → Nat) (t w : Nat) : Int32 := if m (3 + t) < 4 then (if w = 1 then sMark m t else if m (3 + t) = 2 then -(nI (m (8 + t)) + sMark m t) else nI (m (8 + t)) + sMark m t) else if w = 1 then nI t - sSize m t else sSize m t
def sAskL (m : Nat → Nat) (t w : Nat) : List Nat := if m (3 + t) < 4 then (if w = 1 then sMarkL m t else if m (3 + t) = 2 then 12 :: 11 :: 10 :: sMarkL m t else 11 :: 10 :: sMarkL m t) else if w = 1 then 23 :: 20 :: sSizeL m t else sSizeL m t
theorem c_ans {h0 : zH} {th dg : Int32} {m : Nat → Nat} {t w : Nat} (H : zMi h0 15 th dg m) (v : vM m) (ht : t < m 0) (hw : w < 2) : cAns h0 t 14 0 (nI w) (sAsk m t w) (sAskL m t w) := by
  have vt := (v.2.2.2.2 t ht).1
  have g10 : ∀ n lev, lev < 12 → cGive h0 t (n + 1) 10 lev (nI (m (8 + t))) [10] := fun n lev hv => cg10 H v ht hv
  have g20 : ∀ n lev, lev < 12 → cGive h0 t (n + 1) 20 lev (nI t) [20] := fun n lev hv => cg20 hv
  have g21 : ∀ n lev, lev < 11 → cGive h0 t (n + 2) 21 lev (nI t + nI (m (13 + t))) [21, 20] := fun n lev hv => cg21 H v ht (g20 n (lev + 1) (by omega)) (by omega)
  have mark : ∀ n lev, lev < 10 → m (3 + t) < 4 → cAns h0 t (n + 3) lev 1 (sMark m t) (sMarkL m t) := by
    intro n lev hv h4
    rcases (show m (3 + t) = 1 ∨ m (3 + t) = 2 ∨ m (3 + t) = 3 by omega) with e | e | e
    · have : cAns h0 t (n + 3) lev 1 (nI t + nI (m (13 + t))) [21, 20] := ca H v ht (body := 21) (fun h => by rw [e]; exact bf11 h) (g21 (n + 1) lev (by omega))
      unfold sMark sMarkL
      rw [e]
      exact this
    · have : cAns h0 t (n + 3) lev 1 (2 * (nI t + nI (m (13 + t)))) [24, 21, 20] := ca H v ht (body := 24) (fun h => by rw [e]; exact bf21 h) (cg24 (g21 n (lev + 1) (by omega)) (by omega))
      unfold sMark sMarkL
      rw [e]
      exact this
    · have : cAns h0 t (n + 3) lev 1 (nI t + nI (m (13 + t)) - 1000) [22, 21, 20] := ca H v ht (body := 22) (fun h => by rw [e]; exact bf31 h) (cg22 (g21 n (lev + 1) (by omega)) (by omega))
      unfold sMark sMarkL
      rw [e]
      exact this
  have size : ∀ n lev, lev < 10 → ¬ m (3 + t) < 4 → cAns h0 t (n + 3) lev 0 (sSize m t) (sSizeL m t) := by
    intro n lev hv h4
    rcases (show m (3 + t) = 4 ∨ m (3 + t) = 5 by omega) with e | e
    · have : cAns h0 t (n + 3) lev 0 (nI (m (8 + t)) - 100) [13, 10] := ca H v ht (body := 13) (fun h => by rw [e]; exact bf40 h) (cg13 (g10 (n + 1) (lev + 1) (by omega)) (by omega))
      unfold sSize sSizeL
      rw [e]
      exact this
    · have : cAns h0 t (n + 3) lev 0 (2 * (nI (m (8 + t)) - 100)) [14, 13, 10] := ca H v ht (body := 14) (fun h => by rw [e]; exact bf50 h) (cg14 (cg13 (g10 n (lev + 2) (by omega)) (by omega)) (by omega))
      unfold sSize sSizeL
      rw [e]
      exact this
  unfold sAsk sAskL
  by_cases h4 : m (3 + t) < 4
  · rw [if_pos h4, if_pos h4]
    rcases (show w = 0 ∨ w = 1 by omega) with rfl | rfl
    · rw [if_neg (show ¬ (0 : Nat) = 1 by decide), if_neg (show ¬ (0 : Nat) = 1 by decide)]
      have g11 : ∀ n lev, lev < 8 → cGive h0 t (n + 4) 11 lev (nI (m (8 + t)) + sMark m t) (11 :: ([10] ++ sMarkL m t)) := fun n lev hv => cg11 (g10 (n + 2) (lev + 1) (by omega)) (mark n (lev + 1) (by omega) h4) (by omega)
      by_cases e : m (3 + t) = 2
      · rw [if_pos e, if_pos e]
        exact ca H v ht (body := 12) (fun h => by rw [e]; exact bf20 h) (cg12 (g11 9 1 (by omega)) (by omega))
      · rw [if_neg e, if_neg e]
        refine ca H v ht (body := 11) (fun h => ?_) (g11 10 0 (by omega))
        rcases (show m (3 + t) = 1 ∨ m (3 + t) = 3 by omega) with e | e
        · rw [e]; exact bf10 h
        · rw [e]; exact bf30 h
    · rw [if_pos (show (1 : Nat) = 1 from rfl), if_pos (show (1 : Nat) = 1 from rfl)]
      exact mark 11 0 (by omega) h4
  · rw [if_neg h4, if_neg h4]
    rcases (show w = 0 ∨ w = 1 by omega) with rfl | rfl
    · rw [if_neg (show ¬ (0 : Nat) = 1 by decide), if_neg (show ¬ (0 : Nat) = 1 by decide)]
      exact size 11 0 (by omega) h4
    · rw [if_pos (show (1 : Nat) = 1 from rfl), if_pos (show (1 : Nat) = 1 from rfl)]
      refine ca H v ht (body := 23) (fun h => ?_) (cg23 (g20 12 1 (by omega)) (size 10 1 (by omega) h4) (by omega))
      rcases (show m (3 + t) = 4 ∨ m (3 + t) = 5 by omega) with e | e
      · rw [e]; exact bf41 h
      · rw [e]; exact bf51 h
/-! the reference's trace -/
section ASKR
variable {fa st ac sz dg : Int32} {m : Nat → Nat} {h0 : zH}
def rQ (fa st ac sz : Int32) (h0 h : zH) (l : List Nat) : Prop := iP h fa st ac sz (nI l.length) ∧ l.length ≤ 16 ∧ (∃ g : Nat → Int32, h[252]? = some (.inl (0, 16, .inl g)) ∧ ∀ i x, l[i]? = some x → g i = nI x) ∧ ∀ j, j ≠ 241 → j ≠ 252 → h[j]? = h0[j]?
theorem rQ.mo {h : zH} {l : List Nat} (Q : rQ fa st ac sz h0 h l) (H : zMo h0 245 dg m) : zMo h 245 dg m := H.keep (Q.2.2.2 _ (by omega) (by omega))
theorem r_dig {h : zH} {l : List Nat} (Q : rQ fa st ac sz h0 h l) (hl : l.length < 16) {u a : Int64} {d n : Nat} (hu : ¬ lg_cmp u 0 ≤ 0) (hz : ¬ u = 0) (hd : Int64.toInt32 (a / u) = nI d) : ∃ h', f_X8_leave_b24 (n + 1) 241 u a h = f_X8_leave_b24 n 241 (u / 100) (a - a / u * u) h' ∧ rQ fa st ac sz h0 h' (l ++ [d]) := by
  obtain ⟨P, hk, ⟨g, hg, hr⟩, F⟩ := Q
  have z1 : zS h 0 252 (nI l.length) (nI d) = some (h.set 252 (.inl (0, 16, .inl (upd g l.length (nI d))))) := zS_of hg hl (by omega)
  have P1 : iP (h.set 252 (.inl (0, 16, .inl (upd g l.length (nI d))))) fa st ac sz (nI l.length) := P.keep (zset_ne (by omega))
  obtain ⟨x2, e2, P2⟩ := P1.p15 (nI (l.length + 1))
  refine ⟨(h.set 252 (.inl (0, 16, .inl (upd g l.length (nI d))))).set 241 x2, ?_, ?_, by rw [List.length_append]; exact hl, ⟨upd g l.length (nI d), ?_, zapp hr⟩, fun j a b => (zset_ne a).trans ((zset_ne b).trans (F j a b))⟩
  · rw [e_X8_leave_b24, if_neg hu, P.r14, Option.bind_some, P.i15, Option.bind_some, if_neg hz, hd, z1, Option.bind_some, if_neg hz, zLet_eq, P1.i15, Option.bind_some, nI_1, e2, Option.bind_some, if_neg (by decide), zLet_eq]
  · rw [List.length_append]
    exact P2
  · rw [zset_ne (by omega)]
    exact zset_eq hg
theorem r_leave2 {h : zH} {l : List Nat} (Q : rQ fa st ac sz h0 h l) (hl : l.length + 2 ≤ 16) {c : Int64} {x y : Nat} (q0 : ¬ 0 < lg_cmp (1 * 100) c) (q1 : 0 < lg_cmp (1 * 100 * 100) c) (d1 : Int64.toInt32 (c / (1 * 100)) = nI x) (d2 : Int64.toInt32 ((c - c / (1 * 100) * (1 * 100)) / (1 * 100 / 100)) = nI y) : ∃ h', f_X8_leave 241 c h = some h' ∧ rQ fa st ac sz h0 h' (l ++ [x, y]) := by
  unfold f_X8_leave zF
  rw [e_X8_leave_b2, if_neg q0, zLet_eq, e_X8_leave_b2, if_pos q1]
  obtain ⟨h1, e1, Q1⟩ := r_dig Q (by omega) (u := 1 * 100) (a := c) (d := x) (n := 4999) (by decide) (by decide) d1
  obtain ⟨h2, e2, Q2⟩ := r_dig Q1 (by rw [List.length_append]; show l.length + 1 < 16; omega) (u := 1 * 100 / 100) (a := c - c / (1 * 100) * (1 * 100)) (d := y) (n := 4998) (by decide) (by decide) d2
  refine ⟨h2, (e1.trans e2).trans ?_, by rw [List.append_assoc] at Q2; exact Q2⟩
  rw [e_X8_leave_b24, if_pos (by decide)]
theorem r_leave3 {h : zH} {l : List Nat} (Q : rQ fa st ac sz h0 h l) (hl : l.length + 3 ≤ 16) {c : Int64} {x y z : Nat} (q0 : ¬ 0 < lg_cmp (1 * 100) c) (q1 : ¬ 0 < lg_cmp (1 * 100 * 100) c) (q2 : 0 < lg_cmp (1 * 100 * 100 * 100) c) (d1 : Int64.toInt32 (c / (1 * 100 * 100)) = nI x) (d2 : Int64.toInt32 ((c - c / (1 * 100 * 100) * (1 * 100 * 100)) / (1 * 100 * 100 / 100)) = nI y) (d3 : Int64.toInt32 (((c - c / (1 * 100 * 100) * (1 * 100 * 100)) - (c - c / (1 * 100 * 100) * (1 * 100 * 100)) / (1 * 100 * 100 / 100) * (1 * 100 * 100 / 100)) / (1 * 100 * 100 / 100 / 100)) = nI z) : ∃ h', f_X8_leave 241 c h = some h' ∧ rQ fa st ac sz h0 h' (l ++ [x, y, z]) := by
  unfold f_X8_leave zF
  rw [e_X8_leave_b2, if_neg q0, zLet_eq, e_X8_leave_b2, if_neg q1, zLet_eq, e_X8_leave_b2, if_pos q2]
  obtain ⟨h1, e1, Q1⟩ := r_dig Q (by omega) (u := 1 * 100 * 100) (a := c) (d := x) (n := 4999) (by decide) (by decide) d1
  obtain ⟨h2, e2, Q2⟩ := r_dig Q1 (by rw [List.length_append]; show l.length + 1 < 16; omega) (u := 1 * 100 * 100 / 100) (d := y) (n := 4998) (by decide) (by decide) d2
  obtain ⟨h3, e3, Q3⟩ := r_dig Q2 (by rw [List.length_append, List.length_append]; show l.length + 1 + 1 < 16; omega) (u := 1 * 100 * 100 / 100 / 100) (d := z) (n := 4997) (by decide) (by decide) d3
  refine ⟨h3, (e1.trans (e2.trans e3)).trans ?_, by rw [List.append_assoc, List.append_assoc] at Q3; exact Q3⟩
  rw [e_X8_leave_b24, if_pos (by decide)]
theorem r_mark {h : zH} {l : List Nat} (Q : rQ fa st ac sz h0 h l) (hl : l.length + 3 ≤ 16) (H : zMo h0 245 dg m) (v : vM m) {t : Nat} (ht : t < m 0) : ∃ h', f_X8_mark 241 (nI t) h = some (sMark m t, h') ∧ rQ fa st ac sz h0 h' (l ++ sMarkL m t) := by
  have vt := (v.2.2.2.2 t ht).1
  unfold f_X8_mark f_X8_mark_b47
  rw [Q.1.r4, Option.bind_some, (Q.mo H).so v ht, Option.bind_some, Option.bind_some, (Q.mo H).de v ht, Option.bind_some, zLet_eq, Q.1.k]
  simp only [Option.bind_some]
  unfold sMark sMarkL
  by_cases e2 : m (3 + t) = 2
  · obtain ⟨h1, e1, Q1⟩ := r_leave3 Q hl (c := 242120) (x := 24) (y := 21) (z := 20) (by decide) (by decide) (by decide) (by decide) (by decide) (by decide)
    rw [if_pos (by rw [e2]; rfl), if_pos e2, if_pos e2, e1, Option.bind_some, if_pos (by rw [e2]; rfl)]
    exact ⟨h1, rfl, Q1⟩
  · rw [if_neg (zne2 e2 (by omega)), if_neg e2, if_neg e2]
    by_cases e3 : m (3 + t) = 3
    · obtain ⟨h1, e1, Q1⟩ := r_leave3 Q hl (c := 222120) (x := 22) (y := 21) (z := 20) (by decide) (by decide) (by decide) (by decide) (by decide) (by decide)
      rw [if_pos (by rw [e3]; rfl), if_pos e3, if_pos e3, e1, Option.bind_some, if_neg (zne2 e2 (by omega)), if_pos (by rw [e3]; rfl)]
      exact ⟨h1, rfl, Q1⟩
    · obtain ⟨h1, e1, Q1⟩ := r_leave2 Q (by omega) (c := 2120) (x := 21) (y := 20) (by decide) (by decide) (by decide) (by decide)
      rw [if_neg (zne3 e3 (by omega)), if_neg e3, if_neg e3, e1, Option.bind_some, if_neg (zne2 e2 (by omega)), if_neg (zne3 e3 (by omega))]
      exact ⟨h1, rfl, Q1⟩
theorem r_size {h : zH} {l : List Nat} (Q : rQ fa st ac sz h0 h l) (hl : l.length + 3 ≤ 16) (H : zMo h0 245 dg m) (v : vM m) {t : Nat} (ht : t < m 0) : ∃ h', f_X8_sizeOf 241 (nI t) h = some (sSize m t, h') ∧ rQ fa st ac sz h0 h' (l ++ sSizeL m t) := by
  have vt := (v.2.2.2.2 t ht).1
  unfold f_X8_sizeOf f_X8_sizeOf_b30 f_X8_sizeOf_b45
  rw [Q.1.r4, Option.bind_some, (Q.mo H).sl v ht, Option.bind_some, zLet_eq, Option.bind_some, (Q.mo H).so v ht, Option.bind_some, Q.1.k]
  simp only [Option.bind_some]
  unfold sSize sSizeL
  by_cases e2 : m (3 + t) = 5
  · obtain ⟨h1, e1, Q1⟩ := r_leave3 Q hl (c := 141310) (x := 14) (y := 13) (z := 10) (by decide) (by decide) (by decide) (by decide) (by decide) (by decide)
    rw [if_pos (by rw [e2]; rfl), if_pos e2, if_pos e2, if_neg (show ¬ (1 : Int32) = 0 by decide), e1, Option.bind_some, if_neg (show ¬ (1 : Int32) = 0 by decide)]
    exact ⟨h1, rfl, Q1⟩
  · obtain ⟨h1, e1, Q1⟩ := r_leave2 Q (by omega) (c := 1310) (x := 13) (y := 10) (by decide) (by decide) (by decide) (by decide)
    rw [if_neg (show ¬ nI (m (3 + t)) = (5 : Int32) from zne (b := 5) e2 (by omega) (by omega)), if_neg e2, if_neg e2, if_pos trivial, e1, Option.bind_some, if_pos trivial]
    exact ⟨h1, rfl, Q1⟩
theorem r_ans {h : zH} (Q : rQ fa st ac sz h0 h []) (H : zMo h0 245 dg m) (v : vM m) {t w : Nat} (ht : t < m 0) (hw : w < 2) : ∃ h', (if (4 : Int32) ≤ nI (m (3 + t)) then (if nI w = 0 then ((zK h 241 8).bind fun _ => (f_X8_sizeOf 241 (nI t) h).bind fun q8 => some (q8.1, q8.2)) else ((zK h 241 8).bind fun _ => (f_X8_leave 241 (2320 : Int64) h).bind fun q6 => (zK q6 241 8).bind fun _ => (f_X8_sizeOf 241 (nI t) q6).bind fun q7 => some ((nI t - q7.1), q7.2))) else (if nI w = (1 : Int32) then ((zK h 241 8).bind fun _ => (f_X8_mark 241 (nI t) h).bind fun q9 => some (q9.1, q9.2)) else (if nI (m (3 + t)) = (2 : Int32) then (f_X8_ask_b63 241 (nI t) (nI (m (3 + t))) 241 (121110 : Int64) h) else (f_X8_ask_b63 241 (nI t) (nI (m (3 + t))) 241 (1110 : Int64) h)))) = some (sAsk m t w, h') ∧ rQ fa st ac sz h0 h' (sAskL m t w) := by
  have vt := (v.2.2.2.2 t ht).1
  unfold sAsk sAskL
  by_cases h4 : m (3 + t) < 4
  · rw [if_neg (show ¬ (4 : Int32) ≤ nI (m (3 + t)) from nI_ge (b := 4) h4 (by omega)), if_pos h4, if_pos h4]
    rcases (show w = 0 ∨ w = 1 by omega) with rfl | rfl
    · rw [if_neg (show ¬ nI 0 = (1 : Int32) by decide), if_neg (show ¬ (0 : Nat) = 1 by decide), if_neg (show ¬ (0 : Nat) = 1 by decide)]
      unfold f_X8_ask_b63
      rw [Q.1.k]
      simp only [Option.bind_some]
      by_cases e : m (3 + t) = 2
      · obtain ⟨h1, e1, Q1⟩ := r_leave3 Q (by decide) (c := 121110) (x := 12) (y := 11) (z := 10) (by decide) (by decide) (by decide) (by decide) (by decide) (by decide)
        obtain ⟨h2, e2, Q2⟩ := r_mark Q1 (by decide) H v ht
        rw [if_pos (show nI (m (3 + t)) = (2 : Int32) by rw [e]; rfl), if_pos e, if_pos e, e1, Option.bind_some, Q1.1.r4, Option.bind_some, (Q1.mo H).sl v ht, Option.bind_some, Q1.1.k, Option.bind_some, e2, Option.bind_some, zLet_eq, if_pos (show nI (m (3 + t)) = (2 : Int32) by rw [e]; rfl)]
        exact ⟨h2, rfl, Q2⟩
      · obtain ⟨h1, e1, Q1⟩ := r_leave2 Q (by decide) (c := 1110) (x := 11) (y := 10) (by decide) (by decide) (by decide) (by decide)
        obtain ⟨h2, e2, Q2⟩ := r_mark Q1 (by decide) H v ht
        rw [if_neg (zne2 e (by omega)), if_neg e, if_neg e, e1, Option.bind_some, Q1.1.r4, Option.bind_some, (Q1.mo H).sl v ht, Option.bind_some, Q1.1.k, Option.bind_some, e2, Option.bind_some, zLet_eq, if_neg (zne2 e (by omega))]
        exact ⟨h2, rfl, Q2⟩
    · obtain ⟨h2, e2, Q2⟩ := r_mark Q (by decide) H v ht
      rw [if_pos (show nI 1 = (1 : Int32) from rfl), if_pos (show (1 : Nat) = 1 from rfl), if_pos (show (1 : Nat) = 1 from rfl), Q.1.k, Option.bind_some, e2, Option.bind_some]
      exact ⟨h2, rfl, Q2⟩
  · rw [if_pos (show (4 : Int32) ≤ nI (m (3 + t)) from nI_le (a := 4) (by omega) (by omega)), if_neg h4, if_neg h4]
    rcases (show w = 0 ∨ w = 1 by omega) with rfl | rfl
    · obtain ⟨h2, e2, Q2⟩ := r_size Q (by decide) H v ht
      rw [if_pos (show nI 0 = (0 : Int32) from rfl), if_neg (show ¬ (0 : Nat) = 1 by decide), if_neg (show ¬ (0 : Nat) = 1 by decide), Q.1.k, Option.bind_some, e2, Option.bind_some]
      exact ⟨h2, rfl, Q2⟩
    · obtain ⟨h1, e1, Q1⟩ := r_leave2 Q (by decide) (c := 2320) (x := 23) (y := 20) (by decide) (by decide) (by decide) (by decide)
      obtain ⟨h2, e2, Q2⟩ := r_size Q1 (by decide) H v ht
      rw [if_neg (show ¬ nI 1 = (0 : Int32) by decide), if_pos (show (1 : Nat) = 1 from rfl), if_pos (show (1 : Nat) = 1 from rfl), Q.1.k, Option.bind_some, e1, Option.bind_some, Q1.1.k, Option.bind_some, e2, Option.bind_some]
      exact ⟨h2, rfl, Q2⟩
end ASKR
theorem sAskL_le (m : Nat → Nat) (t w : Nat) : (sAskL m t w).length ≤ 16 := by
  unfold sAskL sMarkL sSizeL
  repeat' split
  all_goals decide
theorem M_ask {h : zH} (I : INV h) (a b : Int32) : zBoth (f_X7_ask 0 a b) (f_X8_ask 241 a b) h := by
  have I0 := I
  obtain ⟨fa, st, ac, sz, tr, th, dg, m, O, P, R, T, ⟨N7, N8, G⟩, A, Im, C, S, X, L⟩ := I
  have v := G.1
  by_cases c1 : ∃ t, t < m 0 ∧ a = nI t
  · by_cases c2 : b = 0 ∨ b = 1
    · have c1' := c1
      obtain ⟨t, ht, ra⟩ := c1'
      obtain ⟨w, hw, rb⟩ : ∃ w : Nat, w < 2 ∧ b = nI w := by
        rcases c2 with rfl | rfl
        · exact ⟨0, by omega, rfl⟩
        · exact ⟨1, by omega, rfl⟩
      obtain ⟨hk, f, g, t1, t2, t3, t4⟩ := C
      have p1 : zP h 225 1 1 (.int (nI 0)) = some (h.set 225 (.inr (1, [.ref 226, .int (nI 0)]))) := zP_of t1 (by simp)
      generalize hh : (h.set 225 (.inr (1, [.ref 226, .int (nI 0)])) : zH) = k0 at p1
      have F0 : ∀ j, j ≠ 225 → k0[j]? = h[j]? := fun j hj => by rw [← hh]; exact zset_ne hj
      have Q0 : cQ k0 k0 [] := ⟨⟨by decide, f, by rw [← hh]; exact zset_eq t1, (F0 _ (by omega)).trans t2, fun i x hx => by simp at hx⟩, fun _ _ _ => rfl⟩
      have H0 : zMi k0 15 th dg m := N7.keep (fun j _ _ => F0 j (by omega))
      obtain ⟨h1, e1, ⟨⟨j1, g1, j2, j3, j4⟩, F1⟩⟩ := c_ans H0 v ht hw k0 [] Q0 (by have := sAskL_le m t w; simpa using this)
      have Fa : ∀ j, j ≠ 225 → j ≠ 226 → h1[j]? = h[j]? := fun j a b => (F1 j a b).trans (F0 j a)
      have P1 := P.keep (h' := h1) (Fa _ (by omega) (by omega))
      have N1 : zMo h1 245 dg m := N8.keep (Fa _ (by omega) (by omega))
      obtain ⟨x2, e2, P2⟩ := P1.p15 (nI 0)
      have N2 : zMo (h1.set 241 x2) 245 dg m := N1.keep (zset_ne (by omega))
      have RQ : rQ fa st (nI ac) (nI sz) (h1.set 241 x2) (h1.set 241 x2) [] := ⟨P2, by decide, ⟨g, (zset_ne (by omega)).trans ((Fa _ (by omega) (by omega)).trans t3), fun i x hx => by simp at hx⟩, fun _ _ _ => rfl⟩
      obtain ⟨h3, e3, ⟨P3, k1, ⟨g3, k2, k3⟩, F3⟩⟩ := r_ans RQ N2 v ht hw
      have F13 : ∀ j, j ≠ 241 → j ≠ 252 → h3[j]? = h1[j]? := fun j a b => (F3 j a b).trans (zset_ne a)
      have F : ∀ j, j ≠ 225 → j ≠ 226 → j ≠ 241 → j ≠ 252 → h3[j]? = h[j]? := fun j a b c d => (F13 j c d).trans (Fa j a b)
      refine zBoth.mk (sAsk m t w) (h1 := h1) (h2 := h3) ?_ ?_ ?_
      · unfold f_X7_ask f_X1_begin
        rw [O.k, Option.bind_some, c_isThing O N7 v, Option.bind_some, if_neg (zb_n c1), c_isTwo, Option.bind_some, if_neg (zb_n c2), O.r8, Option.bind_some, O.r2, Option.bind_some, zK_of t1, Option.bind_some, show (0 : Int32) = nI 0 from rfl, p1, Option.bind_some, Q0.k, Option.bind_some, ra, rb]
        have e1' : f_X1_answer (f_X1_give zD) 225 15 (nI t) (nI w) (nI 0) k0 = some (sAsk m t w, h1) := e1
        rw [e1', Option.bind_some, Option.bind_some]
      · unfold f_X8_ask
        rw [P1.k, Option.bind_some, r_isThing P1 N1 v, Option.bind_some, if_neg (zb_n c1), r_isTwo, Option.bind_some, if_neg (zb_n c2), show (0 : Int32) = nI 0 from rfl, e2, Option.bind_some, P2.r4, Option.bind_some, ra, N2.so v ht, Option.bind_some, rb]
        exact e3
      · refine ⟨fa, st, ac, sz, (sAskL m t w).length, th, dg, m, O.keep (F _ (by omega) (by omega) (by omega) (by omega)), P3, R.keep (fun j hj => F j (by omega) (by omega) (by omega) (by omega)), T.keep (fun j hj => F j (by omega) (by omega) (by omega) (by omega)), ⟨N7.keep (fun j _ _ => F j (by omega) (by omega) (by omega) (by omega)), N8.keep (F _ (by omega) (by omega) (by omega) (by omega)), G⟩, A.keep (fun j hj => F j (by omega) (by omega) (by omega) (by omega)), Im.keep (fun j hj => F j (by omega) (by omega) (by omega) (by omega)), ⟨k1, g1, g3, ?_, ?_, k2, fun i hi => ?_⟩, S.keep (fun j hj => F j (by omega) (by omega) (by omega) (by omega)), X.keep (fun j hj => F j (by omega) (by omega) (by omega) (by omega)), L.keep (fun j hj => F j (by omega) (by omega) (by omega) (by omega))⟩
        · exact (F13 _ (by omega) (by omega)).trans j2
        · exact (F13 _ (by omega) (by omega)).trans j3
        · have q := List.getElem?_eq_getElem hi
          rw [j4 i _ q, k3 i _ q]
    · refine zBoth.same (v := (-1000001 : Int32)) I0 ?_ ?_
      · unfold f_X7_ask
        rw [O.k, Option.bind_some, c_isThing O N7 v, Option.bind_some, if_neg (zb_n c1), c_isTwo, Option.bind_some, if_pos (zb_f c2)]
      · unfold f_X8_ask
        rw [P.k, Option.bind_some, r_isThing P N8 v, Option.bind_some, if_neg (zb_n c1), r_isTwo, Option.bind_some, if_pos (zb_f c2)]
  · refine zBoth.same (v := (-1000001 : Int32)) I0 ?_ ?_
    · unfold f_X7_ask
      rw [O.k, Option.bind_some, c_isThing O N7 v, Option.bind_some, if_pos (zb_f c1)]
    · unfold f_X8_ask
      rw [P.k, Option.bind_some, r_isThing P N8 v, Option.bind_some, if_pos (zb_f c1)]
