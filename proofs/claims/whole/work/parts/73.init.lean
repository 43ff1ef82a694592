/-! PURE: the constructors: rows, text, seer, layer, asker -/
theorem set8 {H : zH} {k : Nat} {f : Nat → Int32} (he : H[k]? = some (.inl (0, 8, .inl f))) {o ci fi : Nat} {fs : List Value} (ho : H[o]? = some (.inr (ci, fs))) (hf : fs[fi]? = some (.ref k)) (hok : o ≠ k) (x : Int32) {α : Type} (K : zH → Option α) :
    ((zR H o ci fi).bind fun v7 => (zS H 0 v7 (0 : Int32) x).bind fun h8 => (zR h8 o ci fi).bind fun v9 => (zS h8 0 v9 (1 : Int32) x).bind fun h10 => (zR h10 o ci fi).bind fun v11 => (zS h10 0 v11 (2 : Int32) x).bind fun h12 => (zR h12 o ci fi).bind fun v13 => (zS h12 0 v13 (3 : Int32) x).bind fun h14 => (zR h14 o ci fi).bind fun v15 => (zS h14 0 v15 (4 : Int32) x).bind fun h16 => (zR h16 o ci fi).bind fun v17 => (zS h16 0 v17 (5 : Int32) x).bind fun h18 => (zR h18 o ci fi).bind fun v19 => (zS h18 0 v19 (6 : Int32) x).bind fun h20 => (zR h20 o ci fi).bind fun v21 => (zS h20 0 v21 (7 : Int32) x).bind K) = K (H.set k (.inl (0, 8, .inl (upd (upd (upd (upd (upd (upd (upd (upd f 0 x) 1 x) 2 x) 3 x) 4 x) 5 x) 6 x) 7 x)))) := by
  have step : ∀ (g : Nat → Int32) (G : zH) (i : Nat) (j : Int32), i < 8 → j = nI i → G = H.set k (.inl (0, 8, .inl g)) → ∀ {β : Type} (L : zH → Option β), ((zR G o ci fi).bind fun v => (zS G 0 v j x).bind L) = L (H.set k (.inl (0, 8, .inl (upd g i x)))) := by
    intro g G i j hi hj hG β L
    subst hG
    have o2 : (H.set k (.inl (0, 8, .inl g)))[o]? = some (.inr (ci, fs)) := (zset_ne hok).trans ho
    have e2 : (H.set k (.inl (0, 8, .inl g)))[k]? = some (.inl (0, 8, .inl g)) := zset_eq he
    rw [zR_of o2 hf, Option.bind_some, hj, zS_of e2 hi (by omega), Option.bind_some, List.set_set]
  have h0 : H = H.set k (.inl (0, 8, .inl f)) := by
    apply List.ext_getElem?
    intro i
    by_cases c : i = k
    · subst c
      rw [zset_eq he, he]
    · rw [zset_ne c]
  refine (step f H 0 _ (by omega) rfl h0 _).trans ?_
  refine (step _ _ 1 _ (by omega) rfl rfl _).trans ?_
  refine (step _ _ 2 _ (by omega) rfl rfl _).trans ?_
  refine (step _ _ 3 _ (by omega) rfl rfl _).trans ?_
  refine (step _ _ 4 _ (by omega) rfl rfl _).trans ?_
  refine (step _ _ 5 _ (by omega) rfl rfl _).trans ?_
  refine (step _ _ 6 _ (by omega) rfl rfl _).trans ?_
  exact step _ _ 7 _ (by omega) rfl rfl _
theorem set8_v (f : Nat → Int32) (x : Int32) : ∀ i, i < 8 → upd (upd (upd (upd (upd (upd (upd (upd f 0 x) 1 x) 2 x) 3 x) 4 x) 5 x) 6 x) 7 x i = x := by
  intro i hi
  rcases (show i = 0 ∨ i = 1 ∨ i = 2 ∨ i = 3 ∨ i = 4 ∨ i = 5 ∨ i = 6 ∨ i = 7 by omega) with rfl | rfl | rfl | rfl | rfl | rfl | rfl | rfl <;> simp [upd]
/-- new rows at the place r -/
def zRows (r : Nat) (f : Nat → Int32) : List zE := (.inr (4, [.ref (r + 1), .ref (r + 10), .ref (r + 11)])) :: (.inl (3, 8, .inr (fun i => if i < 8 then some (r + 1 + 1 + i) else none))) :: (List.replicate 8 (zRow 40) ++ [zRow 8, .inl (0, 8, .inl f)])
theorem new_rows (h : zH) : ∃ f : Nat → Int32, (∀ i, i < 8 → f i = -1) ∧ f_X4_init h.length (h ++ [.inr (4, [.null, .null, .null])]) = some (h ++ zRows h.length f) := by
  refine ⟨_, set8_v (fun _ => 0) (-1), ?_⟩
  unfold f_X4_init
  have e1 : zMM (h ++ [.inr (4, [.null, .null, .null])]) 8 40 = some (h.length + 1, h ++ ((.inr (4, [.null, .null, .null])) :: ((.inl (3, 8, .inr (fun i => if i < 8 then some (h.length + 1 + 1 + i) else none)) : zE) :: List.replicate 8 (zRow 40)))) := by
    unfold zMM
    rw [List.length_append, List.append_assoc]
    rfl
  rw [e1, Option.bind_some, zP_ap (by simp), Option.bind_some, zMk_ap, Option.bind_some]
  dsimp only
  rw [List.cons_append, zP_ap (by simp), Option.bind_some, zMk_ap, Option.bind_some]
  dsimp only
  rw [List.cons_append, zP_ap (by simp), Option.bind_some]
  have cells := zap_at (h := h) (l := (.inr (4, [.ref (h.length + 1), .ref (h.length + 10), .ref (h.length + 11)])) :: (.inl (3, 8, .inr (fun i => if i < 8 then some (h.length + 1 + 1 + i) else none))) :: (List.replicate 8 (zRow 40) ++ [zRow 8, zRow 8])) (k := 11)
  have cell0 := zap_at (h := h) (l := (.inr (4, [.ref (h.length + 1), .ref (h.length + 10), .ref (h.length + 11)])) :: (.inl (3, 8, .inr (fun i => if i < 8 then some (h.length + 1 + 1 + i) else none))) :: (List.replicate 8 (zRow 40) ++ [zRow 8, zRow 8])) (k := 0)
  refine (set8 (f := fun _ => 0) (k := h.length + 11) (o := h.length) (ci := 4) (fi := 2) (fs := [.ref (h.length + 1), .ref (h.length + 10), .ref (h.length + 11)]) cells cell0 rfl (by omega) (-1) (fun z => some z)).trans ?_
  congr 1
  refine (List.set_append_right _ _ (by omega)).trans ?_
  rw [show h.length + 11 - h.length = 11 by omega]
  rfl
theorem new_text (h : zH) : f_X6_init h.length (h ++ [.inr (6, [.null, .int 0, .int 0, .int 0])]) = some (h ++ [.inr (6, [.ref (h.length + 1), .int 0, .int 0, .int 0]), zRow 100]) := by
  unfold f_X6_init
  rw [zMk_ap, Option.bind_some]
  dsimp only [List.cons_append, List.nil_append]
  rw [zP_ap (by simp), Option.bind_some, zP_ap (by simp), Option.bind_some, zP_ap (by simp), Option.bind_some, zP_ap (by simp), Option.bind_some]
  rfl
theorem new_asker (h : zH) : f_X1_init h.length (h ++ [.inr (1, [.null, .int 0])]) = some (h ++ [.inr (1, [.ref (h.length + 1), .int 0]), zRow 16]) := by
  unfold f_X1_init
  rw [zMk_ap, Option.bind_some]
  dsimp only [List.cons_append, List.nil_append]
  rw [zP_ap (by simp), Option.bind_some, zP_ap (by simp), Option.bind_some]
  rfl
/-- a new mine behind what stands -/
theorem new_mine2 (h : zH) (l : List zE) {r : Nat} (hr : r = h.length + l.length) : f_X3_init r (h ++ (l ++ [zRaw3])) = some (h ++ (l ++ zNew r)) := by
  have e := new_mine (h ++ l)
  rw [List.length_append, ← hr, List.append_assoc, List.append_assoc] at e
  exact e
theorem new_seer (h : zH) : f_X5_init h.length (h ++ [.inr (5, [.null, .null])]) = some (h ++ ((.inr (5, [.ref (h.length + 1), .ref (h.length + 8)])) :: (zNew (h.length + 1) ++ [zRow 16]))) := by
  unfold f_X5_init
  rw [zMk_ap, Option.bind_some]
  dsimp only
  have e1 : f_X3_init (h.length + ([.inr (5, [.null, .null])] : List zE).length) (h ++ ([.inr (5, [.null, .null])] ++ [(.inr (3, [.int 0, .int 0, .int 0, .int 0, .int 0, .int 0, .null, .null, .null, .null, .null, .null]) : zE)])) = some (h ++ ([.inr (5, [.null, .null])] ++ zNew (h.length + 1))) := new_mine2 h [.inr (5, [.null, .null])] rfl
  rw [e1, Option.bind_some, List.cons_append, zP_ap (by simp), Option.bind_some, zMk_ap, Option.bind_some]
  dsimp only
  rw [List.cons_append, zP_ap (by simp), Option.bind_some]
  rfl
theorem new_layer (h : zH) : f_X2_init h.length (h ++ [.inr (2, [.null, .null, .int 0, .null, .int 0])]) = some (h ++ ((.inr (2, [.ref (h.length + 1), .ref (h.length + 8), .int (-1), .ref (h.length + 15), .int (-1000000)])) :: (zNew (h.length + 1) ++ (zNew (h.length + 8) ++ [zRow 5])))) := by
  unfold f_X2_init
  rw [zMk_ap, Option.bind_some]
  dsimp only
  have e1 : f_X3_init (h.length + ([.inr (2, [.null, .null, .int 0, .null, .int 0])] : List zE).length) (h ++ ([.inr (2, [.null, .null, .int 0, .null, .int 0])] ++ [(.inr (3, [.int 0, .int 0, .int 0, .int 0, .int 0, .int 0, .null, .null, .null, .null, .null, .null]) : zE)])) = some (h ++ ([.inr (2, [.null, .null, .int 0, .null, .int 0])] ++ zNew (h.length + 1))) := new_mine2 h [.inr (2, [.null, .null, .int 0, .null, .int 0])] rfl
  rw [e1, Option.bind_some, List.cons_append, zP_ap (by simp), Option.bind_some, zMk_ap, Option.bind_some]
  dsimp only
  have e8 : f_X3_init (h.length + (((.inr (2, [.ref (h.length + 1), .null, .int 0, .null, .int 0])) :: zNew (h.length + 1)) : List zE).length) (h ++ (((.inr (2, [.ref (h.length + 1), .null, .int 0, .null, .int 0])) :: zNew (h.length + 1)) ++ [(.inr (3, [.int 0, .int 0, .int 0, .int 0, .int 0, .int 0, .null, .null, .null, .null, .null, .null]) : zE)])) = some (h ++ (((.inr (2, [.ref (h.length + 1), .null, .int 0, .null, .int 0])) :: zNew (h.length + 1)) ++ zNew (h.length + 8))) := new_mine2 h ((.inr (2, [.ref (h.length + 1), .null, .int 0, .null, .int 0])) :: zNew (h.length + 1)) rfl
  show ((f_X3_init (h.length + (((.inr (2, [.ref (h.length + 1), .null, .int 0, .null, .int 0])) :: zNew (h.length + 1)) : List zE).length) (h ++ (((.inr (2, [.ref (h.length + 1), .null, .int 0, .null, .int 0])) :: zNew (h.length + 1)) ++ [(.inr (3, [.int 0, .int 0, .int 0, .int 0, .int 0, .int 0, .null, .null, .null, .null, .null, .null]) : zE)]))).bind _) = _
  rw [e8, Option.bind_some, List.cons_append, zP_ap (by simp), Option.bind_some, zP_ap (by simp), Option.bind_some, zMk_ap, Option.bind_some]
  dsimp only
  rw [List.cons_append, zP_ap (by simp), Option.bind_some, zP_ap (by simp), Option.bind_some]
  rfl
