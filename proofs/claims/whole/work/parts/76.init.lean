/-! PURE: the constructors: the reference -/
theorem init8 (h : zH) : ∃ f : Nat → Int32, (∀ i, i < 8 → f i = -1) ∧ f_X8_init h.length (h ++ [.inr (8, [.null, .null, .null, .int 0, .null, .null, .null, .null, .int 0, .null, .null, .null, .int 0, .int 0, .null, .int 0, .int 0, .int 0, .int 0, .int 0, .int 0, .null, .null, .null])]) = some (h ++ ((.inr (8, [.ref (h.length + 1), .ref (h.length + 2), .ref (h.length + 3), .int 0, .ref (h.length + 4), .ref (h.length + 5), .ref (h.length + 6), .ref (h.length + 7), .int 0, .ref (h.length + 8), .ref (h.length + 9), .ref (h.length + 10), .int 0, .int 0, .ref (h.length + 11), .int 0, .int 0, .int 0, .int 0, .int 0, .int 0, .ref (h.length + 12), .ref (h.length + 13), .ref (h.length + 14)])) :: [zRow 8, (.inl (0, 8, .inl f)), zRow 320, zRow 30, zRow 30, zRow 30, zRow 720, zRow 60, .inl (1, 2, .inl (fun _ => 0)), zRow 100, zRow 16, zRow 5, zRow 5, zRow 5])) := by
  refine ⟨_, set8_v (fun _ => 0) (-1), ?_⟩
  unfold f_X8_init
  rw [zMk_ap, Option.bind_some]
  dsimp only [List.cons_append, List.nil_append]
  rw [zP_ap (by simp), Option.bind_some]
  rw [zMk_ap, Option.bind_some]
  dsimp only [List.cons_append, List.nil_append]
  rw [zP_ap (by simp), Option.bind_some]
  rw [zMk_ap, Option.bind_some]
  dsimp only [List.cons_append, List.nil_append]
  rw [zP_ap (by simp), Option.bind_some]
  rw [zMk_ap, Option.bind_some]
  dsimp only [List.cons_append, List.nil_append]
  rw [zP_ap (by simp), Option.bind_some]
  rw [zMk_ap, Option.bind_some]
  dsimp only [List.cons_append, List.nil_append]
  rw [zP_ap (by simp), Option.bind_some]
  rw [zMk_ap, Option.bind_some]
  dsimp only [List.cons_append, List.nil_append]
  rw [zP_ap (by simp), Option.bind_some]
  rw [zMk_ap, Option.bind_some]
  dsimp only [List.cons_append, List.nil_append]
  rw [zP_ap (by simp), Option.bind_some]
  rw [zMk_ap, Option.bind_some]
  dsimp only [List.cons_append, List.nil_append]
  rw [zP_ap (by simp), Option.bind_some]
  rw [zMk_ap, Option.bind_some]
  dsimp only [List.cons_append, List.nil_append]
  rw [zP_ap (by simp), Option.bind_some]
  rw [zMk_ap, Option.bind_some]
  dsimp only [List.cons_append, List.nil_append]
  rw [zP_ap (by simp), Option.bind_some]
  rw [zMk_ap, Option.bind_some]
  dsimp only [List.cons_append, List.nil_append]
  rw [zP_ap (by simp), Option.bind_some]
  rw [zMk_ap, Option.bind_some]
  dsimp only [List.cons_append, List.nil_append]
  rw [zP_ap (by simp), Option.bind_some]
  rw [zMk_ap, Option.bind_some]
  dsimp only [List.cons_append, List.nil_append]
  rw [zP_ap (by simp), Option.bind_some]
  rw [zMk_ap, Option.bind_some]
  dsimp only [List.cons_append, List.nil_append]
  rw [zP_ap (by simp), Option.bind_some]
  have cells := zap_at (h := h) (l := (.inr (8, [.ref (h.length + 1), .ref (h.length + 2), .ref (h.length + 3), .int 0, .ref (h.length + 4), .ref (h.length + 5), .ref (h.length + 6), .ref (h.length + 7), .int 0, .ref (h.length + 8), .ref (h.length + 9), .ref (h.length + 10), .int 0, .int 0, .ref (h.length + 11), .int 0, .int 0, .int 0, .int 0, .int 0, .int 0, .ref (h.length + 12), .ref (h.length + 13), .ref (h.length + 14)])) :: [zRow 8, zRow 8, zRow 320, zRow 30, zRow 30, zRow 30, zRow 720, zRow 60, .inl (1, 2, .inl (fun _ => 0)), zRow 100, zRow 16, zRow 5, zRow 5, zRow 5]) (k := 2)
  have cell0 := zap_at (h := h) (l := (.inr (8, [.ref (h.length + 1), .ref (h.length + 2), .ref (h.length + 3), .int 0, .ref (h.length + 4), .ref (h.length + 5), .ref (h.length + 6), .ref (h.length + 7), .int 0, .ref (h.length + 8), .ref (h.length + 9), .ref (h.length + 10), .int 0, .int 0, .ref (h.length + 11), .int 0, .int 0, .int 0, .int 0, .int 0, .int 0, .ref (h.length + 12), .ref (h.length + 13), .ref (h.length + 14)])) :: [zRow 8, zRow 8, zRow 320, zRow 30, zRow 30, zRow 30, zRow 720, zRow 60, .inl (1, 2, .inl (fun _ => 0)), zRow 100, zRow 16, zRow 5, zRow 5, zRow 5]) (k := 0)
  refine (set8 (f := fun _ => 0) (k := h.length + 2) (o := h.length) (ci := 8) (fi := 1) (fs := [.ref (h.length + 1), .ref (h.length + 2), .ref (h.length + 3), .int 0, .ref (h.length + 4), .ref (h.length + 5), .ref (h.length + 6), .ref (h.length + 7), .int 0, .ref (h.length + 8), .ref (h.length + 9), .ref (h.length + 10), .int 0, .int 0, .ref (h.length + 11), .int 0, .int 0, .int 0, .int 0, .int 0, .int 0, .ref (h.length + 12), .ref (h.length + 13), .ref (h.length + 14)]) cells cell0 rfl (by omega) (-1) (fun z => some z)).trans ?_
  congr 1
  refine (List.set_append_right _ _ (by omega)).trans ?_
  rw [show h.length + 2 - h.length = 2 by omega]
  rfl
