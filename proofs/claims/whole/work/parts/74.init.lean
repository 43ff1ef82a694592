/-! PURE: the constructors: the class's object -/
theorem zNew_len (r : Nat) : (zNew r).length = 7 := rfl
def zActs (r : Nat) : List zE := (.inr (0, [.ref (r + 1), .int 0, .int 0])) :: (.inl (2, 24, .inr (zRef (r + 2) 24))) :: zNews (r + 2) 24
def zSeer (r : Nat) : List zE := (.inr (5, [.ref (r + 1), .ref (r + 8)])) :: (zNew (r + 1) ++ [zRow 16])
def zLayer (r : Nat) : List zE := (.inr (2, [.ref (r + 1), .ref (r + 8), .int (-1), .ref (r + 15), .int (-1000000)])) :: (zNew (r + 1) ++ (zNew (r + 8) ++ [zRow 5]))
def zText (r : Nat) : List zE := [.inr (6, [.ref (r + 1), .int 0, .int 0, .int 0]), zRow 100]
def zAsk (r : Nat) : List zE := [.inr (1, [.ref (r + 1), .int 0]), zRow 16]
theorem zActs_len (r : Nat) : (zActs r).length = 170 := by
  unfold zActs
  rw [List.length_cons, List.length_cons, zNews_len]
theorem zRows_len (r : Nat) (f : Nat → Int32) : (zRows r f).length = 12 := rfl
/-- one part more, made and kept in the object's field -/
theorem zPart {α : Type} {fs : List Value} {l c : List zE} {raw : zE} {n k : Nat} {f : Nat → zH → Option zH} (hl : l.length + 1 = n) (hf : f n (((.inr (7, fs)) :: l) ++ [raw]) = some (((.inr (7, fs)) :: l) ++ c)) (hk : k < fs.length) (K : zH → Option α) :
    ((zMk ((.inr (7, fs)) :: l) raw).bind fun q => (f q.1 q.2).bind fun q2 => (zP q2 0 7 k (.ref q.1)).bind K) = K ((.inr (7, fs.set k (.ref n))) :: (l ++ c)) := by
  have e1 : zMk ((.inr (7, fs)) :: l) raw = some (n, ((.inr (7, fs)) :: l) ++ [raw]) := by
    unfold zMk
    rw [List.length_cons, hl]
  rw [e1, Option.bind_some]
  dsimp only
  rw [hf, Option.bind_some, List.cons_append]
  have e2 := zP_ap (h := []) (l := l ++ c) (ci := 7) (k := k) (fs := fs) (v := .ref n) hk
  have e3 : zP ((.inr (7, fs)) :: (l ++ c)) 0 7 k (.ref n) = some ((.inr (7, fs.set k (.ref n))) :: (l ++ c)) := e2
  rw [e3, Option.bind_some]
/-- all of the class's, but the images -/
def zCls (f : Nat → Int32) : List zE := zRows 1 f ++ (zText 13 ++ (zNew 15 ++ (zNew 22 ++ (zActs 29 ++ ((.inl (2, 2, .inr (zRef 227 0))) :: (zSeer 200 ++ (zLayer 209 ++ zAsk 225)))))))
theorem new_class : ∃ f : Nat → Int32, (∀ i, i < 8 → f i = -1) ∧ ∀ {α : Type} (K : zH → Option α), ((zMk ([] : zH) (.inr (7, [.null, .null, .null, .null, .null, .null, .null, .null, .null, .int 0, .int 0]))).bind fun q2 => (zMk q2.2 (.inr (4, [.null, .null, .null]))).bind fun q1 => (f_X4_init q1.1 q1.2).bind fun q2' => (zP q2' q2.1 7 0 (.ref q1.1)).bind K) = K ((.inr (7, [.ref 1, .null, .null, .null, .null, .null, .null, .null, .null, .int 0, .int 0])) :: zRows 1 f) := by
  obtain ⟨f, hf, e⟩ := new_rows [.inr (7, [.null, .null, .null, .null, .null, .null, .null, .null, .null, .int 0, .int 0])]
  refine ⟨f, hf, fun {α} K => ?_⟩
  have e0 : zMk ([] : zH) (.inr (7, [.null, .null, .null, .null, .null, .null, .null, .null, .null, .int 0, .int 0])) = some (0, [.inr (7, [.null, .null, .null, .null, .null, .null, .null, .null, .null, .int 0, .int 0])]) := rfl
  rw [e0, Option.bind_some]
  exact zPart (n := 1) (l := []) (c := zRows 1 f) (f := f_X4_init) rfl e (by decide) K
