/-! PURE: the constructors: a new mine -/
def zRow (n : Nat) : zE := .inl (0, n, .inl (fun _ => 0))
/-- a new mine at the place r -/
def zNew (r : Nat) : List zE := [.inr (3, [.int 0, .int 0, .int 0, .int 0, .int 0, .int 0, .ref (r + 1), .ref (r + 2), .ref (r + 3), .ref (r + 4), .ref (r + 5), .ref (r + 6)]), zRow 5, zRow 5, zRow 5, zRow 5, zRow 5, zRow 5]
theorem zap_at {h l : zH} {k : Nat} : (h ++ l)[h.length + k]? = l[k]? := by
  rw [List.getElem?_append_right (by omega)]
  congr 1
  omega
theorem zap_lt {h l : zH} {k : Nat} (hk : k < h.length) : (h ++ l)[k]? = h[k]? := List.getElem?_append_left hk
theorem zap_set {h : zH} {e e' : zE} {l : List zE} : (h ++ e :: l).set h.length e' = h ++ e' :: l := by
  rw [List.set_append_right _ _ (by omega), Nat.sub_self]
  rfl
theorem zP_ap {h : zH} {l : List zE} {ci k : Nat} {fs : List Value} {v : Value} (hk : k < fs.length) : zP (h ++ .inr (ci, fs) :: l) h.length ci k v = some (h ++ .inr (ci, fs.set k v) :: l) := by
  have e : (h ++ (.inr (ci, fs) : zE) :: l)[h.length]? = some (.inr (ci, fs)) := by
    have := zap_at (h := h) (l := (.inr (ci, fs) : zE) :: l) (k := 0)
    exact this
  rw [zP_of e hk, zap_set]
theorem zMk_ap {h : zH} {l : List zE} {e : zE} : zMk (h ++ l) e = some (h.length + l.length, h ++ (l ++ [e])) := by
  unfold zMk
  rw [List.length_append, List.append_assoc]
theorem new_mine (h : zH) : f_X3_init h.length (h ++ [.inr (3, [.int 0, .int 0, .int 0, .int 0, .int 0, .int 0, .null, .null, .null, .null, .null, .null])]) = some (h ++ zNew h.length) := by
  unfold f_X3_init
  rw [zB0, Option.bind_some, zP_ap (by simp), Option.bind_some, zP_ap (by simp), Option.bind_some, zP_ap (by simp), Option.bind_some, zP_ap (by simp), Option.bind_some, zP_ap (by simp), Option.bind_some, zP_ap (by simp), Option.bind_some]
  rw [zMk_ap, Option.bind_some]
  dsimp only [List.cons_append, List.nil_append]
  rw [zP_ap (by simp), Option.bind_some, zMk_ap, Option.bind_some]
  dsimp only [List.cons_append, List.nil_append]
  rw [zP_ap (by simp), Option.bind_some, zMk_ap, Option.bind_some]
  dsimp only [List.cons_append, List.nil_append]
  rw [zP_ap (by simp), Option.bind_some, zMk_ap, Option.bind_some]
  dsimp only [List.cons_append, List.nil_append]
  rw [zP_ap (by simp), Option.bind_some, zMk_ap, Option.bind_some]
  dsimp only [List.cons_append, List.nil_append]
  rw [zP_ap (by simp), Option.bind_some, zMk_ap, Option.bind_some]
  dsimp only [List.cons_append, List.nil_append]
  rw [zP_ap (by simp), Option.bind_some]
  rfl
