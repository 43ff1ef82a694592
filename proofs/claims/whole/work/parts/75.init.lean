/-! PURE: the constructors: the class, whole -/
theorem zPart2 {α : Type} {fs : List Value} {l : List zE} {raw : zE} {n k : Nat} {f : Nat → zH → Option zH} {c : Nat → List zE} (new : ∀ h : zH, f h.length (h ++ [raw]) = some (h ++ c h.length)) (hl : l.length + 1 = n) (hk : k < fs.length) (K : zH → Option α) :
    ((zMk ((.inr (7, fs)) :: l) raw).bind fun q => (f q.1 q.2).bind fun q2 => (zP q2 0 7 k (.ref q.1)).bind K) = K ((.inr (7, fs.set k (.ref n))) :: (l ++ c n)) := by
  have e := new ((.inr (7, fs)) :: l)
  rw [List.length_cons, hl] at e
  exact zPart hl e hk K
theorem zP0 {α : Type} {fs : List Value} {l : List zE} {k : Nat} {v : Value} (hk : k < fs.length) (K : zH → Option α) : ((zP ((.inr (7, fs)) :: l) 0 7 k v).bind K) = K ((.inr (7, fs.set k v)) :: l) := by
  have e2 := zP_ap (h := []) (l := l) (ci := 7) (k := k) (fs := fs) (v := v) hk
  have e3 : zP ((.inr (7, fs)) :: l) 0 7 k v = some ((.inr (7, fs.set k v)) :: l) := e2
  rw [e3, Option.bind_some]
def zIm (f : Nat → Int32) : List zE := zRows 1 f ++ zText 13 ++ zNew 15 ++ zNew 22 ++ zActs 29
theorem zIm_len (f : Nat → Int32) : (zIm f).length = 198 := by
  unfold zIm
  rw [List.length_append, List.length_append, List.length_append, List.length_append, zActs_len]
  rfl
def zHi : List zE := zSeer 200 ++ zLayer 209 ++ zAsk 225
theorem zHi_len : zHi.length = 27 := rfl
def zO7 : zE := .inr (7, [.ref 1, .ref 13, .ref 15, .ref 22, .ref 29, .ref 199, .ref 200, .ref 209, .ref 225, .int 0, .int 0])
theorem im7 {l : List zE} {X : zH} (len : l.length = 198) (hX : X = (zO7 :: l) ++ ((.inl (2, 2, .inr (zRef 227 0))) :: zHi)) : ((zR X 0 7 5).bind fun v29 => (zMk X (.inr (3, [.int 0, .int 0, .int 0, .int 0, .int 0, .int 0, .null, .null, .null, .null, .null, .null]))).bind fun q30 => (f_X3_init q30.1 q30.2).bind fun q31 => (zK q31 q30.1 3).bind fun _ => (zSr q31 2 v29 (0 : Int32) q30.1).bind fun h32 => (zR h32 0 7 5).bind fun v33 => (zMk h32 (.inr (3, [.int 0, .int 0, .int 0, .int 0, .int 0, .int 0, .null, .null, .null, .null, .null, .null]))).bind fun q34 => (f_X3_init q34.1 q34.2).bind fun q35 => (zK q35 q34.1 3).bind fun _ => (zSr q35 2 v33 (1 : Int32) q34.1).bind fun h36 => some h36) = some (((zO7 :: l) ++ ((.inl (2, 2, .inr (zRef 227 2))) :: zHi)) ++ (zNew 227 ++ zNew 234)) := by
  subst hX
  have lo : (zO7 :: l).length = 199 := by rw [List.length_cons, len]
  have at0 : ∀ g : List zE, ((zO7 :: l) ++ g)[0]? = some zO7 := fun g => rfl
  have a1 := zap_at (h := zO7 :: l) (l := (.inl (2, 2, .inr (zRef 227 0))) :: zHi) (k := 0)
  rw [lo] at a1
  have len1 : ((zO7 :: l) ++ ((.inl (2, 2, .inr (zRef 227 0)) : zE) :: zHi)).length = 227 + 7 * 0 := by rw [List.length_append, lo, List.length_cons, zHi_len]
  refine (zStep (k := 0) (ci := 7) (fi := 5) (N := 2) (r := 227) (o := 0) (a := 199) (at0 _) rfl a1 (by omega) (by omega) len1 rfl (by rw [len1]; omega) _).trans ?_
  have s1 : ((((zO7 :: l) ++ ((.inl (2, 2, .inr (zRef 227 0))) :: zHi)) ++ zNew (227 + 7 * 0)).set 199 (.inl (2, 2, .inr (zRef 227 (0 + 1))))) = (zO7 :: l) ++ (((.inl (2, 2, .inr (zRef 227 1))) :: zHi) ++ zNew 227) := by
    rw [List.append_assoc, List.set_append_right _ _ (by omega), lo]
    rfl
  rw [s1]
  have a2 := zap_at (h := zO7 :: l) (l := ((.inl (2, 2, .inr (zRef 227 1))) :: zHi) ++ zNew 227) (k := 0)
  rw [lo] at a2
  have len2 : ((zO7 :: l) ++ (((.inl (2, 2, .inr (zRef 227 1)) : zE) :: zHi) ++ zNew 227)).length = 227 + 7 * 1 := by rw [List.length_append, lo, List.length_append, List.length_cons, zHi_len, zNew_len]
  refine (zStep (k := 1) (ci := 7) (fi := 5) (N := 2) (r := 227) (o := 0) (a := 199) (at0 _) rfl a2 (by omega) (by omega) len2 rfl (by rw [len2]; omega) _).trans ?_
  congr 1
  rw [List.append_assoc, List.set_append_right _ _ (by omega), lo]
  simp [List.append_assoc]
theorem init7 : ∃ f : Nat → Int32, (∀ i, i < 8 → f i = -1) ∧ f_X7_init 0 [.inr (7, [.null, .null, .null, .null, .null, .null, .null, .null, .null, .int 0, .int 0])] = some (((zO7 :: zIm f) ++ ((.inl (2, 2, .inr (zRef 227 2))) :: zHi)) ++ (zNew 227 ++ zNew 234)) := by
  obtain ⟨f, hf, e⟩ := new_rows [.inr (7, [.null, .null, .null, .null, .null, .null, .null, .null, .null, .int 0, .int 0])]
  refine ⟨f, hf, ?_⟩
  unfold f_X7_init
  refine (zPart (n := 1) (l := []) (c := zRows 1 f) (f := f_X4_init) rfl e (by decide) _).trans ?_
  refine (zPart2 (n := 13) (l := [] ++ zRows 1 f) (c := zText) (f := f_X6_init) new_text rfl (by decide) _).trans ?_
  refine (zPart2 (n := 15) (l := [] ++ zRows 1 f ++ zText 13) (c := zNew) (f := f_X3_init) new_mine rfl (by decide) _).trans ?_
  refine (zPart2 (n := 22) (l := [] ++ zRows 1 f ++ zText 13 ++ zNew 15) (c := zNew) (f := f_X3_init) new_mine rfl (by decide) _).trans ?_
  refine (zPart2 (n := 29) (l := [] ++ zRows 1 f ++ zText 13 ++ zNew 15 ++ zNew 22) (c := zActs) (f := f_X0_init) new_acts rfl (by decide) _).trans ?_
  have i0 : [] ++ zRows 1 f ++ zText 13 ++ zNew 15 ++ zNew 22 ++ zActs 29 = zIm f := rfl
  rw [i0]
  have len := zIm_len f
  generalize zIm f = l at len
  have g0 : (fun _ => none : Nat → Option Nat) = zRef 227 0 := by
    funext i
    unfold zRef
    rw [if_neg (by omega)]
  rw [g0]
  have m1 : ∀ fs : List Value, zMk ((.inr (7, fs)) :: l) (.inl (2, 2, .inr (zRef 227 0))) = some (199, (.inr (7, fs)) :: (l ++ [.inl (2, 2, .inr (zRef 227 0))])) := by
    intro fs
    unfold zMk
    rw [List.length_cons, len]
    rfl
  rw [m1, Option.bind_some]
  dsimp only
  refine (zP0 (by decide) _).trans ?_
  have l2 : (l ++ [(.inl (2, 2, .inr (zRef 227 0)) : zE)]).length + 1 = 200 := by rw [List.length_append, len]; rfl
  refine (zPart2 (n := 200) (k := 6) (fs := [.ref 1, .ref 13, .ref 15, .ref 22, .ref 29, .ref 199, .null, .null, .null, .int 0, .int 0]) (l := l ++ [.inl (2, 2, .inr (zRef 227 0))]) (c := zSeer) (f := f_X5_init) new_seer l2 (by decide) _).trans ?_
  refine (zPart2 (n := 209) (k := 7) (fs := [.ref 1, .ref 13, .ref 15, .ref 22, .ref 29, .ref 199, .ref 200, .null, .null, .int 0, .int 0]) (l := l ++ [.inl (2, 2, .inr (zRef 227 0))] ++ zSeer 200) (c := zLayer) (f := f_X2_init) new_layer (by rw [List.length_append, List.length_append, len]; rfl) (by decide) _).trans ?_
  refine (zPart2 (n := 225) (k := 8) (fs := [.ref 1, .ref 13, .ref 15, .ref 22, .ref 29, .ref 199, .ref 200, .ref 209, .null, .int 0, .int 0]) (l := l ++ [.inl (2, 2, .inr (zRef 227 0))] ++ zSeer 200 ++ zLayer 209) (c := zAsk) (f := f_X1_init) new_asker (by rw [List.length_append, List.length_append, List.length_append, len]; rfl) (by decide) _).trans ?_
  refine (zP0 (by decide) _).trans ?_
  refine (zP0 (by decide) _).trans ?_
  refine im7 len ?_
  show (((.inr (7, [.ref 1, .ref 13, .ref 15, .ref 22, .ref 29, .ref 199, .ref 200, .ref 209, .ref 225, .int 0, .int 0])) :: (l ++ [.inl (2, 2, .inr (zRef 227 0))] ++ zSeer 200 ++ zLayer 209 ++ zAsk 225)) : zH) = _
  unfold zHi
  simp [zO7, List.append_assoc]
