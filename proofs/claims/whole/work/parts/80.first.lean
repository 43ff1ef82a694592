/-! PURE: what stands when both are made -/
theorem zpeel {h B C : zH} {r n r' : Nat} (hn : B.length = n) (hr : r' = r + n) (H : ∀ k, h[r + k]? = (B ++ C)[k]?) : (∀ k, k < n → h[r + k]? = B[k]?) ∧ ∀ k, h[r' + k]? = C[k]? := by
  subst hr
  refine ⟨fun k hk => (H k).trans (List.getElem?_append_left (by omega)), fun k => ?_⟩
  have e := H (n + k)
  rw [List.getElem?_append_right (by omega), hn, Nat.add_sub_cancel_left, ← Nat.add_assoc] at e
  exact e
theorem zpeel1 {h C : zH} {e : zE} {r r' : Nat} (hr : r' = r + 1) (H : ∀ k, h[r + k]? = (e :: C)[k]?) : h[r]? = some e ∧ ∀ k, h[r' + k]? = C[k]? := by
  subst hr
  refine ⟨H 0, fun k => ?_⟩
  have e := H (k + 1)
  rw [show r + (k + 1) = r + 1 + k by omega] at e
  exact e
theorem zNews_at (r : Nat) : ∀ (k i j : Nat), i < k → j < 7 → (zNews r k)[7 * i + j]? = (zNew (r + 7 * i))[j]? := by
  intro k
  induction k with
  | zero => intro i j hi; omega
  | succ k ih =>
    intro i j hi hj
    rw [zNews]
    by_cases c : i = k
    · subst c
      rw [List.getElem?_append_right (by rw [zNews_len]; omega), zNews_len, Nat.add_sub_cancel_left]
    · rw [List.getElem?_append_left (by rw [zNews_len]; omega)]
      exact ih i j (by omega) hj
/-- a new mine stands at r -/
def zNw (h : zH) (r : Nat) : Prop := ∀ j, j < 7 → h[r + j]? = (zNew r)[j]?
theorem zNw.mi {h : zH} {r : Nat} (N : zNw h r) : zMi h r 0 0 (fun _ => 0) := by
  have row : ∀ j, 1 ≤ j → j < 7 → (zNew r)[j]? = some (zRow 5) := by
    intro j h1 h2
    rcases (show j = 1 ∨ j = 2 ∨ j = 3 ∨ j = 4 ∨ j = 5 ∨ j = 6 by omega) with rfl | rfl | rfl | rfl | rfl | rfl <;> rfl
  have ar : ∀ j, 1 ≤ j → j < 7 → ∀ g : Nat → Nat, zAr h (r + j) 0 g := fun j h1 h2 g => ⟨fun _ => 0, (N j h2).trans (row j h1 h2), fun t ht => by omega⟩
  exact ⟨N 0 (by omega), ar 1 (by omega) (by omega) _, ar 2 (by omega) (by omega) _, ar 3 (by omega) (by omega) _, ar 4 (by omega) (by omega) _, ar 5 (by omega) (by omega) _, ar 6 (by omega) (by omega) _⟩
theorem gM0 : gM 0 (fun _ => 0) := ⟨⟨Nat.zero_le _, Nat.zero_le _, Nat.zero_le _, Nat.zero_le _, fun t ht => absurd ht (Nat.not_lt_zero _)⟩, Nat.zero_le _, (zb_f (Nat.lt_irrefl 0)).symm⟩
/-- the reference's cells -/
def zMod (g : Nat → Int32) : zH := (.inr (8, [.ref 242, .ref 243, .ref 244, .int 0, .ref 245, .ref 246, .ref 247, .ref 248, .int 0, .ref 249, .ref 250, .ref 251, .int 0, .int 0, .ref 252, .int 0, .int 0, .int 0, .int 0, .int 0, .int 0, .ref 253, .ref 254, .ref 255])) :: [zRow 8, (.inl (0, 8, .inl g)), zRow 320, zRow 30, zRow 30, zRow 30, zRow 720, zRow 60, .inl (1, 2, .inl (fun _ => 0)), zRow 100, zRow 16, zRow 5, zRow 5, zRow 5]
/-- all cells -/
def zAll (f g : Nat → Int32) : zH := zO7 :: (zRows 1 f ++ (zText 13 ++ (zNew 15 ++ (zNew 22 ++ (zActs 29 ++ ((.inl (2, 2, .inr (zRef 227 2))) :: (zSeer 200 ++ (zLayer 209 ++ (zAsk 225 ++ (zNew 227 ++ (zNew 234 ++ zMod g)))))))))))
theorem INV0 {f g : Nat → Int32} (hf : ∀ i, i < 8 → f i = -1) (hg : ∀ i, i < 8 → g i = -1) : INV (zAll f g) := by
  have H : ∀ k, (zAll f g)[0 + k]? = (zAll f g)[k]? := fun k => by rw [Nat.zero_add]
  generalize hh : zAll f g = h at H
  have H0 : ∀ k, h[0 + k]? = (zAll f g)[k]? := fun k => by rw [hh]; exact H k
  obtain ⟨o, H1⟩ := zpeel1 (r' := 1) rfl H0
  obtain ⟨rows, H2⟩ := zpeel (r' := 13) (zRows_len 1 f) rfl H1
  obtain ⟨text, H3⟩ := zpeel (n := 2) (r' := 15) rfl rfl H2
  obtain ⟨now, H4⟩ := zpeel (r' := 22) (zNew_len 15) rfl H3
  obtain ⟨draft, H5⟩ := zpeel (r' := 29) (zNew_len 22) rfl H4
  obtain ⟨acts, H6⟩ := zpeel (r' := 199) (zActs_len 29) rfl H5
  obtain ⟨im, H7⟩ := zpeel1 (r' := 200) rfl H6
  obtain ⟨seer, H8⟩ := zpeel (n := 9) (r' := 209) rfl rfl H7
  obtain ⟨layer, H9⟩ := zpeel (n := 16) (r' := 225) rfl rfl H8
  obtain ⟨ask, H10⟩ := zpeel (n := 2) (r' := 227) rfl rfl H9
  obtain ⟨im0, H11⟩ := zpeel (r' := 234) (zNew_len 227) rfl H10
  obtain ⟨im1, M⟩ := zpeel (r' := 241) (zNew_len 234) rfl H11
  have A15 : zNw h 15 := now
  have A22 : zNw h 22 := draft
  have A227 : zNw h 227 := im0
  have A234 : zNw h 234 := im1
  have A201 : zNw h 201 := fun j hj => by
    rw [show 201 + j = 200 + (1 + j) by omega, seer (1 + j) (by omega)]
    rcases (show j = 0 ∨ j = 1 ∨ j = 2 ∨ j = 3 ∨ j = 4 ∨ j = 5 ∨ j = 6 by omega) with rfl | rfl | rfl | rfl | rfl | rfl | rfl <;> rfl
  have A210 : zNw h 210 := fun j hj => by
    rw [show 210 + j = 209 + (1 + j) by omega, layer (1 + j) (by omega)]
    rcases (show j = 0 ∨ j = 1 ∨ j = 2 ∨ j = 3 ∨ j = 4 ∨ j = 5 ∨ j = 6 by omega) with rfl | rfl | rfl | rfl | rfl | rfl | rfl <;> rfl
  have A217 : zNw h 217 := fun j hj => by
    rw [show 217 + j = 209 + (8 + j) by omega, layer (8 + j) (by omega)]
    rcases (show j = 0 ∨ j = 1 ∨ j = 2 ∨ j = 3 ∨ j = 4 ∨ j = 5 ∨ j = 6 by omega) with rfl | rfl | rfl | rfl | rfl | rfl | rfl <;> rfl
  have A31 : ∀ k, k < 24 → zNw h (31 + 7 * k) := fun k hk j hj => by
    rw [show 31 + 7 * k + j = 29 + (2 + (7 * k + j)) by omega, acts _ (by omega)]
    unfold zActs
    rw [show 2 + (7 * k + j) = (7 * k + j) + 1 + 1 by omega, List.getElem?_cons_succ, List.getElem?_cons_succ]
    exact zNews_at 31 24 k j hk hj
  have r8 : ∀ r, r < 8 → h[3 + r]? = some (zRow 40) := fun r hr => by
    rw [show 3 + r = 1 + (2 + r) by omega, rows (2 + r) (by omega)]
    rcases (show r = 0 ∨ r = 1 ∨ r = 2 ∨ r = 3 ∨ r = 4 ∨ r = 5 ∨ r = 6 ∨ r = 7 by omega) with rfl | rfl | rfl | rfl | rfl | rfl | rfl | rfl <;> rfl
  refine ⟨0, 0, 0, 0, 0, 0, 0, fun _ => 0, o, ⟨0, 0, 0, 0, 0, M 0⟩, ⟨rows 0 (by omega), ⟨_, rows 1 (by omega), fun r hr => ?_⟩, fun _ _ => 0, fun _ => 0, f, fun _ => 0, fun _ => 0, g, r8, rows 10 (by omega), rows 11 (by omega), M 1, M 2, M 3, fun r hr => ⟨rfl, (hg r hr).trans (hf r hr).symm, Or.inl (hf r hr)⟩⟩, ⟨by omega, 0, 0, fun _ => 0, fun _ => 0, fun _ => 0, text 0 (by omega), text 1 (by omega), M 10, fun i hi => by omega⟩, ⟨A15.mi, ⟨fun _ => 0, M 4, rfl, rfl, rfl, rfl, rfl, fun t ht => absurd ht (Nat.not_lt_zero _)⟩, gM0⟩, ⟨by omega, 0, zRef 31 24, fun _ => 0, fun _ => 0, fun _ => 0, fun _ _ => 0, by omega, acts 0 (by omega), acts 1 (by omega), fun k hk => ?_, M 7, fun k hk => ⟨(A31 k hk).mi, gM0⟩, fun j hj => by omega⟩, ⟨zRef 227 2, fun _ => 0, fun _ => 0, fun _ => 0, fun _ => 0, fun _ _ => 0, im, fun k hk => ?_, M 8, M 9, fun k hk => ⟨?_, gM0, rfl, fun q => absurd (show (0 : Int32) = 1 from q) (by decide)⟩⟩, ⟨by omega, fun _ => 0, fun _ => 0, ask 0 (by omega), ask 1 (by omega), M 11, fun i hi => by omega⟩, ⟨seer 0 (by omega), A201.mi.sh, fun _ => 0, seer 8 (by omega)⟩, ⟨A22.mi.sh, ⟨_, M 5⟩, ⟨_, M 6⟩, ⟨_, M 12⟩, ⟨_, M 13⟩, ⟨_, M 14⟩⟩, ⟨-1, fun _ => 0, 0, 0, fun _ => 0, -1000000, layer 0 (by omega), A210.mi.sh, A217.mi, gM0, layer 15 (by omega), Or.inl rfl⟩⟩
  · show (if r < 8 then some (1 + 1 + 1 + r) else none) = _
    rw [if_pos hr]
  · unfold zRef
    rw [if_pos hk]
  · unfold zRef
    rw [if_pos hk]
  · rcases (show k = 0 ∨ k = 1 by omega) with rfl | rfl
    · exact A227.mi
    · exact A234.mi
/-- both are made -/
theorem zMade : ∃ h : zH, INV h ∧ ∀ {α : Type} (K : Nat → Nat → zH → Option α), ((zMk ([] : zH) (.inr (7, [.null, .null, .null, .null, .null, .null, .null, .null, .null, .int 0, .int 0]))).bind fun q2 => (f_X7_init q2.1 q2.2).bind fun q3 => (zMk q3 (.inr (8, [.null, .null, .null, .int 0, .null, .null, .null, .null, .int 0, .null, .null, .null, .int 0, .int 0, .null, .int 0, .int 0, .int 0, .int 0, .int 0, .int 0, .null, .null, .null]))).bind fun q4 => (f_X8_init q4.1 q4.2).bind fun q5 => K q2.1 q4.1 q5) = K 0 241 h := by
  obtain ⟨f, hf, e7⟩ := init7
  have hlen : ((((zO7 :: zIm f) ++ ((.inl (2, 2, .inr (zRef 227 2)) : zE) :: zHi)) ++ (zNew 227 ++ zNew 234)) : zH).length = 241 := by
    rw [List.length_append, List.length_append, List.length_append, List.length_cons, List.length_cons, zIm_len, zHi_len, zNew_len, zNew_len]
  have hall : ∀ g : Nat → Int32, ((((zO7 :: zIm f) ++ ((.inl (2, 2, .inr (zRef 227 2)) : zE) :: zHi)) ++ (zNew 227 ++ zNew 234)) : zH) ++ zMod g = zAll f g := by
    intro g
    unfold zAll zIm zHi
    simp only [List.append_assoc, List.cons_append]
  generalize ((((zO7 :: zIm f) ++ ((.inl (2, 2, .inr (zRef 227 2)) : zE) :: zHi)) ++ (zNew 227 ++ zNew 234)) : zH) = h7 at e7 hlen hall
  obtain ⟨g, hg, e8⟩ := init8 h7
  rw [hlen] at e8
  refine ⟨zAll f g, INV0 hf hg, fun {α} K => ?_⟩
  have m7 : zMk ([] : zH) (.inr (7, [.null, .null, .null, .null, .null, .null, .null, .null, .null, .int 0, .int 0])) = some (0, [.inr (7, [.null, .null, .null, .null, .null, .null, .null, .null, .null, .int 0, .int 0])]) := rfl
  have m8 : ∀ e : zE, zMk h7 e = some (241, h7 ++ [e]) := fun e => by
    unfold zMk
    rw [hlen]
  rw [m7, Option.bind_some]
  dsimp only
  rw [e7, Option.bind_some, m8, Option.bind_some]
  dsimp only
  have e8' : f_X8_init 241 (h7 ++ [.inr (8, [.null, .null, .null, .int 0, .null, .null, .null, .null, .int 0, .null, .null, .null, .int 0, .int 0, .null, .int 0, .int 0, .int 0, .int 0, .int 0, .int 0, .null, .null, .null])]) = some (h7 ++ zMod g) := e8
  rw [e8', Option.bind_some, hall]
