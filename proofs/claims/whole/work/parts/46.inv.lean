/-! PURE: what stands between two calls: the class's objects from 0 on, the reference's from 241 on -/
/-- a mine that may stand -/
def gM (th : Int32) (m : Nat → Nat) : Prop := vM m ∧ m 28 ≤ 999 ∧ th = zb (0 < m 2)
theorem gM.b {th : Int32} {m : Nat → Nat} (G : gM th m) : th = 0 ∨ th = 1 := by
  rw [G.2.2]
  unfold zb
  split
  · exact Or.inr rfl
  · exact Or.inl rfl
def iO (h : zH) (fa st : Int32) : Prop := h[0]? = some (.inr (7, [.ref 1, .ref 13, .ref 15, .ref 22, .ref 29, .ref 199, .ref 200, .ref 209, .ref 225, .int fa, .int st]))
def iP (h : zH) (fa st ac sz tr : Int32) : Prop := ∃ p16 p17 p18 p19 p20 : Int32, h[241]? = some (.inr (8, [.ref 242, .ref 243, .ref 244, .int st, .ref 245, .ref 246, .ref 247, .ref 248, .int ac, .ref 249, .ref 250, .ref 251, .int sz, .int fa, .ref 252, .int tr, .int p16, .int p17, .int p18, .int p19, .int p20, .ref 253, .ref 254, .ref 255]))
/-- rows -/
def iR (h : zH) : Prop := h[1]? = some (.inr (4, [.ref 2, .ref 11, .ref 12])) ∧ (∃ G, h[2]? = some (.inl (3, 8, .inr G)) ∧ ∀ r, r < 8 → G r = some (3 + r)) ∧ ∃ (it : Nat → Nat → Int32) (la le ro ls ss : Nat → Int32), (∀ r, r < 8 → h[3 + r]? = some (.inl (0, 40, .inl (it r)))) ∧ h[11]? = some (.inl (0, 8, .inl la)) ∧ h[12]? = some (.inl (0, 8, .inl le)) ∧ h[242]? = some (.inl (0, 8, .inl ls)) ∧ h[243]? = some (.inl (0, 8, .inl ss)) ∧ h[244]? = some (.inl (0, 320, .inl ro)) ∧ ∀ r, r < 8 → ls r = la r ∧ ss r = le r ∧ (le r = -1 ∨ ∃ n, n ≤ 40 ∧ le r = nI n ∧ ∀ i, i < n → it r i = ro (40 * r + i))
/-- the tape -/
def iT (h : zH) (k : Nat) : Prop := k ≤ 100 ∧ ∃ (a1 a2 : Int32) (w : Nat → Nat) (f g : Nat → Int32), h[13]? = some (.inr (6, [.ref 14, .int (nI k), .int a1, .int a2])) ∧ h[14]? = some (.inl (0, 100, .inl f)) ∧ h[251]? = some (.inl (0, 100, .inl g)) ∧ ∀ i, i < k → w i ≤ 255 ∧ f i = nI (w i) ∧ g i = nI (w i)
def iN (h : zH) (th dg : Int32) (m : Nat → Nat) : Prop := zMi h 15 th dg m ∧ zMo h 245 dg m ∧ gM th m
/-- acts -/
def iA (h : zH) (ac : Nat) : Prop := ac ≤ 24 ∧ ∃ (top : Nat) (G : Nat → Option Nat) (pa : Nat → Int32) (at_ ad : Nat → Int32) (am : Nat → Nat → Nat), top < 24 ∧ h[29]? = some (.inr (0, [.ref 30, .int (nI top), .int (nI ac)])) ∧ h[30]? = some (.inl (2, 24, .inr G)) ∧ (∀ k, k < 24 → G k = some (31 + 7 * k)) ∧ h[248]? = some (.inl (0, 720, .inl pa)) ∧ (∀ k, k < 24 → zMi h (31 + 7 * k) (at_ k) (ad k) (am k) ∧ gM (at_ k) (am k)) ∧ ∀ j, j < ac → zAg (fun x => pa (30 * j + x)) (ad ((top + 24 - ac + j) % 24)) (am ((top + 24 - ac + j) % 24))
/-- images -/
def iI (h : zH) : Prop := ∃ (G : Nat → Option Nat) (ia ke : Nat → Int32) (it ig : Nat → Int32) (im : Nat → Nat → Nat), h[199]? = some (.inl (2, 2, .inr G)) ∧ (∀ k, k < 2 → G k = some (227 + 7 * k)) ∧ h[249]? = some (.inl (0, 60, .inl ia)) ∧ h[250]? = some (.inl (1, 2, .inl ke)) ∧ ∀ k, k < 2 → zMi h (227 + 7 * k) (it k) (ig k) (im k) ∧ gM (it k) (im k) ∧ ke k = it k ∧ (it k = 1 → zAg (fun x => ia (30 * k + x)) (ig k) (im k))
/-- the trace -/
def iC (h : zH) (n : Nat) : Prop := n ≤ 16 ∧ ∃ f g : Nat → Int32, h[225]? = some (.inr (1, [.ref 226, .int (nI n)])) ∧ h[226]? = some (.inl (0, 16, .inl f)) ∧ h[252]? = some (.inl (0, 16, .inl g)) ∧ ∀ i, i < n → f i = g i
def iS (h : zH) : Prop := h[200]? = some (.inr (5, [.ref 201, .ref 208])) ∧ zSh h 201 ∧ ∃ f, h[208]? = some (.inl (0, 16, .inl f))
def iX (h : zH) : Prop := zSh h 22 ∧ (∃ f, h[246]? = some (.inl (0, 30, .inl f))) ∧ (∃ f, h[247]? = some (.inl (0, 30, .inl f))) ∧ (∃ f, h[253]? = some (.inl (0, 5, .inl f))) ∧ (∃ f, h[254]? = some (.inl (0, 5, .inl f))) ∧ ∃ f, h[255]? = some (.inl (0, 5, .inl f))
section IKEEP
variable {h h' : zH} {fa st ac' sz' tr' th dg : Int32} {m : Nat → Nat} {k ac n : Nat}
theorem iO.keep (H : iO h fa st) (e : h'[0]? = h[0]?) : iO h' fa st := e.trans H
theorem iP.keep (H : iP h fa st ac' sz' tr') (e : h'[241]? = h[241]?) : iP h' fa st ac' sz' tr' := by
  obtain ⟨a, b, c, d, f, H⟩ := H
  exact ⟨a, b, c, d, f, e.trans H⟩
theorem iR.keep (H : iR h) (e : ∀ j, (1 ≤ j ∧ j ≤ 12) ∨ (242 ≤ j ∧ j ≤ 244) → h'[j]? = h[j]?) : iR h' := by
  obtain ⟨h1, ⟨G, h2, hG⟩, it, la, le, ro, ls, ss, h3, h4, h5, h6, h7, h8, h9⟩ := H
  exact ⟨(e _ (by omega)).trans h1, ⟨G, (e _ (by omega)).trans h2, hG⟩, it, la, le, ro, ls, ss, fun r hr => (e _ (by omega)).trans (h3 r hr), (e _ (by omega)).trans h4, (e _ (by omega)).trans h5, (e _ (by omega)).trans h6, (e _ (by omega)).trans h7, (e _ (by omega)).trans h8, h9⟩
theorem iT.keep (H : iT h k) (e : ∀ j, j = 13 ∨ j = 14 ∨ j = 251 → h'[j]? = h[j]?) : iT h' k := by
  obtain ⟨hk, a1, a2, w, f, g, h1, h2, h3, h4⟩ := H
  exact ⟨hk, a1, a2, w, f, g, (e _ (by omega)).trans h1, (e _ (by omega)).trans h2, (e _ (by omega)).trans h3, h4⟩
theorem iN.keep (H : iN h th dg m) (e : ∀ j, (15 ≤ j ∧ j ≤ 21) ∨ j = 245 → h'[j]? = h[j]?) : iN h' th dg m :=
  ⟨H.1.keep (fun j _ _ => e j (by omega)), H.2.1.keep (e _ (by omega)), H.2.2⟩
theorem iA.keep (H : iA h ac) (e : ∀ j, (29 ≤ j ∧ j ≤ 198) ∨ j = 248 → h'[j]? = h[j]?) : iA h' ac := by
  obtain ⟨hk, top, G, pa, at_, ad, am, h1, h2, h3, h4, h5, h6, h7⟩ := H
  exact ⟨hk, top, G, pa, at_, ad, am, h1, (e _ (by omega)).trans h2, (e _ (by omega)).trans h3, h4, (e _ (by omega)).trans h5, fun k hk => ⟨(h6 k hk).1.keep (fun j _ _ => e j (by omega)), (h6 k hk).2⟩, h7⟩
theorem iI.keep (H : iI h) (e : ∀ j, j = 199 ∨ (227 ≤ j ∧ j ≤ 240) ∨ j = 249 ∨ j = 250 → h'[j]? = h[j]?) : iI h' := by
  obtain ⟨G, ia, ke, it, ig, im, h1, h2, h3, h4, h5⟩ := H
  exact ⟨G, ia, ke, it, ig, im, (e _ (by omega)).trans h1, h2, (e _ (by omega)).trans h3, (e _ (by omega)).trans h4, fun k hk => ⟨(h5 k hk).1.keep (fun j _ _ => e j (by omega)), (h5 k hk).2⟩⟩
theorem iC.keep (H : iC h n) (e : ∀ j, j = 225 ∨ j = 226 ∨ j = 252 → h'[j]? = h[j]?) : iC h' n := by
  obtain ⟨hk, f, g, h1, h2, h3, h4⟩ := H
  exact ⟨hk, f, g, (e _ (by omega)).trans h1, (e _ (by omega)).trans h2, (e _ (by omega)).trans h3, h4⟩
theorem iS.keep (H : iS h) (e : ∀ j, 200 ≤ j ∧ j ≤ 208 → h'[j]? = h[j]?) : iS h' := by
  obtain ⟨h1, h2, f, h3⟩ := H
  exact ⟨(e _ (by omega)).trans h1, h2.keep (fun j _ _ => e j (by omega)), f, (e _ (by omega)).trans h3⟩
theorem iX.keep (H : iX h) (e : ∀ j, (22 ≤ j ∧ j ≤ 28) ∨ j = 246 ∨ j = 247 ∨ (253 ≤ j ∧ j ≤ 255) → h'[j]? = h[j]?) : iX h' := by
  obtain ⟨h1, ⟨f1, h2⟩, ⟨f2, h3⟩, ⟨f3, h4⟩, ⟨f4, h5⟩, ⟨f5, h6⟩⟩ := H
  exact ⟨h1.keep (fun j _ _ => e j (by omega)), ⟨f1, (e _ (by omega)).trans h2⟩, ⟨f2, (e _ (by omega)).trans h3⟩, ⟨f3, (e _ (by omega)).trans h4⟩, ⟨f4, (e _ (by omega)).trans h5⟩, ⟨f5, (e _ (by omega)).trans h6⟩⟩
end IKEEP
/-! fields -/
section IFLD
variable {h : zH} {fa st ac sz tr : Int32}
theorem iO.k (H : iO h fa st) : zK h 0 7 = some () := zK_of H
theorem iO.r0 (H : iO h fa st) : zR h 0 7 0 = some 1 := zR_of H rfl
theorem iO.r1 (H : iO h fa st) : zR h 0 7 1 = some 13 := zR_of H rfl
theorem iO.r2 (H : iO h fa st) : zR h 0 7 2 = some 15 := zR_of H rfl
theorem iO.r3 (H : iO h fa st) : zR h 0 7 3 = some 22 := zR_of H rfl
theorem iO.r4 (H : iO h fa st) : zR h 0 7 4 = some 29 := zR_of H rfl
theorem iO.r5 (H : iO h fa st) : zR h 0 7 5 = some 199 := zR_of H rfl
theorem iO.r6 (H : iO h fa st) : zR h 0 7 6 = some 200 := zR_of H rfl
theorem iO.r7 (H : iO h fa st) : zR h 0 7 7 = some 209 := zR_of H rfl
theorem iO.r8 (H : iO h fa st) : zR h 0 7 8 = some 225 := zR_of H rfl
theorem iO.i9 (H : iO h fa st) : zI h 0 7 9 = some fa := zI_of H rfl
theorem iO.i10 (H : iO h fa st) : zI h 0 7 10 = some st := zI_of H rfl
theorem iP.k (H : iP h fa st ac sz tr) : zK h 241 8 = some () := by
  obtain ⟨a, b, c, d, f, H⟩ := H
  exact zK_of H
theorem iP.r (H : iP h fa st ac sz tr) : zR h 241 8 0 = some 242 ∧ zR h 241 8 1 = some 243 ∧ zR h 241 8 2 = some 244 ∧ zR h 241 8 4 = some 245 ∧ zR h 241 8 5 = some 246 ∧ zR h 241 8 6 = some 247 ∧ zR h 241 8 7 = some 248 ∧ zR h 241 8 9 = some 249 ∧ zR h 241 8 10 = some 250 ∧ zR h 241 8 11 = some 251 ∧ zR h 241 8 14 = some 252 ∧ zR h 241 8 21 = some 253 ∧ zR h 241 8 22 = some 254 ∧ zR h 241 8 23 = some 255 := by
  obtain ⟨a, b, c, d, f, H⟩ := H
  exact ⟨zR_of H rfl, zR_of H rfl, zR_of H rfl, zR_of H rfl, zR_of H rfl, zR_of H rfl, zR_of H rfl, zR_of H rfl, zR_of H rfl, zR_of H rfl, zR_of H rfl, zR_of H rfl, zR_of H rfl, zR_of H rfl⟩
theorem iP.r0 (H : iP h fa st ac sz tr) : zR h 241 8 0 = some 242 := H.r.1
theorem iP.r1 (H : iP h fa st ac sz tr) : zR h 241 8 1 = some 243 := H.r.2.1
theorem iP.r2 (H : iP h fa st ac sz tr) : zR h 241 8 2 = some 244 := H.r.2.2.1
theorem iP.r4 (H : iP h fa st ac sz tr) : zR h 241 8 4 = some 245 := H.r.2.2.2.1
theorem iP.r5 (H : iP h fa st ac sz tr) : zR h 241 8 5 = some 246 := H.r.2.2.2.2.1
theorem iP.r6 (H : iP h fa st ac sz tr) : zR h 241 8 6 = some 247 := H.r.2.2.2.2.2.1
theorem iP.r7 (H : iP h fa st ac sz tr) : zR h 241 8 7 = some 248 := H.r.2.2.2.2.2.2.1
theorem iP.r9 (H : iP h fa st ac sz tr) : zR h 241 8 9 = some 249 := H.r.2.2.2.2.2.2.2.1
theorem iP.r10 (H : iP h fa st ac sz tr) : zR h 241 8 10 = some 250 := H.r.2.2.2.2.2.2.2.2.1
theorem iP.r11 (H : iP h fa st ac sz tr) : zR h 241 8 11 = some 251 := H.r.2.2.2.2.2.2.2.2.2.1
theorem iP.r14 (H : iP h fa st ac sz tr) : zR h 241 8 14 = some 252 := H.r.2.2.2.2.2.2.2.2.2.2.1
theorem iP.r21 (H : iP h fa st ac sz tr) : zR h 241 8 21 = some 253 := H.r.2.2.2.2.2.2.2.2.2.2.2.1
theorem iP.r22 (H : iP h fa st ac sz tr) : zR h 241 8 22 = some 254 := H.r.2.2.2.2.2.2.2.2.2.2.2.2.1
theorem iP.r23 (H : iP h fa st ac sz tr) : zR h 241 8 23 = some 255 := H.r.2.2.2.2.2.2.2.2.2.2.2.2.2
theorem iP.i3 (H : iP h fa st ac sz tr) : zI h 241 8 3 = some st := by
  obtain ⟨a, b, c, d, f, H⟩ := H
  exact zI_of H rfl
theorem iP.i8 (H : iP h fa st ac sz tr) : zI h 241 8 8 = some ac := by
  obtain ⟨a, b, c, d, f, H⟩ := H
  exact zI_of H rfl
theorem iP.i12 (H : iP h fa st ac sz tr) : zI h 241 8 12 = some sz := by
  obtain ⟨a, b, c, d, f, H⟩ := H
  exact zI_of H rfl
theorem iP.i13 (H : iP h fa st ac sz tr) : zI h 241 8 13 = some fa := by
  obtain ⟨a, b, c, d, f, H⟩ := H
  exact zI_of H rfl
theorem iP.i15 (H : iP h fa st ac sz tr) : zI h 241 8 15 = some tr := by
  obtain ⟨a, b, c, d, f, H⟩ := H
  exact zI_of H rfl
/-- a field of the class's object is written -/
theorem iO.p9 (H : iO h fa st) (x : Int32) : ∃ e, zP h 0 7 9 (.int x) = some (h.set 0 e) ∧ iO (h.set 0 e) x st := ⟨_, zP_of H (by simp), zset_eq H⟩
theorem iO.p10 (H : iO h fa st) (x : Int32) : ∃ e, zP h 0 7 10 (.int x) = some (h.set 0 e) ∧ iO (h.set 0 e) fa x := ⟨_, zP_of H (by simp), zset_eq H⟩
theorem iP.p3 (H : iP h fa st ac sz tr) (x : Int32) : ∃ e, zP h 241 8 3 (.int x) = some (h.set 241 e) ∧ iP (h.set 241 e) fa x ac sz tr := by
  obtain ⟨a, b, c, d, f, H⟩ := H
  exact ⟨_, zP_of H (by simp), a, b, c, d, f, zset_eq H⟩
theorem iP.p8 (H : iP h fa st ac sz tr) (x : Int32) : ∃ e, zP h 241 8 8 (.int x) = some (h.set 241 e) ∧ iP (h.set 241 e) fa st x sz tr := by
  obtain ⟨a, b, c, d, f, H⟩ := H
  exact ⟨_, zP_of H (by simp), a, b, c, d, f, zset_eq H⟩
theorem iP.p12 (H : iP h fa st ac sz tr) (x : Int32) : ∃ e, zP h 241 8 12 (.int x) = some (h.set 241 e) ∧ iP (h.set 241 e) fa st ac x tr := by
  obtain ⟨a, b, c, d, f, H⟩ := H
  exact ⟨_, zP_of H (by simp), a, b, c, d, f, zset_eq H⟩
theorem iP.p13 (H : iP h fa st ac sz tr) (x : Int32) : ∃ e, zP h 241 8 13 (.int x) = some (h.set 241 e) ∧ iP (h.set 241 e) x st ac sz tr := by
  obtain ⟨a, b, c, d, f, H⟩ := H
  exact ⟨_, zP_of H (by simp), a, b, c, d, f, zset_eq H⟩
theorem iP.p15 (H : iP h fa st ac sz tr) (x : Int32) : ∃ e, zP h 241 8 15 (.int x) = some (h.set 241 e) ∧ iP (h.set 241 e) fa st ac sz x := by
  obtain ⟨a, b, c, d, f, H⟩ := H
  exact ⟨_, zP_of H (by simp), a, b, c, d, f, zset_eq H⟩
end IFLD
/-! numbers from without: below naught, or a natural number -/
theorem zcase (x : Int32) : (x < 0) ∨ ∃ k, k < 2147483648 ∧ x = nI k := by
  by_cases h : x < 0
  · exact Or.inl h
  · exact Or.inr (nI_of h)
theorem zi2l (a b : Int32) : (Int32.toInt64 a < Int32.toInt64 b) ↔ a < b := by
  rw [Int64.lt_iff_toInt_lt, Int32.toInt_toInt64, Int32.toInt_toInt64, Int32.lt_iff_toInt_lt]
theorem r_in {h : zH} (a b c : Int32) : f_X8_in (Int32.toInt64 a) (Int32.toInt64 b) (Int32.toInt64 c) h = some (zb (b ≤ a ∧ a ≤ c)) := by
  unfold f_X8_in
  by_cases h1 : a < b
  · rw [if_pos (by rw [lg_cmp_lt]; exact (zi2l a b).mpr h1), zb_f (fun q => Int32.not_lt.mpr q.1 h1)]; rfl
  · rw [if_neg (by rw [lg_cmp_lt]; exact fun q => h1 ((zi2l a b).mp q))]
    by_cases h2 : c < a
    · rw [if_pos (by rw [lg_cmp_gt]; exact (zi2l c a).mpr h2), zb_f (fun q => Int32.not_lt.mpr q.2 h2)]; rfl
    · rw [if_neg (by rw [lg_cmp_gt]; exact fun q => h2 ((zi2l c a).mp q)), zb_t ⟨Int32.not_lt.mp h1, Int32.not_lt.mp h2⟩]; rfl
theorem r_isTwo {h : zH} (a : Int32) : f_X8_isTwo a h = some (zb (a = 0 ∨ a = 1)) := by
  unfold f_X8_isTwo
  rw [show (0 : Int64) = Int32.toInt64 0 from rfl, show (1 : Int64) = Int32.toInt64 1 from rfl, r_in, Option.bind_some, zb_B]
  congr 1
  apply zb_c
  rw [Int32.le_iff_toInt_le, Int32.le_iff_toInt_le, ← Int32.toInt_inj, ← Int32.toInt_inj]
  have e0 : (0 : Int32).toInt = 0 := rfl
  have e1 : (1 : Int32).toInt = 1 := rfl
  omega
theorem c_isTwo {h : zH} (a : Int32) : f_X7_isOneOfTwo a h = some (zb (a = 0 ∨ a = 1)) := by
  unfold f_X7_isOneOfTwo f_X7_isOneOfTwo_b9
  by_cases h0 : a = 0
  · rw [if_pos h0, zb_t (Or.inl h0)]; rfl
  · rw [if_neg h0]
    by_cases h1 : a = 1
    · rw [if_pos h1, zb_t (Or.inr h1)]; rfl
    · rw [if_neg h1, zb_f (fun q => q.elim h0 h1)]; rfl
theorem r_isSpan {h : zH} (a : Int32) : f_X8_isSpan a h = some (zb (0 ≤ a ∧ a ≤ 60)) := by
  unfold f_X8_isSpan
  rw [show (0 : Int64) = Int32.toInt64 0 from rfl, show (60 : Int64) = Int32.toInt64 60 from rfl, r_in, Option.bind_some, zb_B]
theorem c_isSpan {h : zH} (a : Int32) : f_X7_isForetold a h = some (zb (0 ≤ a ∧ a ≤ 60)) := by
  unfold f_X7_isForetold
  by_cases h1 : a < 0
  · rw [if_pos h1, zb_f (fun q => Int32.not_lt.mpr q.1 h1)]; rfl
  · rw [if_neg h1]
    by_cases h2 : 60 < a
    · rw [if_pos h2, zb_f (fun q => Int32.not_lt.mpr q.2 h2)]; rfl
    · rw [if_neg h2, zb_t ⟨Int32.not_lt.mp h1, Int32.not_lt.mp h2⟩]; rfl
/-- a truth about numbers, of which the one is below naught or within -/
theorem zspan {a : Int32} (h : 0 ≤ a ∧ a ≤ 60) : ∃ d, d ≤ 60 ∧ a = nI d := by
  rcases zcase a with h1 | ⟨k, hk, rfl⟩
  · exact absurd h1 (Int32.not_lt.mpr h.1)
  · exact ⟨k, (nI_leI (by omega) (by omega)).mp h.2, rfl⟩
section ITHING
variable {h : zH} {fa st ac sz tr th dg : Int32} {m : Nat → Nat}
theorem zthing {a : Int32} {N : Nat} (hN : N < 2147483648) : (¬ a < 0 ∧ ¬ nI N ≤ a) ↔ ∃ t, t < N ∧ a = nI t := by
  constructor
  · intro q
    rcases zcase a with h1 | ⟨k, hk, rfl⟩
    · exact absurd h1 q.1
    · exact ⟨k, Nat.lt_of_not_le (fun z => q.2 ((nI_leI hN hk).mpr z)), rfl⟩
  · rintro ⟨t, ht, rfl⟩
    exact ⟨Int32.not_lt.mpr (nI_pos' (by omega)), fun z => absurd ((nI_leI hN (by omega)).mp z) (by omega)⟩
theorem zpred {a : Int32} {N : Nat} (hN : N < 1000000) : (0 ≤ a ∧ a ≤ nI N - 1) ↔ (¬ a < 0 ∧ ¬ nI N ≤ a) := by
  have e : (nI N - 1).toInt = (N : Int) - 1 := by
    rcases Nat.eq_zero_or_pos N with h0 | h0
    · subst h0; rfl
    · rw [z1, pk_sub (by omega), nI_toInt (by omega)]; omega
  rw [Int32.le_iff_toInt_le, Int32.le_iff_toInt_le, Int32.lt_iff_toInt_lt, Int32.le_iff_toInt_le, e, nI_toInt (by omega)]
  have e0 : (0 : Int32).toInt = 0 := rfl
  omega
theorem c_isThing (O : iO h fa st) (H : zMi h 15 th dg m) (v : vM m) (a : Int32) : f_X7_isThing 0 a h = some (zb (∃ t, t < m 0 ∧ a = nI t)) := by
  have h5 := v.1
  unfold f_X7_isThing
  have key := zthing (a := a) (N := m 0) (by omega)
  by_cases h1 : a < 0
  · rw [if_pos h1, zb_f (fun q => (key.mpr q).1 h1)]; rfl
  · rw [if_neg h1, O.r2, Option.bind_some, H.f1, Option.bind_some]
    by_cases h2 : nI (m 0) ≤ a
    · rw [if_pos h2, zb_f (fun q => (key.mpr q).2 h2)]; rfl
    · rw [if_neg h2, zb_t (key.mp ⟨h1, h2⟩)]; rfl
theorem r_isThing (O : iP h fa st ac sz tr) (H : zMo h 245 dg m) (v : vM m) (a : Int32) : f_X8_isThing 241 a h = some (zb (∃ t, t < m 0 ∧ a = nI t)) := by
  have h5 := v.1
  unfold f_X8_isThing
  rw [O.r4, Option.bind_some, H.f0, Option.bind_some, show (0 : Int64) = Int32.toInt64 0 from rfl, r_in, Option.bind_some, zb_B]
  congr 1
  apply zb_c
  rw [zpred (by omega)]
  exact zthing (by omega)
theorem r_isMine (O : iP h fa st ac sz tr) (H : zMo h 245 dg m) (v : vM m) : f_X8_isMine 241 h = some (zb (0 < m 2)) := by
  have h6 := v.2.2.1
  unfold f_X8_isMine
  rw [O.r4, Option.bind_some, H.f2, Option.bind_some]
  by_cases h1 : 0 < m 2
  · rw [if_neg (nI_nle h1 (by omega)), zb_t h1]; rfl
  · rw [if_pos (by rw [show m 2 = 0 by omega]; decide), zb_f h1]; rfl
end ITHING
