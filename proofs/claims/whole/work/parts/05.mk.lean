/-! PURE: making; the script -/
def zMk (h : zH) (e : zE) : Option (Nat × zH) := some (h.length, h ++ [e])
/-- new int[N][K] -/
def zMM (h : zH) (N K : Nat) : Option (Nat × zH) := some (h.length, h ++ ((.inl (3, N, .inr (fun i => if i < N then some (h.length + 1 + i) else none)) : zE) :: List.replicate N (.inl (0, K, .inl (fun _ => 0)))))
/-! the law's script -/
def zSc (xs : Nat → Int32) (L : Nat) (i : Int32) : Option Int32 := if i < 0 ∨ L ≤ i.toNatClampNeg then none else some (xs i.toNatClampNeg)
