/-! ints and longs against literals -/
theorem nIe {k : Nat} {x : Int32} (m : Nat) (hx : x = nI m) (hk : k < 2 ^ 31) (hm : m < 2 ^ 31) : nI k = x ↔ k = m := by subst hx; exact nI_eq hk hm
theorem nIge {k : Nat} {x : Int32} (m : Nat) (hx : x = nI m) (hk : k < 2 ^ 31) (hm : m < 2 ^ 31) : x ≤ nI k ↔ m ≤ k := by subst hx; exact nI_leI hm hk
theorem nIle {k : Nat} {x : Int32} (m : Nat) (hx : x = nI m) (hk : k < 2 ^ 31) (hm : m < 2 ^ 31) : nI k ≤ x ↔ k ≤ m := by subst hx; exact nI_leI hk hm
theorem nIlt {k : Nat} {x : Int32} (m : Nat) (hx : x = nI m) (hk : k < 2 ^ 31) (hm : m < 2 ^ 31) : nI k < x ↔ k < m := by subst hx; exact nI_ltI hk hm
theorem nIgt {k : Nat} {x : Int32} (m : Nat) (hx : x = nI m) (hk : k < 2 ^ 31) (hm : m < 2 ^ 31) : x < nI k ↔ m < k := by subst hx; exact nI_ltI hm hk
theorem lNe {k : Nat} {x : Int64} (m : Nat) (hx : x = lN m) (hk : k < 2 ^ 63) (hm : m < 2 ^ 63) : lN k = x ↔ k = m := by subst hx; exact pk_lEQ hk hm
theorem lNge {k : Nat} {x : Int64} (m : Nat) (hx : x = lN m) (hk : k < 2 ^ 63) (hm : m < 2 ^ 63) : x ≤ lN k ↔ m ≤ k := by subst hx; exact pk_lLE hm hk
theorem lNle {k : Nat} {x : Int64} (m : Nat) (hx : x = lN m) (hk : k < 2 ^ 63) (hm : m < 2 ^ 63) : lN k ≤ x ↔ k ≤ m := by subst hx; exact pk_lLE hk hm
theorem lNlt {k : Nat} {x : Int64} (m : Nat) (hx : x = lN m) (hk : k < 2 ^ 63) (hm : m < 2 ^ 63) : lN k < x ↔ k < m := by subst hx; exact pk_lLT hk hm
theorem lNgt {k : Nat} {x : Int64} (m : Nat) (hx : x = lN m) (hk : k < 2 ^ 63) (hm : m < 2 ^ 63) : x < lN k ↔ m < k := by subst hx; exact pk_lLT hm hk
