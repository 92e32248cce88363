/-! A RESOURCE'S BYTES: one list for both sides -/
/-- c bytes of a number, the highest first -/
def nB (x : Int64) : Nat → List Int32
  | 0 => []
  | c + 1 => lb x c :: nB x c
def kB (k : Nat) (hi lo : Int64) (m : Nat) : List Int32 := if k = 1 ∨ k = 2 then nB lo 1 else if k = 3 ∨ k = 5 ∨ k = 10 then nB lo 8 else if k = 4 then nB hi 8 ++ nB lo 8 else if k = 7 then nB (lN m) 2 else []
def fB (Q : Hp) (i : Nat) : List Int32 := kB (Q i).1 (Q i).2.1 (Q i).2.2.1 (kds Q i).length
def gB (e : Ent) : List Int32 := kB e.1 e.2.1 e.2.2.1 e.2.2.2.1
theorem ResR.bytes {E : Ev} (hA : EvA E) {Q : Hp} {sz k : Nat} {En : List Ent} (h : ResR E E.1 Q sz k En) (hp : Pre Q 48 0 sz) : rL (fB Q) sz 0 = En.flatMap gB := by
  obtain ⟨d, tq, h1, h2, h3, h4, h5, h6, h7⟩ := h
  obtain ⟨Hx, hx⟩ := enc_ex d 0 En h1
  obtain ⟨M, m0, hM⟩ := h7 Hx 0 hx
  refine res_fold (f := fB Q) (g := gB) hA h5 (fun p j a b c => (hM p j a b c).2.2) ?_ ?_ d 0 En hx 48 0 sz hp (Nat.le_refl _) (by omega) m0
  · intro i e hi n256 n11 e1 e2 e3
    unfold fB gB
    rw [e1, e3]
    by_cases q : inn e.1
    · have q' : (Q i).1 = 6 ∨ (Q i).1 = 7 := by rw [← e1]; exact q
      unfold kB
      rcases q' with w | w
      · rw [w]; rfl
      · rw [w]; rfl
    · rw [(e2 q).1, (e2 q).2]
  · intro i e hi t256 kd t11 e1 e2
    have lt := (h5 i (by omega)).2.1
    have lt1 := (h5 (i + 1) hi).2.1
    rw [t256] at lt
    rw [t11] at lt1
    have a6 : (Q i).1 = 6 := by
      unfold LTm at lt
      rcases lt with v | v | v | v | v | v | v | v
      all_goals omega
    have a3 : (Q (i + 1)).1 = 3 := by
      unfold LTm at lt1
      rcases lt1 with v | v | v | v | v | v | v | v
      all_goals omega
    unfold fB gB
    rw [a6, a3, e1, e2]
    rfl
theorem nB_len (x : Int64) : ∀ c, (nB x c).length = c
  | 0 => rfl
  | c + 1 => by
    show (nB x c).length + 1 = c + 1
    rw [nB_len x c]
theorem kB_len {k : Nat} {hi lo : Int64} {m : Nat} : (kB k hi lo m).length ≤ 16 := by
  unfold kB
  split
  · rw [nB_len]; omega
  · split
    · rw [nB_len]; omega
    · split
      · rw [List.length_append, nB_len, nB_len]; omega
      · split
        · rw [nB_len]; omega
        · simp
theorem gB_len : ∀ En : List Ent, (En.flatMap gB).length ≤ 16 * En.length
  | [] => by simp
  | e :: En => by
    rw [List.flatMap_cons, List.length_append, List.length_cons]
    have := gB_len En
    have : (gB e).length ≤ 16 := kB_len
    omega
